theorem dX11_slot_71 : decode cX11_slot 71 = .ok (.iaload, 1) := by decide +kernel
theorem dX11_slot_72 : decode cX11_slot 72 = .ok (.goto 9, 3) := by decide +kernel
theorem dX11_slot_75 : decode cX11_slot 75 = .ok (.aload_n 0, 1) := by decide +kernel
theorem dX11_slot_76 : decode cX11_slot 76 = .ok (.getfield 19, 3) := by decide +kernel
theorem dX11_slot_79 : decode cX11_slot 79 = .ok (.iload_n 3, 1) := by decide +kernel
theorem dX11_slot_80 : decode cX11_slot 80 = .ok (.iaload, 1) := by decide +kernel
theorem dX11_slot_81 : decode cX11_slot 81 = .ok (.ireturn, 1) := by decide +kernel
theorem dX11_item_0 : decode cX11_item 0 = .ok (.iload_n 1, 1) := by decide +kernel
theorem dX11_item_1 : decode cX11_item 1 = .ok (.invokestatic 124, 3) := by decide +kernel
theorem dX11_item_4 : decode cX11_item 4 = .ok (.ifCond .eq 37, 3) := by decide +kernel
theorem dX11_item_7 : decode cX11_item 7 = .ok (.aload_n 0, 1) := by decide +kernel
theorem dX11_item_8 : decode cX11_item 8 = .ok (.getfield 26, 3) := by decide +kernel
theorem dX11_item_11 : decode cX11_item 11 = .ok (.iload_n 1, 1) := by decide +kernel
theorem dX11_item_12 : decode cX11_item 12 = .ok (.iaload, 1) := by decide +kernel
theorem dX11_item_13 : decode cX11_item 13 = .ok (.ifCond .eq 28, 3) := by decide +kernel
theorem dX11_item_16 : decode cX11_item 16 = .ok (.iload_n 2, 1) := by decide +kernel
theorem dX11_item_17 : decode cX11_item 17 = .ok (.iconst 0, 1) := by decide +kernel
theorem dX11_item_18 : decode cX11_item 18 = .ok (.aload_n 0, 1) := by decide +kernel
theorem dX11_item_19 : decode cX11_item 19 = .ok (.getfield 16, 3) := by decide +kernel
theorem dX11_item_22 : decode cX11_item 22 = .ok (.aload_n 0, 1) := by decide +kernel
theorem dX11_item_23 : decode cX11_item 23 = .ok (.getfield 26, 3) := by decide +kernel
theorem dX11_item_26 : decode cX11_item 26 = .ok (.iload_n 1, 1) := by decide +kernel
theorem dX11_item_27 : decode cX11_item 27 = .ok (.iaload, 1) := by decide +kernel
theorem dX11_item_28 : decode cX11_item 28 = .ok (.iaload, 1) := by decide +kernel
theorem dX11_item_29 : decode cX11_item 29 = .ok (.iconst 1, 1) := by decide +kernel
theorem dX11_item_30 : decode cX11_item 30 = .ok (.isub, 1) := by decide +kernel
theorem dX11_item_31 : decode cX11_item 31 = .ok (.invokestatic 103, 3) := by decide +kernel
theorem dX11_item_34 : decode cX11_item 34 = .ok (.ifCond .eq 7, 3) := by decide +kernel
theorem dX11_item_37 : decode cX11_item 37 = .ok (.iconst 1, 1) := by decide +kernel
theorem dX11_item_38 : decode cX11_item 38 = .ok (.goto 4, 3) := by decide +kernel
theorem dX11_item_41 : decode cX11_item 41 = .ok (.iconst 0, 1) := by decide +kernel
theorem dX11_item_42 : decode cX11_item 42 = .ok (.istore_n 3, 1) := by decide +kernel
theorem dX11_item_43 : decode cX11_item 43 = .ok (.iload_n 3, 1) := by decide +kernel
theorem dX11_item_44 : decode cX11_item 44 = .ok (.ifCond .eq 24, 3) := by decide +kernel
theorem dX11_item_47 : decode cX11_item 47 = .ok (.aload_n 0, 1) := by decide +kernel
theorem dX11_item_48 : decode cX11_item 48 = .ok (.getfield 22, 3) := by decide +kernel
theorem dX11_item_51 : decode cX11_item 51 = .ok (.aload_n 0, 1) := by decide +kernel
theorem dX11_item_52 : decode cX11_item 52 = .ok (.getfield 13, 3) := by decide +kernel
theorem dX11_item_55 : decode cX11_item 55 = .ok (.aload_n 0, 1) := by decide +kernel
theorem dX11_item_56 : decode cX11_item 56 = .ok (.getfield 26, 3) := by decide +kernel
theorem dX11_item_59 : decode cX11_item 59 = .ok (.iload_n 1, 1) := by decide +kernel
theorem dX11_item_60 : decode cX11_item 60 = .ok (.iaload, 1) := by decide +kernel
theorem dX11_item_61 : decode cX11_item 61 = .ok (.iaload, 1) := by decide +kernel
theorem dX11_item_62 : decode cX11_item 62 = .ok (.iload_n 2, 1) := by decide +kernel
theorem dX11_item_63 : decode cX11_item 63 = .ok (.iadd, 1) := by decide +kernel
theorem dX11_item_64 : decode cX11_item 64 = .ok (.laload, 1) := by decide +kernel
theorem dX11_item_65 : decode cX11_item 65 = .ok (.goto 4, 3) := by decide +kernel
theorem dX11_item_68 : decode cX11_item 68 = .ok (.lconst 0, 1) := by decide +kernel
theorem dX11_item_69 : decode cX11_item 69 = .ok (.lreturn, 1) := by decide +kernel
theorem dX11_register_0 : decode cX11_register 0 = .ok (.iload_n 1, 1) := by decide +kernel
theorem dX11_register_1 : decode cX11_register 1 = .ok (.invokestatic 128, 3) := by decide +kernel
theorem dX11_register_4 : decode cX11_register 4 = .ok (.ifCond .eq 12, 3) := by decide +kernel
theorem dX11_register_7 : decode cX11_register 7 = .ok (.aload_n 0, 1) := by decide +kernel
theorem dX11_register_8 : decode cX11_register 8 = .ok (.getfield 29, 3) := by decide +kernel
theorem dX11_register_11 : decode cX11_register 11 = .ok (.iload_n 1, 1) := by decide +kernel
theorem dX11_register_12 : decode cX11_register 12 = .ok (.laload, 1) := by decide +kernel
theorem dX11_register_13 : decode cX11_register 13 = .ok (.goto 4, 3) := by decide +kernel
theorem dX11_register_16 : decode cX11_register 16 = .ok (.lconst 0, 1) := by decide +kernel
theorem dX11_register_17 : decode cX11_register 17 = .ok (.lreturn, 1) := by decide +kernel
theorem dX11_plainTwins_0 : decode cX11_plainTwins 0 = .ok (.aload_n 0, 1) := by decide +kernel
theorem dX11_plainTwins_1 : decode cX11_plainTwins 1 = .ok (.getfield 7, 3) := by decide +kernel
theorem dX11_plainTwins_4 : decode cX11_plainTwins 4 = .ok (.iload_n 1, 1) := by decide +kernel
theorem dX11_plainTwins_5 : decode cX11_plainTwins 5 = .ok (.iaload, 1) := by decide +kernel
theorem dX11_plainTwins_6 : decode cX11_plainTwins 6 = .ok (.aload_n 0, 1) := by decide +kernel
theorem dX11_plainTwins_7 : decode cX11_plainTwins 7 = .ok (.getfield 7, 3) := by decide +kernel
theorem dX11_plainTwins_10 : decode cX11_plainTwins 10 = .ok (.iload_n 2, 1) := by decide +kernel
theorem dX11_plainTwins_11 : decode cX11_plainTwins 11 = .ok (.iaload, 1) := by decide +kernel
theorem dX11_plainTwins_12 : decode cX11_plainTwins 12 = .ok (.if_icmp .ne 37, 3) := by decide +kernel
theorem dX11_plainTwins_15 : decode cX11_plainTwins 15 = .ok (.aload_n 0, 1) := by decide +kernel
theorem dX11_plainTwins_16 : decode cX11_plainTwins 16 = .ok (.getfield 16, 3) := by decide +kernel
theorem dX11_plainTwins_19 : decode cX11_plainTwins 19 = .ok (.iload_n 1, 1) := by decide +kernel
theorem dX11_plainTwins_20 : decode cX11_plainTwins 20 = .ok (.iaload, 1) := by decide +kernel
theorem dX11_plainTwins_21 : decode cX11_plainTwins 21 = .ok (.aload_n 0, 1) := by decide +kernel
theorem dX11_plainTwins_22 : decode cX11_plainTwins 22 = .ok (.getfield 16, 3) := by decide +kernel
theorem dX11_plainTwins_25 : decode cX11_plainTwins 25 = .ok (.iload_n 2, 1) := by decide +kernel
theorem dX11_plainTwins_26 : decode cX11_plainTwins 26 = .ok (.iaload, 1) := by decide +kernel
theorem dX11_plainTwins_27 : decode cX11_plainTwins 27 = .ok (.if_icmp .ne 22, 3) := by decide +kernel
theorem dX11_plainTwins_30 : decode cX11_plainTwins 30 = .ok (.aload_n 0, 1) := by decide +kernel
theorem dX11_plainTwins_31 : decode cX11_plainTwins 31 = .ok (.getfield 19, 3) := by decide +kernel
theorem dX11_plainTwins_34 : decode cX11_plainTwins 34 = .ok (.iload_n 1, 1) := by decide +kernel
theorem dX11_plainTwins_35 : decode cX11_plainTwins 35 = .ok (.iaload, 1) := by decide +kernel
theorem dX11_plainTwins_36 : decode cX11_plainTwins 36 = .ok (.aload_n 0, 1) := by decide +kernel
theorem dX11_plainTwins_37 : decode cX11_plainTwins 37 = .ok (.getfield 19, 3) := by decide +kernel
theorem dX11_plainTwins_40 : decode cX11_plainTwins 40 = .ok (.iload_n 2, 1) := by decide +kernel
theorem dX11_plainTwins_41 : decode cX11_plainTwins 41 = .ok (.iaload, 1) := by decide +kernel
theorem dX11_plainTwins_42 : decode cX11_plainTwins 42 = .ok (.if_icmp .ne 7, 3) := by decide +kernel
theorem dX11_plainTwins_45 : decode cX11_plainTwins 45 = .ok (.iconst 1, 1) := by decide +kernel
theorem dX11_plainTwins_46 : decode cX11_plainTwins 46 = .ok (.goto 4, 3) := by decide +kernel
theorem dX11_plainTwins_49 : decode cX11_plainTwins 49 = .ok (.iconst 0, 1) := by decide +kernel
theorem dX11_plainTwins_50 : decode cX11_plainTwins 50 = .ok (.istore_n 3, 1) := by decide +kernel
theorem dX11_plainTwins_51 : decode cX11_plainTwins 51 = .ok (.iconst 0, 1) := by decide +kernel
theorem dX11_plainTwins_52 : decode cX11_plainTwins 52 = .ok (.istore 4, 2) := by decide +kernel
theorem dX11_plainTwins_54 : decode cX11_plainTwins 54 = .ok (.iload_n 3, 1) := by decide +kernel
theorem dX11_plainTwins_55 : decode cX11_plainTwins 55 = .ok (.ifCond .eq 58, 3) := by decide +kernel
theorem dX11_plainTwins_58 : decode cX11_plainTwins 58 = .ok (.iload 4, 2) := by decide +kernel
theorem dX11_plainTwins_60 : decode cX11_plainTwins 60 = .ok (.aload_n 0, 1) := by decide +kernel
theorem dX11_plainTwins_61 : decode cX11_plainTwins 61 = .ok (.getfield 16, 3) := by decide +kernel
theorem dX11_plainTwins_64 : decode cX11_plainTwins 64 = .ok (.iload_n 1, 1) := by decide +kernel
theorem dX11_plainTwins_65 : decode cX11_plainTwins 65 = .ok (.iaload, 1) := by decide +kernel
theorem dX11_plainTwins_66 : decode cX11_plainTwins 66 = .ok (.if_icmp .ge 47, 3) := by decide +kernel
theorem dX11_plainTwins_69 : decode cX11_plainTwins 69 = .ok (.aload_n 0, 1) := by decide +kernel
theorem dX11_plainTwins_70 : decode cX11_plainTwins 70 = .ok (.getfield 22, 3) := by decide +kernel
theorem dX11_plainTwins_73 : decode cX11_plainTwins 73 = .ok (.aload_n 0, 1) := by decide +kernel
theorem dX11_plainTwins_74 : decode cX11_plainTwins 74 = .ok (.getfield 13, 3) := by decide +kernel
theorem dX11_plainTwins_77 : decode cX11_plainTwins 77 = .ok (.iload_n 1, 1) := by decide +kernel
theorem dX11_plainTwins_78 : decode cX11_plainTwins 78 = .ok (.iaload, 1) := by decide +kernel
theorem dX11_plainTwins_79 : decode cX11_plainTwins 79 = .ok (.iload 4, 2) := by decide +kernel
theorem dX11_plainTwins_81 : decode cX11_plainTwins 81 = .ok (.iadd, 1) := by decide +kernel
theorem dX11_plainTwins_82 : decode cX11_plainTwins 82 = .ok (.laload, 1) := by decide +kernel
theorem dX11_plainTwins_83 : decode cX11_plainTwins 83 = .ok (.aload_n 0, 1) := by decide +kernel
theorem dX11_plainTwins_84 : decode cX11_plainTwins 84 = .ok (.getfield 22, 3) := by decide +kernel
theorem dX11_plainTwins_87 : decode cX11_plainTwins 87 = .ok (.aload_n 0, 1) := by decide +kernel
theorem dX11_plainTwins_88 : decode cX11_plainTwins 88 = .ok (.getfield 13, 3) := by decide +kernel
theorem dX11_plainTwins_91 : decode cX11_plainTwins 91 = .ok (.iload_n 2, 1) := by decide +kernel
theorem dX11_plainTwins_92 : decode cX11_plainTwins 92 = .ok (.iaload, 1) := by decide +kernel
theorem dX11_plainTwins_93 : decode cX11_plainTwins 93 = .ok (.iload 4, 2) := by decide +kernel
theorem dX11_plainTwins_95 : decode cX11_plainTwins 95 = .ok (.iadd, 1) := by decide +kernel
theorem dX11_plainTwins_96 : decode cX11_plainTwins 96 = .ok (.laload, 1) := by decide +kernel
theorem dX11_plainTwins_97 : decode cX11_plainTwins 97 = .ok (.lcmp, 1) := by decide +kernel
theorem dX11_plainTwins_98 : decode cX11_plainTwins 98 = .ok (.ifCond .ne 7, 3) := by decide +kernel
theorem dX11_plainTwins_101 : decode cX11_plainTwins 101 = .ok (.iconst 1, 1) := by decide +kernel
theorem dX11_plainTwins_102 : decode cX11_plainTwins 102 = .ok (.goto 4, 3) := by decide +kernel
theorem dX11_plainTwins_105 : decode cX11_plainTwins 105 = .ok (.iconst 0, 1) := by decide +kernel
theorem dX11_plainTwins_106 : decode cX11_plainTwins 106 = .ok (.istore_n 3, 1) := by decide +kernel
theorem dX11_plainTwins_107 : decode cX11_plainTwins 107 = .ok (.iinc 4 1, 3) := by decide +kernel
theorem dX11_plainTwins_110 : decode cX11_plainTwins 110 = .ok (.goto (-56), 3) := by decide +kernel
theorem dX11_plainTwins_113 : decode cX11_plainTwins 113 = .ok (.iload_n 3, 1) := by decide +kernel
theorem dX11_plainTwins_114 : decode cX11_plainTwins 114 = .ok (.ireturn, 1) := by decide +kernel
theorem dX11_twins_0 : decode cX11_twins 0 = .ok (.aload_n 0, 1) := by decide +kernel
theorem dX11_twins_1 : decode cX11_twins 1 = .ok (.getfield 7, 3) := by decide +kernel
theorem dX11_twins_4 : decode cX11_twins 4 = .ok (.iload_n 1, 1) := by decide +kernel
theorem dX11_twins_5 : decode cX11_twins 5 = .ok (.iaload, 1) := by decide +kernel
theorem dX11_twins_6 : decode cX11_twins 6 = .ok (.iconst 5, 1) := by decide +kernel
theorem dX11_twins_7 : decode cX11_twins 7 = .ok (.if_icmp .ne 13, 3) := by decide +kernel
theorem dX11_twins_10 : decode cX11_twins 10 = .ok (.aload_n 0, 1) := by decide +kernel
theorem dX11_twins_11 : decode cX11_twins 11 = .ok (.getfield 7, 3) := by decide +kernel
theorem dX11_twins_14 : decode cX11_twins 14 = .ok (.iload_n 2, 1) := by decide +kernel
theorem dX11_twins_15 : decode cX11_twins 15 = .ok (.iaload, 1) := by decide +kernel
theorem dX11_twins_16 : decode cX11_twins 16 = .ok (.iconst 5, 1) := by decide +kernel
theorem dX11_twins_17 : decode cX11_twins 17 = .ok (.if_icmp .eq 10, 3) := by decide +kernel
theorem dX11_twins_20 : decode cX11_twins 20 = .ok (.aload_n 0, 1) := by decide +kernel
theorem dX11_twins_21 : decode cX11_twins 21 = .ok (.iload_n 1, 1) := by decide +kernel
theorem dX11_twins_22 : decode cX11_twins 22 = .ok (.iload_n 2, 1) := by decide +kernel
theorem dX11_twins_23 : decode cX11_twins 23 = .ok (.invokevirtual 266, 3) := by decide +kernel
theorem dX11_twins_26 : decode cX11_twins 26 = .ok (.ireturn, 1) := by decide +kernel
theorem dX11_twins_27 : decode cX11_twins 27 = .ok (.aload_n 0, 1) := by decide +kernel
theorem dX11_twins_28 : decode cX11_twins 28 = .ok (.getfield 16, 3) := by decide +kernel
theorem dX11_twins_31 : decode cX11_twins 31 = .ok (.iload_n 1, 1) := by decide +kernel
theorem dX11_twins_32 : decode cX11_twins 32 = .ok (.iaload, 1) := by decide +kernel
theorem dX11_twins_33 : decode cX11_twins 33 = .ok (.aload_n 0, 1) := by decide +kernel
theorem dX11_twins_34 : decode cX11_twins 34 = .ok (.getfield 16, 3) := by decide +kernel
theorem dX11_twins_37 : decode cX11_twins 37 = .ok (.iload_n 2, 1) := by decide +kernel
theorem dX11_twins_38 : decode cX11_twins 38 = .ok (.iaload, 1) := by decide +kernel
theorem dX11_twins_39 : decode cX11_twins 39 = .ok (.if_icmp .ne 7, 3) := by decide +kernel
theorem dX11_twins_42 : decode cX11_twins 42 = .ok (.iconst 1, 1) := by decide +kernel
theorem dX11_twins_43 : decode cX11_twins 43 = .ok (.goto 4, 3) := by decide +kernel
theorem dX11_twins_46 : decode cX11_twins 46 = .ok (.iconst 0, 1) := by decide +kernel
theorem dX11_twins_47 : decode cX11_twins 47 = .ok (.istore_n 3, 1) := by decide +kernel
theorem dX11_twins_48 : decode cX11_twins 48 = .ok (.iconst 0, 1) := by decide +kernel
theorem dX11_twins_49 : decode cX11_twins 49 = .ok (.istore 4, 2) := by decide +kernel
theorem dX11_twins_51 : decode cX11_twins 51 = .ok (.iload_n 3, 1) := by decide +kernel
theorem dX11_twins_52 : decode cX11_twins 52 = .ok (.ifCond .eq 88, 3) := by decide +kernel
theorem dX11_twins_55 : decode cX11_twins 55 = .ok (.iload 4, 2) := by decide +kernel
theorem dX11_twins_57 : decode cX11_twins 57 = .ok (.aload_n 0, 1) := by decide +kernel
theorem dX11_twins_58 : decode cX11_twins 58 = .ok (.getfield 16, 3) := by decide +kernel
theorem dX11_twins_61 : decode cX11_twins 61 = .ok (.iload_n 1, 1) := by decide +kernel
theorem dX11_twins_62 : decode cX11_twins 62 = .ok (.iaload, 1) := by decide +kernel
theorem dX11_twins_63 : decode cX11_twins 63 = .ok (.if_icmp .ge 77, 3) := by decide +kernel
theorem dX11_twins_66 : decode cX11_twins 66 = .ok (.aload_n 0, 1) := by decide +kernel
theorem dX11_twins_67 : decode cX11_twins 67 = .ok (.getfield 22, 3) := by decide +kernel
theorem dX11_twins_70 : decode cX11_twins 70 = .ok (.aload_n 0, 1) := by decide +kernel
theorem dX11_twins_71 : decode cX11_twins 71 = .ok (.getfield 13, 3) := by decide +kernel
theorem dX11_twins_74 : decode cX11_twins 74 = .ok (.iload_n 1, 1) := by decide +kernel
theorem dX11_twins_75 : decode cX11_twins 75 = .ok (.iaload, 1) := by decide +kernel
theorem dX11_twins_76 : decode cX11_twins 76 = .ok (.iload 4, 2) := by decide +kernel
theorem dX11_twins_78 : decode cX11_twins 78 = .ok (.iadd, 1) := by decide +kernel
theorem dX11_twins_79 : decode cX11_twins 79 = .ok (.laload, 1) := by decide +kernel
theorem dX11_twins_80 : decode cX11_twins 80 = .ok (.l2i, 1) := by decide +kernel
theorem dX11_twins_81 : decode cX11_twins 81 = .ok (.istore 5, 2) := by decide +kernel
theorem dX11_twins_83 : decode cX11_twins 83 = .ok (.aload_n 0, 1) := by decide +kernel
theorem dX11_twins_84 : decode cX11_twins 84 = .ok (.getfield 22, 3) := by decide +kernel
theorem dX11_twins_87 : decode cX11_twins 87 = .ok (.aload_n 0, 1) := by decide +kernel
theorem dX11_twins_88 : decode cX11_twins 88 = .ok (.getfield 13, 3) := by decide +kernel
theorem dX11_twins_91 : decode cX11_twins 91 = .ok (.iload_n 2, 1) := by decide +kernel
theorem dX11_twins_92 : decode cX11_twins 92 = .ok (.iaload, 1) := by decide +kernel
theorem dX11_twins_93 : decode cX11_twins 93 = .ok (.iload 4, 2) := by decide +kernel
theorem dX11_twins_95 : decode cX11_twins 95 = .ok (.iadd, 1) := by decide +kernel
theorem dX11_twins_96 : decode cX11_twins 96 = .ok (.laload, 1) := by decide +kernel
theorem dX11_twins_97 : decode cX11_twins 97 = .ok (.l2i, 1) := by decide +kernel
theorem dX11_twins_98 : decode cX11_twins 98 = .ok (.istore 6, 2) := by decide +kernel
theorem dX11_twins_100 : decode cX11_twins 100 = .ok (.iload 5, 2) := by decide +kernel
theorem dX11_twins_102 : decode cX11_twins 102 = .ok (.iload 6, 2) := by decide +kernel
theorem dX11_twins_104 : decode cX11_twins 104 = .ok (.if_icmp .eq 24, 3) := by decide +kernel
theorem dX11_twins_107 : decode cX11_twins 107 = .ok (.iload 5, 2) := by decide +kernel
theorem dX11_twins_109 : decode cX11_twins 109 = .ok (.ifCond .eq 23, 3) := by decide +kernel
theorem dX11_twins_112 : decode cX11_twins 112 = .ok (.iload 6, 2) := by decide +kernel
theorem dX11_twins_114 : decode cX11_twins 114 = .ok (.ifCond .eq 18, 3) := by decide +kernel
theorem dX11_twins_117 : decode cX11_twins 117 = .ok (.aload_n 0, 1) := by decide +kernel
theorem dX11_twins_118 : decode cX11_twins 118 = .ok (.iload 5, 2) := by decide +kernel
theorem dX11_twins_120 : decode cX11_twins 120 = .ok (.iload 6, 2) := by decide +kernel
theorem dX11_twins_122 : decode cX11_twins 122 = .ok (.invokevirtual 266, 3) := by decide +kernel
theorem dX11_twins_125 : decode cX11_twins 125 = .ok (.ifCond .eq 7, 3) := by decide +kernel
theorem dX11_twins_128 : decode cX11_twins 128 = .ok (.iconst 1, 1) := by decide +kernel
theorem dX11_twins_129 : decode cX11_twins 129 = .ok (.goto 4, 3) := by decide +kernel
theorem dX11_twins_132 : decode cX11_twins 132 = .ok (.iconst 0, 1) := by decide +kernel
theorem dX11_twins_133 : decode cX11_twins 133 = .ok (.istore_n 3, 1) := by decide +kernel
theorem dX11_twins_134 : decode cX11_twins 134 = .ok (.iinc 4 1, 3) := by decide +kernel
theorem dX11_twins_137 : decode cX11_twins 137 = .ok (.goto (-86), 3) := by decide +kernel
theorem dX11_twins_140 : decode cX11_twins 140 = .ok (.iload_n 3, 1) := by decide +kernel
theorem dX11_twins_141 : decode cX11_twins 141 = .ok (.ireturn, 1) := by decide +kernel
theorem dX11_alike_0 : decode cX11_alike 0 = .ok (.iload_n 1, 1) := by decide +kernel
theorem dX11_alike_1 : decode cX11_alike 1 = .ok (.invokestatic 124, 3) := by decide +kernel
theorem dX11_alike_4 : decode cX11_alike 4 = .ok (.ifCond .eq 10, 3) := by decide +kernel
theorem dX11_alike_7 : decode cX11_alike 7 = .ok (.iload_n 2, 1) := by decide +kernel
theorem dX11_alike_8 : decode cX11_alike 8 = .ok (.invokestatic 124, 3) := by decide +kernel
theorem dX11_alike_11 : decode cX11_alike 11 = .ok (.ifCond .ne 5, 3) := by decide +kernel
theorem dX11_alike_14 : decode cX11_alike 14 = .ok (.iconst (-1), 1) := by decide +kernel
theorem dX11_alike_15 : decode cX11_alike 15 = .ok (.ireturn, 1) := by decide +kernel
theorem dX11_alike_16 : decode cX11_alike 16 = .ok (.aload_n 0, 1) := by decide +kernel
theorem dX11_alike_17 : decode cX11_alike 17 = .ok (.getfield 26, 3) := by decide +kernel
theorem dX11_alike_20 : decode cX11_alike 20 = .ok (.iload_n 1, 1) := by decide +kernel
theorem dX11_alike_21 : decode cX11_alike 21 = .ok (.iaload, 1) := by decide +kernel
theorem dX11_alike_22 : decode cX11_alike 22 = .ok (.istore_n 3, 1) := by decide +kernel
theorem dX11_alike_23 : decode cX11_alike 23 = .ok (.aload_n 0, 1) := by decide +kernel
theorem dX11_alike_24 : decode cX11_alike 24 = .ok (.getfield 26, 3) := by decide +kernel
theorem dX11_alike_27 : decode cX11_alike 27 = .ok (.iload_n 2, 1) := by decide +kernel
theorem dX11_alike_28 : decode cX11_alike 28 = .ok (.iaload, 1) := by decide +kernel
theorem dX11_alike_29 : decode cX11_alike 29 = .ok (.istore 4, 2) := by decide +kernel
theorem dX11_alike_31 : decode cX11_alike 31 = .ok (.iload_n 3, 1) := by decide +kernel
theorem dX11_alike_32 : decode cX11_alike 32 = .ok (.iload 4, 2) := by decide +kernel
theorem dX11_alike_34 : decode cX11_alike 34 = .ok (.if_icmp .ne 7, 3) := by decide +kernel
theorem dX11_alike_37 : decode cX11_alike 37 = .ok (.iconst 1, 1) := by decide +kernel
theorem dX11_alike_38 : decode cX11_alike 38 = .ok (.goto 27, 3) := by decide +kernel
theorem dX11_alike_41 : decode cX11_alike 41 = .ok (.iload_n 3, 1) := by decide +kernel
theorem dX11_alike_42 : decode cX11_alike 42 = .ok (.ifCond .eq 22, 3) := by decide +kernel
theorem dX11_alike_45 : decode cX11_alike 45 = .ok (.iload 4, 2) := by decide +kernel
theorem dX11_alike_47 : decode cX11_alike 47 = .ok (.ifCond .eq 17, 3) := by decide +kernel
theorem dX11_alike_50 : decode cX11_alike 50 = .ok (.aload_n 0, 1) := by decide +kernel
theorem dX11_alike_51 : decode cX11_alike 51 = .ok (.iload_n 3, 1) := by decide +kernel
theorem dX11_alike_52 : decode cX11_alike 52 = .ok (.iload 4, 2) := by decide +kernel
theorem dX11_alike_54 : decode cX11_alike 54 = .ok (.invokevirtual 269, 3) := by decide +kernel
theorem dX11_alike_57 : decode cX11_alike 57 = .ok (.ifCond .eq 7, 3) := by decide +kernel
theorem dX11_alike_60 : decode cX11_alike 60 = .ok (.iconst 2, 1) := by decide +kernel
theorem dX11_alike_61 : decode cX11_alike 61 = .ok (.goto 4, 3) := by decide +kernel
theorem dX11_alike_64 : decode cX11_alike 64 = .ok (.iconst 0, 1) := by decide +kernel
theorem dX11_alike_65 : decode cX11_alike 65 = .ok (.ireturn, 1) := by decide +kernel
theorem dX11_startOf_0 : decode cX11_startOf 0 = .ok (.aload_n 0, 1) := by decide +kernel
theorem dX11_startOf_1 : decode cX11_startOf 1 = .ok (.getfield 72, 3) := by decide +kernel
theorem dX11_startOf_4 : decode cX11_startOf 4 = .ok (.iload_n 1, 1) := by decide +kernel
theorem dX11_startOf_5 : decode cX11_startOf 5 = .ok (.baload, 1) := by decide +kernel
theorem dX11_startOf_6 : decode cX11_startOf 6 = .ok (.ifCond .eq 12, 3) := by decide +kernel
theorem dX11_startOf_9 : decode cX11_startOf 9 = .ok (.aload_n 0, 1) := by decide +kernel
theorem dX11_startOf_10 : decode cX11_startOf 10 = .ok (.getfield 69, 3) := by decide +kernel
theorem dX11_startOf_13 : decode cX11_startOf 13 = .ok (.iload_n 1, 1) := by decide +kernel
theorem dX11_startOf_14 : decode cX11_startOf 14 = .ok (.iaload, 1) := by decide +kernel
theorem dX11_startOf_15 : decode cX11_startOf 15 = .ok (.goto 4, 3) := by decide +kernel
theorem dX11_startOf_18 : decode cX11_startOf 18 = .ok (.iconst 1, 1) := by decide +kernel
theorem dX11_startOf_19 : decode cX11_startOf 19 = .ok (.ireturn, 1) := by decide +kernel
theorem dX11_given_0 : decode cX11_given 0 = .ok (.iload_n 1, 1) := by decide +kernel
theorem dX11_given_1 : decode cX11_given 1 = .ok (.invokestatic 124, 3) := by decide +kernel
theorem dX11_given_4 : decode cX11_given 4 = .ok (.ifCond .eq 15, 3) := by decide +kernel
theorem dX11_given_7 : decode cX11_given 7 = .ok (.iload_n 2, 1) := by decide +kernel
theorem dX11_given_8 : decode cX11_given 8 = .ok (.iconst 1, 1) := by decide +kernel
theorem dX11_given_9 : decode cX11_given 9 = .ok (.if_icmp .lt 10, 3) := by decide +kernel
theorem dX11_given_12 : decode cX11_given 12 = .ok (.iload_n 2, 1) := by decide +kernel
theorem dX11_given_13 : decode cX11_given 13 = .ok (.sipush 1023, 3) := by decide +kernel
theorem dX11_given_16 : decode cX11_given 16 = .ok (.if_icmp .le 5, 3) := by decide +kernel
theorem dX11_given_19 : decode cX11_given 19 = .ok (.iconst (-1), 1) := by decide +kernel
theorem dX11_given_20 : decode cX11_given 20 = .ok (.ireturn, 1) := by decide +kernel
theorem dX11_given_21 : decode cX11_given 21 = .ok (.aload_n 0, 1) := by decide +kernel
theorem dX11_given_22 : decode cX11_given 22 = .ok (.iload_n 1, 1) := by decide +kernel
theorem dX11_given_23 : decode cX11_given 23 = .ok (.invokevirtual 272, 3) := by decide +kernel
theorem dX11_given_26 : decode cX11_given 26 = .ok (.istore_n 3, 1) := by decide +kernel
theorem dX11_given_27 : decode cX11_given 27 = .ok (.aload_n 0, 1) := by decide +kernel
theorem dX11_given_28 : decode cX11_given 28 = .ok (.getfield 69, 3) := by decide +kernel
theorem dX11_given_31 : decode cX11_given 31 = .ok (.iload_n 1, 1) := by decide +kernel
theorem dX11_given_32 : decode cX11_given 32 = .ok (.iload_n 2, 1) := by decide +kernel
theorem dX11_given_33 : decode cX11_given 33 = .ok (.iastore, 1) := by decide +kernel
theorem dX11_given_34 : decode cX11_given 34 = .ok (.aload_n 0, 1) := by decide +kernel
theorem dX11_given_35 : decode cX11_given 35 = .ok (.getfield 72, 3) := by decide +kernel
theorem dX11_given_38 : decode cX11_given 38 = .ok (.iload_n 1, 1) := by decide +kernel
theorem dX11_given_39 : decode cX11_given 39 = .ok (.iconst 1, 1) := by decide +kernel
theorem dX11_given_40 : decode cX11_given 40 = .ok (.bastore, 1) := by decide +kernel
theorem dX11_given_41 : decode cX11_given 41 = .ok (.iload_n 3, 1) := by decide +kernel
theorem dX11_given_42 : decode cX11_given 42 = .ok (.ireturn, 1) := by decide +kernel
theorem dX11_join_0 : decode cX11_join 0 = .ok (.iconst 0, 1) := by decide +kernel
theorem dX11_join_1 : decode cX11_join 1 = .ok (.istore 4, 2) := by decide +kernel
theorem dX11_join_3 : decode cX11_join 3 = .ok (.iload 4, 2) := by decide +kernel
theorem dX11_join_5 : decode cX11_join 5 = .ok (.bipush 12, 2) := by decide +kernel
theorem dX11_join_7 : decode cX11_join 7 = .ok (.if_icmp .ge 24, 3) := by decide +kernel
theorem dX11_join_10 : decode cX11_join 10 = .ok (.aload_n 2, 1) := by decide +kernel
theorem dX11_join_11 : decode cX11_join 11 = .ok (.iload_n 3, 1) := by decide +kernel
theorem dX11_join_12 : decode cX11_join 12 = .ok (.iload 4, 2) := by decide +kernel
theorem dX11_join_14 : decode cX11_join 14 = .ok (.iadd, 1) := by decide +kernel
theorem dX11_join_15 : decode cX11_join 15 = .ok (.dup2, 1) := by decide +kernel
theorem dX11_join_16 : decode cX11_join 16 = .ok (.iaload, 1) := by decide +kernel
theorem dX11_join_17 : decode cX11_join 17 = .ok (.aload_n 0, 1) := by decide +kernel
theorem dX11_join_18 : decode cX11_join 18 = .ok (.iload_n 1, 1) := by decide +kernel
theorem dX11_join_19 : decode cX11_join 19 = .ok (.iload 4, 2) := by decide +kernel
theorem dX11_join_21 : decode cX11_join 21 = .ok (.iadd, 1) := by decide +kernel
theorem dX11_join_22 : decode cX11_join 22 = .ok (.iaload, 1) := by decide +kernel
theorem dX11_join_23 : decode cX11_join 23 = .ok (.ior, 1) := by decide +kernel
theorem dX11_join_24 : decode cX11_join 24 = .ok (.iastore, 1) := by decide +kernel
theorem dX11_join_25 : decode cX11_join 25 = .ok (.iinc 4 1, 3) := by decide +kernel
theorem dX11_join_28 : decode cX11_join 28 = .ok (.goto (-25), 3) := by decide +kernel
theorem dX11_join_31 : decode cX11_join 31 = .ok (.return_, 1) := by decide +kernel
theorem dX11_lay__0 : decode cX11_lay_ 0 = .ok (.iconst 0, 1) := by decide +kernel
theorem dX11_lay__1 : decode cX11_lay_ 1 = .ok (.istore 4, 2) := by decide +kernel
theorem dX11_lay__3 : decode cX11_lay_ 3 = .ok (.iload 4, 2) := by decide +kernel
theorem dX11_lay__5 : decode cX11_lay_ 5 = .ok (.bipush 12, 2) := by decide +kernel
theorem dX11_lay__7 : decode cX11_lay_ 7 = .ok (.if_icmp .ge 21, 3) := by decide +kernel
theorem dX11_lay__10 : decode cX11_lay_ 10 = .ok (.aload_n 2, 1) := by decide +kernel
theorem dX11_lay__11 : decode cX11_lay_ 11 = .ok (.iload_n 3, 1) := by decide +kernel
theorem dX11_lay__12 : decode cX11_lay_ 12 = .ok (.iload 4, 2) := by decide +kernel
theorem dX11_lay__14 : decode cX11_lay_ 14 = .ok (.iadd, 1) := by decide +kernel
theorem dX11_lay__15 : decode cX11_lay_ 15 = .ok (.aload_n 0, 1) := by decide +kernel
theorem dX11_lay__16 : decode cX11_lay_ 16 = .ok (.iload_n 1, 1) := by decide +kernel
theorem dX11_lay__17 : decode cX11_lay_ 17 = .ok (.iload 4, 2) := by decide +kernel
theorem dX11_lay__19 : decode cX11_lay_ 19 = .ok (.iadd, 1) := by decide +kernel
theorem dX11_lay__20 : decode cX11_lay_ 20 = .ok (.iaload, 1) := by decide +kernel
theorem dX11_lay__21 : decode cX11_lay_ 21 = .ok (.iastore, 1) := by decide +kernel
theorem dX11_lay__22 : decode cX11_lay_ 22 = .ok (.iinc 4 1, 3) := by decide +kernel
theorem dX11_lay__25 : decode cX11_lay_ 25 = .ok (.goto (-22), 3) := by decide +kernel
theorem dX11_lay__28 : decode cX11_lay_ 28 = .ok (.return_, 1) := by decide +kernel
theorem dX11_wipe_0 : decode cX11_wipe 0 = .ok (.iload_n 1, 1) := by decide +kernel
theorem dX11_wipe_1 : decode cX11_wipe 1 = .ok (.istore_n 3, 1) := by decide +kernel
theorem dX11_wipe_2 : decode cX11_wipe 2 = .ok (.iload_n 3, 1) := by decide +kernel
theorem dX11_wipe_3 : decode cX11_wipe 3 = .ok (.iload_n 1, 1) := by decide +kernel
theorem dX11_wipe_4 : decode cX11_wipe 4 = .ok (.iload_n 2, 1) := by decide +kernel
theorem dX11_wipe_5 : decode cX11_wipe 5 = .ok (.iadd, 1) := by decide +kernel
theorem dX11_wipe_6 : decode cX11_wipe 6 = .ok (.if_icmp .ge 13, 3) := by decide +kernel
theorem dX11_wipe_9 : decode cX11_wipe 9 = .ok (.aload_n 0, 1) := by decide +kernel
theorem dX11_wipe_10 : decode cX11_wipe 10 = .ok (.iload_n 3, 1) := by decide +kernel
theorem dX11_wipe_11 : decode cX11_wipe 11 = .ok (.iconst 0, 1) := by decide +kernel
theorem dX11_wipe_12 : decode cX11_wipe 12 = .ok (.iastore, 1) := by decide +kernel
theorem dX11_wipe_13 : decode cX11_wipe 13 = .ok (.iinc 3 1, 3) := by decide +kernel
theorem dX11_wipe_16 : decode cX11_wipe 16 = .ok (.goto (-14), 3) := by decide +kernel
theorem dX11_wipe_19 : decode cX11_wipe 19 = .ok (.return_, 1) := by decide +kernel
theorem dX11_mayFail_0 : decode cX11_mayFail 0 = .ok (.iload_n 3, 1) := by decide +kernel
theorem dX11_mayFail_1 : decode cX11_mayFail 1 = .ok (.ifCond .ge 7, 3) := by decide +kernel
theorem dX11_mayFail_4 : decode cX11_mayFail 4 = .ok (.iconst 0, 1) := by decide +kernel
theorem dX11_mayFail_5 : decode cX11_mayFail 5 = .ok (.goto 9, 3) := by decide +kernel
theorem dX11_mayFail_8 : decode cX11_mayFail 8 = .ok (.aload_n 0, 1) := by decide +kernel
theorem dX11_mayFail_9 : decode cX11_mayFail 9 = .ok (.getfield 100, 3) := by decide +kernel
theorem dX11_mayFail_12 : decode cX11_mayFail 12 = .ok (.iload_n 3, 1) := by decide +kernel
theorem dX11_mayFail_13 : decode cX11_mayFail 13 = .ok (.iaload, 1) := by decide +kernel
theorem dX11_mayFail_14 : decode cX11_mayFail 14 = .ok (.istore 5, 2) := by decide +kernel
theorem dX11_mayFail_16 : decode cX11_mayFail 16 = .ok (.iload_n 3, 1) := by decide +kernel
theorem dX11_mayFail_17 : decode cX11_mayFail 17 = .ok (.ifCond .lt 11, 3) := by decide +kernel
theorem dX11_mayFail_20 : decode cX11_mayFail 20 = .ok (.aload_n 0, 1) := by decide +kernel
theorem dX11_mayFail_21 : decode cX11_mayFail 21 = .ok (.getfield 100, 3) := by decide +kernel
theorem dX11_mayFail_24 : decode cX11_mayFail 24 = .ok (.iload_n 3, 1) := by decide +kernel
theorem dX11_mayFail_25 : decode cX11_mayFail 25 = .ok (.iload 4, 2) := by decide +kernel
theorem dX11_mayFail_27 : decode cX11_mayFail 27 = .ok (.iastore, 1) := by decide +kernel
theorem dX11_mayFail_28 : decode cX11_mayFail 28 = .ok (.aload_n 0, 1) := by decide +kernel
theorem dX11_mayFail_29 : decode cX11_mayFail 29 = .ok (.getfield 100, 3) := by decide +kernel
theorem dX11_mayFail_32 : decode cX11_mayFail 32 = .ok (.iconst 0, 1) := by decide +kernel
theorem dX11_mayFail_33 : decode cX11_mayFail 33 = .ok (.aload_n 0, 1) := by decide +kernel
theorem dX11_mayFail_34 : decode cX11_mayFail 34 = .ok (.getfield 91, 3) := by decide +kernel
theorem dX11_mayFail_37 : decode cX11_mayFail 37 = .ok (.bipush 108, 2) := by decide +kernel
theorem dX11_mayFail_39 : decode cX11_mayFail 39 = .ok (.iload_n 1, 1) := by decide +kernel
theorem dX11_mayFail_40 : decode cX11_mayFail 40 = .ok (.imul, 1) := by decide +kernel
theorem dX11_mayFail_41 : decode cX11_mayFail 41 = .ok (.bipush 12, 2) := by decide +kernel
theorem dX11_mayFail_43 : decode cX11_mayFail 43 = .ok (.iload_n 2, 1) := by decide +kernel
theorem dX11_mayFail_44 : decode cX11_mayFail 44 = .ok (.imul, 1) := by decide +kernel
theorem dX11_mayFail_45 : decode cX11_mayFail 45 = .ok (.iadd, 1) := by decide +kernel
theorem dX11_mayFail_46 : decode cX11_mayFail 46 = .ok (.invokestatic 275, 3) := by decide +kernel
theorem dX11_mayFail_49 : decode cX11_mayFail 49 = .ok (.iload_n 3, 1) := by decide +kernel
theorem dX11_mayFail_50 : decode cX11_mayFail 50 = .ok (.ifCond .lt 11, 3) := by decide +kernel
theorem dX11_mayFail_53 : decode cX11_mayFail 53 = .ok (.aload_n 0, 1) := by decide +kernel
theorem dX11_mayFail_54 : decode cX11_mayFail 54 = .ok (.getfield 100, 3) := by decide +kernel
theorem dX11_mayFail_57 : decode cX11_mayFail 57 = .ok (.iload_n 3, 1) := by decide +kernel
theorem dX11_mayFail_58 : decode cX11_mayFail 58 = .ok (.iload 5, 2) := by decide +kernel
theorem dX11_mayFail_60 : decode cX11_mayFail 60 = .ok (.iastore, 1) := by decide +kernel
theorem dX11_mayFail_61 : decode cX11_mayFail 61 = .ok (.return_, 1) := by decide +kernel
theorem dX11_mayAs_0 : decode cX11_mayAs 0 = .ok (.aload_n 0, 1) := by decide +kernel
theorem dX11_mayAs_1 : decode cX11_mayAs 1 = .ok (.getfield 100, 3) := by decide +kernel
theorem dX11_mayAs_4 : decode cX11_mayAs 4 = .ok (.iload_n 2, 1) := by decide +kernel
theorem dX11_mayAs_5 : decode cX11_mayAs 5 = .ok (.iaload, 1) := by decide +kernel
theorem dX11_mayAs_6 : decode cX11_mayAs 6 = .ok (.iload_n 3, 1) := by decide +kernel
theorem dX11_mayAs_7 : decode cX11_mayAs 7 = .ok (.invokestatic 107, 3) := by decide +kernel
theorem dX11_mayAs_10 : decode cX11_mayAs 10 = .ok (.iconst (-1), 1) := by decide +kernel
theorem dX11_mayAs_11 : decode cX11_mayAs 11 = .ok (.ixor, 1) := by decide +kernel
theorem dX11_mayAs_12 : decode cX11_mayAs 12 = .ok (.iand, 1) := by decide +kernel
theorem dX11_mayAs_13 : decode cX11_mayAs 13 = .ok (.bipush (-2), 2) := by decide +kernel
theorem dX11_mayAs_15 : decode cX11_mayAs 15 = .ok (.iand, 1) := by decide +kernel
theorem dX11_mayAs_16 : decode cX11_mayAs 16 = .ok (.istore 4, 2) := by decide +kernel
theorem dX11_mayAs_18 : decode cX11_mayAs 18 = .ok (.iload 4, 2) := by decide +kernel
theorem dX11_mayAs_20 : decode cX11_mayAs 20 = .ok (.ifCond .eq 12, 3) := by decide +kernel
theorem dX11_mayAs_23 : decode cX11_mayAs 23 = .ok (.aload_n 0, 1) := by decide +kernel
theorem dX11_mayAs_24 : decode cX11_mayAs 24 = .ok (.iload_n 1, 1) := by decide +kernel
theorem dX11_mayAs_25 : decode cX11_mayAs 25 = .ok (.iconst 2, 1) := by decide +kernel
theorem dX11_mayAs_26 : decode cX11_mayAs 26 = .ok (.iload_n 2, 1) := by decide +kernel
theorem dX11_mayAs_27 : decode cX11_mayAs 27 = .ok (.iload 4, 2) := by decide +kernel
theorem dX11_mayAs_29 : decode cX11_mayAs 29 = .ok (.invokevirtual 279, 3) := by decide +kernel
theorem dX11_mayAs_32 : decode cX11_mayAs 32 = .ok (.aload_n 0, 1) := by decide +kernel
theorem dX11_mayAs_33 : decode cX11_mayAs 33 = .ok (.getfield 100, 3) := by decide +kernel
theorem dX11_mayAs_36 : decode cX11_mayAs 36 = .ok (.iload_n 2, 1) := by decide +kernel
theorem dX11_mayAs_37 : decode cX11_mayAs 37 = .ok (.dup2, 1) := by decide +kernel
theorem dX11_mayAs_38 : decode cX11_mayAs 38 = .ok (.iaload, 1) := by decide +kernel
theorem dX11_mayAs_39 : decode cX11_mayAs 39 = .ok (.iload_n 3, 1) := by decide +kernel
theorem dX11_mayAs_40 : decode cX11_mayAs 40 = .ok (.invokestatic 107, 3) := by decide +kernel
theorem dX11_mayAs_43 : decode cX11_mayAs 43 = .ok (.iconst 1, 1) := by decide +kernel
theorem dX11_mayAs_44 : decode cX11_mayAs 44 = .ok (.ior, 1) := by decide +kernel
theorem dX11_mayAs_45 : decode cX11_mayAs 45 = .ok (.iand, 1) := by decide +kernel
theorem dX11_mayAs_46 : decode cX11_mayAs 46 = .ok (.iastore, 1) := by decide +kernel
theorem dX11_mayAs_47 : decode cX11_mayAs 47 = .ok (.aload_n 0, 1) := by decide +kernel
theorem dX11_mayAs_48 : decode cX11_mayAs 48 = .ok (.getfield 100, 3) := by decide +kernel
theorem dX11_mayAs_51 : decode cX11_mayAs 51 = .ok (.iload_n 2, 1) := by decide +kernel
theorem dX11_mayAs_52 : decode cX11_mayAs 52 = .ok (.iaload, 1) := by decide +kernel
theorem dX11_mayAs_53 : decode cX11_mayAs 53 = .ok (.ifCond .eq 7, 3) := by decide +kernel
theorem dX11_mayAs_56 : decode cX11_mayAs 56 = .ok (.iconst 1, 1) := by decide +kernel
theorem dX11_mayAs_57 : decode cX11_mayAs 57 = .ok (.goto 4, 3) := by decide +kernel
theorem dX11_mayAs_60 : decode cX11_mayAs 60 = .ok (.iconst 0, 1) := by decide +kernel
theorem dX11_mayAs_61 : decode cX11_mayAs 61 = .ok (.ireturn, 1) := by decide +kernel
theorem dX11_mayRow_0 : decode cX11_mayRow 0 = .ok (.aload_n 0, 1) := by decide +kernel
theorem dX11_mayRow_1 : decode cX11_mayRow 1 = .ok (.getfield 100, 3) := by decide +kernel
theorem dX11_mayRow_4 : decode cX11_mayRow 4 = .ok (.iload_n 2, 1) := by decide +kernel
theorem dX11_mayRow_5 : decode cX11_mayRow 5 = .ok (.iaload, 1) := by decide +kernel
theorem dX11_mayRow_6 : decode cX11_mayRow 6 = .ok (.iconst 1, 1) := by decide +kernel
theorem dX11_mayRow_7 : decode cX11_mayRow 7 = .ok (.iand, 1) := by decide +kernel
theorem dX11_mayRow_8 : decode cX11_mayRow 8 = .ok (.iconst 1, 1) := by decide +kernel
theorem dX11_mayRow_9 : decode cX11_mayRow 9 = .ok (.if_icmp .ne 11, 3) := by decide +kernel
theorem dX11_mayRow_12 : decode cX11_mayRow 12 = .ok (.aload_n 0, 1) := by decide +kernel
theorem dX11_mayRow_13 : decode cX11_mayRow 13 = .ok (.iload_n 1, 1) := by decide +kernel
theorem dX11_mayRow_14 : decode cX11_mayRow 14 = .ok (.iconst 1, 1) := by decide +kernel
theorem dX11_mayRow_15 : decode cX11_mayRow 15 = .ok (.iload_n 2, 1) := by decide +kernel
theorem dX11_mayRow_16 : decode cX11_mayRow 16 = .ok (.iconst 1, 1) := by decide +kernel
theorem dX11_mayRow_17 : decode cX11_mayRow 17 = .ok (.invokevirtual 279, 3) := by decide +kernel
theorem dX11_mayRow_20 : decode cX11_mayRow 20 = .ok (.aload_n 0, 1) := by decide +kernel
theorem dX11_mayRow_21 : decode cX11_mayRow 21 = .ok (.getfield 100, 3) := by decide +kernel
theorem dX11_mayRow_24 : decode cX11_mayRow 24 = .ok (.iload_n 2, 1) := by decide +kernel
theorem dX11_mayRow_25 : decode cX11_mayRow 25 = .ok (.dup2, 1) := by decide +kernel
theorem dX11_mayRow_26 : decode cX11_mayRow 26 = .ok (.iaload, 1) := by decide +kernel
theorem dX11_mayRow_27 : decode cX11_mayRow 27 = .ok (.bipush (-2), 2) := by decide +kernel
theorem dX11_mayRow_29 : decode cX11_mayRow 29 = .ok (.iand, 1) := by decide +kernel
theorem dX11_mayRow_30 : decode cX11_mayRow 30 = .ok (.iastore, 1) := by decide +kernel
theorem dX11_mayRow_31 : decode cX11_mayRow 31 = .ok (.aload_n 0, 1) := by decide +kernel
theorem dX11_mayRow_32 : decode cX11_mayRow 32 = .ok (.getfield 100, 3) := by decide +kernel
theorem dX11_mayRow_35 : decode cX11_mayRow 35 = .ok (.iload_n 2, 1) := by decide +kernel
theorem dX11_mayRow_36 : decode cX11_mayRow 36 = .ok (.iaload, 1) := by decide +kernel
theorem dX11_mayRow_37 : decode cX11_mayRow 37 = .ok (.ifCond .eq 7, 3) := by decide +kernel
theorem dX11_mayRow_40 : decode cX11_mayRow 40 = .ok (.iconst 1, 1) := by decide +kernel
theorem dX11_mayRow_41 : decode cX11_mayRow 41 = .ok (.goto 4, 3) := by decide +kernel
theorem dX11_mayRow_44 : decode cX11_mayRow 44 = .ok (.iconst 0, 1) := by decide +kernel
theorem dX11_mayRow_45 : decode cX11_mayRow 45 = .ok (.ireturn, 1) := by decide +kernel
theorem dX11_mayItem_0 : decode cX11_mayItem 0 = .ok (.aload_n 0, 1) := by decide +kernel
theorem dX11_mayItem_1 : decode cX11_mayItem 1 = .ok (.iload_n 1, 1) := by decide +kernel
theorem dX11_mayItem_2 : decode cX11_mayItem 2 = .ok (.iload_n 2, 1) := by decide +kernel
theorem dX11_mayItem_3 : decode cX11_mayItem 3 = .ok (.iload_n 3, 1) := by decide +kernel
theorem dX11_mayItem_4 : decode cX11_mayItem 4 = .ok (.invokevirtual 283, 3) := by decide +kernel
theorem dX11_mayItem_7 : decode cX11_mayItem 7 = .ok (.ifCond .eq 16, 3) := by decide +kernel
theorem dX11_mayItem_10 : decode cX11_mayItem 10 = .ok (.aload_n 0, 1) := by decide +kernel
theorem dX11_mayItem_11 : decode cX11_mayItem 11 = .ok (.iload_n 1, 1) := by decide +kernel
theorem dX11_mayItem_12 : decode cX11_mayItem 12 = .ok (.iload_n 2, 1) := by decide +kernel
theorem dX11_mayItem_13 : decode cX11_mayItem 13 = .ok (.invokevirtual 286, 3) := by decide +kernel
theorem dX11_mayItem_16 : decode cX11_mayItem 16 = .ok (.ifCond .eq 7, 3) := by decide +kernel
theorem dX11_mayItem_19 : decode cX11_mayItem 19 = .ok (.iconst 1, 1) := by decide +kernel
theorem dX11_mayItem_20 : decode cX11_mayItem 20 = .ok (.goto 4, 3) := by decide +kernel
theorem dX11_mayItem_23 : decode cX11_mayItem 23 = .ok (.iconst 0, 1) := by decide +kernel
theorem dX11_mayItem_24 : decode cX11_mayItem 24 = .ok (.istore 4, 2) := by decide +kernel
theorem dX11_mayItem_26 : decode cX11_mayItem 26 = .ok (.iload 4, 2) := by decide +kernel
theorem dX11_mayItem_28 : decode cX11_mayItem 28 = .ok (.ifCond .eq 11, 3) := by decide +kernel
theorem dX11_mayItem_31 : decode cX11_mayItem 31 = .ok (.aload_n 0, 1) := by decide +kernel
theorem dX11_mayItem_32 : decode cX11_mayItem 32 = .ok (.iload_n 1, 1) := by decide +kernel
theorem dX11_mayItem_33 : decode cX11_mayItem 33 = .ok (.iconst 3, 1) := by decide +kernel
theorem dX11_mayItem_34 : decode cX11_mayItem 34 = .ok (.iconst (-1), 1) := by decide +kernel
theorem dX11_mayItem_35 : decode cX11_mayItem 35 = .ok (.iconst 0, 1) := by decide +kernel
theorem dX11_mayItem_36 : decode cX11_mayItem 36 = .ok (.invokevirtual 279, 3) := by decide +kernel
theorem dX11_mayItem_39 : decode cX11_mayItem 39 = .ok (.iload 4, 2) := by decide +kernel
theorem dX11_mayItem_41 : decode cX11_mayItem 41 = .ok (.ireturn, 1) := by decide +kernel
theorem dX11_mayNew_0 : decode cX11_mayNew 0 = .ok (.iload_n 2, 1) := by decide +kernel
theorem dX11_mayNew_1 : decode cX11_mayNew 1 = .ok (.ifCond .eq 13, 3) := by decide +kernel
theorem dX11_mayNew_4 : decode cX11_mayNew 4 = .ok (.aload_n 0, 1) := by decide +kernel
theorem dX11_mayNew_5 : decode cX11_mayNew 5 = .ok (.iload_n 1, 1) := by decide +kernel
theorem dX11_mayNew_6 : decode cX11_mayNew 6 = .ok (.iconst 4, 1) := by decide +kernel
theorem dX11_mayNew_7 : decode cX11_mayNew 7 = .ok (.iconst (-1), 1) := by decide +kernel
theorem dX11_mayNew_8 : decode cX11_mayNew 8 = .ok (.iconst 0, 1) := by decide +kernel
theorem dX11_mayNew_9 : decode cX11_mayNew 9 = .ok (.invokevirtual 279, 3) := by decide +kernel
theorem dX11_mayNew_12 : decode cX11_mayNew 12 = .ok (.iconst 0, 1) := by decide +kernel
theorem dX11_mayNew_13 : decode cX11_mayNew 13 = .ok (.ireturn, 1) := by decide +kernel
theorem dX11_mayNew_14 : decode cX11_mayNew 14 = .ok (.aload_n 0, 1) := by decide +kernel
theorem dX11_mayNew_15 : decode cX11_mayNew 15 = .ok (.iload_n 1, 1) := by decide +kernel
theorem dX11_mayNew_16 : decode cX11_mayNew 16 = .ok (.bipush 8, 2) := by decide +kernel
theorem dX11_mayNew_18 : decode cX11_mayNew 18 = .ok (.iconst (-1), 1) := by decide +kernel
theorem dX11_mayNew_19 : decode cX11_mayNew 19 = .ok (.iconst 0, 1) := by decide +kernel
theorem dX11_mayNew_20 : decode cX11_mayNew 20 = .ok (.invokevirtual 279, 3) := by decide +kernel
theorem dX11_mayNew_23 : decode cX11_mayNew 23 = .ok (.aload_n 0, 1) := by decide +kernel
theorem dX11_mayNew_24 : decode cX11_mayNew 24 = .ok (.getfield 100, 3) := by decide +kernel
theorem dX11_mayNew_27 : decode cX11_mayNew 27 = .ok (.iload_n 3, 1) := by decide +kernel
theorem dX11_mayNew_28 : decode cX11_mayNew 28 = .ok (.iload 4, 2) := by decide +kernel
theorem dX11_mayNew_30 : decode cX11_mayNew 30 = .ok (.iastore, 1) := by decide +kernel
theorem dX11_mayNew_31 : decode cX11_mayNew 31 = .ok (.iconst 1, 1) := by decide +kernel
theorem dX11_mayNew_32 : decode cX11_mayNew 32 = .ok (.ireturn, 1) := by decide +kernel
theorem dX11_mayLay_0 : decode cX11_mayLay 0 = .ok (.aload_n 0, 1) := by decide +kernel
theorem dX11_mayLay_1 : decode cX11_mayLay 1 = .ok (.iload_n 1, 1) := by decide +kernel
theorem dX11_mayLay_2 : decode cX11_mayLay 2 = .ok (.iload_n 2, 1) := by decide +kernel
theorem dX11_mayLay_3 : decode cX11_mayLay 3 = .ok (.iload_n 3, 1) := by decide +kernel
theorem dX11_mayLay_4 : decode cX11_mayLay 4 = .ok (.invokevirtual 283, 3) := by decide +kernel
theorem dX11_mayLay_7 : decode cX11_mayLay 7 = .ok (.ifCond .eq 44, 3) := by decide +kernel
theorem dX11_mayLay_10 : decode cX11_mayLay 10 = .ok (.aload_n 0, 1) := by decide +kernel
theorem dX11_mayLay_11 : decode cX11_mayLay 11 = .ok (.iload_n 1, 1) := by decide +kernel
theorem dX11_mayLay_12 : decode cX11_mayLay 12 = .ok (.iload 4, 2) := by decide +kernel
theorem dX11_mayLay_14 : decode cX11_mayLay 14 = .ok (.iload_n 3, 1) := by decide +kernel
theorem dX11_mayLay_15 : decode cX11_mayLay 15 = .ok (.iconst 5, 1) := by decide +kernel
theorem dX11_mayLay_16 : decode cX11_mayLay 16 = .ok (.if_icmp .ne 7, 3) := by decide +kernel
theorem dX11_mayLay_19 : decode cX11_mayLay 19 = .ok (.iconst 1, 1) := by decide +kernel
theorem dX11_mayLay_20 : decode cX11_mayLay 20 = .ok (.goto 16, 3) := by decide +kernel
theorem dX11_mayLay_23 : decode cX11_mayLay 23 = .ok (.iload_n 3, 1) := by decide +kernel
theorem dX11_mayLay_24 : decode cX11_mayLay 24 = .ok (.bipush 6, 2) := by decide +kernel
theorem dX11_mayLay_26 : decode cX11_mayLay 26 = .ok (.if_icmp .ne 8, 3) := by decide +kernel
theorem dX11_mayLay_29 : decode cX11_mayLay 29 = .ok (.bipush 8, 2) := by decide +kernel
theorem dX11_mayLay_31 : decode cX11_mayLay 31 = .ok (.goto 5, 3) := by decide +kernel
theorem dX11_mayLay_34 : decode cX11_mayLay 34 = .ok (.bipush 9, 2) := by decide +kernel
theorem dX11_mayLay_36 : decode cX11_mayLay 36 = .ok (.invokevirtual 283, 3) := by decide +kernel
theorem dX11_mayLay_39 : decode cX11_mayLay 39 = .ok (.ifCond .eq 12, 3) := by decide +kernel
theorem dX11_mayLay_42 : decode cX11_mayLay 42 = .ok (.aload_n 0, 1) := by decide +kernel
theorem dX11_mayLay_43 : decode cX11_mayLay 43 = .ok (.iload_n 1, 1) := by decide +kernel
theorem dX11_mayLay_44 : decode cX11_mayLay 44 = .ok (.iload_n 2, 1) := by decide +kernel
theorem dX11_mayLay_45 : decode cX11_mayLay 45 = .ok (.invokevirtual 286, 3) := by decide +kernel
theorem dX11_mayLay_48 : decode cX11_mayLay 48 = .ok (.ifCond .ne 5, 3) := by decide +kernel
theorem dX11_mayLay_51 : decode cX11_mayLay 51 = .ok (.iconst 0, 1) := by decide +kernel
theorem dX11_mayLay_52 : decode cX11_mayLay 52 = .ok (.ireturn, 1) := by decide +kernel
theorem dX11_mayLay_53 : decode cX11_mayLay 53 = .ok (.aload_n 0, 1) := by decide +kernel
theorem dX11_mayLay_54 : decode cX11_mayLay 54 = .ok (.iload_n 1, 1) := by decide +kernel
theorem dX11_mayLay_55 : decode cX11_mayLay 55 = .ok (.iconst 3, 1) := by decide +kernel
theorem dX11_mayLay_56 : decode cX11_mayLay 56 = .ok (.iconst (-1), 1) := by decide +kernel
theorem dX11_mayLay_57 : decode cX11_mayLay 57 = .ok (.iconst 0, 1) := by decide +kernel
theorem dX11_mayLay_58 : decode cX11_mayLay 58 = .ok (.invokevirtual 279, 3) := by decide +kernel
theorem dX11_mayLay_61 : decode cX11_mayLay 61 = .ok (.aload_n 0, 1) := by decide +kernel
theorem dX11_mayLay_62 : decode cX11_mayLay 62 = .ok (.getfield 100, 3) := by decide +kernel
theorem dX11_mayLay_65 : decode cX11_mayLay 65 = .ok (.iload_n 2, 1) := by decide +kernel
theorem dX11_mayLay_66 : decode cX11_mayLay 66 = .ok (.iaload, 1) := by decide +kernel
theorem dX11_mayLay_67 : decode cX11_mayLay 67 = .ok (.istore 5, 2) := by decide +kernel
theorem dX11_mayLay_69 : decode cX11_mayLay 69 = .ok (.aload_n 0, 1) := by decide +kernel
theorem dX11_mayLay_70 : decode cX11_mayLay 70 = .ok (.getfield 100, 3) := by decide +kernel
theorem dX11_mayLay_73 : decode cX11_mayLay 73 = .ok (.iload 4, 2) := by decide +kernel
theorem dX11_mayLay_75 : decode cX11_mayLay 75 = .ok (.iaload, 1) := by decide +kernel
theorem dX11_mayLay_76 : decode cX11_mayLay 76 = .ok (.istore 6, 2) := by decide +kernel
theorem dX11_mayLay_78 : decode cX11_mayLay 78 = .ok (.iload 5, 2) := by decide +kernel
theorem dX11_mayLay_80 : decode cX11_mayLay 80 = .ok (.bipush 7, 2) := by decide +kernel
theorem dX11_mayLay_82 : decode cX11_mayLay 82 = .ok (.ishr, 1) := by decide +kernel
theorem dX11_mayLay_83 : decode cX11_mayLay 83 = .ok (.iconst 1, 1) := by decide +kernel
theorem dX11_mayLay_84 : decode cX11_mayLay 84 = .ok (.iand, 1) := by decide +kernel
theorem dX11_mayLay_85 : decode cX11_mayLay 85 = .ok (.iconst 1, 1) := by decide +kernel
theorem dX11_mayLay_86 : decode cX11_mayLay 86 = .ok (.if_icmp .ne 82, 3) := by decide +kernel
theorem dX11_mayLay_89 : decode cX11_mayLay 89 = .ok (.iload 6, 2) := by decide +kernel
theorem dX11_mayLay_91 : decode cX11_mayLay 91 = .ok (.bipush 8, 2) := by decide +kernel
theorem dX11_mayLay_93 : decode cX11_mayLay 93 = .ok (.ishr, 1) := by decide +kernel
theorem dX11_mayLay_94 : decode cX11_mayLay 94 = .ok (.iconst 1, 1) := by decide +kernel
theorem dX11_mayLay_95 : decode cX11_mayLay 95 = .ok (.iand, 1) := by decide +kernel
theorem dX11_mayLay_96 : decode cX11_mayLay 96 = .ok (.iconst 1, 1) := by decide +kernel
theorem dX11_mayLay_97 : decode cX11_mayLay 97 = .ok (.if_icmp .ne 71, 3) := by decide +kernel
theorem dX11_mayLay_100 : decode cX11_mayLay 100 = .ok (.aload_n 0, 1) := by decide +kernel
theorem dX11_mayLay_101 : decode cX11_mayLay 101 = .ok (.iload_n 1, 1) := by decide +kernel
theorem dX11_mayLay_102 : decode cX11_mayLay 102 = .ok (.iconst 5, 1) := by decide +kernel
theorem dX11_mayLay_103 : decode cX11_mayLay 103 = .ok (.iconst (-1), 1) := by decide +kernel
theorem dX11_mayLay_104 : decode cX11_mayLay 104 = .ok (.iconst 0, 1) := by decide +kernel
theorem dX11_mayLay_105 : decode cX11_mayLay 105 = .ok (.invokevirtual 279, 3) := by decide +kernel
theorem dX11_mayLay_108 : decode cX11_mayLay 108 = .ok (.aload_n 0, 1) := by decide +kernel
theorem dX11_mayLay_109 : decode cX11_mayLay 109 = .ok (.getfield 100, 3) := by decide +kernel
theorem dX11_mayLay_112 : decode cX11_mayLay 112 = .ok (.iload_n 2, 1) := by decide +kernel
theorem dX11_mayLay_113 : decode cX11_mayLay 113 = .ok (.iload 6, 2) := by decide +kernel
theorem dX11_mayLay_115 : decode cX11_mayLay 115 = .ok (.sipush 256, 3) := by decide +kernel
theorem dX11_mayLay_118 : decode cX11_mayLay 118 = .ok (.if_icmp .ne 12, 3) := by decide +kernel
theorem dX11_mayLay_121 : decode cX11_mayLay 121 = .ok (.iload 5, 2) := by decide +kernel
theorem dX11_mayLay_123 : decode cX11_mayLay 123 = .ok (.sipush (-129), 3) := by decide +kernel
theorem dX11_mayLay_126 : decode cX11_mayLay 126 = .ok (.iand, 1) := by decide +kernel
theorem dX11_mayLay_127 : decode cX11_mayLay 127 = .ok (.goto 9, 3) := by decide +kernel
theorem dX11_mayLay_130 : decode cX11_mayLay 130 = .ok (.aload_n 0, 1) := by decide +kernel
theorem dX11_mayLay_131 : decode cX11_mayLay 131 = .ok (.getfield 100, 3) := by decide +kernel
theorem dX11_mayLay_134 : decode cX11_mayLay 134 = .ok (.iload_n 2, 1) := by decide +kernel
theorem dX11_mayLay_135 : decode cX11_mayLay 135 = .ok (.iaload, 1) := by decide +kernel
theorem dX11_mayLay_136 : decode cX11_mayLay 136 = .ok (.iastore, 1) := by decide +kernel
theorem dX11_mayLay_137 : decode cX11_mayLay 137 = .ok (.aload_n 0, 1) := by decide +kernel
theorem dX11_mayLay_138 : decode cX11_mayLay 138 = .ok (.getfield 100, 3) := by decide +kernel
theorem dX11_mayLay_141 : decode cX11_mayLay 141 = .ok (.iload 4, 2) := by decide +kernel
theorem dX11_mayLay_143 : decode cX11_mayLay 143 = .ok (.iload 5, 2) := by decide +kernel
theorem dX11_mayLay_145 : decode cX11_mayLay 145 = .ok (.sipush 128, 3) := by decide +kernel
theorem dX11_mayLay_148 : decode cX11_mayLay 148 = .ok (.if_icmp .ne 12, 3) := by decide +kernel
theorem dX11_mayLay_151 : decode cX11_mayLay 151 = .ok (.iload 6, 2) := by decide +kernel
theorem dX11_mayLay_153 : decode cX11_mayLay 153 = .ok (.sipush (-257), 3) := by decide +kernel
theorem dX11_mayLay_156 : decode cX11_mayLay 156 = .ok (.iand, 1) := by decide +kernel
theorem dX11_mayLay_157 : decode cX11_mayLay 157 = .ok (.goto 10, 3) := by decide +kernel
theorem dX11_mayLay_160 : decode cX11_mayLay 160 = .ok (.aload_n 0, 1) := by decide +kernel
theorem dX11_mayLay_161 : decode cX11_mayLay 161 = .ok (.getfield 100, 3) := by decide +kernel
theorem dX11_mayLay_164 : decode cX11_mayLay 164 = .ok (.iload 4, 2) := by decide +kernel
theorem dX11_mayLay_166 : decode cX11_mayLay 166 = .ok (.iaload, 1) := by decide +kernel
theorem dX11_mayLay_167 : decode cX11_mayLay 167 = .ok (.iastore, 1) := by decide +kernel
theorem dX11_mayLay_168 : decode cX11_mayLay 168 = .ok (.aload_n 0, 1) := by decide +kernel
theorem dX11_mayLay_169 : decode cX11_mayLay 169 = .ok (.getfield 100, 3) := by decide +kernel
theorem dX11_mayLay_172 : decode cX11_mayLay 172 = .ok (.iload_n 2, 1) := by decide +kernel
theorem dX11_mayLay_173 : decode cX11_mayLay 173 = .ok (.iaload, 1) := by decide +kernel
theorem dX11_mayLay_174 : decode cX11_mayLay 174 = .ok (.ifCond .eq 17, 3) := by decide +kernel
theorem dX11_mayLay_177 : decode cX11_mayLay 177 = .ok (.aload_n 0, 1) := by decide +kernel
theorem dX11_mayLay_178 : decode cX11_mayLay 178 = .ok (.getfield 100, 3) := by decide +kernel
theorem dX11_mayLay_181 : decode cX11_mayLay 181 = .ok (.iload 4, 2) := by decide +kernel
theorem dX11_mayLay_183 : decode cX11_mayLay 183 = .ok (.iaload, 1) := by decide +kernel
theorem dX11_mayLay_184 : decode cX11_mayLay 184 = .ok (.ifCond .eq 7, 3) := by decide +kernel
theorem dX11_mayLay_187 : decode cX11_mayLay 187 = .ok (.iconst 1, 1) := by decide +kernel
theorem dX11_mayLay_188 : decode cX11_mayLay 188 = .ok (.goto 4, 3) := by decide +kernel
theorem dX11_mayLay_191 : decode cX11_mayLay 191 = .ok (.iconst 0, 1) := by decide +kernel
theorem dX11_mayLay_192 : decode cX11_mayLay 192 = .ok (.ireturn, 1) := by decide +kernel
theorem dX11_partly_0 : decode cX11_partly 0 = .ok (.iload_n 0, 1) := by decide +kernel
theorem dX11_partly_1 : decode cX11_partly 1 = .ok (.iconst 5, 1) := by decide +kernel
theorem dX11_partly_2 : decode cX11_partly 2 = .ok (.if_icmp .ne 15, 3) := by decide +kernel
theorem dX11_partly_5 : decode cX11_partly 5 = .ok (.iload_n 1, 1) := by decide +kernel
theorem dX11_partly_6 : decode cX11_partly 6 = .ok (.bipush 6, 2) := by decide +kernel
theorem dX11_partly_8 : decode cX11_partly 8 = .ok (.if_icmp .eq 38, 3) := by decide +kernel
theorem dX11_partly_11 : decode cX11_partly 11 = .ok (.iload_n 1, 1) := by decide +kernel
theorem dX11_partly_12 : decode cX11_partly 12 = .ok (.bipush 7, 2) := by decide +kernel
theorem dX11_partly_14 : decode cX11_partly 14 = .ok (.if_icmp .eq 32, 3) := by decide +kernel
theorem dX11_partly_17 : decode cX11_partly 17 = .ok (.iload_n 0, 1) := by decide +kernel
theorem dX11_partly_18 : decode cX11_partly 18 = .ok (.bipush 6, 2) := by decide +kernel
theorem dX11_partly_20 : decode cX11_partly 20 = .ok (.if_icmp .eq 9, 3) := by decide +kernel
theorem dX11_partly_23 : decode cX11_partly 23 = .ok (.iload_n 0, 1) := by decide +kernel
theorem dX11_partly_24 : decode cX11_partly 24 = .ok (.bipush 7, 2) := by decide +kernel
theorem dX11_partly_26 : decode cX11_partly 26 = .ok (.if_icmp .ne 8, 3) := by decide +kernel
theorem dX11_partly_29 : decode cX11_partly 29 = .ok (.iload_n 1, 1) := by decide +kernel
theorem dX11_partly_30 : decode cX11_partly 30 = .ok (.iconst 5, 1) := by decide +kernel
theorem dX11_partly_31 : decode cX11_partly 31 = .ok (.if_icmp .eq 15, 3) := by decide +kernel
theorem dX11_partly_34 : decode cX11_partly 34 = .ok (.iload_n 0, 1) := by decide +kernel
theorem dX11_partly_35 : decode cX11_partly 35 = .ok (.bipush 6, 2) := by decide +kernel
theorem dX11_partly_37 : decode cX11_partly 37 = .ok (.if_icmp .ne 13, 3) := by decide +kernel
theorem dX11_partly_40 : decode cX11_partly 40 = .ok (.iload_n 1, 1) := by decide +kernel
theorem dX11_partly_41 : decode cX11_partly 41 = .ok (.bipush 7, 2) := by decide +kernel
theorem dX11_partly_43 : decode cX11_partly 43 = .ok (.if_icmp .ne 7, 3) := by decide +kernel
theorem dX11_partly_46 : decode cX11_partly 46 = .ok (.iconst 1, 1) := by decide +kernel
theorem dX11_partly_47 : decode cX11_partly 47 = .ok (.goto 4, 3) := by decide +kernel
theorem dX11_partly_50 : decode cX11_partly 50 = .ok (.iconst 0, 1) := by decide +kernel
theorem dX11_partly_51 : decode cX11_partly 51 = .ok (.ireturn, 1) := by decide +kernel
theorem dX11_mayCopy_0 : decode cX11_mayCopy 0 = .ok (.aload_n 0, 1) := by decide +kernel
theorem dX11_mayCopy_1 : decode cX11_mayCopy 1 = .ok (.getfield 100, 3) := by decide +kernel
theorem dX11_mayCopy_4 : decode cX11_mayCopy 4 = .ok (.iload_n 2, 1) := by decide +kernel
theorem dX11_mayCopy_5 : decode cX11_mayCopy 5 = .ok (.iaload, 1) := by decide +kernel
theorem dX11_mayCopy_6 : decode cX11_mayCopy 6 = .ok (.aload_n 0, 1) := by decide +kernel
theorem dX11_mayCopy_7 : decode cX11_mayCopy 7 = .ok (.getfield 100, 3) := by decide +kernel
theorem dX11_mayCopy_10 : decode cX11_mayCopy 10 = .ok (.iload_n 3, 1) := by decide +kernel
theorem dX11_mayCopy_11 : decode cX11_mayCopy 11 = .ok (.iaload, 1) := by decide +kernel
theorem dX11_mayCopy_12 : decode cX11_mayCopy 12 = .ok (.ior, 1) := by decide +kernel
theorem dX11_mayCopy_13 : decode cX11_mayCopy 13 = .ok (.iconst 1, 1) := by decide +kernel
theorem dX11_mayCopy_14 : decode cX11_mayCopy 14 = .ok (.iand, 1) := by decide +kernel
theorem dX11_mayCopy_15 : decode cX11_mayCopy 15 = .ok (.iconst 1, 1) := by decide +kernel
theorem dX11_mayCopy_16 : decode cX11_mayCopy 16 = .ok (.if_icmp .ne 11, 3) := by decide +kernel
theorem dX11_mayCopy_19 : decode cX11_mayCopy 19 = .ok (.aload_n 0, 1) := by decide +kernel
theorem dX11_mayCopy_20 : decode cX11_mayCopy 20 = .ok (.iload_n 1, 1) := by decide +kernel
theorem dX11_mayCopy_21 : decode cX11_mayCopy 21 = .ok (.iconst 1, 1) := by decide +kernel
theorem dX11_mayCopy_22 : decode cX11_mayCopy 22 = .ok (.iconst (-1), 1) := by decide +kernel
theorem dX11_mayCopy_23 : decode cX11_mayCopy 23 = .ok (.iconst 0, 1) := by decide +kernel
theorem dX11_mayCopy_24 : decode cX11_mayCopy 24 = .ok (.invokevirtual 279, 3) := by decide +kernel
theorem dX11_mayCopy_27 : decode cX11_mayCopy 27 = .ok (.aload_n 0, 1) := by decide +kernel
theorem dX11_mayCopy_28 : decode cX11_mayCopy 28 = .ok (.getfield 100, 3) := by decide +kernel
theorem dX11_mayCopy_31 : decode cX11_mayCopy 31 = .ok (.iload_n 2, 1) := by decide +kernel
theorem dX11_mayCopy_32 : decode cX11_mayCopy 32 = .ok (.dup2, 1) := by decide +kernel
theorem dX11_mayCopy_33 : decode cX11_mayCopy 33 = .ok (.iaload, 1) := by decide +kernel
theorem dX11_mayCopy_34 : decode cX11_mayCopy 34 = .ok (.bipush (-2), 2) := by decide +kernel
theorem dX11_mayCopy_36 : decode cX11_mayCopy 36 = .ok (.iand, 1) := by decide +kernel
theorem dX11_mayCopy_37 : decode cX11_mayCopy 37 = .ok (.iastore, 1) := by decide +kernel
theorem dX11_mayCopy_38 : decode cX11_mayCopy 38 = .ok (.aload_n 0, 1) := by decide +kernel
theorem dX11_mayCopy_39 : decode cX11_mayCopy 39 = .ok (.getfield 100, 3) := by decide +kernel
theorem dX11_mayCopy_42 : decode cX11_mayCopy 42 = .ok (.iload_n 3, 1) := by decide +kernel
theorem dX11_mayCopy_43 : decode cX11_mayCopy 43 = .ok (.dup2, 1) := by decide +kernel
theorem dX11_mayCopy_44 : decode cX11_mayCopy 44 = .ok (.iaload, 1) := by decide +kernel
theorem dX11_mayCopy_45 : decode cX11_mayCopy 45 = .ok (.bipush (-2), 2) := by decide +kernel
theorem dX11_mayCopy_47 : decode cX11_mayCopy 47 = .ok (.iand, 1) := by decide +kernel
theorem dX11_mayCopy_48 : decode cX11_mayCopy 48 = .ok (.iastore, 1) := by decide +kernel
theorem dX11_mayCopy_49 : decode cX11_mayCopy 49 = .ok (.aload_n 0, 1) := by decide +kernel
theorem dX11_mayCopy_50 : decode cX11_mayCopy 50 = .ok (.getfield 100, 3) := by decide +kernel
theorem dX11_mayCopy_53 : decode cX11_mayCopy 53 = .ok (.iload_n 2, 1) := by decide +kernel
theorem dX11_mayCopy_54 : decode cX11_mayCopy 54 = .ok (.iaload, 1) := by decide +kernel
theorem dX11_mayCopy_55 : decode cX11_mayCopy 55 = .ok (.ifCond .eq 12, 3) := by decide +kernel
theorem dX11_mayCopy_58 : decode cX11_mayCopy 58 = .ok (.aload_n 0, 1) := by decide +kernel
theorem dX11_mayCopy_59 : decode cX11_mayCopy 59 = .ok (.getfield 100, 3) := by decide +kernel
theorem dX11_mayCopy_62 : decode cX11_mayCopy 62 = .ok (.iload_n 3, 1) := by decide +kernel
theorem dX11_mayCopy_63 : decode cX11_mayCopy 63 = .ok (.iaload, 1) := by decide +kernel
theorem dX11_mayCopy_64 : decode cX11_mayCopy 64 = .ok (.ifCond .ne 5, 3) := by decide +kernel
theorem dX11_mayCopy_67 : decode cX11_mayCopy 67 = .ok (.iconst 0, 1) := by decide +kernel
theorem dX11_mayCopy_68 : decode cX11_mayCopy 68 = .ok (.ireturn, 1) := by decide +kernel
theorem dX11_mayCopy_69 : decode cX11_mayCopy 69 = .ok (.iconst 0, 1) := by decide +kernel
theorem dX11_mayCopy_70 : decode cX11_mayCopy 70 = .ok (.istore 4, 2) := by decide +kernel
theorem dX11_mayCopy_72 : decode cX11_mayCopy 72 = .ok (.iconst 0, 1) := by decide +kernel
theorem dX11_mayCopy_73 : decode cX11_mayCopy 73 = .ok (.istore 5, 2) := by decide +kernel
theorem dX11_mayCopy_75 : decode cX11_mayCopy 75 = .ok (.iconst 0, 1) := by decide +kernel
theorem dX11_mayCopy_76 : decode cX11_mayCopy 76 = .ok (.istore 6, 2) := by decide +kernel
theorem dX11_mayCopy_78 : decode cX11_mayCopy 78 = .ok (.iconst 1, 1) := by decide +kernel
theorem dX11_mayCopy_79 : decode cX11_mayCopy 79 = .ok (.istore 7, 2) := by decide +kernel
theorem dX11_mayCopy_81 : decode cX11_mayCopy 81 = .ok (.iload 7, 2) := by decide +kernel
theorem dX11_mayCopy_83 : decode cX11_mayCopy 83 = .ok (.bipush 10, 2) := by decide +kernel
theorem dX11_mayCopy_85 : decode cX11_mayCopy 85 = .ok (.if_icmp .ge 131, 3) := by decide +kernel
theorem dX11_mayCopy_88 : decode cX11_mayCopy 88 = .ok (.iconst 1, 1) := by decide +kernel
theorem dX11_mayCopy_89 : decode cX11_mayCopy 89 = .ok (.istore 8, 2) := by decide +kernel
theorem dX11_mayCopy_91 : decode cX11_mayCopy 91 = .ok (.iload 8, 2) := by decide +kernel
theorem dX11_mayCopy_93 : decode cX11_mayCopy 93 = .ok (.bipush 10, 2) := by decide +kernel
theorem dX11_mayCopy_95 : decode cX11_mayCopy 95 = .ok (.if_icmp .ge 115, 3) := by decide +kernel
theorem dX11_mayCopy_98 : decode cX11_mayCopy 98 = .ok (.aload_n 0, 1) := by decide +kernel
theorem dX11_mayCopy_99 : decode cX11_mayCopy 99 = .ok (.getfield 100, 3) := by decide +kernel
theorem dX11_mayCopy_102 : decode cX11_mayCopy 102 = .ok (.iload_n 2, 1) := by decide +kernel
theorem dX11_mayCopy_103 : decode cX11_mayCopy 103 = .ok (.iaload, 1) := by decide +kernel
theorem dX11_mayCopy_104 : decode cX11_mayCopy 104 = .ok (.iload 7, 2) := by decide +kernel
theorem dX11_mayCopy_106 : decode cX11_mayCopy 106 = .ok (.ishr, 1) := by decide +kernel
theorem dX11_mayCopy_107 : decode cX11_mayCopy 107 = .ok (.iconst 1, 1) := by decide +kernel
theorem dX11_mayCopy_108 : decode cX11_mayCopy 108 = .ok (.iand, 1) := by decide +kernel
theorem dX11_mayCopy_109 : decode cX11_mayCopy 109 = .ok (.iconst 1, 1) := by decide +kernel
theorem dX11_mayCopy_110 : decode cX11_mayCopy 110 = .ok (.if_icmp .ne 94, 3) := by decide +kernel
theorem dX11_mayCopy_113 : decode cX11_mayCopy 113 = .ok (.aload_n 0, 1) := by decide +kernel
theorem dX11_mayCopy_114 : decode cX11_mayCopy 114 = .ok (.getfield 100, 3) := by decide +kernel
theorem dX11_mayCopy_117 : decode cX11_mayCopy 117 = .ok (.iload_n 3, 1) := by decide +kernel
theorem dX11_mayCopy_118 : decode cX11_mayCopy 118 = .ok (.iaload, 1) := by decide +kernel
theorem dX11_mayCopy_119 : decode cX11_mayCopy 119 = .ok (.iload 8, 2) := by decide +kernel
theorem dX11_mayCopy_121 : decode cX11_mayCopy 121 = .ok (.ishr, 1) := by decide +kernel
theorem dX11_mayCopy_122 : decode cX11_mayCopy 122 = .ok (.iconst 1, 1) := by decide +kernel
theorem dX11_mayCopy_123 : decode cX11_mayCopy 123 = .ok (.iand, 1) := by decide +kernel
theorem dX11_mayCopy_124 : decode cX11_mayCopy 124 = .ok (.iconst 1, 1) := by decide +kernel
theorem dX11_mayCopy_125 : decode cX11_mayCopy 125 = .ok (.if_icmp .ne 79, 3) := by decide +kernel
theorem dX11_mayCopy_128 : decode cX11_mayCopy 128 = .ok (.iload 4, 2) := by decide +kernel
theorem dX11_mayCopy_130 : decode cX11_mayCopy 130 = .ok (.iload 7, 2) := by decide +kernel
theorem dX11_mayCopy_132 : decode cX11_mayCopy 132 = .ok (.iload 8, 2) := by decide +kernel
theorem dX11_mayCopy_134 : decode cX11_mayCopy 134 = .ok (.invokestatic 174, 3) := by decide +kernel
theorem dX11_mayCopy_137 : decode cX11_mayCopy 137 = .ok (.ifCond .eq 13, 3) := by decide +kernel
theorem dX11_mayCopy_140 : decode cX11_mayCopy 140 = .ok (.iload 7, 2) := by decide +kernel
theorem dX11_mayCopy_142 : decode cX11_mayCopy 142 = .ok (.iload 8, 2) := by decide +kernel
theorem dX11_mayCopy_144 : decode cX11_mayCopy 144 = .ok (.invokestatic 289, 3) := by decide +kernel
theorem dX11_mayCopy_147 : decode cX11_mayCopy 147 = .ok (.ifCond .eq 7, 3) := by decide +kernel
theorem dX11_mayCopy_150 : decode cX11_mayCopy 150 = .ok (.iconst 1, 1) := by decide +kernel
theorem dX11_mayCopy_151 : decode cX11_mayCopy 151 = .ok (.goto 4, 3) := by decide +kernel
theorem dX11_mayCopy_154 : decode cX11_mayCopy 154 = .ok (.iconst 0, 1) := by decide +kernel
theorem dX11_mayCopy_155 : decode cX11_mayCopy 155 = .ok (.ior, 1) := by decide +kernel
theorem dX11_mayCopy_156 : decode cX11_mayCopy 156 = .ok (.istore 4, 2) := by decide +kernel
theorem dX11_mayCopy_158 : decode cX11_mayCopy 158 = .ok (.iload 5, 2) := by decide +kernel
theorem dX11_mayCopy_160 : decode cX11_mayCopy 160 = .ok (.iload 7, 2) := by decide +kernel
theorem dX11_mayCopy_162 : decode cX11_mayCopy 162 = .ok (.iload 8, 2) := by decide +kernel
theorem dX11_mayCopy_164 : decode cX11_mayCopy 164 = .ok (.invokestatic 174, 3) := by decide +kernel
theorem dX11_mayCopy_167 : decode cX11_mayCopy 167 = .ok (.ifCond .eq 10, 3) := by decide +kernel
theorem dX11_mayCopy_170 : decode cX11_mayCopy 170 = .ok (.iconst 1, 1) := by decide +kernel
theorem dX11_mayCopy_171 : decode cX11_mayCopy 171 = .ok (.iload 7, 2) := by decide +kernel
theorem dX11_mayCopy_173 : decode cX11_mayCopy 173 = .ok (.ishl, 1) := by decide +kernel
theorem dX11_mayCopy_174 : decode cX11_mayCopy 174 = .ok (.goto 4, 3) := by decide +kernel
theorem dX11_mayCopy_177 : decode cX11_mayCopy 177 = .ok (.iconst 0, 1) := by decide +kernel
theorem dX11_mayCopy_178 : decode cX11_mayCopy 178 = .ok (.ior, 1) := by decide +kernel
theorem dX11_mayCopy_179 : decode cX11_mayCopy 179 = .ok (.istore 5, 2) := by decide +kernel
theorem dX11_mayCopy_181 : decode cX11_mayCopy 181 = .ok (.iload 6, 2) := by decide +kernel
theorem dX11_mayCopy_183 : decode cX11_mayCopy 183 = .ok (.iload 7, 2) := by decide +kernel
theorem dX11_mayCopy_185 : decode cX11_mayCopy 185 = .ok (.iload 8, 2) := by decide +kernel
theorem dX11_mayCopy_187 : decode cX11_mayCopy 187 = .ok (.invokestatic 174, 3) := by decide +kernel
theorem dX11_mayCopy_190 : decode cX11_mayCopy 190 = .ok (.ifCond .eq 10, 3) := by decide +kernel
theorem dX11_mayCopy_193 : decode cX11_mayCopy 193 = .ok (.iconst 1, 1) := by decide +kernel
theorem dX11_mayCopy_194 : decode cX11_mayCopy 194 = .ok (.iload 8, 2) := by decide +kernel
theorem dX11_mayCopy_196 : decode cX11_mayCopy 196 = .ok (.ishl, 1) := by decide +kernel
theorem dX11_mayCopy_197 : decode cX11_mayCopy 197 = .ok (.goto 4, 3) := by decide +kernel
theorem dX11_mayCopy_200 : decode cX11_mayCopy 200 = .ok (.iconst 0, 1) := by decide +kernel
theorem dX11_mayCopy_201 : decode cX11_mayCopy 201 = .ok (.ior, 1) := by decide +kernel
theorem dX11_mayCopy_202 : decode cX11_mayCopy 202 = .ok (.istore 6, 2) := by decide +kernel
theorem dX11_mayCopy_204 : decode cX11_mayCopy 204 = .ok (.iinc 8 1, 3) := by decide +kernel
theorem dX11_mayCopy_207 : decode cX11_mayCopy 207 = .ok (.goto (-116), 3) := by decide +kernel
theorem dX11_mayCopy_210 : decode cX11_mayCopy 210 = .ok (.iinc 7 1, 3) := by decide +kernel
theorem dX11_mayCopy_213 : decode cX11_mayCopy 213 = .ok (.goto (-132), 3) := by decide +kernel
theorem dX11_mayCopy_216 : decode cX11_mayCopy 216 = .ok (.iload 4, 2) := by decide +kernel
theorem dX11_mayCopy_218 : decode cX11_mayCopy 218 = .ok (.ifCond .eq 11, 3) := by decide +kernel
theorem dX11_mayCopy_221 : decode cX11_mayCopy 221 = .ok (.aload_n 0, 1) := by decide +kernel
theorem dX11_mayCopy_222 : decode cX11_mayCopy 222 = .ok (.iload_n 1, 1) := by decide +kernel
theorem dX11_mayCopy_223 : decode cX11_mayCopy 223 = .ok (.iconst 5, 1) := by decide +kernel
theorem dX11_mayCopy_224 : decode cX11_mayCopy 224 = .ok (.iconst (-1), 1) := by decide +kernel
theorem dX11_mayCopy_225 : decode cX11_mayCopy 225 = .ok (.iconst 0, 1) := by decide +kernel
theorem dX11_mayCopy_226 : decode cX11_mayCopy 226 = .ok (.invokevirtual 279, 3) := by decide +kernel
theorem dX11_mayCopy_229 : decode cX11_mayCopy 229 = .ok (.aload_n 0, 1) := by decide +kernel
theorem dX11_mayCopy_230 : decode cX11_mayCopy 230 = .ok (.getfield 100, 3) := by decide +kernel
theorem dX11_mayCopy_233 : decode cX11_mayCopy 233 = .ok (.iload_n 2, 1) := by decide +kernel
theorem dX11_mayCopy_234 : decode cX11_mayCopy 234 = .ok (.iload 5, 2) := by decide +kernel
theorem dX11_mayCopy_236 : decode cX11_mayCopy 236 = .ok (.iastore, 1) := by decide +kernel
theorem dX11_mayCopy_237 : decode cX11_mayCopy 237 = .ok (.aload_n 0, 1) := by decide +kernel
theorem dX11_mayCopy_238 : decode cX11_mayCopy 238 = .ok (.getfield 100, 3) := by decide +kernel
theorem dX11_mayCopy_241 : decode cX11_mayCopy 241 = .ok (.iload_n 3, 1) := by decide +kernel
theorem dX11_mayCopy_242 : decode cX11_mayCopy 242 = .ok (.iload 6, 2) := by decide +kernel
theorem dX11_mayCopy_244 : decode cX11_mayCopy 244 = .ok (.iastore, 1) := by decide +kernel
theorem dX11_mayCopy_245 : decode cX11_mayCopy 245 = .ok (.iload 5, 2) := by decide +kernel
theorem dX11_mayCopy_247 : decode cX11_mayCopy 247 = .ok (.ifCond .ne 5, 3) := by decide +kernel
theorem dX11_mayCopy_250 : decode cX11_mayCopy 250 = .ok (.iconst 0, 1) := by decide +kernel
theorem dX11_mayCopy_251 : decode cX11_mayCopy 251 = .ok (.ireturn, 1) := by decide +kernel
theorem dX11_mayCopy_252 : decode cX11_mayCopy 252 = .ok (.aload_n 0, 1) := by decide +kernel
theorem dX11_mayCopy_253 : decode cX11_mayCopy 253 = .ok (.iload_n 1, 1) := by decide +kernel
theorem dX11_mayCopy_254 : decode cX11_mayCopy 254 = .ok (.iconst 3, 1) := by decide +kernel
theorem dX11_mayCopy_255 : decode cX11_mayCopy 255 = .ok (.iconst (-1), 1) := by decide +kernel
theorem dX11_mayCopy_256 : decode cX11_mayCopy 256 = .ok (.iconst 0, 1) := by decide +kernel
theorem dX11_mayCopy_257 : decode cX11_mayCopy 257 = .ok (.invokevirtual 279, 3) := by decide +kernel
theorem dX11_mayCopy_260 : decode cX11_mayCopy 260 = .ok (.iconst 1, 1) := by decide +kernel
theorem dX11_mayCopy_261 : decode cX11_mayCopy 261 = .ok (.ireturn, 1) := by decide +kernel
theorem dX11_mayTake_0 : decode cX11_mayTake 0 = .ok (.aload_n 0, 1) := by decide +kernel
theorem dX11_mayTake_1 : decode cX11_mayTake 1 = .ok (.iload_n 1, 1) := by decide +kernel
theorem dX11_mayTake_2 : decode cX11_mayTake 2 = .ok (.iload_n 3, 1) := by decide +kernel
theorem dX11_mayTake_3 : decode cX11_mayTake 3 = .ok (.iload 4, 2) := by decide +kernel
theorem dX11_mayTake_5 : decode cX11_mayTake 5 = .ok (.invokevirtual 292, 3) := by decide +kernel
theorem dX11_mayTake_8 : decode cX11_mayTake 8 = .ok (.istore 5, 2) := by decide +kernel
theorem dX11_mayTake_10 : decode cX11_mayTake 10 = .ok (.iload 5, 2) := by decide +kernel
theorem dX11_mayTake_12 : decode cX11_mayTake 12 = .ok (.ifCond .eq 49, 3) := by decide +kernel
theorem dX11_mayTake_15 : decode cX11_mayTake 15 = .ok (.aload_n 0, 1) := by decide +kernel
theorem dX11_mayTake_16 : decode cX11_mayTake 16 = .ok (.getfield 100, 3) := by decide +kernel
theorem dX11_mayTake_19 : decode cX11_mayTake 19 = .ok (.iload_n 3, 1) := by decide +kernel
theorem dX11_mayTake_20 : decode cX11_mayTake 20 = .ok (.iaload, 1) := by decide +kernel
theorem dX11_mayTake_21 : decode cX11_mayTake 21 = .ok (.bipush 6, 2) := by decide +kernel
theorem dX11_mayTake_23 : decode cX11_mayTake 23 = .ok (.ishr, 1) := by decide +kernel
theorem dX11_mayTake_24 : decode cX11_mayTake 24 = .ok (.iconst 1, 1) := by decide +kernel
theorem dX11_mayTake_25 : decode cX11_mayTake 25 = .ok (.iand, 1) := by decide +kernel
theorem dX11_mayTake_26 : decode cX11_mayTake 26 = .ok (.iconst 1, 1) := by decide +kernel
theorem dX11_mayTake_27 : decode cX11_mayTake 27 = .ok (.if_icmp .ne 9, 3) := by decide +kernel
theorem dX11_mayTake_30 : decode cX11_mayTake 30 = .ok (.sipush 256, 3) := by decide +kernel
theorem dX11_mayTake_33 : decode cX11_mayTake 33 = .ok (.goto 4, 3) := by decide +kernel
theorem dX11_mayTake_36 : decode cX11_mayTake 36 = .ok (.iconst 0, 1) := by decide +kernel
theorem dX11_mayTake_37 : decode cX11_mayTake 37 = .ok (.istore 6, 2) := by decide +kernel
theorem dX11_mayTake_39 : decode cX11_mayTake 39 = .ok (.aload_n 0, 1) := by decide +kernel
theorem dX11_mayTake_40 : decode cX11_mayTake 40 = .ok (.getfield 100, 3) := by decide +kernel
theorem dX11_mayTake_43 : decode cX11_mayTake 43 = .ok (.iload_n 2, 1) := by decide +kernel
theorem dX11_mayTake_44 : decode cX11_mayTake 44 = .ok (.iload 4, 2) := by decide +kernel
theorem dX11_mayTake_46 : decode cX11_mayTake 46 = .ok (.iconst 5, 1) := by decide +kernel
theorem dX11_mayTake_47 : decode cX11_mayTake 47 = .ok (.if_icmp .ne 7, 3) := by decide +kernel
theorem dX11_mayTake_50 : decode cX11_mayTake 50 = .ok (.iconst 3, 1) := by decide +kernel
theorem dX11_mayTake_51 : decode cX11_mayTake 51 = .ok (.goto 9, 3) := by decide +kernel
theorem dX11_mayTake_54 : decode cX11_mayTake 54 = .ok (.sipush 513, 3) := by decide +kernel
theorem dX11_mayTake_57 : decode cX11_mayTake 57 = .ok (.iload 6, 2) := by decide +kernel
theorem dX11_mayTake_59 : decode cX11_mayTake 59 = .ok (.ior, 1) := by decide +kernel
theorem dX11_mayTake_60 : decode cX11_mayTake 60 = .ok (.iastore, 1) := by decide +kernel
theorem dX11_mayTake_61 : decode cX11_mayTake 61 = .ok (.iload 5, 2) := by decide +kernel
theorem dX11_mayTake_63 : decode cX11_mayTake 63 = .ok (.ireturn, 1) := by decide +kernel
theorem dX11_mayAct_0 : decode cX11_mayAct 0 = .ok (.aload_n 0, 1) := by decide +kernel
theorem dX11_mayAct_1 : decode cX11_mayAct 1 = .ok (.getfield 38, 3) := by decide +kernel
theorem dX11_mayAct_4 : decode cX11_mayAct 4 = .ok (.iload_n 2, 1) := by decide +kernel
theorem dX11_mayAct_5 : decode cX11_mayAct 5 = .ok (.iaload, 1) := by decide +kernel
theorem dX11_mayAct_6 : decode cX11_mayAct 6 = .ok (.istore_n 3, 1) := by decide +kernel
theorem dX11_mayAct_7 : decode cX11_mayAct 7 = .ok (.aload_n 0, 1) := by decide +kernel
theorem dX11_mayAct_8 : decode cX11_mayAct 8 = .ok (.getfield 41, 3) := by decide +kernel
theorem dX11_mayAct_11 : decode cX11_mayAct 11 = .ok (.iload_n 2, 1) := by decide +kernel
theorem dX11_mayAct_12 : decode cX11_mayAct 12 = .ok (.iaload, 1) := by decide +kernel
theorem dX11_mayAct_13 : decode cX11_mayAct 13 = .ok (.istore 4, 2) := by decide +kernel
theorem dX11_mayAct_15 : decode cX11_mayAct 15 = .ok (.aload_n 0, 1) := by decide +kernel
theorem dX11_mayAct_16 : decode cX11_mayAct 16 = .ok (.getfield 44, 3) := by decide +kernel
theorem dX11_mayAct_19 : decode cX11_mayAct 19 = .ok (.iload_n 2, 1) := by decide +kernel
theorem dX11_mayAct_20 : decode cX11_mayAct 20 = .ok (.iaload, 1) := by decide +kernel
theorem dX11_mayAct_21 : decode cX11_mayAct 21 = .ok (.istore 5, 2) := by decide +kernel
theorem dX11_mayAct_23 : decode cX11_mayAct 23 = .ok (.aload_n 0, 1) := by decide +kernel
theorem dX11_mayAct_24 : decode cX11_mayAct 24 = .ok (.getfield 35, 3) := by decide +kernel
theorem dX11_mayAct_27 : decode cX11_mayAct 27 = .ok (.iload_n 2, 1) := by decide +kernel
theorem dX11_mayAct_28 : decode cX11_mayAct 28 = .ok (.iaload, 1) := by decide +kernel
theorem dX11_mayAct_29 : decode cX11_mayAct 29 = .ok (.tableswitch 370 0 16 #[83, 104, 128, 147, 169, 209, 219, 228, 239, 254, 282, 320, 348, 357, 357, 359, 359], 83) := by decide +kernel
theorem dX11_mayAct_112 : decode cX11_mayAct 112 = .ok (.aload_n 0, 1) := by decide +kernel
theorem dX11_mayAct_113 : decode cX11_mayAct 113 = .ok (.iload_n 1, 1) := by decide +kernel
theorem dX11_mayAct_114 : decode cX11_mayAct 114 = .ok (.iload 5, 2) := by decide +kernel
theorem dX11_mayAct_116 : decode cX11_mayAct 116 = .ok (.ifCond .ge 7, 3) := by decide +kernel
theorem dX11_mayAct_119 : decode cX11_mayAct 119 = .ok (.iconst 1, 1) := by decide +kernel
theorem dX11_mayAct_120 : decode cX11_mayAct 120 = .ok (.goto 4, 3) := by decide +kernel
theorem dX11_mayAct_123 : decode cX11_mayAct 123 = .ok (.iconst 0, 1) := by decide +kernel
theorem dX11_mayAct_124 : decode cX11_mayAct 124 = .ok (.iload_n 3, 1) := by decide +kernel
theorem dX11_mayAct_125 : decode cX11_mayAct 125 = .ok (.iconst 1, 1) := by decide +kernel
theorem dX11_mayAct_126 : decode cX11_mayAct 126 = .ok (.iload 4, 2) := by decide +kernel
theorem dX11_mayAct_128 : decode cX11_mayAct 128 = .ok (.ishl, 1) := by decide +kernel
theorem dX11_mayAct_129 : decode cX11_mayAct 129 = .ok (.invokevirtual 295, 3) := by decide +kernel
theorem dX11_mayAct_132 : decode cX11_mayAct 132 = .ok (.ireturn, 1) := by decide +kernel
theorem dX11_mayAct_133 : decode cX11_mayAct 133 = .ok (.aload_n 0, 1) := by decide +kernel
theorem dX11_mayAct_134 : decode cX11_mayAct 134 = .ok (.iload_n 1, 1) := by decide +kernel
theorem dX11_mayAct_135 : decode cX11_mayAct 135 = .ok (.iload 4, 2) := by decide +kernel
theorem dX11_mayAct_137 : decode cX11_mayAct 137 = .ok (.ifCond .lt 8, 3) := by decide +kernel
theorem dX11_mayAct_140 : decode cX11_mayAct 140 = .ok (.iload 5, 2) := by decide +kernel
theorem dX11_mayAct_142 : decode cX11_mayAct 142 = .ok (.ifCond .ge 7, 3) := by decide +kernel
theorem dX11_mayAct_145 : decode cX11_mayAct 145 = .ok (.iconst 1, 1) := by decide +kernel
theorem dX11_mayAct_146 : decode cX11_mayAct 146 = .ok (.goto 4, 3) := by decide +kernel
theorem dX11_mayAct_149 : decode cX11_mayAct 149 = .ok (.iconst 0, 1) := by decide +kernel
theorem dX11_mayAct_150 : decode cX11_mayAct 150 = .ok (.iload_n 3, 1) := by decide +kernel
theorem dX11_mayAct_151 : decode cX11_mayAct 151 = .ok (.bipush 32, 2) := by decide +kernel
theorem dX11_mayAct_153 : decode cX11_mayAct 153 = .ok (.invokevirtual 295, 3) := by decide +kernel
theorem dX11_mayAct_156 : decode cX11_mayAct 156 = .ok (.ireturn, 1) := by decide +kernel
theorem dX11_mayAct_157 : decode cX11_mayAct 157 = .ok (.aload_n 0, 1) := by decide +kernel
theorem dX11_mayAct_158 : decode cX11_mayAct 158 = .ok (.iload_n 1, 1) := by decide +kernel
theorem dX11_mayAct_159 : decode cX11_mayAct 159 = .ok (.iload 4, 2) := by decide +kernel
theorem dX11_mayAct_161 : decode cX11_mayAct 161 = .ok (.ifCond .ge 7, 3) := by decide +kernel
theorem dX11_mayAct_164 : decode cX11_mayAct 164 = .ok (.iconst 1, 1) := by decide +kernel
theorem dX11_mayAct_165 : decode cX11_mayAct 165 = .ok (.goto 4, 3) := by decide +kernel
theorem dX11_mayAct_168 : decode cX11_mayAct 168 = .ok (.iconst 0, 1) := by decide +kernel
theorem dX11_mayAct_169 : decode cX11_mayAct 169 = .ok (.iload_n 3, 1) := by decide +kernel
theorem dX11_mayAct_170 : decode cX11_mayAct 170 = .ok (.bipush 32, 2) := by decide +kernel
theorem dX11_mayAct_172 : decode cX11_mayAct 172 = .ok (.invokevirtual 295, 3) := by decide +kernel
theorem dX11_mayAct_175 : decode cX11_mayAct 175 = .ok (.ireturn, 1) := by decide +kernel
theorem dX11_mayAct_176 : decode cX11_mayAct 176 = .ok (.aload_n 0, 1) := by decide +kernel
theorem dX11_mayAct_177 : decode cX11_mayAct 177 = .ok (.iload_n 1, 1) := by decide +kernel
theorem dX11_mayAct_178 : decode cX11_mayAct 178 = .ok (.iconst 0, 1) := by decide +kernel
theorem dX11_mayAct_179 : decode cX11_mayAct 179 = .ok (.iload_n 3, 1) := by decide +kernel
theorem dX11_mayAct_180 : decode cX11_mayAct 180 = .ok (.iload 4, 2) := by decide +kernel
theorem dX11_mayAct_182 : decode cX11_mayAct 182 = .ok (.ifCond .ne 9, 3) := by decide +kernel
theorem dX11_mayAct_185 : decode cX11_mayAct 185 = .ok (.sipush 256, 3) := by decide +kernel
theorem dX11_mayAct_188 : decode cX11_mayAct 188 = .ok (.goto 6, 3) := by decide +kernel
theorem dX11_mayAct_191 : decode cX11_mayAct 191 = .ok (.sipush 512, 3) := by decide +kernel
theorem dX11_mayAct_194 : decode cX11_mayAct 194 = .ok (.invokevirtual 295, 3) := by decide +kernel
theorem dX11_mayAct_197 : decode cX11_mayAct 197 = .ok (.ireturn, 1) := by decide +kernel
theorem dX11_mayAct_198 : decode cX11_mayAct 198 = .ok (.iload 5, 2) := by decide +kernel
theorem dX11_mayAct_200 : decode cX11_mayAct 200 = .ok (.ifCond .eq 15, 3) := by decide +kernel
theorem dX11_mayAct_203 : decode cX11_mayAct 203 = .ok (.aload_n 0, 1) := by decide +kernel
theorem dX11_mayAct_204 : decode cX11_mayAct 204 = .ok (.iload_n 1, 1) := by decide +kernel
theorem dX11_mayAct_205 : decode cX11_mayAct 205 = .ok (.iload 4, 2) := by decide +kernel
theorem dX11_mayAct_207 : decode cX11_mayAct 207 = .ok (.iload 5, 2) := by decide +kernel
theorem dX11_mayAct_209 : decode cX11_mayAct 209 = .ok (.invokevirtual 283, 3) := by decide +kernel
theorem dX11_mayAct_212 : decode cX11_mayAct 212 = .ok (.ifCond .eq 7, 3) := by decide +kernel
theorem dX11_mayAct_215 : decode cX11_mayAct 215 = .ok (.iconst 1, 1) := by decide +kernel
theorem dX11_mayAct_216 : decode cX11_mayAct 216 = .ok (.goto 4, 3) := by decide +kernel
theorem dX11_mayAct_219 : decode cX11_mayAct 219 = .ok (.iconst 0, 1) := by decide +kernel
theorem dX11_mayAct_220 : decode cX11_mayAct 220 = .ok (.istore 6, 2) := by decide +kernel
theorem dX11_mayAct_222 : decode cX11_mayAct 222 = .ok (.aload_n 0, 1) := by decide +kernel
theorem dX11_mayAct_223 : decode cX11_mayAct 223 = .ok (.getfield 100, 3) := by decide +kernel
theorem dX11_mayAct_226 : decode cX11_mayAct 226 = .ok (.iload_n 3, 1) := by decide +kernel
theorem dX11_mayAct_227 : decode cX11_mayAct 227 = .ok (.aload_n 0, 1) := by decide +kernel
theorem dX11_mayAct_228 : decode cX11_mayAct 228 = .ok (.getfield 100, 3) := by decide +kernel
theorem dX11_mayAct_231 : decode cX11_mayAct 231 = .ok (.iload 4, 2) := by decide +kernel
theorem dX11_mayAct_233 : decode cX11_mayAct 233 = .ok (.iaload, 1) := by decide +kernel
theorem dX11_mayAct_234 : decode cX11_mayAct 234 = .ok (.iastore, 1) := by decide +kernel
theorem dX11_mayAct_235 : decode cX11_mayAct 235 = .ok (.iload 6, 2) := by decide +kernel
theorem dX11_mayAct_237 : decode cX11_mayAct 237 = .ok (.ireturn, 1) := by decide +kernel
theorem dX11_mayAct_238 : decode cX11_mayAct 238 = .ok (.aload_n 0, 1) := by decide +kernel
theorem dX11_mayAct_239 : decode cX11_mayAct 239 = .ok (.iload_n 1, 1) := by decide +kernel
theorem dX11_mayAct_240 : decode cX11_mayAct 240 = .ok (.iload 4, 2) := by decide +kernel
theorem dX11_mayAct_242 : decode cX11_mayAct 242 = .ok (.iload 5, 2) := by decide +kernel
theorem dX11_mayAct_244 : decode cX11_mayAct 244 = .ok (.invokevirtual 292, 3) := by decide +kernel
theorem dX11_mayAct_247 : decode cX11_mayAct 247 = .ok (.ireturn, 1) := by decide +kernel
theorem dX11_mayAct_248 : decode cX11_mayAct 248 = .ok (.aload_n 0, 1) := by decide +kernel
theorem dX11_mayAct_249 : decode cX11_mayAct 249 = .ok (.iload_n 1, 1) := by decide +kernel
theorem dX11_mayAct_250 : decode cX11_mayAct 250 = .ok (.iload_n 3, 1) := by decide +kernel
theorem dX11_mayAct_251 : decode cX11_mayAct 251 = .ok (.iload 4, 2) := by decide +kernel
theorem dX11_mayAct_253 : decode cX11_mayAct 253 = .ok (.invokevirtual 292, 3) := by decide +kernel
theorem dX11_mayAct_256 : decode cX11_mayAct 256 = .ok (.ireturn, 1) := by decide +kernel
theorem dX11_mayAct_257 : decode cX11_mayAct 257 = .ok (.aload_n 0, 1) := by decide +kernel
theorem dX11_mayAct_258 : decode cX11_mayAct 258 = .ok (.iload_n 1, 1) := by decide +kernel
theorem dX11_mayAct_259 : decode cX11_mayAct 259 = .ok (.iload_n 3, 1) := by decide +kernel
theorem dX11_mayAct_260 : decode cX11_mayAct 260 = .ok (.iload 4, 2) := by decide +kernel
theorem dX11_mayAct_262 : decode cX11_mayAct 262 = .ok (.iload 5, 2) := by decide +kernel
theorem dX11_mayAct_264 : decode cX11_mayAct 264 = .ok (.invokevirtual 299, 3) := by decide +kernel
theorem dX11_mayAct_267 : decode cX11_mayAct 267 = .ok (.ireturn, 1) := by decide +kernel
theorem dX11_mayAct_268 : decode cX11_mayAct 268 = .ok (.aload_n 0, 1) := by decide +kernel
theorem dX11_mayAct_269 : decode cX11_mayAct 269 = .ok (.iload_n 1, 1) := by decide +kernel
theorem dX11_mayAct_270 : decode cX11_mayAct 270 = .ok (.iload_n 3, 1) := by decide +kernel
theorem dX11_mayAct_271 : decode cX11_mayAct 271 = .ok (.iload 4, 2) := by decide +kernel
theorem dX11_mayAct_273 : decode cX11_mayAct 273 = .ok (.aload_n 0, 1) := by decide +kernel
theorem dX11_mayAct_274 : decode cX11_mayAct 274 = .ok (.getfield 47, 3) := by decide +kernel
theorem dX11_mayAct_277 : decode cX11_mayAct 277 = .ok (.iload_n 2, 1) := by decide +kernel
theorem dX11_mayAct_278 : decode cX11_mayAct 278 = .ok (.iaload, 1) := by decide +kernel
theorem dX11_mayAct_279 : decode cX11_mayAct 279 = .ok (.invokevirtual 303, 3) := by decide +kernel
theorem dX11_mayAct_282 : decode cX11_mayAct 282 = .ok (.ireturn, 1) := by decide +kernel
theorem dX11_mayAct_283 : decode cX11_mayAct 283 = .ok (.aload_n 0, 1) := by decide +kernel
theorem dX11_mayAct_284 : decode cX11_mayAct 284 = .ok (.iload_n 1, 1) := by decide +kernel
theorem dX11_mayAct_285 : decode cX11_mayAct 285 = .ok (.iload 4, 2) := by decide +kernel
theorem dX11_mayAct_287 : decode cX11_mayAct 287 = .ok (.iload 5, 2) := by decide +kernel
theorem dX11_mayAct_289 : decode cX11_mayAct 289 = .ok (.invokevirtual 283, 3) := by decide +kernel
theorem dX11_mayAct_292 : decode cX11_mayAct 292 = .ok (.ifCond .eq 17, 3) := by decide +kernel
theorem dX11_mayAct_295 : decode cX11_mayAct 295 = .ok (.aload_n 0, 1) := by decide +kernel
theorem dX11_mayAct_296 : decode cX11_mayAct 296 = .ok (.iload_n 1, 1) := by decide +kernel
theorem dX11_mayAct_297 : decode cX11_mayAct 297 = .ok (.iload 4, 2) := by decide +kernel
theorem dX11_mayAct_299 : decode cX11_mayAct 299 = .ok (.invokevirtual 286, 3) := by decide +kernel
theorem dX11_mayAct_302 : decode cX11_mayAct 302 = .ok (.ifCond .eq 7, 3) := by decide +kernel
theorem dX11_mayAct_305 : decode cX11_mayAct 305 = .ok (.iconst 1, 1) := by decide +kernel
theorem dX11_mayAct_306 : decode cX11_mayAct 306 = .ok (.goto 4, 3) := by decide +kernel
theorem dX11_mayAct_309 : decode cX11_mayAct 309 = .ok (.iconst 0, 1) := by decide +kernel
theorem dX11_mayAct_310 : decode cX11_mayAct 310 = .ok (.ireturn, 1) := by decide +kernel
theorem dX11_mayAct_311 : decode cX11_mayAct 311 = .ok (.aload_n 0, 1) := by decide +kernel
theorem dX11_mayAct_312 : decode cX11_mayAct 312 = .ok (.iload_n 1, 1) := by decide +kernel
theorem dX11_mayAct_313 : decode cX11_mayAct 313 = .ok (.iload 4, 2) := by decide +kernel
theorem dX11_mayAct_315 : decode cX11_mayAct 315 = .ok (.iconst 1, 1) := by decide +kernel
theorem dX11_mayAct_316 : decode cX11_mayAct 316 = .ok (.invokevirtual 283, 3) := by decide +kernel
theorem dX11_mayAct_319 : decode cX11_mayAct 319 = .ok (.ifCond .eq 28, 3) := by decide +kernel
theorem dX11_mayAct_322 : decode cX11_mayAct 322 = .ok (.aload_n 0, 1) := by decide +kernel
theorem dX11_mayAct_323 : decode cX11_mayAct 323 = .ok (.iload_n 1, 1) := by decide +kernel
theorem dX11_mayAct_324 : decode cX11_mayAct 324 = .ok (.iload 4, 2) := by decide +kernel
theorem dX11_mayAct_326 : decode cX11_mayAct 326 = .ok (.invokevirtual 286, 3) := by decide +kernel
theorem dX11_mayAct_329 : decode cX11_mayAct 329 = .ok (.ifCond .eq 18, 3) := by decide +kernel
theorem dX11_mayAct_332 : decode cX11_mayAct 332 = .ok (.aload_n 0, 1) := by decide +kernel
theorem dX11_mayAct_333 : decode cX11_mayAct 333 = .ok (.iload_n 1, 1) := by decide +kernel
theorem dX11_mayAct_334 : decode cX11_mayAct 334 = .ok (.iconst 0, 1) := by decide +kernel
theorem dX11_mayAct_335 : decode cX11_mayAct 335 = .ok (.iload_n 3, 1) := by decide +kernel
theorem dX11_mayAct_336 : decode cX11_mayAct 336 = .ok (.iconst 2, 1) := by decide +kernel
theorem dX11_mayAct_337 : decode cX11_mayAct 337 = .ok (.invokevirtual 295, 3) := by decide +kernel
theorem dX11_mayAct_340 : decode cX11_mayAct 340 = .ok (.ifCond .eq 7, 3) := by decide +kernel
theorem dX11_mayAct_343 : decode cX11_mayAct 343 = .ok (.iconst 1, 1) := by decide +kernel
theorem dX11_mayAct_344 : decode cX11_mayAct 344 = .ok (.goto 4, 3) := by decide +kernel
theorem dX11_mayAct_347 : decode cX11_mayAct 347 = .ok (.iconst 0, 1) := by decide +kernel
theorem dX11_mayAct_348 : decode cX11_mayAct 348 = .ok (.ireturn, 1) := by decide +kernel
theorem dX11_mayAct_349 : decode cX11_mayAct 349 = .ok (.aload_n 0, 1) := by decide +kernel
theorem dX11_mayAct_350 : decode cX11_mayAct 350 = .ok (.iload_n 1, 1) := by decide +kernel
theorem dX11_mayAct_351 : decode cX11_mayAct 351 = .ok (.iload 4, 2) := by decide +kernel
theorem dX11_mayAct_353 : decode cX11_mayAct 353 = .ok (.bipush 8, 2) := by decide +kernel
theorem dX11_mayAct_355 : decode cX11_mayAct 355 = .ok (.invokevirtual 283, 3) := by decide +kernel
theorem dX11_mayAct_358 : decode cX11_mayAct 358 = .ok (.ifCond .eq 17, 3) := by decide +kernel
theorem dX11_mayAct_361 : decode cX11_mayAct 361 = .ok (.aload_n 0, 1) := by decide +kernel
theorem dX11_mayAct_362 : decode cX11_mayAct 362 = .ok (.iload_n 1, 1) := by decide +kernel
theorem dX11_mayAct_363 : decode cX11_mayAct 363 = .ok (.iload 4, 2) := by decide +kernel
theorem dX11_mayAct_365 : decode cX11_mayAct 365 = .ok (.invokevirtual 286, 3) := by decide +kernel
theorem dX11_mayAct_368 : decode cX11_mayAct 368 = .ok (.ifCond .eq 7, 3) := by decide +kernel
theorem dX11_mayAct_371 : decode cX11_mayAct 371 = .ok (.iconst 1, 1) := by decide +kernel
theorem dX11_mayAct_372 : decode cX11_mayAct 372 = .ok (.goto 4, 3) := by decide +kernel
theorem dX11_mayAct_375 : decode cX11_mayAct 375 = .ok (.iconst 0, 1) := by decide +kernel
theorem dX11_mayAct_376 : decode cX11_mayAct 376 = .ok (.ireturn, 1) := by decide +kernel
theorem dX11_mayAct_377 : decode cX11_mayAct 377 = .ok (.aload_n 0, 1) := by decide +kernel
theorem dX11_mayAct_378 : decode cX11_mayAct 378 = .ok (.iload_n 1, 1) := by decide +kernel
theorem dX11_mayAct_379 : decode cX11_mayAct 379 = .ok (.iload_n 3, 1) := by decide +kernel
theorem dX11_mayAct_380 : decode cX11_mayAct 380 = .ok (.iload 5, 2) := by decide +kernel
theorem dX11_mayAct_382 : decode cX11_mayAct 382 = .ok (.invokevirtual 306, 3) := by decide +kernel
theorem dX11_mayAct_385 : decode cX11_mayAct 385 = .ok (.ireturn, 1) := by decide +kernel
theorem dX11_mayAct_386 : decode cX11_mayAct 386 = .ok (.iconst 1, 1) := by decide +kernel
theorem dX11_mayAct_387 : decode cX11_mayAct 387 = .ok (.ireturn, 1) := by decide +kernel
theorem dX11_mayAct_388 : decode cX11_mayAct 388 = .ok (.aload_n 0, 1) := by decide +kernel
theorem dX11_mayAct_389 : decode cX11_mayAct 389 = .ok (.iload_n 1, 1) := by decide +kernel
theorem dX11_mayAct_390 : decode cX11_mayAct 390 = .ok (.bipush 6, 2) := by decide +kernel
theorem dX11_mayAct_392 : decode cX11_mayAct 392 = .ok (.iconst (-1), 1) := by decide +kernel
theorem dX11_mayAct_393 : decode cX11_mayAct 393 = .ok (.iconst 0, 1) := by decide +kernel
theorem dX11_mayAct_394 : decode cX11_mayAct 394 = .ok (.invokevirtual 279, 3) := by decide +kernel
theorem dX11_mayAct_397 : decode cX11_mayAct 397 = .ok (.iconst 1, 1) := by decide +kernel
theorem dX11_mayAct_398 : decode cX11_mayAct 398 = .ok (.ireturn, 1) := by decide +kernel
theorem dX11_mayAct_399 : decode cX11_mayAct 399 = .ok (.aload_n 0, 1) := by decide +kernel
theorem dX11_mayAct_400 : decode cX11_mayAct 400 = .ok (.iload_n 1, 1) := by decide +kernel
theorem dX11_mayAct_401 : decode cX11_mayAct 401 = .ok (.bipush 7, 2) := by decide +kernel
theorem dX11_mayAct_403 : decode cX11_mayAct 403 = .ok (.iconst (-1), 1) := by decide +kernel
theorem dX11_mayAct_404 : decode cX11_mayAct 404 = .ok (.iconst 0, 1) := by decide +kernel
theorem dX11_mayAct_405 : decode cX11_mayAct 405 = .ok (.invokevirtual 279, 3) := by decide +kernel
theorem dX11_mayAct_408 : decode cX11_mayAct 408 = .ok (.iconst 0, 1) := by decide +kernel
theorem dX11_mayAct_409 : decode cX11_mayAct 409 = .ok (.ireturn, 1) := by decide +kernel
theorem dX11_put_0 : decode cX11_put 0 = .ok (.iload_n 2, 1) := by decide +kernel
theorem dX11_put_1 : decode cX11_put 1 = .ok (.istore_n 3, 1) := by decide +kernel
theorem dX11_put_2 : decode cX11_put 2 = .ok (.iload_n 3, 1) := by decide +kernel
theorem dX11_put_3 : decode cX11_put 3 = .ok (.bipush 9, 2) := by decide +kernel
theorem dX11_put_5 : decode cX11_put 5 = .ok (.if_icmp .ge 41, 3) := by decide +kernel
theorem dX11_put_8 : decode cX11_put 8 = .ok (.aload_n 0, 1) := by decide +kernel
theorem dX11_put_9 : decode cX11_put 9 = .ok (.getfield 91, 3) := by decide +kernel
theorem dX11_put_12 : decode cX11_put 12 = .ok (.bipush 108, 2) := by decide +kernel
theorem dX11_put_14 : decode cX11_put 14 = .ok (.iload_n 1, 1) := by decide +kernel
theorem dX11_put_15 : decode cX11_put 15 = .ok (.imul, 1) := by decide +kernel
theorem dX11_put_16 : decode cX11_put 16 = .ok (.bipush 108, 2) := by decide +kernel
theorem dX11_put_18 : decode cX11_put 18 = .ok (.iadd, 1) := by decide +kernel
theorem dX11_put_19 : decode cX11_put 19 = .ok (.bipush 12, 2) := by decide +kernel
theorem dX11_put_21 : decode cX11_put 21 = .ok (.iload_n 3, 1) := by decide +kernel
theorem dX11_put_22 : decode cX11_put 22 = .ok (.imul, 1) := by decide +kernel
theorem dX11_put_23 : decode cX11_put 23 = .ok (.iadd, 1) := by decide +kernel
theorem dX11_put_24 : decode cX11_put 24 = .ok (.aload_n 0, 1) := by decide +kernel
theorem dX11_put_25 : decode cX11_put 25 = .ok (.getfield 91, 3) := by decide +kernel
theorem dX11_put_28 : decode cX11_put 28 = .ok (.bipush 108, 2) := by decide +kernel
theorem dX11_put_30 : decode cX11_put 30 = .ok (.iload_n 1, 1) := by decide +kernel
theorem dX11_put_31 : decode cX11_put 31 = .ok (.imul, 1) := by decide +kernel
theorem dX11_put_32 : decode cX11_put 32 = .ok (.bipush 12, 2) := by decide +kernel
theorem dX11_put_34 : decode cX11_put 34 = .ok (.iload_n 3, 1) := by decide +kernel
theorem dX11_put_35 : decode cX11_put 35 = .ok (.imul, 1) := by decide +kernel
theorem dX11_put_36 : decode cX11_put 36 = .ok (.iadd, 1) := by decide +kernel
theorem dX11_put_37 : decode cX11_put 37 = .ok (.invokestatic 275, 3) := by decide +kernel
theorem dX11_put_40 : decode cX11_put 40 = .ok (.iinc 3 1, 3) := by decide +kernel
theorem dX11_put_43 : decode cX11_put 43 = .ok (.goto (-41), 3) := by decide +kernel
theorem dX11_put_46 : decode cX11_put 46 = .ok (.return_, 1) := by decide +kernel
theorem dX11_enter_0 : decode cX11_enter 0 = .ok (.aload_n 0, 1) := by decide +kernel
theorem dX11_enter_1 : decode cX11_enter 1 = .ok (.getfield 91, 3) := by decide +kernel
theorem dX11_enter_4 : decode cX11_enter 4 = .ok (.bipush 108, 2) := by decide +kernel
theorem dX11_enter_6 : decode cX11_enter 6 = .ok (.iload_n 2, 1) := by decide +kernel
theorem dX11_enter_7 : decode cX11_enter 7 = .ok (.imul, 1) := by decide +kernel
theorem dX11_enter_8 : decode cX11_enter 8 = .ok (.bipush 108, 2) := by decide +kernel
theorem dX11_enter_10 : decode cX11_enter 10 = .ok (.invokestatic 309, 3) := by decide +kernel
theorem dX11_enter_13 : decode cX11_enter 13 = .ok (.aload_n 0, 1) := by decide +kernel
theorem dX11_enter_14 : decode cX11_enter 14 = .ok (.getfield 76, 3) := by decide +kernel
theorem dX11_enter_17 : decode cX11_enter 17 = .ok (.iload_n 1, 1) := by decide +kernel
theorem dX11_enter_18 : decode cX11_enter 18 = .ok (.iconst 1, 1) := by decide +kernel
theorem dX11_enter_19 : decode cX11_enter 19 = .ok (.bastore, 1) := by decide +kernel
theorem dX11_enter_20 : decode cX11_enter 20 = .ok (.aload_n 0, 1) := by decide +kernel
theorem dX11_enter_21 : decode cX11_enter 21 = .ok (.getfield 97, 3) := by decide +kernel
theorem dX11_enter_24 : decode cX11_enter 24 = .ok (.bipush 12, 2) := by decide +kernel
theorem dX11_enter_26 : decode cX11_enter 26 = .ok (.iload_n 2, 1) := by decide +kernel
theorem dX11_enter_27 : decode cX11_enter 27 = .ok (.imul, 1) := by decide +kernel
theorem dX11_enter_28 : decode cX11_enter 28 = .ok (.aload_n 0, 1) := by decide +kernel
theorem dX11_enter_29 : decode cX11_enter 29 = .ok (.getfield 82, 3) := by decide +kernel
theorem dX11_enter_32 : decode cX11_enter 32 = .ok (.bipush 12, 2) := by decide +kernel
theorem dX11_enter_34 : decode cX11_enter 34 = .ok (.iload_n 1, 1) := by decide +kernel
theorem dX11_enter_35 : decode cX11_enter 35 = .ok (.imul, 1) := by decide +kernel
theorem dX11_enter_36 : decode cX11_enter 36 = .ok (.invokestatic 275, 3) := by decide +kernel
theorem dX11_enter_39 : decode cX11_enter 39 = .ok (.return_, 1) := by decide +kernel
theorem dX11_leave_0 : decode cX11_leave 0 = .ok (.iconst 0, 1) := by decide +kernel
theorem dX11_leave_1 : decode cX11_leave 1 = .ok (.istore_n 3, 1) := by decide +kernel
theorem dX11_leave_2 : decode cX11_leave 2 = .ok (.iload_n 3, 1) := by decide +kernel
theorem dX11_leave_3 : decode cX11_leave 3 = .ok (.bipush 9, 2) := by decide +kernel
theorem dX11_leave_5 : decode cX11_leave 5 = .ok (.if_icmp .ge 42, 3) := by decide +kernel
theorem dX11_leave_8 : decode cX11_leave 8 = .ok (.aload_n 0, 1) := by decide +kernel
theorem dX11_leave_9 : decode cX11_leave 9 = .ok (.getfield 79, 3) := by decide +kernel
theorem dX11_leave_12 : decode cX11_leave 12 = .ok (.iload_n 1, 1) := by decide +kernel
theorem dX11_leave_13 : decode cX11_leave 13 = .ok (.dup2, 1) := by decide +kernel
theorem dX11_leave_14 : decode cX11_leave 14 = .ok (.iaload, 1) := by decide +kernel
theorem dX11_leave_15 : decode cX11_leave 15 = .ok (.aload_n 0, 1) := by decide +kernel
theorem dX11_leave_16 : decode cX11_leave 16 = .ok (.getfield 91, 3) := by decide +kernel
theorem dX11_leave_19 : decode cX11_leave 19 = .ok (.bipush 108, 2) := by decide +kernel
theorem dX11_leave_21 : decode cX11_leave 21 = .ok (.iload_n 2, 1) := by decide +kernel
theorem dX11_leave_22 : decode cX11_leave 22 = .ok (.imul, 1) := by decide +kernel
theorem dX11_leave_23 : decode cX11_leave 23 = .ok (.bipush 12, 2) := by decide +kernel
theorem dX11_leave_25 : decode cX11_leave 25 = .ok (.iload_n 3, 1) := by decide +kernel
theorem dX11_leave_26 : decode cX11_leave 26 = .ok (.imul, 1) := by decide +kernel
theorem dX11_leave_27 : decode cX11_leave 27 = .ok (.iadd, 1) := by decide +kernel
theorem dX11_leave_28 : decode cX11_leave 28 = .ok (.iaload, 1) := by decide +kernel
theorem dX11_leave_29 : decode cX11_leave 29 = .ok (.ifCond .eq 9, 3) := by decide +kernel
theorem dX11_leave_32 : decode cX11_leave 32 = .ok (.iconst 1, 1) := by decide +kernel
theorem dX11_leave_33 : decode cX11_leave 33 = .ok (.iload_n 3, 1) := by decide +kernel
theorem dX11_leave_34 : decode cX11_leave 34 = .ok (.ishl, 1) := by decide +kernel
theorem dX11_leave_35 : decode cX11_leave 35 = .ok (.goto 4, 3) := by decide +kernel
theorem dX11_leave_38 : decode cX11_leave 38 = .ok (.iconst 0, 1) := by decide +kernel
theorem dX11_leave_39 : decode cX11_leave 39 = .ok (.ior, 1) := by decide +kernel
theorem dX11_leave_40 : decode cX11_leave 40 = .ok (.iastore, 1) := by decide +kernel
theorem dX11_leave_41 : decode cX11_leave 41 = .ok (.iinc 3 1, 3) := by decide +kernel
theorem dX11_leave_44 : decode cX11_leave 44 = .ok (.goto (-42), 3) := by decide +kernel
theorem dX11_leave_47 : decode cX11_leave 47 = .ok (.aload_n 0, 1) := by decide +kernel
theorem dX11_leave_48 : decode cX11_leave 48 = .ok (.dup, 1) := by decide +kernel
theorem dX11_leave_49 : decode cX11_leave 49 = .ok (.getfield 228, 3) := by decide +kernel
theorem dX11_leave_52 : decode cX11_leave 52 = .ok (.iconst 1, 1) := by decide +kernel
theorem dX11_leave_53 : decode cX11_leave 53 = .ok (.isub, 1) := by decide +kernel
theorem dX11_leave_54 : decode cX11_leave 54 = .ok (.putfield 228, 3) := by decide +kernel
theorem dX11_leave_57 : decode cX11_leave 57 = .ok (.return_, 1) := by decide +kernel
theorem dX11_throughAct_0 : decode cX11_throughAct 0 = .ok (.aload_n 0, 1) := by decide +kernel
theorem dX11_throughAct_1 : decode cX11_throughAct 1 = .ok (.iload_n 1, 1) := by decide +kernel
theorem dX11_throughAct_2 : decode cX11_throughAct 2 = .ok (.iload_n 2, 1) := by decide +kernel
theorem dX11_throughAct_3 : decode cX11_throughAct 3 = .ok (.invokevirtual 313, 3) := by decide +kernel
theorem dX11_throughAct_6 : decode cX11_throughAct 6 = .ok (.aload_n 0, 1) := by decide +kernel
theorem dX11_throughAct_7 : decode cX11_throughAct 7 = .ok (.getfield 97, 3) := by decide +kernel
theorem dX11_throughAct_10 : decode cX11_throughAct 10 = .ok (.bipush 12, 2) := by decide +kernel
theorem dX11_throughAct_12 : decode cX11_throughAct 12 = .ok (.iload_n 2, 1) := by decide +kernel
theorem dX11_throughAct_13 : decode cX11_throughAct 13 = .ok (.imul, 1) := by decide +kernel
theorem dX11_throughAct_14 : decode cX11_throughAct 14 = .ok (.aload_n 0, 1) := by decide +kernel
theorem dX11_throughAct_15 : decode cX11_throughAct 15 = .ok (.getfield 100, 3) := by decide +kernel
theorem dX11_throughAct_18 : decode cX11_throughAct 18 = .ok (.iconst 0, 1) := by decide +kernel
theorem dX11_throughAct_19 : decode cX11_throughAct 19 = .ok (.invokestatic 316, 3) := by decide +kernel
theorem dX11_throughAct_22 : decode cX11_throughAct 22 = .ok (.aload_n 0, 1) := by decide +kernel
theorem dX11_throughAct_23 : decode cX11_throughAct 23 = .ok (.iload_n 2, 1) := by decide +kernel
theorem dX11_throughAct_24 : decode cX11_throughAct 24 = .ok (.iload_n 1, 1) := by decide +kernel
theorem dX11_throughAct_25 : decode cX11_throughAct 25 = .ok (.invokevirtual 318, 3) := by decide +kernel
theorem dX11_throughAct_28 : decode cX11_throughAct 28 = .ok (.ifCond .eq 19, 3) := by decide +kernel
theorem dX11_throughAct_31 : decode cX11_throughAct 31 = .ok (.aload_n 0, 1) := by decide +kernel
theorem dX11_throughAct_32 : decode cX11_throughAct 32 = .ok (.getfield 100, 3) := by decide +kernel
theorem dX11_throughAct_35 : decode cX11_throughAct 35 = .ok (.iconst 0, 1) := by decide +kernel
theorem dX11_throughAct_36 : decode cX11_throughAct 36 = .ok (.aload_n 0, 1) := by decide +kernel
theorem dX11_throughAct_37 : decode cX11_throughAct 37 = .ok (.getfield 91, 3) := by decide +kernel
theorem dX11_throughAct_40 : decode cX11_throughAct 40 = .ok (.bipush 108, 2) := by decide +kernel
theorem dX11_throughAct_42 : decode cX11_throughAct 42 = .ok (.iload_n 2, 1) := by decide +kernel
theorem dX11_throughAct_43 : decode cX11_throughAct 43 = .ok (.imul, 1) := by decide +kernel
theorem dX11_throughAct_44 : decode cX11_throughAct 44 = .ok (.invokestatic 275, 3) := by decide +kernel
theorem dX11_throughAct_47 : decode cX11_throughAct 47 = .ok (.aload_n 0, 1) := by decide +kernel
theorem dX11_throughAct_48 : decode cX11_throughAct 48 = .ok (.iload_n 1, 1) := by decide +kernel
theorem dX11_throughAct_49 : decode cX11_throughAct 49 = .ok (.iload_n 2, 1) := by decide +kernel
theorem dX11_throughAct_50 : decode cX11_throughAct 50 = .ok (.invokevirtual 321, 3) := by decide +kernel
theorem dX11_throughAct_53 : decode cX11_throughAct 53 = .ok (.return_, 1) := by decide +kernel
theorem dX11_throughBoth_0 : decode cX11_throughBoth 0 = .ok (.aload_n 0, 1) := by decide +kernel
theorem dX11_throughBoth_1 : decode cX11_throughBoth 1 = .ok (.getfield 63, 3) := by decide +kernel
theorem dX11_throughBoth_4 : decode cX11_throughBoth 4 = .ok (.aload_n 0, 1) := by decide +kernel
theorem dX11_throughBoth_5 : decode cX11_throughBoth 5 = .ok (.getfield 228, 3) := by decide +kernel
theorem dX11_throughBoth_8 : decode cX11_throughBoth 8 = .ok (.iaload, 1) := by decide +kernel
theorem dX11_throughBoth_9 : decode cX11_throughBoth 9 = .ok (.istore_n 3, 1) := by decide +kernel
theorem dX11_throughBoth_10 : decode cX11_throughBoth 10 = .ok (.bipush 108, 2) := by decide +kernel
theorem dX11_throughBoth_12 : decode cX11_throughBoth 12 = .ok (.iload_n 2, 1) := by decide +kernel
theorem dX11_throughBoth_13 : decode cX11_throughBoth 13 = .ok (.imul, 1) := by decide +kernel
theorem dX11_throughBoth_14 : decode cX11_throughBoth 14 = .ok (.bipush 108, 2) := by decide +kernel
theorem dX11_throughBoth_16 : decode cX11_throughBoth 16 = .ok (.iadd, 1) := by decide +kernel
theorem dX11_throughBoth_17 : decode cX11_throughBoth 17 = .ok (.istore 4, 2) := by decide +kernel
theorem dX11_throughBoth_19 : decode cX11_throughBoth 19 = .ok (.iload_n 3, 1) := by decide +kernel
theorem dX11_throughBoth_20 : decode cX11_throughBoth 20 = .ok (.ifCond .ne 43, 3) := by decide +kernel
theorem dX11_throughBoth_23 : decode cX11_throughBoth 23 = .ok (.aload_n 0, 1) := by decide +kernel
theorem dX11_throughBoth_24 : decode cX11_throughBoth 24 = .ok (.iload_n 1, 1) := by decide +kernel
theorem dX11_throughBoth_25 : decode cX11_throughBoth 25 = .ok (.iload_n 2, 1) := by decide +kernel
theorem dX11_throughBoth_26 : decode cX11_throughBoth 26 = .ok (.invokevirtual 313, 3) := by decide +kernel
theorem dX11_throughBoth_29 : decode cX11_throughBoth 29 = .ok (.aload_n 0, 1) := by decide +kernel
theorem dX11_throughBoth_30 : decode cX11_throughBoth 30 = .ok (.getfield 97, 3) := by decide +kernel
theorem dX11_throughBoth_33 : decode cX11_throughBoth 33 = .ok (.bipush 12, 2) := by decide +kernel
theorem dX11_throughBoth_35 : decode cX11_throughBoth 35 = .ok (.iload_n 2, 1) := by decide +kernel
theorem dX11_throughBoth_36 : decode cX11_throughBoth 36 = .ok (.imul, 1) := by decide +kernel
theorem dX11_throughBoth_37 : decode cX11_throughBoth 37 = .ok (.aload_n 0, 1) := by decide +kernel
theorem dX11_throughBoth_38 : decode cX11_throughBoth 38 = .ok (.getfield 97, 3) := by decide +kernel
theorem dX11_throughBoth_41 : decode cX11_throughBoth 41 = .ok (.bipush 12, 2) := by decide +kernel
theorem dX11_throughBoth_43 : decode cX11_throughBoth 43 = .ok (.iload_n 2, 1) := by decide +kernel
theorem dX11_throughBoth_44 : decode cX11_throughBoth 44 = .ok (.imul, 1) := by decide +kernel
theorem dX11_throughBoth_45 : decode cX11_throughBoth 45 = .ok (.bipush 12, 2) := by decide +kernel
theorem dX11_throughBoth_47 : decode cX11_throughBoth 47 = .ok (.iadd, 1) := by decide +kernel
theorem dX11_throughBoth_48 : decode cX11_throughBoth 48 = .ok (.invokestatic 316, 3) := by decide +kernel
theorem dX11_throughBoth_51 : decode cX11_throughBoth 51 = .ok (.aload_n 0, 1) := by decide +kernel
theorem dX11_throughBoth_52 : decode cX11_throughBoth 52 = .ok (.iconst 1, 1) := by decide +kernel
theorem dX11_throughBoth_53 : decode cX11_throughBoth 53 = .ok (.aload_n 0, 1) := by decide +kernel
theorem dX11_throughBoth_54 : decode cX11_throughBoth 54 = .ok (.getfield 38, 3) := by decide +kernel
theorem dX11_throughBoth_57 : decode cX11_throughBoth 57 = .ok (.iload_n 1, 1) := by decide +kernel
theorem dX11_throughBoth_58 : decode cX11_throughBoth 58 = .ok (.iaload, 1) := by decide +kernel
theorem dX11_throughBoth_59 : decode cX11_throughBoth 59 = .ok (.invokevirtual 244, 3) := by decide +kernel
theorem dX11_throughBoth_62 : decode cX11_throughBoth 62 = .ok (.return_, 1) := by decide +kernel
theorem dX11_throughBoth_63 : decode cX11_throughBoth 63 = .ok (.aload_n 0, 1) := by decide +kernel
theorem dX11_throughBoth_64 : decode cX11_throughBoth 64 = .ok (.iload_n 2, 1) := by decide +kernel
theorem dX11_throughBoth_65 : decode cX11_throughBoth 65 = .ok (.iload_n 3, 1) := by decide +kernel
theorem dX11_throughBoth_66 : decode cX11_throughBoth 66 = .ok (.iconst 1, 1) := by decide +kernel
theorem dX11_throughBoth_67 : decode cX11_throughBoth 67 = .ok (.if_icmp .ne 7, 3) := by decide +kernel
theorem dX11_throughBoth_70 : decode cX11_throughBoth 70 = .ok (.iconst 1, 1) := by decide +kernel
theorem dX11_throughBoth_71 : decode cX11_throughBoth 71 = .ok (.goto 4, 3) := by decide +kernel
theorem dX11_throughBoth_74 : decode cX11_throughBoth 74 = .ok (.iconst 0, 1) := by decide +kernel
theorem dX11_throughBoth_75 : decode cX11_throughBoth 75 = .ok (.invokevirtual 324, 3) := by decide +kernel
theorem dX11_throughBoth_78 : decode cX11_throughBoth 78 = .ok (.iload_n 3, 1) := by decide +kernel
theorem dX11_throughBoth_79 : decode cX11_throughBoth 79 = .ok (.iconst 1, 1) := by decide +kernel
theorem dX11_throughBoth_80 : decode cX11_throughBoth 80 = .ok (.if_icmp .ne 47, 3) := by decide +kernel
theorem dX11_throughBoth_83 : decode cX11_throughBoth 83 = .ok (.aload_n 0, 1) := by decide +kernel
theorem dX11_throughBoth_84 : decode cX11_throughBoth 84 = .ok (.getfield 91, 3) := by decide +kernel
theorem dX11_throughBoth_87 : decode cX11_throughBoth 87 = .ok (.iload 4, 2) := by decide +kernel
theorem dX11_throughBoth_89 : decode cX11_throughBoth 89 = .ok (.iaload, 1) := by decide +kernel
theorem dX11_throughBoth_90 : decode cX11_throughBoth 90 = .ok (.ifCond .eq 37, 3) := by decide +kernel
theorem dX11_throughBoth_93 : decode cX11_throughBoth 93 = .ok (.aload_n 0, 1) := by decide +kernel
theorem dX11_throughBoth_94 : decode cX11_throughBoth 94 = .ok (.getfield 91, 3) := by decide +kernel
theorem dX11_throughBoth_97 : decode cX11_throughBoth 97 = .ok (.iload 4, 2) := by decide +kernel
theorem dX11_throughBoth_99 : decode cX11_throughBoth 99 = .ok (.aload_n 0, 1) := by decide +kernel
theorem dX11_throughBoth_100 : decode cX11_throughBoth 100 = .ok (.getfield 97, 3) := by decide +kernel
theorem dX11_throughBoth_103 : decode cX11_throughBoth 103 = .ok (.bipush 12, 2) := by decide +kernel
theorem dX11_throughBoth_105 : decode cX11_throughBoth 105 = .ok (.iload_n 2, 1) := by decide +kernel
theorem dX11_throughBoth_106 : decode cX11_throughBoth 106 = .ok (.imul, 1) := by decide +kernel
theorem dX11_throughBoth_107 : decode cX11_throughBoth 107 = .ok (.bipush 12, 2) := by decide +kernel
theorem dX11_throughBoth_109 : decode cX11_throughBoth 109 = .ok (.iadd, 1) := by decide +kernel
theorem dX11_throughBoth_110 : decode cX11_throughBoth 110 = .ok (.invokestatic 316, 3) := by decide +kernel
theorem dX11_throughBoth_113 : decode cX11_throughBoth 113 = .ok (.aload_n 0, 1) := by decide +kernel
theorem dX11_throughBoth_114 : decode cX11_throughBoth 114 = .ok (.iconst 2, 1) := by decide +kernel
theorem dX11_throughBoth_115 : decode cX11_throughBoth 115 = .ok (.aload_n 0, 1) := by decide +kernel
theorem dX11_throughBoth_116 : decode cX11_throughBoth 116 = .ok (.getfield 41, 3) := by decide +kernel
theorem dX11_throughBoth_119 : decode cX11_throughBoth 119 = .ok (.iload_n 1, 1) := by decide +kernel
theorem dX11_throughBoth_120 : decode cX11_throughBoth 120 = .ok (.iaload, 1) := by decide +kernel
theorem dX11_throughBoth_121 : decode cX11_throughBoth 121 = .ok (.invokevirtual 244, 3) := by decide +kernel
theorem dX11_throughBoth_124 : decode cX11_throughBoth 124 = .ok (.goto 9, 3) := by decide +kernel
theorem dX11_throughBoth_127 : decode cX11_throughBoth 127 = .ok (.aload_n 0, 1) := by decide +kernel
theorem dX11_throughBoth_128 : decode cX11_throughBoth 128 = .ok (.iload_n 1, 1) := by decide +kernel
theorem dX11_throughBoth_129 : decode cX11_throughBoth 129 = .ok (.iload_n 2, 1) := by decide +kernel
theorem dX11_throughBoth_130 : decode cX11_throughBoth 130 = .ok (.invokevirtual 321, 3) := by decide +kernel
theorem dX11_throughBoth_133 : decode cX11_throughBoth 133 = .ok (.return_, 1) := by decide +kernel
theorem dX11_throughChoice_0 : decode cX11_throughChoice 0 = .ok (.aload_n 0, 1) := by decide +kernel
theorem dX11_throughChoice_1 : decode cX11_throughChoice 1 = .ok (.getfield 63, 3) := by decide +kernel
theorem dX11_throughChoice_4 : decode cX11_throughChoice 4 = .ok (.aload_n 0, 1) := by decide +kernel
theorem dX11_throughChoice_5 : decode cX11_throughChoice 5 = .ok (.getfield 228, 3) := by decide +kernel
theorem dX11_throughChoice_8 : decode cX11_throughChoice 8 = .ok (.iaload, 1) := by decide +kernel
theorem dX11_throughChoice_9 : decode cX11_throughChoice 9 = .ok (.istore_n 3, 1) := by decide +kernel
theorem dX11_throughChoice_10 : decode cX11_throughChoice 10 = .ok (.iload_n 3, 1) := by decide +kernel
theorem dX11_throughChoice_11 : decode cX11_throughChoice 11 = .ok (.ifCond .ne 12, 3) := by decide +kernel
theorem dX11_throughChoice_14 : decode cX11_throughChoice 14 = .ok (.aload_n 0, 1) := by decide +kernel
theorem dX11_throughChoice_15 : decode cX11_throughChoice 15 = .ok (.iload_n 1, 1) := by decide +kernel
theorem dX11_throughChoice_16 : decode cX11_throughChoice 16 = .ok (.iload_n 2, 1) := by decide +kernel
theorem dX11_throughChoice_17 : decode cX11_throughChoice 17 = .ok (.invokevirtual 313, 3) := by decide +kernel
theorem dX11_throughChoice_20 : decode cX11_throughChoice 20 = .ok (.goto 21, 3) := by decide +kernel
theorem dX11_throughChoice_23 : decode cX11_throughChoice 23 = .ok (.aload_n 0, 1) := by decide +kernel
theorem dX11_throughChoice_24 : decode cX11_throughChoice 24 = .ok (.getfield 66, 3) := by decide +kernel
theorem dX11_throughChoice_27 : decode cX11_throughChoice 27 = .ok (.aload_n 0, 1) := by decide +kernel
theorem dX11_throughChoice_28 : decode cX11_throughChoice 28 = .ok (.getfield 228, 3) := by decide +kernel
theorem dX11_throughChoice_31 : decode cX11_throughChoice 31 = .ok (.iaload, 1) := by decide +kernel
theorem dX11_throughChoice_32 : decode cX11_throughChoice 32 = .ok (.ifCond .eq 9, 3) := by decide +kernel
theorem dX11_throughChoice_35 : decode cX11_throughChoice 35 = .ok (.aload_n 0, 1) := by decide +kernel
theorem dX11_throughChoice_36 : decode cX11_throughChoice 36 = .ok (.iload_n 2, 1) := by decide +kernel
theorem dX11_throughChoice_37 : decode cX11_throughChoice 37 = .ok (.iconst 0, 1) := by decide +kernel
theorem dX11_throughChoice_38 : decode cX11_throughChoice 38 = .ok (.invokevirtual 324, 3) := by decide +kernel
theorem dX11_throughChoice_41 : decode cX11_throughChoice 41 = .ok (.iload_n 3, 1) := by decide +kernel
theorem dX11_throughChoice_42 : decode cX11_throughChoice 42 = .ok (.iconst 2, 1) := by decide +kernel
theorem dX11_throughChoice_43 : decode cX11_throughChoice 43 = .ok (.if_icmp .ne 10, 3) := by decide +kernel
theorem dX11_throughChoice_46 : decode cX11_throughChoice 46 = .ok (.aload_n 0, 1) := by decide +kernel
theorem dX11_throughChoice_47 : decode cX11_throughChoice 47 = .ok (.iload_n 1, 1) := by decide +kernel
theorem dX11_throughChoice_48 : decode cX11_throughChoice 48 = .ok (.iload_n 2, 1) := by decide +kernel
theorem dX11_throughChoice_49 : decode cX11_throughChoice 49 = .ok (.invokevirtual 321, 3) := by decide +kernel
theorem dX11_throughChoice_52 : decode cX11_throughChoice 52 = .ok (.return_, 1) := by decide +kernel
theorem dX11_throughChoice_53 : decode cX11_throughChoice 53 = .ok (.aload_n 0, 1) := by decide +kernel
theorem dX11_throughChoice_54 : decode cX11_throughChoice 54 = .ok (.getfield 41, 3) := by decide +kernel
theorem dX11_throughChoice_57 : decode cX11_throughChoice 57 = .ok (.iload_n 1, 1) := by decide +kernel
theorem dX11_throughChoice_58 : decode cX11_throughChoice 58 = .ok (.iaload, 1) := by decide +kernel
theorem dX11_throughChoice_59 : decode cX11_throughChoice 59 = .ok (.ifCond .ne 7, 3) := by decide +kernel
theorem dX11_throughChoice_62 : decode cX11_throughChoice 62 = .ok (.iconst 1, 1) := by decide +kernel
theorem dX11_throughChoice_63 : decode cX11_throughChoice 63 = .ok (.goto 12, 3) := by decide +kernel
theorem dX11_throughChoice_66 : decode cX11_throughChoice 66 = .ok (.aload_n 0, 1) := by decide +kernel
theorem dX11_throughChoice_67 : decode cX11_throughChoice 67 = .ok (.getfield 41, 3) := by decide +kernel
theorem dX11_throughChoice_70 : decode cX11_throughChoice 70 = .ok (.iload_n 1, 1) := by decide +kernel
theorem dX11_throughChoice_71 : decode cX11_throughChoice 71 = .ok (.iaload, 1) := by decide +kernel
theorem dX11_throughChoice_72 : decode cX11_throughChoice 72 = .ok (.invokestatic 107, 3) := by decide +kernel
theorem dX11_throughChoice_75 : decode cX11_throughChoice 75 = .ok (.istore 4, 2) := by decide +kernel
theorem dX11_throughChoice_77 : decode cX11_throughChoice 77 = .ok (.aload_n 0, 1) := by decide +kernel
theorem dX11_throughChoice_78 : decode cX11_throughChoice 78 = .ok (.getfield 97, 3) := by decide +kernel
theorem dX11_throughChoice_81 : decode cX11_throughChoice 81 = .ok (.bipush 12, 2) := by decide +kernel
theorem dX11_throughChoice_83 : decode cX11_throughChoice 83 = .ok (.iload_n 2, 1) := by decide +kernel
theorem dX11_throughChoice_84 : decode cX11_throughChoice 84 = .ok (.imul, 1) := by decide +kernel
theorem dX11_throughChoice_85 : decode cX11_throughChoice 85 = .ok (.aload_n 0, 1) := by decide +kernel
theorem dX11_throughChoice_86 : decode cX11_throughChoice 86 = .ok (.getfield 38, 3) := by decide +kernel
theorem dX11_throughChoice_89 : decode cX11_throughChoice 89 = .ok (.iload_n 1, 1) := by decide +kernel
theorem dX11_throughChoice_90 : decode cX11_throughChoice 90 = .ok (.iaload, 1) := by decide +kernel
theorem dX11_throughChoice_91 : decode cX11_throughChoice 91 = .ok (.iadd, 1) := by decide +kernel
theorem dX11_throughChoice_92 : decode cX11_throughChoice 92 = .ok (.iaload, 1) := by decide +kernel
theorem dX11_throughChoice_93 : decode cX11_throughChoice 93 = .ok (.iload_n 3, 1) := by decide +kernel
theorem dX11_throughChoice_94 : decode cX11_throughChoice 94 = .ok (.ifCond .ne 8, 3) := by decide +kernel
theorem dX11_throughChoice_97 : decode cX11_throughChoice 97 = .ok (.iload 4, 2) := by decide +kernel
theorem dX11_throughChoice_99 : decode cX11_throughChoice 99 = .ok (.goto 7, 3) := by decide +kernel
theorem dX11_throughChoice_102 : decode cX11_throughChoice 102 = .ok (.iload 4, 2) := by decide +kernel
theorem dX11_throughChoice_104 : decode cX11_throughChoice 104 = .ok (.iconst (-1), 1) := by decide +kernel
theorem dX11_throughChoice_105 : decode cX11_throughChoice 105 = .ok (.ixor, 1) := by decide +kernel
theorem dX11_throughChoice_106 : decode cX11_throughChoice 106 = .ok (.iand, 1) := by decide +kernel
theorem dX11_throughChoice_107 : decode cX11_throughChoice 107 = .ok (.istore 5, 2) := by decide +kernel
theorem dX11_throughChoice_109 : decode cX11_throughChoice 109 = .ok (.aload_n 0, 1) := by decide +kernel
theorem dX11_throughChoice_110 : decode cX11_throughChoice 110 = .ok (.getfield 66, 3) := by decide +kernel
theorem dX11_throughChoice_113 : decode cX11_throughChoice 113 = .ok (.aload_n 0, 1) := by decide +kernel
theorem dX11_throughChoice_114 : decode cX11_throughChoice 114 = .ok (.getfield 228, 3) := by decide +kernel
theorem dX11_throughChoice_117 : decode cX11_throughChoice 117 = .ok (.iload 5, 2) := by decide +kernel
theorem dX11_throughChoice_119 : decode cX11_throughChoice 119 = .ok (.iastore, 1) := by decide +kernel
theorem dX11_throughChoice_120 : decode cX11_throughChoice 120 = .ok (.aload_n 0, 1) := by decide +kernel
theorem dX11_throughChoice_121 : decode cX11_throughChoice 121 = .ok (.getfield 63, 3) := by decide +kernel
theorem dX11_throughChoice_124 : decode cX11_throughChoice 124 = .ok (.aload_n 0, 1) := by decide +kernel
theorem dX11_throughChoice_125 : decode cX11_throughChoice 125 = .ok (.getfield 228, 3) := by decide +kernel
theorem dX11_throughChoice_128 : decode cX11_throughChoice 128 = .ok (.iload_n 3, 1) := by decide +kernel
theorem dX11_throughChoice_129 : decode cX11_throughChoice 129 = .ok (.iconst 1, 1) := by decide +kernel
theorem dX11_throughChoice_130 : decode cX11_throughChoice 130 = .ok (.iadd, 1) := by decide +kernel
theorem dX11_throughChoice_131 : decode cX11_throughChoice 131 = .ok (.iastore, 1) := by decide +kernel
theorem dX11_throughChoice_132 : decode cX11_throughChoice 132 = .ok (.iload 5, 2) := by decide +kernel
theorem dX11_throughChoice_134 : decode cX11_throughChoice 134 = .ok (.ifCond .eq 72, 3) := by decide +kernel
theorem dX11_throughChoice_137 : decode cX11_throughChoice 137 = .ok (.aload_n 0, 1) := by decide +kernel
theorem dX11_throughChoice_138 : decode cX11_throughChoice 138 = .ok (.getfield 97, 3) := by decide +kernel
theorem dX11_throughChoice_141 : decode cX11_throughChoice 141 = .ok (.bipush 12, 2) := by decide +kernel
theorem dX11_throughChoice_143 : decode cX11_throughChoice 143 = .ok (.iload_n 2, 1) := by decide +kernel
theorem dX11_throughChoice_144 : decode cX11_throughChoice 144 = .ok (.imul, 1) := by decide +kernel
theorem dX11_throughChoice_145 : decode cX11_throughChoice 145 = .ok (.aload_n 0, 1) := by decide +kernel
theorem dX11_throughChoice_146 : decode cX11_throughChoice 146 = .ok (.getfield 97, 3) := by decide +kernel
theorem dX11_throughChoice_149 : decode cX11_throughChoice 149 = .ok (.bipush 12, 2) := by decide +kernel
theorem dX11_throughChoice_151 : decode cX11_throughChoice 151 = .ok (.iload_n 2, 1) := by decide +kernel
theorem dX11_throughChoice_152 : decode cX11_throughChoice 152 = .ok (.imul, 1) := by decide +kernel
theorem dX11_throughChoice_153 : decode cX11_throughChoice 153 = .ok (.bipush 12, 2) := by decide +kernel
theorem dX11_throughChoice_155 : decode cX11_throughChoice 155 = .ok (.iadd, 1) := by decide +kernel
theorem dX11_throughChoice_156 : decode cX11_throughChoice 156 = .ok (.invokestatic 316, 3) := by decide +kernel
theorem dX11_throughChoice_159 : decode cX11_throughChoice 159 = .ok (.aload_n 0, 1) := by decide +kernel
theorem dX11_throughChoice_160 : decode cX11_throughChoice 160 = .ok (.getfield 97, 3) := by decide +kernel
theorem dX11_throughChoice_163 : decode cX11_throughChoice 163 = .ok (.bipush 12, 2) := by decide +kernel
theorem dX11_throughChoice_165 : decode cX11_throughChoice 165 = .ok (.iload_n 2, 1) := by decide +kernel
theorem dX11_throughChoice_166 : decode cX11_throughChoice 166 = .ok (.imul, 1) := by decide +kernel
theorem dX11_throughChoice_167 : decode cX11_throughChoice 167 = .ok (.bipush 12, 2) := by decide +kernel
theorem dX11_throughChoice_169 : decode cX11_throughChoice 169 = .ok (.iadd, 1) := by decide +kernel
theorem dX11_throughChoice_170 : decode cX11_throughChoice 170 = .ok (.aload_n 0, 1) := by decide +kernel
theorem dX11_throughChoice_171 : decode cX11_throughChoice 171 = .ok (.getfield 38, 3) := by decide +kernel
theorem dX11_throughChoice_174 : decode cX11_throughChoice 174 = .ok (.iload_n 1, 1) := by decide +kernel
theorem dX11_throughChoice_175 : decode cX11_throughChoice 175 = .ok (.iaload, 1) := by decide +kernel
theorem dX11_throughChoice_176 : decode cX11_throughChoice 176 = .ok (.iadd, 1) := by decide +kernel
theorem dX11_throughChoice_177 : decode cX11_throughChoice 177 = .ok (.iload 5, 2) := by decide +kernel
theorem dX11_throughChoice_179 : decode cX11_throughChoice 179 = .ok (.iastore, 1) := by decide +kernel
theorem dX11_throughChoice_180 : decode cX11_throughChoice 180 = .ok (.aload_n 0, 1) := by decide +kernel
theorem dX11_throughChoice_181 : decode cX11_throughChoice 181 = .ok (.iload_n 3, 1) := by decide +kernel
theorem dX11_throughChoice_182 : decode cX11_throughChoice 182 = .ok (.iconst 1, 1) := by decide +kernel
theorem dX11_throughChoice_183 : decode cX11_throughChoice 183 = .ok (.iadd, 1) := by decide +kernel
theorem dX11_throughChoice_184 : decode cX11_throughChoice 184 = .ok (.iload_n 3, 1) := by decide +kernel
theorem dX11_throughChoice_185 : decode cX11_throughChoice 185 = .ok (.ifCond .ne 12, 3) := by decide +kernel
theorem dX11_throughChoice_188 : decode cX11_throughChoice 188 = .ok (.aload_n 0, 1) := by decide +kernel
theorem dX11_throughChoice_189 : decode cX11_throughChoice 189 = .ok (.getfield 44, 3) := by decide +kernel
theorem dX11_throughChoice_192 : decode cX11_throughChoice 192 = .ok (.iload_n 1, 1) := by decide +kernel
theorem dX11_throughChoice_193 : decode cX11_throughChoice 193 = .ok (.iaload, 1) := by decide +kernel
theorem dX11_throughChoice_194 : decode cX11_throughChoice 194 = .ok (.goto 9, 3) := by decide +kernel
theorem dX11_throughChoice_197 : decode cX11_throughChoice 197 = .ok (.aload_n 0, 1) := by decide +kernel
theorem dX11_throughChoice_198 : decode cX11_throughChoice 198 = .ok (.getfield 47, 3) := by decide +kernel
theorem dX11_throughChoice_201 : decode cX11_throughChoice 201 = .ok (.iload_n 1, 1) := by decide +kernel
theorem dX11_throughChoice_202 : decode cX11_throughChoice 202 = .ok (.iaload, 1) := by decide +kernel
theorem dX11_throughChoice_203 : decode cX11_throughChoice 203 = .ok (.invokevirtual 244, 3) := by decide +kernel
theorem dX11_throughChoice_206 : decode cX11_throughChoice 206 = .ok (.return_, 1) := by decide +kernel
theorem dX11_part_0 : decode cX11_part 0 = .ok (.bipush 108, 2) := by decide +kernel
theorem dX11_part_2 : decode cX11_part 2 = .ok (.iload_n 2, 1) := by decide +kernel
theorem dX11_part_3 : decode cX11_part 3 = .ok (.imul, 1) := by decide +kernel
theorem dX11_part_4 : decode cX11_part 4 = .ok (.bipush 108, 2) := by decide +kernel
theorem dX11_part_6 : decode cX11_part 6 = .ok (.iadd, 1) := by decide +kernel
theorem dX11_part_7 : decode cX11_part 7 = .ok (.istore_n 3, 1) := by decide +kernel
theorem dX11_part_8 : decode cX11_part 8 = .ok (.aload_n 0, 1) := by decide +kernel
theorem dX11_part_9 : decode cX11_part 9 = .ok (.getfield 97, 3) := by decide +kernel
theorem dX11_part_12 : decode cX11_part 12 = .ok (.bipush 12, 2) := by decide +kernel
theorem dX11_part_14 : decode cX11_part 14 = .ok (.iload_n 2, 1) := by decide +kernel
theorem dX11_part_15 : decode cX11_part 15 = .ok (.imul, 1) := by decide +kernel
theorem dX11_part_16 : decode cX11_part 16 = .ok (.bipush 12, 2) := by decide +kernel
theorem dX11_part_18 : decode cX11_part 18 = .ok (.iadd, 1) := by decide +kernel
theorem dX11_part_19 : decode cX11_part 19 = .ok (.bipush 12, 2) := by decide +kernel
theorem dX11_part_21 : decode cX11_part 21 = .ok (.invokestatic 309, 3) := by decide +kernel
theorem dX11_part_24 : decode cX11_part 24 = .ok (.iconst 0, 1) := by decide +kernel
theorem dX11_part_25 : decode cX11_part 25 = .ok (.istore 4, 2) := by decide +kernel
theorem dX11_part_27 : decode cX11_part 27 = .ok (.iload 4, 2) := by decide +kernel
theorem dX11_part_29 : decode cX11_part 29 = .ok (.bipush 9, 2) := by decide +kernel
theorem dX11_part_31 : decode cX11_part 31 = .ok (.if_icmp .ge 112, 3) := by decide +kernel
theorem dX11_part_34 : decode cX11_part 34 = .ok (.aload_n 0, 1) := by decide +kernel
theorem dX11_part_35 : decode cX11_part 35 = .ok (.getfield 85, 3) := by decide +kernel
theorem dX11_part_38 : decode cX11_part 38 = .ok (.iload_n 1, 1) := by decide +kernel
theorem dX11_part_39 : decode cX11_part 39 = .ok (.dup2, 1) := by decide +kernel
theorem dX11_part_40 : decode cX11_part 40 = .ok (.iaload, 1) := by decide +kernel
theorem dX11_part_41 : decode cX11_part 41 = .ok (.aload_n 0, 1) := by decide +kernel
theorem dX11_part_42 : decode cX11_part 42 = .ok (.getfield 91, 3) := by decide +kernel
theorem dX11_part_45 : decode cX11_part 45 = .ok (.iload_n 3, 1) := by decide +kernel
theorem dX11_part_46 : decode cX11_part 46 = .ok (.bipush 12, 2) := by decide +kernel
theorem dX11_part_48 : decode cX11_part 48 = .ok (.iload 4, 2) := by decide +kernel
theorem dX11_part_50 : decode cX11_part 50 = .ok (.imul, 1) := by decide +kernel
theorem dX11_part_51 : decode cX11_part 51 = .ok (.iadd, 1) := by decide +kernel
theorem dX11_part_52 : decode cX11_part 52 = .ok (.iaload, 1) := by decide +kernel
theorem dX11_part_53 : decode cX11_part 53 = .ok (.ifCond .eq 10, 3) := by decide +kernel
theorem dX11_part_56 : decode cX11_part 56 = .ok (.iconst 1, 1) := by decide +kernel
theorem dX11_part_57 : decode cX11_part 57 = .ok (.iload 4, 2) := by decide +kernel
theorem dX11_part_59 : decode cX11_part 59 = .ok (.ishl, 1) := by decide +kernel
theorem dX11_part_60 : decode cX11_part 60 = .ok (.goto 4, 3) := by decide +kernel
theorem dX11_part_63 : decode cX11_part 63 = .ok (.iconst 0, 1) := by decide +kernel
theorem dX11_part_64 : decode cX11_part 64 = .ok (.ior, 1) := by decide +kernel
theorem dX11_part_65 : decode cX11_part 65 = .ok (.iastore, 1) := by decide +kernel
theorem dX11_part_66 : decode cX11_part 66 = .ok (.aload_n 0, 1) := by decide +kernel
theorem dX11_part_67 : decode cX11_part 67 = .ok (.getfield 41, 3) := by decide +kernel
theorem dX11_part_70 : decode cX11_part 70 = .ok (.iload_n 1, 1) := by decide +kernel
theorem dX11_part_71 : decode cX11_part 71 = .ok (.iaload, 1) := by decide +kernel
theorem dX11_part_72 : decode cX11_part 72 = .ok (.iload 4, 2) := by decide +kernel
theorem dX11_part_74 : decode cX11_part 74 = .ok (.ishr, 1) := by decide +kernel
theorem dX11_part_75 : decode cX11_part 75 = .ok (.iconst 1, 1) := by decide +kernel
theorem dX11_part_76 : decode cX11_part 76 = .ok (.iand, 1) := by decide +kernel
theorem dX11_part_77 : decode cX11_part 77 = .ok (.iconst 1, 1) := by decide +kernel
theorem dX11_part_78 : decode cX11_part 78 = .ok (.if_icmp .ne 31, 3) := by decide +kernel
theorem dX11_part_81 : decode cX11_part 81 = .ok (.aload_n 0, 1) := by decide +kernel
theorem dX11_part_82 : decode cX11_part 82 = .ok (.getfield 91, 3) := by decide +kernel
theorem dX11_part_85 : decode cX11_part 85 = .ok (.iload_n 3, 1) := by decide +kernel
theorem dX11_part_86 : decode cX11_part 86 = .ok (.bipush 12, 2) := by decide +kernel
theorem dX11_part_88 : decode cX11_part 88 = .ok (.iload 4, 2) := by decide +kernel
theorem dX11_part_90 : decode cX11_part 90 = .ok (.imul, 1) := by decide +kernel
theorem dX11_part_91 : decode cX11_part 91 = .ok (.iadd, 1) := by decide +kernel
theorem dX11_part_92 : decode cX11_part 92 = .ok (.aload_n 0, 1) := by decide +kernel
theorem dX11_part_93 : decode cX11_part 93 = .ok (.getfield 97, 3) := by decide +kernel
theorem dX11_part_96 : decode cX11_part 96 = .ok (.bipush 12, 2) := by decide +kernel
theorem dX11_part_98 : decode cX11_part 98 = .ok (.iload_n 2, 1) := by decide +kernel
theorem dX11_part_99 : decode cX11_part 99 = .ok (.imul, 1) := by decide +kernel
theorem dX11_part_100 : decode cX11_part 100 = .ok (.bipush 12, 2) := by decide +kernel
theorem dX11_part_102 : decode cX11_part 102 = .ok (.iadd, 1) := by decide +kernel
theorem dX11_part_103 : decode cX11_part 103 = .ok (.invokestatic 275, 3) := by decide +kernel
theorem dX11_part_106 : decode cX11_part 106 = .ok (.goto 31, 3) := by decide +kernel
theorem dX11_part_109 : decode cX11_part 109 = .ok (.aload_n 0, 1) := by decide +kernel
theorem dX11_part_110 : decode cX11_part 110 = .ok (.getfield 91, 3) := by decide +kernel
theorem dX11_part_113 : decode cX11_part 113 = .ok (.iload_n 3, 1) := by decide +kernel
theorem dX11_part_114 : decode cX11_part 114 = .ok (.bipush 12, 2) := by decide +kernel
theorem dX11_part_116 : decode cX11_part 116 = .ok (.iload 4, 2) := by decide +kernel
theorem dX11_part_118 : decode cX11_part 118 = .ok (.imul, 1) := by decide +kernel
theorem dX11_part_119 : decode cX11_part 119 = .ok (.iadd, 1) := by decide +kernel
theorem dX11_part_120 : decode cX11_part 120 = .ok (.aload_n 0, 1) := by decide +kernel
theorem dX11_part_121 : decode cX11_part 121 = .ok (.getfield 94, 3) := by decide +kernel
theorem dX11_part_124 : decode cX11_part 124 = .ok (.bipush 108, 2) := by decide +kernel
theorem dX11_part_126 : decode cX11_part 126 = .ok (.iload_n 2, 1) := by decide +kernel
theorem dX11_part_127 : decode cX11_part 127 = .ok (.imul, 1) := by decide +kernel
theorem dX11_part_128 : decode cX11_part 128 = .ok (.bipush 12, 2) := by decide +kernel
theorem dX11_part_130 : decode cX11_part 130 = .ok (.iload 4, 2) := by decide +kernel
theorem dX11_part_132 : decode cX11_part 132 = .ok (.imul, 1) := by decide +kernel
theorem dX11_part_133 : decode cX11_part 133 = .ok (.iadd, 1) := by decide +kernel
theorem dX11_part_134 : decode cX11_part 134 = .ok (.invokestatic 275, 3) := by decide +kernel
theorem dX11_part_137 : decode cX11_part 137 = .ok (.iinc 4 1, 3) := by decide +kernel
theorem dX11_part_140 : decode cX11_part 140 = .ok (.goto (-113), 3) := by decide +kernel
theorem dX11_part_143 : decode cX11_part 143 = .ok (.return_, 1) := by decide +kernel
theorem dX11_last_0 : decode cX11_last 0 = .ok (.bipush 108, 2) := by decide +kernel
theorem dX11_last_2 : decode cX11_last 2 = .ok (.iload_n 2, 1) := by decide +kernel
theorem dX11_last_3 : decode cX11_last 3 = .ok (.imul, 1) := by decide +kernel
theorem dX11_last_4 : decode cX11_last 4 = .ok (.bipush 108, 2) := by decide +kernel
theorem dX11_last_6 : decode cX11_last 6 = .ok (.iadd, 1) := by decide +kernel
theorem dX11_last_7 : decode cX11_last 7 = .ok (.istore 4, 2) := by decide +kernel
theorem dX11_last_9 : decode cX11_last 9 = .ok (.aload_n 0, 1) := by decide +kernel
theorem dX11_last_10 : decode cX11_last 10 = .ok (.getfield 91, 3) := by decide +kernel
theorem dX11_last_13 : decode cX11_last 13 = .ok (.iload 4, 2) := by decide +kernel
theorem dX11_last_15 : decode cX11_last 15 = .ok (.aload_n 0, 1) := by decide +kernel
theorem dX11_last_16 : decode cX11_last 16 = .ok (.getfield 91, 3) := by decide +kernel
theorem dX11_last_19 : decode cX11_last 19 = .ok (.bipush 108, 2) := by decide +kernel
theorem dX11_last_21 : decode cX11_last 21 = .ok (.iload_n 2, 1) := by decide +kernel
theorem dX11_last_22 : decode cX11_last 22 = .ok (.imul, 1) := by decide +kernel
theorem dX11_last_23 : decode cX11_last 23 = .ok (.bipush 12, 2) := by decide +kernel
theorem dX11_last_25 : decode cX11_last 25 = .ok (.iload_n 3, 1) := by decide +kernel
theorem dX11_last_26 : decode cX11_last 26 = .ok (.imul, 1) := by decide +kernel
theorem dX11_last_27 : decode cX11_last 27 = .ok (.iadd, 1) := by decide +kernel
theorem dX11_last_28 : decode cX11_last 28 = .ok (.invokestatic 275, 3) := by decide +kernel
theorem dX11_last_31 : decode cX11_last 31 = .ok (.aload_n 0, 1) := by decide +kernel
theorem dX11_last_32 : decode cX11_last 32 = .ok (.iload_n 2, 1) := by decide +kernel
theorem dX11_last_33 : decode cX11_last 33 = .ok (.iconst 1, 1) := by decide +kernel
theorem dX11_last_34 : decode cX11_last 34 = .ok (.invokevirtual 324, 3) := by decide +kernel
theorem dX11_last_37 : decode cX11_last 37 = .ok (.iconst 0, 1) := by decide +kernel
theorem dX11_last_38 : decode cX11_last 38 = .ok (.istore 5, 2) := by decide +kernel
theorem dX11_last_40 : decode cX11_last 40 = .ok (.iconst 1, 1) := by decide +kernel
theorem dX11_last_41 : decode cX11_last 41 = .ok (.istore 6, 2) := by decide +kernel
theorem dX11_last_43 : decode cX11_last 43 = .ok (.iload 6, 2) := by decide +kernel
theorem dX11_last_45 : decode cX11_last 45 = .ok (.bipush 9, 2) := by decide +kernel
theorem dX11_last_47 : decode cX11_last 47 = .ok (.if_icmp .ge 35, 3) := by decide +kernel
theorem dX11_last_50 : decode cX11_last 50 = .ok (.iload 5, 2) := by decide +kernel
theorem dX11_last_52 : decode cX11_last 52 = .ok (.aload_n 0, 1) := by decide +kernel
theorem dX11_last_53 : decode cX11_last 53 = .ok (.getfield 91, 3) := by decide +kernel
theorem dX11_last_56 : decode cX11_last 56 = .ok (.iload 4, 2) := by decide +kernel
theorem dX11_last_58 : decode cX11_last 58 = .ok (.bipush 12, 2) := by decide +kernel
theorem dX11_last_60 : decode cX11_last 60 = .ok (.iload 6, 2) := by decide +kernel
theorem dX11_last_62 : decode cX11_last 62 = .ok (.imul, 1) := by decide +kernel
theorem dX11_last_63 : decode cX11_last 63 = .ok (.iadd, 1) := by decide +kernel
theorem dX11_last_64 : decode cX11_last 64 = .ok (.iaload, 1) := by decide +kernel
theorem dX11_last_65 : decode cX11_last 65 = .ok (.ifCond .eq 7, 3) := by decide +kernel
theorem dX11_last_68 : decode cX11_last 68 = .ok (.iconst 1, 1) := by decide +kernel
theorem dX11_last_69 : decode cX11_last 69 = .ok (.goto 4, 3) := by decide +kernel
theorem dX11_last_72 : decode cX11_last 72 = .ok (.iconst 0, 1) := by decide +kernel
theorem dX11_last_73 : decode cX11_last 73 = .ok (.ior, 1) := by decide +kernel
theorem dX11_last_74 : decode cX11_last 74 = .ok (.istore 5, 2) := by decide +kernel
theorem dX11_last_76 : decode cX11_last 76 = .ok (.iinc 6 1, 3) := by decide +kernel
theorem dX11_last_79 : decode cX11_last 79 = .ok (.goto (-36), 3) := by decide +kernel
theorem dX11_last_82 : decode cX11_last 82 = .ok (.aload_n 0, 1) := by decide +kernel
theorem dX11_last_83 : decode cX11_last 83 = .ok (.getfield 88, 3) := by decide +kernel
theorem dX11_last_86 : decode cX11_last 86 = .ok (.iload_n 1, 1) := by decide +kernel
theorem dX11_last_87 : decode cX11_last 87 = .ok (.dup2, 1) := by decide +kernel
theorem dX11_last_88 : decode cX11_last 88 = .ok (.iaload, 1) := by decide +kernel
theorem dX11_last_89 : decode cX11_last 89 = .ok (.iload 5, 2) := by decide +kernel
theorem dX11_last_91 : decode cX11_last 91 = .ok (.ifCond .eq 13, 3) := by decide +kernel
theorem dX11_last_94 : decode cX11_last 94 = .ok (.iload_n 3, 1) := by decide +kernel
theorem dX11_last_95 : decode cX11_last 95 = .ok (.ifCond .le 9, 3) := by decide +kernel
theorem dX11_last_98 : decode cX11_last 98 = .ok (.iconst 1, 1) := by decide +kernel
theorem dX11_last_99 : decode cX11_last 99 = .ok (.iload_n 3, 1) := by decide +kernel
theorem dX11_last_100 : decode cX11_last 100 = .ok (.ishl, 1) := by decide +kernel
theorem dX11_last_101 : decode cX11_last 101 = .ok (.goto 4, 3) := by decide +kernel
theorem dX11_last_104 : decode cX11_last 104 = .ok (.iconst 0, 1) := by decide +kernel
theorem dX11_last_105 : decode cX11_last 105 = .ok (.ior, 1) := by decide +kernel
theorem dX11_last_106 : decode cX11_last 106 = .ok (.iastore, 1) := by decide +kernel
theorem dX11_last_107 : decode cX11_last 107 = .ok (.return_, 1) := by decide +kernel
theorem dX11_throughGuard_0 : decode cX11_throughGuard 0 = .ok (.bipush 108, 2) := by decide +kernel
theorem dX11_throughGuard_2 : decode cX11_throughGuard 2 = .ok (.iload_n 2, 1) := by decide +kernel
theorem dX11_throughGuard_3 : decode cX11_throughGuard 3 = .ok (.imul, 1) := by decide +kernel
theorem dX11_throughGuard_4 : decode cX11_throughGuard 4 = .ok (.istore_n 3, 1) := by decide +kernel
theorem dX11_throughGuard_5 : decode cX11_throughGuard 5 = .ok (.bipush 12, 2) := by decide +kernel
theorem dX11_throughGuard_7 : decode cX11_throughGuard 7 = .ok (.iload_n 2, 1) := by decide +kernel
theorem dX11_throughGuard_8 : decode cX11_throughGuard 8 = .ok (.imul, 1) := by decide +kernel
theorem dX11_throughGuard_9 : decode cX11_throughGuard 9 = .ok (.bipush 12, 2) := by decide +kernel
theorem dX11_throughGuard_11 : decode cX11_throughGuard 11 = .ok (.iadd, 1) := by decide +kernel
theorem dX11_throughGuard_12 : decode cX11_throughGuard 12 = .ok (.istore 4, 2) := by decide +kernel
theorem dX11_throughGuard_14 : decode cX11_throughGuard 14 = .ok (.aload_n 0, 1) := by decide +kernel
theorem dX11_throughGuard_15 : decode cX11_throughGuard 15 = .ok (.getfield 63, 3) := by decide +kernel
theorem dX11_throughGuard_18 : decode cX11_throughGuard 18 = .ok (.aload_n 0, 1) := by decide +kernel
theorem dX11_throughGuard_19 : decode cX11_throughGuard 19 = .ok (.getfield 228, 3) := by decide +kernel
theorem dX11_throughGuard_22 : decode cX11_throughGuard 22 = .ok (.iaload, 1) := by decide +kernel
theorem dX11_throughGuard_23 : decode cX11_throughGuard 23 = .ok (.istore 5, 2) := by decide +kernel
theorem dX11_throughGuard_25 : decode cX11_throughGuard 25 = .ok (.iload 5, 2) := by decide +kernel
theorem dX11_throughGuard_27 : decode cX11_throughGuard 27 = .ok (.ifCond .ne 48, 3) := by decide +kernel
theorem dX11_throughGuard_30 : decode cX11_throughGuard 30 = .ok (.aload_n 0, 1) := by decide +kernel
theorem dX11_throughGuard_31 : decode cX11_throughGuard 31 = .ok (.iload_n 1, 1) := by decide +kernel
theorem dX11_throughGuard_32 : decode cX11_throughGuard 32 = .ok (.iload_n 2, 1) := by decide +kernel
theorem dX11_throughGuard_33 : decode cX11_throughGuard 33 = .ok (.invokevirtual 313, 3) := by decide +kernel
theorem dX11_throughGuard_36 : decode cX11_throughGuard 36 = .ok (.aload_n 0, 1) := by decide +kernel
theorem dX11_throughGuard_37 : decode cX11_throughGuard 37 = .ok (.getfield 94, 3) := by decide +kernel
theorem dX11_throughGuard_40 : decode cX11_throughGuard 40 = .ok (.iload_n 3, 1) := by decide +kernel
theorem dX11_throughGuard_41 : decode cX11_throughGuard 41 = .ok (.bipush 108, 2) := by decide +kernel
theorem dX11_throughGuard_43 : decode cX11_throughGuard 43 = .ok (.invokestatic 309, 3) := by decide +kernel
theorem dX11_throughGuard_46 : decode cX11_throughGuard 46 = .ok (.aload_n 0, 1) := by decide +kernel
theorem dX11_throughGuard_47 : decode cX11_throughGuard 47 = .ok (.getfield 97, 3) := by decide +kernel
theorem dX11_throughGuard_50 : decode cX11_throughGuard 50 = .ok (.bipush 12, 2) := by decide +kernel
theorem dX11_throughGuard_52 : decode cX11_throughGuard 52 = .ok (.iload_n 2, 1) := by decide +kernel
theorem dX11_throughGuard_53 : decode cX11_throughGuard 53 = .ok (.imul, 1) := by decide +kernel
theorem dX11_throughGuard_54 : decode cX11_throughGuard 54 = .ok (.aload_n 0, 1) := by decide +kernel
theorem dX11_throughGuard_55 : decode cX11_throughGuard 55 = .ok (.getfield 97, 3) := by decide +kernel
theorem dX11_throughGuard_58 : decode cX11_throughGuard 58 = .ok (.iload 4, 2) := by decide +kernel
theorem dX11_throughGuard_60 : decode cX11_throughGuard 60 = .ok (.invokestatic 316, 3) := by decide +kernel
theorem dX11_throughGuard_63 : decode cX11_throughGuard 63 = .ok (.aload_n 0, 1) := by decide +kernel
theorem dX11_throughGuard_64 : decode cX11_throughGuard 64 = .ok (.iconst 1, 1) := by decide +kernel
theorem dX11_throughGuard_65 : decode cX11_throughGuard 65 = .ok (.aload_n 0, 1) := by decide +kernel
theorem dX11_throughGuard_66 : decode cX11_throughGuard 66 = .ok (.getfield 38, 3) := by decide +kernel
theorem dX11_throughGuard_69 : decode cX11_throughGuard 69 = .ok (.iload_n 1, 1) := by decide +kernel
theorem dX11_throughGuard_70 : decode cX11_throughGuard 70 = .ok (.iaload, 1) := by decide +kernel
theorem dX11_throughGuard_71 : decode cX11_throughGuard 71 = .ok (.invokevirtual 244, 3) := by decide +kernel
theorem dX11_throughGuard_74 : decode cX11_throughGuard 74 = .ok (.return_, 1) := by decide +kernel
theorem dX11_throughGuard_75 : decode cX11_throughGuard 75 = .ok (.iload 5, 2) := by decide +kernel
theorem dX11_throughGuard_77 : decode cX11_throughGuard 77 = .ok (.iconst 1, 1) := by decide +kernel
theorem dX11_throughGuard_78 : decode cX11_throughGuard 78 = .ok (.if_icmp .ne 54, 3) := by decide +kernel
theorem dX11_throughGuard_81 : decode cX11_throughGuard 81 = .ok (.aload_n 0, 1) := by decide +kernel
theorem dX11_throughGuard_82 : decode cX11_throughGuard 82 = .ok (.iload_n 1, 1) := by decide +kernel
theorem dX11_throughGuard_83 : decode cX11_throughGuard 83 = .ok (.iload_n 2, 1) := by decide +kernel
theorem dX11_throughGuard_84 : decode cX11_throughGuard 84 = .ok (.invokevirtual 327, 3) := by decide +kernel
theorem dX11_throughGuard_87 : decode cX11_throughGuard 87 = .ok (.aload_n 0, 1) := by decide +kernel
theorem dX11_throughGuard_88 : decode cX11_throughGuard 88 = .ok (.getfield 97, 3) := by decide +kernel
theorem dX11_throughGuard_91 : decode cX11_throughGuard 91 = .ok (.iload 4, 2) := by decide +kernel
theorem dX11_throughGuard_93 : decode cX11_throughGuard 93 = .ok (.iaload, 1) := by decide +kernel
theorem dX11_throughGuard_94 : decode cX11_throughGuard 94 = .ok (.ifCond .eq 24, 3) := by decide +kernel
theorem dX11_throughGuard_97 : decode cX11_throughGuard 97 = .ok (.aload_n 0, 1) := by decide +kernel
theorem dX11_throughGuard_98 : decode cX11_throughGuard 98 = .ok (.getfield 44, 3) := by decide +kernel
theorem dX11_throughGuard_101 : decode cX11_throughGuard 101 = .ok (.iload_n 1, 1) := by decide +kernel
theorem dX11_throughGuard_102 : decode cX11_throughGuard 102 = .ok (.iaload, 1) := by decide +kernel
theorem dX11_throughGuard_103 : decode cX11_throughGuard 103 = .ok (.ifCond .lt 15, 3) := by decide +kernel
theorem dX11_throughGuard_106 : decode cX11_throughGuard 106 = .ok (.aload_n 0, 1) := by decide +kernel
theorem dX11_throughGuard_107 : decode cX11_throughGuard 107 = .ok (.iconst 2, 1) := by decide +kernel
theorem dX11_throughGuard_108 : decode cX11_throughGuard 108 = .ok (.aload_n 0, 1) := by decide +kernel
theorem dX11_throughGuard_109 : decode cX11_throughGuard 109 = .ok (.getfield 44, 3) := by decide +kernel
theorem dX11_throughGuard_112 : decode cX11_throughGuard 112 = .ok (.iload_n 1, 1) := by decide +kernel
theorem dX11_throughGuard_113 : decode cX11_throughGuard 113 = .ok (.iaload, 1) := by decide +kernel
theorem dX11_throughGuard_114 : decode cX11_throughGuard 114 = .ok (.invokevirtual 244, 3) := by decide +kernel
theorem dX11_throughGuard_117 : decode cX11_throughGuard 117 = .ok (.return_, 1) := by decide +kernel
theorem dX11_throughGuard_118 : decode cX11_throughGuard 118 = .ok (.aload_n 0, 1) := by decide +kernel
theorem dX11_throughGuard_119 : decode cX11_throughGuard 119 = .ok (.getfield 97, 3) := by decide +kernel
theorem dX11_throughGuard_122 : decode cX11_throughGuard 122 = .ok (.iload 4, 2) := by decide +kernel
theorem dX11_throughGuard_124 : decode cX11_throughGuard 124 = .ok (.aload_n 0, 1) := by decide +kernel
theorem dX11_throughGuard_125 : decode cX11_throughGuard 125 = .ok (.getfield 94, 3) := by decide +kernel
theorem dX11_throughGuard_128 : decode cX11_throughGuard 128 = .ok (.iload_n 3, 1) := by decide +kernel
theorem dX11_throughGuard_129 : decode cX11_throughGuard 129 = .ok (.invokestatic 275, 3) := by decide +kernel
theorem dX11_throughGuard_132 : decode cX11_throughGuard 132 = .ok (.iload 5, 2) := by decide +kernel
theorem dX11_throughGuard_134 : decode cX11_throughGuard 134 = .ok (.iconst 2, 1) := by decide +kernel
theorem dX11_throughGuard_135 : decode cX11_throughGuard 135 = .ok (.if_icmp .ne 47, 3) := by decide +kernel
theorem dX11_throughGuard_138 : decode cX11_throughGuard 138 = .ok (.iconst 0, 1) := by decide +kernel
theorem dX11_throughGuard_139 : decode cX11_throughGuard 139 = .ok (.istore 6, 2) := by decide +kernel
theorem dX11_throughGuard_141 : decode cX11_throughGuard 141 = .ok (.iload 6, 2) := by decide +kernel
theorem dX11_throughGuard_143 : decode cX11_throughGuard 143 = .ok (.bipush 9, 2) := by decide +kernel
theorem dX11_throughGuard_145 : decode cX11_throughGuard 145 = .ok (.if_icmp .ge 37, 3) := by decide +kernel
theorem dX11_throughGuard_148 : decode cX11_throughGuard 148 = .ok (.aload_n 0, 1) := by decide +kernel
theorem dX11_throughGuard_149 : decode cX11_throughGuard 149 = .ok (.getfield 91, 3) := by decide +kernel
theorem dX11_throughGuard_152 : decode cX11_throughGuard 152 = .ok (.iload_n 3, 1) := by decide +kernel
theorem dX11_throughGuard_153 : decode cX11_throughGuard 153 = .ok (.bipush 108, 2) := by decide +kernel
theorem dX11_throughGuard_155 : decode cX11_throughGuard 155 = .ok (.iadd, 1) := by decide +kernel
theorem dX11_throughGuard_156 : decode cX11_throughGuard 156 = .ok (.bipush 12, 2) := by decide +kernel
theorem dX11_throughGuard_158 : decode cX11_throughGuard 158 = .ok (.iload 6, 2) := by decide +kernel
theorem dX11_throughGuard_160 : decode cX11_throughGuard 160 = .ok (.imul, 1) := by decide +kernel
theorem dX11_throughGuard_161 : decode cX11_throughGuard 161 = .ok (.iadd, 1) := by decide +kernel
theorem dX11_throughGuard_162 : decode cX11_throughGuard 162 = .ok (.aload_n 0, 1) := by decide +kernel
theorem dX11_throughGuard_163 : decode cX11_throughGuard 163 = .ok (.getfield 94, 3) := by decide +kernel
theorem dX11_throughGuard_166 : decode cX11_throughGuard 166 = .ok (.iload_n 3, 1) := by decide +kernel
theorem dX11_throughGuard_167 : decode cX11_throughGuard 167 = .ok (.bipush 12, 2) := by decide +kernel
theorem dX11_throughGuard_169 : decode cX11_throughGuard 169 = .ok (.iload 6, 2) := by decide +kernel
theorem dX11_throughGuard_171 : decode cX11_throughGuard 171 = .ok (.imul, 1) := by decide +kernel
theorem dX11_throughGuard_172 : decode cX11_throughGuard 172 = .ok (.iadd, 1) := by decide +kernel
theorem dX11_throughGuard_173 : decode cX11_throughGuard 173 = .ok (.invokestatic 275, 3) := by decide +kernel
theorem dX11_throughGuard_176 : decode cX11_throughGuard 176 = .ok (.iinc 6 1, 3) := by decide +kernel
theorem dX11_throughGuard_179 : decode cX11_throughGuard 179 = .ok (.goto (-38), 3) := by decide +kernel
theorem dX11_throughGuard_182 : decode cX11_throughGuard 182 = .ok (.iload 5, 2) := by decide +kernel
theorem dX11_throughGuard_184 : decode cX11_throughGuard 184 = .ok (.iconst 3, 1) := by decide +kernel
theorem dX11_throughGuard_185 : decode cX11_throughGuard 185 = .ok (.if_icmp .ne 31, 3) := by decide +kernel
theorem dX11_throughGuard_188 : decode cX11_throughGuard 188 = .ok (.aload_n 0, 1) := by decide +kernel
theorem dX11_throughGuard_189 : decode cX11_throughGuard 189 = .ok (.iload_n 1, 1) := by decide +kernel
theorem dX11_throughGuard_190 : decode cX11_throughGuard 190 = .ok (.iload_n 2, 1) := by decide +kernel
theorem dX11_throughGuard_191 : decode cX11_throughGuard 191 = .ok (.aload_n 0, 1) := by decide +kernel
theorem dX11_throughGuard_192 : decode cX11_throughGuard 192 = .ok (.getfield 66, 3) := by decide +kernel
theorem dX11_throughGuard_195 : decode cX11_throughGuard 195 = .ok (.aload_n 0, 1) := by decide +kernel
theorem dX11_throughGuard_196 : decode cX11_throughGuard 196 = .ok (.getfield 228, 3) := by decide +kernel
theorem dX11_throughGuard_199 : decode cX11_throughGuard 199 = .ok (.iaload, 1) := by decide +kernel
theorem dX11_throughGuard_200 : decode cX11_throughGuard 200 = .ok (.invokevirtual 330, 3) := by decide +kernel
theorem dX11_throughGuard_203 : decode cX11_throughGuard 203 = .ok (.aload_n 0, 1) := by decide +kernel
theorem dX11_throughGuard_204 : decode cX11_throughGuard 204 = .ok (.getfield 66, 3) := by decide +kernel
theorem dX11_throughGuard_207 : decode cX11_throughGuard 207 = .ok (.aload_n 0, 1) := by decide +kernel
theorem dX11_throughGuard_208 : decode cX11_throughGuard 208 = .ok (.getfield 228, 3) := by decide +kernel
theorem dX11_throughGuard_211 : decode cX11_throughGuard 211 = .ok (.dup2, 1) := by decide +kernel
theorem dX11_throughGuard_212 : decode cX11_throughGuard 212 = .ok (.iaload, 1) := by decide +kernel
theorem dX11_throughGuard_213 : decode cX11_throughGuard 213 = .ok (.iconst 1, 1) := by decide +kernel
theorem dX11_throughGuard_214 : decode cX11_throughGuard 214 = .ok (.iadd, 1) := by decide +kernel
theorem dX11_throughGuard_215 : decode cX11_throughGuard 215 = .ok (.iastore, 1) := by decide +kernel
theorem dX11_throughGuard_216 : decode cX11_throughGuard 216 = .ok (.aload_n 0, 1) := by decide +kernel
theorem dX11_throughGuard_217 : decode cX11_throughGuard 217 = .ok (.getfield 47, 3) := by decide +kernel
theorem dX11_throughGuard_220 : decode cX11_throughGuard 220 = .ok (.iload_n 1, 1) := by decide +kernel
theorem dX11_throughGuard_221 : decode cX11_throughGuard 221 = .ok (.iaload, 1) := by decide +kernel
theorem dX11_throughGuard_222 : decode cX11_throughGuard 222 = .ok (.ifCond .ge 47, 3) := by decide +kernel
theorem dX11_throughGuard_225 : decode cX11_throughGuard 225 = .ok (.iconst 0, 1) := by decide +kernel
theorem dX11_throughGuard_226 : decode cX11_throughGuard 226 = .ok (.istore 6, 2) := by decide +kernel
theorem dX11_throughGuard_228 : decode cX11_throughGuard 228 = .ok (.iload 6, 2) := by decide +kernel
theorem dX11_throughGuard_230 : decode cX11_throughGuard 230 = .ok (.bipush 108, 2) := by decide +kernel
theorem dX11_throughGuard_232 : decode cX11_throughGuard 232 = .ok (.if_icmp .ge 30, 3) := by decide +kernel
theorem dX11_throughGuard_235 : decode cX11_throughGuard 235 = .ok (.aload_n 0, 1) := by decide +kernel
theorem dX11_throughGuard_236 : decode cX11_throughGuard 236 = .ok (.getfield 91, 3) := by decide +kernel
theorem dX11_throughGuard_239 : decode cX11_throughGuard 239 = .ok (.iload_n 3, 1) := by decide +kernel
theorem dX11_throughGuard_240 : decode cX11_throughGuard 240 = .ok (.iload 6, 2) := by decide +kernel
theorem dX11_throughGuard_242 : decode cX11_throughGuard 242 = .ok (.iadd, 1) := by decide +kernel
theorem dX11_throughGuard_243 : decode cX11_throughGuard 243 = .ok (.dup2, 1) := by decide +kernel
theorem dX11_throughGuard_244 : decode cX11_throughGuard 244 = .ok (.iaload, 1) := by decide +kernel
theorem dX11_throughGuard_245 : decode cX11_throughGuard 245 = .ok (.aload_n 0, 1) := by decide +kernel
theorem dX11_throughGuard_246 : decode cX11_throughGuard 246 = .ok (.getfield 94, 3) := by decide +kernel
theorem dX11_throughGuard_249 : decode cX11_throughGuard 249 = .ok (.iload_n 3, 1) := by decide +kernel
theorem dX11_throughGuard_250 : decode cX11_throughGuard 250 = .ok (.iload 6, 2) := by decide +kernel
theorem dX11_throughGuard_252 : decode cX11_throughGuard 252 = .ok (.iadd, 1) := by decide +kernel
theorem dX11_throughGuard_253 : decode cX11_throughGuard 253 = .ok (.iaload, 1) := by decide +kernel
theorem dX11_throughGuard_254 : decode cX11_throughGuard 254 = .ok (.ior, 1) := by decide +kernel
theorem dX11_throughGuard_255 : decode cX11_throughGuard 255 = .ok (.iastore, 1) := by decide +kernel
theorem dX11_throughGuard_256 : decode cX11_throughGuard 256 = .ok (.iinc 6 1, 3) := by decide +kernel
theorem dX11_throughGuard_259 : decode cX11_throughGuard 259 = .ok (.goto (-31), 3) := by decide +kernel
theorem dX11_throughGuard_262 : decode cX11_throughGuard 262 = .ok (.aload_n 0, 1) := by decide +kernel
theorem dX11_throughGuard_263 : decode cX11_throughGuard 263 = .ok (.iload_n 1, 1) := by decide +kernel
theorem dX11_throughGuard_264 : decode cX11_throughGuard 264 = .ok (.iload_n 2, 1) := by decide +kernel
theorem dX11_throughGuard_265 : decode cX11_throughGuard 265 = .ok (.invokevirtual 321, 3) := by decide +kernel
theorem dX11_throughGuard_268 : decode cX11_throughGuard 268 = .ok (.return_, 1) := by decide +kernel
theorem dX11_throughGuard_269 : decode cX11_throughGuard 269 = .ok (.aload_n 0, 1) := by decide +kernel
theorem dX11_throughGuard_270 : decode cX11_throughGuard 270 = .ok (.getfield 66, 3) := by decide +kernel
theorem dX11_throughGuard_273 : decode cX11_throughGuard 273 = .ok (.aload_n 0, 1) := by decide +kernel
theorem dX11_throughGuard_274 : decode cX11_throughGuard 274 = .ok (.getfield 228, 3) := by decide +kernel
theorem dX11_throughGuard_277 : decode cX11_throughGuard 277 = .ok (.iaload, 1) := by decide +kernel
theorem dX11_throughGuard_278 : decode cX11_throughGuard 278 = .ok (.bipush 9, 2) := by decide +kernel
theorem dX11_throughGuard_280 : decode cX11_throughGuard 280 = .ok (.if_icmp .ge 41, 3) := by decide +kernel
theorem dX11_throughGuard_283 : decode cX11_throughGuard 283 = .ok (.aload_n 0, 1) := by decide +kernel
theorem dX11_throughGuard_284 : decode cX11_throughGuard 284 = .ok (.getfield 94, 3) := by decide +kernel
theorem dX11_throughGuard_287 : decode cX11_throughGuard 287 = .ok (.iload_n 3, 1) := by decide +kernel
theorem dX11_throughGuard_288 : decode cX11_throughGuard 288 = .ok (.bipush 12, 2) := by decide +kernel
theorem dX11_throughGuard_290 : decode cX11_throughGuard 290 = .ok (.aload_n 0, 1) := by decide +kernel
theorem dX11_throughGuard_291 : decode cX11_throughGuard 291 = .ok (.getfield 66, 3) := by decide +kernel
theorem dX11_throughGuard_294 : decode cX11_throughGuard 294 = .ok (.aload_n 0, 1) := by decide +kernel
theorem dX11_throughGuard_295 : decode cX11_throughGuard 295 = .ok (.getfield 228, 3) := by decide +kernel
theorem dX11_throughGuard_298 : decode cX11_throughGuard 298 = .ok (.iaload, 1) := by decide +kernel
theorem dX11_throughGuard_299 : decode cX11_throughGuard 299 = .ok (.imul, 1) := by decide +kernel
theorem dX11_throughGuard_300 : decode cX11_throughGuard 300 = .ok (.iadd, 1) := by decide +kernel
theorem dX11_throughGuard_301 : decode cX11_throughGuard 301 = .ok (.iaload, 1) := by decide +kernel
theorem dX11_throughGuard_302 : decode cX11_throughGuard 302 = .ok (.ifCond .ne 19, 3) := by decide +kernel
theorem dX11_throughGuard_305 : decode cX11_throughGuard 305 = .ok (.aload_n 0, 1) := by decide +kernel
theorem dX11_throughGuard_306 : decode cX11_throughGuard 306 = .ok (.getfield 66, 3) := by decide +kernel
theorem dX11_throughGuard_309 : decode cX11_throughGuard 309 = .ok (.aload_n 0, 1) := by decide +kernel
theorem dX11_throughGuard_310 : decode cX11_throughGuard 310 = .ok (.getfield 228, 3) := by decide +kernel
theorem dX11_throughGuard_313 : decode cX11_throughGuard 313 = .ok (.dup2, 1) := by decide +kernel
theorem dX11_throughGuard_314 : decode cX11_throughGuard 314 = .ok (.iaload, 1) := by decide +kernel
theorem dX11_throughGuard_315 : decode cX11_throughGuard 315 = .ok (.iconst 1, 1) := by decide +kernel
theorem dX11_throughGuard_316 : decode cX11_throughGuard 316 = .ok (.iadd, 1) := by decide +kernel
theorem dX11_throughGuard_317 : decode cX11_throughGuard 317 = .ok (.iastore, 1) := by decide +kernel
theorem dX11_throughGuard_318 : decode cX11_throughGuard 318 = .ok (.goto (-49), 3) := by decide +kernel
theorem dX11_throughGuard_321 : decode cX11_throughGuard 321 = .ok (.aload_n 0, 1) := by decide +kernel
theorem dX11_throughGuard_322 : decode cX11_throughGuard 322 = .ok (.getfield 66, 3) := by decide +kernel
theorem dX11_throughGuard_325 : decode cX11_throughGuard 325 = .ok (.aload_n 0, 1) := by decide +kernel
theorem dX11_throughGuard_326 : decode cX11_throughGuard 326 = .ok (.getfield 228, 3) := by decide +kernel
theorem dX11_throughGuard_329 : decode cX11_throughGuard 329 = .ok (.iaload, 1) := by decide +kernel
theorem dX11_throughGuard_330 : decode cX11_throughGuard 330 = .ok (.bipush 9, 2) := by decide +kernel
theorem dX11_throughGuard_332 : decode cX11_throughGuard 332 = .ok (.if_icmp .ne 12, 3) := by decide +kernel
theorem dX11_throughGuard_335 : decode cX11_throughGuard 335 = .ok (.aload_n 0, 1) := by decide +kernel
theorem dX11_throughGuard_336 : decode cX11_throughGuard 336 = .ok (.iload_n 1, 1) := by decide +kernel
theorem dX11_throughGuard_337 : decode cX11_throughGuard 337 = .ok (.iload_n 2, 1) := by decide +kernel
theorem dX11_throughGuard_338 : decode cX11_throughGuard 338 = .ok (.invokevirtual 321, 3) := by decide +kernel
theorem dX11_throughGuard_341 : decode cX11_throughGuard 341 = .ok (.goto 41, 3) := by decide +kernel
theorem dX11_throughGuard_344 : decode cX11_throughGuard 344 = .ok (.aload_n 0, 1) := by decide +kernel
theorem dX11_throughGuard_345 : decode cX11_throughGuard 345 = .ok (.getfield 94, 3) := by decide +kernel
theorem dX11_throughGuard_348 : decode cX11_throughGuard 348 = .ok (.iload_n 3, 1) := by decide +kernel
theorem dX11_throughGuard_349 : decode cX11_throughGuard 349 = .ok (.bipush 12, 2) := by decide +kernel
theorem dX11_throughGuard_351 : decode cX11_throughGuard 351 = .ok (.aload_n 0, 1) := by decide +kernel
theorem dX11_throughGuard_352 : decode cX11_throughGuard 352 = .ok (.getfield 66, 3) := by decide +kernel
theorem dX11_throughGuard_355 : decode cX11_throughGuard 355 = .ok (.aload_n 0, 1) := by decide +kernel
theorem dX11_throughGuard_356 : decode cX11_throughGuard 356 = .ok (.getfield 228, 3) := by decide +kernel
theorem dX11_throughGuard_359 : decode cX11_throughGuard 359 = .ok (.iaload, 1) := by decide +kernel
theorem dX11_throughGuard_360 : decode cX11_throughGuard 360 = .ok (.imul, 1) := by decide +kernel
theorem dX11_throughGuard_361 : decode cX11_throughGuard 361 = .ok (.iadd, 1) := by decide +kernel
theorem dX11_throughGuard_362 : decode cX11_throughGuard 362 = .ok (.aload_n 0, 1) := by decide +kernel
theorem dX11_throughGuard_363 : decode cX11_throughGuard 363 = .ok (.getfield 97, 3) := by decide +kernel
theorem dX11_throughGuard_366 : decode cX11_throughGuard 366 = .ok (.iload 4, 2) := by decide +kernel
theorem dX11_throughGuard_368 : decode cX11_throughGuard 368 = .ok (.invokestatic 316, 3) := by decide +kernel
theorem dX11_throughGuard_371 : decode cX11_throughGuard 371 = .ok (.aload_n 0, 1) := by decide +kernel
theorem dX11_throughGuard_372 : decode cX11_throughGuard 372 = .ok (.iconst 3, 1) := by decide +kernel
theorem dX11_throughGuard_373 : decode cX11_throughGuard 373 = .ok (.aload_n 0, 1) := by decide +kernel
theorem dX11_throughGuard_374 : decode cX11_throughGuard 374 = .ok (.getfield 47, 3) := by decide +kernel
theorem dX11_throughGuard_377 : decode cX11_throughGuard 377 = .ok (.iload_n 1, 1) := by decide +kernel
theorem dX11_throughGuard_378 : decode cX11_throughGuard 378 = .ok (.iaload, 1) := by decide +kernel
theorem dX11_throughGuard_379 : decode cX11_throughGuard 379 = .ok (.invokevirtual 244, 3) := by decide +kernel
theorem dX11_throughGuard_382 : decode cX11_throughGuard 382 = .ok (.return_, 1) := by decide +kernel
theorem dX11_through_0 : decode cX11_through 0 = .ok (.aload_n 0, 1) := by decide +kernel
theorem dX11_through_1 : decode cX11_through 1 = .ok (.iconst (-1), 1) := by decide +kernel
theorem dX11_through_2 : decode cX11_through 2 = .ok (.putfield 228, 3) := by decide +kernel
theorem dX11_through_5 : decode cX11_through 5 = .ok (.aload_n 0, 1) := by decide +kernel
theorem dX11_through_6 : decode cX11_through 6 = .ok (.iload_n 1, 1) := by decide +kernel
theorem dX11_through_7 : decode cX11_through 7 = .ok (.invokevirtual 231, 3) := by decide +kernel
theorem dX11_through_10 : decode cX11_through 10 = .ok (.aload_n 0, 1) := by decide +kernel
theorem dX11_through_11 : decode cX11_through 11 = .ok (.getfield 228, 3) := by decide +kernel
theorem dX11_through_14 : decode cX11_through 14 = .ok (.ifCond .lt 90, 3) := by decide +kernel
theorem dX11_through_17 : decode cX11_through 17 = .ok (.aload_n 0, 1) := by decide +kernel
theorem dX11_through_18 : decode cX11_through 18 = .ok (.getfield 60, 3) := by decide +kernel
theorem dX11_through_21 : decode cX11_through 21 = .ok (.aload_n 0, 1) := by decide +kernel
theorem dX11_through_22 : decode cX11_through 22 = .ok (.getfield 228, 3) := by decide +kernel
theorem dX11_through_25 : decode cX11_through 25 = .ok (.iaload, 1) := by decide +kernel
theorem dX11_through_26 : decode cX11_through 26 = .ok (.istore_n 2, 1) := by decide +kernel
theorem dX11_through_27 : decode cX11_through 27 = .ok (.aload_n 0, 1) := by decide +kernel
theorem dX11_through_28 : decode cX11_through 28 = .ok (.getfield 32, 3) := by decide +kernel
theorem dX11_through_31 : decode cX11_through 31 = .ok (.iload_n 2, 1) := by decide +kernel
theorem dX11_through_32 : decode cX11_through 32 = .ok (.iaload, 1) := by decide +kernel
theorem dX11_through_33 : decode cX11_through 33 = .ok (.ifCond .ne 15, 3) := by decide +kernel
theorem dX11_through_36 : decode cX11_through 36 = .ok (.aload_n 0, 1) := by decide +kernel
theorem dX11_through_37 : decode cX11_through 37 = .ok (.iload_n 2, 1) := by decide +kernel
theorem dX11_through_38 : decode cX11_through 38 = .ok (.aload_n 0, 1) := by decide +kernel
theorem dX11_through_39 : decode cX11_through 39 = .ok (.getfield 228, 3) := by decide +kernel
theorem dX11_through_42 : decode cX11_through 42 = .ok (.invokevirtual 334, 3) := by decide +kernel
theorem dX11_through_45 : decode cX11_through 45 = .ok (.goto 56, 3) := by decide +kernel
theorem dX11_through_48 : decode cX11_through 48 = .ok (.aload_n 0, 1) := by decide +kernel
theorem dX11_through_49 : decode cX11_through 49 = .ok (.getfield 32, 3) := by decide +kernel
theorem dX11_through_52 : decode cX11_through 52 = .ok (.iload_n 2, 1) := by decide +kernel
theorem dX11_through_53 : decode cX11_through 53 = .ok (.iaload, 1) := by decide +kernel
theorem dX11_through_54 : decode cX11_through 54 = .ok (.iconst 1, 1) := by decide +kernel
theorem dX11_through_55 : decode cX11_through 55 = .ok (.if_icmp .ne 15, 3) := by decide +kernel
theorem dX11_through_58 : decode cX11_through 58 = .ok (.aload_n 0, 1) := by decide +kernel
theorem dX11_through_59 : decode cX11_through 59 = .ok (.iload_n 2, 1) := by decide +kernel
theorem dX11_through_60 : decode cX11_through 60 = .ok (.aload_n 0, 1) := by decide +kernel
theorem dX11_through_61 : decode cX11_through 61 = .ok (.getfield 228, 3) := by decide +kernel
theorem dX11_through_64 : decode cX11_through 64 = .ok (.invokevirtual 337, 3) := by decide +kernel
theorem dX11_through_67 : decode cX11_through 67 = .ok (.goto 34, 3) := by decide +kernel
theorem dX11_through_70 : decode cX11_through 70 = .ok (.aload_n 0, 1) := by decide +kernel
theorem dX11_through_71 : decode cX11_through 71 = .ok (.getfield 32, 3) := by decide +kernel
theorem dX11_through_74 : decode cX11_through 74 = .ok (.iload_n 2, 1) := by decide +kernel
theorem dX11_through_75 : decode cX11_through 75 = .ok (.iaload, 1) := by decide +kernel
theorem dX11_through_76 : decode cX11_through 76 = .ok (.iconst 2, 1) := by decide +kernel
theorem dX11_through_77 : decode cX11_through 77 = .ok (.if_icmp .ne 15, 3) := by decide +kernel
theorem dX11_through_80 : decode cX11_through 80 = .ok (.aload_n 0, 1) := by decide +kernel
theorem dX11_through_81 : decode cX11_through 81 = .ok (.iload_n 2, 1) := by decide +kernel
theorem dX11_through_82 : decode cX11_through 82 = .ok (.aload_n 0, 1) := by decide +kernel
theorem dX11_through_83 : decode cX11_through 83 = .ok (.getfield 228, 3) := by decide +kernel
theorem dX11_through_86 : decode cX11_through 86 = .ok (.invokevirtual 340, 3) := by decide +kernel
theorem dX11_through_89 : decode cX11_through 89 = .ok (.goto 12, 3) := by decide +kernel
theorem dX11_through_92 : decode cX11_through 92 = .ok (.aload_n 0, 1) := by decide +kernel
theorem dX11_through_93 : decode cX11_through 93 = .ok (.iload_n 2, 1) := by decide +kernel
theorem dX11_through_94 : decode cX11_through 94 = .ok (.aload_n 0, 1) := by decide +kernel
theorem dX11_through_95 : decode cX11_through 95 = .ok (.getfield 228, 3) := by decide +kernel
theorem dX11_through_98 : decode cX11_through 98 = .ok (.invokevirtual 343, 3) := by decide +kernel
theorem dX11_through_101 : decode cX11_through 101 = .ok (.goto (-91), 3) := by decide +kernel
theorem dX11_through_104 : decode cX11_through 104 = .ok (.return_, 1) := by decide +kernel
theorem dX11_report_0 : decode cX11_report 0 = .ok (.aload_n 0, 1) := by decide +kernel
theorem dX11_report_1 : decode cX11_report 1 = .ok (.iload_n 1, 1) := by decide +kernel
theorem dX11_report_2 : decode cX11_report 2 = .ok (.invokevirtual 139, 3) := by decide +kernel
theorem dX11_report_5 : decode cX11_report 5 = .ok (.ifCond .ne 5, 3) := by decide +kernel
theorem dX11_report_8 : decode cX11_report 8 = .ok (.iconst (-1), 1) := by decide +kernel
theorem dX11_report_9 : decode cX11_report 9 = .ok (.ireturn, 1) := by decide +kernel
theorem dX11_report_10 : decode cX11_report 10 = .ok (.iconst 0, 1) := by decide +kernel
theorem dX11_report_11 : decode cX11_report 11 = .ok (.istore_n 2, 1) := by decide +kernel
theorem dX11_report_12 : decode cX11_report 12 = .ok (.iload_n 2, 1) := by decide +kernel
theorem dX11_report_13 : decode cX11_report 13 = .ok (.bipush 80, 2) := by decide +kernel
theorem dX11_report_15 : decode cX11_report 15 = .ok (.if_icmp .ge 37, 3) := by decide +kernel
theorem dX11_report_18 : decode cX11_report 18 = .ok (.aload_n 0, 1) := by decide +kernel
theorem dX11_report_19 : decode cX11_report 19 = .ok (.getfield 76, 3) := by decide +kernel
theorem dX11_report_22 : decode cX11_report 22 = .ok (.iload_n 2, 1) := by decide +kernel
theorem dX11_report_23 : decode cX11_report 23 = .ok (.iconst 0, 1) := by decide +kernel
theorem dX11_report_24 : decode cX11_report 24 = .ok (.bastore, 1) := by decide +kernel
theorem dX11_report_25 : decode cX11_report 25 = .ok (.aload_n 0, 1) := by decide +kernel
theorem dX11_report_26 : decode cX11_report 26 = .ok (.getfield 79, 3) := by decide +kernel
theorem dX11_report_29 : decode cX11_report 29 = .ok (.iload_n 2, 1) := by decide +kernel
theorem dX11_report_30 : decode cX11_report 30 = .ok (.iconst 0, 1) := by decide +kernel
theorem dX11_report_31 : decode cX11_report 31 = .ok (.iastore, 1) := by decide +kernel
theorem dX11_report_32 : decode cX11_report 32 = .ok (.aload_n 0, 1) := by decide +kernel
theorem dX11_report_33 : decode cX11_report 33 = .ok (.getfield 85, 3) := by decide +kernel
theorem dX11_report_36 : decode cX11_report 36 = .ok (.iload_n 2, 1) := by decide +kernel
theorem dX11_report_37 : decode cX11_report 37 = .ok (.iconst 0, 1) := by decide +kernel
theorem dX11_report_38 : decode cX11_report 38 = .ok (.iastore, 1) := by decide +kernel
theorem dX11_report_39 : decode cX11_report 39 = .ok (.aload_n 0, 1) := by decide +kernel
theorem dX11_report_40 : decode cX11_report 40 = .ok (.getfield 88, 3) := by decide +kernel
theorem dX11_report_43 : decode cX11_report 43 = .ok (.iload_n 2, 1) := by decide +kernel
theorem dX11_report_44 : decode cX11_report 44 = .ok (.iconst 0, 1) := by decide +kernel
theorem dX11_report_45 : decode cX11_report 45 = .ok (.iastore, 1) := by decide +kernel
theorem dX11_report_46 : decode cX11_report 46 = .ok (.iinc 2 1, 3) := by decide +kernel
theorem dX11_report_49 : decode cX11_report 49 = .ok (.goto (-37), 3) := by decide +kernel
theorem dX11_report_52 : decode cX11_report 52 = .ok (.aload_n 0, 1) := by decide +kernel
theorem dX11_report_53 : decode cX11_report 53 = .ok (.getfield 82, 3) := by decide +kernel
theorem dX11_report_56 : decode cX11_report 56 = .ok (.iconst 0, 1) := by decide +kernel
theorem dX11_report_57 : decode cX11_report 57 = .ok (.sipush 960, 3) := by decide +kernel
theorem dX11_report_60 : decode cX11_report 60 = .ok (.invokestatic 309, 3) := by decide +kernel
theorem dX11_report_63 : decode cX11_report 63 = .ok (.iconst 0, 1) := by decide +kernel
theorem dX11_report_64 : decode cX11_report 64 = .ok (.istore_n 2, 1) := by decide +kernel
theorem dX11_report_65 : decode cX11_report 65 = .ok (.iload_n 2, 1) := by decide +kernel
theorem dX11_report_66 : decode cX11_report 66 = .ok (.bipush 12, 2) := by decide +kernel
theorem dX11_report_68 : decode cX11_report 68 = .ok (.if_icmp .ge 20, 3) := by decide +kernel
theorem dX11_report_71 : decode cX11_report 71 = .ok (.aload_n 0, 1) := by decide +kernel
theorem dX11_report_72 : decode cX11_report 72 = .ok (.getfield 97, 3) := by decide +kernel
theorem dX11_report_75 : decode cX11_report 75 = .ok (.iload_n 2, 1) := by decide +kernel
theorem dX11_report_76 : decode cX11_report 76 = .ok (.aload_n 0, 1) := by decide +kernel
theorem dX11_report_77 : decode cX11_report 77 = .ok (.iload_n 2, 1) := by decide +kernel
theorem dX11_report_78 : decode cX11_report 78 = .ok (.invokevirtual 272, 3) := by decide +kernel
theorem dX11_report_81 : decode cX11_report 81 = .ok (.iastore, 1) := by decide +kernel
theorem dX11_report_82 : decode cX11_report 82 = .ok (.iinc 2 1, 3) := by decide +kernel
theorem dX11_report_85 : decode cX11_report 85 = .ok (.goto (-20), 3) := by decide +kernel
theorem dX11_report_88 : decode cX11_report 88 = .ok (.aload_n 0, 1) := by decide +kernel
theorem dX11_report_89 : decode cX11_report 89 = .ok (.iconst 1, 1) := by decide +kernel
theorem dX11_report_90 : decode cX11_report 90 = .ok (.putfield 142, 3) := by decide +kernel
theorem dX11_report_93 : decode cX11_report 93 = .ok (.aload_n 0, 1) := by decide +kernel
theorem dX11_report_94 : decode cX11_report 94 = .ok (.iload_n 1, 1) := by decide +kernel
theorem dX11_report_95 : decode cX11_report 95 = .ok (.invokevirtual 346, 3) := by decide +kernel
theorem dX11_report_98 : decode cX11_report 98 = .ok (.aload_n 0, 1) := by decide +kernel
theorem dX11_report_99 : decode cX11_report 99 = .ok (.getfield 79, 3) := by decide +kernel
theorem dX11_report_102 : decode cX11_report 102 = .ok (.iload_n 1, 1) := by decide +kernel
theorem dX11_report_103 : decode cX11_report 103 = .ok (.iaload, 1) := by decide +kernel
theorem dX11_report_104 : decode cX11_report 104 = .ok (.ireturn, 1) := by decide +kernel
theorem dX11_has_0 : decode cX11_has 0 = .ok (.aload_n 0, 1) := by decide +kernel
theorem dX11_has_1 : decode cX11_has 1 = .ok (.getfield 142, 3) := by decide +kernel
theorem dX11_has_4 : decode cX11_has 4 = .ok (.ifCond .eq 16, 3) := by decide +kernel
theorem dX11_has_7 : decode cX11_has 7 = .ok (.aload_n 0, 1) := by decide +kernel
theorem dX11_has_8 : decode cX11_has 8 = .ok (.getfield 76, 3) := by decide +kernel
theorem dX11_has_11 : decode cX11_has 11 = .ok (.iload_n 1, 1) := by decide +kernel
theorem dX11_has_12 : decode cX11_has 12 = .ok (.baload, 1) := by decide +kernel
theorem dX11_has_13 : decode cX11_has 13 = .ok (.ifCond .eq 7, 3) := by decide +kernel
theorem dX11_has_16 : decode cX11_has 16 = .ok (.iconst 1, 1) := by decide +kernel
theorem dX11_has_17 : decode cX11_has 17 = .ok (.goto 4, 3) := by decide +kernel
theorem dX11_has_20 : decode cX11_has 20 = .ok (.iconst 0, 1) := by decide +kernel
theorem dX11_has_21 : decode cX11_has 21 = .ok (.ireturn, 1) := by decide +kernel
theorem dX11_reached_0 : decode cX11_reached 0 = .ok (.aload_n 0, 1) := by decide +kernel
theorem dX11_reached_1 : decode cX11_reached 1 = .ok (.iload_n 1, 1) := by decide +kernel
theorem dX11_reached_2 : decode cX11_reached 2 = .ok (.invokevirtual 139, 3) := by decide +kernel
theorem dX11_reached_5 : decode cX11_reached 5 = .ok (.ifCond .ne 7, 3) := by decide +kernel
theorem dX11_reached_8 : decode cX11_reached 8 = .ok (.iconst (-1), 1) := by decide +kernel
theorem dX11_reached_9 : decode cX11_reached 9 = .ok (.goto 16, 3) := by decide +kernel
theorem dX11_reached_12 : decode cX11_reached 12 = .ok (.aload_n 0, 1) := by decide +kernel
theorem dX11_reached_13 : decode cX11_reached 13 = .ok (.iload_n 1, 1) := by decide +kernel
theorem dX11_reached_14 : decode cX11_reached 14 = .ok (.invokevirtual 349, 3) := by decide +kernel
theorem dX11_reached_17 : decode cX11_reached 17 = .ok (.ifCond .eq 7, 3) := by decide +kernel
theorem dX11_reached_20 : decode cX11_reached 20 = .ok (.iconst 1, 1) := by decide +kernel
theorem dX11_reached_21 : decode cX11_reached 21 = .ok (.goto 4, 3) := by decide +kernel
theorem dX11_reached_24 : decode cX11_reached 24 = .ok (.iconst 0, 1) := by decide +kernel
theorem dX11_reached_25 : decode cX11_reached 25 = .ok (.ireturn, 1) := by decide +kernel
theorem dX11_may_0 : decode cX11_may 0 = .ok (.aload_n 0, 1) := by decide +kernel
theorem dX11_may_1 : decode cX11_may 1 = .ok (.iload_n 1, 1) := by decide +kernel
theorem dX11_may_2 : decode cX11_may 2 = .ok (.invokevirtual 139, 3) := by decide +kernel
theorem dX11_may_5 : decode cX11_may 5 = .ok (.ifCond .ne 7, 3) := by decide +kernel
theorem dX11_may_8 : decode cX11_may 8 = .ok (.iconst (-1), 1) := by decide +kernel
theorem dX11_may_9 : decode cX11_may 9 = .ok (.goto 21, 3) := by decide +kernel
theorem dX11_may_12 : decode cX11_may 12 = .ok (.aload_n 0, 1) := by decide +kernel
theorem dX11_may_13 : decode cX11_may 13 = .ok (.iload_n 1, 1) := by decide +kernel
theorem dX11_may_14 : decode cX11_may 14 = .ok (.invokevirtual 349, 3) := by decide +kernel
theorem dX11_may_17 : decode cX11_may 17 = .ok (.ifCond .eq 12, 3) := by decide +kernel
theorem dX11_may_20 : decode cX11_may 20 = .ok (.aload_n 0, 1) := by decide +kernel
theorem dX11_may_21 : decode cX11_may 21 = .ok (.getfield 79, 3) := by decide +kernel
theorem dX11_may_24 : decode cX11_may 24 = .ok (.iload_n 1, 1) := by decide +kernel
theorem dX11_may_25 : decode cX11_may 25 = .ok (.iaload, 1) := by decide +kernel
theorem dX11_may_26 : decode cX11_may 26 = .ok (.goto 4, 3) := by decide +kernel
theorem dX11_may_29 : decode cX11_may 29 = .ok (.iconst 0, 1) := by decide +kernel
theorem dX11_may_30 : decode cX11_may 30 = .ok (.ireturn, 1) := by decide +kernel
theorem dX11_ahead_0 : decode cX11_ahead 0 = .ok (.aload_n 0, 1) := by decide +kernel
theorem dX11_ahead_1 : decode cX11_ahead 1 = .ok (.iload_n 1, 1) := by decide +kernel
theorem dX11_ahead_2 : decode cX11_ahead 2 = .ok (.invokevirtual 139, 3) := by decide +kernel
theorem dX11_ahead_5 : decode cX11_ahead 5 = .ok (.ifCond .eq 10, 3) := by decide +kernel
theorem dX11_ahead_8 : decode cX11_ahead 8 = .ok (.iload_n 2, 1) := by decide +kernel
theorem dX11_ahead_9 : decode cX11_ahead 9 = .ok (.invokestatic 124, 3) := by decide +kernel
theorem dX11_ahead_12 : decode cX11_ahead 12 = .ok (.ifCond .ne 7, 3) := by decide +kernel
theorem dX11_ahead_15 : decode cX11_ahead 15 = .ok (.iconst (-1), 1) := by decide +kernel
theorem dX11_ahead_16 : decode cX11_ahead 16 = .ok (.goto 26, 3) := by decide +kernel
theorem dX11_ahead_19 : decode cX11_ahead 19 = .ok (.aload_n 0, 1) := by decide +kernel
theorem dX11_ahead_20 : decode cX11_ahead 20 = .ok (.iload_n 1, 1) := by decide +kernel
theorem dX11_ahead_21 : decode cX11_ahead 21 = .ok (.invokevirtual 349, 3) := by decide +kernel
theorem dX11_ahead_24 : decode cX11_ahead 24 = .ok (.ifCond .eq 17, 3) := by decide +kernel
theorem dX11_ahead_27 : decode cX11_ahead 27 = .ok (.aload_n 0, 1) := by decide +kernel
theorem dX11_ahead_28 : decode cX11_ahead 28 = .ok (.getfield 82, 3) := by decide +kernel
theorem dX11_ahead_31 : decode cX11_ahead 31 = .ok (.bipush 12, 2) := by decide +kernel
theorem dX11_ahead_33 : decode cX11_ahead 33 = .ok (.iload_n 1, 1) := by decide +kernel
theorem dX11_ahead_34 : decode cX11_ahead 34 = .ok (.imul, 1) := by decide +kernel
theorem dX11_ahead_35 : decode cX11_ahead 35 = .ok (.iload_n 2, 1) := by decide +kernel
theorem dX11_ahead_36 : decode cX11_ahead 36 = .ok (.iadd, 1) := by decide +kernel
theorem dX11_ahead_37 : decode cX11_ahead 37 = .ok (.iaload, 1) := by decide +kernel
theorem dX11_ahead_38 : decode cX11_ahead 38 = .ok (.goto 4, 3) := by decide +kernel
theorem dX11_ahead_41 : decode cX11_ahead 41 = .ok (.iconst 0, 1) := by decide +kernel
theorem dX11_ahead_42 : decode cX11_ahead 42 = .ok (.ireturn, 1) := by decide +kernel
theorem dX11_guarded_0 : decode cX11_guarded 0 = .ok (.aload_n 0, 1) := by decide +kernel
theorem dX11_guarded_1 : decode cX11_guarded 1 = .ok (.iload_n 1, 1) := by decide +kernel
theorem dX11_guarded_2 : decode cX11_guarded 2 = .ok (.invokevirtual 139, 3) := by decide +kernel
theorem dX11_guarded_5 : decode cX11_guarded 5 = .ok (.ifCond .eq 22, 3) := by decide +kernel
theorem dX11_guarded_8 : decode cX11_guarded 8 = .ok (.aload_n 0, 1) := by decide +kernel
theorem dX11_guarded_9 : decode cX11_guarded 9 = .ok (.getfield 32, 3) := by decide +kernel
theorem dX11_guarded_12 : decode cX11_guarded 12 = .ok (.iload_n 1, 1) := by decide +kernel
theorem dX11_guarded_13 : decode cX11_guarded 13 = .ok (.iaload, 1) := by decide +kernel
theorem dX11_guarded_14 : decode cX11_guarded 14 = .ok (.iconst 3, 1) := by decide +kernel
theorem dX11_guarded_15 : decode cX11_guarded 15 = .ok (.if_icmp .ne 12, 3) := by decide +kernel
theorem dX11_guarded_18 : decode cX11_guarded 18 = .ok (.iload_n 2, 1) := by decide +kernel
theorem dX11_guarded_19 : decode cX11_guarded 19 = .ok (.iconst 0, 1) := by decide +kernel
theorem dX11_guarded_20 : decode cX11_guarded 20 = .ok (.iconst 1, 1) := by decide +kernel
theorem dX11_guarded_21 : decode cX11_guarded 21 = .ok (.invokestatic 103, 3) := by decide +kernel
theorem dX11_guarded_24 : decode cX11_guarded 24 = .ok (.ifCond .ne 5, 3) := by decide +kernel
theorem dX11_guarded_27 : decode cX11_guarded 27 = .ok (.iconst (-1), 1) := by decide +kernel
theorem dX11_guarded_28 : decode cX11_guarded 28 = .ok (.ireturn, 1) := by decide +kernel
theorem dX11_guarded_29 : decode cX11_guarded 29 = .ok (.aload_n 0, 1) := by decide +kernel
theorem dX11_guarded_30 : decode cX11_guarded 30 = .ok (.iload_n 1, 1) := by decide +kernel
theorem dX11_guarded_31 : decode cX11_guarded 31 = .ok (.invokevirtual 349, 3) := by decide +kernel
theorem dX11_guarded_34 : decode cX11_guarded 34 = .ok (.ifCond .ne 7, 3) := by decide +kernel
theorem dX11_guarded_37 : decode cX11_guarded 37 = .ok (.iconst 0, 1) := by decide +kernel
theorem dX11_guarded_38 : decode cX11_guarded 38 = .ok (.goto 31, 3) := by decide +kernel
theorem dX11_guarded_41 : decode cX11_guarded 41 = .ok (.iload_n 2, 1) := by decide +kernel
theorem dX11_guarded_42 : decode cX11_guarded 42 = .ok (.ifCond .ne 21, 3) := by decide +kernel
theorem dX11_guarded_45 : decode cX11_guarded 45 = .ok (.aload_n 0, 1) := by decide +kernel
theorem dX11_guarded_46 : decode cX11_guarded 46 = .ok (.getfield 41, 3) := by decide +kernel
theorem dX11_guarded_49 : decode cX11_guarded 49 = .ok (.iload_n 1, 1) := by decide +kernel
theorem dX11_guarded_50 : decode cX11_guarded 50 = .ok (.iaload, 1) := by decide +kernel
theorem dX11_guarded_51 : decode cX11_guarded 51 = .ok (.aload_n 0, 1) := by decide +kernel
theorem dX11_guarded_52 : decode cX11_guarded 52 = .ok (.getfield 85, 3) := by decide +kernel
theorem dX11_guarded_55 : decode cX11_guarded 55 = .ok (.iload_n 1, 1) := by decide +kernel
theorem dX11_guarded_56 : decode cX11_guarded 56 = .ok (.iaload, 1) := by decide +kernel
theorem dX11_guarded_57 : decode cX11_guarded 57 = .ok (.iconst (-1), 1) := by decide +kernel
theorem dX11_guarded_58 : decode cX11_guarded 58 = .ok (.ixor, 1) := by decide +kernel
theorem dX11_guarded_59 : decode cX11_guarded 59 = .ok (.iand, 1) := by decide +kernel
theorem dX11_guarded_60 : decode cX11_guarded 60 = .ok (.goto 9, 3) := by decide +kernel
theorem dX11_guarded_63 : decode cX11_guarded 63 = .ok (.aload_n 0, 1) := by decide +kernel
theorem dX11_guarded_64 : decode cX11_guarded 64 = .ok (.getfield 88, 3) := by decide +kernel
theorem dX11_guarded_67 : decode cX11_guarded 67 = .ok (.iload_n 1, 1) := by decide +kernel
theorem dX11_guarded_68 : decode cX11_guarded 68 = .ok (.iaload, 1) := by decide +kernel
theorem dX11_guarded_69 : decode cX11_guarded 69 = .ok (.ireturn, 1) := by decide +kernel
theorem dJ7_rangeCheck_23922_0 : decode cJ7_rangeCheck_23922 0 = .ok (.iload_n 1, 1) := by decide +kernel
theorem dJ7_rangeCheck_23922_1 : decode cJ7_rangeCheck_23922 1 = .ok (.iload_n 2, 1) := by decide +kernel
theorem dJ7_rangeCheck_23922_2 : decode cJ7_rangeCheck_23922 2 = .ok (.if_icmp .le 44, 3) := by decide +kernel
theorem dJ7_rangeCheck_23922_5 : decode cJ7_rangeCheck_23922 5 = .ok (.new 43, 3) := by decide +kernel
theorem dJ7_rangeCheck_23922_8 : decode cJ7_rangeCheck_23922 8 = .ok (.dup, 1) := by decide +kernel
theorem dJ7_rangeCheck_23922_9 : decode cJ7_rangeCheck_23922 9 = .ok (.new 45, 3) := by decide +kernel
theorem dJ7_rangeCheck_23922_12 : decode cJ7_rangeCheck_23922 12 = .ok (.dup, 1) := by decide +kernel
theorem dJ7_rangeCheck_23922_13 : decode cJ7_rangeCheck_23922 13 = .ok (.invokespecial 47, 3) := by decide +kernel
theorem dJ7_rangeCheck_23922_16 : decode cJ7_rangeCheck_23922 16 = .ok (.ldc 48, 2) := by decide +kernel
theorem dJ7_rangeCheck_23922_18 : decode cJ7_rangeCheck_23922 18 = .ok (.invokevirtual 50, 3) := by decide +kernel
theorem dJ7_rangeCheck_23922_21 : decode cJ7_rangeCheck_23922 21 = .ok (.iload_n 1, 1) := by decide +kernel
theorem dJ7_rangeCheck_23922_22 : decode cJ7_rangeCheck_23922 22 = .ok (.invokevirtual 54, 3) := by decide +kernel
theorem dJ7_rangeCheck_23922_25 : decode cJ7_rangeCheck_23922 25 = .ok (.ldc 57, 2) := by decide +kernel
theorem dJ7_rangeCheck_23922_27 : decode cJ7_rangeCheck_23922 27 = .ok (.invokevirtual 50, 3) := by decide +kernel
theorem dJ7_rangeCheck_23922_30 : decode cJ7_rangeCheck_23922 30 = .ok (.iload_n 2, 1) := by decide +kernel
theorem dJ7_rangeCheck_23922_31 : decode cJ7_rangeCheck_23922 31 = .ok (.invokevirtual 54, 3) := by decide +kernel
theorem dJ7_rangeCheck_23922_34 : decode cJ7_rangeCheck_23922 34 = .ok (.ldc 59, 2) := by decide +kernel
theorem dJ7_rangeCheck_23922_36 : decode cJ7_rangeCheck_23922 36 = .ok (.invokevirtual 50, 3) := by decide +kernel
theorem dJ7_rangeCheck_23922_39 : decode cJ7_rangeCheck_23922 39 = .ok (.invokevirtual 61, 3) := by decide +kernel
theorem dJ7_rangeCheck_23922_42 : decode cJ7_rangeCheck_23922 42 = .ok (.invokespecial 65, 3) := by decide +kernel
theorem dJ7_rangeCheck_23922_45 : decode cJ7_rangeCheck_23922 45 = .ok (.athrow, 1) := by decide +kernel
theorem dJ7_rangeCheck_23922_46 : decode cJ7_rangeCheck_23922 46 = .ok (.iload_n 1, 1) := by decide +kernel
theorem dJ7_rangeCheck_23922_47 : decode cJ7_rangeCheck_23922 47 = .ok (.ifCond .ge 12, 3) := by decide +kernel
theorem dJ7_rangeCheck_23922_50 : decode cJ7_rangeCheck_23922 50 = .ok (.new 68, 3) := by decide +kernel
theorem dJ7_rangeCheck_23922_53 : decode cJ7_rangeCheck_23922 53 = .ok (.dup, 1) := by decide +kernel
theorem dJ7_rangeCheck_23922_54 : decode cJ7_rangeCheck_23922 54 = .ok (.iload_n 1, 1) := by decide +kernel
theorem dJ7_rangeCheck_23922_55 : decode cJ7_rangeCheck_23922 55 = .ok (.invokespecial 70, 3) := by decide +kernel
theorem dJ7_rangeCheck_23922_58 : decode cJ7_rangeCheck_23922 58 = .ok (.athrow, 1) := by decide +kernel
theorem dJ7_rangeCheck_23922_59 : decode cJ7_rangeCheck_23922 59 = .ok (.iload_n 2, 1) := by decide +kernel
theorem dJ7_rangeCheck_23922_60 : decode cJ7_rangeCheck_23922 60 = .ok (.iload_n 0, 1) := by decide +kernel
theorem dJ7_rangeCheck_23922_61 : decode cJ7_rangeCheck_23922 61 = .ok (.if_icmp .le 12, 3) := by decide +kernel
theorem dJ7_rangeCheck_23922_64 : decode cJ7_rangeCheck_23922 64 = .ok (.new 68, 3) := by decide +kernel
theorem dJ7_rangeCheck_23922_67 : decode cJ7_rangeCheck_23922 67 = .ok (.dup, 1) := by decide +kernel
theorem dJ7_rangeCheck_23922_68 : decode cJ7_rangeCheck_23922 68 = .ok (.iload_n 2, 1) := by decide +kernel
theorem dJ7_rangeCheck_23922_69 : decode cJ7_rangeCheck_23922 69 = .ok (.invokespecial 70, 3) := by decide +kernel
theorem dJ7_rangeCheck_23922_72 : decode cJ7_rangeCheck_23922 72 = .ok (.athrow, 1) := by decide +kernel
theorem dJ7_rangeCheck_23922_73 : decode cJ7_rangeCheck_23922 73 = .ok (.return_, 1) := by decide +kernel
theorem dJ7_fill_d0a16_0 : decode cJ7_fill_d0a16 0 = .ok (.iconst 0, 1) := by decide +kernel
theorem dJ7_fill_d0a16_1 : decode cJ7_fill_d0a16 1 = .ok (.istore_n 3, 1) := by decide +kernel
theorem dJ7_fill_d0a16_2 : decode cJ7_fill_d0a16 2 = .ok (.aload_n 0, 1) := by decide +kernel
theorem dJ7_fill_d0a16_3 : decode cJ7_fill_d0a16 3 = .ok (.arraylength, 1) := by decide +kernel
theorem dJ7_fill_d0a16_4 : decode cJ7_fill_d0a16 4 = .ok (.istore 4, 2) := by decide +kernel
theorem dJ7_fill_d0a16_6 : decode cJ7_fill_d0a16 6 = .ok (.iload_n 3, 1) := by decide +kernel
theorem dJ7_fill_d0a16_7 : decode cJ7_fill_d0a16 7 = .ok (.iload 4, 2) := by decide +kernel
theorem dJ7_fill_d0a16_9 : decode cJ7_fill_d0a16 9 = .ok (.if_icmp .ge 13, 3) := by decide +kernel
theorem dJ7_fill_d0a16_12 : decode cJ7_fill_d0a16 12 = .ok (.aload_n 0, 1) := by decide +kernel
theorem dJ7_fill_d0a16_13 : decode cJ7_fill_d0a16 13 = .ok (.iload_n 3, 1) := by decide +kernel
theorem dJ7_fill_d0a16_14 : decode cJ7_fill_d0a16 14 = .ok (.lload_n 1, 1) := by decide +kernel
theorem dJ7_fill_d0a16_15 : decode cJ7_fill_d0a16 15 = .ok (.lastore, 1) := by decide +kernel
theorem dJ7_fill_d0a16_16 : decode cJ7_fill_d0a16 16 = .ok (.iinc 3 1, 3) := by decide +kernel
theorem dJ7_fill_d0a16_19 : decode cJ7_fill_d0a16 19 = .ok (.goto (-13), 3) := by decide +kernel
theorem dJ7_fill_d0a16_22 : decode cJ7_fill_d0a16 22 = .ok (.return_, 1) := by decide +kernel
theorem dJ7_fill_bad5a_0 : decode cJ7_fill_bad5a 0 = .ok (.aload_n 0, 1) := by decide +kernel
theorem dJ7_fill_bad5a_1 : decode cJ7_fill_bad5a 1 = .ok (.arraylength, 1) := by decide +kernel
theorem dJ7_fill_bad5a_2 : decode cJ7_fill_bad5a 2 = .ok (.iload_n 1, 1) := by decide +kernel
theorem dJ7_fill_bad5a_3 : decode cJ7_fill_bad5a 3 = .ok (.iload_n 2, 1) := by decide +kernel
theorem dJ7_fill_bad5a_4 : decode cJ7_fill_bad5a 4 = .ok (.invokestatic 13, 3) := by decide +kernel
theorem dJ7_fill_bad5a_7 : decode cJ7_fill_bad5a 7 = .ok (.iload_n 1, 1) := by decide +kernel
theorem dJ7_fill_bad5a_8 : decode cJ7_fill_bad5a 8 = .ok (.istore 5, 2) := by decide +kernel
theorem dJ7_fill_bad5a_10 : decode cJ7_fill_bad5a 10 = .ok (.iload 5, 2) := by decide +kernel
theorem dJ7_fill_bad5a_12 : decode cJ7_fill_bad5a 12 = .ok (.iload_n 2, 1) := by decide +kernel
theorem dJ7_fill_bad5a_13 : decode cJ7_fill_bad5a 13 = .ok (.if_icmp .ge 14, 3) := by decide +kernel
theorem dJ7_fill_bad5a_16 : decode cJ7_fill_bad5a 16 = .ok (.aload_n 0, 1) := by decide +kernel
theorem dJ7_fill_bad5a_17 : decode cJ7_fill_bad5a 17 = .ok (.iload 5, 2) := by decide +kernel
theorem dJ7_fill_bad5a_19 : decode cJ7_fill_bad5a 19 = .ok (.lload_n 3, 1) := by decide +kernel
theorem dJ7_fill_bad5a_20 : decode cJ7_fill_bad5a 20 = .ok (.lastore, 1) := by decide +kernel
theorem dJ7_fill_bad5a_21 : decode cJ7_fill_bad5a 21 = .ok (.iinc 5 1, 3) := by decide +kernel
theorem dJ7_fill_bad5a_24 : decode cJ7_fill_bad5a 24 = .ok (.goto (-14), 3) := by decide +kernel
theorem dJ7_fill_bad5a_27 : decode cJ7_fill_bad5a 27 = .ok (.return_, 1) := by decide +kernel
theorem dJ7_fill_53178_0 : decode cJ7_fill_53178 0 = .ok (.iconst 0, 1) := by decide +kernel
theorem dJ7_fill_53178_1 : decode cJ7_fill_53178 1 = .ok (.istore_n 2, 1) := by decide +kernel
theorem dJ7_fill_53178_2 : decode cJ7_fill_53178 2 = .ok (.aload_n 0, 1) := by decide +kernel
theorem dJ7_fill_53178_3 : decode cJ7_fill_53178 3 = .ok (.arraylength, 1) := by decide +kernel
theorem dJ7_fill_53178_4 : decode cJ7_fill_53178 4 = .ok (.istore_n 3, 1) := by decide +kernel
theorem dJ7_fill_53178_5 : decode cJ7_fill_53178 5 = .ok (.iload_n 2, 1) := by decide +kernel
theorem dJ7_fill_53178_6 : decode cJ7_fill_53178 6 = .ok (.iload_n 3, 1) := by decide +kernel
theorem dJ7_fill_53178_7 : decode cJ7_fill_53178 7 = .ok (.if_icmp .ge 13, 3) := by decide +kernel
theorem dJ7_fill_53178_10 : decode cJ7_fill_53178 10 = .ok (.aload_n 0, 1) := by decide +kernel
theorem dJ7_fill_53178_11 : decode cJ7_fill_53178 11 = .ok (.iload_n 2, 1) := by decide +kernel
theorem dJ7_fill_53178_12 : decode cJ7_fill_53178 12 = .ok (.iload_n 1, 1) := by decide +kernel
theorem dJ7_fill_53178_13 : decode cJ7_fill_53178 13 = .ok (.iastore, 1) := by decide +kernel
theorem dJ7_fill_53178_14 : decode cJ7_fill_53178 14 = .ok (.iinc 2 1, 3) := by decide +kernel
theorem dJ7_fill_53178_17 : decode cJ7_fill_53178 17 = .ok (.goto (-12), 3) := by decide +kernel
theorem dJ7_fill_53178_20 : decode cJ7_fill_53178 20 = .ok (.return_, 1) := by decide +kernel
theorem dL_law_0 : decode cL_law 0 = .ok (.new 7, 3) := by decide +kernel
theorem dL_law_3 : decode cL_law 3 = .ok (.dup, 1) := by decide +kernel
theorem dL_law_4 : decode cL_law 4 = .ok (.invokespecial 9, 3) := by decide +kernel
theorem dL_law_7 : decode cL_law 7 = .ok (.astore_n 1, 1) := by decide +kernel
theorem dL_law_8 : decode cL_law 8 = .ok (.new 10, 3) := by decide +kernel
theorem dL_law_11 : decode cL_law 11 = .ok (.dup, 1) := by decide +kernel
theorem dL_law_12 : decode cL_law 12 = .ok (.invokespecial 12, 3) := by decide +kernel
theorem dL_law_15 : decode cL_law 15 = .ok (.astore_n 2, 1) := by decide +kernel
theorem dL_law_16 : decode cL_law 16 = .ok (.iconst 0, 1) := by decide +kernel
theorem dL_law_17 : decode cL_law 17 = .ok (.istore_n 3, 1) := by decide +kernel
theorem dL_law_18 : decode cL_law 18 = .ok (.iload_n 3, 1) := by decide +kernel
theorem dL_law_19 : decode cL_law 19 = .ok (.aload_n 0, 1) := by decide +kernel
theorem dL_law_20 : decode cL_law 20 = .ok (.arraylength, 1) := by decide +kernel
theorem dL_law_21 : decode cL_law 21 = .ok (.bipush 6, 2) := by decide +kernel
theorem dL_law_23 : decode cL_law 23 = .ok (.isub, 1) := by decide +kernel
theorem dL_law_24 : decode cL_law 24 = .ok (.if_icmp .gt 695, 3) := by decide +kernel
theorem dL_law_27 : decode cL_law 27 = .ok (.aload_n 0, 1) := by decide +kernel
theorem dL_law_28 : decode cL_law 28 = .ok (.iload_n 3, 1) := by decide +kernel
theorem dL_law_29 : decode cL_law 29 = .ok (.iaload, 1) := by decide +kernel
theorem dL_law_30 : decode cL_law 30 = .ok (.bipush 31, 2) := by decide +kernel
theorem dL_law_32 : decode cL_law 32 = .ok (.iand, 1) := by decide +kernel
theorem dL_law_33 : decode cL_law 33 = .ok (.tableswitch 680 0 18 #[91, 154, 187, 240, 293, 306, 329, 352, 365, 388, 421, 455, 479, 512, 545, 568, 591, 614, 647], 91) := by decide +kernel
theorem dL_law_124 : decode cL_law 124 = .ok (.aload_n 1, 1) := by decide +kernel
theorem dL_law_125 : decode cL_law 125 = .ok (.aload_n 0, 1) := by decide +kernel
theorem dL_law_126 : decode cL_law 126 = .ok (.iload_n 3, 1) := by decide +kernel
theorem dL_law_127 : decode cL_law 127 = .ok (.iconst 1, 1) := by decide +kernel
theorem dL_law_128 : decode cL_law 128 = .ok (.iadd, 1) := by decide +kernel
theorem dL_law_129 : decode cL_law 129 = .ok (.iaload, 1) := by decide +kernel
theorem dL_law_130 : decode cL_law 130 = .ok (.aload_n 0, 1) := by decide +kernel
theorem dL_law_131 : decode cL_law 131 = .ok (.iload_n 3, 1) := by decide +kernel
theorem dL_law_132 : decode cL_law 132 = .ok (.iconst 2, 1) := by decide +kernel
theorem dL_law_133 : decode cL_law 133 = .ok (.iadd, 1) := by decide +kernel
theorem dL_law_134 : decode cL_law 134 = .ok (.iaload, 1) := by decide +kernel
theorem dL_law_135 : decode cL_law 135 = .ok (.aload_n 0, 1) := by decide +kernel
theorem dL_law_136 : decode cL_law 136 = .ok (.iload_n 3, 1) := by decide +kernel
theorem dL_law_137 : decode cL_law 137 = .ok (.iconst 3, 1) := by decide +kernel
theorem dL_law_138 : decode cL_law 138 = .ok (.iadd, 1) := by decide +kernel
theorem dL_law_139 : decode cL_law 139 = .ok (.iaload, 1) := by decide +kernel
theorem dL_law_140 : decode cL_law 140 = .ok (.aload_n 0, 1) := by decide +kernel
theorem dL_law_141 : decode cL_law 141 = .ok (.iload_n 3, 1) := by decide +kernel
theorem dL_law_142 : decode cL_law 142 = .ok (.iconst 4, 1) := by decide +kernel
theorem dL_law_143 : decode cL_law 143 = .ok (.iadd, 1) := by decide +kernel
theorem dL_law_144 : decode cL_law 144 = .ok (.iaload, 1) := by decide +kernel
theorem dL_law_145 : decode cL_law 145 = .ok (.aload_n 0, 1) := by decide +kernel
theorem dL_law_146 : decode cL_law 146 = .ok (.iload_n 3, 1) := by decide +kernel
theorem dL_law_147 : decode cL_law 147 = .ok (.iconst 5, 1) := by decide +kernel
theorem dL_law_148 : decode cL_law 148 = .ok (.iadd, 1) := by decide +kernel
theorem dL_law_149 : decode cL_law 149 = .ok (.iaload, 1) := by decide +kernel
theorem dL_law_150 : decode cL_law 150 = .ok (.invokevirtual 13, 3) := by decide +kernel
theorem dL_law_153 : decode cL_law 153 = .ok (.aload_n 2, 1) := by decide +kernel
theorem dL_law_154 : decode cL_law 154 = .ok (.aload_n 0, 1) := by decide +kernel
theorem dL_law_155 : decode cL_law 155 = .ok (.iload_n 3, 1) := by decide +kernel
theorem dL_law_156 : decode cL_law 156 = .ok (.iconst 1, 1) := by decide +kernel
theorem dL_law_157 : decode cL_law 157 = .ok (.iadd, 1) := by decide +kernel
theorem dL_law_158 : decode cL_law 158 = .ok (.iaload, 1) := by decide +kernel
theorem dL_law_159 : decode cL_law 159 = .ok (.aload_n 0, 1) := by decide +kernel
theorem dL_law_160 : decode cL_law 160 = .ok (.iload_n 3, 1) := by decide +kernel
theorem dL_law_161 : decode cL_law 161 = .ok (.iconst 2, 1) := by decide +kernel
theorem dL_law_162 : decode cL_law 162 = .ok (.iadd, 1) := by decide +kernel
theorem dL_law_163 : decode cL_law 163 = .ok (.iaload, 1) := by decide +kernel
theorem dL_law_164 : decode cL_law 164 = .ok (.aload_n 0, 1) := by decide +kernel
theorem dL_law_165 : decode cL_law 165 = .ok (.iload_n 3, 1) := by decide +kernel
theorem dL_law_166 : decode cL_law 166 = .ok (.iconst 3, 1) := by decide +kernel
theorem dL_law_167 : decode cL_law 167 = .ok (.iadd, 1) := by decide +kernel
theorem dL_law_168 : decode cL_law 168 = .ok (.iaload, 1) := by decide +kernel
theorem dL_law_169 : decode cL_law 169 = .ok (.aload_n 0, 1) := by decide +kernel
theorem dL_law_170 : decode cL_law 170 = .ok (.iload_n 3, 1) := by decide +kernel
theorem dL_law_171 : decode cL_law 171 = .ok (.iconst 4, 1) := by decide +kernel
theorem dL_law_172 : decode cL_law 172 = .ok (.iadd, 1) := by decide +kernel
theorem dL_law_173 : decode cL_law 173 = .ok (.iaload, 1) := by decide +kernel
theorem dL_law_174 : decode cL_law 174 = .ok (.aload_n 0, 1) := by decide +kernel
theorem dL_law_175 : decode cL_law 175 = .ok (.iload_n 3, 1) := by decide +kernel
theorem dL_law_176 : decode cL_law 176 = .ok (.iconst 5, 1) := by decide +kernel
theorem dL_law_177 : decode cL_law 177 = .ok (.iadd, 1) := by decide +kernel
theorem dL_law_178 : decode cL_law 178 = .ok (.iaload, 1) := by decide +kernel
theorem dL_law_179 : decode cL_law 179 = .ok (.invokevirtual 17, 3) := by decide +kernel
theorem dL_law_182 : decode cL_law 182 = .ok (.if_icmp .eq 531, 3) := by decide +kernel
theorem dL_law_185 : decode cL_law 185 = .ok (.iconst 0, 1) := by decide +kernel
theorem dL_law_186 : decode cL_law 186 = .ok (.ireturn, 1) := by decide +kernel
theorem dL_law_187 : decode cL_law 187 = .ok (.aload_n 1, 1) := by decide +kernel
theorem dL_law_188 : decode cL_law 188 = .ok (.aload_n 0, 1) := by decide +kernel
theorem dL_law_189 : decode cL_law 189 = .ok (.iload_n 3, 1) := by decide +kernel
theorem dL_law_190 : decode cL_law 190 = .ok (.iconst 1, 1) := by decide +kernel
theorem dL_law_191 : decode cL_law 191 = .ok (.iadd, 1) := by decide +kernel
theorem dL_law_192 : decode cL_law 192 = .ok (.iaload, 1) := by decide +kernel
theorem dL_law_193 : decode cL_law 193 = .ok (.aload_n 0, 1) := by decide +kernel
theorem dL_law_194 : decode cL_law 194 = .ok (.iload_n 3, 1) := by decide +kernel
theorem dL_law_195 : decode cL_law 195 = .ok (.iconst 2, 1) := by decide +kernel
theorem dL_law_196 : decode cL_law 196 = .ok (.iadd, 1) := by decide +kernel
theorem dL_law_197 : decode cL_law 197 = .ok (.iaload, 1) := by decide +kernel
theorem dL_law_198 : decode cL_law 198 = .ok (.invokevirtual 18, 3) := by decide +kernel
theorem dL_law_201 : decode cL_law 201 = .ok (.aload_n 2, 1) := by decide +kernel
theorem dL_law_202 : decode cL_law 202 = .ok (.aload_n 0, 1) := by decide +kernel
theorem dL_law_203 : decode cL_law 203 = .ok (.iload_n 3, 1) := by decide +kernel
theorem dL_law_204 : decode cL_law 204 = .ok (.iconst 1, 1) := by decide +kernel
theorem dL_law_205 : decode cL_law 205 = .ok (.iadd, 1) := by decide +kernel
theorem dL_law_206 : decode cL_law 206 = .ok (.iaload, 1) := by decide +kernel
theorem dL_law_207 : decode cL_law 207 = .ok (.aload_n 0, 1) := by decide +kernel
theorem dL_law_208 : decode cL_law 208 = .ok (.iload_n 3, 1) := by decide +kernel
theorem dL_law_209 : decode cL_law 209 = .ok (.iconst 2, 1) := by decide +kernel
theorem dL_law_210 : decode cL_law 210 = .ok (.iadd, 1) := by decide +kernel
theorem dL_law_211 : decode cL_law 211 = .ok (.iaload, 1) := by decide +kernel
theorem dL_law_212 : decode cL_law 212 = .ok (.invokevirtual 22, 3) := by decide +kernel
theorem dL_law_215 : decode cL_law 215 = .ok (.if_icmp .eq 498, 3) := by decide +kernel
theorem dL_law_218 : decode cL_law 218 = .ok (.iconst 0, 1) := by decide +kernel
theorem dL_law_219 : decode cL_law 219 = .ok (.ireturn, 1) := by decide +kernel
theorem dL_law_220 : decode cL_law 220 = .ok (.aload_n 1, 1) := by decide +kernel
theorem dL_law_221 : decode cL_law 221 = .ok (.aload_n 0, 1) := by decide +kernel
theorem dL_law_222 : decode cL_law 222 = .ok (.iload_n 3, 1) := by decide +kernel
theorem dL_law_223 : decode cL_law 223 = .ok (.iconst 1, 1) := by decide +kernel
theorem dL_law_224 : decode cL_law 224 = .ok (.iadd, 1) := by decide +kernel
theorem dL_law_225 : decode cL_law 225 = .ok (.iaload, 1) := by decide +kernel
theorem dL_law_226 : decode cL_law 226 = .ok (.aload_n 0, 1) := by decide +kernel
theorem dL_law_227 : decode cL_law 227 = .ok (.iload_n 3, 1) := by decide +kernel
theorem dL_law_228 : decode cL_law 228 = .ok (.iconst 2, 1) := by decide +kernel
theorem dL_law_229 : decode cL_law 229 = .ok (.iadd, 1) := by decide +kernel
theorem dL_law_230 : decode cL_law 230 = .ok (.iaload, 1) := by decide +kernel
theorem dL_law_231 : decode cL_law 231 = .ok (.aload_n 0, 1) := by decide +kernel
theorem dL_law_232 : decode cL_law 232 = .ok (.iload_n 3, 1) := by decide +kernel
theorem dL_law_233 : decode cL_law 233 = .ok (.iconst 3, 1) := by decide +kernel
theorem dL_law_234 : decode cL_law 234 = .ok (.iadd, 1) := by decide +kernel
theorem dL_law_235 : decode cL_law 235 = .ok (.iaload, 1) := by decide +kernel
theorem dL_law_236 : decode cL_law 236 = .ok (.aload_n 0, 1) := by decide +kernel
theorem dL_law_237 : decode cL_law 237 = .ok (.iload_n 3, 1) := by decide +kernel
theorem dL_law_238 : decode cL_law 238 = .ok (.iconst 4, 1) := by decide +kernel
theorem dL_law_239 : decode cL_law 239 = .ok (.iadd, 1) := by decide +kernel
theorem dL_law_240 : decode cL_law 240 = .ok (.iaload, 1) := by decide +kernel
theorem dL_law_241 : decode cL_law 241 = .ok (.invokevirtual 23, 3) := by decide +kernel
theorem dL_law_244 : decode cL_law 244 = .ok (.aload_n 2, 1) := by decide +kernel
theorem dL_law_245 : decode cL_law 245 = .ok (.aload_n 0, 1) := by decide +kernel
theorem dL_law_246 : decode cL_law 246 = .ok (.iload_n 3, 1) := by decide +kernel
theorem dL_law_247 : decode cL_law 247 = .ok (.iconst 1, 1) := by decide +kernel
theorem dL_law_248 : decode cL_law 248 = .ok (.iadd, 1) := by decide +kernel
theorem dL_law_249 : decode cL_law 249 = .ok (.iaload, 1) := by decide +kernel
theorem dL_law_250 : decode cL_law 250 = .ok (.aload_n 0, 1) := by decide +kernel
theorem dL_law_251 : decode cL_law 251 = .ok (.iload_n 3, 1) := by decide +kernel
theorem dL_law_252 : decode cL_law 252 = .ok (.iconst 2, 1) := by decide +kernel
theorem dL_law_253 : decode cL_law 253 = .ok (.iadd, 1) := by decide +kernel
theorem dL_law_254 : decode cL_law 254 = .ok (.iaload, 1) := by decide +kernel
theorem dL_law_255 : decode cL_law 255 = .ok (.aload_n 0, 1) := by decide +kernel
theorem dL_law_256 : decode cL_law 256 = .ok (.iload_n 3, 1) := by decide +kernel
theorem dL_law_257 : decode cL_law 257 = .ok (.iconst 3, 1) := by decide +kernel
theorem dL_law_258 : decode cL_law 258 = .ok (.iadd, 1) := by decide +kernel
theorem dL_law_259 : decode cL_law 259 = .ok (.iaload, 1) := by decide +kernel
theorem dL_law_260 : decode cL_law 260 = .ok (.aload_n 0, 1) := by decide +kernel
theorem dL_law_261 : decode cL_law 261 = .ok (.iload_n 3, 1) := by decide +kernel
theorem dL_law_262 : decode cL_law 262 = .ok (.iconst 4, 1) := by decide +kernel
theorem dL_law_263 : decode cL_law 263 = .ok (.iadd, 1) := by decide +kernel
theorem dL_law_264 : decode cL_law 264 = .ok (.iaload, 1) := by decide +kernel
theorem dL_law_265 : decode cL_law 265 = .ok (.invokevirtual 27, 3) := by decide +kernel
theorem dL_law_268 : decode cL_law 268 = .ok (.if_icmp .eq 445, 3) := by decide +kernel
theorem dL_law_271 : decode cL_law 271 = .ok (.iconst 0, 1) := by decide +kernel
theorem dL_law_272 : decode cL_law 272 = .ok (.ireturn, 1) := by decide +kernel
theorem dL_law_273 : decode cL_law 273 = .ok (.aload_n 1, 1) := by decide +kernel
theorem dL_law_274 : decode cL_law 274 = .ok (.aload_n 0, 1) := by decide +kernel
theorem dL_law_275 : decode cL_law 275 = .ok (.iload_n 3, 1) := by decide +kernel
theorem dL_law_276 : decode cL_law 276 = .ok (.iconst 1, 1) := by decide +kernel
theorem dL_law_277 : decode cL_law 277 = .ok (.iadd, 1) := by decide +kernel
theorem dL_law_278 : decode cL_law 278 = .ok (.iaload, 1) := by decide +kernel
theorem dL_law_279 : decode cL_law 279 = .ok (.aload_n 0, 1) := by decide +kernel
theorem dL_law_280 : decode cL_law 280 = .ok (.iload_n 3, 1) := by decide +kernel
theorem dL_law_281 : decode cL_law 281 = .ok (.iconst 2, 1) := by decide +kernel
theorem dL_law_282 : decode cL_law 282 = .ok (.iadd, 1) := by decide +kernel
theorem dL_law_283 : decode cL_law 283 = .ok (.iaload, 1) := by decide +kernel
theorem dL_law_284 : decode cL_law 284 = .ok (.aload_n 0, 1) := by decide +kernel
theorem dL_law_285 : decode cL_law 285 = .ok (.iload_n 3, 1) := by decide +kernel
theorem dL_law_286 : decode cL_law 286 = .ok (.iconst 3, 1) := by decide +kernel
theorem dL_law_287 : decode cL_law 287 = .ok (.iadd, 1) := by decide +kernel
theorem dL_law_288 : decode cL_law 288 = .ok (.iaload, 1) := by decide +kernel
theorem dL_law_289 : decode cL_law 289 = .ok (.aload_n 0, 1) := by decide +kernel
theorem dL_law_290 : decode cL_law 290 = .ok (.iload_n 3, 1) := by decide +kernel
theorem dL_law_291 : decode cL_law 291 = .ok (.iconst 4, 1) := by decide +kernel
theorem dL_law_292 : decode cL_law 292 = .ok (.iadd, 1) := by decide +kernel
theorem dL_law_293 : decode cL_law 293 = .ok (.iaload, 1) := by decide +kernel
theorem dL_law_294 : decode cL_law 294 = .ok (.invokevirtual 28, 3) := by decide +kernel
theorem dL_law_297 : decode cL_law 297 = .ok (.aload_n 2, 1) := by decide +kernel
theorem dL_law_298 : decode cL_law 298 = .ok (.aload_n 0, 1) := by decide +kernel
theorem dL_law_299 : decode cL_law 299 = .ok (.iload_n 3, 1) := by decide +kernel
theorem dL_law_300 : decode cL_law 300 = .ok (.iconst 1, 1) := by decide +kernel
theorem dL_law_301 : decode cL_law 301 = .ok (.iadd, 1) := by decide +kernel
theorem dL_law_302 : decode cL_law 302 = .ok (.iaload, 1) := by decide +kernel
theorem dL_law_303 : decode cL_law 303 = .ok (.aload_n 0, 1) := by decide +kernel
theorem dL_law_304 : decode cL_law 304 = .ok (.iload_n 3, 1) := by decide +kernel
theorem dL_law_305 : decode cL_law 305 = .ok (.iconst 2, 1) := by decide +kernel
theorem dL_law_306 : decode cL_law 306 = .ok (.iadd, 1) := by decide +kernel
theorem dL_law_307 : decode cL_law 307 = .ok (.iaload, 1) := by decide +kernel
theorem dL_law_308 : decode cL_law 308 = .ok (.aload_n 0, 1) := by decide +kernel
theorem dL_law_309 : decode cL_law 309 = .ok (.iload_n 3, 1) := by decide +kernel
theorem dL_law_310 : decode cL_law 310 = .ok (.iconst 3, 1) := by decide +kernel
theorem dL_law_311 : decode cL_law 311 = .ok (.iadd, 1) := by decide +kernel
theorem dL_law_312 : decode cL_law 312 = .ok (.iaload, 1) := by decide +kernel
theorem dL_law_313 : decode cL_law 313 = .ok (.aload_n 0, 1) := by decide +kernel
theorem dL_law_314 : decode cL_law 314 = .ok (.iload_n 3, 1) := by decide +kernel
theorem dL_law_315 : decode cL_law 315 = .ok (.iconst 4, 1) := by decide +kernel
theorem dL_law_316 : decode cL_law 316 = .ok (.iadd, 1) := by decide +kernel
theorem dL_law_317 : decode cL_law 317 = .ok (.iaload, 1) := by decide +kernel
theorem dL_law_318 : decode cL_law 318 = .ok (.invokevirtual 31, 3) := by decide +kernel
theorem dL_law_321 : decode cL_law 321 = .ok (.if_icmp .eq 392, 3) := by decide +kernel
theorem dL_law_324 : decode cL_law 324 = .ok (.iconst 0, 1) := by decide +kernel
theorem dL_law_325 : decode cL_law 325 = .ok (.ireturn, 1) := by decide +kernel
theorem dL_law_326 : decode cL_law 326 = .ok (.aload_n 1, 1) := by decide +kernel
theorem dL_law_327 : decode cL_law 327 = .ok (.invokevirtual 32, 3) := by decide +kernel
theorem dL_law_330 : decode cL_law 330 = .ok (.aload_n 2, 1) := by decide +kernel
theorem dL_law_331 : decode cL_law 331 = .ok (.invokevirtual 36, 3) := by decide +kernel
theorem dL_law_334 : decode cL_law 334 = .ok (.if_icmp .eq 379, 3) := by decide +kernel
theorem dL_law_337 : decode cL_law 337 = .ok (.iconst 0, 1) := by decide +kernel
theorem dL_law_338 : decode cL_law 338 = .ok (.ireturn, 1) := by decide +kernel
theorem dL_law_339 : decode cL_law 339 = .ok (.aload_n 1, 1) := by decide +kernel
theorem dL_law_340 : decode cL_law 340 = .ok (.aload_n 0, 1) := by decide +kernel
theorem dL_law_341 : decode cL_law 341 = .ok (.iload_n 3, 1) := by decide +kernel
theorem dL_law_342 : decode cL_law 342 = .ok (.iconst 1, 1) := by decide +kernel
theorem dL_law_343 : decode cL_law 343 = .ok (.iadd, 1) := by decide +kernel
theorem dL_law_344 : decode cL_law 344 = .ok (.iaload, 1) := by decide +kernel
theorem dL_law_345 : decode cL_law 345 = .ok (.invokevirtual 37, 3) := by decide +kernel
theorem dL_law_348 : decode cL_law 348 = .ok (.aload_n 2, 1) := by decide +kernel
theorem dL_law_349 : decode cL_law 349 = .ok (.aload_n 0, 1) := by decide +kernel
theorem dL_law_350 : decode cL_law 350 = .ok (.iload_n 3, 1) := by decide +kernel
theorem dL_law_351 : decode cL_law 351 = .ok (.iconst 1, 1) := by decide +kernel
theorem dL_law_352 : decode cL_law 352 = .ok (.iadd, 1) := by decide +kernel
theorem dL_law_353 : decode cL_law 353 = .ok (.iaload, 1) := by decide +kernel
theorem dL_law_354 : decode cL_law 354 = .ok (.invokevirtual 41, 3) := by decide +kernel
theorem dL_law_357 : decode cL_law 357 = .ok (.if_icmp .eq 356, 3) := by decide +kernel
theorem dL_law_360 : decode cL_law 360 = .ok (.iconst 0, 1) := by decide +kernel
theorem dL_law_361 : decode cL_law 361 = .ok (.ireturn, 1) := by decide +kernel
theorem dL_law_362 : decode cL_law 362 = .ok (.aload_n 1, 1) := by decide +kernel
theorem dL_law_363 : decode cL_law 363 = .ok (.aload_n 0, 1) := by decide +kernel
theorem dL_law_364 : decode cL_law 364 = .ok (.iload_n 3, 1) := by decide +kernel
theorem dL_law_365 : decode cL_law 365 = .ok (.iconst 1, 1) := by decide +kernel
theorem dL_law_366 : decode cL_law 366 = .ok (.iadd, 1) := by decide +kernel
theorem dL_law_367 : decode cL_law 367 = .ok (.iaload, 1) := by decide +kernel
theorem dL_law_368 : decode cL_law 368 = .ok (.invokevirtual 42, 3) := by decide +kernel
theorem dL_law_371 : decode cL_law 371 = .ok (.aload_n 2, 1) := by decide +kernel
theorem dL_law_372 : decode cL_law 372 = .ok (.aload_n 0, 1) := by decide +kernel
theorem dL_law_373 : decode cL_law 373 = .ok (.iload_n 3, 1) := by decide +kernel
theorem dL_law_374 : decode cL_law 374 = .ok (.iconst 1, 1) := by decide +kernel
theorem dL_law_375 : decode cL_law 375 = .ok (.iadd, 1) := by decide +kernel
theorem dL_law_376 : decode cL_law 376 = .ok (.iaload, 1) := by decide +kernel
theorem dL_law_377 : decode cL_law 377 = .ok (.invokevirtual 45, 3) := by decide +kernel
theorem dL_law_380 : decode cL_law 380 = .ok (.if_icmp .eq 333, 3) := by decide +kernel
theorem dL_law_383 : decode cL_law 383 = .ok (.iconst 0, 1) := by decide +kernel
theorem dL_law_384 : decode cL_law 384 = .ok (.ireturn, 1) := by decide +kernel
theorem dL_law_385 : decode cL_law 385 = .ok (.aload_n 1, 1) := by decide +kernel
theorem dL_law_386 : decode cL_law 386 = .ok (.invokevirtual 46, 3) := by decide +kernel
theorem dL_law_389 : decode cL_law 389 = .ok (.aload_n 2, 1) := by decide +kernel
theorem dL_law_390 : decode cL_law 390 = .ok (.invokevirtual 49, 3) := by decide +kernel
theorem dL_law_393 : decode cL_law 393 = .ok (.if_icmp .eq 320, 3) := by decide +kernel
theorem dL_law_396 : decode cL_law 396 = .ok (.iconst 0, 1) := by decide +kernel
theorem dL_law_397 : decode cL_law 397 = .ok (.ireturn, 1) := by decide +kernel
theorem dL_law_398 : decode cL_law 398 = .ok (.aload_n 1, 1) := by decide +kernel
theorem dL_law_399 : decode cL_law 399 = .ok (.aload_n 0, 1) := by decide +kernel
theorem dL_law_400 : decode cL_law 400 = .ok (.iload_n 3, 1) := by decide +kernel
theorem dL_law_401 : decode cL_law 401 = .ok (.iconst 1, 1) := by decide +kernel
theorem dL_law_402 : decode cL_law 402 = .ok (.iadd, 1) := by decide +kernel
theorem dL_law_403 : decode cL_law 403 = .ok (.iaload, 1) := by decide +kernel
theorem dL_law_404 : decode cL_law 404 = .ok (.invokevirtual 50, 3) := by decide +kernel
theorem dL_law_407 : decode cL_law 407 = .ok (.aload_n 2, 1) := by decide +kernel
theorem dL_law_408 : decode cL_law 408 = .ok (.aload_n 0, 1) := by decide +kernel
theorem dL_law_409 : decode cL_law 409 = .ok (.iload_n 3, 1) := by decide +kernel
theorem dL_law_410 : decode cL_law 410 = .ok (.iconst 1, 1) := by decide +kernel
theorem dL_law_411 : decode cL_law 411 = .ok (.iadd, 1) := by decide +kernel
theorem dL_law_412 : decode cL_law 412 = .ok (.iaload, 1) := by decide +kernel
theorem dL_law_413 : decode cL_law 413 = .ok (.invokevirtual 53, 3) := by decide +kernel
theorem dL_law_416 : decode cL_law 416 = .ok (.if_icmp .eq 297, 3) := by decide +kernel
theorem dL_law_419 : decode cL_law 419 = .ok (.iconst 0, 1) := by decide +kernel
theorem dL_law_420 : decode cL_law 420 = .ok (.ireturn, 1) := by decide +kernel
theorem dL_law_421 : decode cL_law 421 = .ok (.aload_n 1, 1) := by decide +kernel
theorem dL_law_422 : decode cL_law 422 = .ok (.aload_n 0, 1) := by decide +kernel
theorem dL_law_423 : decode cL_law 423 = .ok (.iload_n 3, 1) := by decide +kernel
theorem dL_law_424 : decode cL_law 424 = .ok (.iconst 1, 1) := by decide +kernel
theorem dL_law_425 : decode cL_law 425 = .ok (.iadd, 1) := by decide +kernel
theorem dL_law_426 : decode cL_law 426 = .ok (.iaload, 1) := by decide +kernel
theorem dL_law_427 : decode cL_law 427 = .ok (.aload_n 0, 1) := by decide +kernel
theorem dL_law_428 : decode cL_law 428 = .ok (.iload_n 3, 1) := by decide +kernel
theorem dL_law_429 : decode cL_law 429 = .ok (.iconst 2, 1) := by decide +kernel
theorem dL_law_430 : decode cL_law 430 = .ok (.iadd, 1) := by decide +kernel
theorem dL_law_431 : decode cL_law 431 = .ok (.iaload, 1) := by decide +kernel
theorem dL_law_432 : decode cL_law 432 = .ok (.invokevirtual 54, 3) := by decide +kernel
theorem dL_law_435 : decode cL_law 435 = .ok (.aload_n 2, 1) := by decide +kernel
theorem dL_law_436 : decode cL_law 436 = .ok (.aload_n 0, 1) := by decide +kernel
theorem dL_law_437 : decode cL_law 437 = .ok (.iload_n 3, 1) := by decide +kernel
theorem dL_law_438 : decode cL_law 438 = .ok (.iconst 1, 1) := by decide +kernel
theorem dL_law_439 : decode cL_law 439 = .ok (.iadd, 1) := by decide +kernel
theorem dL_law_440 : decode cL_law 440 = .ok (.iaload, 1) := by decide +kernel
theorem dL_law_441 : decode cL_law 441 = .ok (.aload_n 0, 1) := by decide +kernel
theorem dL_law_442 : decode cL_law 442 = .ok (.iload_n 3, 1) := by decide +kernel
theorem dL_law_443 : decode cL_law 443 = .ok (.iconst 2, 1) := by decide +kernel
theorem dL_law_444 : decode cL_law 444 = .ok (.iadd, 1) := by decide +kernel
theorem dL_law_445 : decode cL_law 445 = .ok (.iaload, 1) := by decide +kernel
theorem dL_law_446 : decode cL_law 446 = .ok (.invokevirtual 57, 3) := by decide +kernel
theorem dL_law_449 : decode cL_law 449 = .ok (.if_icmp .eq 264, 3) := by decide +kernel
theorem dL_law_452 : decode cL_law 452 = .ok (.iconst 0, 1) := by decide +kernel
theorem dL_law_453 : decode cL_law 453 = .ok (.ireturn, 1) := by decide +kernel
theorem dL_law_454 : decode cL_law 454 = .ok (.aload_n 1, 1) := by decide +kernel
theorem dL_law_455 : decode cL_law 455 = .ok (.aload_n 0, 1) := by decide +kernel
theorem dL_law_456 : decode cL_law 456 = .ok (.iload_n 3, 1) := by decide +kernel
theorem dL_law_457 : decode cL_law 457 = .ok (.iconst 1, 1) := by decide +kernel
theorem dL_law_458 : decode cL_law 458 = .ok (.iadd, 1) := by decide +kernel
theorem dL_law_459 : decode cL_law 459 = .ok (.iaload, 1) := by decide +kernel
theorem dL_law_460 : decode cL_law 460 = .ok (.aload_n 0, 1) := by decide +kernel
theorem dL_law_461 : decode cL_law 461 = .ok (.iload_n 3, 1) := by decide +kernel
theorem dL_law_462 : decode cL_law 462 = .ok (.iconst 2, 1) := by decide +kernel
theorem dL_law_463 : decode cL_law 463 = .ok (.iadd, 1) := by decide +kernel
theorem dL_law_464 : decode cL_law 464 = .ok (.iaload, 1) := by decide +kernel
theorem dL_law_465 : decode cL_law 465 = .ok (.invokevirtual 58, 3) := by decide +kernel
theorem dL_law_468 : decode cL_law 468 = .ok (.aload_n 2, 1) := by decide +kernel
theorem dL_law_469 : decode cL_law 469 = .ok (.aload_n 0, 1) := by decide +kernel
theorem dL_law_470 : decode cL_law 470 = .ok (.iload_n 3, 1) := by decide +kernel
theorem dL_law_471 : decode cL_law 471 = .ok (.iconst 1, 1) := by decide +kernel
theorem dL_law_472 : decode cL_law 472 = .ok (.iadd, 1) := by decide +kernel
theorem dL_law_473 : decode cL_law 473 = .ok (.iaload, 1) := by decide +kernel
theorem dL_law_474 : decode cL_law 474 = .ok (.aload_n 0, 1) := by decide +kernel
theorem dL_law_475 : decode cL_law 475 = .ok (.iload_n 3, 1) := by decide +kernel
theorem dL_law_476 : decode cL_law 476 = .ok (.iconst 2, 1) := by decide +kernel
theorem dL_law_477 : decode cL_law 477 = .ok (.iadd, 1) := by decide +kernel
theorem dL_law_478 : decode cL_law 478 = .ok (.iaload, 1) := by decide +kernel
theorem dL_law_479 : decode cL_law 479 = .ok (.invokevirtual 62, 3) := by decide +kernel
theorem dL_law_482 : decode cL_law 482 = .ok (.lcmp, 1) := by decide +kernel
theorem dL_law_483 : decode cL_law 483 = .ok (.ifCond .eq 230, 3) := by decide +kernel
theorem dL_law_486 : decode cL_law 486 = .ok (.iconst 0, 1) := by decide +kernel
theorem dL_law_487 : decode cL_law 487 = .ok (.ireturn, 1) := by decide +kernel
theorem dL_law_488 : decode cL_law 488 = .ok (.aload_n 1, 1) := by decide +kernel
theorem dL_law_489 : decode cL_law 489 = .ok (.aload_n 0, 1) := by decide +kernel
theorem dL_law_490 : decode cL_law 490 = .ok (.iload_n 3, 1) := by decide +kernel
theorem dL_law_491 : decode cL_law 491 = .ok (.iconst 1, 1) := by decide +kernel
theorem dL_law_492 : decode cL_law 492 = .ok (.iadd, 1) := by decide +kernel
theorem dL_law_493 : decode cL_law 493 = .ok (.iaload, 1) := by decide +kernel
theorem dL_law_494 : decode cL_law 494 = .ok (.invokevirtual 63, 3) := by decide +kernel
theorem dL_law_497 : decode cL_law 497 = .ok (.aload_n 2, 1) := by decide +kernel
theorem dL_law_498 : decode cL_law 498 = .ok (.aload_n 0, 1) := by decide +kernel
theorem dL_law_499 : decode cL_law 499 = .ok (.iload_n 3, 1) := by decide +kernel
theorem dL_law_500 : decode cL_law 500 = .ok (.iconst 1, 1) := by decide +kernel
theorem dL_law_501 : decode cL_law 501 = .ok (.iadd, 1) := by decide +kernel
theorem dL_law_502 : decode cL_law 502 = .ok (.iaload, 1) := by decide +kernel
theorem dL_law_503 : decode cL_law 503 = .ok (.invokevirtual 67, 3) := by decide +kernel
theorem dL_law_506 : decode cL_law 506 = .ok (.lcmp, 1) := by decide +kernel
theorem dL_law_507 : decode cL_law 507 = .ok (.ifCond .eq 206, 3) := by decide +kernel
theorem dL_law_510 : decode cL_law 510 = .ok (.iconst 0, 1) := by decide +kernel
theorem dL_law_511 : decode cL_law 511 = .ok (.ireturn, 1) := by decide +kernel
theorem dL_law_512 : decode cL_law 512 = .ok (.aload_n 1, 1) := by decide +kernel
theorem dL_law_513 : decode cL_law 513 = .ok (.aload_n 0, 1) := by decide +kernel
theorem dL_law_514 : decode cL_law 514 = .ok (.iload_n 3, 1) := by decide +kernel
theorem dL_law_515 : decode cL_law 515 = .ok (.iconst 1, 1) := by decide +kernel
theorem dL_law_516 : decode cL_law 516 = .ok (.iadd, 1) := by decide +kernel
theorem dL_law_517 : decode cL_law 517 = .ok (.iaload, 1) := by decide +kernel
theorem dL_law_518 : decode cL_law 518 = .ok (.aload_n 0, 1) := by decide +kernel
theorem dL_law_519 : decode cL_law 519 = .ok (.iload_n 3, 1) := by decide +kernel
theorem dL_law_520 : decode cL_law 520 = .ok (.iconst 2, 1) := by decide +kernel
theorem dL_law_521 : decode cL_law 521 = .ok (.iadd, 1) := by decide +kernel
theorem dL_law_522 : decode cL_law 522 = .ok (.iaload, 1) := by decide +kernel
theorem dL_law_523 : decode cL_law 523 = .ok (.invokevirtual 68, 3) := by decide +kernel
theorem dL_law_526 : decode cL_law 526 = .ok (.aload_n 2, 1) := by decide +kernel
theorem dL_law_527 : decode cL_law 527 = .ok (.aload_n 0, 1) := by decide +kernel
theorem dL_law_528 : decode cL_law 528 = .ok (.iload_n 3, 1) := by decide +kernel
theorem dL_law_529 : decode cL_law 529 = .ok (.iconst 1, 1) := by decide +kernel
theorem dL_law_530 : decode cL_law 530 = .ok (.iadd, 1) := by decide +kernel
theorem dL_law_531 : decode cL_law 531 = .ok (.iaload, 1) := by decide +kernel
theorem dL_law_532 : decode cL_law 532 = .ok (.aload_n 0, 1) := by decide +kernel
theorem dL_law_533 : decode cL_law 533 = .ok (.iload_n 3, 1) := by decide +kernel
theorem dL_law_534 : decode cL_law 534 = .ok (.iconst 2, 1) := by decide +kernel
theorem dL_law_535 : decode cL_law 535 = .ok (.iadd, 1) := by decide +kernel
theorem dL_law_536 : decode cL_law 536 = .ok (.iaload, 1) := by decide +kernel
theorem dL_law_537 : decode cL_law 537 = .ok (.invokevirtual 71, 3) := by decide +kernel
theorem dL_law_540 : decode cL_law 540 = .ok (.if_icmp .eq 173, 3) := by decide +kernel
theorem dL_law_543 : decode cL_law 543 = .ok (.iconst 0, 1) := by decide +kernel
theorem dL_law_544 : decode cL_law 544 = .ok (.ireturn, 1) := by decide +kernel
theorem dL_law_545 : decode cL_law 545 = .ok (.aload_n 1, 1) := by decide +kernel
theorem dL_law_546 : decode cL_law 546 = .ok (.aload_n 0, 1) := by decide +kernel
theorem dL_law_547 : decode cL_law 547 = .ok (.iload_n 3, 1) := by decide +kernel
theorem dL_law_548 : decode cL_law 548 = .ok (.iconst 1, 1) := by decide +kernel
theorem dL_law_549 : decode cL_law 549 = .ok (.iadd, 1) := by decide +kernel
theorem dL_law_550 : decode cL_law 550 = .ok (.iaload, 1) := by decide +kernel
theorem dL_law_551 : decode cL_law 551 = .ok (.aload_n 0, 1) := by decide +kernel
theorem dL_law_552 : decode cL_law 552 = .ok (.iload_n 3, 1) := by decide +kernel
theorem dL_law_553 : decode cL_law 553 = .ok (.iconst 2, 1) := by decide +kernel
theorem dL_law_554 : decode cL_law 554 = .ok (.iadd, 1) := by decide +kernel
theorem dL_law_555 : decode cL_law 555 = .ok (.iaload, 1) := by decide +kernel
theorem dL_law_556 : decode cL_law 556 = .ok (.invokevirtual 72, 3) := by decide +kernel
theorem dL_law_559 : decode cL_law 559 = .ok (.aload_n 2, 1) := by decide +kernel
theorem dL_law_560 : decode cL_law 560 = .ok (.aload_n 0, 1) := by decide +kernel
theorem dL_law_561 : decode cL_law 561 = .ok (.iload_n 3, 1) := by decide +kernel
theorem dL_law_562 : decode cL_law 562 = .ok (.iconst 1, 1) := by decide +kernel
theorem dL_law_563 : decode cL_law 563 = .ok (.iadd, 1) := by decide +kernel
theorem dL_law_564 : decode cL_law 564 = .ok (.iaload, 1) := by decide +kernel
theorem dL_law_565 : decode cL_law 565 = .ok (.aload_n 0, 1) := by decide +kernel
theorem dL_law_566 : decode cL_law 566 = .ok (.iload_n 3, 1) := by decide +kernel
theorem dL_law_567 : decode cL_law 567 = .ok (.iconst 2, 1) := by decide +kernel
theorem dL_law_568 : decode cL_law 568 = .ok (.iadd, 1) := by decide +kernel
theorem dL_law_569 : decode cL_law 569 = .ok (.iaload, 1) := by decide +kernel
theorem dL_law_570 : decode cL_law 570 = .ok (.invokevirtual 75, 3) := by decide +kernel
theorem dL_law_573 : decode cL_law 573 = .ok (.if_icmp .eq 140, 3) := by decide +kernel
theorem dL_law_576 : decode cL_law 576 = .ok (.iconst 0, 1) := by decide +kernel
theorem dL_law_577 : decode cL_law 577 = .ok (.ireturn, 1) := by decide +kernel
theorem dL_law_578 : decode cL_law 578 = .ok (.aload_n 1, 1) := by decide +kernel
theorem dL_law_579 : decode cL_law 579 = .ok (.aload_n 0, 1) := by decide +kernel
theorem dL_law_580 : decode cL_law 580 = .ok (.iload_n 3, 1) := by decide +kernel
theorem dL_law_581 : decode cL_law 581 = .ok (.iconst 1, 1) := by decide +kernel
theorem dL_law_582 : decode cL_law 582 = .ok (.iadd, 1) := by decide +kernel
theorem dL_law_583 : decode cL_law 583 = .ok (.iaload, 1) := by decide +kernel
theorem dL_law_584 : decode cL_law 584 = .ok (.invokevirtual 76, 3) := by decide +kernel
theorem dL_law_587 : decode cL_law 587 = .ok (.aload_n 2, 1) := by decide +kernel
theorem dL_law_588 : decode cL_law 588 = .ok (.aload_n 0, 1) := by decide +kernel
theorem dL_law_589 : decode cL_law 589 = .ok (.iload_n 3, 1) := by decide +kernel
theorem dL_law_590 : decode cL_law 590 = .ok (.iconst 1, 1) := by decide +kernel
theorem dL_law_591 : decode cL_law 591 = .ok (.iadd, 1) := by decide +kernel
theorem dL_law_592 : decode cL_law 592 = .ok (.iaload, 1) := by decide +kernel
theorem dL_law_593 : decode cL_law 593 = .ok (.invokevirtual 79, 3) := by decide +kernel
theorem dL_law_596 : decode cL_law 596 = .ok (.if_icmp .eq 117, 3) := by decide +kernel
theorem dL_law_599 : decode cL_law 599 = .ok (.iconst 0, 1) := by decide +kernel
theorem dL_law_600 : decode cL_law 600 = .ok (.ireturn, 1) := by decide +kernel
theorem dL_law_601 : decode cL_law 601 = .ok (.aload_n 1, 1) := by decide +kernel
theorem dL_law_602 : decode cL_law 602 = .ok (.aload_n 0, 1) := by decide +kernel
theorem dL_law_603 : decode cL_law 603 = .ok (.iload_n 3, 1) := by decide +kernel
theorem dL_law_604 : decode cL_law 604 = .ok (.iconst 1, 1) := by decide +kernel
theorem dL_law_605 : decode cL_law 605 = .ok (.iadd, 1) := by decide +kernel
theorem dL_law_606 : decode cL_law 606 = .ok (.iaload, 1) := by decide +kernel
theorem dL_law_607 : decode cL_law 607 = .ok (.invokevirtual 80, 3) := by decide +kernel
theorem dL_law_610 : decode cL_law 610 = .ok (.aload_n 2, 1) := by decide +kernel
theorem dL_law_611 : decode cL_law 611 = .ok (.aload_n 0, 1) := by decide +kernel
theorem dL_law_612 : decode cL_law 612 = .ok (.iload_n 3, 1) := by decide +kernel
theorem dL_law_613 : decode cL_law 613 = .ok (.iconst 1, 1) := by decide +kernel
theorem dL_law_614 : decode cL_law 614 = .ok (.iadd, 1) := by decide +kernel
theorem dL_law_615 : decode cL_law 615 = .ok (.iaload, 1) := by decide +kernel
theorem dL_law_616 : decode cL_law 616 = .ok (.invokevirtual 83, 3) := by decide +kernel
theorem dL_law_619 : decode cL_law 619 = .ok (.if_icmp .eq 94, 3) := by decide +kernel
theorem dL_law_622 : decode cL_law 622 = .ok (.iconst 0, 1) := by decide +kernel
theorem dL_law_623 : decode cL_law 623 = .ok (.ireturn, 1) := by decide +kernel
theorem dL_law_624 : decode cL_law 624 = .ok (.aload_n 1, 1) := by decide +kernel
theorem dL_law_625 : decode cL_law 625 = .ok (.aload_n 0, 1) := by decide +kernel
theorem dL_law_626 : decode cL_law 626 = .ok (.iload_n 3, 1) := by decide +kernel
theorem dL_law_627 : decode cL_law 627 = .ok (.iconst 1, 1) := by decide +kernel
theorem dL_law_628 : decode cL_law 628 = .ok (.iadd, 1) := by decide +kernel
theorem dL_law_629 : decode cL_law 629 = .ok (.iaload, 1) := by decide +kernel
theorem dL_law_630 : decode cL_law 630 = .ok (.invokevirtual 84, 3) := by decide +kernel
theorem dL_law_633 : decode cL_law 633 = .ok (.aload_n 2, 1) := by decide +kernel
theorem dL_law_634 : decode cL_law 634 = .ok (.aload_n 0, 1) := by decide +kernel
theorem dL_law_635 : decode cL_law 635 = .ok (.iload_n 3, 1) := by decide +kernel
theorem dL_law_636 : decode cL_law 636 = .ok (.iconst 1, 1) := by decide +kernel
theorem dL_law_637 : decode cL_law 637 = .ok (.iadd, 1) := by decide +kernel
theorem dL_law_638 : decode cL_law 638 = .ok (.iaload, 1) := by decide +kernel
theorem dL_law_639 : decode cL_law 639 = .ok (.invokevirtual 87, 3) := by decide +kernel
theorem dL_law_642 : decode cL_law 642 = .ok (.if_icmp .eq 71, 3) := by decide +kernel
theorem dL_law_645 : decode cL_law 645 = .ok (.iconst 0, 1) := by decide +kernel
theorem dL_law_646 : decode cL_law 646 = .ok (.ireturn, 1) := by decide +kernel
theorem dL_law_647 : decode cL_law 647 = .ok (.aload_n 1, 1) := by decide +kernel
theorem dL_law_648 : decode cL_law 648 = .ok (.aload_n 0, 1) := by decide +kernel
theorem dL_law_649 : decode cL_law 649 = .ok (.iload_n 3, 1) := by decide +kernel
theorem dL_law_650 : decode cL_law 650 = .ok (.iconst 1, 1) := by decide +kernel
theorem dL_law_651 : decode cL_law 651 = .ok (.iadd, 1) := by decide +kernel
theorem dL_law_652 : decode cL_law 652 = .ok (.iaload, 1) := by decide +kernel
theorem dL_law_653 : decode cL_law 653 = .ok (.aload_n 0, 1) := by decide +kernel
theorem dL_law_654 : decode cL_law 654 = .ok (.iload_n 3, 1) := by decide +kernel
theorem dL_law_655 : decode cL_law 655 = .ok (.iconst 2, 1) := by decide +kernel
theorem dL_law_656 : decode cL_law 656 = .ok (.iadd, 1) := by decide +kernel
theorem dL_law_657 : decode cL_law 657 = .ok (.iaload, 1) := by decide +kernel
theorem dL_law_658 : decode cL_law 658 = .ok (.invokevirtual 88, 3) := by decide +kernel
theorem dL_law_661 : decode cL_law 661 = .ok (.aload_n 2, 1) := by decide +kernel
theorem dL_law_662 : decode cL_law 662 = .ok (.aload_n 0, 1) := by decide +kernel
theorem dL_law_663 : decode cL_law 663 = .ok (.iload_n 3, 1) := by decide +kernel
theorem dL_law_664 : decode cL_law 664 = .ok (.iconst 1, 1) := by decide +kernel
theorem dL_law_665 : decode cL_law 665 = .ok (.iadd, 1) := by decide +kernel
theorem dL_law_666 : decode cL_law 666 = .ok (.iaload, 1) := by decide +kernel
theorem dL_law_667 : decode cL_law 667 = .ok (.aload_n 0, 1) := by decide +kernel
theorem dL_law_668 : decode cL_law 668 = .ok (.iload_n 3, 1) := by decide +kernel
theorem dL_law_669 : decode cL_law 669 = .ok (.iconst 2, 1) := by decide +kernel
theorem dL_law_670 : decode cL_law 670 = .ok (.iadd, 1) := by decide +kernel
theorem dL_law_671 : decode cL_law 671 = .ok (.iaload, 1) := by decide +kernel
theorem dL_law_672 : decode cL_law 672 = .ok (.invokevirtual 91, 3) := by decide +kernel
theorem dL_law_675 : decode cL_law 675 = .ok (.if_icmp .eq 38, 3) := by decide +kernel
theorem dL_law_678 : decode cL_law 678 = .ok (.iconst 0, 1) := by decide +kernel
theorem dL_law_679 : decode cL_law 679 = .ok (.ireturn, 1) := by decide +kernel
theorem dL_law_680 : decode cL_law 680 = .ok (.aload_n 1, 1) := by decide +kernel
theorem dL_law_681 : decode cL_law 681 = .ok (.aload_n 0, 1) := by decide +kernel
theorem dL_law_682 : decode cL_law 682 = .ok (.iload_n 3, 1) := by decide +kernel
theorem dL_law_683 : decode cL_law 683 = .ok (.iconst 1, 1) := by decide +kernel
theorem dL_law_684 : decode cL_law 684 = .ok (.iadd, 1) := by decide +kernel
theorem dL_law_685 : decode cL_law 685 = .ok (.iaload, 1) := by decide +kernel
theorem dL_law_686 : decode cL_law 686 = .ok (.aload_n 0, 1) := by decide +kernel
theorem dL_law_687 : decode cL_law 687 = .ok (.iload_n 3, 1) := by decide +kernel
theorem dL_law_688 : decode cL_law 688 = .ok (.iconst 2, 1) := by decide +kernel
theorem dL_law_689 : decode cL_law 689 = .ok (.iadd, 1) := by decide +kernel
theorem dL_law_690 : decode cL_law 690 = .ok (.iaload, 1) := by decide +kernel
theorem dL_law_691 : decode cL_law 691 = .ok (.invokevirtual 92, 3) := by decide +kernel
theorem dL_law_694 : decode cL_law 694 = .ok (.aload_n 2, 1) := by decide +kernel
theorem dL_law_695 : decode cL_law 695 = .ok (.aload_n 0, 1) := by decide +kernel
theorem dL_law_696 : decode cL_law 696 = .ok (.iload_n 3, 1) := by decide +kernel
theorem dL_law_697 : decode cL_law 697 = .ok (.iconst 1, 1) := by decide +kernel
theorem dL_law_698 : decode cL_law 698 = .ok (.iadd, 1) := by decide +kernel
theorem dL_law_699 : decode cL_law 699 = .ok (.iaload, 1) := by decide +kernel
theorem dL_law_700 : decode cL_law 700 = .ok (.aload_n 0, 1) := by decide +kernel
theorem dL_law_701 : decode cL_law 701 = .ok (.iload_n 3, 1) := by decide +kernel
theorem dL_law_702 : decode cL_law 702 = .ok (.iconst 2, 1) := by decide +kernel
theorem dL_law_703 : decode cL_law 703 = .ok (.iadd, 1) := by decide +kernel
theorem dL_law_704 : decode cL_law 704 = .ok (.iaload, 1) := by decide +kernel
theorem dL_law_705 : decode cL_law 705 = .ok (.invokevirtual 95, 3) := by decide +kernel
theorem dL_law_708 : decode cL_law 708 = .ok (.if_icmp .eq 5, 3) := by decide +kernel
theorem dL_law_711 : decode cL_law 711 = .ok (.iconst 0, 1) := by decide +kernel
theorem dL_law_712 : decode cL_law 712 = .ok (.ireturn, 1) := by decide +kernel
theorem dL_law_713 : decode cL_law 713 = .ok (.iinc 3 6, 3) := by decide +kernel
theorem dL_law_716 : decode cL_law 716 = .ok (.goto (-698), 3) := by decide +kernel
theorem dL_law_719 : decode cL_law 719 = .ok (.iconst 1, 1) := by decide +kernel
theorem dL_law_720 : decode cL_law 720 = .ok (.ireturn, 1) := by decide +kernel
