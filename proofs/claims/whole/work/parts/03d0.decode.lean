theorem dX0_init_0 : decode cX0_init 0 = .ok (.aload_n 0, 1) := by decide +kernel
theorem dX0_init_1 : decode cX0_init 1 = .ok (.invokespecial 3, 3) := by decide +kernel
theorem dX0_init_4 : decode cX0_init 4 = .ok (.aload_n 0, 1) := by decide +kernel
theorem dX0_init_5 : decode cX0_init 5 = .ok (.new 9, 3) := by decide +kernel
theorem dX0_init_8 : decode cX0_init 8 = .ok (.dup, 1) := by decide +kernel
theorem dX0_init_9 : decode cX0_init 9 = .ok (.invokespecial 11, 3) := by decide +kernel
theorem dX0_init_12 : decode cX0_init 12 = .ok (.putfield 12, 3) := by decide +kernel
theorem dX0_init_15 : decode cX0_init 15 = .ok (.aload_n 0, 1) := by decide +kernel
theorem dX0_init_16 : decode cX0_init 16 = .ok (.sipush 300, 3) := by decide +kernel
theorem dX0_init_19 : decode cX0_init 19 = .ok (.newarray .boolean, 2) := by decide +kernel
theorem dX0_init_21 : decode cX0_init 21 = .ok (.putfield 18, 3) := by decide +kernel
theorem dX0_init_24 : decode cX0_init 24 = .ok (.aload_n 0, 1) := by decide +kernel
theorem dX0_init_25 : decode cX0_init 25 = .ok (.new 22, 3) := by decide +kernel
theorem dX0_init_28 : decode cX0_init 28 = .ok (.dup, 1) := by decide +kernel
theorem dX0_init_29 : decode cX0_init 29 = .ok (.sipush 300, 3) := by decide +kernel
theorem dX0_init_32 : decode cX0_init 32 = .ok (.invokespecial 24, 3) := by decide +kernel
theorem dX0_init_35 : decode cX0_init 35 = .ok (.putfield 27, 3) := by decide +kernel
theorem dX0_init_38 : decode cX0_init 38 = .ok (.aload_n 0, 1) := by decide +kernel
theorem dX0_init_39 : decode cX0_init 39 = .ok (.new 22, 3) := by decide +kernel
theorem dX0_init_42 : decode cX0_init 42 = .ok (.dup, 1) := by decide +kernel
theorem dX0_init_43 : decode cX0_init 43 = .ok (.sipush 300, 3) := by decide +kernel
theorem dX0_init_46 : decode cX0_init 46 = .ok (.invokespecial 24, 3) := by decide +kernel
theorem dX0_init_49 : decode cX0_init 49 = .ok (.putfield 31, 3) := by decide +kernel
theorem dX0_init_52 : decode cX0_init 52 = .ok (.return_, 1) := by decide +kernel
theorem dX0_layOut_0 : decode cX0_layOut 0 = .ok (.aload_n 0, 1) := by decide +kernel
theorem dX0_layOut_1 : decode cX0_layOut 1 = .ok (.getfield 12, 3) := by decide +kernel
theorem dX0_layOut_4 : decode cX0_layOut 4 = .ok (.aload_n 1, 1) := by decide +kernel
theorem dX0_layOut_5 : decode cX0_layOut 5 = .ok (.invokevirtual 34, 3) := by decide +kernel
theorem dX0_layOut_8 : decode cX0_layOut 8 = .ok (.aload_n 0, 1) := by decide +kernel
theorem dX0_layOut_9 : decode cX0_layOut 9 = .ok (.iload_n 2, 1) := by decide +kernel
theorem dX0_layOut_10 : decode cX0_layOut 10 = .ok (.putfield 38, 3) := by decide +kernel
theorem dX0_layOut_13 : decode cX0_layOut 13 = .ok (.aload_n 0, 1) := by decide +kernel
theorem dX0_layOut_14 : decode cX0_layOut 14 = .ok (.iload_n 3, 1) := by decide +kernel
theorem dX0_layOut_15 : decode cX0_layOut 15 = .ok (.putfield 42, 3) := by decide +kernel
theorem dX0_layOut_18 : decode cX0_layOut 18 = .ok (.aload_n 0, 1) := by decide +kernel
theorem dX0_layOut_19 : decode cX0_layOut 19 = .ok (.aload_n 0, 1) := by decide +kernel
theorem dX0_layOut_20 : decode cX0_layOut 20 = .ok (.getfield 38, 3) := by decide +kernel
theorem dX0_layOut_23 : decode cX0_layOut 23 = .ok (.aload_n 0, 1) := by decide +kernel
theorem dX0_layOut_24 : decode cX0_layOut 24 = .ok (.getfield 42, 3) := by decide +kernel
theorem dX0_layOut_27 : decode cX0_layOut 27 = .ok (.imul, 1) := by decide +kernel
theorem dX0_layOut_28 : decode cX0_layOut 28 = .ok (.aload_n 0, 1) := by decide +kernel
theorem dX0_layOut_29 : decode cX0_layOut 29 = .ok (.getfield 12, 3) := by decide +kernel
theorem dX0_layOut_32 : decode cX0_layOut 32 = .ok (.getfield 45, 3) := by decide +kernel
theorem dX0_layOut_35 : decode cX0_layOut 35 = .ok (.imul, 1) := by decide +kernel
theorem dX0_layOut_36 : decode cX0_layOut 36 = .ok (.putfield 48, 3) := by decide +kernel
theorem dX0_layOut_39 : decode cX0_layOut 39 = .ok (.aload_n 0, 1) := by decide +kernel
theorem dX0_layOut_40 : decode cX0_layOut 40 = .ok (.aload_n 0, 1) := by decide +kernel
theorem dX0_layOut_41 : decode cX0_layOut 41 = .ok (.getfield 48, 3) := by decide +kernel
theorem dX0_layOut_44 : decode cX0_layOut 44 = .ok (.putfield 51, 3) := by decide +kernel
theorem dX0_layOut_47 : decode cX0_layOut 47 = .ok (.aload_n 0, 1) := by decide +kernel
theorem dX0_layOut_48 : decode cX0_layOut 48 = .ok (.dup, 1) := by decide +kernel
theorem dX0_layOut_49 : decode cX0_layOut 49 = .ok (.getfield 54, 3) := by decide +kernel
theorem dX0_layOut_52 : decode cX0_layOut 52 = .ok (.iconst 1, 1) := by decide +kernel
theorem dX0_layOut_53 : decode cX0_layOut 53 = .ok (.iadd, 1) := by decide +kernel
theorem dX0_layOut_54 : decode cX0_layOut 54 = .ok (.putfield 54, 3) := by decide +kernel
theorem dX0_layOut_57 : decode cX0_layOut 57 = .ok (.aload_n 0, 1) := by decide +kernel
theorem dX0_layOut_58 : decode cX0_layOut 58 = .ok (.getfield 27, 3) := by decide +kernel
theorem dX0_layOut_61 : decode cX0_layOut 61 = .ok (.invokevirtual 57, 3) := by decide +kernel
theorem dX0_layOut_64 : decode cX0_layOut 64 = .ok (.aload_n 0, 1) := by decide +kernel
theorem dX0_layOut_65 : decode cX0_layOut 65 = .ok (.getfield 31, 3) := by decide +kernel
theorem dX0_layOut_68 : decode cX0_layOut 68 = .ok (.invokevirtual 57, 3) := by decide +kernel
theorem dX0_layOut_71 : decode cX0_layOut 71 = .ok (.iconst 0, 1) := by decide +kernel
theorem dX0_layOut_72 : decode cX0_layOut 72 = .ok (.istore 4, 2) := by decide +kernel
theorem dX0_layOut_74 : decode cX0_layOut 74 = .ok (.iload 4, 2) := by decide +kernel
theorem dX0_layOut_76 : decode cX0_layOut 76 = .ok (.sipush 300, 3) := by decide +kernel
theorem dX0_layOut_79 : decode cX0_layOut 79 = .ok (.if_icmp .ge 30, 3) := by decide +kernel
theorem dX0_layOut_82 : decode cX0_layOut 82 = .ok (.aload_n 0, 1) := by decide +kernel
theorem dX0_layOut_83 : decode cX0_layOut 83 = .ok (.getfield 18, 3) := by decide +kernel
theorem dX0_layOut_86 : decode cX0_layOut 86 = .ok (.iload 4, 2) := by decide +kernel
theorem dX0_layOut_88 : decode cX0_layOut 88 = .ok (.iload 4, 2) := by decide +kernel
theorem dX0_layOut_90 : decode cX0_layOut 90 = .ok (.aload_n 0, 1) := by decide +kernel
theorem dX0_layOut_91 : decode cX0_layOut 91 = .ok (.getfield 48, 3) := by decide +kernel
theorem dX0_layOut_94 : decode cX0_layOut 94 = .ok (.if_icmp .ge 7, 3) := by decide +kernel
theorem dX0_layOut_97 : decode cX0_layOut 97 = .ok (.iconst 1, 1) := by decide +kernel
theorem dX0_layOut_98 : decode cX0_layOut 98 = .ok (.goto 4, 3) := by decide +kernel
theorem dX0_layOut_101 : decode cX0_layOut 101 = .ok (.iconst 0, 1) := by decide +kernel
theorem dX0_layOut_102 : decode cX0_layOut 102 = .ok (.bastore, 1) := by decide +kernel
theorem dX0_layOut_103 : decode cX0_layOut 103 = .ok (.iinc 4 1, 3) := by decide +kernel
theorem dX0_layOut_106 : decode cX0_layOut 106 = .ok (.goto (-32), 3) := by decide +kernel
theorem dX0_layOut_109 : decode cX0_layOut 109 = .ok (.iconst 0, 1) := by decide +kernel
theorem dX0_layOut_110 : decode cX0_layOut 110 = .ok (.istore 4, 2) := by decide +kernel
theorem dX0_layOut_112 : decode cX0_layOut 112 = .ok (.iload 4, 2) := by decide +kernel
theorem dX0_layOut_114 : decode cX0_layOut 114 = .ok (.aload_n 0, 1) := by decide +kernel
theorem dX0_layOut_115 : decode cX0_layOut 115 = .ok (.getfield 48, 3) := by decide +kernel
theorem dX0_layOut_118 : decode cX0_layOut 118 = .ok (.if_icmp .ge 15, 3) := by decide +kernel
theorem dX0_layOut_121 : decode cX0_layOut 121 = .ok (.aload_n 0, 1) := by decide +kernel
theorem dX0_layOut_122 : decode cX0_layOut 122 = .ok (.iload 4, 2) := by decide +kernel
theorem dX0_layOut_124 : decode cX0_layOut 124 = .ok (.invokevirtual 60, 3) := by decide +kernel
theorem dX0_layOut_127 : decode cX0_layOut 127 = .ok (.iinc 4 1, 3) := by decide +kernel
theorem dX0_layOut_130 : decode cX0_layOut 130 = .ok (.goto (-18), 3) := by decide +kernel
theorem dX0_layOut_133 : decode cX0_layOut 133 = .ok (.return_, 1) := by decide +kernel
theorem dX0_ringOfCell_0 : decode cX0_ringOfCell 0 = .ok (.iload_n 1, 1) := by decide +kernel
theorem dX0_ringOfCell_1 : decode cX0_ringOfCell 1 = .ok (.ifCond .lt 27, 3) := by decide +kernel
theorem dX0_ringOfCell_4 : decode cX0_ringOfCell 4 = .ok (.iload_n 1, 1) := by decide +kernel
theorem dX0_ringOfCell_5 : decode cX0_ringOfCell 5 = .ok (.aload_n 0, 1) := by decide +kernel
theorem dX0_ringOfCell_6 : decode cX0_ringOfCell 6 = .ok (.getfield 38, 3) := by decide +kernel
theorem dX0_ringOfCell_9 : decode cX0_ringOfCell 9 = .ok (.if_icmp .ge 19, 3) := by decide +kernel
theorem dX0_ringOfCell_12 : decode cX0_ringOfCell 12 = .ok (.iload_n 2, 1) := by decide +kernel
theorem dX0_ringOfCell_13 : decode cX0_ringOfCell 13 = .ok (.ifCond .lt 15, 3) := by decide +kernel
theorem dX0_ringOfCell_16 : decode cX0_ringOfCell 16 = .ok (.iload_n 2, 1) := by decide +kernel
theorem dX0_ringOfCell_17 : decode cX0_ringOfCell 17 = .ok (.aload_n 0, 1) := by decide +kernel
theorem dX0_ringOfCell_18 : decode cX0_ringOfCell 18 = .ok (.getfield 42, 3) := by decide +kernel
theorem dX0_ringOfCell_21 : decode cX0_ringOfCell 21 = .ok (.if_icmp .ge 7, 3) := by decide +kernel
theorem dX0_ringOfCell_24 : decode cX0_ringOfCell 24 = .ok (.iconst 1, 1) := by decide +kernel
theorem dX0_ringOfCell_25 : decode cX0_ringOfCell 25 = .ok (.goto 4, 3) := by decide +kernel
theorem dX0_ringOfCell_28 : decode cX0_ringOfCell 28 = .ok (.iconst 0, 1) := by decide +kernel
theorem dX0_ringOfCell_29 : decode cX0_ringOfCell 29 = .ok (.istore 4, 2) := by decide +kernel
theorem dX0_ringOfCell_31 : decode cX0_ringOfCell 31 = .ok (.iload 4, 2) := by decide +kernel
theorem dX0_ringOfCell_33 : decode cX0_ringOfCell 33 = .ok (.ifCond .eq 18, 3) := by decide +kernel
theorem dX0_ringOfCell_36 : decode cX0_ringOfCell 36 = .ok (.iload_n 3, 1) := by decide +kernel
theorem dX0_ringOfCell_37 : decode cX0_ringOfCell 37 = .ok (.ifCond .lt 14, 3) := by decide +kernel
theorem dX0_ringOfCell_40 : decode cX0_ringOfCell 40 = .ok (.iload_n 3, 1) := by decide +kernel
theorem dX0_ringOfCell_41 : decode cX0_ringOfCell 41 = .ok (.aload_n 0, 1) := by decide +kernel
theorem dX0_ringOfCell_42 : decode cX0_ringOfCell 42 = .ok (.getfield 12, 3) := by decide +kernel
theorem dX0_ringOfCell_45 : decode cX0_ringOfCell 45 = .ok (.getfield 45, 3) := by decide +kernel
theorem dX0_ringOfCell_48 : decode cX0_ringOfCell 48 = .ok (.if_icmp .lt 5, 3) := by decide +kernel
theorem dX0_ringOfCell_51 : decode cX0_ringOfCell 51 = .ok (.iconst (-1), 1) := by decide +kernel
theorem dX0_ringOfCell_52 : decode cX0_ringOfCell 52 = .ok (.ireturn, 1) := by decide +kernel
theorem dX0_ringOfCell_53 : decode cX0_ringOfCell 53 = .ok (.iload_n 2, 1) := by decide +kernel
theorem dX0_ringOfCell_54 : decode cX0_ringOfCell 54 = .ok (.aload_n 0, 1) := by decide +kernel
theorem dX0_ringOfCell_55 : decode cX0_ringOfCell 55 = .ok (.getfield 38, 3) := by decide +kernel
theorem dX0_ringOfCell_58 : decode cX0_ringOfCell 58 = .ok (.imul, 1) := by decide +kernel
theorem dX0_ringOfCell_59 : decode cX0_ringOfCell 59 = .ok (.iload_n 1, 1) := by decide +kernel
theorem dX0_ringOfCell_60 : decode cX0_ringOfCell 60 = .ok (.iadd, 1) := by decide +kernel
theorem dX0_ringOfCell_61 : decode cX0_ringOfCell 61 = .ok (.aload_n 0, 1) := by decide +kernel
theorem dX0_ringOfCell_62 : decode cX0_ringOfCell 62 = .ok (.getfield 12, 3) := by decide +kernel
theorem dX0_ringOfCell_65 : decode cX0_ringOfCell 65 = .ok (.getfield 45, 3) := by decide +kernel
theorem dX0_ringOfCell_68 : decode cX0_ringOfCell 68 = .ok (.imul, 1) := by decide +kernel
theorem dX0_ringOfCell_69 : decode cX0_ringOfCell 69 = .ok (.iload_n 3, 1) := by decide +kernel
theorem dX0_ringOfCell_70 : decode cX0_ringOfCell 70 = .ok (.iadd, 1) := by decide +kernel
theorem dX0_ringOfCell_71 : decode cX0_ringOfCell 71 = .ok (.ireturn, 1) := by decide +kernel
theorem dX0_isNumbered_0 : decode cX0_isNumbered 0 = .ok (.iload_n 1, 1) := by decide +kernel
theorem dX0_isNumbered_1 : decode cX0_isNumbered 1 = .ok (.ifCond .lt 15, 3) := by decide +kernel
theorem dX0_isNumbered_4 : decode cX0_isNumbered 4 = .ok (.iload_n 1, 1) := by decide +kernel
theorem dX0_isNumbered_5 : decode cX0_isNumbered 5 = .ok (.aload_n 0, 1) := by decide +kernel
theorem dX0_isNumbered_6 : decode cX0_isNumbered 6 = .ok (.getfield 51, 3) := by decide +kernel
theorem dX0_isNumbered_9 : decode cX0_isNumbered 9 = .ok (.if_icmp .ge 7, 3) := by decide +kernel
theorem dX0_isNumbered_12 : decode cX0_isNumbered 12 = .ok (.iconst 1, 1) := by decide +kernel
theorem dX0_isNumbered_13 : decode cX0_isNumbered 13 = .ok (.goto 4, 3) := by decide +kernel
theorem dX0_isNumbered_16 : decode cX0_isNumbered 16 = .ok (.iconst 0, 1) := by decide +kernel
theorem dX0_isNumbered_17 : decode cX0_isNumbered 17 = .ok (.ireturn, 1) := by decide +kernel
theorem dX0_isThere_0 : decode cX0_isThere 0 = .ok (.aload_n 0, 1) := by decide +kernel
theorem dX0_isThere_1 : decode cX0_isThere 1 = .ok (.iload_n 1, 1) := by decide +kernel
theorem dX0_isThere_2 : decode cX0_isThere 2 = .ok (.invokevirtual 63, 3) := by decide +kernel
theorem dX0_isThere_5 : decode cX0_isThere 5 = .ok (.ifCond .eq 16, 3) := by decide +kernel
theorem dX0_isThere_8 : decode cX0_isThere 8 = .ok (.aload_n 0, 1) := by decide +kernel
theorem dX0_isThere_9 : decode cX0_isThere 9 = .ok (.getfield 18, 3) := by decide +kernel
theorem dX0_isThere_12 : decode cX0_isThere 12 = .ok (.iload_n 1, 1) := by decide +kernel
theorem dX0_isThere_13 : decode cX0_isThere 13 = .ok (.baload, 1) := by decide +kernel
theorem dX0_isThere_14 : decode cX0_isThere 14 = .ok (.ifCond .eq 7, 3) := by decide +kernel
theorem dX0_isThere_17 : decode cX0_isThere 17 = .ok (.iconst 1, 1) := by decide +kernel
theorem dX0_isThere_18 : decode cX0_isThere 18 = .ok (.goto 4, 3) := by decide +kernel
theorem dX0_isThere_21 : decode cX0_isThere 21 = .ok (.iconst 0, 1) := by decide +kernel
theorem dX0_isThere_22 : decode cX0_isThere 22 = .ok (.ireturn, 1) := by decide +kernel
theorem dX0_putIn_0 : decode cX0_putIn 0 = .ok (.aload_n 0, 1) := by decide +kernel
theorem dX0_putIn_1 : decode cX0_putIn 1 = .ok (.getfield 51, 3) := by decide +kernel
theorem dX0_putIn_4 : decode cX0_putIn 4 = .ok (.sipush 300, 3) := by decide +kernel
theorem dX0_putIn_7 : decode cX0_putIn 7 = .ok (.if_icmp .lt 5, 3) := by decide +kernel
theorem dX0_putIn_10 : decode cX0_putIn 10 = .ok (.iconst (-1), 1) := by decide +kernel
theorem dX0_putIn_11 : decode cX0_putIn 11 = .ok (.ireturn, 1) := by decide +kernel
theorem dX0_putIn_12 : decode cX0_putIn 12 = .ok (.aload_n 0, 1) := by decide +kernel
theorem dX0_putIn_13 : decode cX0_putIn 13 = .ok (.getfield 51, 3) := by decide +kernel
theorem dX0_putIn_16 : decode cX0_putIn 16 = .ok (.istore_n 1, 1) := by decide +kernel
theorem dX0_putIn_17 : decode cX0_putIn 17 = .ok (.aload_n 0, 1) := by decide +kernel
theorem dX0_putIn_18 : decode cX0_putIn 18 = .ok (.getfield 18, 3) := by decide +kernel
theorem dX0_putIn_21 : decode cX0_putIn 21 = .ok (.iload_n 1, 1) := by decide +kernel
theorem dX0_putIn_22 : decode cX0_putIn 22 = .ok (.iconst 1, 1) := by decide +kernel
theorem dX0_putIn_23 : decode cX0_putIn 23 = .ok (.bastore, 1) := by decide +kernel
theorem dX0_putIn_24 : decode cX0_putIn 24 = .ok (.aload_n 0, 1) := by decide +kernel
theorem dX0_putIn_25 : decode cX0_putIn 25 = .ok (.dup, 1) := by decide +kernel
theorem dX0_putIn_26 : decode cX0_putIn 26 = .ok (.getfield 51, 3) := by decide +kernel
theorem dX0_putIn_29 : decode cX0_putIn 29 = .ok (.iconst 1, 1) := by decide +kernel
theorem dX0_putIn_30 : decode cX0_putIn 30 = .ok (.iadd, 1) := by decide +kernel
theorem dX0_putIn_31 : decode cX0_putIn 31 = .ok (.putfield 51, 3) := by decide +kernel
theorem dX0_putIn_34 : decode cX0_putIn 34 = .ok (.aload_n 0, 1) := by decide +kernel
theorem dX0_putIn_35 : decode cX0_putIn 35 = .ok (.dup, 1) := by decide +kernel
theorem dX0_putIn_36 : decode cX0_putIn 36 = .ok (.getfield 54, 3) := by decide +kernel
theorem dX0_putIn_39 : decode cX0_putIn 39 = .ok (.iconst 1, 1) := by decide +kernel
theorem dX0_putIn_40 : decode cX0_putIn 40 = .ok (.iadd, 1) := by decide +kernel
theorem dX0_putIn_41 : decode cX0_putIn 41 = .ok (.putfield 54, 3) := by decide +kernel
theorem dX0_putIn_44 : decode cX0_putIn 44 = .ok (.iload_n 1, 1) := by decide +kernel
theorem dX0_putIn_45 : decode cX0_putIn 45 = .ok (.ireturn, 1) := by decide +kernel
theorem dX0_takeAway_0 : decode cX0_takeAway 0 = .ok (.aload_n 0, 1) := by decide +kernel
theorem dX0_takeAway_1 : decode cX0_takeAway 1 = .ok (.iload_n 1, 1) := by decide +kernel
theorem dX0_takeAway_2 : decode cX0_takeAway 2 = .ok (.invokevirtual 67, 3) := by decide +kernel
theorem dX0_takeAway_5 : decode cX0_takeAway 5 = .ok (.istore_n 2, 1) := by decide +kernel
theorem dX0_takeAway_6 : decode cX0_takeAway 6 = .ok (.aload_n 0, 1) := by decide +kernel
theorem dX0_takeAway_7 : decode cX0_takeAway 7 = .ok (.getfield 31, 3) := by decide +kernel
theorem dX0_takeAway_10 : decode cX0_takeAway 10 = .ok (.iload_n 1, 1) := by decide +kernel
theorem dX0_takeAway_11 : decode cX0_takeAway 11 = .ok (.iconst 0, 1) := by decide +kernel
theorem dX0_takeAway_12 : decode cX0_takeAway 12 = .ok (.invokevirtual 71, 3) := by decide +kernel
theorem dX0_takeAway_15 : decode cX0_takeAway 15 = .ok (.istore_n 3, 1) := by decide +kernel
theorem dX0_takeAway_16 : decode cX0_takeAway 16 = .ok (.iconst 0, 1) := by decide +kernel
theorem dX0_takeAway_17 : decode cX0_takeAway 17 = .ok (.istore 4, 2) := by decide +kernel
theorem dX0_takeAway_19 : decode cX0_takeAway 19 = .ok (.iload 4, 2) := by decide +kernel
theorem dX0_takeAway_21 : decode cX0_takeAway 21 = .ok (.sipush 300, 3) := by decide +kernel
theorem dX0_takeAway_24 : decode cX0_takeAway 24 = .ok (.if_icmp .ge 32, 3) := by decide +kernel
theorem dX0_takeAway_27 : decode cX0_takeAway 27 = .ok (.iload_n 3, 1) := by decide +kernel
theorem dX0_takeAway_28 : decode cX0_takeAway 28 = .ok (.iconst (-1), 1) := by decide +kernel
theorem dX0_takeAway_29 : decode cX0_takeAway 29 = .ok (.if_icmp .eq 27, 3) := by decide +kernel
theorem dX0_takeAway_32 : decode cX0_takeAway 32 = .ok (.aload_n 0, 1) := by decide +kernel
theorem dX0_takeAway_33 : decode cX0_takeAway 33 = .ok (.iload_n 1, 1) := by decide +kernel
theorem dX0_takeAway_34 : decode cX0_takeAway 34 = .ok (.iload_n 3, 1) := by decide +kernel
theorem dX0_takeAway_35 : decode cX0_takeAway 35 = .ok (.invokevirtual 75, 3) := by decide +kernel
theorem dX0_takeAway_38 : decode cX0_takeAway 38 = .ok (.aload_n 0, 1) := by decide +kernel
theorem dX0_takeAway_39 : decode cX0_takeAway 39 = .ok (.getfield 31, 3) := by decide +kernel
theorem dX0_takeAway_42 : decode cX0_takeAway 42 = .ok (.iload_n 1, 1) := by decide +kernel
theorem dX0_takeAway_43 : decode cX0_takeAway 43 = .ok (.iload_n 3, 1) := by decide +kernel
theorem dX0_takeAway_44 : decode cX0_takeAway 44 = .ok (.iconst 1, 1) := by decide +kernel
theorem dX0_takeAway_45 : decode cX0_takeAway 45 = .ok (.iadd, 1) := by decide +kernel
theorem dX0_takeAway_46 : decode cX0_takeAway 46 = .ok (.invokevirtual 71, 3) := by decide +kernel
theorem dX0_takeAway_49 : decode cX0_takeAway 49 = .ok (.istore_n 3, 1) := by decide +kernel
theorem dX0_takeAway_50 : decode cX0_takeAway 50 = .ok (.iinc 4 1, 3) := by decide +kernel
theorem dX0_takeAway_53 : decode cX0_takeAway 53 = .ok (.goto (-34), 3) := by decide +kernel
theorem dX0_takeAway_56 : decode cX0_takeAway 56 = .ok (.aload_n 0, 1) := by decide +kernel
theorem dX0_takeAway_57 : decode cX0_takeAway 57 = .ok (.getfield 18, 3) := by decide +kernel
theorem dX0_takeAway_60 : decode cX0_takeAway 60 = .ok (.iload_n 1, 1) := by decide +kernel
theorem dX0_takeAway_61 : decode cX0_takeAway 61 = .ok (.iconst 0, 1) := by decide +kernel
theorem dX0_takeAway_62 : decode cX0_takeAway 62 = .ok (.bastore, 1) := by decide +kernel
theorem dX0_takeAway_63 : decode cX0_takeAway 63 = .ok (.aload_n 0, 1) := by decide +kernel
theorem dX0_takeAway_64 : decode cX0_takeAway 64 = .ok (.dup, 1) := by decide +kernel
theorem dX0_takeAway_65 : decode cX0_takeAway 65 = .ok (.getfield 54, 3) := by decide +kernel
theorem dX0_takeAway_68 : decode cX0_takeAway 68 = .ok (.iconst 1, 1) := by decide +kernel
theorem dX0_takeAway_69 : decode cX0_takeAway 69 = .ok (.iadd, 1) := by decide +kernel
theorem dX0_takeAway_70 : decode cX0_takeAway 70 = .ok (.putfield 54, 3) := by decide +kernel
theorem dX0_takeAway_73 : decode cX0_takeAway 73 = .ok (.iload_n 2, 1) := by decide +kernel
theorem dX0_takeAway_74 : decode cX0_takeAway 74 = .ok (.ireturn, 1) := by decide +kernel
theorem dX0_areLinked_0 : decode cX0_areLinked 0 = .ok (.aload_n 0, 1) := by decide +kernel
theorem dX0_areLinked_1 : decode cX0_areLinked 1 = .ok (.getfield 31, 3) := by decide +kernel
theorem dX0_areLinked_4 : decode cX0_areLinked 4 = .ok (.iload_n 1, 1) := by decide +kernel
theorem dX0_areLinked_5 : decode cX0_areLinked 5 = .ok (.iload_n 2, 1) := by decide +kernel
theorem dX0_areLinked_6 : decode cX0_areLinked 6 = .ok (.invokevirtual 79, 3) := by decide +kernel
theorem dX0_areLinked_9 : decode cX0_areLinked 9 = .ok (.ireturn, 1) := by decide +kernel
theorem dX0_goesOver_0 : decode cX0_goesOver 0 = .ok (.aload_n 0, 1) := by decide +kernel
theorem dX0_goesOver_1 : decode cX0_goesOver 1 = .ok (.getfield 27, 3) := by decide +kernel
theorem dX0_goesOver_4 : decode cX0_goesOver 4 = .ok (.iload_n 1, 1) := by decide +kernel
theorem dX0_goesOver_5 : decode cX0_goesOver 5 = .ok (.iload_n 2, 1) := by decide +kernel
theorem dX0_goesOver_6 : decode cX0_goesOver 6 = .ok (.invokevirtual 79, 3) := by decide +kernel
theorem dX0_goesOver_9 : decode cX0_goesOver 9 = .ok (.ireturn, 1) := by decide +kernel
theorem dX0_join_0 : decode cX0_join 0 = .ok (.aload_n 0, 1) := by decide +kernel
theorem dX0_join_1 : decode cX0_join 1 = .ok (.getfield 31, 3) := by decide +kernel
theorem dX0_join_4 : decode cX0_join 4 = .ok (.iload_n 1, 1) := by decide +kernel
theorem dX0_join_5 : decode cX0_join 5 = .ok (.iload_n 2, 1) := by decide +kernel
theorem dX0_join_6 : decode cX0_join 6 = .ok (.invokevirtual 83, 3) := by decide +kernel
theorem dX0_join_9 : decode cX0_join 9 = .ok (.aload_n 0, 1) := by decide +kernel
theorem dX0_join_10 : decode cX0_join 10 = .ok (.getfield 31, 3) := by decide +kernel
theorem dX0_join_13 : decode cX0_join 13 = .ok (.iload_n 2, 1) := by decide +kernel
theorem dX0_join_14 : decode cX0_join 14 = .ok (.iload_n 1, 1) := by decide +kernel
theorem dX0_join_15 : decode cX0_join 15 = .ok (.invokevirtual 83, 3) := by decide +kernel
theorem dX0_join_18 : decode cX0_join 18 = .ok (.aload_n 0, 1) := by decide +kernel
theorem dX0_join_19 : decode cX0_join 19 = .ok (.getfield 27, 3) := by decide +kernel
theorem dX0_join_22 : decode cX0_join 22 = .ok (.iload_n 1, 1) := by decide +kernel
theorem dX0_join_23 : decode cX0_join 23 = .ok (.iload_n 2, 1) := by decide +kernel
theorem dX0_join_24 : decode cX0_join 24 = .ok (.invokevirtual 83, 3) := by decide +kernel
theorem dX0_join_27 : decode cX0_join 27 = .ok (.aload_n 0, 1) := by decide +kernel
theorem dX0_join_28 : decode cX0_join 28 = .ok (.dup, 1) := by decide +kernel
theorem dX0_join_29 : decode cX0_join 29 = .ok (.getfield 54, 3) := by decide +kernel
theorem dX0_join_32 : decode cX0_join 32 = .ok (.iconst 1, 1) := by decide +kernel
theorem dX0_join_33 : decode cX0_join 33 = .ok (.iadd, 1) := by decide +kernel
theorem dX0_join_34 : decode cX0_join 34 = .ok (.putfield 54, 3) := by decide +kernel
theorem dX0_join_37 : decode cX0_join 37 = .ok (.return_, 1) := by decide +kernel
theorem dX0_part_0 : decode cX0_part 0 = .ok (.aload_n 0, 1) := by decide +kernel
theorem dX0_part_1 : decode cX0_part 1 = .ok (.getfield 31, 3) := by decide +kernel
theorem dX0_part_4 : decode cX0_part 4 = .ok (.iload_n 1, 1) := by decide +kernel
theorem dX0_part_5 : decode cX0_part 5 = .ok (.iload_n 2, 1) := by decide +kernel
theorem dX0_part_6 : decode cX0_part 6 = .ok (.invokevirtual 86, 3) := by decide +kernel
theorem dX0_part_9 : decode cX0_part 9 = .ok (.aload_n 0, 1) := by decide +kernel
theorem dX0_part_10 : decode cX0_part 10 = .ok (.getfield 31, 3) := by decide +kernel
theorem dX0_part_13 : decode cX0_part 13 = .ok (.iload_n 2, 1) := by decide +kernel
theorem dX0_part_14 : decode cX0_part 14 = .ok (.iload_n 1, 1) := by decide +kernel
theorem dX0_part_15 : decode cX0_part 15 = .ok (.invokevirtual 86, 3) := by decide +kernel
theorem dX0_part_18 : decode cX0_part 18 = .ok (.aload_n 0, 1) := by decide +kernel
theorem dX0_part_19 : decode cX0_part 19 = .ok (.getfield 27, 3) := by decide +kernel
theorem dX0_part_22 : decode cX0_part 22 = .ok (.iload_n 1, 1) := by decide +kernel
theorem dX0_part_23 : decode cX0_part 23 = .ok (.iload_n 2, 1) := by decide +kernel
theorem dX0_part_24 : decode cX0_part 24 = .ok (.invokevirtual 86, 3) := by decide +kernel
theorem dX0_part_27 : decode cX0_part 27 = .ok (.aload_n 0, 1) := by decide +kernel
theorem dX0_part_28 : decode cX0_part 28 = .ok (.getfield 27, 3) := by decide +kernel
theorem dX0_part_31 : decode cX0_part 31 = .ok (.iload_n 2, 1) := by decide +kernel
theorem dX0_part_32 : decode cX0_part 32 = .ok (.iload_n 1, 1) := by decide +kernel
theorem dX0_part_33 : decode cX0_part 33 = .ok (.invokevirtual 86, 3) := by decide +kernel
theorem dX0_part_36 : decode cX0_part 36 = .ok (.aload_n 0, 1) := by decide +kernel
theorem dX0_part_37 : decode cX0_part 37 = .ok (.dup, 1) := by decide +kernel
theorem dX0_part_38 : decode cX0_part 38 = .ok (.getfield 54, 3) := by decide +kernel
theorem dX0_part_41 : decode cX0_part 41 = .ok (.iconst 1, 1) := by decide +kernel
theorem dX0_part_42 : decode cX0_part 42 = .ok (.iadd, 1) := by decide +kernel
theorem dX0_part_43 : decode cX0_part 43 = .ok (.putfield 54, 3) := by decide +kernel
theorem dX0_part_46 : decode cX0_part 46 = .ok (.return_, 1) := by decide +kernel
theorem dX0_mendWorn_0 : decode cX0_mendWorn 0 = .ok (.iconst 0, 1) := by decide +kernel
theorem dX0_mendWorn_1 : decode cX0_mendWorn 1 = .ok (.istore_n 1, 1) := by decide +kernel
theorem dX0_mendWorn_2 : decode cX0_mendWorn 2 = .ok (.iconst 0, 1) := by decide +kernel
theorem dX0_mendWorn_3 : decode cX0_mendWorn 3 = .ok (.istore_n 2, 1) := by decide +kernel
theorem dX0_mendWorn_4 : decode cX0_mendWorn 4 = .ok (.iload_n 2, 1) := by decide +kernel
theorem dX0_mendWorn_5 : decode cX0_mendWorn 5 = .ok (.aload_n 0, 1) := by decide +kernel
theorem dX0_mendWorn_6 : decode cX0_mendWorn 6 = .ok (.getfield 48, 3) := by decide +kernel
theorem dX0_mendWorn_9 : decode cX0_mendWorn 9 = .ok (.if_icmp .ge 43, 3) := by decide +kernel
theorem dX0_mendWorn_12 : decode cX0_mendWorn 12 = .ok (.aload_n 0, 1) := by decide +kernel
theorem dX0_mendWorn_13 : decode cX0_mendWorn 13 = .ok (.getfield 18, 3) := by decide +kernel
theorem dX0_mendWorn_16 : decode cX0_mendWorn 16 = .ok (.iload_n 2, 1) := by decide +kernel
theorem dX0_mendWorn_17 : decode cX0_mendWorn 17 = .ok (.baload, 1) := by decide +kernel
theorem dX0_mendWorn_18 : decode cX0_mendWorn 18 = .ok (.ifCond .ne 28, 3) := by decide +kernel
theorem dX0_mendWorn_21 : decode cX0_mendWorn 21 = .ok (.aload_n 0, 1) := by decide +kernel
theorem dX0_mendWorn_22 : decode cX0_mendWorn 22 = .ok (.getfield 18, 3) := by decide +kernel
theorem dX0_mendWorn_25 : decode cX0_mendWorn 25 = .ok (.iload_n 2, 1) := by decide +kernel
theorem dX0_mendWorn_26 : decode cX0_mendWorn 26 = .ok (.iconst 1, 1) := by decide +kernel
theorem dX0_mendWorn_27 : decode cX0_mendWorn 27 = .ok (.bastore, 1) := by decide +kernel
theorem dX0_mendWorn_28 : decode cX0_mendWorn 28 = .ok (.aload_n 0, 1) := by decide +kernel
theorem dX0_mendWorn_29 : decode cX0_mendWorn 29 = .ok (.iload_n 2, 1) := by decide +kernel
theorem dX0_mendWorn_30 : decode cX0_mendWorn 30 = .ok (.invokevirtual 60, 3) := by decide +kernel
theorem dX0_mendWorn_33 : decode cX0_mendWorn 33 = .ok (.iinc 1 1, 3) := by decide +kernel
theorem dX0_mendWorn_36 : decode cX0_mendWorn 36 = .ok (.aload_n 0, 1) := by decide +kernel
theorem dX0_mendWorn_37 : decode cX0_mendWorn 37 = .ok (.dup, 1) := by decide +kernel
theorem dX0_mendWorn_38 : decode cX0_mendWorn 38 = .ok (.getfield 54, 3) := by decide +kernel
theorem dX0_mendWorn_41 : decode cX0_mendWorn 41 = .ok (.iconst 1, 1) := by decide +kernel
theorem dX0_mendWorn_42 : decode cX0_mendWorn 42 = .ok (.iadd, 1) := by decide +kernel
theorem dX0_mendWorn_43 : decode cX0_mendWorn 43 = .ok (.putfield 54, 3) := by decide +kernel
theorem dX0_mendWorn_46 : decode cX0_mendWorn 46 = .ok (.iinc 2 1, 3) := by decide +kernel
theorem dX0_mendWorn_49 : decode cX0_mendWorn 49 = .ok (.goto (-45), 3) := by decide +kernel
theorem dX0_mendWorn_52 : decode cX0_mendWorn 52 = .ok (.iload_n 1, 1) := by decide +kernel
theorem dX0_mendWorn_53 : decode cX0_mendWorn 53 = .ok (.ireturn, 1) := by decide +kernel
theorem dX0_linksOf_0 : decode cX0_linksOf 0 = .ok (.aload_n 0, 1) := by decide +kernel
theorem dX0_linksOf_1 : decode cX0_linksOf 1 = .ok (.getfield 31, 3) := by decide +kernel
theorem dX0_linksOf_4 : decode cX0_linksOf 4 = .ok (.iload_n 1, 1) := by decide +kernel
theorem dX0_linksOf_5 : decode cX0_linksOf 5 = .ok (.invokevirtual 89, 3) := by decide +kernel
theorem dX0_linksOf_8 : decode cX0_linksOf 8 = .ok (.ireturn, 1) := by decide +kernel
theorem dX0_linkedAtPlace_0 : decode cX0_linkedAtPlace 0 = .ok (.aload_n 0, 1) := by decide +kernel
theorem dX0_linkedAtPlace_1 : decode cX0_linkedAtPlace 1 = .ok (.getfield 31, 3) := by decide +kernel
theorem dX0_linkedAtPlace_4 : decode cX0_linkedAtPlace 4 = .ok (.iload_n 1, 1) := by decide +kernel
theorem dX0_linkedAtPlace_5 : decode cX0_linkedAtPlace 5 = .ok (.iconst 0, 1) := by decide +kernel
theorem dX0_linkedAtPlace_6 : decode cX0_linkedAtPlace 6 = .ok (.invokevirtual 71, 3) := by decide +kernel
theorem dX0_linkedAtPlace_9 : decode cX0_linkedAtPlace 9 = .ok (.istore_n 3, 1) := by decide +kernel
theorem dX0_linkedAtPlace_10 : decode cX0_linkedAtPlace 10 = .ok (.iconst 0, 1) := by decide +kernel
theorem dX0_linkedAtPlace_11 : decode cX0_linkedAtPlace 11 = .ok (.istore 4, 2) := by decide +kernel
theorem dX0_linkedAtPlace_13 : decode cX0_linkedAtPlace 13 = .ok (.iload 4, 2) := by decide +kernel
theorem dX0_linkedAtPlace_15 : decode cX0_linkedAtPlace 15 = .ok (.iload_n 2, 1) := by decide +kernel
theorem dX0_linkedAtPlace_16 : decode cX0_linkedAtPlace 16 = .ok (.if_icmp .ge 26, 3) := by decide +kernel
theorem dX0_linkedAtPlace_19 : decode cX0_linkedAtPlace 19 = .ok (.iload_n 3, 1) := by decide +kernel
theorem dX0_linkedAtPlace_20 : decode cX0_linkedAtPlace 20 = .ok (.iconst (-1), 1) := by decide +kernel
theorem dX0_linkedAtPlace_21 : decode cX0_linkedAtPlace 21 = .ok (.if_icmp .eq 21, 3) := by decide +kernel
theorem dX0_linkedAtPlace_24 : decode cX0_linkedAtPlace 24 = .ok (.aload_n 0, 1) := by decide +kernel
theorem dX0_linkedAtPlace_25 : decode cX0_linkedAtPlace 25 = .ok (.getfield 31, 3) := by decide +kernel
theorem dX0_linkedAtPlace_28 : decode cX0_linkedAtPlace 28 = .ok (.iload_n 1, 1) := by decide +kernel
theorem dX0_linkedAtPlace_29 : decode cX0_linkedAtPlace 29 = .ok (.iload_n 3, 1) := by decide +kernel
theorem dX0_linkedAtPlace_30 : decode cX0_linkedAtPlace 30 = .ok (.iconst 1, 1) := by decide +kernel
theorem dX0_linkedAtPlace_31 : decode cX0_linkedAtPlace 31 = .ok (.iadd, 1) := by decide +kernel
theorem dX0_linkedAtPlace_32 : decode cX0_linkedAtPlace 32 = .ok (.invokevirtual 71, 3) := by decide +kernel
theorem dX0_linkedAtPlace_35 : decode cX0_linkedAtPlace 35 = .ok (.istore_n 3, 1) := by decide +kernel
theorem dX0_linkedAtPlace_36 : decode cX0_linkedAtPlace 36 = .ok (.iinc 4 1, 3) := by decide +kernel
theorem dX0_linkedAtPlace_39 : decode cX0_linkedAtPlace 39 = .ok (.goto (-26), 3) := by decide +kernel
theorem dX0_linkedAtPlace_42 : decode cX0_linkedAtPlace 42 = .ok (.iload_n 2, 1) := by decide +kernel
theorem dX0_linkedAtPlace_43 : decode cX0_linkedAtPlace 43 = .ok (.ifCond .ge 7, 3) := by decide +kernel
theorem dX0_linkedAtPlace_46 : decode cX0_linkedAtPlace 46 = .ok (.iconst (-1), 1) := by decide +kernel
theorem dX0_linkedAtPlace_47 : decode cX0_linkedAtPlace 47 = .ok (.goto 4, 3) := by decide +kernel
theorem dX0_linkedAtPlace_50 : decode cX0_linkedAtPlace 50 = .ok (.iload_n 3, 1) := by decide +kernel
theorem dX0_linkedAtPlace_51 : decode cX0_linkedAtPlace 51 = .ok (.ireturn, 1) := by decide +kernel
theorem dX0_isFull_0 : decode cX0_isFull 0 = .ok (.aload_n 0, 1) := by decide +kernel
theorem dX0_isFull_1 : decode cX0_isFull 1 = .ok (.iload_n 1, 1) := by decide +kernel
theorem dX0_isFull_2 : decode cX0_isFull 2 = .ok (.invokevirtual 92, 3) := by decide +kernel
theorem dX0_isFull_5 : decode cX0_isFull 5 = .ok (.ifCond .eq 11, 3) := by decide +kernel
theorem dX0_isFull_8 : decode cX0_isFull 8 = .ok (.iload_n 1, 1) := by decide +kernel
theorem dX0_isFull_9 : decode cX0_isFull 9 = .ok (.aload_n 0, 1) := by decide +kernel
theorem dX0_isFull_10 : decode cX0_isFull 10 = .ok (.getfield 48, 3) := by decide +kernel
theorem dX0_isFull_13 : decode cX0_isFull 13 = .ok (.if_icmp .lt 5, 3) := by decide +kernel
theorem dX0_isFull_16 : decode cX0_isFull 16 = .ok (.iconst 0, 1) := by decide +kernel
theorem dX0_isFull_17 : decode cX0_isFull 17 = .ok (.ireturn, 1) := by decide +kernel
theorem dX0_isFull_18 : decode cX0_isFull 18 = .ok (.iconst 0, 1) := by decide +kernel
theorem dX0_isFull_19 : decode cX0_isFull 19 = .ok (.istore_n 2, 1) := by decide +kernel
theorem dX0_isFull_20 : decode cX0_isFull 20 = .ok (.iload_n 2, 1) := by decide +kernel
theorem dX0_isFull_21 : decode cX0_isFull 21 = .ok (.aload_n 0, 1) := by decide +kernel
theorem dX0_isFull_22 : decode cX0_isFull 22 = .ok (.getfield 12, 3) := by decide +kernel
theorem dX0_isFull_25 : decode cX0_isFull 25 = .ok (.getfield 95, 3) := by decide +kernel
theorem dX0_isFull_28 : decode cX0_isFull 28 = .ok (.if_icmp .ge 31, 3) := by decide +kernel
theorem dX0_isFull_31 : decode cX0_isFull 31 = .ok (.aload_n 0, 1) := by decide +kernel
theorem dX0_isFull_32 : decode cX0_isFull 32 = .ok (.iload_n 1, 1) := by decide +kernel
theorem dX0_isFull_33 : decode cX0_isFull 33 = .ok (.iload_n 2, 1) := by decide +kernel
theorem dX0_isFull_34 : decode cX0_isFull 34 = .ok (.iconst 1, 1) := by decide +kernel
theorem dX0_isFull_35 : decode cX0_isFull 35 = .ok (.invokevirtual 98, 3) := by decide +kernel
theorem dX0_isFull_38 : decode cX0_isFull 38 = .ok (.ifCond .eq 13, 3) := by decide +kernel
theorem dX0_isFull_41 : decode cX0_isFull 41 = .ok (.aload_n 0, 1) := by decide +kernel
theorem dX0_isFull_42 : decode cX0_isFull 42 = .ok (.iload_n 1, 1) := by decide +kernel
theorem dX0_isFull_43 : decode cX0_isFull 43 = .ok (.iload_n 2, 1) := by decide +kernel
theorem dX0_isFull_44 : decode cX0_isFull 44 = .ok (.iconst 0, 1) := by decide +kernel
theorem dX0_isFull_45 : decode cX0_isFull 45 = .ok (.invokevirtual 98, 3) := by decide +kernel
theorem dX0_isFull_48 : decode cX0_isFull 48 = .ok (.ifCond .ne 5, 3) := by decide +kernel
theorem dX0_isFull_51 : decode cX0_isFull 51 = .ok (.iconst 0, 1) := by decide +kernel
theorem dX0_isFull_52 : decode cX0_isFull 52 = .ok (.ireturn, 1) := by decide +kernel
theorem dX0_isFull_53 : decode cX0_isFull 53 = .ok (.iinc 2 1, 3) := by decide +kernel
theorem dX0_isFull_56 : decode cX0_isFull 56 = .ok (.goto (-36), 3) := by decide +kernel
theorem dX0_isFull_59 : decode cX0_isFull 59 = .ok (.iconst 1, 1) := by decide +kernel
theorem dX0_isFull_60 : decode cX0_isFull 60 = .ok (.ireturn, 1) := by decide +kernel
theorem dX0_ringsThere_0 : decode cX0_ringsThere 0 = .ok (.iconst 0, 1) := by decide +kernel
theorem dX0_ringsThere_1 : decode cX0_ringsThere 1 = .ok (.istore_n 1, 1) := by decide +kernel
theorem dX0_ringsThere_2 : decode cX0_ringsThere 2 = .ok (.iconst 0, 1) := by decide +kernel
theorem dX0_ringsThere_3 : decode cX0_ringsThere 3 = .ok (.istore_n 2, 1) := by decide +kernel
theorem dX0_ringsThere_4 : decode cX0_ringsThere 4 = .ok (.iload_n 2, 1) := by decide +kernel
theorem dX0_ringsThere_5 : decode cX0_ringsThere 5 = .ok (.aload_n 0, 1) := by decide +kernel
theorem dX0_ringsThere_6 : decode cX0_ringsThere 6 = .ok (.getfield 51, 3) := by decide +kernel
theorem dX0_ringsThere_9 : decode cX0_ringsThere 9 = .ok (.if_icmp .ge 21, 3) := by decide +kernel
theorem dX0_ringsThere_12 : decode cX0_ringsThere 12 = .ok (.aload_n 0, 1) := by decide +kernel
theorem dX0_ringsThere_13 : decode cX0_ringsThere 13 = .ok (.getfield 18, 3) := by decide +kernel
theorem dX0_ringsThere_16 : decode cX0_ringsThere 16 = .ok (.iload_n 2, 1) := by decide +kernel
theorem dX0_ringsThere_17 : decode cX0_ringsThere 17 = .ok (.baload, 1) := by decide +kernel
theorem dX0_ringsThere_18 : decode cX0_ringsThere 18 = .ok (.ifCond .eq 6, 3) := by decide +kernel
theorem dX0_ringsThere_21 : decode cX0_ringsThere 21 = .ok (.iinc 1 1, 3) := by decide +kernel
theorem dX0_ringsThere_24 : decode cX0_ringsThere 24 = .ok (.iinc 2 1, 3) := by decide +kernel
theorem dX0_ringsThere_27 : decode cX0_ringsThere 27 = .ok (.goto (-23), 3) := by decide +kernel
theorem dX0_ringsThere_30 : decode cX0_ringsThere 30 = .ok (.iload_n 1, 1) := by decide +kernel
theorem dX0_ringsThere_31 : decode cX0_ringsThere 31 = .ok (.ireturn, 1) := by decide +kernel
theorem dX0_allLinks_0 : decode cX0_allLinks 0 = .ok (.iconst 0, 1) := by decide +kernel
theorem dX0_allLinks_1 : decode cX0_allLinks 1 = .ok (.istore_n 1, 1) := by decide +kernel
theorem dX0_allLinks_2 : decode cX0_allLinks 2 = .ok (.iconst 0, 1) := by decide +kernel
theorem dX0_allLinks_3 : decode cX0_allLinks 3 = .ok (.istore_n 2, 1) := by decide +kernel
theorem dX0_allLinks_4 : decode cX0_allLinks 4 = .ok (.iload_n 2, 1) := by decide +kernel
theorem dX0_allLinks_5 : decode cX0_allLinks 5 = .ok (.aload_n 0, 1) := by decide +kernel
theorem dX0_allLinks_6 : decode cX0_allLinks 6 = .ok (.getfield 51, 3) := by decide +kernel
theorem dX0_allLinks_9 : decode cX0_allLinks 9 = .ok (.if_icmp .ge 20, 3) := by decide +kernel
theorem dX0_allLinks_12 : decode cX0_allLinks 12 = .ok (.iload_n 1, 1) := by decide +kernel
theorem dX0_allLinks_13 : decode cX0_allLinks 13 = .ok (.aload_n 0, 1) := by decide +kernel
theorem dX0_allLinks_14 : decode cX0_allLinks 14 = .ok (.getfield 27, 3) := by decide +kernel
theorem dX0_allLinks_17 : decode cX0_allLinks 17 = .ok (.iload_n 2, 1) := by decide +kernel
theorem dX0_allLinks_18 : decode cX0_allLinks 18 = .ok (.invokevirtual 89, 3) := by decide +kernel
theorem dX0_allLinks_21 : decode cX0_allLinks 21 = .ok (.iadd, 1) := by decide +kernel
theorem dX0_allLinks_22 : decode cX0_allLinks 22 = .ok (.istore_n 1, 1) := by decide +kernel
theorem dX0_allLinks_23 : decode cX0_allLinks 23 = .ok (.iinc 2 1, 3) := by decide +kernel
theorem dX0_allLinks_26 : decode cX0_allLinks 26 = .ok (.goto (-22), 3) := by decide +kernel
theorem dX0_allLinks_29 : decode cX0_allLinks 29 = .ok (.iload_n 1, 1) := by decide +kernel
theorem dX0_allLinks_30 : decode cX0_allLinks 30 = .ok (.ireturn, 1) := by decide +kernel
theorem dX0_fullRings_0 : decode cX0_fullRings 0 = .ok (.iconst 0, 1) := by decide +kernel
theorem dX0_fullRings_1 : decode cX0_fullRings 1 = .ok (.istore_n 1, 1) := by decide +kernel
theorem dX0_fullRings_2 : decode cX0_fullRings 2 = .ok (.iconst 0, 1) := by decide +kernel
theorem dX0_fullRings_3 : decode cX0_fullRings 3 = .ok (.istore_n 2, 1) := by decide +kernel
theorem dX0_fullRings_4 : decode cX0_fullRings 4 = .ok (.iload_n 2, 1) := by decide +kernel
theorem dX0_fullRings_5 : decode cX0_fullRings 5 = .ok (.aload_n 0, 1) := by decide +kernel
theorem dX0_fullRings_6 : decode cX0_fullRings 6 = .ok (.getfield 48, 3) := by decide +kernel
theorem dX0_fullRings_9 : decode cX0_fullRings 9 = .ok (.if_icmp .ge 20, 3) := by decide +kernel
theorem dX0_fullRings_12 : decode cX0_fullRings 12 = .ok (.aload_n 0, 1) := by decide +kernel
theorem dX0_fullRings_13 : decode cX0_fullRings 13 = .ok (.iload_n 2, 1) := by decide +kernel
theorem dX0_fullRings_14 : decode cX0_fullRings 14 = .ok (.invokevirtual 102, 3) := by decide +kernel
theorem dX0_fullRings_17 : decode cX0_fullRings 17 = .ok (.ifCond .eq 6, 3) := by decide +kernel
theorem dX0_fullRings_20 : decode cX0_fullRings 20 = .ok (.iinc 1 1, 3) := by decide +kernel
theorem dX0_fullRings_23 : decode cX0_fullRings 23 = .ok (.iinc 2 1, 3) := by decide +kernel
theorem dX0_fullRings_26 : decode cX0_fullRings 26 = .ok (.goto (-22), 3) := by decide +kernel
theorem dX0_fullRings_29 : decode cX0_fullRings 29 = .ok (.iload_n 1, 1) := by decide +kernel
theorem dX0_fullRings_30 : decode cX0_fullRings 30 = .ok (.ireturn, 1) := by decide +kernel
theorem dX0_wornRings_0 : decode cX0_wornRings 0 = .ok (.iconst 0, 1) := by decide +kernel
theorem dX0_wornRings_1 : decode cX0_wornRings 1 = .ok (.istore_n 1, 1) := by decide +kernel
theorem dX0_wornRings_2 : decode cX0_wornRings 2 = .ok (.iconst 0, 1) := by decide +kernel
theorem dX0_wornRings_3 : decode cX0_wornRings 3 = .ok (.istore_n 2, 1) := by decide +kernel
theorem dX0_wornRings_4 : decode cX0_wornRings 4 = .ok (.iload_n 2, 1) := by decide +kernel
theorem dX0_wornRings_5 : decode cX0_wornRings 5 = .ok (.aload_n 0, 1) := by decide +kernel
theorem dX0_wornRings_6 : decode cX0_wornRings 6 = .ok (.getfield 48, 3) := by decide +kernel
theorem dX0_wornRings_9 : decode cX0_wornRings 9 = .ok (.if_icmp .ge 21, 3) := by decide +kernel
theorem dX0_wornRings_12 : decode cX0_wornRings 12 = .ok (.aload_n 0, 1) := by decide +kernel
theorem dX0_wornRings_13 : decode cX0_wornRings 13 = .ok (.getfield 18, 3) := by decide +kernel
theorem dX0_wornRings_16 : decode cX0_wornRings 16 = .ok (.iload_n 2, 1) := by decide +kernel
theorem dX0_wornRings_17 : decode cX0_wornRings 17 = .ok (.baload, 1) := by decide +kernel
theorem dX0_wornRings_18 : decode cX0_wornRings 18 = .ok (.ifCond .ne 6, 3) := by decide +kernel
theorem dX0_wornRings_21 : decode cX0_wornRings 21 = .ok (.iinc 1 1, 3) := by decide +kernel
theorem dX0_wornRings_24 : decode cX0_wornRings 24 = .ok (.iinc 2 1, 3) := by decide +kernel
theorem dX0_wornRings_27 : decode cX0_wornRings 27 = .ok (.goto (-23), 3) := by decide +kernel
theorem dX0_wornRings_30 : decode cX0_wornRings 30 = .ok (.iload_n 1, 1) := by decide +kernel
theorem dX0_wornRings_31 : decode cX0_wornRings 31 = .ok (.ireturn, 1) := by decide +kernel
theorem dX0_joinAsTold_0 : decode cX0_joinAsTold 0 = .ok (.iconst 0, 1) := by decide +kernel
theorem dX0_joinAsTold_1 : decode cX0_joinAsTold 1 = .ok (.istore_n 2, 1) := by decide +kernel
theorem dX0_joinAsTold_2 : decode cX0_joinAsTold 2 = .ok (.iload_n 2, 1) := by decide +kernel
theorem dX0_joinAsTold_3 : decode cX0_joinAsTold 3 = .ok (.aload_n 0, 1) := by decide +kernel
theorem dX0_joinAsTold_4 : decode cX0_joinAsTold 4 = .ok (.getfield 12, 3) := by decide +kernel
theorem dX0_joinAsTold_7 : decode cX0_joinAsTold 7 = .ok (.getfield 95, 3) := by decide +kernel
theorem dX0_joinAsTold_10 : decode cX0_joinAsTold 10 = .ok (.if_icmp .ge 23, 3) := by decide +kernel
theorem dX0_joinAsTold_13 : decode cX0_joinAsTold 13 = .ok (.aload_n 0, 1) := by decide +kernel
theorem dX0_joinAsTold_14 : decode cX0_joinAsTold 14 = .ok (.iload_n 1, 1) := by decide +kernel
theorem dX0_joinAsTold_15 : decode cX0_joinAsTold 15 = .ok (.iload_n 2, 1) := by decide +kernel
theorem dX0_joinAsTold_16 : decode cX0_joinAsTold 16 = .ok (.iconst 1, 1) := by decide +kernel
theorem dX0_joinAsTold_17 : decode cX0_joinAsTold 17 = .ok (.invokevirtual 105, 3) := by decide +kernel
theorem dX0_joinAsTold_20 : decode cX0_joinAsTold 20 = .ok (.aload_n 0, 1) := by decide +kernel
theorem dX0_joinAsTold_21 : decode cX0_joinAsTold 21 = .ok (.iload_n 1, 1) := by decide +kernel
theorem dX0_joinAsTold_22 : decode cX0_joinAsTold 22 = .ok (.iload_n 2, 1) := by decide +kernel
theorem dX0_joinAsTold_23 : decode cX0_joinAsTold 23 = .ok (.iconst 0, 1) := by decide +kernel
theorem dX0_joinAsTold_24 : decode cX0_joinAsTold 24 = .ok (.invokevirtual 105, 3) := by decide +kernel
theorem dX0_joinAsTold_27 : decode cX0_joinAsTold 27 = .ok (.iinc 2 1, 3) := by decide +kernel
theorem dX0_joinAsTold_30 : decode cX0_joinAsTold 30 = .ok (.goto (-28), 3) := by decide +kernel
theorem dX0_joinAsTold_33 : decode cX0_joinAsTold 33 = .ok (.return_, 1) := by decide +kernel
theorem dX0_joinOneAsTold_0 : decode cX0_joinOneAsTold 0 = .ok (.aload_n 0, 1) := by decide +kernel
theorem dX0_joinOneAsTold_1 : decode cX0_joinOneAsTold 1 = .ok (.iload_n 1, 1) := by decide +kernel
theorem dX0_joinOneAsTold_2 : decode cX0_joinOneAsTold 2 = .ok (.iload_n 2, 1) := by decide +kernel
theorem dX0_joinOneAsTold_3 : decode cX0_joinOneAsTold 3 = .ok (.iload_n 3, 1) := by decide +kernel
theorem dX0_joinOneAsTold_4 : decode cX0_joinOneAsTold 4 = .ok (.invokevirtual 109, 3) := by decide +kernel
theorem dX0_joinOneAsTold_7 : decode cX0_joinOneAsTold 7 = .ok (.ifCond .ne 4, 3) := by decide +kernel
theorem dX0_joinOneAsTold_10 : decode cX0_joinOneAsTold 10 = .ok (.return_, 1) := by decide +kernel
theorem dX0_joinOneAsTold_11 : decode cX0_joinOneAsTold 11 = .ok (.aload_n 0, 1) := by decide +kernel
theorem dX0_joinOneAsTold_12 : decode cX0_joinOneAsTold 12 = .ok (.iload_n 1, 1) := by decide +kernel
theorem dX0_joinOneAsTold_13 : decode cX0_joinOneAsTold 13 = .ok (.iload_n 2, 1) := by decide +kernel
theorem dX0_joinOneAsTold_14 : decode cX0_joinOneAsTold 14 = .ok (.iload_n 3, 1) := by decide +kernel
theorem dX0_joinOneAsTold_15 : decode cX0_joinOneAsTold 15 = .ok (.invokevirtual 112, 3) := by decide +kernel
theorem dX0_joinOneAsTold_18 : decode cX0_joinOneAsTold 18 = .ok (.istore 4, 2) := by decide +kernel
theorem dX0_joinOneAsTold_20 : decode cX0_joinOneAsTold 20 = .ok (.aload_n 0, 1) := by decide +kernel
theorem dX0_joinOneAsTold_21 : decode cX0_joinOneAsTold 21 = .ok (.iload 4, 2) := by decide +kernel
theorem dX0_joinOneAsTold_23 : decode cX0_joinOneAsTold 23 = .ok (.invokevirtual 92, 3) := by decide +kernel
theorem dX0_joinOneAsTold_26 : decode cX0_joinOneAsTold 26 = .ok (.ifCond .ne 4, 3) := by decide +kernel
theorem dX0_joinOneAsTold_29 : decode cX0_joinOneAsTold 29 = .ok (.return_, 1) := by decide +kernel
theorem dX0_joinOneAsTold_30 : decode cX0_joinOneAsTold 30 = .ok (.aload_n 0, 1) := by decide +kernel
theorem dX0_joinOneAsTold_31 : decode cX0_joinOneAsTold 31 = .ok (.getfield 12, 3) := by decide +kernel
theorem dX0_joinOneAsTold_34 : decode cX0_joinOneAsTold 34 = .ok (.getfield 116, 3) := by decide +kernel
theorem dX0_joinOneAsTold_37 : decode cX0_joinOneAsTold 37 = .ok (.iload_n 2, 1) := by decide +kernel
theorem dX0_joinOneAsTold_38 : decode cX0_joinOneAsTold 38 = .ok (.baload, 1) := by decide +kernel
theorem dX0_joinOneAsTold_39 : decode cX0_joinOneAsTold 39 = .ok (.iload_n 3, 1) := by decide +kernel
theorem dX0_joinOneAsTold_40 : decode cX0_joinOneAsTold 40 = .ok (.if_icmp .ne 13, 3) := by decide +kernel
theorem dX0_joinOneAsTold_43 : decode cX0_joinOneAsTold 43 = .ok (.aload_n 0, 1) := by decide +kernel
theorem dX0_joinOneAsTold_44 : decode cX0_joinOneAsTold 44 = .ok (.iload_n 1, 1) := by decide +kernel
theorem dX0_joinOneAsTold_45 : decode cX0_joinOneAsTold 45 = .ok (.iload 4, 2) := by decide +kernel
theorem dX0_joinOneAsTold_47 : decode cX0_joinOneAsTold 47 = .ok (.invokevirtual 119, 3) := by decide +kernel
theorem dX0_joinOneAsTold_50 : decode cX0_joinOneAsTold 50 = .ok (.goto 10, 3) := by decide +kernel
theorem dX0_joinOneAsTold_53 : decode cX0_joinOneAsTold 53 = .ok (.aload_n 0, 1) := by decide +kernel
theorem dX0_joinOneAsTold_54 : decode cX0_joinOneAsTold 54 = .ok (.iload 4, 2) := by decide +kernel
theorem dX0_joinOneAsTold_56 : decode cX0_joinOneAsTold 56 = .ok (.iload_n 1, 1) := by decide +kernel
theorem dX0_joinOneAsTold_57 : decode cX0_joinOneAsTold 57 = .ok (.invokevirtual 119, 3) := by decide +kernel
theorem dX0_joinOneAsTold_60 : decode cX0_joinOneAsTold 60 = .ok (.return_, 1) := by decide +kernel
theorem dX0_standsAsTold_0 : decode cX0_standsAsTold 0 = .ok (.aload_n 0, 1) := by decide +kernel
theorem dX0_standsAsTold_1 : decode cX0_standsAsTold 1 = .ok (.iload_n 1, 1) := by decide +kernel
theorem dX0_standsAsTold_2 : decode cX0_standsAsTold 2 = .ok (.iload_n 2, 1) := by decide +kernel
theorem dX0_standsAsTold_3 : decode cX0_standsAsTold 3 = .ok (.iload_n 3, 1) := by decide +kernel
theorem dX0_standsAsTold_4 : decode cX0_standsAsTold 4 = .ok (.invokevirtual 109, 3) := by decide +kernel
theorem dX0_standsAsTold_7 : decode cX0_standsAsTold 7 = .ok (.ifCond .ne 5, 3) := by decide +kernel
theorem dX0_standsAsTold_10 : decode cX0_standsAsTold 10 = .ok (.iconst 1, 1) := by decide +kernel
theorem dX0_standsAsTold_11 : decode cX0_standsAsTold 11 = .ok (.ireturn, 1) := by decide +kernel
theorem dX0_standsAsTold_12 : decode cX0_standsAsTold 12 = .ok (.aload_n 0, 1) := by decide +kernel
theorem dX0_standsAsTold_13 : decode cX0_standsAsTold 13 = .ok (.iload_n 1, 1) := by decide +kernel
theorem dX0_standsAsTold_14 : decode cX0_standsAsTold 14 = .ok (.iload_n 2, 1) := by decide +kernel
theorem dX0_standsAsTold_15 : decode cX0_standsAsTold 15 = .ok (.iload_n 3, 1) := by decide +kernel
theorem dX0_standsAsTold_16 : decode cX0_standsAsTold 16 = .ok (.invokevirtual 112, 3) := by decide +kernel
theorem dX0_standsAsTold_19 : decode cX0_standsAsTold 19 = .ok (.istore 4, 2) := by decide +kernel
theorem dX0_standsAsTold_21 : decode cX0_standsAsTold 21 = .ok (.iload 4, 2) := by decide +kernel
theorem dX0_standsAsTold_23 : decode cX0_standsAsTold 23 = .ok (.iconst (-1), 1) := by decide +kernel
theorem dX0_standsAsTold_24 : decode cX0_standsAsTold 24 = .ok (.if_icmp .ne 5, 3) := by decide +kernel
theorem dX0_standsAsTold_27 : decode cX0_standsAsTold 27 = .ok (.iconst 0, 1) := by decide +kernel
theorem dX0_standsAsTold_28 : decode cX0_standsAsTold 28 = .ok (.ireturn, 1) := by decide +kernel
theorem dX0_standsAsTold_29 : decode cX0_standsAsTold 29 = .ok (.aload_n 0, 1) := by decide +kernel
theorem dX0_standsAsTold_30 : decode cX0_standsAsTold 30 = .ok (.getfield 12, 3) := by decide +kernel
theorem dX0_standsAsTold_33 : decode cX0_standsAsTold 33 = .ok (.getfield 116, 3) := by decide +kernel
theorem dX0_standsAsTold_36 : decode cX0_standsAsTold 36 = .ok (.iload_n 2, 1) := by decide +kernel
theorem dX0_standsAsTold_37 : decode cX0_standsAsTold 37 = .ok (.baload, 1) := by decide +kernel
theorem dX0_standsAsTold_38 : decode cX0_standsAsTold 38 = .ok (.iload_n 3, 1) := by decide +kernel
theorem dX0_standsAsTold_39 : decode cX0_standsAsTold 39 = .ok (.if_icmp .ne 16, 3) := by decide +kernel
theorem dX0_standsAsTold_42 : decode cX0_standsAsTold 42 = .ok (.aload_n 0, 1) := by decide +kernel
theorem dX0_standsAsTold_43 : decode cX0_standsAsTold 43 = .ok (.getfield 27, 3) := by decide +kernel
theorem dX0_standsAsTold_46 : decode cX0_standsAsTold 46 = .ok (.iload_n 1, 1) := by decide +kernel
theorem dX0_standsAsTold_47 : decode cX0_standsAsTold 47 = .ok (.iload 4, 2) := by decide +kernel
theorem dX0_standsAsTold_49 : decode cX0_standsAsTold 49 = .ok (.invokevirtual 79, 3) := by decide +kernel
theorem dX0_standsAsTold_52 : decode cX0_standsAsTold 52 = .ok (.goto 13, 3) := by decide +kernel
theorem dX0_standsAsTold_55 : decode cX0_standsAsTold 55 = .ok (.aload_n 0, 1) := by decide +kernel
theorem dX0_standsAsTold_56 : decode cX0_standsAsTold 56 = .ok (.getfield 27, 3) := by decide +kernel
theorem dX0_standsAsTold_59 : decode cX0_standsAsTold 59 = .ok (.iload 4, 2) := by decide +kernel
theorem dX0_standsAsTold_61 : decode cX0_standsAsTold 61 = .ok (.iload_n 1, 1) := by decide +kernel
theorem dX0_standsAsTold_62 : decode cX0_standsAsTold 62 = .ok (.invokevirtual 79, 3) := by decide +kernel
theorem dX0_standsAsTold_65 : decode cX0_standsAsTold 65 = .ok (.ireturn, 1) := by decide +kernel
theorem dX0_isOfLink_0 : decode cX0_isOfLink 0 = .ok (.aload_n 0, 1) := by decide +kernel
theorem dX0_isOfLink_1 : decode cX0_isOfLink 1 = .ok (.getfield 12, 3) := by decide +kernel
theorem dX0_isOfLink_4 : decode cX0_isOfLink 4 = .ok (.getfield 45, 3) := by decide +kernel
theorem dX0_isOfLink_7 : decode cX0_isOfLink 7 = .ok (.iconst 1, 1) := by decide +kernel
theorem dX0_isOfLink_8 : decode cX0_isOfLink 8 = .ok (.if_icmp .ge 5, 3) := by decide +kernel
theorem dX0_isOfLink_11 : decode cX0_isOfLink 11 = .ok (.iconst 0, 1) := by decide +kernel
theorem dX0_isOfLink_12 : decode cX0_isOfLink 12 = .ok (.ireturn, 1) := by decide +kernel
theorem dX0_isOfLink_13 : decode cX0_isOfLink 13 = .ok (.iload_n 1, 1) := by decide +kernel
theorem dX0_isOfLink_14 : decode cX0_isOfLink 14 = .ok (.aload_n 0, 1) := by decide +kernel
theorem dX0_isOfLink_15 : decode cX0_isOfLink 15 = .ok (.getfield 12, 3) := by decide +kernel
theorem dX0_isOfLink_18 : decode cX0_isOfLink 18 = .ok (.getfield 45, 3) := by decide +kernel
theorem dX0_isOfLink_21 : decode cX0_isOfLink 21 = .ok (.irem, 1) := by decide +kernel
theorem dX0_isOfLink_22 : decode cX0_isOfLink 22 = .ok (.iload_n 3, 1) := by decide +kernel
theorem dX0_isOfLink_23 : decode cX0_isOfLink 23 = .ok (.ifCond .eq 15, 3) := by decide +kernel
theorem dX0_isOfLink_26 : decode cX0_isOfLink 26 = .ok (.aload_n 0, 1) := by decide +kernel
theorem dX0_isOfLink_27 : decode cX0_isOfLink 27 = .ok (.getfield 12, 3) := by decide +kernel
theorem dX0_isOfLink_30 : decode cX0_isOfLink 30 = .ok (.getfield 122, 3) := by decide +kernel
theorem dX0_isOfLink_33 : decode cX0_isOfLink 33 = .ok (.iload_n 2, 1) := by decide +kernel
theorem dX0_isOfLink_34 : decode cX0_isOfLink 34 = .ok (.iaload, 1) := by decide +kernel
theorem dX0_isOfLink_35 : decode cX0_isOfLink 35 = .ok (.goto 12, 3) := by decide +kernel
theorem dX0_isOfLink_38 : decode cX0_isOfLink 38 = .ok (.aload_n 0, 1) := by decide +kernel
theorem dX0_isOfLink_39 : decode cX0_isOfLink 39 = .ok (.getfield 12, 3) := by decide +kernel
theorem dX0_isOfLink_42 : decode cX0_isOfLink 42 = .ok (.getfield 126, 3) := by decide +kernel
theorem dX0_isOfLink_45 : decode cX0_isOfLink 45 = .ok (.iload_n 2, 1) := by decide +kernel
theorem dX0_isOfLink_46 : decode cX0_isOfLink 46 = .ok (.iaload, 1) := by decide +kernel
theorem dX0_isOfLink_47 : decode cX0_isOfLink 47 = .ok (.if_icmp .ne 7, 3) := by decide +kernel
theorem dX0_isOfLink_50 : decode cX0_isOfLink 50 = .ok (.iconst 1, 1) := by decide +kernel
theorem dX0_isOfLink_51 : decode cX0_isOfLink 51 = .ok (.goto 4, 3) := by decide +kernel
theorem dX0_isOfLink_54 : decode cX0_isOfLink 54 = .ok (.iconst 0, 1) := by decide +kernel
theorem dX0_isOfLink_55 : decode cX0_isOfLink 55 = .ok (.ireturn, 1) := by decide +kernel
theorem dX0_otherAsTold_0 : decode cX0_otherAsTold 0 = .ok (.aload_n 0, 1) := by decide +kernel
theorem dX0_otherAsTold_1 : decode cX0_otherAsTold 1 = .ok (.getfield 12, 3) := by decide +kernel
theorem dX0_otherAsTold_4 : decode cX0_otherAsTold 4 = .ok (.getfield 45, 3) := by decide +kernel
theorem dX0_otherAsTold_7 : decode cX0_otherAsTold 7 = .ok (.iconst 1, 1) := by decide +kernel
theorem dX0_otherAsTold_8 : decode cX0_otherAsTold 8 = .ok (.if_icmp .lt 11, 3) := by decide +kernel
theorem dX0_otherAsTold_11 : decode cX0_otherAsTold 11 = .ok (.aload_n 0, 1) := by decide +kernel
theorem dX0_otherAsTold_12 : decode cX0_otherAsTold 12 = .ok (.getfield 38, 3) := by decide +kernel
theorem dX0_otherAsTold_15 : decode cX0_otherAsTold 15 = .ok (.iconst 1, 1) := by decide +kernel
theorem dX0_otherAsTold_16 : decode cX0_otherAsTold 16 = .ok (.if_icmp .ge 5, 3) := by decide +kernel
theorem dX0_otherAsTold_19 : decode cX0_otherAsTold 19 = .ok (.iconst (-1), 1) := by decide +kernel
theorem dX0_otherAsTold_20 : decode cX0_otherAsTold 20 = .ok (.ireturn, 1) := by decide +kernel
theorem dX0_otherAsTold_21 : decode cX0_otherAsTold 21 = .ok (.iload_n 1, 1) := by decide +kernel
theorem dX0_otherAsTold_22 : decode cX0_otherAsTold 22 = .ok (.aload_n 0, 1) := by decide +kernel
theorem dX0_otherAsTold_23 : decode cX0_otherAsTold 23 = .ok (.getfield 12, 3) := by decide +kernel
theorem dX0_otherAsTold_26 : decode cX0_otherAsTold 26 = .ok (.getfield 45, 3) := by decide +kernel
theorem dX0_otherAsTold_29 : decode cX0_otherAsTold 29 = .ok (.idiv, 1) := by decide +kernel
theorem dX0_otherAsTold_30 : decode cX0_otherAsTold 30 = .ok (.istore 4, 2) := by decide +kernel
theorem dX0_otherAsTold_32 : decode cX0_otherAsTold 32 = .ok (.iload 4, 2) := by decide +kernel
theorem dX0_otherAsTold_34 : decode cX0_otherAsTold 34 = .ok (.aload_n 0, 1) := by decide +kernel
theorem dX0_otherAsTold_35 : decode cX0_otherAsTold 35 = .ok (.getfield 38, 3) := by decide +kernel
theorem dX0_otherAsTold_38 : decode cX0_otherAsTold 38 = .ok (.irem, 1) := by decide +kernel
theorem dX0_otherAsTold_39 : decode cX0_otherAsTold 39 = .ok (.istore 5, 2) := by decide +kernel
theorem dX0_otherAsTold_41 : decode cX0_otherAsTold 41 = .ok (.iload 4, 2) := by decide +kernel
theorem dX0_otherAsTold_43 : decode cX0_otherAsTold 43 = .ok (.aload_n 0, 1) := by decide +kernel
theorem dX0_otherAsTold_44 : decode cX0_otherAsTold 44 = .ok (.getfield 38, 3) := by decide +kernel
theorem dX0_otherAsTold_47 : decode cX0_otherAsTold 47 = .ok (.idiv, 1) := by decide +kernel
theorem dX0_otherAsTold_48 : decode cX0_otherAsTold 48 = .ok (.istore 6, 2) := by decide +kernel
theorem dX0_otherAsTold_50 : decode cX0_otherAsTold 50 = .ok (.iload_n 3, 1) := by decide +kernel
theorem dX0_otherAsTold_51 : decode cX0_otherAsTold 51 = .ok (.ifCond .eq 41, 3) := by decide +kernel
theorem dX0_otherAsTold_54 : decode cX0_otherAsTold 54 = .ok (.aload_n 0, 1) := by decide +kernel
theorem dX0_otherAsTold_55 : decode cX0_otherAsTold 55 = .ok (.iload 5, 2) := by decide +kernel
theorem dX0_otherAsTold_57 : decode cX0_otherAsTold 57 = .ok (.aload_n 0, 1) := by decide +kernel
theorem dX0_otherAsTold_58 : decode cX0_otherAsTold 58 = .ok (.getfield 12, 3) := by decide +kernel
theorem dX0_otherAsTold_61 : decode cX0_otherAsTold 61 = .ok (.getfield 129, 3) := by decide +kernel
theorem dX0_otherAsTold_64 : decode cX0_otherAsTold 64 = .ok (.iload_n 2, 1) := by decide +kernel
theorem dX0_otherAsTold_65 : decode cX0_otherAsTold 65 = .ok (.iaload, 1) := by decide +kernel
theorem dX0_otherAsTold_66 : decode cX0_otherAsTold 66 = .ok (.iadd, 1) := by decide +kernel
theorem dX0_otherAsTold_67 : decode cX0_otherAsTold 67 = .ok (.iload 6, 2) := by decide +kernel
theorem dX0_otherAsTold_69 : decode cX0_otherAsTold 69 = .ok (.aload_n 0, 1) := by decide +kernel
theorem dX0_otherAsTold_70 : decode cX0_otherAsTold 70 = .ok (.getfield 12, 3) := by decide +kernel
theorem dX0_otherAsTold_73 : decode cX0_otherAsTold 73 = .ok (.getfield 132, 3) := by decide +kernel
theorem dX0_otherAsTold_76 : decode cX0_otherAsTold 76 = .ok (.iload_n 2, 1) := by decide +kernel
theorem dX0_otherAsTold_77 : decode cX0_otherAsTold 77 = .ok (.iaload, 1) := by decide +kernel
theorem dX0_otherAsTold_78 : decode cX0_otherAsTold 78 = .ok (.iadd, 1) := by decide +kernel
theorem dX0_otherAsTold_79 : decode cX0_otherAsTold 79 = .ok (.aload_n 0, 1) := by decide +kernel
theorem dX0_otherAsTold_80 : decode cX0_otherAsTold 80 = .ok (.getfield 12, 3) := by decide +kernel
theorem dX0_otherAsTold_83 : decode cX0_otherAsTold 83 = .ok (.getfield 126, 3) := by decide +kernel
theorem dX0_otherAsTold_86 : decode cX0_otherAsTold 86 = .ok (.iload_n 2, 1) := by decide +kernel
theorem dX0_otherAsTold_87 : decode cX0_otherAsTold 87 = .ok (.iaload, 1) := by decide +kernel
theorem dX0_otherAsTold_88 : decode cX0_otherAsTold 88 = .ok (.invokevirtual 135, 3) := by decide +kernel
theorem dX0_otherAsTold_91 : decode cX0_otherAsTold 91 = .ok (.ireturn, 1) := by decide +kernel
theorem dX0_otherAsTold_92 : decode cX0_otherAsTold 92 = .ok (.aload_n 0, 1) := by decide +kernel
theorem dX0_otherAsTold_93 : decode cX0_otherAsTold 93 = .ok (.iload 5, 2) := by decide +kernel
theorem dX0_otherAsTold_95 : decode cX0_otherAsTold 95 = .ok (.aload_n 0, 1) := by decide +kernel
theorem dX0_otherAsTold_96 : decode cX0_otherAsTold 96 = .ok (.getfield 12, 3) := by decide +kernel
theorem dX0_otherAsTold_99 : decode cX0_otherAsTold 99 = .ok (.getfield 129, 3) := by decide +kernel
theorem dX0_otherAsTold_102 : decode cX0_otherAsTold 102 = .ok (.iload_n 2, 1) := by decide +kernel
theorem dX0_otherAsTold_103 : decode cX0_otherAsTold 103 = .ok (.iaload, 1) := by decide +kernel
theorem dX0_otherAsTold_104 : decode cX0_otherAsTold 104 = .ok (.isub, 1) := by decide +kernel
theorem dX0_otherAsTold_105 : decode cX0_otherAsTold 105 = .ok (.iload 6, 2) := by decide +kernel
theorem dX0_otherAsTold_107 : decode cX0_otherAsTold 107 = .ok (.aload_n 0, 1) := by decide +kernel
theorem dX0_otherAsTold_108 : decode cX0_otherAsTold 108 = .ok (.getfield 12, 3) := by decide +kernel
theorem dX0_otherAsTold_111 : decode cX0_otherAsTold 111 = .ok (.getfield 132, 3) := by decide +kernel
theorem dX0_otherAsTold_114 : decode cX0_otherAsTold 114 = .ok (.iload_n 2, 1) := by decide +kernel
theorem dX0_otherAsTold_115 : decode cX0_otherAsTold 115 = .ok (.iaload, 1) := by decide +kernel
theorem dX0_otherAsTold_116 : decode cX0_otherAsTold 116 = .ok (.isub, 1) := by decide +kernel
theorem dX0_otherAsTold_117 : decode cX0_otherAsTold 117 = .ok (.aload_n 0, 1) := by decide +kernel
theorem dX0_otherAsTold_118 : decode cX0_otherAsTold 118 = .ok (.getfield 12, 3) := by decide +kernel
theorem dX0_otherAsTold_121 : decode cX0_otherAsTold 121 = .ok (.getfield 122, 3) := by decide +kernel
theorem dX0_otherAsTold_124 : decode cX0_otherAsTold 124 = .ok (.iload_n 2, 1) := by decide +kernel
theorem dX0_otherAsTold_125 : decode cX0_otherAsTold 125 = .ok (.iaload, 1) := by decide +kernel
theorem dX0_otherAsTold_126 : decode cX0_otherAsTold 126 = .ok (.invokevirtual 135, 3) := by decide +kernel
theorem dX0_otherAsTold_129 : decode cX0_otherAsTold 129 = .ok (.ireturn, 1) := by decide +kernel
theorem dX1_init_0 : decode cX1_init 0 = .ok (.aload_n 0, 1) := by decide +kernel
theorem dX1_init_1 : decode cX1_init 1 = .ok (.invokespecial 3, 3) := by decide +kernel
theorem dX1_init_4 : decode cX1_init 4 = .ok (.aload_n 0, 1) := by decide +kernel
theorem dX1_init_5 : decode cX1_init 5 = .ok (.aload_n 1, 1) := by decide +kernel
theorem dX1_init_6 : decode cX1_init 6 = .ok (.putfield 9, 3) := by decide +kernel
theorem dX1_init_9 : decode cX1_init 9 = .ok (.aload_n 0, 1) := by decide +kernel
theorem dX1_init_10 : decode cX1_init 10 = .ok (.aload_n 2, 1) := by decide +kernel
theorem dX1_init_11 : decode cX1_init 11 = .ok (.putfield 15, 3) := by decide +kernel
theorem dX1_init_14 : decode cX1_init 14 = .ok (.aload_n 0, 1) := by decide +kernel
theorem dX1_init_15 : decode cX1_init 15 = .ok (.new 19, 3) := by decide +kernel
theorem dX1_init_18 : decode cX1_init 18 = .ok (.dup, 1) := by decide +kernel
theorem dX1_init_19 : decode cX1_init 19 = .ok (.iconst 4, 1) := by decide +kernel
theorem dX1_init_20 : decode cX1_init 20 = .ok (.invokespecial 21, 3) := by decide +kernel
theorem dX1_init_23 : decode cX1_init 23 = .ok (.putfield 24, 3) := by decide +kernel
theorem dX1_init_26 : decode cX1_init 26 = .ok (.aload_n 0, 1) := by decide +kernel
theorem dX1_init_27 : decode cX1_init 27 = .ok (.sipush 300, 3) := by decide +kernel
theorem dX1_init_30 : decode cX1_init 30 = .ok (.newarray .int, 2) := by decide +kernel
theorem dX1_init_32 : decode cX1_init 32 = .ok (.putfield 28, 3) := by decide +kernel
theorem dX1_init_35 : decode cX1_init 35 = .ok (.aload_n 0, 1) := by decide +kernel
theorem dX1_init_36 : decode cX1_init 36 = .ok (.sipush 300, 3) := by decide +kernel
theorem dX1_init_39 : decode cX1_init 39 = .ok (.newarray .int, 2) := by decide +kernel
theorem dX1_init_41 : decode cX1_init 41 = .ok (.putfield 32, 3) := by decide +kernel
theorem dX1_init_44 : decode cX1_init 44 = .ok (.aload_n 0, 1) := by decide +kernel
theorem dX1_init_45 : decode cX1_init 45 = .ok (.sipush 300, 3) := by decide +kernel
theorem dX1_init_48 : decode cX1_init 48 = .ok (.newarray .int, 2) := by decide +kernel
theorem dX1_init_50 : decode cX1_init 50 = .ok (.putfield 35, 3) := by decide +kernel
theorem dX1_init_53 : decode cX1_init 53 = .ok (.aload_n 0, 1) := by decide +kernel
theorem dX1_init_54 : decode cX1_init 54 = .ok (.sipush 300, 3) := by decide +kernel
theorem dX1_init_57 : decode cX1_init 57 = .ok (.newarray .boolean, 2) := by decide +kernel
theorem dX1_init_59 : decode cX1_init 59 = .ok (.putfield 38, 3) := by decide +kernel
theorem dX1_init_62 : decode cX1_init 62 = .ok (.aload_n 0, 1) := by decide +kernel
theorem dX1_init_63 : decode cX1_init 63 = .ok (.sipush 300, 3) := by decide +kernel
theorem dX1_init_66 : decode cX1_init 66 = .ok (.newarray .int, 2) := by decide +kernel
theorem dX1_init_68 : decode cX1_init 68 = .ok (.putfield 42, 3) := by decide +kernel
theorem dX1_init_71 : decode cX1_init 71 = .ok (.aload_n 0, 1) := by decide +kernel
theorem dX1_init_72 : decode cX1_init 72 = .ok (.iconst (-1), 1) := by decide +kernel
theorem dX1_init_73 : decode cX1_init 73 = .ok (.putfield 45, 3) := by decide +kernel
theorem dX1_init_76 : decode cX1_init 76 = .ok (.return_, 1) := by decide +kernel
theorem dX1_refresh_0 : decode cX1_refresh 0 = .ok (.aload_n 0, 1) := by decide +kernel
theorem dX1_refresh_1 : decode cX1_refresh 1 = .ok (.getfield 45, 3) := by decide +kernel
theorem dX1_refresh_4 : decode cX1_refresh 4 = .ok (.aload_n 0, 1) := by decide +kernel
theorem dX1_refresh_5 : decode cX1_refresh 5 = .ok (.getfield 9, 3) := by decide +kernel
theorem dX1_refresh_8 : decode cX1_refresh 8 = .ok (.getfield 49, 3) := by decide +kernel
theorem dX1_refresh_11 : decode cX1_refresh 11 = .ok (.if_icmp .ne 4, 3) := by decide +kernel
theorem dX1_refresh_14 : decode cX1_refresh 14 = .ok (.return_, 1) := by decide +kernel
theorem dX1_refresh_15 : decode cX1_refresh 15 = .ok (.aload_n 0, 1) := by decide +kernel
theorem dX1_refresh_16 : decode cX1_refresh 16 = .ok (.aload_n 0, 1) := by decide +kernel
theorem dX1_refresh_17 : decode cX1_refresh 17 = .ok (.getfield 9, 3) := by decide +kernel
theorem dX1_refresh_20 : decode cX1_refresh 20 = .ok (.getfield 49, 3) := by decide +kernel
theorem dX1_refresh_23 : decode cX1_refresh 23 = .ok (.putfield 45, 3) := by decide +kernel
theorem dX1_refresh_26 : decode cX1_refresh 26 = .ok (.aload_n 0, 1) := by decide +kernel
theorem dX1_refresh_27 : decode cX1_refresh 27 = .ok (.getfield 15, 3) := by decide +kernel
theorem dX1_refresh_30 : decode cX1_refresh 30 = .ok (.invokevirtual 54, 3) := by decide +kernel
theorem dX1_refresh_33 : decode cX1_refresh 33 = .ok (.aload_n 0, 1) := by decide +kernel
theorem dX1_refresh_34 : decode cX1_refresh 34 = .ok (.iconst 0, 1) := by decide +kernel
theorem dX1_refresh_35 : decode cX1_refresh 35 = .ok (.putfield 59, 3) := by decide +kernel
theorem dX1_refresh_38 : decode cX1_refresh 38 = .ok (.aload_n 0, 1) := by decide +kernel
theorem dX1_refresh_39 : decode cX1_refresh 39 = .ok (.getfield 24, 3) := by decide +kernel
theorem dX1_refresh_42 : decode cX1_refresh 42 = .ok (.invokevirtual 62, 3) := by decide +kernel
theorem dX1_refresh_45 : decode cX1_refresh 45 = .ok (.aload_n 0, 1) := by decide +kernel
theorem dX1_refresh_46 : decode cX1_refresh 46 = .ok (.getfield 15, 3) := by decide +kernel
theorem dX1_refresh_49 : decode cX1_refresh 49 = .ok (.getfield 65, 3) := by decide +kernel
theorem dX1_refresh_52 : decode cX1_refresh 52 = .ok (.ifCond .eq 19, 3) := by decide +kernel
theorem dX1_refresh_55 : decode cX1_refresh 55 = .ok (.aload_n 0, 1) := by decide +kernel
theorem dX1_refresh_56 : decode cX1_refresh 56 = .ok (.invokevirtual 69, 3) := by decide +kernel
theorem dX1_refresh_59 : decode cX1_refresh 59 = .ok (.aload_n 0, 1) := by decide +kernel
theorem dX1_refresh_60 : decode cX1_refresh 60 = .ok (.invokevirtual 72, 3) := by decide +kernel
theorem dX1_refresh_63 : decode cX1_refresh 63 = .ok (.aload_n 0, 1) := by decide +kernel
theorem dX1_refresh_64 : decode cX1_refresh 64 = .ok (.invokevirtual 75, 3) := by decide +kernel
theorem dX1_refresh_67 : decode cX1_refresh 67 = .ok (.aload_n 0, 1) := by decide +kernel
theorem dX1_refresh_68 : decode cX1_refresh 68 = .ok (.invokevirtual 78, 3) := by decide +kernel
theorem dX1_refresh_71 : decode cX1_refresh 71 = .ok (.return_, 1) := by decide +kernel
theorem dX1_isOpened_0 : decode cX1_isOpened 0 = .ok (.aload_n 0, 1) := by decide +kernel
theorem dX1_isOpened_1 : decode cX1_isOpened 1 = .ok (.getfield 24, 3) := by decide +kernel
theorem dX1_isOpened_4 : decode cX1_isOpened 4 = .ok (.iconst 0, 1) := by decide +kernel
theorem dX1_isOpened_5 : decode cX1_isOpened 5 = .ok (.iload_n 1, 1) := by decide +kernel
theorem dX1_isOpened_6 : decode cX1_isOpened 6 = .ok (.invokevirtual 81, 3) := by decide +kernel
theorem dX1_isOpened_9 : decode cX1_isOpened 9 = .ok (.ireturn, 1) := by decide +kernel
theorem dX1_pairWhatIsFree_0 : decode cX1_pairWhatIsFree 0 = .ok (.aload_n 0, 1) := by decide +kernel
theorem dX1_pairWhatIsFree_1 : decode cX1_pairWhatIsFree 1 = .ok (.getfield 28, 3) := by decide +kernel
theorem dX1_pairWhatIsFree_4 : decode cX1_pairWhatIsFree 4 = .ok (.iconst (-1), 1) := by decide +kernel
theorem dX1_pairWhatIsFree_5 : decode cX1_pairWhatIsFree 5 = .ok (.invokestatic 85, 3) := by decide +kernel
theorem dX1_pairWhatIsFree_8 : decode cX1_pairWhatIsFree 8 = .ok (.iconst 0, 1) := by decide +kernel
theorem dX1_pairWhatIsFree_9 : decode cX1_pairWhatIsFree 9 = .ok (.istore_n 1, 1) := by decide +kernel
theorem dX1_pairWhatIsFree_10 : decode cX1_pairWhatIsFree 10 = .ok (.iload_n 1, 1) := by decide +kernel
theorem dX1_pairWhatIsFree_11 : decode cX1_pairWhatIsFree 11 = .ok (.aload_n 0, 1) := by decide +kernel
theorem dX1_pairWhatIsFree_12 : decode cX1_pairWhatIsFree 12 = .ok (.getfield 9, 3) := by decide +kernel
theorem dX1_pairWhatIsFree_15 : decode cX1_pairWhatIsFree 15 = .ok (.getfield 91, 3) := by decide +kernel
theorem dX1_pairWhatIsFree_18 : decode cX1_pairWhatIsFree 18 = .ok (.if_icmp .ge 26, 3) := by decide +kernel
theorem dX1_pairWhatIsFree_21 : decode cX1_pairWhatIsFree 21 = .ok (.aload_n 0, 1) := by decide +kernel
theorem dX1_pairWhatIsFree_22 : decode cX1_pairWhatIsFree 22 = .ok (.getfield 15, 3) := by decide +kernel
theorem dX1_pairWhatIsFree_25 : decode cX1_pairWhatIsFree 25 = .ok (.getfield 94, 3) := by decide +kernel
theorem dX1_pairWhatIsFree_28 : decode cX1_pairWhatIsFree 28 = .ok (.iload_n 1, 1) := by decide +kernel
theorem dX1_pairWhatIsFree_29 : decode cX1_pairWhatIsFree 29 = .ok (.baload, 1) := by decide +kernel
theorem dX1_pairWhatIsFree_30 : decode cX1_pairWhatIsFree 30 = .ok (.ifCond .eq 8, 3) := by decide +kernel
theorem dX1_pairWhatIsFree_33 : decode cX1_pairWhatIsFree 33 = .ok (.aload_n 0, 1) := by decide +kernel
theorem dX1_pairWhatIsFree_34 : decode cX1_pairWhatIsFree 34 = .ok (.iload_n 1, 1) := by decide +kernel
theorem dX1_pairWhatIsFree_35 : decode cX1_pairWhatIsFree 35 = .ok (.invokevirtual 97, 3) := by decide +kernel
theorem dX1_pairWhatIsFree_38 : decode cX1_pairWhatIsFree 38 = .ok (.iinc 1 1, 3) := by decide +kernel
theorem dX1_pairWhatIsFree_41 : decode cX1_pairWhatIsFree 41 = .ok (.goto (-31), 3) := by decide +kernel
theorem dX1_pairWhatIsFree_44 : decode cX1_pairWhatIsFree 44 = .ok (.return_, 1) := by decide +kernel
theorem dX1_pairWithFree_0 : decode cX1_pairWithFree 0 = .ok (.aload_n 0, 1) := by decide +kernel
theorem dX1_pairWithFree_1 : decode cX1_pairWithFree 1 = .ok (.getfield 9, 3) := by decide +kernel
theorem dX1_pairWithFree_4 : decode cX1_pairWithFree 4 = .ok (.getfield 100, 3) := by decide +kernel
theorem dX1_pairWithFree_7 : decode cX1_pairWithFree 7 = .ok (.iload_n 1, 1) := by decide +kernel
theorem dX1_pairWithFree_8 : decode cX1_pairWithFree 8 = .ok (.iconst 0, 1) := by decide +kernel
theorem dX1_pairWithFree_9 : decode cX1_pairWithFree 9 = .ok (.invokevirtual 103, 3) := by decide +kernel
theorem dX1_pairWithFree_12 : decode cX1_pairWithFree 12 = .ok (.istore_n 2, 1) := by decide +kernel
theorem dX1_pairWithFree_13 : decode cX1_pairWithFree 13 = .ok (.iconst 0, 1) := by decide +kernel
theorem dX1_pairWithFree_14 : decode cX1_pairWithFree 14 = .ok (.istore_n 3, 1) := by decide +kernel
theorem dX1_pairWithFree_15 : decode cX1_pairWithFree 15 = .ok (.iload_n 3, 1) := by decide +kernel
theorem dX1_pairWithFree_16 : decode cX1_pairWithFree 16 = .ok (.sipush 300, 3) := by decide +kernel
theorem dX1_pairWithFree_19 : decode cX1_pairWithFree 19 = .ok (.if_icmp .ge 54, 3) := by decide +kernel
theorem dX1_pairWithFree_22 : decode cX1_pairWithFree 22 = .ok (.iload_n 2, 1) := by decide +kernel
theorem dX1_pairWithFree_23 : decode cX1_pairWithFree 23 = .ok (.iconst (-1), 1) := by decide +kernel
theorem dX1_pairWithFree_24 : decode cX1_pairWithFree 24 = .ok (.if_icmp .eq 49, 3) := by decide +kernel
theorem dX1_pairWithFree_27 : decode cX1_pairWithFree 27 = .ok (.aload_n 0, 1) := by decide +kernel
theorem dX1_pairWithFree_28 : decode cX1_pairWithFree 28 = .ok (.getfield 28, 3) := by decide +kernel
theorem dX1_pairWithFree_31 : decode cX1_pairWithFree 31 = .ok (.iload_n 2, 1) := by decide +kernel
theorem dX1_pairWithFree_32 : decode cX1_pairWithFree 32 = .ok (.iaload, 1) := by decide +kernel
theorem dX1_pairWithFree_33 : decode cX1_pairWithFree 33 = .ok (.iconst (-1), 1) := by decide +kernel
theorem dX1_pairWithFree_34 : decode cX1_pairWithFree 34 = .ok (.if_icmp .ne 18, 3) := by decide +kernel
theorem dX1_pairWithFree_37 : decode cX1_pairWithFree 37 = .ok (.aload_n 0, 1) := by decide +kernel
theorem dX1_pairWithFree_38 : decode cX1_pairWithFree 38 = .ok (.getfield 28, 3) := by decide +kernel
theorem dX1_pairWithFree_41 : decode cX1_pairWithFree 41 = .ok (.iload_n 1, 1) := by decide +kernel
theorem dX1_pairWithFree_42 : decode cX1_pairWithFree 42 = .ok (.iload_n 2, 1) := by decide +kernel
theorem dX1_pairWithFree_43 : decode cX1_pairWithFree 43 = .ok (.iastore, 1) := by decide +kernel
theorem dX1_pairWithFree_44 : decode cX1_pairWithFree 44 = .ok (.aload_n 0, 1) := by decide +kernel
theorem dX1_pairWithFree_45 : decode cX1_pairWithFree 45 = .ok (.getfield 28, 3) := by decide +kernel
theorem dX1_pairWithFree_48 : decode cX1_pairWithFree 48 = .ok (.iload_n 2, 1) := by decide +kernel
theorem dX1_pairWithFree_49 : decode cX1_pairWithFree 49 = .ok (.iload_n 1, 1) := by decide +kernel
theorem dX1_pairWithFree_50 : decode cX1_pairWithFree 50 = .ok (.iastore, 1) := by decide +kernel
theorem dX1_pairWithFree_51 : decode cX1_pairWithFree 51 = .ok (.return_, 1) := by decide +kernel
theorem dX1_pairWithFree_52 : decode cX1_pairWithFree 52 = .ok (.aload_n 0, 1) := by decide +kernel
theorem dX1_pairWithFree_53 : decode cX1_pairWithFree 53 = .ok (.getfield 9, 3) := by decide +kernel
theorem dX1_pairWithFree_56 : decode cX1_pairWithFree 56 = .ok (.getfield 100, 3) := by decide +kernel
theorem dX1_pairWithFree_59 : decode cX1_pairWithFree 59 = .ok (.iload_n 1, 1) := by decide +kernel
theorem dX1_pairWithFree_60 : decode cX1_pairWithFree 60 = .ok (.iload_n 2, 1) := by decide +kernel
theorem dX1_pairWithFree_61 : decode cX1_pairWithFree 61 = .ok (.iconst 1, 1) := by decide +kernel
theorem dX1_pairWithFree_62 : decode cX1_pairWithFree 62 = .ok (.iadd, 1) := by decide +kernel
theorem dX1_pairWithFree_63 : decode cX1_pairWithFree 63 = .ok (.invokevirtual 103, 3) := by decide +kernel
theorem dX1_pairWithFree_66 : decode cX1_pairWithFree 66 = .ok (.istore_n 2, 1) := by decide +kernel
theorem dX1_pairWithFree_67 : decode cX1_pairWithFree 67 = .ok (.iinc 3 1, 3) := by decide +kernel
theorem dX1_pairWithFree_70 : decode cX1_pairWithFree 70 = .ok (.goto (-55), 3) := by decide +kernel
theorem dX1_pairWithFree_73 : decode cX1_pairWithFree 73 = .ok (.return_, 1) := by decide +kernel
theorem dX1_pairAsManyAsCanBe_0 : decode cX1_pairAsManyAsCanBe 0 = .ok (.iconst 0, 1) := by decide +kernel
theorem dX1_pairAsManyAsCanBe_1 : decode cX1_pairAsManyAsCanBe 1 = .ok (.istore_n 1, 1) := by decide +kernel
theorem dX1_pairAsManyAsCanBe_2 : decode cX1_pairAsManyAsCanBe 2 = .ok (.iload_n 1, 1) := by decide +kernel
theorem dX1_pairAsManyAsCanBe_3 : decode cX1_pairAsManyAsCanBe 3 = .ok (.sipush 300, 3) := by decide +kernel
theorem dX1_pairAsManyAsCanBe_6 : decode cX1_pairAsManyAsCanBe 6 = .ok (.if_icmp .gt 25, 3) := by decide +kernel
theorem dX1_pairAsManyAsCanBe_9 : decode cX1_pairAsManyAsCanBe 9 = .ok (.aload_n 0, 1) := by decide +kernel
theorem dX1_pairAsManyAsCanBe_10 : decode cX1_pairAsManyAsCanBe 10 = .ok (.invokevirtual 107, 3) := by decide +kernel
theorem dX1_pairAsManyAsCanBe_13 : decode cX1_pairAsManyAsCanBe 13 = .ok (.istore_n 2, 1) := by decide +kernel
theorem dX1_pairAsManyAsCanBe_14 : decode cX1_pairAsManyAsCanBe 14 = .ok (.iload_n 2, 1) := by decide +kernel
theorem dX1_pairAsManyAsCanBe_15 : decode cX1_pairAsManyAsCanBe 15 = .ok (.iconst (-1), 1) := by decide +kernel
theorem dX1_pairAsManyAsCanBe_16 : decode cX1_pairAsManyAsCanBe 16 = .ok (.if_icmp .ne 4, 3) := by decide +kernel
theorem dX1_pairAsManyAsCanBe_19 : decode cX1_pairAsManyAsCanBe 19 = .ok (.return_, 1) := by decide +kernel
theorem dX1_pairAsManyAsCanBe_20 : decode cX1_pairAsManyAsCanBe 20 = .ok (.aload_n 0, 1) := by decide +kernel
theorem dX1_pairAsManyAsCanBe_21 : decode cX1_pairAsManyAsCanBe 21 = .ok (.iload_n 2, 1) := by decide +kernel
theorem dX1_pairAsManyAsCanBe_22 : decode cX1_pairAsManyAsCanBe 22 = .ok (.invokevirtual 111, 3) := by decide +kernel
theorem dX1_pairAsManyAsCanBe_25 : decode cX1_pairAsManyAsCanBe 25 = .ok (.iinc 1 1, 3) := by decide +kernel
theorem dX1_pairAsManyAsCanBe_28 : decode cX1_pairAsManyAsCanBe 28 = .ok (.goto (-26), 3) := by decide +kernel
theorem dX1_pairAsManyAsCanBe_31 : decode cX1_pairAsManyAsCanBe 31 = .ok (.return_, 1) := by decide +kernel
theorem dX1_reachFromUnpaired_0 : decode cX1_reachFromUnpaired 0 = .ok (.aload_n 0, 1) := by decide +kernel
theorem dX1_reachFromUnpaired_1 : decode cX1_reachFromUnpaired 1 = .ok (.invokevirtual 114, 3) := by decide +kernel
theorem dX1_reachFromUnpaired_4 : decode cX1_reachFromUnpaired 4 = .ok (.iconst 0, 1) := by decide +kernel
theorem dX1_reachFromUnpaired_5 : decode cX1_reachFromUnpaired 5 = .ok (.istore_n 1, 1) := by decide +kernel
theorem dX1_reachFromUnpaired_6 : decode cX1_reachFromUnpaired 6 = .ok (.iload_n 1, 1) := by decide +kernel
theorem dX1_reachFromUnpaired_7 : decode cX1_reachFromUnpaired 7 = .ok (.sipush 300, 3) := by decide +kernel
theorem dX1_reachFromUnpaired_10 : decode cX1_reachFromUnpaired 10 = .ok (.if_icmp .ge 35, 3) := by decide +kernel
theorem dX1_reachFromUnpaired_13 : decode cX1_reachFromUnpaired 13 = .ok (.iload_n 1, 1) := by decide +kernel
theorem dX1_reachFromUnpaired_14 : decode cX1_reachFromUnpaired 14 = .ok (.aload_n 0, 1) := by decide +kernel
theorem dX1_reachFromUnpaired_15 : decode cX1_reachFromUnpaired 15 = .ok (.getfield 117, 3) := by decide +kernel
theorem dX1_reachFromUnpaired_18 : decode cX1_reachFromUnpaired 18 = .ok (.if_icmp .ge 27, 3) := by decide +kernel
theorem dX1_reachFromUnpaired_21 : decode cX1_reachFromUnpaired 21 = .ok (.aload_n 0, 1) := by decide +kernel
theorem dX1_reachFromUnpaired_22 : decode cX1_reachFromUnpaired 22 = .ok (.aload_n 0, 1) := by decide +kernel
theorem dX1_reachFromUnpaired_23 : decode cX1_reachFromUnpaired 23 = .ok (.getfield 35, 3) := by decide +kernel
theorem dX1_reachFromUnpaired_26 : decode cX1_reachFromUnpaired 26 = .ok (.iload_n 1, 1) := by decide +kernel
theorem dX1_reachFromUnpaired_27 : decode cX1_reachFromUnpaired 27 = .ok (.iaload, 1) := by decide +kernel
theorem dX1_reachFromUnpaired_28 : decode cX1_reachFromUnpaired 28 = .ok (.invokevirtual 120, 3) := by decide +kernel
theorem dX1_reachFromUnpaired_31 : decode cX1_reachFromUnpaired 31 = .ok (.istore_n 2, 1) := by decide +kernel
theorem dX1_reachFromUnpaired_32 : decode cX1_reachFromUnpaired 32 = .ok (.iload_n 2, 1) := by decide +kernel
theorem dX1_reachFromUnpaired_33 : decode cX1_reachFromUnpaired 33 = .ok (.iconst (-1), 1) := by decide +kernel
theorem dX1_reachFromUnpaired_34 : decode cX1_reachFromUnpaired 34 = .ok (.if_icmp .eq 5, 3) := by decide +kernel
theorem dX1_reachFromUnpaired_37 : decode cX1_reachFromUnpaired 37 = .ok (.iload_n 2, 1) := by decide +kernel
theorem dX1_reachFromUnpaired_38 : decode cX1_reachFromUnpaired 38 = .ok (.ireturn, 1) := by decide +kernel
theorem dX1_reachFromUnpaired_39 : decode cX1_reachFromUnpaired 39 = .ok (.iinc 1 1, 3) := by decide +kernel
theorem dX1_reachFromUnpaired_42 : decode cX1_reachFromUnpaired 42 = .ok (.goto (-36), 3) := by decide +kernel
theorem dX1_reachFromUnpaired_45 : decode cX1_reachFromUnpaired 45 = .ok (.iconst (-1), 1) := by decide +kernel
theorem dX1_reachFromUnpaired_46 : decode cX1_reachFromUnpaired 46 = .ok (.ireturn, 1) := by decide +kernel
theorem dX1_queueUnpaired_0 : decode cX1_queueUnpaired 0 = .ok (.aload_n 0, 1) := by decide +kernel
theorem dX1_queueUnpaired_1 : decode cX1_queueUnpaired 1 = .ok (.getfield 32, 3) := by decide +kernel
theorem dX1_queueUnpaired_4 : decode cX1_queueUnpaired 4 = .ok (.iconst (-1), 1) := by decide +kernel
theorem dX1_queueUnpaired_5 : decode cX1_queueUnpaired 5 = .ok (.invokestatic 85, 3) := by decide +kernel
theorem dX1_queueUnpaired_8 : decode cX1_queueUnpaired 8 = .ok (.aload_n 0, 1) := by decide +kernel
theorem dX1_queueUnpaired_9 : decode cX1_queueUnpaired 9 = .ok (.iconst 0, 1) := by decide +kernel
theorem dX1_queueUnpaired_10 : decode cX1_queueUnpaired 10 = .ok (.putfield 117, 3) := by decide +kernel
theorem dX1_queueUnpaired_13 : decode cX1_queueUnpaired 13 = .ok (.iconst 0, 1) := by decide +kernel
theorem dX1_queueUnpaired_14 : decode cX1_queueUnpaired 14 = .ok (.istore_n 1, 1) := by decide +kernel
theorem dX1_queueUnpaired_15 : decode cX1_queueUnpaired 15 = .ok (.iload_n 1, 1) := by decide +kernel
theorem dX1_queueUnpaired_16 : decode cX1_queueUnpaired 16 = .ok (.aload_n 0, 1) := by decide +kernel
theorem dX1_queueUnpaired_17 : decode cX1_queueUnpaired 17 = .ok (.getfield 9, 3) := by decide +kernel
theorem dX1_queueUnpaired_20 : decode cX1_queueUnpaired 20 = .ok (.getfield 91, 3) := by decide +kernel
theorem dX1_queueUnpaired_23 : decode cX1_queueUnpaired 23 = .ok (.if_icmp .ge 43, 3) := by decide +kernel
theorem dX1_queueUnpaired_26 : decode cX1_queueUnpaired 26 = .ok (.aload_n 0, 1) := by decide +kernel
theorem dX1_queueUnpaired_27 : decode cX1_queueUnpaired 27 = .ok (.getfield 38, 3) := by decide +kernel
theorem dX1_queueUnpaired_30 : decode cX1_queueUnpaired 30 = .ok (.iload_n 1, 1) := by decide +kernel
theorem dX1_queueUnpaired_31 : decode cX1_queueUnpaired 31 = .ok (.iconst 0, 1) := by decide +kernel
theorem dX1_queueUnpaired_32 : decode cX1_queueUnpaired 32 = .ok (.bastore, 1) := by decide +kernel
theorem dX1_queueUnpaired_33 : decode cX1_queueUnpaired 33 = .ok (.aload_n 0, 1) := by decide +kernel
theorem dX1_queueUnpaired_34 : decode cX1_queueUnpaired 34 = .ok (.getfield 15, 3) := by decide +kernel
theorem dX1_queueUnpaired_37 : decode cX1_queueUnpaired 37 = .ok (.getfield 94, 3) := by decide +kernel
theorem dX1_queueUnpaired_40 : decode cX1_queueUnpaired 40 = .ok (.iload_n 1, 1) := by decide +kernel
theorem dX1_queueUnpaired_41 : decode cX1_queueUnpaired 41 = .ok (.baload, 1) := by decide +kernel
theorem dX1_queueUnpaired_42 : decode cX1_queueUnpaired 42 = .ok (.ifCond .eq 18, 3) := by decide +kernel
theorem dX1_queueUnpaired_45 : decode cX1_queueUnpaired 45 = .ok (.aload_n 0, 1) := by decide +kernel
theorem dX1_queueUnpaired_46 : decode cX1_queueUnpaired 46 = .ok (.getfield 28, 3) := by decide +kernel
theorem dX1_queueUnpaired_49 : decode cX1_queueUnpaired 49 = .ok (.iload_n 1, 1) := by decide +kernel
theorem dX1_queueUnpaired_50 : decode cX1_queueUnpaired 50 = .ok (.iaload, 1) := by decide +kernel
theorem dX1_queueUnpaired_51 : decode cX1_queueUnpaired 51 = .ok (.iconst (-1), 1) := by decide +kernel
theorem dX1_queueUnpaired_52 : decode cX1_queueUnpaired 52 = .ok (.if_icmp .ne 8, 3) := by decide +kernel
theorem dX1_queueUnpaired_55 : decode cX1_queueUnpaired 55 = .ok (.aload_n 0, 1) := by decide +kernel
theorem dX1_queueUnpaired_56 : decode cX1_queueUnpaired 56 = .ok (.iload_n 1, 1) := by decide +kernel
theorem dX1_queueUnpaired_57 : decode cX1_queueUnpaired 57 = .ok (.invokevirtual 124, 3) := by decide +kernel
theorem dX1_queueUnpaired_60 : decode cX1_queueUnpaired 60 = .ok (.iinc 1 1, 3) := by decide +kernel
theorem dX1_queueUnpaired_63 : decode cX1_queueUnpaired 63 = .ok (.goto (-48), 3) := by decide +kernel
theorem dX1_queueUnpaired_66 : decode cX1_queueUnpaired 66 = .ok (.return_, 1) := by decide +kernel
theorem dX1_reachFrom_0 : decode cX1_reachFrom 0 = .ok (.aload_n 0, 1) := by decide +kernel
theorem dX1_reachFrom_1 : decode cX1_reachFrom 1 = .ok (.getfield 9, 3) := by decide +kernel
theorem dX1_reachFrom_4 : decode cX1_reachFrom 4 = .ok (.getfield 100, 3) := by decide +kernel
theorem dX1_reachFrom_7 : decode cX1_reachFrom 7 = .ok (.iload_n 1, 1) := by decide +kernel
theorem dX1_reachFrom_8 : decode cX1_reachFrom 8 = .ok (.iconst 0, 1) := by decide +kernel
theorem dX1_reachFrom_9 : decode cX1_reachFrom 9 = .ok (.invokevirtual 103, 3) := by decide +kernel
theorem dX1_reachFrom_12 : decode cX1_reachFrom 12 = .ok (.istore_n 2, 1) := by decide +kernel
theorem dX1_reachFrom_13 : decode cX1_reachFrom 13 = .ok (.iconst 0, 1) := by decide +kernel
theorem dX1_reachFrom_14 : decode cX1_reachFrom 14 = .ok (.istore_n 3, 1) := by decide +kernel
theorem dX1_reachFrom_15 : decode cX1_reachFrom 15 = .ok (.iload_n 3, 1) := by decide +kernel
theorem dX1_reachFrom_16 : decode cX1_reachFrom 16 = .ok (.sipush 300, 3) := by decide +kernel
theorem dX1_reachFrom_19 : decode cX1_reachFrom 19 = .ok (.if_icmp .ge 68, 3) := by decide +kernel
theorem dX1_reachFrom_22 : decode cX1_reachFrom 22 = .ok (.iload_n 2, 1) := by decide +kernel
theorem dX1_reachFrom_23 : decode cX1_reachFrom 23 = .ok (.iconst (-1), 1) := by decide +kernel
theorem dX1_reachFrom_24 : decode cX1_reachFrom 24 = .ok (.if_icmp .eq 63, 3) := by decide +kernel
theorem dX1_reachFrom_27 : decode cX1_reachFrom 27 = .ok (.aload_n 0, 1) := by decide +kernel
theorem dX1_reachFrom_28 : decode cX1_reachFrom 28 = .ok (.getfield 32, 3) := by decide +kernel
theorem dX1_reachFrom_31 : decode cX1_reachFrom 31 = .ok (.iload_n 2, 1) := by decide +kernel
theorem dX1_reachFrom_32 : decode cX1_reachFrom 32 = .ok (.iaload, 1) := by decide +kernel
theorem dX1_reachFrom_33 : decode cX1_reachFrom 33 = .ok (.iconst (-1), 1) := by decide +kernel
theorem dX1_reachFrom_34 : decode cX1_reachFrom 34 = .ok (.if_icmp .ne 32, 3) := by decide +kernel
theorem dX1_reachFrom_37 : decode cX1_reachFrom 37 = .ok (.aload_n 0, 1) := by decide +kernel
theorem dX1_reachFrom_38 : decode cX1_reachFrom 38 = .ok (.getfield 32, 3) := by decide +kernel
theorem dX1_reachFrom_41 : decode cX1_reachFrom 41 = .ok (.iload_n 2, 1) := by decide +kernel
theorem dX1_reachFrom_42 : decode cX1_reachFrom 42 = .ok (.iload_n 1, 1) := by decide +kernel
theorem dX1_reachFrom_43 : decode cX1_reachFrom 43 = .ok (.iastore, 1) := by decide +kernel
theorem dX1_reachFrom_44 : decode cX1_reachFrom 44 = .ok (.aload_n 0, 1) := by decide +kernel
theorem dX1_reachFrom_45 : decode cX1_reachFrom 45 = .ok (.getfield 28, 3) := by decide +kernel
theorem dX1_reachFrom_48 : decode cX1_reachFrom 48 = .ok (.iload_n 2, 1) := by decide +kernel
theorem dX1_reachFrom_49 : decode cX1_reachFrom 49 = .ok (.iaload, 1) := by decide +kernel
theorem dX1_reachFrom_50 : decode cX1_reachFrom 50 = .ok (.iconst (-1), 1) := by decide +kernel
theorem dX1_reachFrom_51 : decode cX1_reachFrom 51 = .ok (.if_icmp .ne 5, 3) := by decide +kernel
theorem dX1_reachFrom_54 : decode cX1_reachFrom 54 = .ok (.iload_n 2, 1) := by decide +kernel
theorem dX1_reachFrom_55 : decode cX1_reachFrom 55 = .ok (.ireturn, 1) := by decide +kernel
theorem dX1_reachFrom_56 : decode cX1_reachFrom 56 = .ok (.aload_n 0, 1) := by decide +kernel
theorem dX1_reachFrom_57 : decode cX1_reachFrom 57 = .ok (.aload_n 0, 1) := by decide +kernel
theorem dX1_reachFrom_58 : decode cX1_reachFrom 58 = .ok (.getfield 28, 3) := by decide +kernel
theorem dX1_reachFrom_61 : decode cX1_reachFrom 61 = .ok (.iload_n 2, 1) := by decide +kernel
theorem dX1_reachFrom_62 : decode cX1_reachFrom 62 = .ok (.iaload, 1) := by decide +kernel
theorem dX1_reachFrom_63 : decode cX1_reachFrom 63 = .ok (.invokevirtual 124, 3) := by decide +kernel
theorem dX1_reachFrom_66 : decode cX1_reachFrom 66 = .ok (.aload_n 0, 1) := by decide +kernel
theorem dX1_reachFrom_67 : decode cX1_reachFrom 67 = .ok (.getfield 9, 3) := by decide +kernel
theorem dX1_reachFrom_70 : decode cX1_reachFrom 70 = .ok (.getfield 100, 3) := by decide +kernel
theorem dX1_reachFrom_73 : decode cX1_reachFrom 73 = .ok (.iload_n 1, 1) := by decide +kernel
theorem dX1_reachFrom_74 : decode cX1_reachFrom 74 = .ok (.iload_n 2, 1) := by decide +kernel
theorem dX1_reachFrom_75 : decode cX1_reachFrom 75 = .ok (.iconst 1, 1) := by decide +kernel
theorem dX1_reachFrom_76 : decode cX1_reachFrom 76 = .ok (.iadd, 1) := by decide +kernel
theorem dX1_reachFrom_77 : decode cX1_reachFrom 77 = .ok (.invokevirtual 103, 3) := by decide +kernel
theorem dX1_reachFrom_80 : decode cX1_reachFrom 80 = .ok (.istore_n 2, 1) := by decide +kernel
theorem dX1_reachFrom_81 : decode cX1_reachFrom 81 = .ok (.iinc 3 1, 3) := by decide +kernel
theorem dX1_reachFrom_84 : decode cX1_reachFrom 84 = .ok (.goto (-69), 3) := by decide +kernel
theorem dX1_reachFrom_87 : decode cX1_reachFrom 87 = .ok (.iconst (-1), 1) := by decide +kernel
theorem dX1_reachFrom_88 : decode cX1_reachFrom 88 = .ok (.ireturn, 1) := by decide +kernel
theorem dX1_putInQueue_0 : decode cX1_putInQueue 0 = .ok (.aload_n 0, 1) := by decide +kernel
theorem dX1_putInQueue_1 : decode cX1_putInQueue 1 = .ok (.getfield 38, 3) := by decide +kernel
theorem dX1_putInQueue_4 : decode cX1_putInQueue 4 = .ok (.iload_n 1, 1) := by decide +kernel
theorem dX1_putInQueue_5 : decode cX1_putInQueue 5 = .ok (.baload, 1) := by decide +kernel
theorem dX1_putInQueue_6 : decode cX1_putInQueue 6 = .ok (.ifCond .ne 40, 3) := by decide +kernel
theorem dX1_putInQueue_9 : decode cX1_putInQueue 9 = .ok (.aload_n 0, 1) := by decide +kernel
theorem dX1_putInQueue_10 : decode cX1_putInQueue 10 = .ok (.getfield 117, 3) := by decide +kernel
theorem dX1_putInQueue_13 : decode cX1_putInQueue 13 = .ok (.sipush 300, 3) := by decide +kernel
theorem dX1_putInQueue_16 : decode cX1_putInQueue 16 = .ok (.if_icmp .ge 30, 3) := by decide +kernel
theorem dX1_putInQueue_19 : decode cX1_putInQueue 19 = .ok (.aload_n 0, 1) := by decide +kernel
theorem dX1_putInQueue_20 : decode cX1_putInQueue 20 = .ok (.getfield 38, 3) := by decide +kernel
theorem dX1_putInQueue_23 : decode cX1_putInQueue 23 = .ok (.iload_n 1, 1) := by decide +kernel
theorem dX1_putInQueue_24 : decode cX1_putInQueue 24 = .ok (.iconst 1, 1) := by decide +kernel
theorem dX1_putInQueue_25 : decode cX1_putInQueue 25 = .ok (.bastore, 1) := by decide +kernel
theorem dX1_putInQueue_26 : decode cX1_putInQueue 26 = .ok (.aload_n 0, 1) := by decide +kernel
theorem dX1_putInQueue_27 : decode cX1_putInQueue 27 = .ok (.getfield 35, 3) := by decide +kernel
theorem dX1_putInQueue_30 : decode cX1_putInQueue 30 = .ok (.aload_n 0, 1) := by decide +kernel
theorem dX1_putInQueue_31 : decode cX1_putInQueue 31 = .ok (.getfield 117, 3) := by decide +kernel
theorem dX1_putInQueue_34 : decode cX1_putInQueue 34 = .ok (.iload_n 1, 1) := by decide +kernel
theorem dX1_putInQueue_35 : decode cX1_putInQueue 35 = .ok (.iastore, 1) := by decide +kernel
theorem dX1_putInQueue_36 : decode cX1_putInQueue 36 = .ok (.aload_n 0, 1) := by decide +kernel
theorem dX1_putInQueue_37 : decode cX1_putInQueue 37 = .ok (.dup, 1) := by decide +kernel
theorem dX1_putInQueue_38 : decode cX1_putInQueue 38 = .ok (.getfield 117, 3) := by decide +kernel
theorem dX1_putInQueue_41 : decode cX1_putInQueue 41 = .ok (.iconst 1, 1) := by decide +kernel
theorem dX1_putInQueue_42 : decode cX1_putInQueue 42 = .ok (.iadd, 1) := by decide +kernel
theorem dX1_putInQueue_43 : decode cX1_putInQueue 43 = .ok (.putfield 117, 3) := by decide +kernel
theorem dX1_putInQueue_46 : decode cX1_putInQueue 46 = .ok (.return_, 1) := by decide +kernel
theorem dX1_turnPairsUpTo_0 : decode cX1_turnPairsUpTo 0 = .ok (.iload_n 1, 1) := by decide +kernel
theorem dX1_turnPairsUpTo_1 : decode cX1_turnPairsUpTo 1 = .ok (.istore_n 2, 1) := by decide +kernel
theorem dX1_turnPairsUpTo_2 : decode cX1_turnPairsUpTo 2 = .ok (.iconst 0, 1) := by decide +kernel
theorem dX1_turnPairsUpTo_3 : decode cX1_turnPairsUpTo 3 = .ok (.istore_n 3, 1) := by decide +kernel
theorem dX1_turnPairsUpTo_4 : decode cX1_turnPairsUpTo 4 = .ok (.iload_n 3, 1) := by decide +kernel
theorem dX1_turnPairsUpTo_5 : decode cX1_turnPairsUpTo 5 = .ok (.sipush 300, 3) := by decide +kernel
theorem dX1_turnPairsUpTo_8 : decode cX1_turnPairsUpTo 8 = .ok (.if_icmp .ge 57, 3) := by decide +kernel
theorem dX1_turnPairsUpTo_11 : decode cX1_turnPairsUpTo 11 = .ok (.iload_n 2, 1) := by decide +kernel
theorem dX1_turnPairsUpTo_12 : decode cX1_turnPairsUpTo 12 = .ok (.iconst (-1), 1) := by decide +kernel
theorem dX1_turnPairsUpTo_13 : decode cX1_turnPairsUpTo 13 = .ok (.if_icmp .eq 52, 3) := by decide +kernel
theorem dX1_turnPairsUpTo_16 : decode cX1_turnPairsUpTo 16 = .ok (.aload_n 0, 1) := by decide +kernel
theorem dX1_turnPairsUpTo_17 : decode cX1_turnPairsUpTo 17 = .ok (.getfield 32, 3) := by decide +kernel
theorem dX1_turnPairsUpTo_20 : decode cX1_turnPairsUpTo 20 = .ok (.iload_n 2, 1) := by decide +kernel
theorem dX1_turnPairsUpTo_21 : decode cX1_turnPairsUpTo 21 = .ok (.iaload, 1) := by decide +kernel
theorem dX1_turnPairsUpTo_22 : decode cX1_turnPairsUpTo 22 = .ok (.istore 4, 2) := by decide +kernel
theorem dX1_turnPairsUpTo_24 : decode cX1_turnPairsUpTo 24 = .ok (.iload 4, 2) := by decide +kernel
theorem dX1_turnPairsUpTo_26 : decode cX1_turnPairsUpTo 26 = .ok (.iconst (-1), 1) := by decide +kernel
theorem dX1_turnPairsUpTo_27 : decode cX1_turnPairsUpTo 27 = .ok (.if_icmp .ne 4, 3) := by decide +kernel
theorem dX1_turnPairsUpTo_30 : decode cX1_turnPairsUpTo 30 = .ok (.return_, 1) := by decide +kernel
theorem dX1_turnPairsUpTo_31 : decode cX1_turnPairsUpTo 31 = .ok (.aload_n 0, 1) := by decide +kernel
theorem dX1_turnPairsUpTo_32 : decode cX1_turnPairsUpTo 32 = .ok (.getfield 28, 3) := by decide +kernel
theorem dX1_turnPairsUpTo_35 : decode cX1_turnPairsUpTo 35 = .ok (.iload 4, 2) := by decide +kernel
theorem dX1_turnPairsUpTo_37 : decode cX1_turnPairsUpTo 37 = .ok (.iaload, 1) := by decide +kernel
theorem dX1_turnPairsUpTo_38 : decode cX1_turnPairsUpTo 38 = .ok (.istore 5, 2) := by decide +kernel
theorem dX1_turnPairsUpTo_40 : decode cX1_turnPairsUpTo 40 = .ok (.aload_n 0, 1) := by decide +kernel
theorem dX1_turnPairsUpTo_41 : decode cX1_turnPairsUpTo 41 = .ok (.getfield 28, 3) := by decide +kernel
theorem dX1_turnPairsUpTo_44 : decode cX1_turnPairsUpTo 44 = .ok (.iload 4, 2) := by decide +kernel
theorem dX1_turnPairsUpTo_46 : decode cX1_turnPairsUpTo 46 = .ok (.iload_n 2, 1) := by decide +kernel
theorem dX1_turnPairsUpTo_47 : decode cX1_turnPairsUpTo 47 = .ok (.iastore, 1) := by decide +kernel
theorem dX1_turnPairsUpTo_48 : decode cX1_turnPairsUpTo 48 = .ok (.aload_n 0, 1) := by decide +kernel
theorem dX1_turnPairsUpTo_49 : decode cX1_turnPairsUpTo 49 = .ok (.getfield 28, 3) := by decide +kernel
theorem dX1_turnPairsUpTo_52 : decode cX1_turnPairsUpTo 52 = .ok (.iload_n 2, 1) := by decide +kernel
theorem dX1_turnPairsUpTo_53 : decode cX1_turnPairsUpTo 53 = .ok (.iload 4, 2) := by decide +kernel
theorem dX1_turnPairsUpTo_55 : decode cX1_turnPairsUpTo 55 = .ok (.iastore, 1) := by decide +kernel
theorem dX1_turnPairsUpTo_56 : decode cX1_turnPairsUpTo 56 = .ok (.iload 5, 2) := by decide +kernel
theorem dX1_turnPairsUpTo_58 : decode cX1_turnPairsUpTo 58 = .ok (.istore_n 2, 1) := by decide +kernel
theorem dX1_turnPairsUpTo_59 : decode cX1_turnPairsUpTo 59 = .ok (.iinc 3 1, 3) := by decide +kernel
theorem dX1_turnPairsUpTo_62 : decode cX1_turnPairsUpTo 62 = .ok (.goto (-58), 3) := by decide +kernel
theorem dX1_turnPairsUpTo_65 : decode cX1_turnPairsUpTo 65 = .ok (.return_, 1) := by decide +kernel
theorem dX1_markOpened_0 : decode cX1_markOpened 0 = .ok (.iconst 0, 1) := by decide +kernel
theorem dX1_markOpened_1 : decode cX1_markOpened 1 = .ok (.istore_n 1, 1) := by decide +kernel
theorem dX1_markOpened_2 : decode cX1_markOpened 2 = .ok (.iload_n 1, 1) := by decide +kernel
theorem dX1_markOpened_3 : decode cX1_markOpened 3 = .ok (.aload_n 0, 1) := by decide +kernel
theorem dX1_markOpened_4 : decode cX1_markOpened 4 = .ok (.getfield 9, 3) := by decide +kernel
theorem dX1_markOpened_7 : decode cX1_markOpened 7 = .ok (.getfield 91, 3) := by decide +kernel
theorem dX1_markOpened_10 : decode cX1_markOpened 10 = .ok (.if_icmp .ge 47, 3) := by decide +kernel
theorem dX1_markOpened_13 : decode cX1_markOpened 13 = .ok (.aload_n 0, 1) := by decide +kernel
theorem dX1_markOpened_14 : decode cX1_markOpened 14 = .ok (.getfield 9, 3) := by decide +kernel
theorem dX1_markOpened_17 : decode cX1_markOpened 17 = .ok (.iload_n 1, 1) := by decide +kernel
theorem dX1_markOpened_18 : decode cX1_markOpened 18 = .ok (.invokevirtual 127, 3) := by decide +kernel
theorem dX1_markOpened_21 : decode cX1_markOpened 21 = .ok (.ifCond .eq 30, 3) := by decide +kernel
theorem dX1_markOpened_24 : decode cX1_markOpened 24 = .ok (.aload_n 0, 1) := by decide +kernel
theorem dX1_markOpened_25 : decode cX1_markOpened 25 = .ok (.iload_n 1, 1) := by decide +kernel
theorem dX1_markOpened_26 : decode cX1_markOpened 26 = .ok (.invokevirtual 131, 3) := by decide +kernel
theorem dX1_markOpened_29 : decode cX1_markOpened 29 = .ok (.ifCond .eq 22, 3) := by decide +kernel
theorem dX1_markOpened_32 : decode cX1_markOpened 32 = .ok (.aload_n 0, 1) := by decide +kernel
theorem dX1_markOpened_33 : decode cX1_markOpened 33 = .ok (.getfield 24, 3) := by decide +kernel
theorem dX1_markOpened_36 : decode cX1_markOpened 36 = .ok (.iconst 0, 1) := by decide +kernel
theorem dX1_markOpened_37 : decode cX1_markOpened 37 = .ok (.iload_n 1, 1) := by decide +kernel
theorem dX1_markOpened_38 : decode cX1_markOpened 38 = .ok (.invokevirtual 134, 3) := by decide +kernel
theorem dX1_markOpened_41 : decode cX1_markOpened 41 = .ok (.aload_n 0, 1) := by decide +kernel
theorem dX1_markOpened_42 : decode cX1_markOpened 42 = .ok (.dup, 1) := by decide +kernel
theorem dX1_markOpened_43 : decode cX1_markOpened 43 = .ok (.getfield 59, 3) := by decide +kernel
theorem dX1_markOpened_46 : decode cX1_markOpened 46 = .ok (.iconst 1, 1) := by decide +kernel
theorem dX1_markOpened_47 : decode cX1_markOpened 47 = .ok (.iadd, 1) := by decide +kernel
theorem dX1_markOpened_48 : decode cX1_markOpened 48 = .ok (.putfield 59, 3) := by decide +kernel
theorem dX1_markOpened_51 : decode cX1_markOpened 51 = .ok (.iinc 1 1, 3) := by decide +kernel
theorem dX1_markOpened_54 : decode cX1_markOpened 54 = .ok (.goto (-52), 3) := by decide +kernel
theorem dX1_markOpened_57 : decode cX1_markOpened 57 = .ok (.return_, 1) := by decide +kernel
theorem dX1_needsOpening_0 : decode cX1_needsOpening 0 = .ok (.aload_n 0, 1) := by decide +kernel
theorem dX1_needsOpening_1 : decode cX1_needsOpening 1 = .ok (.getfield 15, 3) := by decide +kernel
theorem dX1_needsOpening_4 : decode cX1_needsOpening 4 = .ok (.getfield 94, 3) := by decide +kernel
theorem dX1_needsOpening_7 : decode cX1_needsOpening 7 = .ok (.iload_n 1, 1) := by decide +kernel
theorem dX1_needsOpening_8 : decode cX1_needsOpening 8 = .ok (.baload, 1) := by decide +kernel
theorem dX1_needsOpening_9 : decode cX1_needsOpening 9 = .ok (.ifCond .eq 29, 3) := by decide +kernel
theorem dX1_needsOpening_12 : decode cX1_needsOpening 12 = .ok (.aload_n 0, 1) := by decide +kernel
theorem dX1_needsOpening_13 : decode cX1_needsOpening 13 = .ok (.getfield 38, 3) := by decide +kernel
theorem dX1_needsOpening_16 : decode cX1_needsOpening 16 = .ok (.iload_n 1, 1) := by decide +kernel
theorem dX1_needsOpening_17 : decode cX1_needsOpening 17 = .ok (.baload, 1) := by decide +kernel
theorem dX1_needsOpening_18 : decode cX1_needsOpening 18 = .ok (.ifCond .ne 18, 3) := by decide +kernel
theorem dX1_needsOpening_21 : decode cX1_needsOpening 21 = .ok (.aload_n 0, 1) := by decide +kernel
theorem dX1_needsOpening_22 : decode cX1_needsOpening 22 = .ok (.getfield 9, 3) := by decide +kernel
theorem dX1_needsOpening_25 : decode cX1_needsOpening 25 = .ok (.iload_n 1, 1) := by decide +kernel
theorem dX1_needsOpening_26 : decode cX1_needsOpening 26 = .ok (.invokevirtual 138, 3) := by decide +kernel
theorem dX1_needsOpening_29 : decode cX1_needsOpening 29 = .ok (.ifCond .le 7, 3) := by decide +kernel
theorem dX1_needsOpening_32 : decode cX1_needsOpening 32 = .ok (.iconst 1, 1) := by decide +kernel
theorem dX1_needsOpening_33 : decode cX1_needsOpening 33 = .ok (.goto 4, 3) := by decide +kernel
theorem dX1_needsOpening_36 : decode cX1_needsOpening 36 = .ok (.iconst 0, 1) := by decide +kernel
theorem dX1_needsOpening_37 : decode cX1_needsOpening 37 = .ok (.ireturn, 1) := by decide +kernel
theorem dX1_needsOpening_38 : decode cX1_needsOpening 38 = .ok (.aload_n 0, 1) := by decide +kernel
theorem dX1_needsOpening_39 : decode cX1_needsOpening 39 = .ok (.getfield 32, 3) := by decide +kernel
theorem dX1_needsOpening_42 : decode cX1_needsOpening 42 = .ok (.iload_n 1, 1) := by decide +kernel
theorem dX1_needsOpening_43 : decode cX1_needsOpening 43 = .ok (.iaload, 1) := by decide +kernel
theorem dX1_needsOpening_44 : decode cX1_needsOpening 44 = .ok (.iconst (-1), 1) := by decide +kernel
theorem dX1_needsOpening_45 : decode cX1_needsOpening 45 = .ok (.if_icmp .eq 7, 3) := by decide +kernel
theorem dX1_needsOpening_48 : decode cX1_needsOpening 48 = .ok (.iconst 1, 1) := by decide +kernel
theorem dX1_needsOpening_49 : decode cX1_needsOpening 49 = .ok (.goto 4, 3) := by decide +kernel
theorem dX1_needsOpening_52 : decode cX1_needsOpening 52 = .ok (.iconst 0, 1) := by decide +kernel
theorem dX1_needsOpening_53 : decode cX1_needsOpening 53 = .ok (.ireturn, 1) := by decide +kernel
theorem dX1_putInOrder_0 : decode cX1_putInOrder 0 = .ok (.aload_n 0, 1) := by decide +kernel
theorem dX1_putInOrder_1 : decode cX1_putInOrder 1 = .ok (.getfield 24, 3) := by decide +kernel
theorem dX1_putInOrder_4 : decode cX1_putInOrder 4 = .ok (.iconst 1, 1) := by decide +kernel
theorem dX1_putInOrder_5 : decode cX1_putInOrder 5 = .ok (.aload_n 0, 1) := by decide +kernel
theorem dX1_putInOrder_6 : decode cX1_putInOrder 6 = .ok (.getfield 24, 3) := by decide +kernel
theorem dX1_putInOrder_9 : decode cX1_putInOrder 9 = .ok (.iconst 0, 1) := by decide +kernel
theorem dX1_putInOrder_10 : decode cX1_putInOrder 10 = .ok (.invokevirtual 141, 3) := by decide +kernel
theorem dX1_putInOrder_13 : decode cX1_putInOrder 13 = .ok (.iconst 0, 1) := by decide +kernel
theorem dX1_putInOrder_14 : decode cX1_putInOrder 14 = .ok (.istore_n 1, 1) := by decide +kernel
theorem dX1_putInOrder_15 : decode cX1_putInOrder 15 = .ok (.iload_n 1, 1) := by decide +kernel
theorem dX1_putInOrder_16 : decode cX1_putInOrder 16 = .ok (.aload_n 0, 1) := by decide +kernel
theorem dX1_putInOrder_17 : decode cX1_putInOrder 17 = .ok (.getfield 59, 3) := by decide +kernel
theorem dX1_putInOrder_20 : decode cX1_putInOrder 20 = .ok (.if_icmp .ge 46, 3) := by decide +kernel
theorem dX1_putInOrder_23 : decode cX1_putInOrder 23 = .ok (.aload_n 0, 1) := by decide +kernel
theorem dX1_putInOrder_24 : decode cX1_putInOrder 24 = .ok (.invokevirtual 145, 3) := by decide +kernel
theorem dX1_putInOrder_27 : decode cX1_putInOrder 27 = .ok (.istore_n 2, 1) := by decide +kernel
theorem dX1_putInOrder_28 : decode cX1_putInOrder 28 = .ok (.aload_n 0, 1) := by decide +kernel
theorem dX1_putInOrder_29 : decode cX1_putInOrder 29 = .ok (.getfield 42, 3) := by decide +kernel
theorem dX1_putInOrder_32 : decode cX1_putInOrder 32 = .ok (.iload_n 1, 1) := by decide +kernel
theorem dX1_putInOrder_33 : decode cX1_putInOrder 33 = .ok (.iload_n 2, 1) := by decide +kernel
theorem dX1_putInOrder_34 : decode cX1_putInOrder 34 = .ok (.iastore, 1) := by decide +kernel
theorem dX1_putInOrder_35 : decode cX1_putInOrder 35 = .ok (.iload_n 2, 1) := by decide +kernel
theorem dX1_putInOrder_36 : decode cX1_putInOrder 36 = .ok (.iconst (-1), 1) := by decide +kernel
theorem dX1_putInOrder_37 : decode cX1_putInOrder 37 = .ok (.if_icmp .ne 4, 3) := by decide +kernel
theorem dX1_putInOrder_40 : decode cX1_putInOrder 40 = .ok (.return_, 1) := by decide +kernel
theorem dX1_putInOrder_41 : decode cX1_putInOrder 41 = .ok (.aload_n 0, 1) := by decide +kernel
theorem dX1_putInOrder_42 : decode cX1_putInOrder 42 = .ok (.getfield 24, 3) := by decide +kernel
theorem dX1_putInOrder_45 : decode cX1_putInOrder 45 = .ok (.iconst 1, 1) := by decide +kernel
theorem dX1_putInOrder_46 : decode cX1_putInOrder 46 = .ok (.iload_n 2, 1) := by decide +kernel
theorem dX1_putInOrder_47 : decode cX1_putInOrder 47 = .ok (.invokevirtual 148, 3) := by decide +kernel
theorem dX1_putInOrder_50 : decode cX1_putInOrder 50 = .ok (.aload_n 0, 1) := by decide +kernel
theorem dX1_putInOrder_51 : decode cX1_putInOrder 51 = .ok (.iload_n 2, 1) := by decide +kernel
theorem dX1_putInOrder_52 : decode cX1_putInOrder 52 = .ok (.invokevirtual 151, 3) := by decide +kernel
theorem dX1_putInOrder_55 : decode cX1_putInOrder 55 = .ok (.aload_n 0, 1) := by decide +kernel
theorem dX1_putInOrder_56 : decode cX1_putInOrder 56 = .ok (.iload_n 2, 1) := by decide +kernel
theorem dX1_putInOrder_57 : decode cX1_putInOrder 57 = .ok (.invokevirtual 154, 3) := by decide +kernel
