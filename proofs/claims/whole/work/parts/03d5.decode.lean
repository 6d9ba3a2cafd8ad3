theorem dX9_nextOpened_0 : decode cX9_nextOpened 0 = .ok (.iconst (-1), 1) := by decide +kernel
theorem dX9_nextOpened_1 : decode cX9_nextOpened 1 = .ok (.istore_n 1, 1) := by decide +kernel
theorem dX9_nextOpened_2 : decode cX9_nextOpened 2 = .ok (.iconst 0, 1) := by decide +kernel
theorem dX9_nextOpened_3 : decode cX9_nextOpened 3 = .ok (.istore_n 2, 1) := by decide +kernel
theorem dX9_nextOpened_4 : decode cX9_nextOpened 4 = .ok (.iload_n 2, 1) := by decide +kernel
theorem dX9_nextOpened_5 : decode cX9_nextOpened 5 = .ok (.aload_n 0, 1) := by decide +kernel
theorem dX9_nextOpened_6 : decode cX9_nextOpened 6 = .ok (.getfield 201, 3) := by decide +kernel
theorem dX9_nextOpened_9 : decode cX9_nextOpened 9 = .ok (.if_icmp .ge 47, 3) := by decide +kernel
theorem dX9_nextOpened_12 : decode cX9_nextOpened 12 = .ok (.aload_n 0, 1) := by decide +kernel
theorem dX9_nextOpened_13 : decode cX9_nextOpened 13 = .ok (.getfield 101, 3) := by decide +kernel
theorem dX9_nextOpened_16 : decode cX9_nextOpened 16 = .ok (.iload_n 2, 1) := by decide +kernel
theorem dX9_nextOpened_17 : decode cX9_nextOpened 17 = .ok (.baload, 1) := by decide +kernel
theorem dX9_nextOpened_18 : decode cX9_nextOpened 18 = .ok (.ifCond .eq 32, 3) := by decide +kernel
theorem dX9_nextOpened_21 : decode cX9_nextOpened 21 = .ok (.aload_n 0, 1) := by decide +kernel
theorem dX9_nextOpened_22 : decode cX9_nextOpened 22 = .ok (.getfield 107, 3) := by decide +kernel
theorem dX9_nextOpened_25 : decode cX9_nextOpened 25 = .ok (.iload_n 2, 1) := by decide +kernel
theorem dX9_nextOpened_26 : decode cX9_nextOpened 26 = .ok (.baload, 1) := by decide +kernel
theorem dX9_nextOpened_27 : decode cX9_nextOpened 27 = .ok (.ifCond .ne 23, 3) := by decide +kernel
theorem dX9_nextOpened_30 : decode cX9_nextOpened 30 = .ok (.aload_n 0, 1) := by decide +kernel
theorem dX9_nextOpened_31 : decode cX9_nextOpened 31 = .ok (.iload_n 2, 1) := by decide +kernel
theorem dX9_nextOpened_32 : decode cX9_nextOpened 32 = .ok (.invokevirtual 254, 3) := by decide +kernel
theorem dX9_nextOpened_35 : decode cX9_nextOpened 35 = .ok (.ifCond .eq 5, 3) := by decide +kernel
theorem dX9_nextOpened_38 : decode cX9_nextOpened 38 = .ok (.iload_n 2, 1) := by decide +kernel
theorem dX9_nextOpened_39 : decode cX9_nextOpened 39 = .ok (.ireturn, 1) := by decide +kernel
theorem dX9_nextOpened_40 : decode cX9_nextOpened 40 = .ok (.iload_n 1, 1) := by decide +kernel
theorem dX9_nextOpened_41 : decode cX9_nextOpened 41 = .ok (.ifCond .ge 7, 3) := by decide +kernel
theorem dX9_nextOpened_44 : decode cX9_nextOpened 44 = .ok (.iload_n 2, 1) := by decide +kernel
theorem dX9_nextOpened_45 : decode cX9_nextOpened 45 = .ok (.goto 4, 3) := by decide +kernel
theorem dX9_nextOpened_48 : decode cX9_nextOpened 48 = .ok (.iload_n 1, 1) := by decide +kernel
theorem dX9_nextOpened_49 : decode cX9_nextOpened 49 = .ok (.istore_n 1, 1) := by decide +kernel
theorem dX9_nextOpened_50 : decode cX9_nextOpened 50 = .ok (.iinc 2 1, 3) := by decide +kernel
theorem dX9_nextOpened_53 : decode cX9_nextOpened 53 = .ok (.goto (-49), 3) := by decide +kernel
theorem dX9_nextOpened_56 : decode cX9_nextOpened 56 = .ok (.iload_n 1, 1) := by decide +kernel
theorem dX9_nextOpened_57 : decode cX9_nextOpened 57 = .ok (.ireturn, 1) := by decide +kernel
theorem dX9_order_0 : decode cX9_order 0 = .ok (.aload_n 0, 1) := by decide +kernel
theorem dX9_order_1 : decode cX9_order 1 = .ok (.iconst 0, 1) := by decide +kernel
theorem dX9_order_2 : decode cX9_order 2 = .ok (.putfield 1, 3) := by decide +kernel
theorem dX9_order_5 : decode cX9_order 5 = .ok (.iload_n 1, 1) := by decide +kernel
theorem dX9_order_6 : decode cX9_order 6 = .ok (.ifCond .lt 10, 3) := by decide +kernel
theorem dX9_order_9 : decode cX9_order 9 = .ok (.aload_n 0, 1) := by decide +kernel
theorem dX9_order_10 : decode cX9_order 10 = .ok (.invokevirtual 251, 3) := by decide +kernel
theorem dX9_order_13 : decode cX9_order 13 = .ok (.ifCond .ge 5, 3) := by decide +kernel
theorem dX9_order_16 : decode cX9_order 16 = .ok (.iconst (-1), 1) := by decide +kernel
theorem dX9_order_17 : decode cX9_order 17 = .ok (.ireturn, 1) := by decide +kernel
theorem dX9_order_18 : decode cX9_order 18 = .ok (.iconst 0, 1) := by decide +kernel
theorem dX9_order_19 : decode cX9_order 19 = .ok (.istore_n 2, 1) := by decide +kernel
theorem dX9_order_20 : decode cX9_order 20 = .ok (.iload_n 2, 1) := by decide +kernel
theorem dX9_order_21 : decode cX9_order 21 = .ok (.aload_n 0, 1) := by decide +kernel
theorem dX9_order_22 : decode cX9_order 22 = .ok (.getfield 201, 3) := by decide +kernel
theorem dX9_order_25 : decode cX9_order 25 = .ok (.if_icmp .ge 23, 3) := by decide +kernel
theorem dX9_order_28 : decode cX9_order 28 = .ok (.aload_n 0, 1) := by decide +kernel
theorem dX9_order_29 : decode cX9_order 29 = .ok (.getfield 104, 3) := by decide +kernel
theorem dX9_order_32 : decode cX9_order 32 = .ok (.iload_n 2, 1) := by decide +kernel
theorem dX9_order_33 : decode cX9_order 33 = .ok (.iconst 0, 1) := by decide +kernel
theorem dX9_order_34 : decode cX9_order 34 = .ok (.bastore, 1) := by decide +kernel
theorem dX9_order_35 : decode cX9_order 35 = .ok (.aload_n 0, 1) := by decide +kernel
theorem dX9_order_36 : decode cX9_order 36 = .ok (.getfield 107, 3) := by decide +kernel
theorem dX9_order_39 : decode cX9_order 39 = .ok (.iload_n 2, 1) := by decide +kernel
theorem dX9_order_40 : decode cX9_order 40 = .ok (.iconst 0, 1) := by decide +kernel
theorem dX9_order_41 : decode cX9_order 41 = .ok (.bastore, 1) := by decide +kernel
theorem dX9_order_42 : decode cX9_order 42 = .ok (.iinc 2 1, 3) := by decide +kernel
theorem dX9_order_45 : decode cX9_order 45 = .ok (.goto (-25), 3) := by decide +kernel
theorem dX9_order_48 : decode cX9_order 48 = .ok (.aload_n 0, 1) := by decide +kernel
theorem dX9_order_49 : decode cX9_order 49 = .ok (.invokevirtual 257, 3) := by decide +kernel
theorem dX9_order_52 : decode cX9_order 52 = .ok (.istore_n 2, 1) := by decide +kernel
theorem dX9_order_53 : decode cX9_order 53 = .ok (.iconst 0, 1) := by decide +kernel
theorem dX9_order_54 : decode cX9_order 54 = .ok (.istore_n 3, 1) := by decide +kernel
theorem dX9_order_55 : decode cX9_order 55 = .ok (.iload_n 3, 1) := by decide +kernel
theorem dX9_order_56 : decode cX9_order 56 = .ok (.iload_n 1, 1) := by decide +kernel
theorem dX9_order_57 : decode cX9_order 57 = .ok (.if_icmp .ge 82, 3) := by decide +kernel
theorem dX9_order_60 : decode cX9_order 60 = .ok (.iload_n 2, 1) := by decide +kernel
theorem dX9_order_61 : decode cX9_order 61 = .ok (.ifCond .lt 78, 3) := by decide +kernel
theorem dX9_order_64 : decode cX9_order 64 = .ok (.aload_n 0, 1) := by decide +kernel
theorem dX9_order_65 : decode cX9_order 65 = .ok (.getfield 107, 3) := by decide +kernel
theorem dX9_order_68 : decode cX9_order 68 = .ok (.iload_n 2, 1) := by decide +kernel
theorem dX9_order_69 : decode cX9_order 69 = .ok (.iconst 1, 1) := by decide +kernel
theorem dX9_order_70 : decode cX9_order 70 = .ok (.bastore, 1) := by decide +kernel
theorem dX9_order_71 : decode cX9_order 71 = .ok (.aload_n 0, 1) := by decide +kernel
theorem dX9_order_72 : decode cX9_order 72 = .ok (.getfield 104, 3) := by decide +kernel
theorem dX9_order_75 : decode cX9_order 75 = .ok (.iload_n 2, 1) := by decide +kernel
theorem dX9_order_76 : decode cX9_order 76 = .ok (.iconst 1, 1) := by decide +kernel
theorem dX9_order_77 : decode cX9_order 77 = .ok (.bastore, 1) := by decide +kernel
theorem dX9_order_78 : decode cX9_order 78 = .ok (.iconst 0, 1) := by decide +kernel
theorem dX9_order_79 : decode cX9_order 79 = .ok (.istore 4, 2) := by decide +kernel
theorem dX9_order_81 : decode cX9_order 81 = .ok (.iload 4, 2) := by decide +kernel
theorem dX9_order_83 : decode cX9_order 83 = .ok (.aload_n 0, 1) := by decide +kernel
theorem dX9_order_84 : decode cX9_order 84 = .ok (.getfield 201, 3) := by decide +kernel
theorem dX9_order_87 : decode cX9_order 87 = .ok (.if_icmp .ge 41, 3) := by decide +kernel
theorem dX9_order_90 : decode cX9_order 90 = .ok (.aload_n 0, 1) := by decide +kernel
theorem dX9_order_91 : decode cX9_order 91 = .ok (.getfield 104, 3) := by decide +kernel
theorem dX9_order_94 : decode cX9_order 94 = .ok (.iload 4, 2) := by decide +kernel
theorem dX9_order_96 : decode cX9_order 96 = .ok (.aload_n 0, 1) := by decide +kernel
theorem dX9_order_97 : decode cX9_order 97 = .ok (.getfield 104, 3) := by decide +kernel
theorem dX9_order_100 : decode cX9_order 100 = .ok (.iload 4, 2) := by decide +kernel
theorem dX9_order_102 : decode cX9_order 102 = .ok (.baload, 1) := by decide +kernel
theorem dX9_order_103 : decode cX9_order 103 = .ok (.ifCond .ne 13, 3) := by decide +kernel
theorem dX9_order_106 : decode cX9_order 106 = .ok (.aload_n 0, 1) := by decide +kernel
theorem dX9_order_107 : decode cX9_order 107 = .ok (.iload_n 2, 1) := by decide +kernel
theorem dX9_order_108 : decode cX9_order 108 = .ok (.iload 4, 2) := by decide +kernel
theorem dX9_order_110 : decode cX9_order 110 = .ok (.invokevirtual 229, 3) := by decide +kernel
theorem dX9_order_113 : decode cX9_order 113 = .ok (.ifCond .eq 7, 3) := by decide +kernel
theorem dX9_order_116 : decode cX9_order 116 = .ok (.iconst 1, 1) := by decide +kernel
theorem dX9_order_117 : decode cX9_order 117 = .ok (.goto 4, 3) := by decide +kernel
theorem dX9_order_120 : decode cX9_order 120 = .ok (.iconst 0, 1) := by decide +kernel
theorem dX9_order_121 : decode cX9_order 121 = .ok (.bastore, 1) := by decide +kernel
theorem dX9_order_122 : decode cX9_order 122 = .ok (.iinc 4 1, 3) := by decide +kernel
theorem dX9_order_125 : decode cX9_order 125 = .ok (.goto (-44), 3) := by decide +kernel
theorem dX9_order_128 : decode cX9_order 128 = .ok (.aload_n 0, 1) := by decide +kernel
theorem dX9_order_129 : decode cX9_order 129 = .ok (.invokevirtual 257, 3) := by decide +kernel
theorem dX9_order_132 : decode cX9_order 132 = .ok (.istore_n 2, 1) := by decide +kernel
theorem dX9_order_133 : decode cX9_order 133 = .ok (.iinc 3 1, 3) := by decide +kernel
theorem dX9_order_136 : decode cX9_order 136 = .ok (.goto (-81), 3) := by decide +kernel
theorem dX9_order_139 : decode cX9_order 139 = .ok (.iload_n 2, 1) := by decide +kernel
theorem dX9_order_140 : decode cX9_order 140 = .ok (.ireturn, 1) := by decide +kernel
theorem dX9_sizes_0 : decode cX9_sizes 0 = .ok (.aload_n 0, 1) := by decide +kernel
theorem dX9_sizes_1 : decode cX9_sizes 1 = .ok (.iconst 0, 1) := by decide +kernel
theorem dX9_sizes_2 : decode cX9_sizes 2 = .ok (.putfield 1, 3) := by decide +kernel
theorem dX9_sizes_5 : decode cX9_sizes 5 = .ok (.iload_n 1, 1) := by decide +kernel
theorem dX9_sizes_6 : decode cX9_sizes 6 = .ok (.iconst 1, 1) := by decide +kernel
theorem dX9_sizes_7 : decode cX9_sizes 7 = .ok (.if_icmp .lt 33, 3) := by decide +kernel
theorem dX9_sizes_10 : decode cX9_sizes 10 = .ok (.iload_n 1, 1) := by decide +kernel
theorem dX9_sizes_11 : decode cX9_sizes 11 = .ok (.sipush 999, 3) := by decide +kernel
theorem dX9_sizes_14 : decode cX9_sizes 14 = .ok (.if_icmp .gt 26, 3) := by decide +kernel
theorem dX9_sizes_17 : decode cX9_sizes 17 = .ok (.iload_n 2, 1) := by decide +kernel
theorem dX9_sizes_18 : decode cX9_sizes 18 = .ok (.iconst 1, 1) := by decide +kernel
theorem dX9_sizes_19 : decode cX9_sizes 19 = .ok (.if_icmp .lt 21, 3) := by decide +kernel
theorem dX9_sizes_22 : decode cX9_sizes 22 = .ok (.iload_n 2, 1) := by decide +kernel
theorem dX9_sizes_23 : decode cX9_sizes 23 = .ok (.sipush 9999, 3) := by decide +kernel
theorem dX9_sizes_26 : decode cX9_sizes 26 = .ok (.if_icmp .gt 14, 3) := by decide +kernel
theorem dX9_sizes_29 : decode cX9_sizes 29 = .ok (.iload_n 3, 1) := by decide +kernel
theorem dX9_sizes_30 : decode cX9_sizes 30 = .ok (.iconst 1, 1) := by decide +kernel
theorem dX9_sizes_31 : decode cX9_sizes 31 = .ok (.if_icmp .lt 9, 3) := by decide +kernel
theorem dX9_sizes_34 : decode cX9_sizes 34 = .ok (.iload_n 3, 1) := by decide +kernel
theorem dX9_sizes_35 : decode cX9_sizes 35 = .ok (.bipush 99, 2) := by decide +kernel
theorem dX9_sizes_37 : decode cX9_sizes 37 = .ok (.if_icmp .le 5, 3) := by decide +kernel
theorem dX9_sizes_40 : decode cX9_sizes 40 = .ok (.iconst 0, 1) := by decide +kernel
theorem dX9_sizes_41 : decode cX9_sizes 41 = .ok (.ireturn, 1) := by decide +kernel
theorem dX9_sizes_42 : decode cX9_sizes 42 = .ok (.aload_n 0, 1) := by decide +kernel
theorem dX9_sizes_43 : decode cX9_sizes 43 = .ok (.iload_n 1, 1) := by decide +kernel
theorem dX9_sizes_44 : decode cX9_sizes 44 = .ok (.putfield 110, 3) := by decide +kernel
theorem dX9_sizes_47 : decode cX9_sizes 47 = .ok (.aload_n 0, 1) := by decide +kernel
theorem dX9_sizes_48 : decode cX9_sizes 48 = .ok (.iload_n 2, 1) := by decide +kernel
theorem dX9_sizes_49 : decode cX9_sizes 49 = .ok (.putfield 113, 3) := by decide +kernel
theorem dX9_sizes_52 : decode cX9_sizes 52 = .ok (.aload_n 0, 1) := by decide +kernel
theorem dX9_sizes_53 : decode cX9_sizes 53 = .ok (.iload_n 3, 1) := by decide +kernel
theorem dX9_sizes_54 : decode cX9_sizes 54 = .ok (.putfield 116, 3) := by decide +kernel
theorem dX9_sizes_57 : decode cX9_sizes 57 = .ok (.iconst 1, 1) := by decide +kernel
theorem dX9_sizes_58 : decode cX9_sizes 58 = .ok (.ireturn, 1) := by decide +kernel
theorem dX9_times_0 : decode cX9_times 0 = .ok (.iload_n 0, 1) := by decide +kernel
theorem dX9_times_1 : decode cX9_times 1 = .ok (.tableswitch 73 0 7 #[47, 49, 53, 57, 61, 65, 69, 69], 47) := by decide +kernel
theorem dX9_times_48 : decode cX9_times 48 = .ok (.iconst 0, 1) := by decide +kernel
theorem dX9_times_49 : decode cX9_times 49 = .ok (.ireturn, 1) := by decide +kernel
theorem dX9_times_50 : decode cX9_times 50 = .ok (.sipush 1000, 3) := by decide +kernel
theorem dX9_times_53 : decode cX9_times 53 = .ok (.ireturn, 1) := by decide +kernel
theorem dX9_times_54 : decode cX9_times 54 = .ok (.sipush 2000, 3) := by decide +kernel
theorem dX9_times_57 : decode cX9_times 57 = .ok (.ireturn, 1) := by decide +kernel
theorem dX9_times_58 : decode cX9_times 58 = .ok (.sipush 2155, 3) := by decide +kernel
theorem dX9_times_61 : decode cX9_times 61 = .ok (.ireturn, 1) := by decide +kernel
theorem dX9_times_62 : decode cX9_times 62 = .ok (.sipush 2414, 3) := by decide +kernel
theorem dX9_times_65 : decode cX9_times 65 = .ok (.ireturn, 1) := by decide +kernel
theorem dX9_times_66 : decode cX9_times 66 = .ok (.sipush 2701, 3) := by decide +kernel
theorem dX9_times_69 : decode cX9_times 69 = .ok (.ireturn, 1) := by decide +kernel
theorem dX9_times_70 : decode cX9_times 70 = .ok (.sipush 3000, 3) := by decide +kernel
theorem dX9_times_73 : decode cX9_times 73 = .ok (.ireturn, 1) := by decide +kernel
theorem dX9_times_74 : decode cX9_times 74 = .ok (.sipush 3304, 3) := by decide +kernel
theorem dX9_times_77 : decode cX9_times 77 = .ok (.sipush 400, 3) := by decide +kernel
theorem dX9_times_80 : decode cX9_times 80 = .ok (.iload_n 0, 1) := by decide +kernel
theorem dX9_times_81 : decode cX9_times 81 = .ok (.bipush 8, 2) := by decide +kernel
theorem dX9_times_83 : decode cX9_times 83 = .ok (.isub, 1) := by decide +kernel
theorem dX9_times_84 : decode cX9_times 84 = .ok (.imul, 1) := by decide +kernel
theorem dX9_times_85 : decode cX9_times 85 = .ok (.iadd, 1) := by decide +kernel
theorem dX9_times_86 : decode cX9_times 86 = .ok (.ireturn, 1) := by decide +kernel
theorem dX9_binds_0 : decode cX9_binds 0 = .ok (.sipush 1000, 3) := by decide +kernel
theorem dX9_binds_3 : decode cX9_binds 3 = .ok (.aload_n 0, 1) := by decide +kernel
theorem dX9_binds_4 : decode cX9_binds 4 = .ok (.getfield 113, 3) := by decide +kernel
theorem dX9_binds_7 : decode cX9_binds 7 = .ok (.imul, 1) := by decide +kernel
theorem dX9_binds_8 : decode cX9_binds 8 = .ok (.aload_n 0, 1) := by decide +kernel
theorem dX9_binds_9 : decode cX9_binds 9 = .ok (.getfield 110, 3) := by decide +kernel
theorem dX9_binds_12 : decode cX9_binds 12 = .ok (.aload_n 0, 1) := by decide +kernel
theorem dX9_binds_13 : decode cX9_binds 13 = .ok (.iload_n 1, 1) := by decide +kernel
theorem dX9_binds_14 : decode cX9_binds 14 = .ok (.invokevirtual 226, 3) := by decide +kernel
theorem dX9_binds_17 : decode cX9_binds 17 = .ok (.invokestatic 260, 3) := by decide +kernel
theorem dX9_binds_20 : decode cX9_binds 20 = .ok (.imul, 1) := by decide +kernel
theorem dX9_binds_21 : decode cX9_binds 21 = .ok (.if_icmp .ge 7, 3) := by decide +kernel
theorem dX9_binds_24 : decode cX9_binds 24 = .ok (.iconst 1, 1) := by decide +kernel
theorem dX9_binds_25 : decode cX9_binds 25 = .ok (.goto 4, 3) := by decide +kernel
theorem dX9_binds_28 : decode cX9_binds 28 = .ok (.iconst 0, 1) := by decide +kernel
theorem dX9_binds_29 : decode cX9_binds 29 = .ok (.ireturn, 1) := by decide +kernel
theorem dX9_look_0 : decode cX9_look 0 = .ok (.aload_n 0, 1) := by decide +kernel
theorem dX9_look_1 : decode cX9_look 1 = .ok (.iload_n 1, 1) := by decide +kernel
theorem dX9_look_2 : decode cX9_look 2 = .ok (.ifCond .lt 38, 3) := by decide +kernel
theorem dX9_look_5 : decode cX9_look 5 = .ok (.iload_n 1, 1) := by decide +kernel
theorem dX9_look_6 : decode cX9_look 6 = .ok (.aload_n 0, 1) := by decide +kernel
theorem dX9_look_7 : decode cX9_look 7 = .ok (.getfield 201, 3) := by decide +kernel
theorem dX9_look_10 : decode cX9_look 10 = .ok (.if_icmp .ge 30, 3) := by decide +kernel
theorem dX9_look_13 : decode cX9_look 13 = .ok (.iload_n 2, 1) := by decide +kernel
theorem dX9_look_14 : decode cX9_look 14 = .ok (.ifCond .lt 26, 3) := by decide +kernel
theorem dX9_look_17 : decode cX9_look 17 = .ok (.iload_n 2, 1) := by decide +kernel
theorem dX9_look_18 : decode cX9_look 18 = .ok (.bipush 6, 2) := by decide +kernel
theorem dX9_look_20 : decode cX9_look 20 = .ok (.if_icmp .gt 20, 3) := by decide +kernel
theorem dX9_look_23 : decode cX9_look 23 = .ok (.iload_n 2, 1) := by decide +kernel
theorem dX9_look_24 : decode cX9_look 24 = .ok (.ifCond .eq 12, 3) := by decide +kernel
theorem dX9_look_27 : decode cX9_look 27 = .ok (.aload_n 0, 1) := by decide +kernel
theorem dX9_look_28 : decode cX9_look 28 = .ok (.getfield 70, 3) := by decide +kernel
theorem dX9_look_31 : decode cX9_look 31 = .ok (.iload_n 1, 1) := by decide +kernel
theorem dX9_look_32 : decode cX9_look 32 = .ok (.baload, 1) := by decide +kernel
theorem dX9_look_33 : decode cX9_look 33 = .ok (.ifCond .eq 7, 3) := by decide +kernel
theorem dX9_look_36 : decode cX9_look 36 = .ok (.iconst 0, 1) := by decide +kernel
theorem dX9_look_37 : decode cX9_look 37 = .ok (.goto 4, 3) := by decide +kernel
theorem dX9_look_40 : decode cX9_look 40 = .ok (.iconst 1, 1) := by decide +kernel
theorem dX9_look_41 : decode cX9_look 41 = .ok (.putfield 1, 3) := by decide +kernel
theorem dX9_look_44 : decode cX9_look 44 = .ok (.aload_n 0, 1) := by decide +kernel
theorem dX9_look_45 : decode cX9_look 45 = .ok (.getfield 1, 3) := by decide +kernel
theorem dX9_look_48 : decode cX9_look 48 = .ok (.ifCond .le 5, 3) := by decide +kernel
theorem dX9_look_51 : decode cX9_look 51 = .ok (.iconst 0, 1) := by decide +kernel
theorem dX9_look_52 : decode cX9_look 52 = .ok (.ireturn, 1) := by decide +kernel
theorem dX9_look_53 : decode cX9_look 53 = .ok (.iload_n 2, 1) := by decide +kernel
theorem dX9_look_54 : decode cX9_look 54 = .ok (.tableswitch 132 0 5 #[38, 53, 59, 73, 87, 110], 38) := by decide +kernel
theorem dX9_look_92 : decode cX9_look 92 = .ok (.aload_n 0, 1) := by decide +kernel
theorem dX9_look_93 : decode cX9_look 93 = .ok (.getfield 70, 3) := by decide +kernel
theorem dX9_look_96 : decode cX9_look 96 = .ok (.iload_n 1, 1) := by decide +kernel
theorem dX9_look_97 : decode cX9_look 97 = .ok (.baload, 1) := by decide +kernel
theorem dX9_look_98 : decode cX9_look 98 = .ok (.ifCond .eq 7, 3) := by decide +kernel
theorem dX9_look_101 : decode cX9_look 101 = .ok (.iconst 1, 1) := by decide +kernel
theorem dX9_look_102 : decode cX9_look 102 = .ok (.goto 4, 3) := by decide +kernel
theorem dX9_look_105 : decode cX9_look 105 = .ok (.iconst 0, 1) := by decide +kernel
theorem dX9_look_106 : decode cX9_look 106 = .ok (.ireturn, 1) := by decide +kernel
theorem dX9_look_107 : decode cX9_look 107 = .ok (.aload_n 0, 1) := by decide +kernel
theorem dX9_look_108 : decode cX9_look 108 = .ok (.iload_n 1, 1) := by decide +kernel
theorem dX9_look_109 : decode cX9_look 109 = .ok (.invokevirtual 226, 3) := by decide +kernel
theorem dX9_look_112 : decode cX9_look 112 = .ok (.ireturn, 1) := by decide +kernel
theorem dX9_look_113 : decode cX9_look 113 = .ok (.aload_n 0, 1) := by decide +kernel
theorem dX9_look_114 : decode cX9_look 114 = .ok (.iload_n 1, 1) := by decide +kernel
theorem dX9_look_115 : decode cX9_look 115 = .ok (.invokevirtual 263, 3) := by decide +kernel
theorem dX9_look_118 : decode cX9_look 118 = .ok (.ifCond .eq 7, 3) := by decide +kernel
theorem dX9_look_121 : decode cX9_look 121 = .ok (.iconst 1, 1) := by decide +kernel
theorem dX9_look_122 : decode cX9_look 122 = .ok (.goto 4, 3) := by decide +kernel
theorem dX9_look_125 : decode cX9_look 125 = .ok (.iconst 0, 1) := by decide +kernel
theorem dX9_look_126 : decode cX9_look 126 = .ok (.ireturn, 1) := by decide +kernel
theorem dX9_look_127 : decode cX9_look 127 = .ok (.aload_n 0, 1) := by decide +kernel
theorem dX9_look_128 : decode cX9_look 128 = .ok (.iload_n 1, 1) := by decide +kernel
theorem dX9_look_129 : decode cX9_look 129 = .ok (.invokevirtual 266, 3) := by decide +kernel
theorem dX9_look_132 : decode cX9_look 132 = .ok (.ifCond .eq 7, 3) := by decide +kernel
theorem dX9_look_135 : decode cX9_look 135 = .ok (.iconst 1, 1) := by decide +kernel
theorem dX9_look_136 : decode cX9_look 136 = .ok (.goto 4, 3) := by decide +kernel
theorem dX9_look_139 : decode cX9_look 139 = .ok (.iconst 0, 1) := by decide +kernel
theorem dX9_look_140 : decode cX9_look 140 = .ok (.ireturn, 1) := by decide +kernel
theorem dX9_look_141 : decode cX9_look 141 = .ok (.aload_n 0, 1) := by decide +kernel
theorem dX9_look_142 : decode cX9_look 142 = .ok (.invokevirtual 242, 3) := by decide +kernel
theorem dX9_look_145 : decode cX9_look 145 = .ok (.aload_n 0, 1) := by decide +kernel
theorem dX9_look_146 : decode cX9_look 146 = .ok (.iload_n 1, 1) := by decide +kernel
theorem dX9_look_147 : decode cX9_look 147 = .ok (.aload_n 0, 1) := by decide +kernel
theorem dX9_look_148 : decode cX9_look 148 = .ok (.iconst (-1), 1) := by decide +kernel
theorem dX9_look_149 : decode cX9_look 149 = .ok (.invokevirtual 236, 3) := by decide +kernel
theorem dX9_look_152 : decode cX9_look 152 = .ok (.invokevirtual 269, 3) := by decide +kernel
theorem dX9_look_155 : decode cX9_look 155 = .ok (.ifCond .eq 7, 3) := by decide +kernel
theorem dX9_look_158 : decode cX9_look 158 = .ok (.iconst 1, 1) := by decide +kernel
theorem dX9_look_159 : decode cX9_look 159 = .ok (.goto 4, 3) := by decide +kernel
theorem dX9_look_162 : decode cX9_look 162 = .ok (.iconst 0, 1) := by decide +kernel
theorem dX9_look_163 : decode cX9_look 163 = .ok (.ireturn, 1) := by decide +kernel
theorem dX9_look_164 : decode cX9_look 164 = .ok (.aload_n 0, 1) := by decide +kernel
theorem dX9_look_165 : decode cX9_look 165 = .ok (.invokevirtual 251, 3) := by decide +kernel
theorem dX9_look_168 : decode cX9_look 168 = .ok (.ifCond .lt 16, 3) := by decide +kernel
theorem dX9_look_171 : decode cX9_look 171 = .ok (.aload_n 0, 1) := by decide +kernel
theorem dX9_look_172 : decode cX9_look 172 = .ok (.getfield 101, 3) := by decide +kernel
theorem dX9_look_175 : decode cX9_look 175 = .ok (.iload_n 1, 1) := by decide +kernel
theorem dX9_look_176 : decode cX9_look 176 = .ok (.baload, 1) := by decide +kernel
theorem dX9_look_177 : decode cX9_look 177 = .ok (.ifCond .eq 7, 3) := by decide +kernel
theorem dX9_look_180 : decode cX9_look 180 = .ok (.iconst 1, 1) := by decide +kernel
theorem dX9_look_181 : decode cX9_look 181 = .ok (.goto 4, 3) := by decide +kernel
theorem dX9_look_184 : decode cX9_look 184 = .ok (.iconst 0, 1) := by decide +kernel
theorem dX9_look_185 : decode cX9_look 185 = .ok (.ireturn, 1) := by decide +kernel
theorem dX9_look_186 : decode cX9_look 186 = .ok (.aload_n 0, 1) := by decide +kernel
theorem dX9_look_187 : decode cX9_look 187 = .ok (.invokevirtual 242, 3) := by decide +kernel
theorem dX9_look_190 : decode cX9_look 190 = .ok (.aload_n 0, 1) := by decide +kernel
theorem dX9_look_191 : decode cX9_look 191 = .ok (.iconst (-1), 1) := by decide +kernel
theorem dX9_look_192 : decode cX9_look 192 = .ok (.invokevirtual 236, 3) := by decide +kernel
theorem dX9_look_195 : decode cX9_look 195 = .ok (.istore_n 3, 1) := by decide +kernel
theorem dX9_look_196 : decode cX9_look 196 = .ok (.aload_n 0, 1) := by decide +kernel
theorem dX9_look_197 : decode cX9_look 197 = .ok (.getfield 86, 3) := by decide +kernel
theorem dX9_look_200 : decode cX9_look 200 = .ok (.iload_n 1, 1) := by decide +kernel
theorem dX9_look_201 : decode cX9_look 201 = .ok (.iaload, 1) := by decide +kernel
theorem dX9_look_202 : decode cX9_look 202 = .ok (.ireturn, 1) := by decide +kernel
theorem dX9_over_0 : decode cX9_over 0 = .ok (.aload_n 0, 1) := by decide +kernel
theorem dX9_over_1 : decode cX9_over 1 = .ok (.iconst 0, 1) := by decide +kernel
theorem dX9_over_2 : decode cX9_over 2 = .ok (.putfield 1, 3) := by decide +kernel
theorem dX9_over_5 : decode cX9_over 5 = .ok (.aload_n 0, 1) := by decide +kernel
theorem dX9_over_6 : decode cX9_over 6 = .ok (.iload_n 1, 1) := by decide +kernel
theorem dX9_over_7 : decode cX9_over 7 = .ok (.invokevirtual 223, 3) := by decide +kernel
theorem dX9_over_10 : decode cX9_over 10 = .ok (.ifCond .eq 26, 3) := by decide +kernel
theorem dX9_over_13 : decode cX9_over 13 = .ok (.aload_n 0, 1) := by decide +kernel
theorem dX9_over_14 : decode cX9_over 14 = .ok (.iload_n 2, 1) := by decide +kernel
theorem dX9_over_15 : decode cX9_over 15 = .ok (.invokevirtual 223, 3) := by decide +kernel
theorem dX9_over_18 : decode cX9_over 18 = .ok (.ifCond .eq 18, 3) := by decide +kernel
theorem dX9_over_21 : decode cX9_over 21 = .ok (.aload_n 0, 1) := by decide +kernel
theorem dX9_over_22 : decode cX9_over 22 = .ok (.getfield 74, 3) := by decide +kernel
theorem dX9_over_25 : decode cX9_over 25 = .ok (.sipush 300, 3) := by decide +kernel
theorem dX9_over_28 : decode cX9_over 28 = .ok (.iload_n 1, 1) := by decide +kernel
theorem dX9_over_29 : decode cX9_over 29 = .ok (.imul, 1) := by decide +kernel
theorem dX9_over_30 : decode cX9_over 30 = .ok (.iload_n 2, 1) := by decide +kernel
theorem dX9_over_31 : decode cX9_over 31 = .ok (.iadd, 1) := by decide +kernel
theorem dX9_over_32 : decode cX9_over 32 = .ok (.iaload, 1) := by decide +kernel
theorem dX9_over_33 : decode cX9_over 33 = .ok (.goto 5, 3) := by decide +kernel
theorem dX9_over_36 : decode cX9_over 36 = .ok (.bipush (-2), 2) := by decide +kernel
theorem dX9_over_38 : decode cX9_over 38 = .ok (.ireturn, 1) := by decide +kernel
theorem dX9_linked_0 : decode cX9_linked 0 = .ok (.aload_n 0, 1) := by decide +kernel
theorem dX9_linked_1 : decode cX9_linked 1 = .ok (.iconst 0, 1) := by decide +kernel
theorem dX9_linked_2 : decode cX9_linked 2 = .ok (.putfield 1, 3) := by decide +kernel
theorem dX9_linked_5 : decode cX9_linked 5 = .ok (.iload_n 2, 1) := by decide +kernel
theorem dX9_linked_6 : decode cX9_linked 6 = .ok (.istore_n 3, 1) := by decide +kernel
theorem dX9_linked_7 : decode cX9_linked 7 = .ok (.iconst 0, 1) := by decide +kernel
theorem dX9_linked_8 : decode cX9_linked 8 = .ok (.istore 4, 2) := by decide +kernel
theorem dX9_linked_10 : decode cX9_linked 10 = .ok (.iload 4, 2) := by decide +kernel
theorem dX9_linked_12 : decode cX9_linked 12 = .ok (.aload_n 0, 1) := by decide +kernel
theorem dX9_linked_13 : decode cX9_linked 13 = .ok (.getfield 201, 3) := by decide +kernel
theorem dX9_linked_16 : decode cX9_linked 16 = .ok (.if_icmp .ge 41, 3) := by decide +kernel
theorem dX9_linked_19 : decode cX9_linked 19 = .ok (.aload_n 0, 1) := by decide +kernel
theorem dX9_linked_20 : decode cX9_linked 20 = .ok (.iload_n 1, 1) := by decide +kernel
theorem dX9_linked_21 : decode cX9_linked 21 = .ok (.invokevirtual 223, 3) := by decide +kernel
theorem dX9_linked_24 : decode cX9_linked 24 = .ok (.ifCond .eq 33, 3) := by decide +kernel
theorem dX9_linked_27 : decode cX9_linked 27 = .ok (.iload_n 2, 1) := by decide +kernel
theorem dX9_linked_28 : decode cX9_linked 28 = .ok (.ifCond .lt 29, 3) := by decide +kernel
theorem dX9_linked_31 : decode cX9_linked 31 = .ok (.aload_n 0, 1) := by decide +kernel
theorem dX9_linked_32 : decode cX9_linked 32 = .ok (.iload_n 1, 1) := by decide +kernel
theorem dX9_linked_33 : decode cX9_linked 33 = .ok (.iload 4, 2) := by decide +kernel
theorem dX9_linked_35 : decode cX9_linked 35 = .ok (.invokevirtual 229, 3) := by decide +kernel
theorem dX9_linked_38 : decode cX9_linked 38 = .ok (.ifCond .eq 13, 3) := by decide +kernel
theorem dX9_linked_41 : decode cX9_linked 41 = .ok (.iload_n 3, 1) := by decide +kernel
theorem dX9_linked_42 : decode cX9_linked 42 = .ok (.ifCond .ne 6, 3) := by decide +kernel
theorem dX9_linked_45 : decode cX9_linked 45 = .ok (.iload 4, 2) := by decide +kernel
theorem dX9_linked_47 : decode cX9_linked 47 = .ok (.ireturn, 1) := by decide +kernel
theorem dX9_linked_48 : decode cX9_linked 48 = .ok (.iinc 3 (-1), 3) := by decide +kernel
theorem dX9_linked_51 : decode cX9_linked 51 = .ok (.iinc 4 1, 3) := by decide +kernel
theorem dX9_linked_54 : decode cX9_linked 54 = .ok (.goto (-44), 3) := by decide +kernel
theorem dX9_linked_57 : decode cX9_linked 57 = .ok (.iconst (-1), 1) := by decide +kernel
theorem dX9_linked_58 : decode cX9_linked 58 = .ok (.ireturn, 1) := by decide +kernel
theorem dX9_there_0 : decode cX9_there 0 = .ok (.iconst 0, 1) := by decide +kernel
theorem dX9_there_1 : decode cX9_there 1 = .ok (.istore_n 1, 1) := by decide +kernel
theorem dX9_there_2 : decode cX9_there 2 = .ok (.iconst 0, 1) := by decide +kernel
theorem dX9_there_3 : decode cX9_there 3 = .ok (.istore_n 2, 1) := by decide +kernel
theorem dX9_there_4 : decode cX9_there 4 = .ok (.iload_n 2, 1) := by decide +kernel
theorem dX9_there_5 : decode cX9_there 5 = .ok (.aload_n 0, 1) := by decide +kernel
theorem dX9_there_6 : decode cX9_there 6 = .ok (.getfield 201, 3) := by decide +kernel
theorem dX9_there_9 : decode cX9_there 9 = .ok (.if_icmp .ge 26, 3) := by decide +kernel
theorem dX9_there_12 : decode cX9_there 12 = .ok (.iload_n 1, 1) := by decide +kernel
theorem dX9_there_13 : decode cX9_there 13 = .ok (.aload_n 0, 1) := by decide +kernel
theorem dX9_there_14 : decode cX9_there 14 = .ok (.getfield 70, 3) := by decide +kernel
theorem dX9_there_17 : decode cX9_there 17 = .ok (.iload_n 2, 1) := by decide +kernel
theorem dX9_there_18 : decode cX9_there 18 = .ok (.baload, 1) := by decide +kernel
theorem dX9_there_19 : decode cX9_there 19 = .ok (.ifCond .eq 7, 3) := by decide +kernel
theorem dX9_there_22 : decode cX9_there 22 = .ok (.iconst 1, 1) := by decide +kernel
theorem dX9_there_23 : decode cX9_there 23 = .ok (.goto 4, 3) := by decide +kernel
theorem dX9_there_26 : decode cX9_there 26 = .ok (.iconst 0, 1) := by decide +kernel
theorem dX9_there_27 : decode cX9_there 27 = .ok (.iadd, 1) := by decide +kernel
theorem dX9_there_28 : decode cX9_there 28 = .ok (.istore_n 1, 1) := by decide +kernel
theorem dX9_there_29 : decode cX9_there 29 = .ok (.iinc 2 1, 3) := by decide +kernel
theorem dX9_there_32 : decode cX9_there 32 = .ok (.goto (-28), 3) := by decide +kernel
theorem dX9_there_35 : decode cX9_there 35 = .ok (.iload_n 1, 1) := by decide +kernel
theorem dX9_there_36 : decode cX9_there 36 = .ok (.ireturn, 1) := by decide +kernel
theorem dX9_sum_0 : decode cX9_sum 0 = .ok (.iconst 0, 1) := by decide +kernel
theorem dX9_sum_1 : decode cX9_sum 1 = .ok (.istore_n 2, 1) := by decide +kernel
theorem dX9_sum_2 : decode cX9_sum 2 = .ok (.aload_n 0, 1) := by decide +kernel
theorem dX9_sum_3 : decode cX9_sum 3 = .ok (.invokevirtual 242, 3) := by decide +kernel
theorem dX9_sum_6 : decode cX9_sum 6 = .ok (.iload_n 1, 1) := by decide +kernel
theorem dX9_sum_7 : decode cX9_sum 7 = .ok (.iconst 5, 1) := by decide +kernel
theorem dX9_sum_8 : decode cX9_sum 8 = .ok (.if_icmp .ne 11, 3) := by decide +kernel
theorem dX9_sum_11 : decode cX9_sum 11 = .ok (.aload_n 0, 1) := by decide +kernel
theorem dX9_sum_12 : decode cX9_sum 12 = .ok (.iconst (-1), 1) := by decide +kernel
theorem dX9_sum_13 : decode cX9_sum 13 = .ok (.invokevirtual 236, 3) := by decide +kernel
theorem dX9_sum_16 : decode cX9_sum 16 = .ok (.goto 4, 3) := by decide +kernel
theorem dX9_sum_19 : decode cX9_sum 19 = .ok (.iconst 0, 1) := by decide +kernel
theorem dX9_sum_20 : decode cX9_sum 20 = .ok (.istore_n 3, 1) := by decide +kernel
theorem dX9_sum_21 : decode cX9_sum 21 = .ok (.iconst 0, 1) := by decide +kernel
theorem dX9_sum_22 : decode cX9_sum 22 = .ok (.istore 4, 2) := by decide +kernel
theorem dX9_sum_24 : decode cX9_sum 24 = .ok (.iload 4, 2) := by decide +kernel
theorem dX9_sum_26 : decode cX9_sum 26 = .ok (.aload_n 0, 1) := by decide +kernel
theorem dX9_sum_27 : decode cX9_sum 27 = .ok (.getfield 201, 3) := by decide +kernel
theorem dX9_sum_30 : decode cX9_sum 30 = .ok (.if_icmp .ge 95, 3) := by decide +kernel
theorem dX9_sum_33 : decode cX9_sum 33 = .ok (.aload_n 0, 1) := by decide +kernel
theorem dX9_sum_34 : decode cX9_sum 34 = .ok (.getfield 70, 3) := by decide +kernel
theorem dX9_sum_37 : decode cX9_sum 37 = .ok (.iload 4, 2) := by decide +kernel
theorem dX9_sum_39 : decode cX9_sum 39 = .ok (.baload, 1) := by decide +kernel
theorem dX9_sum_40 : decode cX9_sum 40 = .ok (.ifCond .eq 79, 3) := by decide +kernel
theorem dX9_sum_43 : decode cX9_sum 43 = .ok (.iload_n 2, 1) := by decide +kernel
theorem dX9_sum_44 : decode cX9_sum 44 = .ok (.iload_n 1, 1) := by decide +kernel
theorem dX9_sum_45 : decode cX9_sum 45 = .ok (.iconst 1, 1) := by decide +kernel
theorem dX9_sum_46 : decode cX9_sum 46 = .ok (.if_icmp .ne 12, 3) := by decide +kernel
theorem dX9_sum_49 : decode cX9_sum 49 = .ok (.aload_n 0, 1) := by decide +kernel
theorem dX9_sum_50 : decode cX9_sum 50 = .ok (.iload 4, 2) := by decide +kernel
theorem dX9_sum_52 : decode cX9_sum 52 = .ok (.invokevirtual 226, 3) := by decide +kernel
theorem dX9_sum_55 : decode cX9_sum 55 = .ok (.goto 62, 3) := by decide +kernel
theorem dX9_sum_58 : decode cX9_sum 58 = .ok (.iload_n 1, 1) := by decide +kernel
theorem dX9_sum_59 : decode cX9_sum 59 = .ok (.iconst 3, 1) := by decide +kernel
theorem dX9_sum_60 : decode cX9_sum 60 = .ok (.if_icmp .ne 20, 3) := by decide +kernel
theorem dX9_sum_63 : decode cX9_sum 63 = .ok (.aload_n 0, 1) := by decide +kernel
theorem dX9_sum_64 : decode cX9_sum 64 = .ok (.iload 4, 2) := by decide +kernel
theorem dX9_sum_66 : decode cX9_sum 66 = .ok (.invokevirtual 263, 3) := by decide +kernel
theorem dX9_sum_69 : decode cX9_sum 69 = .ok (.ifCond .eq 7, 3) := by decide +kernel
theorem dX9_sum_72 : decode cX9_sum 72 = .ok (.iconst 1, 1) := by decide +kernel
theorem dX9_sum_73 : decode cX9_sum 73 = .ok (.goto 44, 3) := by decide +kernel
theorem dX9_sum_76 : decode cX9_sum 76 = .ok (.iconst 0, 1) := by decide +kernel
theorem dX9_sum_77 : decode cX9_sum 77 = .ok (.goto 40, 3) := by decide +kernel
theorem dX9_sum_80 : decode cX9_sum 80 = .ok (.iload_n 1, 1) := by decide +kernel
theorem dX9_sum_81 : decode cX9_sum 81 = .ok (.iconst 4, 1) := by decide +kernel
theorem dX9_sum_82 : decode cX9_sum 82 = .ok (.if_icmp .ne 20, 3) := by decide +kernel
theorem dX9_sum_85 : decode cX9_sum 85 = .ok (.aload_n 0, 1) := by decide +kernel
theorem dX9_sum_86 : decode cX9_sum 86 = .ok (.iload 4, 2) := by decide +kernel
theorem dX9_sum_88 : decode cX9_sum 88 = .ok (.invokevirtual 266, 3) := by decide +kernel
theorem dX9_sum_91 : decode cX9_sum 91 = .ok (.ifCond .eq 7, 3) := by decide +kernel
theorem dX9_sum_94 : decode cX9_sum 94 = .ok (.iconst 1, 1) := by decide +kernel
theorem dX9_sum_95 : decode cX9_sum 95 = .ok (.goto 22, 3) := by decide +kernel
theorem dX9_sum_98 : decode cX9_sum 98 = .ok (.iconst 0, 1) := by decide +kernel
theorem dX9_sum_99 : decode cX9_sum 99 = .ok (.goto 18, 3) := by decide +kernel
theorem dX9_sum_102 : decode cX9_sum 102 = .ok (.aload_n 0, 1) := by decide +kernel
theorem dX9_sum_103 : decode cX9_sum 103 = .ok (.iload 4, 2) := by decide +kernel
theorem dX9_sum_105 : decode cX9_sum 105 = .ok (.iload_n 3, 1) := by decide +kernel
theorem dX9_sum_106 : decode cX9_sum 106 = .ok (.invokevirtual 269, 3) := by decide +kernel
theorem dX9_sum_109 : decode cX9_sum 109 = .ok (.ifCond .eq 7, 3) := by decide +kernel
theorem dX9_sum_112 : decode cX9_sum 112 = .ok (.iconst 1, 1) := by decide +kernel
theorem dX9_sum_113 : decode cX9_sum 113 = .ok (.goto 4, 3) := by decide +kernel
theorem dX9_sum_116 : decode cX9_sum 116 = .ok (.iconst 0, 1) := by decide +kernel
theorem dX9_sum_117 : decode cX9_sum 117 = .ok (.iadd, 1) := by decide +kernel
theorem dX9_sum_118 : decode cX9_sum 118 = .ok (.istore_n 2, 1) := by decide +kernel
theorem dX9_sum_119 : decode cX9_sum 119 = .ok (.iinc 4 1, 3) := by decide +kernel
theorem dX9_sum_122 : decode cX9_sum 122 = .ok (.goto (-98), 3) := by decide +kernel
theorem dX9_sum_125 : decode cX9_sum 125 = .ok (.iload_n 2, 1) := by decide +kernel
theorem dX9_sum_126 : decode cX9_sum 126 = .ok (.ireturn, 1) := by decide +kernel
theorem dX9_count_0 : decode cX9_count 0 = .ok (.aload_n 0, 1) := by decide +kernel
theorem dX9_count_1 : decode cX9_count 1 = .ok (.iconst 0, 1) := by decide +kernel
theorem dX9_count_2 : decode cX9_count 2 = .ok (.putfield 1, 3) := by decide +kernel
theorem dX9_count_5 : decode cX9_count 5 = .ok (.aload_n 0, 1) := by decide +kernel
theorem dX9_count_6 : decode cX9_count 6 = .ok (.invokevirtual 272, 3) := by decide +kernel
theorem dX9_count_9 : decode cX9_count 9 = .ok (.aload_n 0, 1) := by decide +kernel
theorem dX9_count_10 : decode cX9_count 10 = .ok (.getfield 113, 3) := by decide +kernel
theorem dX9_count_13 : decode cX9_count 13 = .ok (.aload_n 0, 1) := by decide +kernel
theorem dX9_count_14 : decode cX9_count 14 = .ok (.getfield 110, 3) := by decide +kernel
theorem dX9_count_17 : decode cX9_count 17 = .ok (.iadd, 1) := by decide +kernel
theorem dX9_count_18 : decode cX9_count 18 = .ok (.sipush 355, 3) := by decide +kernel
theorem dX9_count_21 : decode cX9_count 21 = .ok (.imul, 1) := by decide +kernel
theorem dX9_count_22 : decode cX9_count 22 = .ok (.bipush 113, 2) := by decide +kernel
theorem dX9_count_24 : decode cX9_count 24 = .ok (.idiv, 1) := by decide +kernel
theorem dX9_count_25 : decode cX9_count 25 = .ok (.imul, 1) := by decide +kernel
theorem dX9_count_26 : decode cX9_count 26 = .ok (.istore_n 2, 1) := by decide +kernel
theorem dX9_count_27 : decode cX9_count 27 = .ok (.iload_n 1, 1) := by decide +kernel
theorem dX9_count_28 : decode cX9_count 28 = .ok (.tableswitch 166 0 12 #[68, 73, 81, 91, 97, 103, 109, 111, 137, 142, 149, 156, 161], 68) := by decide +kernel
theorem dX9_count_96 : decode cX9_count 96 = .ok (.aload_n 0, 1) := by decide +kernel
theorem dX9_count_97 : decode cX9_count 97 = .ok (.invokevirtual 272, 3) := by decide +kernel
theorem dX9_count_100 : decode cX9_count 100 = .ok (.ireturn, 1) := by decide +kernel
theorem dX9_count_101 : decode cX9_count 101 = .ok (.aload_n 0, 1) := by decide +kernel
theorem dX9_count_102 : decode cX9_count 102 = .ok (.iconst 1, 1) := by decide +kernel
theorem dX9_count_103 : decode cX9_count 103 = .ok (.invokevirtual 275, 3) := by decide +kernel
theorem dX9_count_106 : decode cX9_count 106 = .ok (.iconst 2, 1) := by decide +kernel
theorem dX9_count_107 : decode cX9_count 107 = .ok (.idiv, 1) := by decide +kernel
theorem dX9_count_108 : decode cX9_count 108 = .ok (.ireturn, 1) := by decide +kernel
theorem dX9_count_109 : decode cX9_count 109 = .ok (.aload_n 0, 1) := by decide +kernel
theorem dX9_count_110 : decode cX9_count 110 = .ok (.invokevirtual 242, 3) := by decide +kernel
theorem dX9_count_113 : decode cX9_count 113 = .ok (.aload_n 0, 1) := by decide +kernel
theorem dX9_count_114 : decode cX9_count 114 = .ok (.iconst (-1), 1) := by decide +kernel
theorem dX9_count_115 : decode cX9_count 115 = .ok (.invokevirtual 236, 3) := by decide +kernel
theorem dX9_count_118 : decode cX9_count 118 = .ok (.ireturn, 1) := by decide +kernel
theorem dX9_count_119 : decode cX9_count 119 = .ok (.aload_n 0, 1) := by decide +kernel
theorem dX9_count_120 : decode cX9_count 120 = .ok (.iconst 3, 1) := by decide +kernel
theorem dX9_count_121 : decode cX9_count 121 = .ok (.invokevirtual 275, 3) := by decide +kernel
theorem dX9_count_124 : decode cX9_count 124 = .ok (.ireturn, 1) := by decide +kernel
theorem dX9_count_125 : decode cX9_count 125 = .ok (.aload_n 0, 1) := by decide +kernel
theorem dX9_count_126 : decode cX9_count 126 = .ok (.iconst 4, 1) := by decide +kernel
theorem dX9_count_127 : decode cX9_count 127 = .ok (.invokevirtual 275, 3) := by decide +kernel
theorem dX9_count_130 : decode cX9_count 130 = .ok (.ireturn, 1) := by decide +kernel
theorem dX9_count_131 : decode cX9_count 131 = .ok (.aload_n 0, 1) := by decide +kernel
theorem dX9_count_132 : decode cX9_count 132 = .ok (.iconst 5, 1) := by decide +kernel
theorem dX9_count_133 : decode cX9_count 133 = .ok (.invokevirtual 275, 3) := by decide +kernel
theorem dX9_count_136 : decode cX9_count 136 = .ok (.ireturn, 1) := by decide +kernel
theorem dX9_count_137 : decode cX9_count 137 = .ok (.iload_n 2, 1) := by decide +kernel
theorem dX9_count_138 : decode cX9_count 138 = .ok (.ireturn, 1) := by decide +kernel
theorem dX9_count_139 : decode cX9_count 139 = .ok (.iload_n 2, 1) := by decide +kernel
theorem dX9_count_140 : decode cX9_count 140 = .ok (.i2l, 1) := by decide +kernel
theorem dX9_count_141 : decode cX9_count 141 = .ok (.aload_n 0, 1) := by decide +kernel
theorem dX9_count_142 : decode cX9_count 142 = .ok (.getfield 110, 3) := by decide +kernel
theorem dX9_count_145 : decode cX9_count 145 = .ok (.i2l, 1) := by decide +kernel
theorem dX9_count_146 : decode cX9_count 146 = .ok (.lmul, 1) := by decide +kernel
theorem dX9_count_147 : decode cX9_count 147 = .ok (.aload_n 0, 1) := by decide +kernel
theorem dX9_count_148 : decode cX9_count 148 = .ok (.getfield 110, 3) := by decide +kernel
theorem dX9_count_151 : decode cX9_count 151 = .ok (.i2l, 1) := by decide +kernel
theorem dX9_count_152 : decode cX9_count 152 = .ok (.lmul, 1) := by decide +kernel
theorem dX9_count_153 : decode cX9_count 153 = .ok (.aload_n 0, 1) := by decide +kernel
theorem dX9_count_154 : decode cX9_count 154 = .ok (.getfield 116, 3) := by decide +kernel
theorem dX9_count_157 : decode cX9_count 157 = .ok (.i2l, 1) := by decide +kernel
theorem dX9_count_158 : decode cX9_count 158 = .ok (.lmul, 1) := by decide +kernel
theorem dX9_count_159 : decode cX9_count 159 = .ok (.ldc2_w 278, 3) := by decide +kernel
theorem dX9_count_162 : decode cX9_count 162 = .ok (.ldiv, 1) := by decide +kernel
theorem dX9_count_163 : decode cX9_count 163 = .ok (.l2i, 1) := by decide +kernel
theorem dX9_count_164 : decode cX9_count 164 = .ok (.ireturn, 1) := by decide +kernel
theorem dX9_count_165 : decode cX9_count 165 = .ok (.aload_n 0, 1) := by decide +kernel
theorem dX9_count_166 : decode cX9_count 166 = .ok (.getfield 201, 3) := by decide +kernel
theorem dX9_count_169 : decode cX9_count 169 = .ok (.ireturn, 1) := by decide +kernel
theorem dX9_count_170 : decode cX9_count 170 = .ok (.aload_n 0, 1) := by decide +kernel
theorem dX9_count_171 : decode cX9_count 171 = .ok (.getfield 45, 3) := by decide +kernel
theorem dX9_count_174 : decode cX9_count 174 = .ok (.iconst 0, 1) := by decide +kernel
theorem dX9_count_175 : decode cX9_count 175 = .ok (.iaload, 1) := by decide +kernel
theorem dX9_count_176 : decode cX9_count 176 = .ok (.ireturn, 1) := by decide +kernel
theorem dX9_count_177 : decode cX9_count 177 = .ok (.aload_n 0, 1) := by decide +kernel
theorem dX9_count_178 : decode cX9_count 178 = .ok (.getfield 51, 3) := by decide +kernel
theorem dX9_count_181 : decode cX9_count 181 = .ok (.iconst 0, 1) := by decide +kernel
theorem dX9_count_182 : decode cX9_count 182 = .ok (.iaload, 1) := by decide +kernel
theorem dX9_count_183 : decode cX9_count 183 = .ok (.ireturn, 1) := by decide +kernel
theorem dX9_count_184 : decode cX9_count 184 = .ok (.aload_n 0, 1) := by decide +kernel
theorem dX9_count_185 : decode cX9_count 185 = .ok (.getfield 11, 3) := by decide +kernel
theorem dX9_count_188 : decode cX9_count 188 = .ok (.ireturn, 1) := by decide +kernel
theorem dX9_count_189 : decode cX9_count 189 = .ok (.aload_n 0, 1) := by decide +kernel
theorem dX9_count_190 : decode cX9_count 190 = .ok (.invokevirtual 280, 3) := by decide +kernel
theorem dX9_count_193 : decode cX9_count 193 = .ok (.ireturn, 1) := by decide +kernel
theorem dX9_count_194 : decode cX9_count 194 = .ok (.iconst (-1), 1) := by decide +kernel
theorem dX9_count_195 : decode cX9_count 195 = .ok (.ireturn, 1) := by decide +kernel
theorem dX9_worn_0 : decode cX9_worn 0 = .ok (.iconst 0, 1) := by decide +kernel
theorem dX9_worn_1 : decode cX9_worn 1 = .ok (.istore_n 1, 1) := by decide +kernel
theorem dX9_worn_2 : decode cX9_worn 2 = .ok (.iconst 0, 1) := by decide +kernel
theorem dX9_worn_3 : decode cX9_worn 3 = .ok (.istore_n 2, 1) := by decide +kernel
theorem dX9_worn_4 : decode cX9_worn 4 = .ok (.iload_n 2, 1) := by decide +kernel
theorem dX9_worn_5 : decode cX9_worn 5 = .ok (.aload_n 0, 1) := by decide +kernel
theorem dX9_worn_6 : decode cX9_worn 6 = .ok (.getfield 218, 3) := by decide +kernel
theorem dX9_worn_9 : decode cX9_worn 9 = .ok (.if_icmp .ge 26, 3) := by decide +kernel
theorem dX9_worn_12 : decode cX9_worn 12 = .ok (.iload_n 1, 1) := by decide +kernel
theorem dX9_worn_13 : decode cX9_worn 13 = .ok (.aload_n 0, 1) := by decide +kernel
theorem dX9_worn_14 : decode cX9_worn 14 = .ok (.getfield 70, 3) := by decide +kernel
theorem dX9_worn_17 : decode cX9_worn 17 = .ok (.iload_n 2, 1) := by decide +kernel
theorem dX9_worn_18 : decode cX9_worn 18 = .ok (.baload, 1) := by decide +kernel
theorem dX9_worn_19 : decode cX9_worn 19 = .ok (.ifCond .eq 7, 3) := by decide +kernel
theorem dX9_worn_22 : decode cX9_worn 22 = .ok (.iconst 0, 1) := by decide +kernel
theorem dX9_worn_23 : decode cX9_worn 23 = .ok (.goto 4, 3) := by decide +kernel
theorem dX9_worn_26 : decode cX9_worn 26 = .ok (.iconst 1, 1) := by decide +kernel
theorem dX9_worn_27 : decode cX9_worn 27 = .ok (.iadd, 1) := by decide +kernel
theorem dX9_worn_28 : decode cX9_worn 28 = .ok (.istore_n 1, 1) := by decide +kernel
theorem dX9_worn_29 : decode cX9_worn 29 = .ok (.iinc 2 1, 3) := by decide +kernel
theorem dX9_worn_32 : decode cX9_worn 32 = .ok (.goto (-28), 3) := by decide +kernel
theorem dX9_worn_35 : decode cX9_worn 35 = .ok (.iload_n 1, 1) := by decide +kernel
theorem dX9_worn_36 : decode cX9_worn 36 = .ok (.ireturn, 1) := by decide +kernel
theorem dJ13_bitCount_95d88_0 : decode cJ13_bitCount_95d88 0 = .ok (.lload_n 0, 1) := by decide +kernel
theorem dJ13_bitCount_95d88_1 : decode cJ13_bitCount_95d88 1 = .ok (.lload_n 0, 1) := by decide +kernel
theorem dJ13_bitCount_95d88_2 : decode cJ13_bitCount_95d88 2 = .ok (.iconst 1, 1) := by decide +kernel
theorem dJ13_bitCount_95d88_3 : decode cJ13_bitCount_95d88 3 = .ok (.lushr, 1) := by decide +kernel
theorem dJ13_bitCount_95d88_4 : decode cJ13_bitCount_95d88 4 = .ok (.ldc2_w 314, 3) := by decide +kernel
theorem dJ13_bitCount_95d88_7 : decode cJ13_bitCount_95d88 7 = .ok (.land, 1) := by decide +kernel
theorem dJ13_bitCount_95d88_8 : decode cJ13_bitCount_95d88 8 = .ok (.lsub, 1) := by decide +kernel
theorem dJ13_bitCount_95d88_9 : decode cJ13_bitCount_95d88 9 = .ok (.lstore_n 0, 1) := by decide +kernel
theorem dJ13_bitCount_95d88_10 : decode cJ13_bitCount_95d88 10 = .ok (.lload_n 0, 1) := by decide +kernel
theorem dJ13_bitCount_95d88_11 : decode cJ13_bitCount_95d88 11 = .ok (.ldc2_w 316, 3) := by decide +kernel
theorem dJ13_bitCount_95d88_14 : decode cJ13_bitCount_95d88 14 = .ok (.land, 1) := by decide +kernel
theorem dJ13_bitCount_95d88_15 : decode cJ13_bitCount_95d88 15 = .ok (.lload_n 0, 1) := by decide +kernel
theorem dJ13_bitCount_95d88_16 : decode cJ13_bitCount_95d88 16 = .ok (.iconst 2, 1) := by decide +kernel
theorem dJ13_bitCount_95d88_17 : decode cJ13_bitCount_95d88 17 = .ok (.lushr, 1) := by decide +kernel
theorem dJ13_bitCount_95d88_18 : decode cJ13_bitCount_95d88 18 = .ok (.ldc2_w 316, 3) := by decide +kernel
theorem dJ13_bitCount_95d88_21 : decode cJ13_bitCount_95d88 21 = .ok (.land, 1) := by decide +kernel
theorem dJ13_bitCount_95d88_22 : decode cJ13_bitCount_95d88 22 = .ok (.ladd, 1) := by decide +kernel
theorem dJ13_bitCount_95d88_23 : decode cJ13_bitCount_95d88 23 = .ok (.lstore_n 0, 1) := by decide +kernel
theorem dJ13_bitCount_95d88_24 : decode cJ13_bitCount_95d88 24 = .ok (.lload_n 0, 1) := by decide +kernel
theorem dJ13_bitCount_95d88_25 : decode cJ13_bitCount_95d88 25 = .ok (.lload_n 0, 1) := by decide +kernel
theorem dJ13_bitCount_95d88_26 : decode cJ13_bitCount_95d88 26 = .ok (.iconst 4, 1) := by decide +kernel
theorem dJ13_bitCount_95d88_27 : decode cJ13_bitCount_95d88 27 = .ok (.lushr, 1) := by decide +kernel
theorem dJ13_bitCount_95d88_28 : decode cJ13_bitCount_95d88 28 = .ok (.ladd, 1) := by decide +kernel
theorem dJ13_bitCount_95d88_29 : decode cJ13_bitCount_95d88 29 = .ok (.ldc2_w 318, 3) := by decide +kernel
theorem dJ13_bitCount_95d88_32 : decode cJ13_bitCount_95d88 32 = .ok (.land, 1) := by decide +kernel
theorem dJ13_bitCount_95d88_33 : decode cJ13_bitCount_95d88 33 = .ok (.lstore_n 0, 1) := by decide +kernel
theorem dJ13_bitCount_95d88_34 : decode cJ13_bitCount_95d88 34 = .ok (.lload_n 0, 1) := by decide +kernel
theorem dJ13_bitCount_95d88_35 : decode cJ13_bitCount_95d88 35 = .ok (.lload_n 0, 1) := by decide +kernel
theorem dJ13_bitCount_95d88_36 : decode cJ13_bitCount_95d88 36 = .ok (.bipush 8, 2) := by decide +kernel
theorem dJ13_bitCount_95d88_38 : decode cJ13_bitCount_95d88 38 = .ok (.lushr, 1) := by decide +kernel
theorem dJ13_bitCount_95d88_39 : decode cJ13_bitCount_95d88 39 = .ok (.ladd, 1) := by decide +kernel
theorem dJ13_bitCount_95d88_40 : decode cJ13_bitCount_95d88 40 = .ok (.lstore_n 0, 1) := by decide +kernel
theorem dJ13_bitCount_95d88_41 : decode cJ13_bitCount_95d88 41 = .ok (.lload_n 0, 1) := by decide +kernel
theorem dJ13_bitCount_95d88_42 : decode cJ13_bitCount_95d88 42 = .ok (.lload_n 0, 1) := by decide +kernel
theorem dJ13_bitCount_95d88_43 : decode cJ13_bitCount_95d88 43 = .ok (.bipush 16, 2) := by decide +kernel
theorem dJ13_bitCount_95d88_45 : decode cJ13_bitCount_95d88 45 = .ok (.lushr, 1) := by decide +kernel
theorem dJ13_bitCount_95d88_46 : decode cJ13_bitCount_95d88 46 = .ok (.ladd, 1) := by decide +kernel
theorem dJ13_bitCount_95d88_47 : decode cJ13_bitCount_95d88 47 = .ok (.lstore_n 0, 1) := by decide +kernel
theorem dJ13_bitCount_95d88_48 : decode cJ13_bitCount_95d88 48 = .ok (.lload_n 0, 1) := by decide +kernel
theorem dJ13_bitCount_95d88_49 : decode cJ13_bitCount_95d88 49 = .ok (.lload_n 0, 1) := by decide +kernel
theorem dJ13_bitCount_95d88_50 : decode cJ13_bitCount_95d88 50 = .ok (.bipush 32, 2) := by decide +kernel
theorem dJ13_bitCount_95d88_52 : decode cJ13_bitCount_95d88 52 = .ok (.lushr, 1) := by decide +kernel
theorem dJ13_bitCount_95d88_53 : decode cJ13_bitCount_95d88 53 = .ok (.ladd, 1) := by decide +kernel
theorem dJ13_bitCount_95d88_54 : decode cJ13_bitCount_95d88 54 = .ok (.lstore_n 0, 1) := by decide +kernel
theorem dJ13_bitCount_95d88_55 : decode cJ13_bitCount_95d88 55 = .ok (.lload_n 0, 1) := by decide +kernel
theorem dJ13_bitCount_95d88_56 : decode cJ13_bitCount_95d88 56 = .ok (.l2i, 1) := by decide +kernel
theorem dJ13_bitCount_95d88_57 : decode cJ13_bitCount_95d88 57 = .ok (.bipush 127, 2) := by decide +kernel
theorem dJ13_bitCount_95d88_59 : decode cJ13_bitCount_95d88 59 = .ok (.iand, 1) := by decide +kernel
theorem dJ13_bitCount_95d88_60 : decode cJ13_bitCount_95d88 60 = .ok (.ireturn, 1) := by decide +kernel
theorem dJ9_min_7cf53_0 : decode cJ9_min_7cf53 0 = .ok (.iload_n 0, 1) := by decide +kernel
theorem dJ9_min_7cf53_1 : decode cJ9_min_7cf53 1 = .ok (.iload_n 1, 1) := by decide +kernel
theorem dJ9_min_7cf53_2 : decode cJ9_min_7cf53 2 = .ok (.if_icmp .gt 7, 3) := by decide +kernel
theorem dJ9_min_7cf53_5 : decode cJ9_min_7cf53 5 = .ok (.iload_n 0, 1) := by decide +kernel
theorem dJ9_min_7cf53_6 : decode cJ9_min_7cf53 6 = .ok (.goto 4, 3) := by decide +kernel
theorem dJ9_min_7cf53_9 : decode cJ9_min_7cf53 9 = .ok (.iload_n 1, 1) := by decide +kernel
theorem dJ9_min_7cf53_10 : decode cJ9_min_7cf53 10 = .ok (.ireturn, 1) := by decide +kernel
theorem dJ7_fill_d0a16_0 : decode cJ7_fill_d0a16 0 = .ok (.iconst 0, 1) := by decide +kernel
theorem dJ7_fill_d0a16_1 : decode cJ7_fill_d0a16 1 = .ok (.istore_n 3, 1) := by decide +kernel
theorem dJ7_fill_d0a16_2 : decode cJ7_fill_d0a16 2 = .ok (.aload_n 0, 1) := by decide +kernel
theorem dJ7_fill_d0a16_3 : decode cJ7_fill_d0a16 3 = .ok (.arraylength, 1) := by decide +kernel
theorem dJ7_fill_d0a16_4 : decode cJ7_fill_d0a16 4 = .ok (.istore 4, 2) := by decide +kernel
theorem dJ7_fill_d0a16_6 : decode cJ7_fill_d0a16 6 = .ok (.iload_n 3, 1) := by decide +kernel
theorem dJ7_fill_d0a16_7 : decode cJ7_fill_d0a16 7 = .ok (.iload 4, 2) := by decide +kernel
theorem dJ7_fill_d0a16_9 : decode cJ7_fill_d0a16 9 = .ok (.if_icmp .ge 13, 3) := by decide +kernel
theorem dJ7_fill_d0a16_12 : decode cJ7_fill_d0a16 12 = .ok (.aload_n 0, 1) := by decide +kernel
theorem dJ7_fill_d0a16_13 : decode cJ7_fill_d0a16 13 = .ok (.iload_n 3, 1) := by decide +kernel
theorem dJ7_fill_d0a16_14 : decode cJ7_fill_d0a16 14 = .ok (.lload_n 1, 1) := by decide +kernel
theorem dJ7_fill_d0a16_15 : decode cJ7_fill_d0a16 15 = .ok (.lastore, 1) := by decide +kernel
theorem dJ7_fill_d0a16_16 : decode cJ7_fill_d0a16 16 = .ok (.iinc 3 1, 3) := by decide +kernel
theorem dJ7_fill_d0a16_19 : decode cJ7_fill_d0a16 19 = .ok (.goto (-13), 3) := by decide +kernel
theorem dJ7_fill_d0a16_22 : decode cJ7_fill_d0a16 22 = .ok (.return_, 1) := by decide +kernel
theorem dJ7_fill_53178_0 : decode cJ7_fill_53178 0 = .ok (.iconst 0, 1) := by decide +kernel
theorem dJ7_fill_53178_1 : decode cJ7_fill_53178 1 = .ok (.istore_n 2, 1) := by decide +kernel
theorem dJ7_fill_53178_2 : decode cJ7_fill_53178 2 = .ok (.aload_n 0, 1) := by decide +kernel
theorem dJ7_fill_53178_3 : decode cJ7_fill_53178 3 = .ok (.arraylength, 1) := by decide +kernel
theorem dJ7_fill_53178_4 : decode cJ7_fill_53178 4 = .ok (.istore_n 3, 1) := by decide +kernel
theorem dJ7_fill_53178_5 : decode cJ7_fill_53178 5 = .ok (.iload_n 2, 1) := by decide +kernel
theorem dJ7_fill_53178_6 : decode cJ7_fill_53178 6 = .ok (.iload_n 3, 1) := by decide +kernel
theorem dJ7_fill_53178_7 : decode cJ7_fill_53178 7 = .ok (.if_icmp .ge 13, 3) := by decide +kernel
theorem dJ7_fill_53178_10 : decode cJ7_fill_53178 10 = .ok (.aload_n 0, 1) := by decide +kernel
theorem dJ7_fill_53178_11 : decode cJ7_fill_53178 11 = .ok (.iload_n 2, 1) := by decide +kernel
theorem dJ7_fill_53178_12 : decode cJ7_fill_53178 12 = .ok (.iload_n 1, 1) := by decide +kernel
theorem dJ7_fill_53178_13 : decode cJ7_fill_53178 13 = .ok (.iastore, 1) := by decide +kernel
theorem dJ7_fill_53178_14 : decode cJ7_fill_53178 14 = .ok (.iinc 2 1, 3) := by decide +kernel
theorem dJ7_fill_53178_17 : decode cJ7_fill_53178 17 = .ok (.goto (-12), 3) := by decide +kernel
theorem dJ7_fill_53178_20 : decode cJ7_fill_53178 20 = .ok (.return_, 1) := by decide +kernel
theorem dL_look_0 : decode cL_look 0 = .ok (.aload_n 3, 1) := by decide +kernel
theorem dL_look_1 : decode cL_look 1 = .ok (.iconst 0, 1) := by decide +kernel
theorem dL_look_2 : decode cL_look 2 = .ok (.aload_n 0, 1) := by decide +kernel
theorem dL_look_3 : decode cL_look 3 = .ok (.iload_n 1, 1) := by decide +kernel
theorem dL_look_4 : decode cL_look 4 = .ok (.iload_n 2, 1) := by decide +kernel
theorem dL_look_5 : decode cL_look 5 = .ok (.invokevirtual 7, 3) := by decide +kernel
theorem dL_look_8 : decode cL_look 8 = .ok (.i2l, 1) := by decide +kernel
theorem dL_look_9 : decode cL_look 9 = .ok (.lastore, 1) := by decide +kernel
theorem dL_look_10 : decode cL_look 10 = .ok (.goto 7, 3) := by decide +kernel
theorem dL_look_13 : decode cL_look 13 = .ok (.astore 4, 2) := by decide +kernel
theorem dL_look_15 : decode cL_look 15 = .ok (.iconst 1, 1) := by decide +kernel
theorem dL_look_16 : decode cL_look 16 = .ok (.ireturn, 1) := by decide +kernel
theorem dL_look_17 : decode cL_look 17 = .ok (.iconst 0, 1) := by decide +kernel
theorem dL_look_18 : decode cL_look 18 = .ok (.ireturn, 1) := by decide +kernel
theorem dL_law_0 : decode cL_law 0 = .ok (.new 8, 3) := by decide +kernel
theorem dL_law_3 : decode cL_law 3 = .ok (.dup, 1) := by decide +kernel
theorem dL_law_4 : decode cL_law 4 = .ok (.invokespecial 15, 3) := by decide +kernel
theorem dL_law_7 : decode cL_law 7 = .ok (.astore_n 1, 1) := by decide +kernel
theorem dL_law_8 : decode cL_law 8 = .ok (.new 16, 3) := by decide +kernel
theorem dL_law_11 : decode cL_law 11 = .ok (.dup, 1) := by decide +kernel
theorem dL_law_12 : decode cL_law 12 = .ok (.invokespecial 18, 3) := by decide +kernel
theorem dL_law_15 : decode cL_law 15 = .ok (.astore_n 2, 1) := by decide +kernel
theorem dL_law_16 : decode cL_law 16 = .ok (.iconst 1, 1) := by decide +kernel
theorem dL_law_17 : decode cL_law 17 = .ok (.newarray .long, 2) := by decide +kernel
theorem dL_law_19 : decode cL_law 19 = .ok (.astore_n 3, 1) := by decide +kernel
theorem dL_law_20 : decode cL_law 20 = .ok (.iconst 0, 1) := by decide +kernel
theorem dL_law_21 : decode cL_law 21 = .ok (.istore 4, 2) := by decide +kernel
theorem dL_law_23 : decode cL_law 23 = .ok (.iload 4, 2) := by decide +kernel
theorem dL_law_25 : decode cL_law 25 = .ok (.aload_n 0, 1) := by decide +kernel
theorem dL_law_26 : decode cL_law 26 = .ok (.arraylength, 1) := by decide +kernel
theorem dL_law_27 : decode cL_law 27 = .ok (.bipush 7, 2) := by decide +kernel
theorem dL_law_29 : decode cL_law 29 = .ok (.isub, 1) := by decide +kernel
theorem dL_law_30 : decode cL_law 30 = .ok (.if_icmp .gt 721, 3) := by decide +kernel
theorem dL_law_33 : decode cL_law 33 = .ok (.aload_n 0, 1) := by decide +kernel
theorem dL_law_34 : decode cL_law 34 = .ok (.iload 4, 2) := by decide +kernel
theorem dL_law_36 : decode cL_law 36 = .ok (.iaload, 1) := by decide +kernel
theorem dL_law_37 : decode cL_law 37 = .ok (.bipush 15, 2) := by decide +kernel
theorem dL_law_39 : decode cL_law 39 = .ok (.iand, 1) := by decide +kernel
theorem dL_law_40 : decode cL_law 40 = .ok (.tableswitch 705 0 15 #[80, 227, 240, 277, 326, 339, 364, 401, 438, 451, 519, 556, 593, 606, 631, 680], 80) := by decide +kernel
theorem dL_law_120 : decode cL_law 120 = .ok (.aload_n 1, 1) := by decide +kernel
theorem dL_law_121 : decode cL_law 121 = .ok (.aload_n 0, 1) := by decide +kernel
theorem dL_law_122 : decode cL_law 122 = .ok (.iload 4, 2) := by decide +kernel
theorem dL_law_124 : decode cL_law 124 = .ok (.iconst 1, 1) := by decide +kernel
theorem dL_law_125 : decode cL_law 125 = .ok (.iadd, 1) := by decide +kernel
theorem dL_law_126 : decode cL_law 126 = .ok (.iaload, 1) := by decide +kernel
theorem dL_law_127 : decode cL_law 127 = .ok (.i2l, 1) := by decide +kernel
theorem dL_law_128 : decode cL_law 128 = .ok (.bipush 32, 2) := by decide +kernel
theorem dL_law_130 : decode cL_law 130 = .ok (.lshl, 1) := by decide +kernel
theorem dL_law_131 : decode cL_law 131 = .ok (.aload_n 0, 1) := by decide +kernel
theorem dL_law_132 : decode cL_law 132 = .ok (.iload 4, 2) := by decide +kernel
theorem dL_law_134 : decode cL_law 134 = .ok (.iconst 2, 1) := by decide +kernel
theorem dL_law_135 : decode cL_law 135 = .ok (.iadd, 1) := by decide +kernel
theorem dL_law_136 : decode cL_law 136 = .ok (.iaload, 1) := by decide +kernel
theorem dL_law_137 : decode cL_law 137 = .ok (.i2l, 1) := by decide +kernel
theorem dL_law_138 : decode cL_law 138 = .ok (.ldc2_w 19, 3) := by decide +kernel
theorem dL_law_141 : decode cL_law 141 = .ok (.land, 1) := by decide +kernel
theorem dL_law_142 : decode cL_law 142 = .ok (.lor, 1) := by decide +kernel
theorem dL_law_143 : decode cL_law 143 = .ok (.aload_n 0, 1) := by decide +kernel
theorem dL_law_144 : decode cL_law 144 = .ok (.iload 4, 2) := by decide +kernel
theorem dL_law_146 : decode cL_law 146 = .ok (.iconst 3, 1) := by decide +kernel
theorem dL_law_147 : decode cL_law 147 = .ok (.iadd, 1) := by decide +kernel
theorem dL_law_148 : decode cL_law 148 = .ok (.iaload, 1) := by decide +kernel
theorem dL_law_149 : decode cL_law 149 = .ok (.i2l, 1) := by decide +kernel
theorem dL_law_150 : decode cL_law 150 = .ok (.bipush 32, 2) := by decide +kernel
theorem dL_law_152 : decode cL_law 152 = .ok (.lshl, 1) := by decide +kernel
theorem dL_law_153 : decode cL_law 153 = .ok (.aload_n 0, 1) := by decide +kernel
theorem dL_law_154 : decode cL_law 154 = .ok (.iload 4, 2) := by decide +kernel
theorem dL_law_156 : decode cL_law 156 = .ok (.iconst 4, 1) := by decide +kernel
theorem dL_law_157 : decode cL_law 157 = .ok (.iadd, 1) := by decide +kernel
theorem dL_law_158 : decode cL_law 158 = .ok (.iaload, 1) := by decide +kernel
theorem dL_law_159 : decode cL_law 159 = .ok (.i2l, 1) := by decide +kernel
theorem dL_law_160 : decode cL_law 160 = .ok (.ldc2_w 19, 3) := by decide +kernel
theorem dL_law_163 : decode cL_law 163 = .ok (.land, 1) := by decide +kernel
theorem dL_law_164 : decode cL_law 164 = .ok (.lor, 1) := by decide +kernel
theorem dL_law_165 : decode cL_law 165 = .ok (.aload_n 0, 1) := by decide +kernel
theorem dL_law_166 : decode cL_law 166 = .ok (.iload 4, 2) := by decide +kernel
theorem dL_law_168 : decode cL_law 168 = .ok (.iconst 5, 1) := by decide +kernel
theorem dL_law_169 : decode cL_law 169 = .ok (.iadd, 1) := by decide +kernel
theorem dL_law_170 : decode cL_law 170 = .ok (.iaload, 1) := by decide +kernel
theorem dL_law_171 : decode cL_law 171 = .ok (.i2l, 1) := by decide +kernel
theorem dL_law_172 : decode cL_law 172 = .ok (.bipush 32, 2) := by decide +kernel
theorem dL_law_174 : decode cL_law 174 = .ok (.lshl, 1) := by decide +kernel
theorem dL_law_175 : decode cL_law 175 = .ok (.aload_n 0, 1) := by decide +kernel
theorem dL_law_176 : decode cL_law 176 = .ok (.iload 4, 2) := by decide +kernel
theorem dL_law_178 : decode cL_law 178 = .ok (.bipush 6, 2) := by decide +kernel
theorem dL_law_180 : decode cL_law 180 = .ok (.iadd, 1) := by decide +kernel
theorem dL_law_181 : decode cL_law 181 = .ok (.iaload, 1) := by decide +kernel
theorem dL_law_182 : decode cL_law 182 = .ok (.i2l, 1) := by decide +kernel
theorem dL_law_183 : decode cL_law 183 = .ok (.ldc2_w 19, 3) := by decide +kernel
theorem dL_law_186 : decode cL_law 186 = .ok (.land, 1) := by decide +kernel
theorem dL_law_187 : decode cL_law 187 = .ok (.lor, 1) := by decide +kernel
theorem dL_law_188 : decode cL_law 188 = .ok (.invokevirtual 21, 3) := by decide +kernel
theorem dL_law_191 : decode cL_law 191 = .ok (.aload_n 2, 1) := by decide +kernel
theorem dL_law_192 : decode cL_law 192 = .ok (.aload_n 0, 1) := by decide +kernel
theorem dL_law_193 : decode cL_law 193 = .ok (.iload 4, 2) := by decide +kernel
theorem dL_law_195 : decode cL_law 195 = .ok (.iconst 1, 1) := by decide +kernel
theorem dL_law_196 : decode cL_law 196 = .ok (.iadd, 1) := by decide +kernel
theorem dL_law_197 : decode cL_law 197 = .ok (.iaload, 1) := by decide +kernel
theorem dL_law_198 : decode cL_law 198 = .ok (.i2l, 1) := by decide +kernel
theorem dL_law_199 : decode cL_law 199 = .ok (.bipush 32, 2) := by decide +kernel
theorem dL_law_201 : decode cL_law 201 = .ok (.lshl, 1) := by decide +kernel
theorem dL_law_202 : decode cL_law 202 = .ok (.aload_n 0, 1) := by decide +kernel
theorem dL_law_203 : decode cL_law 203 = .ok (.iload 4, 2) := by decide +kernel
theorem dL_law_205 : decode cL_law 205 = .ok (.iconst 2, 1) := by decide +kernel
theorem dL_law_206 : decode cL_law 206 = .ok (.iadd, 1) := by decide +kernel
theorem dL_law_207 : decode cL_law 207 = .ok (.iaload, 1) := by decide +kernel
theorem dL_law_208 : decode cL_law 208 = .ok (.i2l, 1) := by decide +kernel
theorem dL_law_209 : decode cL_law 209 = .ok (.ldc2_w 19, 3) := by decide +kernel
theorem dL_law_212 : decode cL_law 212 = .ok (.land, 1) := by decide +kernel
theorem dL_law_213 : decode cL_law 213 = .ok (.lor, 1) := by decide +kernel
theorem dL_law_214 : decode cL_law 214 = .ok (.aload_n 0, 1) := by decide +kernel
theorem dL_law_215 : decode cL_law 215 = .ok (.iload 4, 2) := by decide +kernel
theorem dL_law_217 : decode cL_law 217 = .ok (.iconst 3, 1) := by decide +kernel
theorem dL_law_218 : decode cL_law 218 = .ok (.iadd, 1) := by decide +kernel
theorem dL_law_219 : decode cL_law 219 = .ok (.iaload, 1) := by decide +kernel
theorem dL_law_220 : decode cL_law 220 = .ok (.i2l, 1) := by decide +kernel
theorem dL_law_221 : decode cL_law 221 = .ok (.bipush 32, 2) := by decide +kernel
theorem dL_law_223 : decode cL_law 223 = .ok (.lshl, 1) := by decide +kernel
theorem dL_law_224 : decode cL_law 224 = .ok (.aload_n 0, 1) := by decide +kernel
theorem dL_law_225 : decode cL_law 225 = .ok (.iload 4, 2) := by decide +kernel
theorem dL_law_227 : decode cL_law 227 = .ok (.iconst 4, 1) := by decide +kernel
theorem dL_law_228 : decode cL_law 228 = .ok (.iadd, 1) := by decide +kernel
theorem dL_law_229 : decode cL_law 229 = .ok (.iaload, 1) := by decide +kernel
theorem dL_law_230 : decode cL_law 230 = .ok (.i2l, 1) := by decide +kernel
theorem dL_law_231 : decode cL_law 231 = .ok (.ldc2_w 19, 3) := by decide +kernel
theorem dL_law_234 : decode cL_law 234 = .ok (.land, 1) := by decide +kernel
theorem dL_law_235 : decode cL_law 235 = .ok (.lor, 1) := by decide +kernel
theorem dL_law_236 : decode cL_law 236 = .ok (.aload_n 0, 1) := by decide +kernel
theorem dL_law_237 : decode cL_law 237 = .ok (.iload 4, 2) := by decide +kernel
theorem dL_law_239 : decode cL_law 239 = .ok (.iconst 5, 1) := by decide +kernel
theorem dL_law_240 : decode cL_law 240 = .ok (.iadd, 1) := by decide +kernel
theorem dL_law_241 : decode cL_law 241 = .ok (.iaload, 1) := by decide +kernel
theorem dL_law_242 : decode cL_law 242 = .ok (.i2l, 1) := by decide +kernel
theorem dL_law_243 : decode cL_law 243 = .ok (.bipush 32, 2) := by decide +kernel
theorem dL_law_245 : decode cL_law 245 = .ok (.lshl, 1) := by decide +kernel
theorem dL_law_246 : decode cL_law 246 = .ok (.aload_n 0, 1) := by decide +kernel
theorem dL_law_247 : decode cL_law 247 = .ok (.iload 4, 2) := by decide +kernel
theorem dL_law_249 : decode cL_law 249 = .ok (.bipush 6, 2) := by decide +kernel
theorem dL_law_251 : decode cL_law 251 = .ok (.iadd, 1) := by decide +kernel
theorem dL_law_252 : decode cL_law 252 = .ok (.iaload, 1) := by decide +kernel
theorem dL_law_253 : decode cL_law 253 = .ok (.i2l, 1) := by decide +kernel
theorem dL_law_254 : decode cL_law 254 = .ok (.ldc2_w 19, 3) := by decide +kernel
theorem dL_law_257 : decode cL_law 257 = .ok (.land, 1) := by decide +kernel
theorem dL_law_258 : decode cL_law 258 = .ok (.lor, 1) := by decide +kernel
theorem dL_law_259 : decode cL_law 259 = .ok (.invokevirtual 25, 3) := by decide +kernel
theorem dL_law_262 : decode cL_law 262 = .ok (.if_icmp .eq 483, 3) := by decide +kernel
theorem dL_law_265 : decode cL_law 265 = .ok (.iconst 0, 1) := by decide +kernel
theorem dL_law_266 : decode cL_law 266 = .ok (.ireturn, 1) := by decide +kernel
theorem dL_law_267 : decode cL_law 267 = .ok (.aload_n 1, 1) := by decide +kernel
theorem dL_law_268 : decode cL_law 268 = .ok (.invokevirtual 26, 3) := by decide +kernel
theorem dL_law_271 : decode cL_law 271 = .ok (.aload_n 2, 1) := by decide +kernel
theorem dL_law_272 : decode cL_law 272 = .ok (.invokevirtual 30, 3) := by decide +kernel
theorem dL_law_275 : decode cL_law 275 = .ok (.if_icmp .eq 470, 3) := by decide +kernel
theorem dL_law_278 : decode cL_law 278 = .ok (.iconst 0, 1) := by decide +kernel
theorem dL_law_279 : decode cL_law 279 = .ok (.ireturn, 1) := by decide +kernel
theorem dL_law_280 : decode cL_law 280 = .ok (.aload_n 1, 1) := by decide +kernel
theorem dL_law_281 : decode cL_law 281 = .ok (.aload_n 0, 1) := by decide +kernel
theorem dL_law_282 : decode cL_law 282 = .ok (.iload 4, 2) := by decide +kernel
theorem dL_law_284 : decode cL_law 284 = .ok (.iconst 1, 1) := by decide +kernel
theorem dL_law_285 : decode cL_law 285 = .ok (.iadd, 1) := by decide +kernel
theorem dL_law_286 : decode cL_law 286 = .ok (.iaload, 1) := by decide +kernel
theorem dL_law_287 : decode cL_law 287 = .ok (.aload_n 0, 1) := by decide +kernel
theorem dL_law_288 : decode cL_law 288 = .ok (.iload 4, 2) := by decide +kernel
theorem dL_law_290 : decode cL_law 290 = .ok (.iconst 2, 1) := by decide +kernel
theorem dL_law_291 : decode cL_law 291 = .ok (.iadd, 1) := by decide +kernel
theorem dL_law_292 : decode cL_law 292 = .ok (.iaload, 1) := by decide +kernel
theorem dL_law_293 : decode cL_law 293 = .ok (.invokevirtual 31, 3) := by decide +kernel
theorem dL_law_296 : decode cL_law 296 = .ok (.aload_n 2, 1) := by decide +kernel
theorem dL_law_297 : decode cL_law 297 = .ok (.aload_n 0, 1) := by decide +kernel
theorem dL_law_298 : decode cL_law 298 = .ok (.iload 4, 2) := by decide +kernel
theorem dL_law_300 : decode cL_law 300 = .ok (.iconst 1, 1) := by decide +kernel
theorem dL_law_301 : decode cL_law 301 = .ok (.iadd, 1) := by decide +kernel
theorem dL_law_302 : decode cL_law 302 = .ok (.iaload, 1) := by decide +kernel
theorem dL_law_303 : decode cL_law 303 = .ok (.aload_n 0, 1) := by decide +kernel
theorem dL_law_304 : decode cL_law 304 = .ok (.iload 4, 2) := by decide +kernel
theorem dL_law_306 : decode cL_law 306 = .ok (.iconst 2, 1) := by decide +kernel
theorem dL_law_307 : decode cL_law 307 = .ok (.iadd, 1) := by decide +kernel
theorem dL_law_308 : decode cL_law 308 = .ok (.iaload, 1) := by decide +kernel
theorem dL_law_309 : decode cL_law 309 = .ok (.invokevirtual 34, 3) := by decide +kernel
theorem dL_law_312 : decode cL_law 312 = .ok (.if_icmp .eq 433, 3) := by decide +kernel
theorem dL_law_315 : decode cL_law 315 = .ok (.iconst 0, 1) := by decide +kernel
theorem dL_law_316 : decode cL_law 316 = .ok (.ireturn, 1) := by decide +kernel
theorem dL_law_317 : decode cL_law 317 = .ok (.aload_n 1, 1) := by decide +kernel
theorem dL_law_318 : decode cL_law 318 = .ok (.aload_n 0, 1) := by decide +kernel
theorem dL_law_319 : decode cL_law 319 = .ok (.iload 4, 2) := by decide +kernel
theorem dL_law_321 : decode cL_law 321 = .ok (.iconst 1, 1) := by decide +kernel
theorem dL_law_322 : decode cL_law 322 = .ok (.iadd, 1) := by decide +kernel
theorem dL_law_323 : decode cL_law 323 = .ok (.iaload, 1) := by decide +kernel
theorem dL_law_324 : decode cL_law 324 = .ok (.aload_n 0, 1) := by decide +kernel
theorem dL_law_325 : decode cL_law 325 = .ok (.iload 4, 2) := by decide +kernel
theorem dL_law_327 : decode cL_law 327 = .ok (.iconst 2, 1) := by decide +kernel
theorem dL_law_328 : decode cL_law 328 = .ok (.iadd, 1) := by decide +kernel
theorem dL_law_329 : decode cL_law 329 = .ok (.iaload, 1) := by decide +kernel
theorem dL_law_330 : decode cL_law 330 = .ok (.aload_n 0, 1) := by decide +kernel
theorem dL_law_331 : decode cL_law 331 = .ok (.iload 4, 2) := by decide +kernel
theorem dL_law_333 : decode cL_law 333 = .ok (.iconst 3, 1) := by decide +kernel
theorem dL_law_334 : decode cL_law 334 = .ok (.iadd, 1) := by decide +kernel
theorem dL_law_335 : decode cL_law 335 = .ok (.iaload, 1) := by decide +kernel
theorem dL_law_336 : decode cL_law 336 = .ok (.invokevirtual 35, 3) := by decide +kernel
theorem dL_law_339 : decode cL_law 339 = .ok (.aload_n 2, 1) := by decide +kernel
theorem dL_law_340 : decode cL_law 340 = .ok (.aload_n 0, 1) := by decide +kernel
theorem dL_law_341 : decode cL_law 341 = .ok (.iload 4, 2) := by decide +kernel
theorem dL_law_343 : decode cL_law 343 = .ok (.iconst 1, 1) := by decide +kernel
theorem dL_law_344 : decode cL_law 344 = .ok (.iadd, 1) := by decide +kernel
theorem dL_law_345 : decode cL_law 345 = .ok (.iaload, 1) := by decide +kernel
theorem dL_law_346 : decode cL_law 346 = .ok (.aload_n 0, 1) := by decide +kernel
theorem dL_law_347 : decode cL_law 347 = .ok (.iload 4, 2) := by decide +kernel
theorem dL_law_349 : decode cL_law 349 = .ok (.iconst 2, 1) := by decide +kernel
theorem dL_law_350 : decode cL_law 350 = .ok (.iadd, 1) := by decide +kernel
theorem dL_law_351 : decode cL_law 351 = .ok (.iaload, 1) := by decide +kernel
theorem dL_law_352 : decode cL_law 352 = .ok (.aload_n 0, 1) := by decide +kernel
theorem dL_law_353 : decode cL_law 353 = .ok (.iload 4, 2) := by decide +kernel
theorem dL_law_355 : decode cL_law 355 = .ok (.iconst 3, 1) := by decide +kernel
theorem dL_law_356 : decode cL_law 356 = .ok (.iadd, 1) := by decide +kernel
theorem dL_law_357 : decode cL_law 357 = .ok (.iaload, 1) := by decide +kernel
theorem dL_law_358 : decode cL_law 358 = .ok (.invokevirtual 39, 3) := by decide +kernel
theorem dL_law_361 : decode cL_law 361 = .ok (.if_icmp .eq 384, 3) := by decide +kernel
theorem dL_law_364 : decode cL_law 364 = .ok (.iconst 0, 1) := by decide +kernel
theorem dL_law_365 : decode cL_law 365 = .ok (.ireturn, 1) := by decide +kernel
theorem dL_law_366 : decode cL_law 366 = .ok (.aload_n 1, 1) := by decide +kernel
theorem dL_law_367 : decode cL_law 367 = .ok (.invokevirtual 40, 3) := by decide +kernel
theorem dL_law_370 : decode cL_law 370 = .ok (.aload_n 2, 1) := by decide +kernel
theorem dL_law_371 : decode cL_law 371 = .ok (.invokevirtual 43, 3) := by decide +kernel
theorem dL_law_374 : decode cL_law 374 = .ok (.if_icmp .eq 371, 3) := by decide +kernel
theorem dL_law_377 : decode cL_law 377 = .ok (.iconst 0, 1) := by decide +kernel
theorem dL_law_378 : decode cL_law 378 = .ok (.ireturn, 1) := by decide +kernel
theorem dL_law_379 : decode cL_law 379 = .ok (.aload_n 1, 1) := by decide +kernel
theorem dL_law_380 : decode cL_law 380 = .ok (.aload_n 0, 1) := by decide +kernel
theorem dL_law_381 : decode cL_law 381 = .ok (.iload 4, 2) := by decide +kernel
theorem dL_law_383 : decode cL_law 383 = .ok (.iconst 1, 1) := by decide +kernel
theorem dL_law_384 : decode cL_law 384 = .ok (.iadd, 1) := by decide +kernel
theorem dL_law_385 : decode cL_law 385 = .ok (.iaload, 1) := by decide +kernel
theorem dL_law_386 : decode cL_law 386 = .ok (.invokevirtual 44, 3) := by decide +kernel
theorem dL_law_389 : decode cL_law 389 = .ok (.aload_n 2, 1) := by decide +kernel
theorem dL_law_390 : decode cL_law 390 = .ok (.aload_n 0, 1) := by decide +kernel
theorem dL_law_391 : decode cL_law 391 = .ok (.iload 4, 2) := by decide +kernel
theorem dL_law_393 : decode cL_law 393 = .ok (.iconst 1, 1) := by decide +kernel
theorem dL_law_394 : decode cL_law 394 = .ok (.iadd, 1) := by decide +kernel
theorem dL_law_395 : decode cL_law 395 = .ok (.iaload, 1) := by decide +kernel
theorem dL_law_396 : decode cL_law 396 = .ok (.invokevirtual 48, 3) := by decide +kernel
theorem dL_law_399 : decode cL_law 399 = .ok (.if_icmp .eq 346, 3) := by decide +kernel
theorem dL_law_402 : decode cL_law 402 = .ok (.iconst 0, 1) := by decide +kernel
theorem dL_law_403 : decode cL_law 403 = .ok (.ireturn, 1) := by decide +kernel
theorem dL_law_404 : decode cL_law 404 = .ok (.aload_n 1, 1) := by decide +kernel
theorem dL_law_405 : decode cL_law 405 = .ok (.aload_n 0, 1) := by decide +kernel
theorem dL_law_406 : decode cL_law 406 = .ok (.iload 4, 2) := by decide +kernel
theorem dL_law_408 : decode cL_law 408 = .ok (.iconst 1, 1) := by decide +kernel
theorem dL_law_409 : decode cL_law 409 = .ok (.iadd, 1) := by decide +kernel
theorem dL_law_410 : decode cL_law 410 = .ok (.iaload, 1) := by decide +kernel
theorem dL_law_411 : decode cL_law 411 = .ok (.aload_n 0, 1) := by decide +kernel
theorem dL_law_412 : decode cL_law 412 = .ok (.iload 4, 2) := by decide +kernel
theorem dL_law_414 : decode cL_law 414 = .ok (.iconst 2, 1) := by decide +kernel
theorem dL_law_415 : decode cL_law 415 = .ok (.iadd, 1) := by decide +kernel
theorem dL_law_416 : decode cL_law 416 = .ok (.iaload, 1) := by decide +kernel
theorem dL_law_417 : decode cL_law 417 = .ok (.invokevirtual 49, 3) := by decide +kernel
theorem dL_law_420 : decode cL_law 420 = .ok (.aload_n 2, 1) := by decide +kernel
theorem dL_law_421 : decode cL_law 421 = .ok (.aload_n 0, 1) := by decide +kernel
theorem dL_law_422 : decode cL_law 422 = .ok (.iload 4, 2) := by decide +kernel
theorem dL_law_424 : decode cL_law 424 = .ok (.iconst 1, 1) := by decide +kernel
theorem dL_law_425 : decode cL_law 425 = .ok (.iadd, 1) := by decide +kernel
theorem dL_law_426 : decode cL_law 426 = .ok (.iaload, 1) := by decide +kernel
theorem dL_law_427 : decode cL_law 427 = .ok (.aload_n 0, 1) := by decide +kernel
theorem dL_law_428 : decode cL_law 428 = .ok (.iload 4, 2) := by decide +kernel
theorem dL_law_430 : decode cL_law 430 = .ok (.iconst 2, 1) := by decide +kernel
theorem dL_law_431 : decode cL_law 431 = .ok (.iadd, 1) := by decide +kernel
theorem dL_law_432 : decode cL_law 432 = .ok (.iaload, 1) := by decide +kernel
theorem dL_law_433 : decode cL_law 433 = .ok (.invokevirtual 53, 3) := by decide +kernel
theorem dL_law_436 : decode cL_law 436 = .ok (.if_icmp .eq 309, 3) := by decide +kernel
theorem dL_law_439 : decode cL_law 439 = .ok (.iconst 0, 1) := by decide +kernel
theorem dL_law_440 : decode cL_law 440 = .ok (.ireturn, 1) := by decide +kernel
theorem dL_law_441 : decode cL_law 441 = .ok (.aload_n 1, 1) := by decide +kernel
theorem dL_law_442 : decode cL_law 442 = .ok (.aload_n 0, 1) := by decide +kernel
theorem dL_law_443 : decode cL_law 443 = .ok (.iload 4, 2) := by decide +kernel
theorem dL_law_445 : decode cL_law 445 = .ok (.iconst 1, 1) := by decide +kernel
theorem dL_law_446 : decode cL_law 446 = .ok (.iadd, 1) := by decide +kernel
theorem dL_law_447 : decode cL_law 447 = .ok (.iaload, 1) := by decide +kernel
theorem dL_law_448 : decode cL_law 448 = .ok (.aload_n 0, 1) := by decide +kernel
theorem dL_law_449 : decode cL_law 449 = .ok (.iload 4, 2) := by decide +kernel
theorem dL_law_451 : decode cL_law 451 = .ok (.iconst 2, 1) := by decide +kernel
theorem dL_law_452 : decode cL_law 452 = .ok (.iadd, 1) := by decide +kernel
theorem dL_law_453 : decode cL_law 453 = .ok (.iaload, 1) := by decide +kernel
theorem dL_law_454 : decode cL_law 454 = .ok (.invokevirtual 54, 3) := by decide +kernel
theorem dL_law_457 : decode cL_law 457 = .ok (.aload_n 2, 1) := by decide +kernel
theorem dL_law_458 : decode cL_law 458 = .ok (.aload_n 0, 1) := by decide +kernel
theorem dL_law_459 : decode cL_law 459 = .ok (.iload 4, 2) := by decide +kernel
theorem dL_law_461 : decode cL_law 461 = .ok (.iconst 1, 1) := by decide +kernel
theorem dL_law_462 : decode cL_law 462 = .ok (.iadd, 1) := by decide +kernel
theorem dL_law_463 : decode cL_law 463 = .ok (.iaload, 1) := by decide +kernel
theorem dL_law_464 : decode cL_law 464 = .ok (.aload_n 0, 1) := by decide +kernel
theorem dL_law_465 : decode cL_law 465 = .ok (.iload 4, 2) := by decide +kernel
theorem dL_law_467 : decode cL_law 467 = .ok (.iconst 2, 1) := by decide +kernel
theorem dL_law_468 : decode cL_law 468 = .ok (.iadd, 1) := by decide +kernel
theorem dL_law_469 : decode cL_law 469 = .ok (.iaload, 1) := by decide +kernel
theorem dL_law_470 : decode cL_law 470 = .ok (.invokevirtual 57, 3) := by decide +kernel
theorem dL_law_473 : decode cL_law 473 = .ok (.if_icmp .eq 272, 3) := by decide +kernel
theorem dL_law_476 : decode cL_law 476 = .ok (.iconst 0, 1) := by decide +kernel
theorem dL_law_477 : decode cL_law 477 = .ok (.ireturn, 1) := by decide +kernel
theorem dL_law_478 : decode cL_law 478 = .ok (.aload_n 1, 1) := by decide +kernel
theorem dL_law_479 : decode cL_law 479 = .ok (.invokevirtual 58, 3) := by decide +kernel
theorem dL_law_482 : decode cL_law 482 = .ok (.aload_n 2, 1) := by decide +kernel
theorem dL_law_483 : decode cL_law 483 = .ok (.invokevirtual 61, 3) := by decide +kernel
theorem dL_law_486 : decode cL_law 486 = .ok (.if_icmp .eq 259, 3) := by decide +kernel
theorem dL_law_489 : decode cL_law 489 = .ok (.iconst 0, 1) := by decide +kernel
theorem dL_law_490 : decode cL_law 490 = .ok (.ireturn, 1) := by decide +kernel
theorem dL_law_491 : decode cL_law 491 = .ok (.aload_n 1, 1) := by decide +kernel
theorem dL_law_492 : decode cL_law 492 = .ok (.aload_n 0, 1) := by decide +kernel
theorem dL_law_493 : decode cL_law 493 = .ok (.iload 4, 2) := by decide +kernel
theorem dL_law_495 : decode cL_law 495 = .ok (.iconst 1, 1) := by decide +kernel
theorem dL_law_496 : decode cL_law 496 = .ok (.iadd, 1) := by decide +kernel
theorem dL_law_497 : decode cL_law 497 = .ok (.iaload, 1) := by decide +kernel
theorem dL_law_498 : decode cL_law 498 = .ok (.aload_n 0, 1) := by decide +kernel
theorem dL_law_499 : decode cL_law 499 = .ok (.iload 4, 2) := by decide +kernel
theorem dL_law_501 : decode cL_law 501 = .ok (.iconst 2, 1) := by decide +kernel
theorem dL_law_502 : decode cL_law 502 = .ok (.iadd, 1) := by decide +kernel
theorem dL_law_503 : decode cL_law 503 = .ok (.iaload, 1) := by decide +kernel
theorem dL_law_504 : decode cL_law 504 = .ok (.aload_n 3, 1) := by decide +kernel
theorem dL_law_505 : decode cL_law 505 = .ok (.invokestatic 62, 3) := by decide +kernel
theorem dL_law_508 : decode cL_law 508 = .ok (.istore 5, 2) := by decide +kernel
theorem dL_law_510 : decode cL_law 510 = .ok (.aload_n 2, 1) := by decide +kernel
theorem dL_law_511 : decode cL_law 511 = .ok (.aload_n 0, 1) := by decide +kernel
theorem dL_law_512 : decode cL_law 512 = .ok (.iload 4, 2) := by decide +kernel
theorem dL_law_514 : decode cL_law 514 = .ok (.iconst 1, 1) := by decide +kernel
theorem dL_law_515 : decode cL_law 515 = .ok (.iadd, 1) := by decide +kernel
theorem dL_law_516 : decode cL_law 516 = .ok (.iaload, 1) := by decide +kernel
theorem dL_law_517 : decode cL_law 517 = .ok (.aload_n 0, 1) := by decide +kernel
theorem dL_law_518 : decode cL_law 518 = .ok (.iload 4, 2) := by decide +kernel
theorem dL_law_520 : decode cL_law 520 = .ok (.iconst 2, 1) := by decide +kernel
theorem dL_law_521 : decode cL_law 521 = .ok (.iadd, 1) := by decide +kernel
theorem dL_law_522 : decode cL_law 522 = .ok (.iaload, 1) := by decide +kernel
theorem dL_law_523 : decode cL_law 523 = .ok (.invokevirtual 67, 3) := by decide +kernel
theorem dL_law_526 : decode cL_law 526 = .ok (.istore 6, 2) := by decide +kernel
theorem dL_law_528 : decode cL_law 528 = .ok (.aload_n 2, 1) := by decide +kernel
theorem dL_law_529 : decode cL_law 529 = .ok (.invokevirtual 68, 3) := by decide +kernel
theorem dL_law_532 : decode cL_law 532 = .ok (.iload 5, 2) := by decide +kernel
theorem dL_law_534 : decode cL_law 534 = .ok (.if_icmp .eq 5, 3) := by decide +kernel
theorem dL_law_537 : decode cL_law 537 = .ok (.iconst 0, 1) := by decide +kernel
theorem dL_law_538 : decode cL_law 538 = .ok (.ireturn, 1) := by decide +kernel
theorem dL_law_539 : decode cL_law 539 = .ok (.iload 5, 2) := by decide +kernel
theorem dL_law_541 : decode cL_law 541 = .ok (.ifCond .ne 15, 3) := by decide +kernel
theorem dL_law_544 : decode cL_law 544 = .ok (.aload_n 3, 1) := by decide +kernel
theorem dL_law_545 : decode cL_law 545 = .ok (.iconst 0, 1) := by decide +kernel
theorem dL_law_546 : decode cL_law 546 = .ok (.laload, 1) := by decide +kernel
theorem dL_law_547 : decode cL_law 547 = .ok (.iload 6, 2) := by decide +kernel
theorem dL_law_549 : decode cL_law 549 = .ok (.i2l, 1) := by decide +kernel
theorem dL_law_550 : decode cL_law 550 = .ok (.lcmp, 1) := by decide +kernel
theorem dL_law_551 : decode cL_law 551 = .ok (.ifCond .eq 5, 3) := by decide +kernel
theorem dL_law_554 : decode cL_law 554 = .ok (.iconst 0, 1) := by decide +kernel
theorem dL_law_555 : decode cL_law 555 = .ok (.ireturn, 1) := by decide +kernel
theorem dL_law_556 : decode cL_law 556 = .ok (.goto 189, 3) := by decide +kernel
theorem dL_law_559 : decode cL_law 559 = .ok (.aload_n 1, 1) := by decide +kernel
theorem dL_law_560 : decode cL_law 560 = .ok (.aload_n 0, 1) := by decide +kernel
theorem dL_law_561 : decode cL_law 561 = .ok (.iload 4, 2) := by decide +kernel
theorem dL_law_563 : decode cL_law 563 = .ok (.iconst 1, 1) := by decide +kernel
theorem dL_law_564 : decode cL_law 564 = .ok (.iadd, 1) := by decide +kernel
theorem dL_law_565 : decode cL_law 565 = .ok (.iaload, 1) := by decide +kernel
theorem dL_law_566 : decode cL_law 566 = .ok (.aload_n 0, 1) := by decide +kernel
theorem dL_law_567 : decode cL_law 567 = .ok (.iload 4, 2) := by decide +kernel
theorem dL_law_569 : decode cL_law 569 = .ok (.iconst 2, 1) := by decide +kernel
theorem dL_law_570 : decode cL_law 570 = .ok (.iadd, 1) := by decide +kernel
theorem dL_law_571 : decode cL_law 571 = .ok (.iaload, 1) := by decide +kernel
theorem dL_law_572 : decode cL_law 572 = .ok (.invokevirtual 71, 3) := by decide +kernel
theorem dL_law_575 : decode cL_law 575 = .ok (.aload_n 2, 1) := by decide +kernel
theorem dL_law_576 : decode cL_law 576 = .ok (.aload_n 0, 1) := by decide +kernel
theorem dL_law_577 : decode cL_law 577 = .ok (.iload 4, 2) := by decide +kernel
theorem dL_law_579 : decode cL_law 579 = .ok (.iconst 1, 1) := by decide +kernel
theorem dL_law_580 : decode cL_law 580 = .ok (.iadd, 1) := by decide +kernel
theorem dL_law_581 : decode cL_law 581 = .ok (.iaload, 1) := by decide +kernel
theorem dL_law_582 : decode cL_law 582 = .ok (.aload_n 0, 1) := by decide +kernel
theorem dL_law_583 : decode cL_law 583 = .ok (.iload 4, 2) := by decide +kernel
theorem dL_law_585 : decode cL_law 585 = .ok (.iconst 2, 1) := by decide +kernel
theorem dL_law_586 : decode cL_law 586 = .ok (.iadd, 1) := by decide +kernel
theorem dL_law_587 : decode cL_law 587 = .ok (.iaload, 1) := by decide +kernel
theorem dL_law_588 : decode cL_law 588 = .ok (.invokevirtual 74, 3) := by decide +kernel
theorem dL_law_591 : decode cL_law 591 = .ok (.if_icmp .eq 154, 3) := by decide +kernel
theorem dL_law_594 : decode cL_law 594 = .ok (.iconst 0, 1) := by decide +kernel
theorem dL_law_595 : decode cL_law 595 = .ok (.ireturn, 1) := by decide +kernel
theorem dL_law_596 : decode cL_law 596 = .ok (.aload_n 1, 1) := by decide +kernel
theorem dL_law_597 : decode cL_law 597 = .ok (.aload_n 0, 1) := by decide +kernel
theorem dL_law_598 : decode cL_law 598 = .ok (.iload 4, 2) := by decide +kernel
theorem dL_law_600 : decode cL_law 600 = .ok (.iconst 1, 1) := by decide +kernel
theorem dL_law_601 : decode cL_law 601 = .ok (.iadd, 1) := by decide +kernel
theorem dL_law_602 : decode cL_law 602 = .ok (.iaload, 1) := by decide +kernel
theorem dL_law_603 : decode cL_law 603 = .ok (.aload_n 0, 1) := by decide +kernel
theorem dL_law_604 : decode cL_law 604 = .ok (.iload 4, 2) := by decide +kernel
theorem dL_law_606 : decode cL_law 606 = .ok (.iconst 2, 1) := by decide +kernel
theorem dL_law_607 : decode cL_law 607 = .ok (.iadd, 1) := by decide +kernel
theorem dL_law_608 : decode cL_law 608 = .ok (.iaload, 1) := by decide +kernel
theorem dL_law_609 : decode cL_law 609 = .ok (.invokevirtual 75, 3) := by decide +kernel
theorem dL_law_612 : decode cL_law 612 = .ok (.aload_n 2, 1) := by decide +kernel
theorem dL_law_613 : decode cL_law 613 = .ok (.aload_n 0, 1) := by decide +kernel
theorem dL_law_614 : decode cL_law 614 = .ok (.iload 4, 2) := by decide +kernel
theorem dL_law_616 : decode cL_law 616 = .ok (.iconst 1, 1) := by decide +kernel
theorem dL_law_617 : decode cL_law 617 = .ok (.iadd, 1) := by decide +kernel
theorem dL_law_618 : decode cL_law 618 = .ok (.iaload, 1) := by decide +kernel
theorem dL_law_619 : decode cL_law 619 = .ok (.aload_n 0, 1) := by decide +kernel
theorem dL_law_620 : decode cL_law 620 = .ok (.iload 4, 2) := by decide +kernel
theorem dL_law_622 : decode cL_law 622 = .ok (.iconst 2, 1) := by decide +kernel
theorem dL_law_623 : decode cL_law 623 = .ok (.iadd, 1) := by decide +kernel
theorem dL_law_624 : decode cL_law 624 = .ok (.iaload, 1) := by decide +kernel
theorem dL_law_625 : decode cL_law 625 = .ok (.invokevirtual 78, 3) := by decide +kernel
theorem dL_law_628 : decode cL_law 628 = .ok (.if_icmp .eq 117, 3) := by decide +kernel
theorem dL_law_631 : decode cL_law 631 = .ok (.iconst 0, 1) := by decide +kernel
theorem dL_law_632 : decode cL_law 632 = .ok (.ireturn, 1) := by decide +kernel
theorem dL_law_633 : decode cL_law 633 = .ok (.aload_n 1, 1) := by decide +kernel
theorem dL_law_634 : decode cL_law 634 = .ok (.invokevirtual 79, 3) := by decide +kernel
theorem dL_law_637 : decode cL_law 637 = .ok (.aload_n 2, 1) := by decide +kernel
theorem dL_law_638 : decode cL_law 638 = .ok (.invokevirtual 82, 3) := by decide +kernel
theorem dL_law_641 : decode cL_law 641 = .ok (.if_icmp .eq 104, 3) := by decide +kernel
theorem dL_law_644 : decode cL_law 644 = .ok (.iconst 0, 1) := by decide +kernel
theorem dL_law_645 : decode cL_law 645 = .ok (.ireturn, 1) := by decide +kernel
theorem dL_law_646 : decode cL_law 646 = .ok (.aload_n 1, 1) := by decide +kernel
theorem dL_law_647 : decode cL_law 647 = .ok (.aload_n 0, 1) := by decide +kernel
theorem dL_law_648 : decode cL_law 648 = .ok (.iload 4, 2) := by decide +kernel
theorem dL_law_650 : decode cL_law 650 = .ok (.iconst 1, 1) := by decide +kernel
theorem dL_law_651 : decode cL_law 651 = .ok (.iadd, 1) := by decide +kernel
theorem dL_law_652 : decode cL_law 652 = .ok (.iaload, 1) := by decide +kernel
theorem dL_law_653 : decode cL_law 653 = .ok (.invokevirtual 83, 3) := by decide +kernel
theorem dL_law_656 : decode cL_law 656 = .ok (.aload_n 2, 1) := by decide +kernel
theorem dL_law_657 : decode cL_law 657 = .ok (.aload_n 0, 1) := by decide +kernel
theorem dL_law_658 : decode cL_law 658 = .ok (.iload 4, 2) := by decide +kernel
theorem dL_law_660 : decode cL_law 660 = .ok (.iconst 1, 1) := by decide +kernel
theorem dL_law_661 : decode cL_law 661 = .ok (.iadd, 1) := by decide +kernel
theorem dL_law_662 : decode cL_law 662 = .ok (.iaload, 1) := by decide +kernel
theorem dL_law_663 : decode cL_law 663 = .ok (.invokevirtual 86, 3) := by decide +kernel
theorem dL_law_666 : decode cL_law 666 = .ok (.if_icmp .eq 79, 3) := by decide +kernel
theorem dL_law_669 : decode cL_law 669 = .ok (.iconst 0, 1) := by decide +kernel
theorem dL_law_670 : decode cL_law 670 = .ok (.ireturn, 1) := by decide +kernel
theorem dL_law_671 : decode cL_law 671 = .ok (.aload_n 1, 1) := by decide +kernel
theorem dL_law_672 : decode cL_law 672 = .ok (.aload_n 0, 1) := by decide +kernel
theorem dL_law_673 : decode cL_law 673 = .ok (.iload 4, 2) := by decide +kernel
theorem dL_law_675 : decode cL_law 675 = .ok (.iconst 1, 1) := by decide +kernel
theorem dL_law_676 : decode cL_law 676 = .ok (.iadd, 1) := by decide +kernel
theorem dL_law_677 : decode cL_law 677 = .ok (.iaload, 1) := by decide +kernel
theorem dL_law_678 : decode cL_law 678 = .ok (.aload_n 0, 1) := by decide +kernel
theorem dL_law_679 : decode cL_law 679 = .ok (.iload 4, 2) := by decide +kernel
theorem dL_law_681 : decode cL_law 681 = .ok (.iconst 2, 1) := by decide +kernel
theorem dL_law_682 : decode cL_law 682 = .ok (.iadd, 1) := by decide +kernel
theorem dL_law_683 : decode cL_law 683 = .ok (.iaload, 1) := by decide +kernel
theorem dL_law_684 : decode cL_law 684 = .ok (.aload_n 0, 1) := by decide +kernel
theorem dL_law_685 : decode cL_law 685 = .ok (.iload 4, 2) := by decide +kernel
theorem dL_law_687 : decode cL_law 687 = .ok (.iconst 3, 1) := by decide +kernel
theorem dL_law_688 : decode cL_law 688 = .ok (.iadd, 1) := by decide +kernel
theorem dL_law_689 : decode cL_law 689 = .ok (.iaload, 1) := by decide +kernel
theorem dL_law_690 : decode cL_law 690 = .ok (.invokevirtual 87, 3) := by decide +kernel
theorem dL_law_693 : decode cL_law 693 = .ok (.aload_n 2, 1) := by decide +kernel
theorem dL_law_694 : decode cL_law 694 = .ok (.aload_n 0, 1) := by decide +kernel
theorem dL_law_695 : decode cL_law 695 = .ok (.iload 4, 2) := by decide +kernel
theorem dL_law_697 : decode cL_law 697 = .ok (.iconst 1, 1) := by decide +kernel
theorem dL_law_698 : decode cL_law 698 = .ok (.iadd, 1) := by decide +kernel
theorem dL_law_699 : decode cL_law 699 = .ok (.iaload, 1) := by decide +kernel
theorem dL_law_700 : decode cL_law 700 = .ok (.aload_n 0, 1) := by decide +kernel
theorem dL_law_701 : decode cL_law 701 = .ok (.iload 4, 2) := by decide +kernel
theorem dL_law_703 : decode cL_law 703 = .ok (.iconst 2, 1) := by decide +kernel
theorem dL_law_704 : decode cL_law 704 = .ok (.iadd, 1) := by decide +kernel
theorem dL_law_705 : decode cL_law 705 = .ok (.iaload, 1) := by decide +kernel
theorem dL_law_706 : decode cL_law 706 = .ok (.aload_n 0, 1) := by decide +kernel
theorem dL_law_707 : decode cL_law 707 = .ok (.iload 4, 2) := by decide +kernel
theorem dL_law_709 : decode cL_law 709 = .ok (.iconst 3, 1) := by decide +kernel
theorem dL_law_710 : decode cL_law 710 = .ok (.iadd, 1) := by decide +kernel
theorem dL_law_711 : decode cL_law 711 = .ok (.iaload, 1) := by decide +kernel
theorem dL_law_712 : decode cL_law 712 = .ok (.invokevirtual 91, 3) := by decide +kernel
theorem dL_law_715 : decode cL_law 715 = .ok (.if_icmp .eq 30, 3) := by decide +kernel
theorem dL_law_718 : decode cL_law 718 = .ok (.iconst 0, 1) := by decide +kernel
theorem dL_law_719 : decode cL_law 719 = .ok (.ireturn, 1) := by decide +kernel
theorem dL_law_720 : decode cL_law 720 = .ok (.aload_n 1, 1) := by decide +kernel
theorem dL_law_721 : decode cL_law 721 = .ok (.aload_n 0, 1) := by decide +kernel
theorem dL_law_722 : decode cL_law 722 = .ok (.iload 4, 2) := by decide +kernel
theorem dL_law_724 : decode cL_law 724 = .ok (.iconst 1, 1) := by decide +kernel
theorem dL_law_725 : decode cL_law 725 = .ok (.iadd, 1) := by decide +kernel
theorem dL_law_726 : decode cL_law 726 = .ok (.iaload, 1) := by decide +kernel
theorem dL_law_727 : decode cL_law 727 = .ok (.invokevirtual 92, 3) := by decide +kernel
theorem dL_law_730 : decode cL_law 730 = .ok (.aload_n 2, 1) := by decide +kernel
theorem dL_law_731 : decode cL_law 731 = .ok (.aload_n 0, 1) := by decide +kernel
theorem dL_law_732 : decode cL_law 732 = .ok (.iload 4, 2) := by decide +kernel
theorem dL_law_734 : decode cL_law 734 = .ok (.iconst 1, 1) := by decide +kernel
theorem dL_law_735 : decode cL_law 735 = .ok (.iadd, 1) := by decide +kernel
theorem dL_law_736 : decode cL_law 736 = .ok (.iaload, 1) := by decide +kernel
theorem dL_law_737 : decode cL_law 737 = .ok (.invokevirtual 95, 3) := by decide +kernel
