theorem dX9_links_0 : decode cX9_links 0 = .ok (.iconst 0, 1) := by decide +kernel
theorem dX9_links_1 : decode cX9_links 1 = .ok (.istore_n 2, 1) := by decide +kernel
theorem dX9_links_2 : decode cX9_links 2 = .ok (.iload_n 2, 1) := by decide +kernel
theorem dX9_links_3 : decode cX9_links 3 = .ok (.aload_n 0, 1) := by decide +kernel
theorem dX9_links_4 : decode cX9_links 4 = .ok (.getfield 51, 3) := by decide +kernel
theorem dX9_links_7 : decode cX9_links 7 = .ok (.iconst 2, 1) := by decide +kernel
theorem dX9_links_8 : decode cX9_links 8 = .ok (.iaload, 1) := by decide +kernel
theorem dX9_links_9 : decode cX9_links 9 = .ok (.if_icmp .ge 92, 3) := by decide +kernel
theorem dX9_links_12 : decode cX9_links 12 = .ok (.aload_n 0, 1) := by decide +kernel
theorem dX9_links_13 : decode cX9_links 13 = .ok (.getfield 66, 3) := by decide +kernel
theorem dX9_links_16 : decode cX9_links 16 = .ok (.bipush 48, 2) := by decide +kernel
theorem dX9_links_18 : decode cX9_links 18 = .ok (.iload_n 2, 1) := by decide +kernel
theorem dX9_links_19 : decode cX9_links 19 = .ok (.iadd, 1) := by decide +kernel
theorem dX9_links_20 : decode cX9_links 20 = .ok (.baload, 1) := by decide +kernel
theorem dX9_links_21 : decode cX9_links 21 = .ok (.ifCond .eq 7, 3) := by decide +kernel
theorem dX9_links_24 : decode cX9_links 24 = .ok (.iconst 1, 1) := by decide +kernel
theorem dX9_links_25 : decode cX9_links 25 = .ok (.goto 4, 3) := by decide +kernel
theorem dX9_links_28 : decode cX9_links 28 = .ok (.iconst (-1), 1) := by decide +kernel
theorem dX9_links_29 : decode cX9_links 29 = .ok (.istore_n 3, 1) := by decide +kernel
theorem dX9_links_30 : decode cX9_links 30 = .ok (.aload_n 0, 1) := by decide +kernel
theorem dX9_links_31 : decode cX9_links 31 = .ok (.iload_n 1, 1) := by decide +kernel
theorem dX9_links_32 : decode cX9_links 32 = .ok (.iload_n 2, 1) := by decide +kernel
theorem dX9_links_33 : decode cX9_links 33 = .ok (.iconst 1, 1) := by decide +kernel
theorem dX9_links_34 : decode cX9_links 34 = .ok (.invokevirtual 210, 3) := by decide +kernel
theorem dX9_links_37 : decode cX9_links 37 = .ok (.istore 4, 2) := by decide +kernel
theorem dX9_links_39 : decode cX9_links 39 = .ok (.aload_n 0, 1) := by decide +kernel
theorem dX9_links_40 : decode cX9_links 40 = .ok (.iload_n 1, 1) := by decide +kernel
theorem dX9_links_41 : decode cX9_links 41 = .ok (.iload_n 2, 1) := by decide +kernel
theorem dX9_links_42 : decode cX9_links 42 = .ok (.iconst 0, 1) := by decide +kernel
theorem dX9_links_43 : decode cX9_links 43 = .ok (.invokevirtual 210, 3) := by decide +kernel
theorem dX9_links_46 : decode cX9_links 46 = .ok (.istore 5, 2) := by decide +kernel
theorem dX9_links_48 : decode cX9_links 48 = .ok (.iload 4, 2) := by decide +kernel
theorem dX9_links_50 : decode cX9_links 50 = .ok (.ifCond .lt 21, 3) := by decide +kernel
theorem dX9_links_53 : decode cX9_links 53 = .ok (.aload_n 0, 1) := by decide +kernel
theorem dX9_links_54 : decode cX9_links 54 = .ok (.getfield 70, 3) := by decide +kernel
theorem dX9_links_57 : decode cX9_links 57 = .ok (.iload 4, 2) := by decide +kernel
theorem dX9_links_59 : decode cX9_links 59 = .ok (.baload, 1) := by decide +kernel
theorem dX9_links_60 : decode cX9_links 60 = .ok (.ifCond .eq 11, 3) := by decide +kernel
theorem dX9_links_63 : decode cX9_links 63 = .ok (.aload_n 0, 1) := by decide +kernel
theorem dX9_links_64 : decode cX9_links 64 = .ok (.iload_n 1, 1) := by decide +kernel
theorem dX9_links_65 : decode cX9_links 65 = .ok (.iload 4, 2) := by decide +kernel
theorem dX9_links_67 : decode cX9_links 67 = .ok (.iload_n 3, 1) := by decide +kernel
theorem dX9_links_68 : decode cX9_links 68 = .ok (.invokevirtual 214, 3) := by decide +kernel
theorem dX9_links_71 : decode cX9_links 71 = .ok (.iload 5, 2) := by decide +kernel
theorem dX9_links_73 : decode cX9_links 73 = .ok (.ifCond .lt 22, 3) := by decide +kernel
theorem dX9_links_76 : decode cX9_links 76 = .ok (.aload_n 0, 1) := by decide +kernel
theorem dX9_links_77 : decode cX9_links 77 = .ok (.getfield 70, 3) := by decide +kernel
theorem dX9_links_80 : decode cX9_links 80 = .ok (.iload 5, 2) := by decide +kernel
theorem dX9_links_82 : decode cX9_links 82 = .ok (.baload, 1) := by decide +kernel
theorem dX9_links_83 : decode cX9_links 83 = .ok (.ifCond .eq 12, 3) := by decide +kernel
theorem dX9_links_86 : decode cX9_links 86 = .ok (.aload_n 0, 1) := by decide +kernel
theorem dX9_links_87 : decode cX9_links 87 = .ok (.iload_n 1, 1) := by decide +kernel
theorem dX9_links_88 : decode cX9_links 88 = .ok (.iload 5, 2) := by decide +kernel
theorem dX9_links_90 : decode cX9_links 90 = .ok (.iload_n 3, 1) := by decide +kernel
theorem dX9_links_91 : decode cX9_links 91 = .ok (.ineg, 1) := by decide +kernel
theorem dX9_links_92 : decode cX9_links 92 = .ok (.invokevirtual 214, 3) := by decide +kernel
theorem dX9_links_95 : decode cX9_links 95 = .ok (.iinc 2 1, 3) := by decide +kernel
theorem dX9_links_98 : decode cX9_links 98 = .ok (.goto (-96), 3) := by decide +kernel
theorem dX9_links_101 : decode cX9_links 101 = .ok (.return_, 1) := by decide +kernel
theorem dX9_lay__0 : decode cX9_lay_ 0 = .ok (.aload_n 0, 1) := by decide +kernel
theorem dX9_lay__1 : decode cX9_lay_ 1 = .ok (.iconst 0, 1) := by decide +kernel
theorem dX9_lay__2 : decode cX9_lay_ 2 = .ok (.putfield 1, 3) := by decide +kernel
theorem dX9_lay__5 : decode cX9_lay_ 5 = .ok (.aload_n 0, 1) := by decide +kernel
theorem dX9_lay__6 : decode cX9_lay_ 6 = .ok (.getfield 45, 3) := by decide +kernel
theorem dX9_lay__9 : decode cX9_lay_ 9 = .ok (.iconst 0, 1) := by decide +kernel
theorem dX9_lay__10 : decode cX9_lay_ 10 = .ok (.iaload, 1) := by decide +kernel
theorem dX9_lay__11 : decode cX9_lay_ 11 = .ok (.ifCond .eq 41, 3) := by decide +kernel
theorem dX9_lay__14 : decode cX9_lay_ 14 = .ok (.iload_n 1, 1) := by decide +kernel
theorem dX9_lay__15 : decode cX9_lay_ 15 = .ok (.iconst 1, 1) := by decide +kernel
theorem dX9_lay__16 : decode cX9_lay_ 16 = .ok (.if_icmp .lt 36, 3) := by decide +kernel
theorem dX9_lay__19 : decode cX9_lay_ 19 = .ok (.iload_n 1, 1) := by decide +kernel
theorem dX9_lay__20 : decode cX9_lay_ 20 = .ok (.bipush 12, 2) := by decide +kernel
theorem dX9_lay__22 : decode cX9_lay_ 22 = .ok (.if_icmp .gt 30, 3) := by decide +kernel
theorem dX9_lay__25 : decode cX9_lay_ 25 = .ok (.iload_n 2, 1) := by decide +kernel
theorem dX9_lay__26 : decode cX9_lay_ 26 = .ok (.iconst 1, 1) := by decide +kernel
theorem dX9_lay__27 : decode cX9_lay_ 27 = .ok (.if_icmp .lt 25, 3) := by decide +kernel
theorem dX9_lay__30 : decode cX9_lay_ 30 = .ok (.iload_n 2, 1) := by decide +kernel
theorem dX9_lay__31 : decode cX9_lay_ 31 = .ok (.bipush 12, 2) := by decide +kernel
theorem dX9_lay__33 : decode cX9_lay_ 33 = .ok (.if_icmp .gt 19, 3) := by decide +kernel
theorem dX9_lay__36 : decode cX9_lay_ 36 = .ok (.iload_n 1, 1) := by decide +kernel
theorem dX9_lay__37 : decode cX9_lay_ 37 = .ok (.iload_n 2, 1) := by decide +kernel
theorem dX9_lay__38 : decode cX9_lay_ 38 = .ok (.imul, 1) := by decide +kernel
theorem dX9_lay__39 : decode cX9_lay_ 39 = .ok (.aload_n 0, 1) := by decide +kernel
theorem dX9_lay__40 : decode cX9_lay_ 40 = .ok (.getfield 45, 3) := by decide +kernel
theorem dX9_lay__43 : decode cX9_lay_ 43 = .ok (.iconst 0, 1) := by decide +kernel
theorem dX9_lay__44 : decode cX9_lay_ 44 = .ok (.iaload, 1) := by decide +kernel
theorem dX9_lay__45 : decode cX9_lay_ 45 = .ok (.imul, 1) := by decide +kernel
theorem dX9_lay__46 : decode cX9_lay_ 46 = .ok (.sipush 240, 3) := by decide +kernel
theorem dX9_lay__49 : decode cX9_lay_ 49 = .ok (.if_icmp .le 5, 3) := by decide +kernel
theorem dX9_lay__52 : decode cX9_lay_ 52 = .ok (.iconst (-1), 1) := by decide +kernel
theorem dX9_lay__53 : decode cX9_lay_ 53 = .ok (.ireturn, 1) := by decide +kernel
theorem dX9_lay__54 : decode cX9_lay_ 54 = .ok (.aload_n 0, 1) := by decide +kernel
theorem dX9_lay__55 : decode cX9_lay_ 55 = .ok (.iconst 0, 1) := by decide +kernel
theorem dX9_lay__56 : decode cX9_lay_ 56 = .ok (.iconst 2, 1) := by decide +kernel
theorem dX9_lay__57 : decode cX9_lay_ 57 = .ok (.invokevirtual 170, 3) := by decide +kernel
theorem dX9_lay__60 : decode cX9_lay_ 60 = .ok (.aload_n 0, 1) := by decide +kernel
theorem dX9_lay__61 : decode cX9_lay_ 61 = .ok (.iload_n 1, 1) := by decide +kernel
theorem dX9_lay__62 : decode cX9_lay_ 62 = .ok (.putfield 204, 3) := by decide +kernel
theorem dX9_lay__65 : decode cX9_lay_ 65 = .ok (.aload_n 0, 1) := by decide +kernel
theorem dX9_lay__66 : decode cX9_lay_ 66 = .ok (.iload_n 2, 1) := by decide +kernel
theorem dX9_lay__67 : decode cX9_lay_ 67 = .ok (.putfield 207, 3) := by decide +kernel
theorem dX9_lay__70 : decode cX9_lay_ 70 = .ok (.aload_n 0, 1) := by decide +kernel
theorem dX9_lay__71 : decode cX9_lay_ 71 = .ok (.iload_n 1, 1) := by decide +kernel
theorem dX9_lay__72 : decode cX9_lay_ 72 = .ok (.iload_n 2, 1) := by decide +kernel
theorem dX9_lay__73 : decode cX9_lay_ 73 = .ok (.imul, 1) := by decide +kernel
theorem dX9_lay__74 : decode cX9_lay_ 74 = .ok (.aload_n 0, 1) := by decide +kernel
theorem dX9_lay__75 : decode cX9_lay_ 75 = .ok (.getfield 45, 3) := by decide +kernel
theorem dX9_lay__78 : decode cX9_lay_ 78 = .ok (.iconst 2, 1) := by decide +kernel
theorem dX9_lay__79 : decode cX9_lay_ 79 = .ok (.iaload, 1) := by decide +kernel
theorem dX9_lay__80 : decode cX9_lay_ 80 = .ok (.imul, 1) := by decide +kernel
theorem dX9_lay__81 : decode cX9_lay_ 81 = .ok (.putfield 218, 3) := by decide +kernel
theorem dX9_lay__84 : decode cX9_lay_ 84 = .ok (.aload_n 0, 1) := by decide +kernel
theorem dX9_lay__85 : decode cX9_lay_ 85 = .ok (.aload_n 0, 1) := by decide +kernel
theorem dX9_lay__86 : decode cX9_lay_ 86 = .ok (.getfield 218, 3) := by decide +kernel
theorem dX9_lay__89 : decode cX9_lay_ 89 = .ok (.putfield 201, 3) := by decide +kernel
theorem dX9_lay__92 : decode cX9_lay_ 92 = .ok (.iconst 0, 1) := by decide +kernel
theorem dX9_lay__93 : decode cX9_lay_ 93 = .ok (.istore_n 3, 1) := by decide +kernel
theorem dX9_lay__94 : decode cX9_lay_ 94 = .ok (.iload_n 3, 1) := by decide +kernel
theorem dX9_lay__95 : decode cX9_lay_ 95 = .ok (.ldc 73, 2) := by decide +kernel
theorem dX9_lay__97 : decode cX9_lay_ 97 = .ok (.if_icmp .ge 16, 3) := by decide +kernel
theorem dX9_lay__100 : decode cX9_lay_ 100 = .ok (.aload_n 0, 1) := by decide +kernel
theorem dX9_lay__101 : decode cX9_lay_ 101 = .ok (.getfield 74, 3) := by decide +kernel
theorem dX9_lay__104 : decode cX9_lay_ 104 = .ok (.iload_n 3, 1) := by decide +kernel
theorem dX9_lay__105 : decode cX9_lay_ 105 = .ok (.iconst 0, 1) := by decide +kernel
theorem dX9_lay__106 : decode cX9_lay_ 106 = .ok (.iastore, 1) := by decide +kernel
theorem dX9_lay__107 : decode cX9_lay_ 107 = .ok (.iinc 3 1, 3) := by decide +kernel
theorem dX9_lay__110 : decode cX9_lay_ 110 = .ok (.goto (-16), 3) := by decide +kernel
theorem dX9_lay__113 : decode cX9_lay_ 113 = .ok (.iconst 0, 1) := by decide +kernel
theorem dX9_lay__114 : decode cX9_lay_ 114 = .ok (.istore_n 3, 1) := by decide +kernel
theorem dX9_lay__115 : decode cX9_lay_ 115 = .ok (.iload_n 3, 1) := by decide +kernel
theorem dX9_lay__116 : decode cX9_lay_ 116 = .ok (.sipush 300, 3) := by decide +kernel
theorem dX9_lay__119 : decode cX9_lay_ 119 = .ok (.if_icmp .ge 28, 3) := by decide +kernel
theorem dX9_lay__122 : decode cX9_lay_ 122 = .ok (.aload_n 0, 1) := by decide +kernel
theorem dX9_lay__123 : decode cX9_lay_ 123 = .ok (.getfield 70, 3) := by decide +kernel
theorem dX9_lay__126 : decode cX9_lay_ 126 = .ok (.iload_n 3, 1) := by decide +kernel
theorem dX9_lay__127 : decode cX9_lay_ 127 = .ok (.iload_n 3, 1) := by decide +kernel
theorem dX9_lay__128 : decode cX9_lay_ 128 = .ok (.aload_n 0, 1) := by decide +kernel
theorem dX9_lay__129 : decode cX9_lay_ 129 = .ok (.getfield 201, 3) := by decide +kernel
theorem dX9_lay__132 : decode cX9_lay_ 132 = .ok (.if_icmp .ge 7, 3) := by decide +kernel
theorem dX9_lay__135 : decode cX9_lay_ 135 = .ok (.iconst 1, 1) := by decide +kernel
theorem dX9_lay__136 : decode cX9_lay_ 136 = .ok (.goto 4, 3) := by decide +kernel
theorem dX9_lay__139 : decode cX9_lay_ 139 = .ok (.iconst 0, 1) := by decide +kernel
theorem dX9_lay__140 : decode cX9_lay_ 140 = .ok (.bastore, 1) := by decide +kernel
theorem dX9_lay__141 : decode cX9_lay_ 141 = .ok (.iinc 3 1, 3) := by decide +kernel
theorem dX9_lay__144 : decode cX9_lay_ 144 = .ok (.goto (-29), 3) := by decide +kernel
theorem dX9_lay__147 : decode cX9_lay_ 147 = .ok (.iconst 0, 1) := by decide +kernel
theorem dX9_lay__148 : decode cX9_lay_ 148 = .ok (.istore_n 3, 1) := by decide +kernel
theorem dX9_lay__149 : decode cX9_lay_ 149 = .ok (.iload_n 3, 1) := by decide +kernel
theorem dX9_lay__150 : decode cX9_lay_ 150 = .ok (.aload_n 0, 1) := by decide +kernel
theorem dX9_lay__151 : decode cX9_lay_ 151 = .ok (.getfield 201, 3) := by decide +kernel
theorem dX9_lay__154 : decode cX9_lay_ 154 = .ok (.if_icmp .ge 14, 3) := by decide +kernel
theorem dX9_lay__157 : decode cX9_lay_ 157 = .ok (.aload_n 0, 1) := by decide +kernel
theorem dX9_lay__158 : decode cX9_lay_ 158 = .ok (.iload_n 3, 1) := by decide +kernel
theorem dX9_lay__159 : decode cX9_lay_ 159 = .ok (.invokevirtual 221, 3) := by decide +kernel
theorem dX9_lay__162 : decode cX9_lay_ 162 = .ok (.iinc 3 1, 3) := by decide +kernel
theorem dX9_lay__165 : decode cX9_lay_ 165 = .ok (.goto (-16), 3) := by decide +kernel
theorem dX9_lay__168 : decode cX9_lay_ 168 = .ok (.aload_n 0, 1) := by decide +kernel
theorem dX9_lay__169 : decode cX9_lay_ 169 = .ok (.getfield 201, 3) := by decide +kernel
theorem dX9_lay__172 : decode cX9_lay_ 172 = .ok (.ireturn, 1) := by decide +kernel
theorem dX9_at_0 : decode cX9_at 0 = .ok (.aload_n 0, 1) := by decide +kernel
theorem dX9_at_1 : decode cX9_at 1 = .ok (.iconst 0, 1) := by decide +kernel
theorem dX9_at_2 : decode cX9_at 2 = .ok (.putfield 1, 3) := by decide +kernel
theorem dX9_at_5 : decode cX9_at 5 = .ok (.iload_n 1, 1) := by decide +kernel
theorem dX9_at_6 : decode cX9_at 6 = .ok (.ifCond .lt 41, 3) := by decide +kernel
theorem dX9_at_9 : decode cX9_at 9 = .ok (.iload_n 1, 1) := by decide +kernel
theorem dX9_at_10 : decode cX9_at 10 = .ok (.aload_n 0, 1) := by decide +kernel
theorem dX9_at_11 : decode cX9_at 11 = .ok (.getfield 204, 3) := by decide +kernel
theorem dX9_at_14 : decode cX9_at 14 = .ok (.if_icmp .ge 33, 3) := by decide +kernel
theorem dX9_at_17 : decode cX9_at 17 = .ok (.iload_n 2, 1) := by decide +kernel
theorem dX9_at_18 : decode cX9_at 18 = .ok (.ifCond .lt 29, 3) := by decide +kernel
theorem dX9_at_21 : decode cX9_at 21 = .ok (.iload_n 2, 1) := by decide +kernel
theorem dX9_at_22 : decode cX9_at 22 = .ok (.aload_n 0, 1) := by decide +kernel
theorem dX9_at_23 : decode cX9_at 23 = .ok (.getfield 207, 3) := by decide +kernel
theorem dX9_at_26 : decode cX9_at 26 = .ok (.if_icmp .ge 21, 3) := by decide +kernel
theorem dX9_at_29 : decode cX9_at 29 = .ok (.iload_n 3, 1) := by decide +kernel
theorem dX9_at_30 : decode cX9_at 30 = .ok (.ifCond .lt 17, 3) := by decide +kernel
theorem dX9_at_33 : decode cX9_at 33 = .ok (.iload_n 3, 1) := by decide +kernel
theorem dX9_at_34 : decode cX9_at 34 = .ok (.aload_n 0, 1) := by decide +kernel
theorem dX9_at_35 : decode cX9_at 35 = .ok (.getfield 45, 3) := by decide +kernel
theorem dX9_at_38 : decode cX9_at 38 = .ok (.iconst 2, 1) := by decide +kernel
theorem dX9_at_39 : decode cX9_at 39 = .ok (.iaload, 1) := by decide +kernel
theorem dX9_at_40 : decode cX9_at 40 = .ok (.if_icmp .ge 7, 3) := by decide +kernel
theorem dX9_at_43 : decode cX9_at 43 = .ok (.iconst 1, 1) := by decide +kernel
theorem dX9_at_44 : decode cX9_at 44 = .ok (.goto 4, 3) := by decide +kernel
theorem dX9_at_47 : decode cX9_at 47 = .ok (.iconst 0, 1) := by decide +kernel
theorem dX9_at_48 : decode cX9_at 48 = .ok (.istore 4, 2) := by decide +kernel
theorem dX9_at_50 : decode cX9_at 50 = .ok (.iload 4, 2) := by decide +kernel
theorem dX9_at_52 : decode cX9_at 52 = .ok (.ifCond .eq 23, 3) := by decide +kernel
theorem dX9_at_55 : decode cX9_at 55 = .ok (.iload_n 2, 1) := by decide +kernel
theorem dX9_at_56 : decode cX9_at 56 = .ok (.aload_n 0, 1) := by decide +kernel
theorem dX9_at_57 : decode cX9_at 57 = .ok (.getfield 204, 3) := by decide +kernel
theorem dX9_at_60 : decode cX9_at 60 = .ok (.imul, 1) := by decide +kernel
theorem dX9_at_61 : decode cX9_at 61 = .ok (.iload_n 1, 1) := by decide +kernel
theorem dX9_at_62 : decode cX9_at 62 = .ok (.iadd, 1) := by decide +kernel
theorem dX9_at_63 : decode cX9_at 63 = .ok (.aload_n 0, 1) := by decide +kernel
theorem dX9_at_64 : decode cX9_at 64 = .ok (.getfield 45, 3) := by decide +kernel
theorem dX9_at_67 : decode cX9_at 67 = .ok (.iconst 2, 1) := by decide +kernel
theorem dX9_at_68 : decode cX9_at 68 = .ok (.iaload, 1) := by decide +kernel
theorem dX9_at_69 : decode cX9_at 69 = .ok (.imul, 1) := by decide +kernel
theorem dX9_at_70 : decode cX9_at 70 = .ok (.iload_n 3, 1) := by decide +kernel
theorem dX9_at_71 : decode cX9_at 71 = .ok (.iadd, 1) := by decide +kernel
theorem dX9_at_72 : decode cX9_at 72 = .ok (.goto 4, 3) := by decide +kernel
theorem dX9_at_75 : decode cX9_at 75 = .ok (.iconst (-1), 1) := by decide +kernel
theorem dX9_at_76 : decode cX9_at 76 = .ok (.ireturn, 1) := by decide +kernel
theorem dX9_add_0 : decode cX9_add 0 = .ok (.aload_n 0, 1) := by decide +kernel
theorem dX9_add_1 : decode cX9_add 1 = .ok (.iconst 0, 1) := by decide +kernel
theorem dX9_add_2 : decode cX9_add 2 = .ok (.putfield 1, 3) := by decide +kernel
theorem dX9_add_5 : decode cX9_add 5 = .ok (.aload_n 0, 1) := by decide +kernel
theorem dX9_add_6 : decode cX9_add 6 = .ok (.getfield 201, 3) := by decide +kernel
theorem dX9_add_9 : decode cX9_add 9 = .ok (.sipush 300, 3) := by decide +kernel
theorem dX9_add_12 : decode cX9_add 12 = .ok (.if_icmp .ne 5, 3) := by decide +kernel
theorem dX9_add_15 : decode cX9_add 15 = .ok (.iconst (-1), 1) := by decide +kernel
theorem dX9_add_16 : decode cX9_add 16 = .ok (.ireturn, 1) := by decide +kernel
theorem dX9_add_17 : decode cX9_add 17 = .ok (.aload_n 0, 1) := by decide +kernel
theorem dX9_add_18 : decode cX9_add 18 = .ok (.getfield 70, 3) := by decide +kernel
theorem dX9_add_21 : decode cX9_add 21 = .ok (.aload_n 0, 1) := by decide +kernel
theorem dX9_add_22 : decode cX9_add 22 = .ok (.getfield 201, 3) := by decide +kernel
theorem dX9_add_25 : decode cX9_add 25 = .ok (.iconst 1, 1) := by decide +kernel
theorem dX9_add_26 : decode cX9_add 26 = .ok (.bastore, 1) := by decide +kernel
theorem dX9_add_27 : decode cX9_add 27 = .ok (.aload_n 0, 1) := by decide +kernel
theorem dX9_add_28 : decode cX9_add 28 = .ok (.dup, 1) := by decide +kernel
theorem dX9_add_29 : decode cX9_add 29 = .ok (.getfield 201, 3) := by decide +kernel
theorem dX9_add_32 : decode cX9_add 32 = .ok (.iconst 1, 1) := by decide +kernel
theorem dX9_add_33 : decode cX9_add 33 = .ok (.iadd, 1) := by decide +kernel
theorem dX9_add_34 : decode cX9_add 34 = .ok (.putfield 201, 3) := by decide +kernel
theorem dX9_add_37 : decode cX9_add 37 = .ok (.aload_n 0, 1) := by decide +kernel
theorem dX9_add_38 : decode cX9_add 38 = .ok (.getfield 201, 3) := by decide +kernel
theorem dX9_add_41 : decode cX9_add 41 = .ok (.iconst 1, 1) := by decide +kernel
theorem dX9_add_42 : decode cX9_add 42 = .ok (.isub, 1) := by decide +kernel
theorem dX9_add_43 : decode cX9_add 43 = .ok (.ireturn, 1) := by decide +kernel
theorem dX9_linksOf_0 : decode cX9_linksOf 0 = .ok (.iconst 0, 1) := by decide +kernel
theorem dX9_linksOf_1 : decode cX9_linksOf 1 = .ok (.istore_n 2, 1) := by decide +kernel
theorem dX9_linksOf_2 : decode cX9_linksOf 2 = .ok (.iconst 0, 1) := by decide +kernel
theorem dX9_linksOf_3 : decode cX9_linksOf 3 = .ok (.istore_n 3, 1) := by decide +kernel
theorem dX9_linksOf_4 : decode cX9_linksOf 4 = .ok (.iload_n 3, 1) := by decide +kernel
theorem dX9_linksOf_5 : decode cX9_linksOf 5 = .ok (.aload_n 0, 1) := by decide +kernel
theorem dX9_linksOf_6 : decode cX9_linksOf 6 = .ok (.getfield 201, 3) := by decide +kernel
theorem dX9_linksOf_9 : decode cX9_linksOf 9 = .ok (.if_icmp .ge 32, 3) := by decide +kernel
theorem dX9_linksOf_12 : decode cX9_linksOf 12 = .ok (.iload_n 2, 1) := by decide +kernel
theorem dX9_linksOf_13 : decode cX9_linksOf 13 = .ok (.aload_n 0, 1) := by decide +kernel
theorem dX9_linksOf_14 : decode cX9_linksOf 14 = .ok (.getfield 74, 3) := by decide +kernel
theorem dX9_linksOf_17 : decode cX9_linksOf 17 = .ok (.sipush 300, 3) := by decide +kernel
theorem dX9_linksOf_20 : decode cX9_linksOf 20 = .ok (.iload_n 1, 1) := by decide +kernel
theorem dX9_linksOf_21 : decode cX9_linksOf 21 = .ok (.imul, 1) := by decide +kernel
theorem dX9_linksOf_22 : decode cX9_linksOf 22 = .ok (.iload_n 3, 1) := by decide +kernel
theorem dX9_linksOf_23 : decode cX9_linksOf 23 = .ok (.iadd, 1) := by decide +kernel
theorem dX9_linksOf_24 : decode cX9_linksOf 24 = .ok (.iaload, 1) := by decide +kernel
theorem dX9_linksOf_25 : decode cX9_linksOf 25 = .ok (.ifCond .eq 7, 3) := by decide +kernel
theorem dX9_linksOf_28 : decode cX9_linksOf 28 = .ok (.iconst 1, 1) := by decide +kernel
theorem dX9_linksOf_29 : decode cX9_linksOf 29 = .ok (.goto 4, 3) := by decide +kernel
theorem dX9_linksOf_32 : decode cX9_linksOf 32 = .ok (.iconst 0, 1) := by decide +kernel
theorem dX9_linksOf_33 : decode cX9_linksOf 33 = .ok (.iadd, 1) := by decide +kernel
theorem dX9_linksOf_34 : decode cX9_linksOf 34 = .ok (.istore_n 2, 1) := by decide +kernel
theorem dX9_linksOf_35 : decode cX9_linksOf 35 = .ok (.iinc 3 1, 3) := by decide +kernel
theorem dX9_linksOf_38 : decode cX9_linksOf 38 = .ok (.goto (-34), 3) := by decide +kernel
theorem dX9_linksOf_41 : decode cX9_linksOf 41 = .ok (.iload_n 2, 1) := by decide +kernel
theorem dX9_linksOf_42 : decode cX9_linksOf 42 = .ok (.ireturn, 1) := by decide +kernel
theorem dX9_take_0 : decode cX9_take 0 = .ok (.aload_n 0, 1) := by decide +kernel
theorem dX9_take_1 : decode cX9_take 1 = .ok (.iconst 0, 1) := by decide +kernel
theorem dX9_take_2 : decode cX9_take 2 = .ok (.putfield 1, 3) := by decide +kernel
theorem dX9_take_5 : decode cX9_take 5 = .ok (.aload_n 0, 1) := by decide +kernel
theorem dX9_take_6 : decode cX9_take 6 = .ok (.iload_n 1, 1) := by decide +kernel
theorem dX9_take_7 : decode cX9_take 7 = .ok (.invokevirtual 223, 3) := by decide +kernel
theorem dX9_take_10 : decode cX9_take 10 = .ok (.ifCond .ne 5, 3) := by decide +kernel
theorem dX9_take_13 : decode cX9_take 13 = .ok (.iconst (-1), 1) := by decide +kernel
theorem dX9_take_14 : decode cX9_take 14 = .ok (.ireturn, 1) := by decide +kernel
theorem dX9_take_15 : decode cX9_take 15 = .ok (.aload_n 0, 1) := by decide +kernel
theorem dX9_take_16 : decode cX9_take 16 = .ok (.iload_n 1, 1) := by decide +kernel
theorem dX9_take_17 : decode cX9_take 17 = .ok (.invokevirtual 226, 3) := by decide +kernel
theorem dX9_take_20 : decode cX9_take 20 = .ok (.istore_n 2, 1) := by decide +kernel
theorem dX9_take_21 : decode cX9_take 21 = .ok (.iconst 0, 1) := by decide +kernel
theorem dX9_take_22 : decode cX9_take 22 = .ok (.istore_n 3, 1) := by decide +kernel
theorem dX9_take_23 : decode cX9_take 23 = .ok (.iload_n 3, 1) := by decide +kernel
theorem dX9_take_24 : decode cX9_take 24 = .ok (.aload_n 0, 1) := by decide +kernel
theorem dX9_take_25 : decode cX9_take 25 = .ok (.getfield 201, 3) := by decide +kernel
theorem dX9_take_28 : decode cX9_take 28 = .ok (.if_icmp .ge 16, 3) := by decide +kernel
theorem dX9_take_31 : decode cX9_take 31 = .ok (.aload_n 0, 1) := by decide +kernel
theorem dX9_take_32 : decode cX9_take 32 = .ok (.iload_n 1, 1) := by decide +kernel
theorem dX9_take_33 : decode cX9_take 33 = .ok (.iload_n 3, 1) := by decide +kernel
theorem dX9_take_34 : decode cX9_take 34 = .ok (.iconst 0, 1) := by decide +kernel
theorem dX9_take_35 : decode cX9_take 35 = .ok (.invokevirtual 214, 3) := by decide +kernel
theorem dX9_take_38 : decode cX9_take 38 = .ok (.iinc 3 1, 3) := by decide +kernel
theorem dX9_take_41 : decode cX9_take 41 = .ok (.goto (-18), 3) := by decide +kernel
theorem dX9_take_44 : decode cX9_take 44 = .ok (.aload_n 0, 1) := by decide +kernel
theorem dX9_take_45 : decode cX9_take 45 = .ok (.getfield 70, 3) := by decide +kernel
theorem dX9_take_48 : decode cX9_take 48 = .ok (.iload_n 1, 1) := by decide +kernel
theorem dX9_take_49 : decode cX9_take 49 = .ok (.iconst 0, 1) := by decide +kernel
theorem dX9_take_50 : decode cX9_take 50 = .ok (.bastore, 1) := by decide +kernel
theorem dX9_take_51 : decode cX9_take 51 = .ok (.iload_n 2, 1) := by decide +kernel
theorem dX9_take_52 : decode cX9_take 52 = .ok (.ireturn, 1) := by decide +kernel
theorem dX9_areLinked_0 : decode cX9_areLinked 0 = .ok (.aload_n 0, 1) := by decide +kernel
theorem dX9_areLinked_1 : decode cX9_areLinked 1 = .ok (.getfield 74, 3) := by decide +kernel
theorem dX9_areLinked_4 : decode cX9_areLinked 4 = .ok (.sipush 300, 3) := by decide +kernel
theorem dX9_areLinked_7 : decode cX9_areLinked 7 = .ok (.iload_n 1, 1) := by decide +kernel
theorem dX9_areLinked_8 : decode cX9_areLinked 8 = .ok (.imul, 1) := by decide +kernel
theorem dX9_areLinked_9 : decode cX9_areLinked 9 = .ok (.iload_n 2, 1) := by decide +kernel
theorem dX9_areLinked_10 : decode cX9_areLinked 10 = .ok (.iadd, 1) := by decide +kernel
theorem dX9_areLinked_11 : decode cX9_areLinked 11 = .ok (.iaload, 1) := by decide +kernel
theorem dX9_areLinked_12 : decode cX9_areLinked 12 = .ok (.ifCond .eq 7, 3) := by decide +kernel
theorem dX9_areLinked_15 : decode cX9_areLinked 15 = .ok (.iconst 1, 1) := by decide +kernel
theorem dX9_areLinked_16 : decode cX9_areLinked 16 = .ok (.goto 4, 3) := by decide +kernel
theorem dX9_areLinked_19 : decode cX9_areLinked 19 = .ok (.iconst 0, 1) := by decide +kernel
theorem dX9_areLinked_20 : decode cX9_areLinked 20 = .ok (.ireturn, 1) := by decide +kernel
theorem dX9_link_0 : decode cX9_link 0 = .ok (.aload_n 0, 1) := by decide +kernel
theorem dX9_link_1 : decode cX9_link 1 = .ok (.iconst 0, 1) := by decide +kernel
theorem dX9_link_2 : decode cX9_link 2 = .ok (.putfield 1, 3) := by decide +kernel
theorem dX9_link_5 : decode cX9_link 5 = .ok (.aload_n 0, 1) := by decide +kernel
theorem dX9_link_6 : decode cX9_link 6 = .ok (.iload_n 1, 1) := by decide +kernel
theorem dX9_link_7 : decode cX9_link 7 = .ok (.invokevirtual 223, 3) := by decide +kernel
theorem dX9_link_10 : decode cX9_link 10 = .ok (.ifCond .eq 25, 3) := by decide +kernel
theorem dX9_link_13 : decode cX9_link 13 = .ok (.aload_n 0, 1) := by decide +kernel
theorem dX9_link_14 : decode cX9_link 14 = .ok (.iload_n 2, 1) := by decide +kernel
theorem dX9_link_15 : decode cX9_link 15 = .ok (.invokevirtual 223, 3) := by decide +kernel
theorem dX9_link_18 : decode cX9_link 18 = .ok (.ifCond .eq 17, 3) := by decide +kernel
theorem dX9_link_21 : decode cX9_link 21 = .ok (.iload_n 1, 1) := by decide +kernel
theorem dX9_link_22 : decode cX9_link 22 = .ok (.iload_n 2, 1) := by decide +kernel
theorem dX9_link_23 : decode cX9_link 23 = .ok (.if_icmp .eq 12, 3) := by decide +kernel
theorem dX9_link_26 : decode cX9_link 26 = .ok (.aload_n 0, 1) := by decide +kernel
theorem dX9_link_27 : decode cX9_link 27 = .ok (.iload_n 1, 1) := by decide +kernel
theorem dX9_link_28 : decode cX9_link 28 = .ok (.iload_n 2, 1) := by decide +kernel
theorem dX9_link_29 : decode cX9_link 29 = .ok (.invokevirtual 229, 3) := by decide +kernel
theorem dX9_link_32 : decode cX9_link 32 = .ok (.ifCond .eq 5, 3) := by decide +kernel
theorem dX9_link_35 : decode cX9_link 35 = .ok (.iconst 0, 1) := by decide +kernel
theorem dX9_link_36 : decode cX9_link 36 = .ok (.ireturn, 1) := by decide +kernel
theorem dX9_link_37 : decode cX9_link 37 = .ok (.aload_n 0, 1) := by decide +kernel
theorem dX9_link_38 : decode cX9_link 38 = .ok (.iload_n 1, 1) := by decide +kernel
theorem dX9_link_39 : decode cX9_link 39 = .ok (.iload_n 2, 1) := by decide +kernel
theorem dX9_link_40 : decode cX9_link 40 = .ok (.iconst 1, 1) := by decide +kernel
theorem dX9_link_41 : decode cX9_link 41 = .ok (.invokevirtual 214, 3) := by decide +kernel
theorem dX9_link_44 : decode cX9_link 44 = .ok (.iconst 1, 1) := by decide +kernel
theorem dX9_link_45 : decode cX9_link 45 = .ok (.ireturn, 1) := by decide +kernel
theorem dX9_unlink_0 : decode cX9_unlink 0 = .ok (.aload_n 0, 1) := by decide +kernel
theorem dX9_unlink_1 : decode cX9_unlink 1 = .ok (.iconst 0, 1) := by decide +kernel
theorem dX9_unlink_2 : decode cX9_unlink 2 = .ok (.putfield 1, 3) := by decide +kernel
theorem dX9_unlink_5 : decode cX9_unlink 5 = .ok (.aload_n 0, 1) := by decide +kernel
theorem dX9_unlink_6 : decode cX9_unlink 6 = .ok (.iload_n 1, 1) := by decide +kernel
theorem dX9_unlink_7 : decode cX9_unlink 7 = .ok (.invokevirtual 223, 3) := by decide +kernel
theorem dX9_unlink_10 : decode cX9_unlink 10 = .ok (.ifCond .eq 20, 3) := by decide +kernel
theorem dX9_unlink_13 : decode cX9_unlink 13 = .ok (.aload_n 0, 1) := by decide +kernel
theorem dX9_unlink_14 : decode cX9_unlink 14 = .ok (.iload_n 2, 1) := by decide +kernel
theorem dX9_unlink_15 : decode cX9_unlink 15 = .ok (.invokevirtual 223, 3) := by decide +kernel
theorem dX9_unlink_18 : decode cX9_unlink 18 = .ok (.ifCond .eq 12, 3) := by decide +kernel
theorem dX9_unlink_21 : decode cX9_unlink 21 = .ok (.aload_n 0, 1) := by decide +kernel
theorem dX9_unlink_22 : decode cX9_unlink 22 = .ok (.iload_n 1, 1) := by decide +kernel
theorem dX9_unlink_23 : decode cX9_unlink 23 = .ok (.iload_n 2, 1) := by decide +kernel
theorem dX9_unlink_24 : decode cX9_unlink 24 = .ok (.invokevirtual 229, 3) := by decide +kernel
theorem dX9_unlink_27 : decode cX9_unlink 27 = .ok (.ifCond .ne 5, 3) := by decide +kernel
theorem dX9_unlink_30 : decode cX9_unlink 30 = .ok (.iconst 0, 1) := by decide +kernel
theorem dX9_unlink_31 : decode cX9_unlink 31 = .ok (.ireturn, 1) := by decide +kernel
theorem dX9_unlink_32 : decode cX9_unlink 32 = .ok (.aload_n 0, 1) := by decide +kernel
theorem dX9_unlink_33 : decode cX9_unlink 33 = .ok (.iload_n 1, 1) := by decide +kernel
theorem dX9_unlink_34 : decode cX9_unlink 34 = .ok (.iload_n 2, 1) := by decide +kernel
theorem dX9_unlink_35 : decode cX9_unlink 35 = .ok (.iconst 0, 1) := by decide +kernel
theorem dX9_unlink_36 : decode cX9_unlink 36 = .ok (.invokevirtual 214, 3) := by decide +kernel
theorem dX9_unlink_39 : decode cX9_unlink 39 = .ok (.iconst 1, 1) := by decide +kernel
theorem dX9_unlink_40 : decode cX9_unlink 40 = .ok (.ireturn, 1) := by decide +kernel
theorem dX9_mend_0 : decode cX9_mend 0 = .ok (.aload_n 0, 1) := by decide +kernel
theorem dX9_mend_1 : decode cX9_mend 1 = .ok (.iconst 0, 1) := by decide +kernel
theorem dX9_mend_2 : decode cX9_mend 2 = .ok (.putfield 1, 3) := by decide +kernel
theorem dX9_mend_5 : decode cX9_mend 5 = .ok (.iconst 0, 1) := by decide +kernel
theorem dX9_mend_6 : decode cX9_mend 6 = .ok (.istore_n 1, 1) := by decide +kernel
theorem dX9_mend_7 : decode cX9_mend 7 = .ok (.iconst 0, 1) := by decide +kernel
theorem dX9_mend_8 : decode cX9_mend 8 = .ok (.istore_n 2, 1) := by decide +kernel
theorem dX9_mend_9 : decode cX9_mend 9 = .ok (.iload_n 2, 1) := by decide +kernel
theorem dX9_mend_10 : decode cX9_mend 10 = .ok (.aload_n 0, 1) := by decide +kernel
theorem dX9_mend_11 : decode cX9_mend 11 = .ok (.getfield 218, 3) := by decide +kernel
theorem dX9_mend_14 : decode cX9_mend 14 = .ok (.if_icmp .ge 46, 3) := by decide +kernel
theorem dX9_mend_17 : decode cX9_mend 17 = .ok (.aload_n 0, 1) := by decide +kernel
theorem dX9_mend_18 : decode cX9_mend 18 = .ok (.getfield 77, 3) := by decide +kernel
theorem dX9_mend_21 : decode cX9_mend 21 = .ok (.iload_n 2, 1) := by decide +kernel
theorem dX9_mend_22 : decode cX9_mend 22 = .ok (.aload_n 0, 1) := by decide +kernel
theorem dX9_mend_23 : decode cX9_mend 23 = .ok (.getfield 70, 3) := by decide +kernel
theorem dX9_mend_26 : decode cX9_mend 26 = .ok (.iload_n 2, 1) := by decide +kernel
theorem dX9_mend_27 : decode cX9_mend 27 = .ok (.baload, 1) := by decide +kernel
theorem dX9_mend_28 : decode cX9_mend 28 = .ok (.ifCond .ne 7, 3) := by decide +kernel
theorem dX9_mend_31 : decode cX9_mend 31 = .ok (.iconst 1, 1) := by decide +kernel
theorem dX9_mend_32 : decode cX9_mend 32 = .ok (.goto 4, 3) := by decide +kernel
theorem dX9_mend_35 : decode cX9_mend 35 = .ok (.iconst 0, 1) := by decide +kernel
theorem dX9_mend_36 : decode cX9_mend 36 = .ok (.bastore, 1) := by decide +kernel
theorem dX9_mend_37 : decode cX9_mend 37 = .ok (.iload_n 1, 1) := by decide +kernel
theorem dX9_mend_38 : decode cX9_mend 38 = .ok (.aload_n 0, 1) := by decide +kernel
theorem dX9_mend_39 : decode cX9_mend 39 = .ok (.getfield 77, 3) := by decide +kernel
theorem dX9_mend_42 : decode cX9_mend 42 = .ok (.iload_n 2, 1) := by decide +kernel
theorem dX9_mend_43 : decode cX9_mend 43 = .ok (.baload, 1) := by decide +kernel
theorem dX9_mend_44 : decode cX9_mend 44 = .ok (.ifCond .eq 7, 3) := by decide +kernel
theorem dX9_mend_47 : decode cX9_mend 47 = .ok (.iconst 1, 1) := by decide +kernel
theorem dX9_mend_48 : decode cX9_mend 48 = .ok (.goto 4, 3) := by decide +kernel
theorem dX9_mend_51 : decode cX9_mend 51 = .ok (.iconst 0, 1) := by decide +kernel
theorem dX9_mend_52 : decode cX9_mend 52 = .ok (.iadd, 1) := by decide +kernel
theorem dX9_mend_53 : decode cX9_mend 53 = .ok (.istore_n 1, 1) := by decide +kernel
theorem dX9_mend_54 : decode cX9_mend 54 = .ok (.iinc 2 1, 3) := by decide +kernel
theorem dX9_mend_57 : decode cX9_mend 57 = .ok (.goto (-48), 3) := by decide +kernel
theorem dX9_mend_60 : decode cX9_mend 60 = .ok (.iconst 0, 1) := by decide +kernel
theorem dX9_mend_61 : decode cX9_mend 61 = .ok (.istore_n 2, 1) := by decide +kernel
theorem dX9_mend_62 : decode cX9_mend 62 = .ok (.iload_n 2, 1) := by decide +kernel
theorem dX9_mend_63 : decode cX9_mend 63 = .ok (.aload_n 0, 1) := by decide +kernel
theorem dX9_mend_64 : decode cX9_mend 64 = .ok (.getfield 218, 3) := by decide +kernel
theorem dX9_mend_67 : decode cX9_mend 67 = .ok (.if_icmp .ge 16, 3) := by decide +kernel
theorem dX9_mend_70 : decode cX9_mend 70 = .ok (.aload_n 0, 1) := by decide +kernel
theorem dX9_mend_71 : decode cX9_mend 71 = .ok (.getfield 70, 3) := by decide +kernel
theorem dX9_mend_74 : decode cX9_mend 74 = .ok (.iload_n 2, 1) := by decide +kernel
theorem dX9_mend_75 : decode cX9_mend 75 = .ok (.iconst 1, 1) := by decide +kernel
theorem dX9_mend_76 : decode cX9_mend 76 = .ok (.bastore, 1) := by decide +kernel
theorem dX9_mend_77 : decode cX9_mend 77 = .ok (.iinc 2 1, 3) := by decide +kernel
theorem dX9_mend_80 : decode cX9_mend 80 = .ok (.goto (-18), 3) := by decide +kernel
theorem dX9_mend_83 : decode cX9_mend 83 = .ok (.iconst 0, 1) := by decide +kernel
theorem dX9_mend_84 : decode cX9_mend 84 = .ok (.istore_n 2, 1) := by decide +kernel
theorem dX9_mend_85 : decode cX9_mend 85 = .ok (.iload_n 2, 1) := by decide +kernel
theorem dX9_mend_86 : decode cX9_mend 86 = .ok (.aload_n 0, 1) := by decide +kernel
theorem dX9_mend_87 : decode cX9_mend 87 = .ok (.getfield 218, 3) := by decide +kernel
theorem dX9_mend_90 : decode cX9_mend 90 = .ok (.if_icmp .ge 23, 3) := by decide +kernel
theorem dX9_mend_93 : decode cX9_mend 93 = .ok (.aload_n 0, 1) := by decide +kernel
theorem dX9_mend_94 : decode cX9_mend 94 = .ok (.getfield 77, 3) := by decide +kernel
theorem dX9_mend_97 : decode cX9_mend 97 = .ok (.iload_n 2, 1) := by decide +kernel
theorem dX9_mend_98 : decode cX9_mend 98 = .ok (.baload, 1) := by decide +kernel
theorem dX9_mend_99 : decode cX9_mend 99 = .ok (.ifCond .eq 8, 3) := by decide +kernel
theorem dX9_mend_102 : decode cX9_mend 102 = .ok (.aload_n 0, 1) := by decide +kernel
theorem dX9_mend_103 : decode cX9_mend 103 = .ok (.iload_n 2, 1) := by decide +kernel
theorem dX9_mend_104 : decode cX9_mend 104 = .ok (.invokevirtual 221, 3) := by decide +kernel
theorem dX9_mend_107 : decode cX9_mend 107 = .ok (.iinc 2 1, 3) := by decide +kernel
theorem dX9_mend_110 : decode cX9_mend 110 = .ok (.goto (-25), 3) := by decide +kernel
theorem dX9_mend_113 : decode cX9_mend 113 = .ok (.iload_n 1, 1) := by decide +kernel
theorem dX9_mend_114 : decode cX9_mend 114 = .ok (.ireturn, 1) := by decide +kernel
theorem dX9_isFull_0 : decode cX9_isFull 0 = .ok (.iload_n 1, 1) := by decide +kernel
theorem dX9_isFull_1 : decode cX9_isFull 1 = .ok (.aload_n 0, 1) := by decide +kernel
theorem dX9_isFull_2 : decode cX9_isFull 2 = .ok (.getfield 218, 3) := by decide +kernel
theorem dX9_isFull_5 : decode cX9_isFull 5 = .ok (.if_icmp .ge 7, 3) := by decide +kernel
theorem dX9_isFull_8 : decode cX9_isFull 8 = .ok (.iconst 1, 1) := by decide +kernel
theorem dX9_isFull_9 : decode cX9_isFull 9 = .ok (.goto 4, 3) := by decide +kernel
theorem dX9_isFull_12 : decode cX9_isFull 12 = .ok (.iconst 0, 1) := by decide +kernel
theorem dX9_isFull_13 : decode cX9_isFull 13 = .ok (.istore_n 2, 1) := by decide +kernel
theorem dX9_isFull_14 : decode cX9_isFull 14 = .ok (.iconst 0, 1) := by decide +kernel
theorem dX9_isFull_15 : decode cX9_isFull 15 = .ok (.istore_n 3, 1) := by decide +kernel
theorem dX9_isFull_16 : decode cX9_isFull 16 = .ok (.iload_n 3, 1) := by decide +kernel
theorem dX9_isFull_17 : decode cX9_isFull 17 = .ok (.aload_n 0, 1) := by decide +kernel
theorem dX9_isFull_18 : decode cX9_isFull 18 = .ok (.getfield 51, 3) := by decide +kernel
theorem dX9_isFull_21 : decode cX9_isFull 21 = .ok (.iconst 2, 1) := by decide +kernel
theorem dX9_isFull_22 : decode cX9_isFull 22 = .ok (.iaload, 1) := by decide +kernel
theorem dX9_isFull_23 : decode cX9_isFull 23 = .ok (.if_icmp .ge 143, 3) := by decide +kernel
theorem dX9_isFull_26 : decode cX9_isFull 26 = .ok (.iload_n 2, 1) := by decide +kernel
theorem dX9_isFull_27 : decode cX9_isFull 27 = .ok (.ifCond .eq 139, 3) := by decide +kernel
theorem dX9_isFull_30 : decode cX9_isFull 30 = .ok (.bipush 48, 2) := by decide +kernel
theorem dX9_isFull_32 : decode cX9_isFull 32 = .ok (.iload_n 3, 1) := by decide +kernel
theorem dX9_isFull_33 : decode cX9_isFull 33 = .ok (.iadd, 1) := by decide +kernel
theorem dX9_isFull_34 : decode cX9_isFull 34 = .ok (.istore 4, 2) := by decide +kernel
theorem dX9_isFull_36 : decode cX9_isFull 36 = .ok (.aload_n 0, 1) := by decide +kernel
theorem dX9_isFull_37 : decode cX9_isFull 37 = .ok (.getfield 66, 3) := by decide +kernel
theorem dX9_isFull_40 : decode cX9_isFull 40 = .ok (.iload 4, 2) := by decide +kernel
theorem dX9_isFull_42 : decode cX9_isFull 42 = .ok (.baload, 1) := by decide +kernel
theorem dX9_isFull_43 : decode cX9_isFull 43 = .ok (.ifCond .eq 7, 3) := by decide +kernel
theorem dX9_isFull_46 : decode cX9_isFull 46 = .ok (.iconst 1, 1) := by decide +kernel
theorem dX9_isFull_47 : decode cX9_isFull 47 = .ok (.goto 4, 3) := by decide +kernel
theorem dX9_isFull_50 : decode cX9_isFull 50 = .ok (.iconst (-1), 1) := by decide +kernel
theorem dX9_isFull_51 : decode cX9_isFull 51 = .ok (.istore 5, 2) := by decide +kernel
theorem dX9_isFull_53 : decode cX9_isFull 53 = .ok (.aload_n 0, 1) := by decide +kernel
theorem dX9_isFull_54 : decode cX9_isFull 54 = .ok (.iload_n 1, 1) := by decide +kernel
theorem dX9_isFull_55 : decode cX9_isFull 55 = .ok (.iload_n 3, 1) := by decide +kernel
theorem dX9_isFull_56 : decode cX9_isFull 56 = .ok (.iconst 1, 1) := by decide +kernel
theorem dX9_isFull_57 : decode cX9_isFull 57 = .ok (.invokevirtual 210, 3) := by decide +kernel
theorem dX9_isFull_60 : decode cX9_isFull 60 = .ok (.istore 6, 2) := by decide +kernel
theorem dX9_isFull_62 : decode cX9_isFull 62 = .ok (.aload_n 0, 1) := by decide +kernel
theorem dX9_isFull_63 : decode cX9_isFull 63 = .ok (.iload_n 1, 1) := by decide +kernel
theorem dX9_isFull_64 : decode cX9_isFull 64 = .ok (.iload_n 3, 1) := by decide +kernel
theorem dX9_isFull_65 : decode cX9_isFull 65 = .ok (.iconst 0, 1) := by decide +kernel
theorem dX9_isFull_66 : decode cX9_isFull 66 = .ok (.invokevirtual 210, 3) := by decide +kernel
theorem dX9_isFull_69 : decode cX9_isFull 69 = .ok (.istore 7, 2) := by decide +kernel
theorem dX9_isFull_71 : decode cX9_isFull 71 = .ok (.iload_n 1, 1) := by decide +kernel
theorem dX9_isFull_72 : decode cX9_isFull 72 = .ok (.aload_n 0, 1) := by decide +kernel
theorem dX9_isFull_73 : decode cX9_isFull 73 = .ok (.getfield 45, 3) := by decide +kernel
theorem dX9_isFull_76 : decode cX9_isFull 76 = .ok (.iconst 2, 1) := by decide +kernel
theorem dX9_isFull_77 : decode cX9_isFull 77 = .ok (.iaload, 1) := by decide +kernel
theorem dX9_isFull_78 : decode cX9_isFull 78 = .ok (.irem, 1) := by decide +kernel
theorem dX9_isFull_79 : decode cX9_isFull 79 = .ok (.aload_n 0, 1) := by decide +kernel
theorem dX9_isFull_80 : decode cX9_isFull 80 = .ok (.getfield 54, 3) := by decide +kernel
theorem dX9_isFull_83 : decode cX9_isFull 83 = .ok (.iload 4, 2) := by decide +kernel
theorem dX9_isFull_85 : decode cX9_isFull 85 = .ok (.iaload, 1) := by decide +kernel
theorem dX9_isFull_86 : decode cX9_isFull 86 = .ok (.if_icmp .ne 26, 3) := by decide +kernel
theorem dX9_isFull_89 : decode cX9_isFull 89 = .ok (.iload 6, 2) := by decide +kernel
theorem dX9_isFull_91 : decode cX9_isFull 91 = .ok (.ifCond .lt 67, 3) := by decide +kernel
theorem dX9_isFull_94 : decode cX9_isFull 94 = .ok (.aload_n 0, 1) := by decide +kernel
theorem dX9_isFull_95 : decode cX9_isFull 95 = .ok (.getfield 74, 3) := by decide +kernel
theorem dX9_isFull_98 : decode cX9_isFull 98 = .ok (.sipush 300, 3) := by decide +kernel
theorem dX9_isFull_101 : decode cX9_isFull 101 = .ok (.iload_n 1, 1) := by decide +kernel
theorem dX9_isFull_102 : decode cX9_isFull 102 = .ok (.imul, 1) := by decide +kernel
theorem dX9_isFull_103 : decode cX9_isFull 103 = .ok (.iload 6, 2) := by decide +kernel
theorem dX9_isFull_105 : decode cX9_isFull 105 = .ok (.iadd, 1) := by decide +kernel
theorem dX9_isFull_106 : decode cX9_isFull 106 = .ok (.iaload, 1) := by decide +kernel
theorem dX9_isFull_107 : decode cX9_isFull 107 = .ok (.iload 5, 2) := by decide +kernel
theorem dX9_isFull_109 : decode cX9_isFull 109 = .ok (.if_icmp .ne 49, 3) := by decide +kernel
theorem dX9_isFull_112 : decode cX9_isFull 112 = .ok (.iload_n 1, 1) := by decide +kernel
theorem dX9_isFull_113 : decode cX9_isFull 113 = .ok (.aload_n 0, 1) := by decide +kernel
theorem dX9_isFull_114 : decode cX9_isFull 114 = .ok (.getfield 45, 3) := by decide +kernel
theorem dX9_isFull_117 : decode cX9_isFull 117 = .ok (.iconst 2, 1) := by decide +kernel
theorem dX9_isFull_118 : decode cX9_isFull 118 = .ok (.iaload, 1) := by decide +kernel
theorem dX9_isFull_119 : decode cX9_isFull 119 = .ok (.irem, 1) := by decide +kernel
theorem dX9_isFull_120 : decode cX9_isFull 120 = .ok (.aload_n 0, 1) := by decide +kernel
theorem dX9_isFull_121 : decode cX9_isFull 121 = .ok (.getfield 57, 3) := by decide +kernel
theorem dX9_isFull_124 : decode cX9_isFull 124 = .ok (.iload 4, 2) := by decide +kernel
theorem dX9_isFull_126 : decode cX9_isFull 126 = .ok (.iaload, 1) := by decide +kernel
theorem dX9_isFull_127 : decode cX9_isFull 127 = .ok (.if_icmp .ne 27, 3) := by decide +kernel
theorem dX9_isFull_130 : decode cX9_isFull 130 = .ok (.iload 7, 2) := by decide +kernel
theorem dX9_isFull_132 : decode cX9_isFull 132 = .ok (.ifCond .lt 26, 3) := by decide +kernel
theorem dX9_isFull_135 : decode cX9_isFull 135 = .ok (.aload_n 0, 1) := by decide +kernel
theorem dX9_isFull_136 : decode cX9_isFull 136 = .ok (.getfield 74, 3) := by decide +kernel
theorem dX9_isFull_139 : decode cX9_isFull 139 = .ok (.sipush 300, 3) := by decide +kernel
theorem dX9_isFull_142 : decode cX9_isFull 142 = .ok (.iload_n 1, 1) := by decide +kernel
theorem dX9_isFull_143 : decode cX9_isFull 143 = .ok (.imul, 1) := by decide +kernel
theorem dX9_isFull_144 : decode cX9_isFull 144 = .ok (.iload 7, 2) := by decide +kernel
theorem dX9_isFull_146 : decode cX9_isFull 146 = .ok (.iadd, 1) := by decide +kernel
theorem dX9_isFull_147 : decode cX9_isFull 147 = .ok (.iaload, 1) := by decide +kernel
theorem dX9_isFull_148 : decode cX9_isFull 148 = .ok (.iload 5, 2) := by decide +kernel
theorem dX9_isFull_150 : decode cX9_isFull 150 = .ok (.ineg, 1) := by decide +kernel
theorem dX9_isFull_151 : decode cX9_isFull 151 = .ok (.if_icmp .ne 7, 3) := by decide +kernel
theorem dX9_isFull_154 : decode cX9_isFull 154 = .ok (.iconst 1, 1) := by decide +kernel
theorem dX9_isFull_155 : decode cX9_isFull 155 = .ok (.goto 4, 3) := by decide +kernel
theorem dX9_isFull_158 : decode cX9_isFull 158 = .ok (.iconst 0, 1) := by decide +kernel
theorem dX9_isFull_159 : decode cX9_isFull 159 = .ok (.istore_n 2, 1) := by decide +kernel
theorem dX9_isFull_160 : decode cX9_isFull 160 = .ok (.iinc 3 1, 3) := by decide +kernel
theorem dX9_isFull_163 : decode cX9_isFull 163 = .ok (.goto (-147), 3) := by decide +kernel
theorem dX9_isFull_166 : decode cX9_isFull 166 = .ok (.iload_n 2, 1) := by decide +kernel
theorem dX9_isFull_167 : decode cX9_isFull 167 = .ok (.ireturn, 1) := by decide +kernel
theorem dX9_findNear_0 : decode cX9_findNear 0 = .ok (.iconst 0, 1) := by decide +kernel
theorem dX9_findNear_1 : decode cX9_findNear 1 = .ok (.istore_n 1, 1) := by decide +kernel
theorem dX9_findNear_2 : decode cX9_findNear 2 = .ok (.iload_n 1, 1) := by decide +kernel
theorem dX9_findNear_3 : decode cX9_findNear 3 = .ok (.aload_n 0, 1) := by decide +kernel
theorem dX9_findNear_4 : decode cX9_findNear 4 = .ok (.getfield 201, 3) := by decide +kernel
theorem dX9_findNear_7 : decode cX9_findNear 7 = .ok (.if_icmp .ge 69, 3) := by decide +kernel
theorem dX9_findNear_10 : decode cX9_findNear 10 = .ok (.aload_n 0, 1) := by decide +kernel
theorem dX9_findNear_11 : decode cX9_findNear 11 = .ok (.getfield 80, 3) := by decide +kernel
theorem dX9_findNear_14 : decode cX9_findNear 14 = .ok (.iload_n 1, 1) := by decide +kernel
theorem dX9_findNear_15 : decode cX9_findNear 15 = .ok (.iconst 0, 1) := by decide +kernel
theorem dX9_findNear_16 : decode cX9_findNear 16 = .ok (.iastore, 1) := by decide +kernel
theorem dX9_findNear_17 : decode cX9_findNear 17 = .ok (.iconst 0, 1) := by decide +kernel
theorem dX9_findNear_18 : decode cX9_findNear 18 = .ok (.istore_n 2, 1) := by decide +kernel
theorem dX9_findNear_19 : decode cX9_findNear 19 = .ok (.iload_n 2, 1) := by decide +kernel
theorem dX9_findNear_20 : decode cX9_findNear 20 = .ok (.aload_n 0, 1) := by decide +kernel
theorem dX9_findNear_21 : decode cX9_findNear 21 = .ok (.getfield 201, 3) := by decide +kernel
theorem dX9_findNear_24 : decode cX9_findNear 24 = .ok (.if_icmp .ge 46, 3) := by decide +kernel
theorem dX9_findNear_27 : decode cX9_findNear 27 = .ok (.aload_n 0, 1) := by decide +kernel
theorem dX9_findNear_28 : decode cX9_findNear 28 = .ok (.iload_n 1, 1) := by decide +kernel
theorem dX9_findNear_29 : decode cX9_findNear 29 = .ok (.iload_n 2, 1) := by decide +kernel
theorem dX9_findNear_30 : decode cX9_findNear 30 = .ok (.invokevirtual 229, 3) := by decide +kernel
theorem dX9_findNear_33 : decode cX9_findNear 33 = .ok (.ifCond .eq 31, 3) := by decide +kernel
theorem dX9_findNear_36 : decode cX9_findNear 36 = .ok (.aload_n 0, 1) := by decide +kernel
theorem dX9_findNear_37 : decode cX9_findNear 37 = .ok (.getfield 83, 3) := by decide +kernel
theorem dX9_findNear_40 : decode cX9_findNear 40 = .ok (.sipush 300, 3) := by decide +kernel
theorem dX9_findNear_43 : decode cX9_findNear 43 = .ok (.iload_n 1, 1) := by decide +kernel
theorem dX9_findNear_44 : decode cX9_findNear 44 = .ok (.imul, 1) := by decide +kernel
theorem dX9_findNear_45 : decode cX9_findNear 45 = .ok (.aload_n 0, 1) := by decide +kernel
theorem dX9_findNear_46 : decode cX9_findNear 46 = .ok (.getfield 80, 3) := by decide +kernel
theorem dX9_findNear_49 : decode cX9_findNear 49 = .ok (.iload_n 1, 1) := by decide +kernel
theorem dX9_findNear_50 : decode cX9_findNear 50 = .ok (.iaload, 1) := by decide +kernel
theorem dX9_findNear_51 : decode cX9_findNear 51 = .ok (.iadd, 1) := by decide +kernel
theorem dX9_findNear_52 : decode cX9_findNear 52 = .ok (.iload_n 2, 1) := by decide +kernel
theorem dX9_findNear_53 : decode cX9_findNear 53 = .ok (.iastore, 1) := by decide +kernel
theorem dX9_findNear_54 : decode cX9_findNear 54 = .ok (.aload_n 0, 1) := by decide +kernel
theorem dX9_findNear_55 : decode cX9_findNear 55 = .ok (.getfield 80, 3) := by decide +kernel
theorem dX9_findNear_58 : decode cX9_findNear 58 = .ok (.iload_n 1, 1) := by decide +kernel
theorem dX9_findNear_59 : decode cX9_findNear 59 = .ok (.dup2, 1) := by decide +kernel
theorem dX9_findNear_60 : decode cX9_findNear 60 = .ok (.iaload, 1) := by decide +kernel
theorem dX9_findNear_61 : decode cX9_findNear 61 = .ok (.iconst 1, 1) := by decide +kernel
theorem dX9_findNear_62 : decode cX9_findNear 62 = .ok (.iadd, 1) := by decide +kernel
theorem dX9_findNear_63 : decode cX9_findNear 63 = .ok (.iastore, 1) := by decide +kernel
theorem dX9_findNear_64 : decode cX9_findNear 64 = .ok (.iinc 2 1, 3) := by decide +kernel
theorem dX9_findNear_67 : decode cX9_findNear 67 = .ok (.goto (-48), 3) := by decide +kernel
theorem dX9_findNear_70 : decode cX9_findNear 70 = .ok (.iinc 1 1, 3) := by decide +kernel
theorem dX9_findNear_73 : decode cX9_findNear 73 = .ok (.goto (-71), 3) := by decide +kernel
theorem dX9_findNear_76 : decode cX9_findNear 76 = .ok (.return_, 1) := by decide +kernel
theorem dX9_findPieces_0 : decode cX9_findPieces 0 = .ok (.iconst 0, 1) := by decide +kernel
theorem dX9_findPieces_1 : decode cX9_findPieces 1 = .ok (.istore_n 2, 1) := by decide +kernel
theorem dX9_findPieces_2 : decode cX9_findPieces 2 = .ok (.iload_n 2, 1) := by decide +kernel
theorem dX9_findPieces_3 : decode cX9_findPieces 3 = .ok (.aload_n 0, 1) := by decide +kernel
theorem dX9_findPieces_4 : decode cX9_findPieces 4 = .ok (.getfield 201, 3) := by decide +kernel
theorem dX9_findPieces_7 : decode cX9_findPieces 7 = .ok (.if_icmp .ge 16, 3) := by decide +kernel
theorem dX9_findPieces_10 : decode cX9_findPieces 10 = .ok (.aload_n 0, 1) := by decide +kernel
theorem dX9_findPieces_11 : decode cX9_findPieces 11 = .ok (.getfield 86, 3) := by decide +kernel
theorem dX9_findPieces_14 : decode cX9_findPieces 14 = .ok (.iload_n 2, 1) := by decide +kernel
theorem dX9_findPieces_15 : decode cX9_findPieces 15 = .ok (.iconst (-1), 1) := by decide +kernel
theorem dX9_findPieces_16 : decode cX9_findPieces 16 = .ok (.iastore, 1) := by decide +kernel
theorem dX9_findPieces_17 : decode cX9_findPieces 17 = .ok (.iinc 2 1, 3) := by decide +kernel
theorem dX9_findPieces_20 : decode cX9_findPieces 20 = .ok (.goto (-18), 3) := by decide +kernel
theorem dX9_findPieces_23 : decode cX9_findPieces 23 = .ok (.iconst 0, 1) := by decide +kernel
theorem dX9_findPieces_24 : decode cX9_findPieces 24 = .ok (.istore_n 2, 1) := by decide +kernel
theorem dX9_findPieces_25 : decode cX9_findPieces 25 = .ok (.iconst 0, 1) := by decide +kernel
theorem dX9_findPieces_26 : decode cX9_findPieces 26 = .ok (.istore_n 3, 1) := by decide +kernel
theorem dX9_findPieces_27 : decode cX9_findPieces 27 = .ok (.iload_n 3, 1) := by decide +kernel
theorem dX9_findPieces_28 : decode cX9_findPieces 28 = .ok (.aload_n 0, 1) := by decide +kernel
theorem dX9_findPieces_29 : decode cX9_findPieces 29 = .ok (.getfield 201, 3) := by decide +kernel
theorem dX9_findPieces_32 : decode cX9_findPieces 32 = .ok (.if_icmp .ge 41, 3) := by decide +kernel
theorem dX9_findPieces_35 : decode cX9_findPieces 35 = .ok (.aload_n 0, 1) := by decide +kernel
theorem dX9_findPieces_36 : decode cX9_findPieces 36 = .ok (.getfield 70, 3) := by decide +kernel
theorem dX9_findPieces_39 : decode cX9_findPieces 39 = .ok (.iload_n 3, 1) := by decide +kernel
theorem dX9_findPieces_40 : decode cX9_findPieces 40 = .ok (.baload, 1) := by decide +kernel
theorem dX9_findPieces_41 : decode cX9_findPieces 41 = .ok (.ifCond .eq 26, 3) := by decide +kernel
theorem dX9_findPieces_44 : decode cX9_findPieces 44 = .ok (.iload_n 3, 1) := by decide +kernel
theorem dX9_findPieces_45 : decode cX9_findPieces 45 = .ok (.iload_n 1, 1) := by decide +kernel
theorem dX9_findPieces_46 : decode cX9_findPieces 46 = .ok (.if_icmp .eq 21, 3) := by decide +kernel
theorem dX9_findPieces_49 : decode cX9_findPieces 49 = .ok (.aload_n 0, 1) := by decide +kernel
theorem dX9_findPieces_50 : decode cX9_findPieces 50 = .ok (.getfield 86, 3) := by decide +kernel
theorem dX9_findPieces_53 : decode cX9_findPieces 53 = .ok (.iload_n 3, 1) := by decide +kernel
theorem dX9_findPieces_54 : decode cX9_findPieces 54 = .ok (.iaload, 1) := by decide +kernel
theorem dX9_findPieces_55 : decode cX9_findPieces 55 = .ok (.ifCond .ge 12, 3) := by decide +kernel
theorem dX9_findPieces_58 : decode cX9_findPieces 58 = .ok (.aload_n 0, 1) := by decide +kernel
theorem dX9_findPieces_59 : decode cX9_findPieces 59 = .ok (.iload_n 3, 1) := by decide +kernel
theorem dX9_findPieces_60 : decode cX9_findPieces 60 = .ok (.iload_n 1, 1) := by decide +kernel
theorem dX9_findPieces_61 : decode cX9_findPieces 61 = .ok (.invokevirtual 233, 3) := by decide +kernel
theorem dX9_findPieces_64 : decode cX9_findPieces 64 = .ok (.iinc 2 1, 3) := by decide +kernel
theorem dX9_findPieces_67 : decode cX9_findPieces 67 = .ok (.iinc 3 1, 3) := by decide +kernel
theorem dX9_findPieces_70 : decode cX9_findPieces 70 = .ok (.goto (-43), 3) := by decide +kernel
theorem dX9_findPieces_73 : decode cX9_findPieces 73 = .ok (.iload_n 2, 1) := by decide +kernel
theorem dX9_findPieces_74 : decode cX9_findPieces 74 = .ok (.ireturn, 1) := by decide +kernel
theorem dX9_spreads_0 : decode cX9_spreads 0 = .ok (.iconst 1, 1) := by decide +kernel
theorem dX9_spreads_1 : decode cX9_spreads 1 = .ok (.istore_n 3, 1) := by decide +kernel
theorem dX9_spreads_2 : decode cX9_spreads 2 = .ok (.aload_n 0, 1) := by decide +kernel
theorem dX9_spreads_3 : decode cX9_spreads 3 = .ok (.getfield 89, 3) := by decide +kernel
theorem dX9_spreads_6 : decode cX9_spreads 6 = .ok (.iconst 0, 1) := by decide +kernel
theorem dX9_spreads_7 : decode cX9_spreads 7 = .ok (.iload_n 1, 1) := by decide +kernel
theorem dX9_spreads_8 : decode cX9_spreads 8 = .ok (.iastore, 1) := by decide +kernel
theorem dX9_spreads_9 : decode cX9_spreads 9 = .ok (.aload_n 0, 1) := by decide +kernel
theorem dX9_spreads_10 : decode cX9_spreads 10 = .ok (.getfield 86, 3) := by decide +kernel
theorem dX9_spreads_13 : decode cX9_spreads 13 = .ok (.iload_n 1, 1) := by decide +kernel
theorem dX9_spreads_14 : decode cX9_spreads 14 = .ok (.iload_n 1, 1) := by decide +kernel
theorem dX9_spreads_15 : decode cX9_spreads 15 = .ok (.iastore, 1) := by decide +kernel
theorem dX9_spreads_16 : decode cX9_spreads 16 = .ok (.iconst 0, 1) := by decide +kernel
theorem dX9_spreads_17 : decode cX9_spreads 17 = .ok (.istore 4, 2) := by decide +kernel
theorem dX9_spreads_19 : decode cX9_spreads 19 = .ok (.iload 4, 2) := by decide +kernel
theorem dX9_spreads_21 : decode cX9_spreads 21 = .ok (.iload_n 3, 1) := by decide +kernel
theorem dX9_spreads_22 : decode cX9_spreads 22 = .ok (.if_icmp .ge 96, 3) := by decide +kernel
theorem dX9_spreads_25 : decode cX9_spreads 25 = .ok (.sipush 300, 3) := by decide +kernel
theorem dX9_spreads_28 : decode cX9_spreads 28 = .ok (.aload_n 0, 1) := by decide +kernel
theorem dX9_spreads_29 : decode cX9_spreads 29 = .ok (.getfield 89, 3) := by decide +kernel
theorem dX9_spreads_32 : decode cX9_spreads 32 = .ok (.iload 4, 2) := by decide +kernel
theorem dX9_spreads_34 : decode cX9_spreads 34 = .ok (.iaload, 1) := by decide +kernel
theorem dX9_spreads_35 : decode cX9_spreads 35 = .ok (.imul, 1) := by decide +kernel
theorem dX9_spreads_36 : decode cX9_spreads 36 = .ok (.istore 5, 2) := by decide +kernel
theorem dX9_spreads_38 : decode cX9_spreads 38 = .ok (.iload 5, 2) := by decide +kernel
theorem dX9_spreads_40 : decode cX9_spreads 40 = .ok (.istore 6, 2) := by decide +kernel
theorem dX9_spreads_42 : decode cX9_spreads 42 = .ok (.iload 6, 2) := by decide +kernel
theorem dX9_spreads_44 : decode cX9_spreads 44 = .ok (.iload 5, 2) := by decide +kernel
theorem dX9_spreads_46 : decode cX9_spreads 46 = .ok (.aload_n 0, 1) := by decide +kernel
theorem dX9_spreads_47 : decode cX9_spreads 47 = .ok (.getfield 80, 3) := by decide +kernel
theorem dX9_spreads_50 : decode cX9_spreads 50 = .ok (.aload_n 0, 1) := by decide +kernel
theorem dX9_spreads_51 : decode cX9_spreads 51 = .ok (.getfield 89, 3) := by decide +kernel
theorem dX9_spreads_54 : decode cX9_spreads 54 = .ok (.iload 4, 2) := by decide +kernel
theorem dX9_spreads_56 : decode cX9_spreads 56 = .ok (.iaload, 1) := by decide +kernel
theorem dX9_spreads_57 : decode cX9_spreads 57 = .ok (.iaload, 1) := by decide +kernel
theorem dX9_spreads_58 : decode cX9_spreads 58 = .ok (.iadd, 1) := by decide +kernel
theorem dX9_spreads_59 : decode cX9_spreads 59 = .ok (.if_icmp .ge 53, 3) := by decide +kernel
theorem dX9_spreads_62 : decode cX9_spreads 62 = .ok (.aload_n 0, 1) := by decide +kernel
theorem dX9_spreads_63 : decode cX9_spreads 63 = .ok (.getfield 83, 3) := by decide +kernel
theorem dX9_spreads_66 : decode cX9_spreads 66 = .ok (.iload 6, 2) := by decide +kernel
theorem dX9_spreads_68 : decode cX9_spreads 68 = .ok (.iaload, 1) := by decide +kernel
theorem dX9_spreads_69 : decode cX9_spreads 69 = .ok (.istore 7, 2) := by decide +kernel
theorem dX9_spreads_71 : decode cX9_spreads 71 = .ok (.iload 7, 2) := by decide +kernel
theorem dX9_spreads_73 : decode cX9_spreads 73 = .ok (.iload_n 2, 1) := by decide +kernel
theorem dX9_spreads_74 : decode cX9_spreads 74 = .ok (.if_icmp .eq 32, 3) := by decide +kernel
theorem dX9_spreads_77 : decode cX9_spreads 77 = .ok (.aload_n 0, 1) := by decide +kernel
theorem dX9_spreads_78 : decode cX9_spreads 78 = .ok (.getfield 86, 3) := by decide +kernel
theorem dX9_spreads_81 : decode cX9_spreads 81 = .ok (.iload 7, 2) := by decide +kernel
theorem dX9_spreads_83 : decode cX9_spreads 83 = .ok (.iaload, 1) := by decide +kernel
theorem dX9_spreads_84 : decode cX9_spreads 84 = .ok (.ifCond .ge 22, 3) := by decide +kernel
theorem dX9_spreads_87 : decode cX9_spreads 87 = .ok (.aload_n 0, 1) := by decide +kernel
theorem dX9_spreads_88 : decode cX9_spreads 88 = .ok (.getfield 86, 3) := by decide +kernel
theorem dX9_spreads_91 : decode cX9_spreads 91 = .ok (.iload 7, 2) := by decide +kernel
theorem dX9_spreads_93 : decode cX9_spreads 93 = .ok (.iload_n 1, 1) := by decide +kernel
theorem dX9_spreads_94 : decode cX9_spreads 94 = .ok (.iastore, 1) := by decide +kernel
theorem dX9_spreads_95 : decode cX9_spreads 95 = .ok (.aload_n 0, 1) := by decide +kernel
theorem dX9_spreads_96 : decode cX9_spreads 96 = .ok (.getfield 89, 3) := by decide +kernel
theorem dX9_spreads_99 : decode cX9_spreads 99 = .ok (.iload_n 3, 1) := by decide +kernel
theorem dX9_spreads_100 : decode cX9_spreads 100 = .ok (.iload 7, 2) := by decide +kernel
theorem dX9_spreads_102 : decode cX9_spreads 102 = .ok (.iastore, 1) := by decide +kernel
theorem dX9_spreads_103 : decode cX9_spreads 103 = .ok (.iinc 3 1, 3) := by decide +kernel
theorem dX9_spreads_106 : decode cX9_spreads 106 = .ok (.iinc 6 1, 3) := by decide +kernel
theorem dX9_spreads_109 : decode cX9_spreads 109 = .ok (.goto (-67), 3) := by decide +kernel
theorem dX9_spreads_112 : decode cX9_spreads 112 = .ok (.iinc 4 1, 3) := by decide +kernel
theorem dX9_spreads_115 : decode cX9_spreads 115 = .ok (.goto (-96), 3) := by decide +kernel
theorem dX9_spreads_118 : decode cX9_spreads 118 = .ok (.return_, 1) := by decide +kernel
theorem dX9_isCut_0 : decode cX9_isCut 0 = .ok (.aload_n 0, 1) := by decide +kernel
theorem dX9_isCut_1 : decode cX9_isCut 1 = .ok (.iload_n 1, 1) := by decide +kernel
theorem dX9_isCut_2 : decode cX9_isCut 2 = .ok (.invokevirtual 236, 3) := by decide +kernel
theorem dX9_isCut_5 : decode cX9_isCut 5 = .ok (.iload_n 2, 1) := by decide +kernel
theorem dX9_isCut_6 : decode cX9_isCut 6 = .ok (.if_icmp .le 7, 3) := by decide +kernel
theorem dX9_isCut_9 : decode cX9_isCut 9 = .ok (.iconst 1, 1) := by decide +kernel
theorem dX9_isCut_10 : decode cX9_isCut 10 = .ok (.goto 4, 3) := by decide +kernel
theorem dX9_isCut_13 : decode cX9_isCut 13 = .ok (.iconst 0, 1) := by decide +kernel
theorem dX9_isCut_14 : decode cX9_isCut 14 = .ok (.ireturn, 1) := by decide +kernel
theorem dX9_parts_0 : decode cX9_parts 0 = .ok (.iconst 0, 1) := by decide +kernel
theorem dX9_parts_1 : decode cX9_parts 1 = .ok (.istore_n 1, 1) := by decide +kernel
theorem dX9_parts_2 : decode cX9_parts 2 = .ok (.iload_n 1, 1) := by decide +kernel
theorem dX9_parts_3 : decode cX9_parts 3 = .ok (.aload_n 0, 1) := by decide +kernel
theorem dX9_parts_4 : decode cX9_parts 4 = .ok (.getfield 201, 3) := by decide +kernel
theorem dX9_parts_7 : decode cX9_parts 7 = .ok (.if_icmp .ge 16, 3) := by decide +kernel
theorem dX9_parts_10 : decode cX9_parts 10 = .ok (.aload_n 0, 1) := by decide +kernel
theorem dX9_parts_11 : decode cX9_parts 11 = .ok (.getfield 92, 3) := by decide +kernel
theorem dX9_parts_14 : decode cX9_parts 14 = .ok (.iload_n 1, 1) := by decide +kernel
theorem dX9_parts_15 : decode cX9_parts 15 = .ok (.iconst (-1), 1) := by decide +kernel
theorem dX9_parts_16 : decode cX9_parts 16 = .ok (.iastore, 1) := by decide +kernel
theorem dX9_parts_17 : decode cX9_parts 17 = .ok (.iinc 1 1, 3) := by decide +kernel
theorem dX9_parts_20 : decode cX9_parts 20 = .ok (.goto (-18), 3) := by decide +kernel
theorem dX9_parts_23 : decode cX9_parts 23 = .ok (.iconst 1, 1) := by decide +kernel
theorem dX9_parts_24 : decode cX9_parts 24 = .ok (.istore_n 1, 1) := by decide +kernel
theorem dX9_parts_25 : decode cX9_parts 25 = .ok (.iconst 0, 1) := by decide +kernel
theorem dX9_parts_26 : decode cX9_parts 26 = .ok (.istore_n 2, 1) := by decide +kernel
theorem dX9_parts_27 : decode cX9_parts 27 = .ok (.iload_n 2, 1) := by decide +kernel
theorem dX9_parts_28 : decode cX9_parts 28 = .ok (.aload_n 0, 1) := by decide +kernel
theorem dX9_parts_29 : decode cX9_parts 29 = .ok (.getfield 201, 3) := by decide +kernel
theorem dX9_parts_32 : decode cX9_parts 32 = .ok (.if_icmp .ge 184, 3) := by decide +kernel
theorem dX9_parts_35 : decode cX9_parts 35 = .ok (.aload_n 0, 1) := by decide +kernel
theorem dX9_parts_36 : decode cX9_parts 36 = .ok (.getfield 70, 3) := by decide +kernel
theorem dX9_parts_39 : decode cX9_parts 39 = .ok (.iload_n 2, 1) := by decide +kernel
theorem dX9_parts_40 : decode cX9_parts 40 = .ok (.baload, 1) := by decide +kernel
theorem dX9_parts_41 : decode cX9_parts 41 = .ok (.ifCond .eq 169, 3) := by decide +kernel
theorem dX9_parts_44 : decode cX9_parts 44 = .ok (.aload_n 0, 1) := by decide +kernel
theorem dX9_parts_45 : decode cX9_parts 45 = .ok (.getfield 92, 3) := by decide +kernel
theorem dX9_parts_48 : decode cX9_parts 48 = .ok (.iload_n 2, 1) := by decide +kernel
theorem dX9_parts_49 : decode cX9_parts 49 = .ok (.iaload, 1) := by decide +kernel
theorem dX9_parts_50 : decode cX9_parts 50 = .ok (.ifCond .ge 160, 3) := by decide +kernel
theorem dX9_parts_53 : decode cX9_parts 53 = .ok (.iconst 1, 1) := by decide +kernel
theorem dX9_parts_54 : decode cX9_parts 54 = .ok (.istore_n 3, 1) := by decide +kernel
theorem dX9_parts_55 : decode cX9_parts 55 = .ok (.aload_n 0, 1) := by decide +kernel
theorem dX9_parts_56 : decode cX9_parts 56 = .ok (.getfield 89, 3) := by decide +kernel
theorem dX9_parts_59 : decode cX9_parts 59 = .ok (.iconst 0, 1) := by decide +kernel
theorem dX9_parts_60 : decode cX9_parts 60 = .ok (.iload_n 2, 1) := by decide +kernel
theorem dX9_parts_61 : decode cX9_parts 61 = .ok (.iastore, 1) := by decide +kernel
theorem dX9_parts_62 : decode cX9_parts 62 = .ok (.aload_n 0, 1) := by decide +kernel
theorem dX9_parts_63 : decode cX9_parts 63 = .ok (.getfield 92, 3) := by decide +kernel
theorem dX9_parts_66 : decode cX9_parts 66 = .ok (.iload_n 2, 1) := by decide +kernel
theorem dX9_parts_67 : decode cX9_parts 67 = .ok (.iconst 0, 1) := by decide +kernel
theorem dX9_parts_68 : decode cX9_parts 68 = .ok (.iastore, 1) := by decide +kernel
theorem dX9_parts_69 : decode cX9_parts 69 = .ok (.iconst 0, 1) := by decide +kernel
theorem dX9_parts_70 : decode cX9_parts 70 = .ok (.istore 4, 2) := by decide +kernel
theorem dX9_parts_72 : decode cX9_parts 72 = .ok (.iload 4, 2) := by decide +kernel
theorem dX9_parts_74 : decode cX9_parts 74 = .ok (.iload_n 3, 1) := by decide +kernel
theorem dX9_parts_75 : decode cX9_parts 75 = .ok (.if_icmp .ge 135, 3) := by decide +kernel
theorem dX9_parts_78 : decode cX9_parts 78 = .ok (.sipush 300, 3) := by decide +kernel
theorem dX9_parts_81 : decode cX9_parts 81 = .ok (.aload_n 0, 1) := by decide +kernel
theorem dX9_parts_82 : decode cX9_parts 82 = .ok (.getfield 89, 3) := by decide +kernel
theorem dX9_parts_85 : decode cX9_parts 85 = .ok (.iload 4, 2) := by decide +kernel
theorem dX9_parts_87 : decode cX9_parts 87 = .ok (.iaload, 1) := by decide +kernel
theorem dX9_parts_88 : decode cX9_parts 88 = .ok (.imul, 1) := by decide +kernel
theorem dX9_parts_89 : decode cX9_parts 89 = .ok (.istore 5, 2) := by decide +kernel
theorem dX9_parts_91 : decode cX9_parts 91 = .ok (.iload 5, 2) := by decide +kernel
theorem dX9_parts_93 : decode cX9_parts 93 = .ok (.istore 6, 2) := by decide +kernel
theorem dX9_parts_95 : decode cX9_parts 95 = .ok (.iload 6, 2) := by decide +kernel
theorem dX9_parts_97 : decode cX9_parts 97 = .ok (.iload 5, 2) := by decide +kernel
theorem dX9_parts_99 : decode cX9_parts 99 = .ok (.aload_n 0, 1) := by decide +kernel
theorem dX9_parts_100 : decode cX9_parts 100 = .ok (.getfield 80, 3) := by decide +kernel
theorem dX9_parts_103 : decode cX9_parts 103 = .ok (.aload_n 0, 1) := by decide +kernel
theorem dX9_parts_104 : decode cX9_parts 104 = .ok (.getfield 89, 3) := by decide +kernel
theorem dX9_parts_107 : decode cX9_parts 107 = .ok (.iload 4, 2) := by decide +kernel
theorem dX9_parts_109 : decode cX9_parts 109 = .ok (.iaload, 1) := by decide +kernel
theorem dX9_parts_110 : decode cX9_parts 110 = .ok (.iaload, 1) := by decide +kernel
theorem dX9_parts_111 : decode cX9_parts 111 = .ok (.iadd, 1) := by decide +kernel
theorem dX9_parts_112 : decode cX9_parts 112 = .ok (.if_icmp .ge 92, 3) := by decide +kernel
theorem dX9_parts_115 : decode cX9_parts 115 = .ok (.aload_n 0, 1) := by decide +kernel
theorem dX9_parts_116 : decode cX9_parts 116 = .ok (.getfield 83, 3) := by decide +kernel
theorem dX9_parts_119 : decode cX9_parts 119 = .ok (.iload 6, 2) := by decide +kernel
theorem dX9_parts_121 : decode cX9_parts 121 = .ok (.iaload, 1) := by decide +kernel
theorem dX9_parts_122 : decode cX9_parts 122 = .ok (.istore 7, 2) := by decide +kernel
theorem dX9_parts_124 : decode cX9_parts 124 = .ok (.iload_n 1, 1) := by decide +kernel
theorem dX9_parts_125 : decode cX9_parts 125 = .ok (.ifCond .eq 29, 3) := by decide +kernel
theorem dX9_parts_128 : decode cX9_parts 128 = .ok (.aload_n 0, 1) := by decide +kernel
theorem dX9_parts_129 : decode cX9_parts 129 = .ok (.getfield 92, 3) := by decide +kernel
theorem dX9_parts_132 : decode cX9_parts 132 = .ok (.iload 7, 2) := by decide +kernel
theorem dX9_parts_134 : decode cX9_parts 134 = .ok (.iaload, 1) := by decide +kernel
theorem dX9_parts_135 : decode cX9_parts 135 = .ok (.aload_n 0, 1) := by decide +kernel
theorem dX9_parts_136 : decode cX9_parts 136 = .ok (.getfield 92, 3) := by decide +kernel
theorem dX9_parts_139 : decode cX9_parts 139 = .ok (.aload_n 0, 1) := by decide +kernel
theorem dX9_parts_140 : decode cX9_parts 140 = .ok (.getfield 89, 3) := by decide +kernel
theorem dX9_parts_143 : decode cX9_parts 143 = .ok (.iload 4, 2) := by decide +kernel
theorem dX9_parts_145 : decode cX9_parts 145 = .ok (.iaload, 1) := by decide +kernel
theorem dX9_parts_146 : decode cX9_parts 146 = .ok (.iaload, 1) := by decide +kernel
theorem dX9_parts_147 : decode cX9_parts 147 = .ok (.if_icmp .eq 7, 3) := by decide +kernel
theorem dX9_parts_150 : decode cX9_parts 150 = .ok (.iconst 1, 1) := by decide +kernel
theorem dX9_parts_151 : decode cX9_parts 151 = .ok (.goto 4, 3) := by decide +kernel
theorem dX9_parts_154 : decode cX9_parts 154 = .ok (.iconst 0, 1) := by decide +kernel
theorem dX9_parts_155 : decode cX9_parts 155 = .ok (.istore_n 1, 1) := by decide +kernel
theorem dX9_parts_156 : decode cX9_parts 156 = .ok (.aload_n 0, 1) := by decide +kernel
theorem dX9_parts_157 : decode cX9_parts 157 = .ok (.getfield 92, 3) := by decide +kernel
theorem dX9_parts_160 : decode cX9_parts 160 = .ok (.iload 7, 2) := by decide +kernel
theorem dX9_parts_162 : decode cX9_parts 162 = .ok (.iaload, 1) := by decide +kernel
theorem dX9_parts_163 : decode cX9_parts 163 = .ok (.ifCond .ge 35, 3) := by decide +kernel
theorem dX9_parts_166 : decode cX9_parts 166 = .ok (.aload_n 0, 1) := by decide +kernel
theorem dX9_parts_167 : decode cX9_parts 167 = .ok (.getfield 92, 3) := by decide +kernel
theorem dX9_parts_170 : decode cX9_parts 170 = .ok (.iload 7, 2) := by decide +kernel
theorem dX9_parts_172 : decode cX9_parts 172 = .ok (.iconst 1, 1) := by decide +kernel
theorem dX9_parts_173 : decode cX9_parts 173 = .ok (.aload_n 0, 1) := by decide +kernel
theorem dX9_parts_174 : decode cX9_parts 174 = .ok (.getfield 92, 3) := by decide +kernel
theorem dX9_parts_177 : decode cX9_parts 177 = .ok (.aload_n 0, 1) := by decide +kernel
theorem dX9_parts_178 : decode cX9_parts 178 = .ok (.getfield 89, 3) := by decide +kernel
theorem dX9_parts_181 : decode cX9_parts 181 = .ok (.iload 4, 2) := by decide +kernel
theorem dX9_parts_183 : decode cX9_parts 183 = .ok (.iaload, 1) := by decide +kernel
theorem dX9_parts_184 : decode cX9_parts 184 = .ok (.iaload, 1) := by decide +kernel
theorem dX9_parts_185 : decode cX9_parts 185 = .ok (.isub, 1) := by decide +kernel
theorem dX9_parts_186 : decode cX9_parts 186 = .ok (.iastore, 1) := by decide +kernel
theorem dX9_parts_187 : decode cX9_parts 187 = .ok (.aload_n 0, 1) := by decide +kernel
theorem dX9_parts_188 : decode cX9_parts 188 = .ok (.getfield 89, 3) := by decide +kernel
theorem dX9_parts_191 : decode cX9_parts 191 = .ok (.iload_n 3, 1) := by decide +kernel
theorem dX9_parts_192 : decode cX9_parts 192 = .ok (.iload 7, 2) := by decide +kernel
theorem dX9_parts_194 : decode cX9_parts 194 = .ok (.iastore, 1) := by decide +kernel
theorem dX9_parts_195 : decode cX9_parts 195 = .ok (.iinc 3 1, 3) := by decide +kernel
theorem dX9_parts_198 : decode cX9_parts 198 = .ok (.iinc 6 1, 3) := by decide +kernel
theorem dX9_parts_201 : decode cX9_parts 201 = .ok (.goto (-106), 3) := by decide +kernel
theorem dX9_parts_204 : decode cX9_parts 204 = .ok (.iinc 4 1, 3) := by decide +kernel
theorem dX9_parts_207 : decode cX9_parts 207 = .ok (.goto (-135), 3) := by decide +kernel
theorem dX9_parts_210 : decode cX9_parts 210 = .ok (.iinc 2 1, 3) := by decide +kernel
theorem dX9_parts_213 : decode cX9_parts 213 = .ok (.goto (-186), 3) := by decide +kernel
theorem dX9_parts_216 : decode cX9_parts 216 = .ok (.iload_n 1, 1) := by decide +kernel
theorem dX9_parts_217 : decode cX9_parts 217 = .ok (.ireturn, 1) := by decide +kernel
theorem dX9_finds_0 : decode cX9_finds 0 = .ok (.sipush 300, 3) := by decide +kernel
theorem dX9_finds_3 : decode cX9_finds 3 = .ok (.iload_n 1, 1) := by decide +kernel
theorem dX9_finds_4 : decode cX9_finds 4 = .ok (.imul, 1) := by decide +kernel
theorem dX9_finds_5 : decode cX9_finds 5 = .ok (.istore_n 2, 1) := by decide +kernel
theorem dX9_finds_6 : decode cX9_finds 6 = .ok (.iload_n 2, 1) := by decide +kernel
theorem dX9_finds_7 : decode cX9_finds 7 = .ok (.sipush 300, 3) := by decide +kernel
theorem dX9_finds_10 : decode cX9_finds 10 = .ok (.iload_n 1, 1) := by decide +kernel
theorem dX9_finds_11 : decode cX9_finds 11 = .ok (.imul, 1) := by decide +kernel
theorem dX9_finds_12 : decode cX9_finds 12 = .ok (.aload_n 0, 1) := by decide +kernel
theorem dX9_finds_13 : decode cX9_finds 13 = .ok (.getfield 80, 3) := by decide +kernel
theorem dX9_finds_16 : decode cX9_finds 16 = .ok (.iload_n 1, 1) := by decide +kernel
theorem dX9_finds_17 : decode cX9_finds 17 = .ok (.iaload, 1) := by decide +kernel
theorem dX9_finds_18 : decode cX9_finds 18 = .ok (.iadd, 1) := by decide +kernel
theorem dX9_finds_19 : decode cX9_finds 19 = .ok (.if_icmp .ge 70, 3) := by decide +kernel
theorem dX9_finds_22 : decode cX9_finds 22 = .ok (.aload_n 0, 1) := by decide +kernel
theorem dX9_finds_23 : decode cX9_finds 23 = .ok (.getfield 83, 3) := by decide +kernel
theorem dX9_finds_26 : decode cX9_finds 26 = .ok (.iload_n 2, 1) := by decide +kernel
theorem dX9_finds_27 : decode cX9_finds 27 = .ok (.iaload, 1) := by decide +kernel
theorem dX9_finds_28 : decode cX9_finds 28 = .ok (.istore_n 3, 1) := by decide +kernel
theorem dX9_finds_29 : decode cX9_finds 29 = .ok (.aload_n 0, 1) := by decide +kernel
theorem dX9_finds_30 : decode cX9_finds 30 = .ok (.getfield 98, 3) := by decide +kernel
theorem dX9_finds_33 : decode cX9_finds 33 = .ok (.iload_n 3, 1) := by decide +kernel
theorem dX9_finds_34 : decode cX9_finds 34 = .ok (.baload, 1) := by decide +kernel
theorem dX9_finds_35 : decode cX9_finds 35 = .ok (.ifCond .ne 48, 3) := by decide +kernel
theorem dX9_finds_38 : decode cX9_finds 38 = .ok (.aload_n 0, 1) := by decide +kernel
theorem dX9_finds_39 : decode cX9_finds 39 = .ok (.getfield 98, 3) := by decide +kernel
theorem dX9_finds_42 : decode cX9_finds 42 = .ok (.iload_n 3, 1) := by decide +kernel
theorem dX9_finds_43 : decode cX9_finds 43 = .ok (.iconst 1, 1) := by decide +kernel
theorem dX9_finds_44 : decode cX9_finds 44 = .ok (.bastore, 1) := by decide +kernel
theorem dX9_finds_45 : decode cX9_finds 45 = .ok (.aload_n 0, 1) := by decide +kernel
theorem dX9_finds_46 : decode cX9_finds 46 = .ok (.getfield 95, 3) := by decide +kernel
theorem dX9_finds_49 : decode cX9_finds 49 = .ok (.iload_n 3, 1) := by decide +kernel
theorem dX9_finds_50 : decode cX9_finds 50 = .ok (.iaload, 1) := by decide +kernel
theorem dX9_finds_51 : decode cX9_finds 51 = .ok (.ifCond .lt 16, 3) := by decide +kernel
theorem dX9_finds_54 : decode cX9_finds 54 = .ok (.aload_n 0, 1) := by decide +kernel
theorem dX9_finds_55 : decode cX9_finds 55 = .ok (.aload_n 0, 1) := by decide +kernel
theorem dX9_finds_56 : decode cX9_finds 56 = .ok (.getfield 95, 3) := by decide +kernel
theorem dX9_finds_59 : decode cX9_finds 59 = .ok (.iload_n 3, 1) := by decide +kernel
theorem dX9_finds_60 : decode cX9_finds 60 = .ok (.iaload, 1) := by decide +kernel
theorem dX9_finds_61 : decode cX9_finds 61 = .ok (.invokevirtual 239, 3) := by decide +kernel
theorem dX9_finds_64 : decode cX9_finds 64 = .ok (.ifCond .eq 19, 3) := by decide +kernel
theorem dX9_finds_67 : decode cX9_finds 67 = .ok (.aload_n 0, 1) := by decide +kernel
theorem dX9_finds_68 : decode cX9_finds 68 = .ok (.getfield 95, 3) := by decide +kernel
theorem dX9_finds_71 : decode cX9_finds 71 = .ok (.iload_n 3, 1) := by decide +kernel
theorem dX9_finds_72 : decode cX9_finds 72 = .ok (.iload_n 1, 1) := by decide +kernel
theorem dX9_finds_73 : decode cX9_finds 73 = .ok (.iastore, 1) := by decide +kernel
theorem dX9_finds_74 : decode cX9_finds 74 = .ok (.aload_n 0, 1) := by decide +kernel
theorem dX9_finds_75 : decode cX9_finds 75 = .ok (.getfield 95, 3) := by decide +kernel
theorem dX9_finds_78 : decode cX9_finds 78 = .ok (.iload_n 1, 1) := by decide +kernel
theorem dX9_finds_79 : decode cX9_finds 79 = .ok (.iload_n 3, 1) := by decide +kernel
theorem dX9_finds_80 : decode cX9_finds 80 = .ok (.iastore, 1) := by decide +kernel
theorem dX9_finds_81 : decode cX9_finds 81 = .ok (.iconst 1, 1) := by decide +kernel
theorem dX9_finds_82 : decode cX9_finds 82 = .ok (.ireturn, 1) := by decide +kernel
theorem dX9_finds_83 : decode cX9_finds 83 = .ok (.iinc 2 1, 3) := by decide +kernel
theorem dX9_finds_86 : decode cX9_finds 86 = .ok (.goto (-80), 3) := by decide +kernel
theorem dX9_finds_89 : decode cX9_finds 89 = .ok (.iconst 0, 1) := by decide +kernel
theorem dX9_finds_90 : decode cX9_finds 90 = .ok (.ireturn, 1) := by decide +kernel
theorem dX9_opens_0 : decode cX9_opens 0 = .ok (.iconst 0, 1) := by decide +kernel
theorem dX9_opens_1 : decode cX9_opens 1 = .ok (.istore_n 1, 1) := by decide +kernel
theorem dX9_opens_2 : decode cX9_opens 2 = .ok (.iload_n 1, 1) := by decide +kernel
theorem dX9_opens_3 : decode cX9_opens 3 = .ok (.sipush 300, 3) := by decide +kernel
theorem dX9_opens_6 : decode cX9_opens 6 = .ok (.if_icmp .ge 23, 3) := by decide +kernel
theorem dX9_opens_9 : decode cX9_opens 9 = .ok (.aload_n 0, 1) := by decide +kernel
theorem dX9_opens_10 : decode cX9_opens 10 = .ok (.getfield 95, 3) := by decide +kernel
theorem dX9_opens_13 : decode cX9_opens 13 = .ok (.iload_n 1, 1) := by decide +kernel
theorem dX9_opens_14 : decode cX9_opens 14 = .ok (.iconst (-1), 1) := by decide +kernel
theorem dX9_opens_15 : decode cX9_opens 15 = .ok (.iastore, 1) := by decide +kernel
theorem dX9_opens_16 : decode cX9_opens 16 = .ok (.aload_n 0, 1) := by decide +kernel
theorem dX9_opens_17 : decode cX9_opens 17 = .ok (.getfield 101, 3) := by decide +kernel
theorem dX9_opens_20 : decode cX9_opens 20 = .ok (.iload_n 1, 1) := by decide +kernel
theorem dX9_opens_21 : decode cX9_opens 21 = .ok (.iconst 0, 1) := by decide +kernel
theorem dX9_opens_22 : decode cX9_opens 22 = .ok (.bastore, 1) := by decide +kernel
theorem dX9_opens_23 : decode cX9_opens 23 = .ok (.iinc 1 1, 3) := by decide +kernel
theorem dX9_opens_26 : decode cX9_opens 26 = .ok (.goto (-24), 3) := by decide +kernel
theorem dX9_opens_29 : decode cX9_opens 29 = .ok (.aload_n 0, 1) := by decide +kernel
theorem dX9_opens_30 : decode cX9_opens 30 = .ok (.invokevirtual 242, 3) := by decide +kernel
theorem dX9_opens_33 : decode cX9_opens 33 = .ok (.aload_n 0, 1) := by decide +kernel
theorem dX9_opens_34 : decode cX9_opens 34 = .ok (.invokevirtual 245, 3) := by decide +kernel
theorem dX9_opens_37 : decode cX9_opens 37 = .ok (.ifCond .ne 5, 3) := by decide +kernel
theorem dX9_opens_40 : decode cX9_opens 40 = .ok (.iconst (-1), 1) := by decide +kernel
theorem dX9_opens_41 : decode cX9_opens 41 = .ok (.ireturn, 1) := by decide +kernel
theorem dX9_opens_42 : decode cX9_opens 42 = .ok (.iconst 0, 1) := by decide +kernel
theorem dX9_opens_43 : decode cX9_opens 43 = .ok (.istore_n 1, 1) := by decide +kernel
theorem dX9_opens_44 : decode cX9_opens 44 = .ok (.iconst 0, 1) := by decide +kernel
theorem dX9_opens_45 : decode cX9_opens 45 = .ok (.istore_n 2, 1) := by decide +kernel
theorem dX9_opens_46 : decode cX9_opens 46 = .ok (.iload_n 2, 1) := by decide +kernel
theorem dX9_opens_47 : decode cX9_opens 47 = .ok (.aload_n 0, 1) := by decide +kernel
theorem dX9_opens_48 : decode cX9_opens 48 = .ok (.getfield 201, 3) := by decide +kernel
theorem dX9_opens_51 : decode cX9_opens 51 = .ok (.if_icmp .ge 57, 3) := by decide +kernel
theorem dX9_opens_54 : decode cX9_opens 54 = .ok (.aload_n 0, 1) := by decide +kernel
theorem dX9_opens_55 : decode cX9_opens 55 = .ok (.getfield 92, 3) := by decide +kernel
theorem dX9_opens_58 : decode cX9_opens 58 = .ok (.iload_n 2, 1) := by decide +kernel
theorem dX9_opens_59 : decode cX9_opens 59 = .ok (.iaload, 1) := by decide +kernel
theorem dX9_opens_60 : decode cX9_opens 60 = .ok (.ifCond .ne 42, 3) := by decide +kernel
theorem dX9_opens_63 : decode cX9_opens 63 = .ok (.iconst 0, 1) := by decide +kernel
theorem dX9_opens_64 : decode cX9_opens 64 = .ok (.istore_n 3, 1) := by decide +kernel
theorem dX9_opens_65 : decode cX9_opens 65 = .ok (.iload_n 3, 1) := by decide +kernel
theorem dX9_opens_66 : decode cX9_opens 66 = .ok (.aload_n 0, 1) := by decide +kernel
theorem dX9_opens_67 : decode cX9_opens 67 = .ok (.getfield 201, 3) := by decide +kernel
theorem dX9_opens_70 : decode cX9_opens 70 = .ok (.if_icmp .ge 16, 3) := by decide +kernel
theorem dX9_opens_73 : decode cX9_opens 73 = .ok (.aload_n 0, 1) := by decide +kernel
theorem dX9_opens_74 : decode cX9_opens 74 = .ok (.getfield 98, 3) := by decide +kernel
theorem dX9_opens_77 : decode cX9_opens 77 = .ok (.iload_n 3, 1) := by decide +kernel
theorem dX9_opens_78 : decode cX9_opens 78 = .ok (.iconst 0, 1) := by decide +kernel
theorem dX9_opens_79 : decode cX9_opens 79 = .ok (.bastore, 1) := by decide +kernel
theorem dX9_opens_80 : decode cX9_opens 80 = .ok (.iinc 3 1, 3) := by decide +kernel
theorem dX9_opens_83 : decode cX9_opens 83 = .ok (.goto (-18), 3) := by decide +kernel
theorem dX9_opens_86 : decode cX9_opens 86 = .ok (.iload_n 1, 1) := by decide +kernel
theorem dX9_opens_87 : decode cX9_opens 87 = .ok (.aload_n 0, 1) := by decide +kernel
theorem dX9_opens_88 : decode cX9_opens 88 = .ok (.iload_n 2, 1) := by decide +kernel
theorem dX9_opens_89 : decode cX9_opens 89 = .ok (.invokevirtual 239, 3) := by decide +kernel
theorem dX9_opens_92 : decode cX9_opens 92 = .ok (.ifCond .eq 7, 3) := by decide +kernel
theorem dX9_opens_95 : decode cX9_opens 95 = .ok (.iconst 1, 1) := by decide +kernel
theorem dX9_opens_96 : decode cX9_opens 96 = .ok (.goto 4, 3) := by decide +kernel
theorem dX9_opens_99 : decode cX9_opens 99 = .ok (.iconst 0, 1) := by decide +kernel
theorem dX9_opens_100 : decode cX9_opens 100 = .ok (.iadd, 1) := by decide +kernel
theorem dX9_opens_101 : decode cX9_opens 101 = .ok (.istore_n 1, 1) := by decide +kernel
theorem dX9_opens_102 : decode cX9_opens 102 = .ok (.iinc 2 1, 3) := by decide +kernel
theorem dX9_opens_105 : decode cX9_opens 105 = .ok (.goto (-59), 3) := by decide +kernel
theorem dX9_opens_108 : decode cX9_opens 108 = .ok (.iconst 0, 1) := by decide +kernel
theorem dX9_opens_109 : decode cX9_opens 109 = .ok (.istore_n 2, 1) := by decide +kernel
theorem dX9_opens_110 : decode cX9_opens 110 = .ok (.iload_n 2, 1) := by decide +kernel
theorem dX9_opens_111 : decode cX9_opens 111 = .ok (.aload_n 0, 1) := by decide +kernel
theorem dX9_opens_112 : decode cX9_opens 112 = .ok (.getfield 201, 3) := by decide +kernel
theorem dX9_opens_115 : decode cX9_opens 115 = .ok (.if_icmp .ge 16, 3) := by decide +kernel
theorem dX9_opens_118 : decode cX9_opens 118 = .ok (.aload_n 0, 1) := by decide +kernel
theorem dX9_opens_119 : decode cX9_opens 119 = .ok (.getfield 98, 3) := by decide +kernel
theorem dX9_opens_122 : decode cX9_opens 122 = .ok (.iload_n 2, 1) := by decide +kernel
theorem dX9_opens_123 : decode cX9_opens 123 = .ok (.iconst 0, 1) := by decide +kernel
theorem dX9_opens_124 : decode cX9_opens 124 = .ok (.bastore, 1) := by decide +kernel
theorem dX9_opens_125 : decode cX9_opens 125 = .ok (.iinc 2 1, 3) := by decide +kernel
theorem dX9_opens_128 : decode cX9_opens 128 = .ok (.goto (-18), 3) := by decide +kernel
theorem dX9_opens_131 : decode cX9_opens 131 = .ok (.iconst 0, 1) := by decide +kernel
theorem dX9_opens_132 : decode cX9_opens 132 = .ok (.istore_n 2, 1) := by decide +kernel
theorem dX9_opens_133 : decode cX9_opens 133 = .ok (.iload_n 2, 1) := by decide +kernel
theorem dX9_opens_134 : decode cX9_opens 134 = .ok (.aload_n 0, 1) := by decide +kernel
theorem dX9_opens_135 : decode cX9_opens 135 = .ok (.getfield 201, 3) := by decide +kernel
theorem dX9_opens_138 : decode cX9_opens 138 = .ok (.if_icmp .ge 32, 3) := by decide +kernel
theorem dX9_opens_141 : decode cX9_opens 141 = .ok (.aload_n 0, 1) := by decide +kernel
theorem dX9_opens_142 : decode cX9_opens 142 = .ok (.getfield 92, 3) := by decide +kernel
theorem dX9_opens_145 : decode cX9_opens 145 = .ok (.iload_n 2, 1) := by decide +kernel
theorem dX9_opens_146 : decode cX9_opens 146 = .ok (.iaload, 1) := by decide +kernel
theorem dX9_opens_147 : decode cX9_opens 147 = .ok (.ifCond .ne 17, 3) := by decide +kernel
theorem dX9_opens_150 : decode cX9_opens 150 = .ok (.aload_n 0, 1) := by decide +kernel
theorem dX9_opens_151 : decode cX9_opens 151 = .ok (.getfield 95, 3) := by decide +kernel
theorem dX9_opens_154 : decode cX9_opens 154 = .ok (.iload_n 2, 1) := by decide +kernel
theorem dX9_opens_155 : decode cX9_opens 155 = .ok (.iaload, 1) := by decide +kernel
theorem dX9_opens_156 : decode cX9_opens 156 = .ok (.ifCond .ge 8, 3) := by decide +kernel
theorem dX9_opens_159 : decode cX9_opens 159 = .ok (.aload_n 0, 1) := by decide +kernel
theorem dX9_opens_160 : decode cX9_opens 160 = .ok (.iload_n 2, 1) := by decide +kernel
theorem dX9_opens_161 : decode cX9_opens 161 = .ok (.invokevirtual 248, 3) := by decide +kernel
theorem dX9_opens_164 : decode cX9_opens 164 = .ok (.iinc 2 1, 3) := by decide +kernel
theorem dX9_opens_167 : decode cX9_opens 167 = .ok (.goto (-34), 3) := by decide +kernel
theorem dX9_opens_170 : decode cX9_opens 170 = .ok (.iconst 0, 1) := by decide +kernel
theorem dX9_opens_171 : decode cX9_opens 171 = .ok (.istore_n 2, 1) := by decide +kernel
theorem dX9_opens_172 : decode cX9_opens 172 = .ok (.iload_n 2, 1) := by decide +kernel
theorem dX9_opens_173 : decode cX9_opens 173 = .ok (.aload_n 0, 1) := by decide +kernel
theorem dX9_opens_174 : decode cX9_opens 174 = .ok (.getfield 201, 3) := by decide +kernel
theorem dX9_opens_177 : decode cX9_opens 177 = .ok (.if_icmp .ge 65, 3) := by decide +kernel
theorem dX9_opens_180 : decode cX9_opens 180 = .ok (.aload_n 0, 1) := by decide +kernel
theorem dX9_opens_181 : decode cX9_opens 181 = .ok (.getfield 101, 3) := by decide +kernel
theorem dX9_opens_184 : decode cX9_opens 184 = .ok (.iload_n 2, 1) := by decide +kernel
theorem dX9_opens_185 : decode cX9_opens 185 = .ok (.aload_n 0, 1) := by decide +kernel
theorem dX9_opens_186 : decode cX9_opens 186 = .ok (.getfield 92, 3) := by decide +kernel
theorem dX9_opens_189 : decode cX9_opens 189 = .ok (.iload_n 2, 1) := by decide +kernel
theorem dX9_opens_190 : decode cX9_opens 190 = .ok (.iaload, 1) := by decide +kernel
theorem dX9_opens_191 : decode cX9_opens 191 = .ok (.ifCond .ne 20, 3) := by decide +kernel
theorem dX9_opens_194 : decode cX9_opens 194 = .ok (.aload_n 0, 1) := by decide +kernel
theorem dX9_opens_195 : decode cX9_opens 195 = .ok (.getfield 98, 3) := by decide +kernel
theorem dX9_opens_198 : decode cX9_opens 198 = .ok (.iload_n 2, 1) := by decide +kernel
theorem dX9_opens_199 : decode cX9_opens 199 = .ok (.baload, 1) := by decide +kernel
theorem dX9_opens_200 : decode cX9_opens 200 = .ok (.ifCond .ne 11, 3) := by decide +kernel
theorem dX9_opens_203 : decode cX9_opens 203 = .ok (.aload_n 0, 1) := by decide +kernel
theorem dX9_opens_204 : decode cX9_opens 204 = .ok (.iload_n 2, 1) := by decide +kernel
theorem dX9_opens_205 : decode cX9_opens 205 = .ok (.invokevirtual 226, 3) := by decide +kernel
theorem dX9_opens_208 : decode cX9_opens 208 = .ok (.ifCond .gt 22, 3) := by decide +kernel
theorem dX9_opens_211 : decode cX9_opens 211 = .ok (.aload_n 0, 1) := by decide +kernel
theorem dX9_opens_212 : decode cX9_opens 212 = .ok (.getfield 92, 3) := by decide +kernel
theorem dX9_opens_215 : decode cX9_opens 215 = .ok (.iload_n 2, 1) := by decide +kernel
theorem dX9_opens_216 : decode cX9_opens 216 = .ok (.iaload, 1) := by decide +kernel
theorem dX9_opens_217 : decode cX9_opens 217 = .ok (.iconst 1, 1) := by decide +kernel
theorem dX9_opens_218 : decode cX9_opens 218 = .ok (.if_icmp .ne 16, 3) := by decide +kernel
theorem dX9_opens_221 : decode cX9_opens 221 = .ok (.aload_n 0, 1) := by decide +kernel
theorem dX9_opens_222 : decode cX9_opens 222 = .ok (.getfield 98, 3) := by decide +kernel
theorem dX9_opens_225 : decode cX9_opens 225 = .ok (.iload_n 2, 1) := by decide +kernel
theorem dX9_opens_226 : decode cX9_opens 226 = .ok (.baload, 1) := by decide +kernel
theorem dX9_opens_227 : decode cX9_opens 227 = .ok (.ifCond .eq 7, 3) := by decide +kernel
theorem dX9_opens_230 : decode cX9_opens 230 = .ok (.iconst 1, 1) := by decide +kernel
theorem dX9_opens_231 : decode cX9_opens 231 = .ok (.goto 4, 3) := by decide +kernel
theorem dX9_opens_234 : decode cX9_opens 234 = .ok (.iconst 0, 1) := by decide +kernel
theorem dX9_opens_235 : decode cX9_opens 235 = .ok (.bastore, 1) := by decide +kernel
theorem dX9_opens_236 : decode cX9_opens 236 = .ok (.iinc 2 1, 3) := by decide +kernel
theorem dX9_opens_239 : decode cX9_opens 239 = .ok (.goto (-67), 3) := by decide +kernel
theorem dX9_opens_242 : decode cX9_opens 242 = .ok (.iload_n 1, 1) := by decide +kernel
theorem dX9_opens_243 : decode cX9_opens 243 = .ok (.ireturn, 1) := by decide +kernel
theorem dX9_reaches_0 : decode cX9_reaches 0 = .ok (.aload_n 0, 1) := by decide +kernel
theorem dX9_reaches_1 : decode cX9_reaches 1 = .ok (.getfield 98, 3) := by decide +kernel
theorem dX9_reaches_4 : decode cX9_reaches 4 = .ok (.iload_n 1, 1) := by decide +kernel
theorem dX9_reaches_5 : decode cX9_reaches 5 = .ok (.iconst 1, 1) := by decide +kernel
theorem dX9_reaches_6 : decode cX9_reaches 6 = .ok (.bastore, 1) := by decide +kernel
theorem dX9_reaches_7 : decode cX9_reaches 7 = .ok (.sipush 300, 3) := by decide +kernel
theorem dX9_reaches_10 : decode cX9_reaches 10 = .ok (.iload_n 1, 1) := by decide +kernel
theorem dX9_reaches_11 : decode cX9_reaches 11 = .ok (.imul, 1) := by decide +kernel
theorem dX9_reaches_12 : decode cX9_reaches 12 = .ok (.istore_n 2, 1) := by decide +kernel
theorem dX9_reaches_13 : decode cX9_reaches 13 = .ok (.iload_n 2, 1) := by decide +kernel
theorem dX9_reaches_14 : decode cX9_reaches 14 = .ok (.sipush 300, 3) := by decide +kernel
theorem dX9_reaches_17 : decode cX9_reaches 17 = .ok (.iload_n 1, 1) := by decide +kernel
theorem dX9_reaches_18 : decode cX9_reaches 18 = .ok (.imul, 1) := by decide +kernel
theorem dX9_reaches_19 : decode cX9_reaches 19 = .ok (.aload_n 0, 1) := by decide +kernel
theorem dX9_reaches_20 : decode cX9_reaches 20 = .ok (.getfield 80, 3) := by decide +kernel
theorem dX9_reaches_23 : decode cX9_reaches 23 = .ok (.iload_n 1, 1) := by decide +kernel
theorem dX9_reaches_24 : decode cX9_reaches 24 = .ok (.iaload, 1) := by decide +kernel
theorem dX9_reaches_25 : decode cX9_reaches 25 = .ok (.iadd, 1) := by decide +kernel
theorem dX9_reaches_26 : decode cX9_reaches 26 = .ok (.if_icmp .ge 65, 3) := by decide +kernel
theorem dX9_reaches_29 : decode cX9_reaches 29 = .ok (.aload_n 0, 1) := by decide +kernel
theorem dX9_reaches_30 : decode cX9_reaches 30 = .ok (.getfield 83, 3) := by decide +kernel
theorem dX9_reaches_33 : decode cX9_reaches 33 = .ok (.iload_n 2, 1) := by decide +kernel
theorem dX9_reaches_34 : decode cX9_reaches 34 = .ok (.iaload, 1) := by decide +kernel
theorem dX9_reaches_35 : decode cX9_reaches 35 = .ok (.istore_n 3, 1) := by decide +kernel
theorem dX9_reaches_36 : decode cX9_reaches 36 = .ok (.aload_n 0, 1) := by decide +kernel
theorem dX9_reaches_37 : decode cX9_reaches 37 = .ok (.getfield 98, 3) := by decide +kernel
theorem dX9_reaches_40 : decode cX9_reaches 40 = .ok (.iload_n 3, 1) := by decide +kernel
theorem dX9_reaches_41 : decode cX9_reaches 41 = .ok (.baload, 1) := by decide +kernel
theorem dX9_reaches_42 : decode cX9_reaches 42 = .ok (.ifCond .ne 43, 3) := by decide +kernel
theorem dX9_reaches_45 : decode cX9_reaches 45 = .ok (.aload_n 0, 1) := by decide +kernel
theorem dX9_reaches_46 : decode cX9_reaches 46 = .ok (.getfield 98, 3) := by decide +kernel
theorem dX9_reaches_49 : decode cX9_reaches 49 = .ok (.iload_n 3, 1) := by decide +kernel
theorem dX9_reaches_50 : decode cX9_reaches 50 = .ok (.iconst 1, 1) := by decide +kernel
theorem dX9_reaches_51 : decode cX9_reaches 51 = .ok (.bastore, 1) := by decide +kernel
theorem dX9_reaches_52 : decode cX9_reaches 52 = .ok (.aload_n 0, 1) := by decide +kernel
theorem dX9_reaches_53 : decode cX9_reaches 53 = .ok (.getfield 95, 3) := by decide +kernel
theorem dX9_reaches_56 : decode cX9_reaches 56 = .ok (.iload_n 3, 1) := by decide +kernel
theorem dX9_reaches_57 : decode cX9_reaches 57 = .ok (.iaload, 1) := by decide +kernel
theorem dX9_reaches_58 : decode cX9_reaches 58 = .ok (.ifCond .lt 27, 3) := by decide +kernel
theorem dX9_reaches_61 : decode cX9_reaches 61 = .ok (.aload_n 0, 1) := by decide +kernel
theorem dX9_reaches_62 : decode cX9_reaches 62 = .ok (.getfield 98, 3) := by decide +kernel
theorem dX9_reaches_65 : decode cX9_reaches 65 = .ok (.aload_n 0, 1) := by decide +kernel
theorem dX9_reaches_66 : decode cX9_reaches 66 = .ok (.getfield 95, 3) := by decide +kernel
theorem dX9_reaches_69 : decode cX9_reaches 69 = .ok (.iload_n 3, 1) := by decide +kernel
theorem dX9_reaches_70 : decode cX9_reaches 70 = .ok (.iaload, 1) := by decide +kernel
theorem dX9_reaches_71 : decode cX9_reaches 71 = .ok (.baload, 1) := by decide +kernel
theorem dX9_reaches_72 : decode cX9_reaches 72 = .ok (.ifCond .ne 13, 3) := by decide +kernel
theorem dX9_reaches_75 : decode cX9_reaches 75 = .ok (.aload_n 0, 1) := by decide +kernel
theorem dX9_reaches_76 : decode cX9_reaches 76 = .ok (.aload_n 0, 1) := by decide +kernel
theorem dX9_reaches_77 : decode cX9_reaches 77 = .ok (.getfield 95, 3) := by decide +kernel
theorem dX9_reaches_80 : decode cX9_reaches 80 = .ok (.iload_n 3, 1) := by decide +kernel
theorem dX9_reaches_81 : decode cX9_reaches 81 = .ok (.iaload, 1) := by decide +kernel
theorem dX9_reaches_82 : decode cX9_reaches 82 = .ok (.invokevirtual 248, 3) := by decide +kernel
theorem dX9_reaches_85 : decode cX9_reaches 85 = .ok (.iinc 2 1, 3) := by decide +kernel
theorem dX9_reaches_88 : decode cX9_reaches 88 = .ok (.goto (-75), 3) := by decide +kernel
theorem dX9_reaches_91 : decode cX9_reaches 91 = .ok (.return_, 1) := by decide +kernel
theorem dX9_fewest_0 : decode cX9_fewest 0 = .ok (.aload_n 0, 1) := by decide +kernel
theorem dX9_fewest_1 : decode cX9_fewest 1 = .ok (.iconst 0, 1) := by decide +kernel
theorem dX9_fewest_2 : decode cX9_fewest 2 = .ok (.putfield 1, 3) := by decide +kernel
theorem dX9_fewest_5 : decode cX9_fewest 5 = .ok (.aload_n 0, 1) := by decide +kernel
theorem dX9_fewest_6 : decode cX9_fewest 6 = .ok (.invokevirtual 251, 3) := by decide +kernel
theorem dX9_fewest_9 : decode cX9_fewest 9 = .ok (.ireturn, 1) := by decide +kernel
theorem dX9_isNearHand_0 : decode cX9_isNearHand 0 = .ok (.iconst 0, 1) := by decide +kernel
theorem dX9_isNearHand_1 : decode cX9_isNearHand 1 = .ok (.istore_n 2, 1) := by decide +kernel
theorem dX9_isNearHand_2 : decode cX9_isNearHand 2 = .ok (.sipush 300, 3) := by decide +kernel
theorem dX9_isNearHand_5 : decode cX9_isNearHand 5 = .ok (.iload_n 1, 1) := by decide +kernel
theorem dX9_isNearHand_6 : decode cX9_isNearHand 6 = .ok (.imul, 1) := by decide +kernel
theorem dX9_isNearHand_7 : decode cX9_isNearHand 7 = .ok (.istore_n 3, 1) := by decide +kernel
theorem dX9_isNearHand_8 : decode cX9_isNearHand 8 = .ok (.iload_n 3, 1) := by decide +kernel
theorem dX9_isNearHand_9 : decode cX9_isNearHand 9 = .ok (.sipush 300, 3) := by decide +kernel
theorem dX9_isNearHand_12 : decode cX9_isNearHand 12 = .ok (.iload_n 1, 1) := by decide +kernel
theorem dX9_isNearHand_13 : decode cX9_isNearHand 13 = .ok (.imul, 1) := by decide +kernel
theorem dX9_isNearHand_14 : decode cX9_isNearHand 14 = .ok (.aload_n 0, 1) := by decide +kernel
theorem dX9_isNearHand_15 : decode cX9_isNearHand 15 = .ok (.getfield 80, 3) := by decide +kernel
theorem dX9_isNearHand_18 : decode cX9_isNearHand 18 = .ok (.iload_n 1, 1) := by decide +kernel
theorem dX9_isNearHand_19 : decode cX9_isNearHand 19 = .ok (.iaload, 1) := by decide +kernel
theorem dX9_isNearHand_20 : decode cX9_isNearHand 20 = .ok (.iadd, 1) := by decide +kernel
theorem dX9_isNearHand_21 : decode cX9_isNearHand 21 = .ok (.if_icmp .ge 33, 3) := by decide +kernel
theorem dX9_isNearHand_24 : decode cX9_isNearHand 24 = .ok (.iload_n 2, 1) := by decide +kernel
theorem dX9_isNearHand_25 : decode cX9_isNearHand 25 = .ok (.ifCond .ne 17, 3) := by decide +kernel
theorem dX9_isNearHand_28 : decode cX9_isNearHand 28 = .ok (.aload_n 0, 1) := by decide +kernel
theorem dX9_isNearHand_29 : decode cX9_isNearHand 29 = .ok (.getfield 104, 3) := by decide +kernel
theorem dX9_isNearHand_32 : decode cX9_isNearHand 32 = .ok (.aload_n 0, 1) := by decide +kernel
theorem dX9_isNearHand_33 : decode cX9_isNearHand 33 = .ok (.getfield 83, 3) := by decide +kernel
theorem dX9_isNearHand_36 : decode cX9_isNearHand 36 = .ok (.iload_n 3, 1) := by decide +kernel
theorem dX9_isNearHand_37 : decode cX9_isNearHand 37 = .ok (.iaload, 1) := by decide +kernel
theorem dX9_isNearHand_38 : decode cX9_isNearHand 38 = .ok (.baload, 1) := by decide +kernel
theorem dX9_isNearHand_39 : decode cX9_isNearHand 39 = .ok (.ifCond .eq 7, 3) := by decide +kernel
theorem dX9_isNearHand_42 : decode cX9_isNearHand 42 = .ok (.iconst 1, 1) := by decide +kernel
theorem dX9_isNearHand_43 : decode cX9_isNearHand 43 = .ok (.goto 4, 3) := by decide +kernel
theorem dX9_isNearHand_46 : decode cX9_isNearHand 46 = .ok (.iconst 0, 1) := by decide +kernel
theorem dX9_isNearHand_47 : decode cX9_isNearHand 47 = .ok (.istore_n 2, 1) := by decide +kernel
theorem dX9_isNearHand_48 : decode cX9_isNearHand 48 = .ok (.iinc 3 1, 3) := by decide +kernel
theorem dX9_isNearHand_51 : decode cX9_isNearHand 51 = .ok (.goto (-43), 3) := by decide +kernel
theorem dX9_isNearHand_54 : decode cX9_isNearHand 54 = .ok (.iload_n 2, 1) := by decide +kernel
theorem dX9_isNearHand_55 : decode cX9_isNearHand 55 = .ok (.ireturn, 1) := by decide +kernel
