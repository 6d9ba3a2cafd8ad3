theorem dX6_is_13 : decode cX6_is 13 = .ok (.lcmp, 1) := by decide +kernel
theorem dX6_is_14 : decode cX6_is 14 = .ok (.ifCond .ne 7, 3) := by decide +kernel
theorem dX6_is_17 : decode cX6_is 17 = .ok (.iconst 1, 1) := by decide +kernel
theorem dX6_is_18 : decode cX6_is 18 = .ok (.goto 4, 3) := by decide +kernel
theorem dX6_is_21 : decode cX6_is 21 = .ok (.iconst 0, 1) := by decide +kernel
theorem dX6_is_22 : decode cX6_is 22 = .ok (.ireturn, 1) := by decide +kernel
theorem dX6_behindBlanks_0 : decode cX6_behindBlanks 0 = .ok (.iload_n 1, 1) := by decide +kernel
theorem dX6_behindBlanks_1 : decode cX6_behindBlanks 1 = .ok (.istore_n 2, 1) := by decide +kernel
theorem dX6_behindBlanks_2 : decode cX6_behindBlanks 2 = .ok (.iload_n 2, 1) := by decide +kernel
theorem dX6_behindBlanks_3 : decode cX6_behindBlanks 3 = .ok (.aload_n 0, 1) := by decide +kernel
theorem dX6_behindBlanks_4 : decode cX6_behindBlanks 4 = .ok (.getfield 7, 3) := by decide +kernel
theorem dX6_behindBlanks_7 : decode cX6_behindBlanks 7 = .ok (.getfield 31, 3) := by decide +kernel
theorem dX6_behindBlanks_10 : decode cX6_behindBlanks 10 = .ok (.if_icmp .ge 37, 3) := by decide +kernel
theorem dX6_behindBlanks_13 : decode cX6_behindBlanks 13 = .ok (.aload_n 0, 1) := by decide +kernel
theorem dX6_behindBlanks_14 : decode cX6_behindBlanks 14 = .ok (.getfield 7, 3) := by decide +kernel
theorem dX6_behindBlanks_17 : decode cX6_behindBlanks 17 = .ok (.getfield 39, 3) := by decide +kernel
theorem dX6_behindBlanks_20 : decode cX6_behindBlanks 20 = .ok (.iload_n 2, 1) := by decide +kernel
theorem dX6_behindBlanks_21 : decode cX6_behindBlanks 21 = .ok (.caload, 1) := by decide +kernel
theorem dX6_behindBlanks_22 : decode cX6_behindBlanks 22 = .ok (.bipush 10, 2) := by decide +kernel
theorem dX6_behindBlanks_24 : decode cX6_behindBlanks 24 = .ok (.if_icmp .eq 17, 3) := by decide +kernel
theorem dX6_behindBlanks_27 : decode cX6_behindBlanks 27 = .ok (.aload_n 0, 1) := by decide +kernel
theorem dX6_behindBlanks_28 : decode cX6_behindBlanks 28 = .ok (.getfield 7, 3) := by decide +kernel
theorem dX6_behindBlanks_31 : decode cX6_behindBlanks 31 = .ok (.getfield 39, 3) := by decide +kernel
theorem dX6_behindBlanks_34 : decode cX6_behindBlanks 34 = .ok (.iload_n 2, 1) := by decide +kernel
theorem dX6_behindBlanks_35 : decode cX6_behindBlanks 35 = .ok (.caload, 1) := by decide +kernel
theorem dX6_behindBlanks_36 : decode cX6_behindBlanks 36 = .ok (.bipush 32, 2) := by decide +kernel
theorem dX6_behindBlanks_38 : decode cX6_behindBlanks 38 = .ok (.if_icmp .ne 9, 3) := by decide +kernel
theorem dX6_behindBlanks_41 : decode cX6_behindBlanks 41 = .ok (.iinc 2 1, 3) := by decide +kernel
theorem dX6_behindBlanks_44 : decode cX6_behindBlanks 44 = .ok (.goto (-42), 3) := by decide +kernel
theorem dX6_behindBlanks_47 : decode cX6_behindBlanks 47 = .ok (.iload_n 2, 1) := by decide +kernel
theorem dX6_behindBlanks_48 : decode cX6_behindBlanks 48 = .ok (.ireturn, 1) := by decide +kernel
theorem dX6_readWord_0 : decode cX6_readWord 0 = .ok (.aload_n 0, 1) := by decide +kernel
theorem dX6_readWord_1 : decode cX6_readWord 1 = .ok (.getfield 13, 3) := by decide +kernel
theorem dX6_readWord_4 : decode cX6_readWord 4 = .ok (.aload_n 0, 1) := by decide +kernel
theorem dX6_readWord_5 : decode cX6_readWord 5 = .ok (.getfield 7, 3) := by decide +kernel
theorem dX6_readWord_8 : decode cX6_readWord 8 = .ok (.getfield 31, 3) := by decide +kernel
theorem dX6_readWord_11 : decode cX6_readWord 11 = .ok (.if_icmp .ge 59, 3) := by decide +kernel
theorem dX6_readWord_14 : decode cX6_readWord 14 = .ok (.aload_n 0, 1) := by decide +kernel
theorem dX6_readWord_15 : decode cX6_readWord 15 = .ok (.getfield 7, 3) := by decide +kernel
theorem dX6_readWord_18 : decode cX6_readWord 18 = .ok (.getfield 39, 3) := by decide +kernel
theorem dX6_readWord_21 : decode cX6_readWord 21 = .ok (.aload_n 0, 1) := by decide +kernel
theorem dX6_readWord_22 : decode cX6_readWord 22 = .ok (.getfield 13, 3) := by decide +kernel
theorem dX6_readWord_25 : decode cX6_readWord 25 = .ok (.caload, 1) := by decide +kernel
theorem dX6_readWord_26 : decode cX6_readWord 26 = .ok (.invokestatic 43, 3) := by decide +kernel
theorem dX6_readWord_29 : decode cX6_readWord 29 = .ok (.ifCond .eq 41, 3) := by decide +kernel
theorem dX6_readWord_32 : decode cX6_readWord 32 = .ok (.aload_n 0, 1) := by decide +kernel
theorem dX6_readWord_33 : decode cX6_readWord 33 = .ok (.aload_n 0, 1) := by decide +kernel
theorem dX6_readWord_34 : decode cX6_readWord 34 = .ok (.getfield 27, 3) := by decide +kernel
theorem dX6_readWord_37 : decode cX6_readWord 37 = .ok (.bipush 8, 2) := by decide +kernel
theorem dX6_readWord_39 : decode cX6_readWord 39 = .ok (.lshl, 1) := by decide +kernel
theorem dX6_readWord_40 : decode cX6_readWord 40 = .ok (.aload_n 0, 1) := by decide +kernel
theorem dX6_readWord_41 : decode cX6_readWord 41 = .ok (.getfield 7, 3) := by decide +kernel
theorem dX6_readWord_44 : decode cX6_readWord 44 = .ok (.getfield 39, 3) := by decide +kernel
theorem dX6_readWord_47 : decode cX6_readWord 47 = .ok (.aload_n 0, 1) := by decide +kernel
theorem dX6_readWord_48 : decode cX6_readWord 48 = .ok (.getfield 13, 3) := by decide +kernel
theorem dX6_readWord_51 : decode cX6_readWord 51 = .ok (.caload, 1) := by decide +kernel
theorem dX6_readWord_52 : decode cX6_readWord 52 = .ok (.i2l, 1) := by decide +kernel
theorem dX6_readWord_53 : decode cX6_readWord 53 = .ok (.lor, 1) := by decide +kernel
theorem dX6_readWord_54 : decode cX6_readWord 54 = .ok (.putfield 27, 3) := by decide +kernel
theorem dX6_readWord_57 : decode cX6_readWord 57 = .ok (.aload_n 0, 1) := by decide +kernel
theorem dX6_readWord_58 : decode cX6_readWord 58 = .ok (.dup, 1) := by decide +kernel
theorem dX6_readWord_59 : decode cX6_readWord 59 = .ok (.getfield 13, 3) := by decide +kernel
theorem dX6_readWord_62 : decode cX6_readWord 62 = .ok (.iconst 1, 1) := by decide +kernel
theorem dX6_readWord_63 : decode cX6_readWord 63 = .ok (.iadd, 1) := by decide +kernel
theorem dX6_readWord_64 : decode cX6_readWord 64 = .ok (.putfield 13, 3) := by decide +kernel
theorem dX6_readWord_67 : decode cX6_readWord 67 = .ok (.goto (-67), 3) := by decide +kernel
theorem dX6_readWord_70 : decode cX6_readWord 70 = .ok (.aload_n 0, 1) := by decide +kernel
theorem dX6_readWord_71 : decode cX6_readWord 71 = .ok (.aload_n 0, 1) := by decide +kernel
theorem dX6_readWord_72 : decode cX6_readWord 72 = .ok (.getfield 13, 3) := by decide +kernel
theorem dX6_readWord_75 : decode cX6_readWord 75 = .ok (.aload_n 0, 1) := by decide +kernel
theorem dX6_readWord_76 : decode cX6_readWord 76 = .ok (.getfield 24, 3) := by decide +kernel
theorem dX6_readWord_79 : decode cX6_readWord 79 = .ok (.isub, 1) := by decide +kernel
theorem dX6_readWord_80 : decode cX6_readWord 80 = .ok (.bipush 8, 2) := by decide +kernel
theorem dX6_readWord_82 : decode cX6_readWord 82 = .ok (.if_icmp .gt 7, 3) := by decide +kernel
theorem dX6_readWord_85 : decode cX6_readWord 85 = .ok (.iconst 1, 1) := by decide +kernel
theorem dX6_readWord_86 : decode cX6_readWord 86 = .ok (.goto 4, 3) := by decide +kernel
theorem dX6_readWord_89 : decode cX6_readWord 89 = .ok (.iconst 4, 1) := by decide +kernel
theorem dX6_readWord_90 : decode cX6_readWord 90 = .ok (.putfield 36, 3) := by decide +kernel
theorem dX6_readWord_93 : decode cX6_readWord 93 = .ok (.return_, 1) := by decide +kernel
theorem dX6_readNumber_0 : decode cX6_readNumber 0 = .ok (.aload_n 0, 1) := by decide +kernel
theorem dX6_readNumber_1 : decode cX6_readNumber 1 = .ok (.getfield 13, 3) := by decide +kernel
theorem dX6_readNumber_4 : decode cX6_readNumber 4 = .ok (.aload_n 0, 1) := by decide +kernel
theorem dX6_readNumber_5 : decode cX6_readNumber 5 = .ok (.getfield 7, 3) := by decide +kernel
theorem dX6_readNumber_8 : decode cX6_readNumber 8 = .ok (.getfield 31, 3) := by decide +kernel
theorem dX6_readNumber_11 : decode cX6_readNumber 11 = .ok (.if_icmp .ge 63, 3) := by decide +kernel
theorem dX6_readNumber_14 : decode cX6_readNumber 14 = .ok (.aload_n 0, 1) := by decide +kernel
theorem dX6_readNumber_15 : decode cX6_readNumber 15 = .ok (.getfield 7, 3) := by decide +kernel
theorem dX6_readNumber_18 : decode cX6_readNumber 18 = .ok (.getfield 39, 3) := by decide +kernel
theorem dX6_readNumber_21 : decode cX6_readNumber 21 = .ok (.aload_n 0, 1) := by decide +kernel
theorem dX6_readNumber_22 : decode cX6_readNumber 22 = .ok (.getfield 13, 3) := by decide +kernel
theorem dX6_readNumber_25 : decode cX6_readNumber 25 = .ok (.caload, 1) := by decide +kernel
theorem dX6_readNumber_26 : decode cX6_readNumber 26 = .ok (.invokestatic 50, 3) := by decide +kernel
theorem dX6_readNumber_29 : decode cX6_readNumber 29 = .ok (.ifCond .eq 45, 3) := by decide +kernel
theorem dX6_readNumber_32 : decode cX6_readNumber 32 = .ok (.aload_n 0, 1) := by decide +kernel
theorem dX6_readNumber_33 : decode cX6_readNumber 33 = .ok (.aload_n 0, 1) := by decide +kernel
theorem dX6_readNumber_34 : decode cX6_readNumber 34 = .ok (.getfield 27, 3) := by decide +kernel
theorem dX6_readNumber_37 : decode cX6_readNumber 37 = .ok (.ldc2_w 59, 3) := by decide +kernel
theorem dX6_readNumber_40 : decode cX6_readNumber 40 = .ok (.lmul, 1) := by decide +kernel
theorem dX6_readNumber_41 : decode cX6_readNumber 41 = .ok (.aload_n 0, 1) := by decide +kernel
theorem dX6_readNumber_42 : decode cX6_readNumber 42 = .ok (.getfield 7, 3) := by decide +kernel
theorem dX6_readNumber_45 : decode cX6_readNumber 45 = .ok (.getfield 39, 3) := by decide +kernel
theorem dX6_readNumber_48 : decode cX6_readNumber 48 = .ok (.aload_n 0, 1) := by decide +kernel
theorem dX6_readNumber_49 : decode cX6_readNumber 49 = .ok (.getfield 13, 3) := by decide +kernel
theorem dX6_readNumber_52 : decode cX6_readNumber 52 = .ok (.caload, 1) := by decide +kernel
theorem dX6_readNumber_53 : decode cX6_readNumber 53 = .ok (.bipush 48, 2) := by decide +kernel
theorem dX6_readNumber_55 : decode cX6_readNumber 55 = .ok (.isub, 1) := by decide +kernel
theorem dX6_readNumber_56 : decode cX6_readNumber 56 = .ok (.i2l, 1) := by decide +kernel
theorem dX6_readNumber_57 : decode cX6_readNumber 57 = .ok (.ladd, 1) := by decide +kernel
theorem dX6_readNumber_58 : decode cX6_readNumber 58 = .ok (.putfield 27, 3) := by decide +kernel
theorem dX6_readNumber_61 : decode cX6_readNumber 61 = .ok (.aload_n 0, 1) := by decide +kernel
theorem dX6_readNumber_62 : decode cX6_readNumber 62 = .ok (.dup, 1) := by decide +kernel
theorem dX6_readNumber_63 : decode cX6_readNumber 63 = .ok (.getfield 13, 3) := by decide +kernel
theorem dX6_readNumber_66 : decode cX6_readNumber 66 = .ok (.iconst 1, 1) := by decide +kernel
theorem dX6_readNumber_67 : decode cX6_readNumber 67 = .ok (.iadd, 1) := by decide +kernel
theorem dX6_readNumber_68 : decode cX6_readNumber 68 = .ok (.putfield 13, 3) := by decide +kernel
theorem dX6_readNumber_71 : decode cX6_readNumber 71 = .ok (.goto (-71), 3) := by decide +kernel
theorem dX6_readNumber_74 : decode cX6_readNumber 74 = .ok (.aload_n 0, 1) := by decide +kernel
theorem dX6_readNumber_75 : decode cX6_readNumber 75 = .ok (.aload_n 0, 1) := by decide +kernel
theorem dX6_readNumber_76 : decode cX6_readNumber 76 = .ok (.getfield 13, 3) := by decide +kernel
theorem dX6_readNumber_79 : decode cX6_readNumber 79 = .ok (.aload_n 0, 1) := by decide +kernel
theorem dX6_readNumber_80 : decode cX6_readNumber 80 = .ok (.getfield 24, 3) := by decide +kernel
theorem dX6_readNumber_83 : decode cX6_readNumber 83 = .ok (.isub, 1) := by decide +kernel
theorem dX6_readNumber_84 : decode cX6_readNumber 84 = .ok (.iconst 4, 1) := by decide +kernel
theorem dX6_readNumber_85 : decode cX6_readNumber 85 = .ok (.if_icmp .gt 7, 3) := by decide +kernel
theorem dX6_readNumber_88 : decode cX6_readNumber 88 = .ok (.iconst 2, 1) := by decide +kernel
theorem dX6_readNumber_89 : decode cX6_readNumber 89 = .ok (.goto 4, 3) := by decide +kernel
theorem dX6_readNumber_92 : decode cX6_readNumber 92 = .ok (.iconst 4, 1) := by decide +kernel
theorem dX6_readNumber_93 : decode cX6_readNumber 93 = .ok (.putfield 36, 3) := by decide +kernel
theorem dX6_readNumber_96 : decode cX6_readNumber 96 = .ok (.return_, 1) := by decide +kernel
theorem dX6_readSign_0 : decode cX6_readSign 0 = .ok (.aload_n 0, 1) := by decide +kernel
theorem dX6_readSign_1 : decode cX6_readSign 1 = .ok (.getfield 7, 3) := by decide +kernel
theorem dX6_readSign_4 : decode cX6_readSign 4 = .ok (.getfield 39, 3) := by decide +kernel
theorem dX6_readSign_7 : decode cX6_readSign 7 = .ok (.aload_n 0, 1) := by decide +kernel
theorem dX6_readSign_8 : decode cX6_readSign 8 = .ok (.getfield 24, 3) := by decide +kernel
theorem dX6_readSign_11 : decode cX6_readSign 11 = .ok (.caload, 1) := by decide +kernel
theorem dX6_readSign_12 : decode cX6_readSign 12 = .ok (.istore_n 1, 1) := by decide +kernel
theorem dX6_readSign_13 : decode cX6_readSign 13 = .ok (.aload_n 0, 1) := by decide +kernel
theorem dX6_readSign_14 : decode cX6_readSign 14 = .ok (.iload_n 1, 1) := by decide +kernel
theorem dX6_readSign_15 : decode cX6_readSign 15 = .ok (.bipush 43, 2) := by decide +kernel
theorem dX6_readSign_17 : decode cX6_readSign 17 = .ok (.if_icmp .eq 15, 3) := by decide +kernel
theorem dX6_readSign_20 : decode cX6_readSign 20 = .ok (.iload_n 1, 1) := by decide +kernel
theorem dX6_readSign_21 : decode cX6_readSign 21 = .ok (.bipush 45, 2) := by decide +kernel
theorem dX6_readSign_23 : decode cX6_readSign 23 = .ok (.if_icmp .eq 9, 3) := by decide +kernel
theorem dX6_readSign_26 : decode cX6_readSign 26 = .ok (.iload_n 1, 1) := by decide +kernel
theorem dX6_readSign_27 : decode cX6_readSign 27 = .ok (.bipush 59, 2) := by decide +kernel
theorem dX6_readSign_29 : decode cX6_readSign 29 = .ok (.if_icmp .ne 7, 3) := by decide +kernel
theorem dX6_readSign_32 : decode cX6_readSign 32 = .ok (.iconst 3, 1) := by decide +kernel
theorem dX6_readSign_33 : decode cX6_readSign 33 = .ok (.goto 4, 3) := by decide +kernel
theorem dX6_readSign_36 : decode cX6_readSign 36 = .ok (.iconst 4, 1) := by decide +kernel
theorem dX6_readSign_37 : decode cX6_readSign 37 = .ok (.putfield 36, 3) := by decide +kernel
theorem dX6_readSign_40 : decode cX6_readSign 40 = .ok (.aload_n 0, 1) := by decide +kernel
theorem dX6_readSign_41 : decode cX6_readSign 41 = .ok (.iload_n 1, 1) := by decide +kernel
theorem dX6_readSign_42 : decode cX6_readSign 42 = .ok (.i2l, 1) := by decide +kernel
theorem dX6_readSign_43 : decode cX6_readSign 43 = .ok (.putfield 27, 3) := by decide +kernel
theorem dX6_readSign_46 : decode cX6_readSign 46 = .ok (.aload_n 0, 1) := by decide +kernel
theorem dX6_readSign_47 : decode cX6_readSign 47 = .ok (.aload_n 0, 1) := by decide +kernel
theorem dX6_readSign_48 : decode cX6_readSign 48 = .ok (.getfield 24, 3) := by decide +kernel
theorem dX6_readSign_51 : decode cX6_readSign 51 = .ok (.iconst 1, 1) := by decide +kernel
theorem dX6_readSign_52 : decode cX6_readSign 52 = .ok (.iadd, 1) := by decide +kernel
theorem dX6_readSign_53 : decode cX6_readSign 53 = .ok (.putfield 13, 3) := by decide +kernel
theorem dX6_readSign_56 : decode cX6_readSign 56 = .ok (.return_, 1) := by decide +kernel
theorem dX6_isLetter_0 : decode cX6_isLetter 0 = .ok (.iload_n 0, 1) := by decide +kernel
theorem dX6_isLetter_1 : decode cX6_isLetter 1 = .ok (.bipush 97, 2) := by decide +kernel
theorem dX6_isLetter_3 : decode cX6_isLetter 3 = .ok (.if_icmp .lt 13, 3) := by decide +kernel
theorem dX6_isLetter_6 : decode cX6_isLetter 6 = .ok (.iload_n 0, 1) := by decide +kernel
theorem dX6_isLetter_7 : decode cX6_isLetter 7 = .ok (.bipush 122, 2) := by decide +kernel
theorem dX6_isLetter_9 : decode cX6_isLetter 9 = .ok (.if_icmp .gt 7, 3) := by decide +kernel
theorem dX6_isLetter_12 : decode cX6_isLetter 12 = .ok (.iconst 1, 1) := by decide +kernel
theorem dX6_isLetter_13 : decode cX6_isLetter 13 = .ok (.goto 4, 3) := by decide +kernel
theorem dX6_isLetter_16 : decode cX6_isLetter 16 = .ok (.iconst 0, 1) := by decide +kernel
theorem dX6_isLetter_17 : decode cX6_isLetter 17 = .ok (.ireturn, 1) := by decide +kernel
theorem dX6_isDigit_0 : decode cX6_isDigit 0 = .ok (.iload_n 0, 1) := by decide +kernel
theorem dX6_isDigit_1 : decode cX6_isDigit 1 = .ok (.bipush 48, 2) := by decide +kernel
theorem dX6_isDigit_3 : decode cX6_isDigit 3 = .ok (.if_icmp .lt 13, 3) := by decide +kernel
theorem dX6_isDigit_6 : decode cX6_isDigit 6 = .ok (.iload_n 0, 1) := by decide +kernel
theorem dX6_isDigit_7 : decode cX6_isDigit 7 = .ok (.bipush 57, 2) := by decide +kernel
theorem dX6_isDigit_9 : decode cX6_isDigit 9 = .ok (.if_icmp .gt 7, 3) := by decide +kernel
theorem dX6_isDigit_12 : decode cX6_isDigit 12 = .ok (.iconst 1, 1) := by decide +kernel
theorem dX6_isDigit_13 : decode cX6_isDigit 13 = .ok (.goto 4, 3) := by decide +kernel
theorem dX6_isDigit_16 : decode cX6_isDigit 16 = .ok (.iconst 0, 1) := by decide +kernel
theorem dX6_isDigit_17 : decode cX6_isDigit 17 = .ok (.ireturn, 1) := by decide +kernel
theorem dX7_init_0 : decode cX7_init 0 = .ok (.aload_n 0, 1) := by decide +kernel
theorem dX7_init_1 : decode cX7_init 1 = .ok (.invokespecial 3, 3) := by decide +kernel
theorem dX7_init_4 : decode cX7_init 4 = .ok (.aload_n 0, 1) := by decide +kernel
theorem dX7_init_5 : decode cX7_init 5 = .ok (.bipush 24, 2) := by decide +kernel
theorem dX7_init_7 : decode cX7_init 7 = .ok (.newarray .int, 2) := by decide +kernel
theorem dX7_init_9 : decode cX7_init 9 = .ok (.putfield 9, 3) := by decide +kernel
theorem dX7_init_12 : decode cX7_init 12 = .ok (.aload_n 0, 1) := by decide +kernel
theorem dX7_init_13 : decode cX7_init 13 = .ok (.bipush 24, 2) := by decide +kernel
theorem dX7_init_15 : decode cX7_init 15 = .ok (.newarray .int, 2) := by decide +kernel
theorem dX7_init_17 : decode cX7_init 17 = .ok (.putfield 15, 3) := by decide +kernel
theorem dX7_init_20 : decode cX7_init 20 = .ok (.aload_n 0, 1) := by decide +kernel
theorem dX7_init_21 : decode cX7_init 21 = .ok (.bipush 24, 2) := by decide +kernel
theorem dX7_init_23 : decode cX7_init 23 = .ok (.newarray .int, 2) := by decide +kernel
theorem dX7_init_25 : decode cX7_init 25 = .ok (.putfield 18, 3) := by decide +kernel
theorem dX7_init_28 : decode cX7_init 28 = .ok (.aload_n 0, 1) := by decide +kernel
theorem dX7_init_29 : decode cX7_init 29 = .ok (.bipush 24, 2) := by decide +kernel
theorem dX7_init_31 : decode cX7_init 31 = .ok (.newarray .int, 2) := by decide +kernel
theorem dX7_init_33 : decode cX7_init 33 = .ok (.putfield 21, 3) := by decide +kernel
theorem dX7_init_36 : decode cX7_init 36 = .ok (.aload_n 0, 1) := by decide +kernel
theorem dX7_init_37 : decode cX7_init 37 = .ok (.bipush 24, 2) := by decide +kernel
theorem dX7_init_39 : decode cX7_init 39 = .ok (.newarray .boolean, 2) := by decide +kernel
theorem dX7_init_41 : decode cX7_init 41 = .ok (.putfield 24, 3) := by decide +kernel
theorem dX7_init_44 : decode cX7_init 44 = .ok (.return_, 1) := by decide +kernel
theorem dX7_empty_0 : decode cX7_empty 0 = .ok (.aload_n 0, 1) := by decide +kernel
theorem dX7_empty_1 : decode cX7_empty 1 = .ok (.iconst 0, 1) := by decide +kernel
theorem dX7_empty_2 : decode cX7_empty 2 = .ok (.putfield 28, 3) := by decide +kernel
theorem dX7_empty_5 : decode cX7_empty 5 = .ok (.aload_n 0, 1) := by decide +kernel
theorem dX7_empty_6 : decode cX7_empty 6 = .ok (.iconst 0, 1) := by decide +kernel
theorem dX7_empty_7 : decode cX7_empty 7 = .ok (.putfield 32, 3) := by decide +kernel
theorem dX7_empty_10 : decode cX7_empty 10 = .ok (.return_, 1) := by decide +kernel
theorem dX7_copyFrom_0 : decode cX7_copyFrom 0 = .ok (.aload_n 0, 1) := by decide +kernel
theorem dX7_copyFrom_1 : decode cX7_copyFrom 1 = .ok (.aload_n 1, 1) := by decide +kernel
theorem dX7_copyFrom_2 : decode cX7_copyFrom 2 = .ok (.getfield 28, 3) := by decide +kernel
theorem dX7_copyFrom_5 : decode cX7_copyFrom 5 = .ok (.putfield 28, 3) := by decide +kernel
theorem dX7_copyFrom_8 : decode cX7_copyFrom 8 = .ok (.aload_n 0, 1) := by decide +kernel
theorem dX7_copyFrom_9 : decode cX7_copyFrom 9 = .ok (.aload_n 1, 1) := by decide +kernel
theorem dX7_copyFrom_10 : decode cX7_copyFrom 10 = .ok (.getfield 32, 3) := by decide +kernel
theorem dX7_copyFrom_13 : decode cX7_copyFrom 13 = .ok (.putfield 32, 3) := by decide +kernel
theorem dX7_copyFrom_16 : decode cX7_copyFrom 16 = .ok (.iconst 0, 1) := by decide +kernel
theorem dX7_copyFrom_17 : decode cX7_copyFrom 17 = .ok (.istore_n 2, 1) := by decide +kernel
theorem dX7_copyFrom_18 : decode cX7_copyFrom 18 = .ok (.iload_n 2, 1) := by decide +kernel
theorem dX7_copyFrom_19 : decode cX7_copyFrom 19 = .ok (.aload_n 0, 1) := by decide +kernel
theorem dX7_copyFrom_20 : decode cX7_copyFrom 20 = .ok (.getfield 32, 3) := by decide +kernel
theorem dX7_copyFrom_23 : decode cX7_copyFrom 23 = .ok (.if_icmp .ge 69, 3) := by decide +kernel
theorem dX7_copyFrom_26 : decode cX7_copyFrom 26 = .ok (.aload_n 0, 1) := by decide +kernel
theorem dX7_copyFrom_27 : decode cX7_copyFrom 27 = .ok (.getfield 9, 3) := by decide +kernel
theorem dX7_copyFrom_30 : decode cX7_copyFrom 30 = .ok (.iload_n 2, 1) := by decide +kernel
theorem dX7_copyFrom_31 : decode cX7_copyFrom 31 = .ok (.aload_n 1, 1) := by decide +kernel
theorem dX7_copyFrom_32 : decode cX7_copyFrom 32 = .ok (.getfield 9, 3) := by decide +kernel
theorem dX7_copyFrom_35 : decode cX7_copyFrom 35 = .ok (.iload_n 2, 1) := by decide +kernel
theorem dX7_copyFrom_36 : decode cX7_copyFrom 36 = .ok (.iaload, 1) := by decide +kernel
theorem dX7_copyFrom_37 : decode cX7_copyFrom 37 = .ok (.iastore, 1) := by decide +kernel
theorem dX7_copyFrom_38 : decode cX7_copyFrom 38 = .ok (.aload_n 0, 1) := by decide +kernel
theorem dX7_copyFrom_39 : decode cX7_copyFrom 39 = .ok (.getfield 15, 3) := by decide +kernel
theorem dX7_copyFrom_42 : decode cX7_copyFrom 42 = .ok (.iload_n 2, 1) := by decide +kernel
theorem dX7_copyFrom_43 : decode cX7_copyFrom 43 = .ok (.aload_n 1, 1) := by decide +kernel
theorem dX7_copyFrom_44 : decode cX7_copyFrom 44 = .ok (.getfield 15, 3) := by decide +kernel
theorem dX7_copyFrom_47 : decode cX7_copyFrom 47 = .ok (.iload_n 2, 1) := by decide +kernel
theorem dX7_copyFrom_48 : decode cX7_copyFrom 48 = .ok (.iaload, 1) := by decide +kernel
theorem dX7_copyFrom_49 : decode cX7_copyFrom 49 = .ok (.iastore, 1) := by decide +kernel
theorem dX7_copyFrom_50 : decode cX7_copyFrom 50 = .ok (.aload_n 0, 1) := by decide +kernel
theorem dX7_copyFrom_51 : decode cX7_copyFrom 51 = .ok (.getfield 18, 3) := by decide +kernel
theorem dX7_copyFrom_54 : decode cX7_copyFrom 54 = .ok (.iload_n 2, 1) := by decide +kernel
theorem dX7_copyFrom_55 : decode cX7_copyFrom 55 = .ok (.aload_n 1, 1) := by decide +kernel
theorem dX7_copyFrom_56 : decode cX7_copyFrom 56 = .ok (.getfield 18, 3) := by decide +kernel
theorem dX7_copyFrom_59 : decode cX7_copyFrom 59 = .ok (.iload_n 2, 1) := by decide +kernel
theorem dX7_copyFrom_60 : decode cX7_copyFrom 60 = .ok (.iaload, 1) := by decide +kernel
theorem dX7_copyFrom_61 : decode cX7_copyFrom 61 = .ok (.iastore, 1) := by decide +kernel
theorem dX7_copyFrom_62 : decode cX7_copyFrom 62 = .ok (.aload_n 0, 1) := by decide +kernel
theorem dX7_copyFrom_63 : decode cX7_copyFrom 63 = .ok (.getfield 21, 3) := by decide +kernel
theorem dX7_copyFrom_66 : decode cX7_copyFrom 66 = .ok (.iload_n 2, 1) := by decide +kernel
theorem dX7_copyFrom_67 : decode cX7_copyFrom 67 = .ok (.aload_n 1, 1) := by decide +kernel
theorem dX7_copyFrom_68 : decode cX7_copyFrom 68 = .ok (.getfield 21, 3) := by decide +kernel
theorem dX7_copyFrom_71 : decode cX7_copyFrom 71 = .ok (.iload_n 2, 1) := by decide +kernel
theorem dX7_copyFrom_72 : decode cX7_copyFrom 72 = .ok (.iaload, 1) := by decide +kernel
theorem dX7_copyFrom_73 : decode cX7_copyFrom 73 = .ok (.iastore, 1) := by decide +kernel
theorem dX7_copyFrom_74 : decode cX7_copyFrom 74 = .ok (.aload_n 0, 1) := by decide +kernel
theorem dX7_copyFrom_75 : decode cX7_copyFrom 75 = .ok (.getfield 24, 3) := by decide +kernel
theorem dX7_copyFrom_78 : decode cX7_copyFrom 78 = .ok (.iload_n 2, 1) := by decide +kernel
theorem dX7_copyFrom_79 : decode cX7_copyFrom 79 = .ok (.aload_n 1, 1) := by decide +kernel
theorem dX7_copyFrom_80 : decode cX7_copyFrom 80 = .ok (.getfield 24, 3) := by decide +kernel
theorem dX7_copyFrom_83 : decode cX7_copyFrom 83 = .ok (.iload_n 2, 1) := by decide +kernel
theorem dX7_copyFrom_84 : decode cX7_copyFrom 84 = .ok (.baload, 1) := by decide +kernel
theorem dX7_copyFrom_85 : decode cX7_copyFrom 85 = .ok (.bastore, 1) := by decide +kernel
theorem dX7_copyFrom_86 : decode cX7_copyFrom 86 = .ok (.iinc 2 1, 3) := by decide +kernel
theorem dX7_copyFrom_89 : decode cX7_copyFrom 89 = .ok (.goto (-71), 3) := by decide +kernel
theorem dX7_copyFrom_92 : decode cX7_copyFrom 92 = .ok (.return_, 1) := by decide +kernel
theorem dX7_takesNewLink_0 : decode cX7_takesNewLink 0 = .ok (.aload_n 0, 1) := by decide +kernel
theorem dX7_takesNewLink_1 : decode cX7_takesNewLink 1 = .ok (.getfield 32, 3) := by decide +kernel
theorem dX7_takesNewLink_4 : decode cX7_takesNewLink 4 = .ok (.istore_n 1, 1) := by decide +kernel
theorem dX7_takesNewLink_5 : decode cX7_takesNewLink 5 = .ok (.aload_n 0, 1) := by decide +kernel
theorem dX7_takesNewLink_6 : decode cX7_takesNewLink 6 = .ok (.getfield 9, 3) := by decide +kernel
theorem dX7_takesNewLink_9 : decode cX7_takesNewLink 9 = .ok (.iload_n 1, 1) := by decide +kernel
theorem dX7_takesNewLink_10 : decode cX7_takesNewLink 10 = .ok (.iaload, 1) := by decide +kernel
theorem dX7_takesNewLink_11 : decode cX7_takesNewLink 11 = .ok (.aload_n 0, 1) := by decide +kernel
theorem dX7_takesNewLink_12 : decode cX7_takesNewLink 12 = .ok (.getfield 15, 3) := by decide +kernel
theorem dX7_takesNewLink_15 : decode cX7_takesNewLink 15 = .ok (.iload_n 1, 1) := by decide +kernel
theorem dX7_takesNewLink_16 : decode cX7_takesNewLink 16 = .ok (.iaload, 1) := by decide +kernel
theorem dX7_takesNewLink_17 : decode cX7_takesNewLink 17 = .ok (.if_icmp .ne 23, 3) := by decide +kernel
theorem dX7_takesNewLink_20 : decode cX7_takesNewLink 20 = .ok (.aload_n 0, 1) := by decide +kernel
theorem dX7_takesNewLink_21 : decode cX7_takesNewLink 21 = .ok (.getfield 18, 3) := by decide +kernel
theorem dX7_takesNewLink_24 : decode cX7_takesNewLink 24 = .ok (.iload_n 1, 1) := by decide +kernel
theorem dX7_takesNewLink_25 : decode cX7_takesNewLink 25 = .ok (.iaload, 1) := by decide +kernel
theorem dX7_takesNewLink_26 : decode cX7_takesNewLink 26 = .ok (.ifCond .ne 14, 3) := by decide +kernel
theorem dX7_takesNewLink_29 : decode cX7_takesNewLink 29 = .ok (.aload_n 0, 1) := by decide +kernel
theorem dX7_takesNewLink_30 : decode cX7_takesNewLink 30 = .ok (.getfield 21, 3) := by decide +kernel
theorem dX7_takesNewLink_33 : decode cX7_takesNewLink 33 = .ok (.iload_n 1, 1) := by decide +kernel
theorem dX7_takesNewLink_34 : decode cX7_takesNewLink 34 = .ok (.iaload, 1) := by decide +kernel
theorem dX7_takesNewLink_35 : decode cX7_takesNewLink 35 = .ok (.ifCond .ne 5, 3) := by decide +kernel
theorem dX7_takesNewLink_38 : decode cX7_takesNewLink 38 = .ok (.iconst 0, 1) := by decide +kernel
theorem dX7_takesNewLink_39 : decode cX7_takesNewLink 39 = .ok (.ireturn, 1) := by decide +kernel
theorem dX7_takesNewLink_40 : decode cX7_takesNewLink 40 = .ok (.iconst 0, 1) := by decide +kernel
theorem dX7_takesNewLink_41 : decode cX7_takesNewLink 41 = .ok (.istore_n 2, 1) := by decide +kernel
theorem dX7_takesNewLink_42 : decode cX7_takesNewLink 42 = .ok (.iload_n 2, 1) := by decide +kernel
theorem dX7_takesNewLink_43 : decode cX7_takesNewLink 43 = .ok (.iload_n 1, 1) := by decide +kernel
theorem dX7_takesNewLink_44 : decode cX7_takesNewLink 44 = .ok (.if_icmp .ge 29, 3) := by decide +kernel
theorem dX7_takesNewLink_47 : decode cX7_takesNewLink 47 = .ok (.aload_n 0, 1) := by decide +kernel
theorem dX7_takesNewLink_48 : decode cX7_takesNewLink 48 = .ok (.iload_n 2, 1) := by decide +kernel
theorem dX7_takesNewLink_49 : decode cX7_takesNewLink 49 = .ok (.iload_n 1, 1) := by decide +kernel
theorem dX7_takesNewLink_50 : decode cX7_takesNewLink 50 = .ok (.invokevirtual 35, 3) := by decide +kernel
theorem dX7_takesNewLink_53 : decode cX7_takesNewLink 53 = .ok (.ifCond .ne 12, 3) := by decide +kernel
theorem dX7_takesNewLink_56 : decode cX7_takesNewLink 56 = .ok (.aload_n 0, 1) := by decide +kernel
theorem dX7_takesNewLink_57 : decode cX7_takesNewLink 57 = .ok (.iload_n 2, 1) := by decide +kernel
theorem dX7_takesNewLink_58 : decode cX7_takesNewLink 58 = .ok (.iload_n 1, 1) := by decide +kernel
theorem dX7_takesNewLink_59 : decode cX7_takesNewLink 59 = .ok (.invokevirtual 39, 3) := by decide +kernel
theorem dX7_takesNewLink_62 : decode cX7_takesNewLink 62 = .ok (.ifCond .eq 5, 3) := by decide +kernel
theorem dX7_takesNewLink_65 : decode cX7_takesNewLink 65 = .ok (.iconst 0, 1) := by decide +kernel
theorem dX7_takesNewLink_66 : decode cX7_takesNewLink 66 = .ok (.ireturn, 1) := by decide +kernel
theorem dX7_takesNewLink_67 : decode cX7_takesNewLink 67 = .ok (.iinc 2 1, 3) := by decide +kernel
theorem dX7_takesNewLink_70 : decode cX7_takesNewLink 70 = .ok (.goto (-28), 3) := by decide +kernel
theorem dX7_takesNewLink_73 : decode cX7_takesNewLink 73 = .ok (.iconst 1, 1) := by decide +kernel
theorem dX7_takesNewLink_74 : decode cX7_takesNewLink 74 = .ok (.ireturn, 1) := by decide +kernel
theorem dX7_isSameToldAlike_0 : decode cX7_isSameToldAlike 0 = .ok (.aload_n 0, 1) := by decide +kernel
theorem dX7_isSameToldAlike_1 : decode cX7_isSameToldAlike 1 = .ok (.getfield 9, 3) := by decide +kernel
theorem dX7_isSameToldAlike_4 : decode cX7_isSameToldAlike 4 = .ok (.iload_n 1, 1) := by decide +kernel
theorem dX7_isSameToldAlike_5 : decode cX7_isSameToldAlike 5 = .ok (.iaload, 1) := by decide +kernel
theorem dX7_isSameToldAlike_6 : decode cX7_isSameToldAlike 6 = .ok (.aload_n 0, 1) := by decide +kernel
theorem dX7_isSameToldAlike_7 : decode cX7_isSameToldAlike 7 = .ok (.getfield 9, 3) := by decide +kernel
theorem dX7_isSameToldAlike_10 : decode cX7_isSameToldAlike 10 = .ok (.iload_n 2, 1) := by decide +kernel
theorem dX7_isSameToldAlike_11 : decode cX7_isSameToldAlike 11 = .ok (.iaload, 1) := by decide +kernel
theorem dX7_isSameToldAlike_12 : decode cX7_isSameToldAlike 12 = .ok (.if_icmp .ne 52, 3) := by decide +kernel
theorem dX7_isSameToldAlike_15 : decode cX7_isSameToldAlike 15 = .ok (.aload_n 0, 1) := by decide +kernel
theorem dX7_isSameToldAlike_16 : decode cX7_isSameToldAlike 16 = .ok (.getfield 15, 3) := by decide +kernel
theorem dX7_isSameToldAlike_19 : decode cX7_isSameToldAlike 19 = .ok (.iload_n 1, 1) := by decide +kernel
theorem dX7_isSameToldAlike_20 : decode cX7_isSameToldAlike 20 = .ok (.iaload, 1) := by decide +kernel
theorem dX7_isSameToldAlike_21 : decode cX7_isSameToldAlike 21 = .ok (.aload_n 0, 1) := by decide +kernel
theorem dX7_isSameToldAlike_22 : decode cX7_isSameToldAlike 22 = .ok (.getfield 15, 3) := by decide +kernel
theorem dX7_isSameToldAlike_25 : decode cX7_isSameToldAlike 25 = .ok (.iload_n 2, 1) := by decide +kernel
theorem dX7_isSameToldAlike_26 : decode cX7_isSameToldAlike 26 = .ok (.iaload, 1) := by decide +kernel
theorem dX7_isSameToldAlike_27 : decode cX7_isSameToldAlike 27 = .ok (.if_icmp .ne 37, 3) := by decide +kernel
theorem dX7_isSameToldAlike_30 : decode cX7_isSameToldAlike 30 = .ok (.aload_n 0, 1) := by decide +kernel
theorem dX7_isSameToldAlike_31 : decode cX7_isSameToldAlike 31 = .ok (.getfield 18, 3) := by decide +kernel
theorem dX7_isSameToldAlike_34 : decode cX7_isSameToldAlike 34 = .ok (.iload_n 1, 1) := by decide +kernel
theorem dX7_isSameToldAlike_35 : decode cX7_isSameToldAlike 35 = .ok (.iaload, 1) := by decide +kernel
theorem dX7_isSameToldAlike_36 : decode cX7_isSameToldAlike 36 = .ok (.aload_n 0, 1) := by decide +kernel
theorem dX7_isSameToldAlike_37 : decode cX7_isSameToldAlike 37 = .ok (.getfield 18, 3) := by decide +kernel
theorem dX7_isSameToldAlike_40 : decode cX7_isSameToldAlike 40 = .ok (.iload_n 2, 1) := by decide +kernel
theorem dX7_isSameToldAlike_41 : decode cX7_isSameToldAlike 41 = .ok (.iaload, 1) := by decide +kernel
theorem dX7_isSameToldAlike_42 : decode cX7_isSameToldAlike 42 = .ok (.if_icmp .ne 22, 3) := by decide +kernel
theorem dX7_isSameToldAlike_45 : decode cX7_isSameToldAlike 45 = .ok (.aload_n 0, 1) := by decide +kernel
theorem dX7_isSameToldAlike_46 : decode cX7_isSameToldAlike 46 = .ok (.getfield 21, 3) := by decide +kernel
theorem dX7_isSameToldAlike_49 : decode cX7_isSameToldAlike 49 = .ok (.iload_n 1, 1) := by decide +kernel
theorem dX7_isSameToldAlike_50 : decode cX7_isSameToldAlike 50 = .ok (.iaload, 1) := by decide +kernel
theorem dX7_isSameToldAlike_51 : decode cX7_isSameToldAlike 51 = .ok (.aload_n 0, 1) := by decide +kernel
theorem dX7_isSameToldAlike_52 : decode cX7_isSameToldAlike 52 = .ok (.getfield 21, 3) := by decide +kernel
theorem dX7_isSameToldAlike_55 : decode cX7_isSameToldAlike 55 = .ok (.iload_n 2, 1) := by decide +kernel
theorem dX7_isSameToldAlike_56 : decode cX7_isSameToldAlike 56 = .ok (.iaload, 1) := by decide +kernel
theorem dX7_isSameToldAlike_57 : decode cX7_isSameToldAlike 57 = .ok (.if_icmp .ne 7, 3) := by decide +kernel
theorem dX7_isSameToldAlike_60 : decode cX7_isSameToldAlike 60 = .ok (.iconst 1, 1) := by decide +kernel
theorem dX7_isSameToldAlike_61 : decode cX7_isSameToldAlike 61 = .ok (.goto 4, 3) := by decide +kernel
theorem dX7_isSameToldAlike_64 : decode cX7_isSameToldAlike 64 = .ok (.iconst 0, 1) := by decide +kernel
theorem dX7_isSameToldAlike_65 : decode cX7_isSameToldAlike 65 = .ok (.ireturn, 1) := by decide +kernel
theorem dX7_isSameToldBack_0 : decode cX7_isSameToldBack 0 = .ok (.aload_n 0, 1) := by decide +kernel
theorem dX7_isSameToldBack_1 : decode cX7_isSameToldBack 1 = .ok (.getfield 9, 3) := by decide +kernel
theorem dX7_isSameToldBack_4 : decode cX7_isSameToldBack 4 = .ok (.iload_n 1, 1) := by decide +kernel
theorem dX7_isSameToldBack_5 : decode cX7_isSameToldBack 5 = .ok (.iaload, 1) := by decide +kernel
theorem dX7_isSameToldBack_6 : decode cX7_isSameToldBack 6 = .ok (.aload_n 0, 1) := by decide +kernel
theorem dX7_isSameToldBack_7 : decode cX7_isSameToldBack 7 = .ok (.getfield 15, 3) := by decide +kernel
theorem dX7_isSameToldBack_10 : decode cX7_isSameToldBack 10 = .ok (.iload_n 2, 1) := by decide +kernel
theorem dX7_isSameToldBack_11 : decode cX7_isSameToldBack 11 = .ok (.iaload, 1) := by decide +kernel
theorem dX7_isSameToldBack_12 : decode cX7_isSameToldBack 12 = .ok (.if_icmp .ne 54, 3) := by decide +kernel
theorem dX7_isSameToldBack_15 : decode cX7_isSameToldBack 15 = .ok (.aload_n 0, 1) := by decide +kernel
theorem dX7_isSameToldBack_16 : decode cX7_isSameToldBack 16 = .ok (.getfield 15, 3) := by decide +kernel
theorem dX7_isSameToldBack_19 : decode cX7_isSameToldBack 19 = .ok (.iload_n 1, 1) := by decide +kernel
theorem dX7_isSameToldBack_20 : decode cX7_isSameToldBack 20 = .ok (.iaload, 1) := by decide +kernel
theorem dX7_isSameToldBack_21 : decode cX7_isSameToldBack 21 = .ok (.aload_n 0, 1) := by decide +kernel
theorem dX7_isSameToldBack_22 : decode cX7_isSameToldBack 22 = .ok (.getfield 9, 3) := by decide +kernel
theorem dX7_isSameToldBack_25 : decode cX7_isSameToldBack 25 = .ok (.iload_n 2, 1) := by decide +kernel
theorem dX7_isSameToldBack_26 : decode cX7_isSameToldBack 26 = .ok (.iaload, 1) := by decide +kernel
theorem dX7_isSameToldBack_27 : decode cX7_isSameToldBack 27 = .ok (.if_icmp .ne 39, 3) := by decide +kernel
theorem dX7_isSameToldBack_30 : decode cX7_isSameToldBack 30 = .ok (.aload_n 0, 1) := by decide +kernel
theorem dX7_isSameToldBack_31 : decode cX7_isSameToldBack 31 = .ok (.getfield 18, 3) := by decide +kernel
theorem dX7_isSameToldBack_34 : decode cX7_isSameToldBack 34 = .ok (.iload_n 1, 1) := by decide +kernel
theorem dX7_isSameToldBack_35 : decode cX7_isSameToldBack 35 = .ok (.iaload, 1) := by decide +kernel
theorem dX7_isSameToldBack_36 : decode cX7_isSameToldBack 36 = .ok (.aload_n 0, 1) := by decide +kernel
theorem dX7_isSameToldBack_37 : decode cX7_isSameToldBack 37 = .ok (.getfield 18, 3) := by decide +kernel
theorem dX7_isSameToldBack_40 : decode cX7_isSameToldBack 40 = .ok (.iload_n 2, 1) := by decide +kernel
theorem dX7_isSameToldBack_41 : decode cX7_isSameToldBack 41 = .ok (.iaload, 1) := by decide +kernel
theorem dX7_isSameToldBack_42 : decode cX7_isSameToldBack 42 = .ok (.ineg, 1) := by decide +kernel
theorem dX7_isSameToldBack_43 : decode cX7_isSameToldBack 43 = .ok (.if_icmp .ne 23, 3) := by decide +kernel
theorem dX7_isSameToldBack_46 : decode cX7_isSameToldBack 46 = .ok (.aload_n 0, 1) := by decide +kernel
theorem dX7_isSameToldBack_47 : decode cX7_isSameToldBack 47 = .ok (.getfield 21, 3) := by decide +kernel
theorem dX7_isSameToldBack_50 : decode cX7_isSameToldBack 50 = .ok (.iload_n 1, 1) := by decide +kernel
theorem dX7_isSameToldBack_51 : decode cX7_isSameToldBack 51 = .ok (.iaload, 1) := by decide +kernel
theorem dX7_isSameToldBack_52 : decode cX7_isSameToldBack 52 = .ok (.aload_n 0, 1) := by decide +kernel
theorem dX7_isSameToldBack_53 : decode cX7_isSameToldBack 53 = .ok (.getfield 21, 3) := by decide +kernel
theorem dX7_isSameToldBack_56 : decode cX7_isSameToldBack 56 = .ok (.iload_n 2, 1) := by decide +kernel
theorem dX7_isSameToldBack_57 : decode cX7_isSameToldBack 57 = .ok (.iaload, 1) := by decide +kernel
theorem dX7_isSameToldBack_58 : decode cX7_isSameToldBack 58 = .ok (.ineg, 1) := by decide +kernel
theorem dX7_isSameToldBack_59 : decode cX7_isSameToldBack 59 = .ok (.if_icmp .ne 7, 3) := by decide +kernel
theorem dX7_isSameToldBack_62 : decode cX7_isSameToldBack 62 = .ok (.iconst 1, 1) := by decide +kernel
theorem dX7_isSameToldBack_63 : decode cX7_isSameToldBack 63 = .ok (.goto 4, 3) := by decide +kernel
theorem dX7_isSameToldBack_66 : decode cX7_isSameToldBack 66 = .ok (.iconst 0, 1) := by decide +kernel
theorem dX7_isSameToldBack_67 : decode cX7_isSameToldBack 67 = .ok (.ireturn, 1) := by decide +kernel
theorem dX8_init_0 : decode cX8_init 0 = .ok (.aload_n 0, 1) := by decide +kernel
theorem dX8_init_1 : decode cX8_init 1 = .ok (.invokespecial 1, 3) := by decide +kernel
theorem dX8_init_4 : decode cX8_init 4 = .ok (.aload_n 0, 1) := by decide +kernel
theorem dX8_init_5 : decode cX8_init 5 = .ok (.new 7, 3) := by decide +kernel
theorem dX8_init_8 : decode cX8_init 8 = .ok (.dup, 1) := by decide +kernel
theorem dX8_init_9 : decode cX8_init 9 = .ok (.invokespecial 9, 3) := by decide +kernel
theorem dX8_init_12 : decode cX8_init 12 = .ok (.putfield 10, 3) := by decide +kernel
theorem dX8_init_15 : decode cX8_init 15 = .ok (.aload_n 0, 1) := by decide +kernel
theorem dX8_init_16 : decode cX8_init 16 = .ok (.new 16, 3) := by decide +kernel
theorem dX8_init_19 : decode cX8_init 19 = .ok (.dup, 1) := by decide +kernel
theorem dX8_init_20 : decode cX8_init 20 = .ok (.new 18, 3) := by decide +kernel
theorem dX8_init_23 : decode cX8_init 23 = .ok (.dup, 1) := by decide +kernel
theorem dX8_init_24 : decode cX8_init 24 = .ok (.aload_n 0, 1) := by decide +kernel
theorem dX8_init_25 : decode cX8_init 25 = .ok (.getfield 10, 3) := by decide +kernel
theorem dX8_init_28 : decode cX8_init 28 = .ok (.invokespecial 20, 3) := by decide +kernel
theorem dX8_init_31 : decode cX8_init 31 = .ok (.invokespecial 23, 3) := by decide +kernel
theorem dX8_init_34 : decode cX8_init 34 = .ok (.putfield 26, 3) := by decide +kernel
theorem dX8_init_37 : decode cX8_init 37 = .ok (.aload_n 0, 1) := by decide +kernel
theorem dX8_init_38 : decode cX8_init 38 = .ok (.new 30, 3) := by decide +kernel
theorem dX8_init_41 : decode cX8_init 41 = .ok (.dup, 1) := by decide +kernel
theorem dX8_init_42 : decode cX8_init 42 = .ok (.invokespecial 32, 3) := by decide +kernel
theorem dX8_init_45 : decode cX8_init 45 = .ok (.putfield 33, 3) := by decide +kernel
theorem dX8_init_48 : decode cX8_init 48 = .ok (.aload_n 0, 1) := by decide +kernel
theorem dX8_init_49 : decode cX8_init 49 = .ok (.new 37, 3) := by decide +kernel
theorem dX8_init_52 : decode cX8_init 52 = .ok (.dup, 1) := by decide +kernel
theorem dX8_init_53 : decode cX8_init 53 = .ok (.aload_n 0, 1) := by decide +kernel
theorem dX8_init_54 : decode cX8_init 54 = .ok (.getfield 33, 3) := by decide +kernel
theorem dX8_init_57 : decode cX8_init 57 = .ok (.invokespecial 39, 3) := by decide +kernel
theorem dX8_init_60 : decode cX8_init 60 = .ok (.putfield 42, 3) := by decide +kernel
theorem dX8_init_63 : decode cX8_init 63 = .ok (.aload_n 0, 1) := by decide +kernel
theorem dX8_init_64 : decode cX8_init 64 = .ok (.new 46, 3) := by decide +kernel
theorem dX8_init_67 : decode cX8_init 67 = .ok (.dup, 1) := by decide +kernel
theorem dX8_init_68 : decode cX8_init 68 = .ok (.aload_n 0, 1) := by decide +kernel
theorem dX8_init_69 : decode cX8_init 69 = .ok (.getfield 33, 3) := by decide +kernel
theorem dX8_init_72 : decode cX8_init 72 = .ok (.aload_n 0, 1) := by decide +kernel
theorem dX8_init_73 : decode cX8_init 73 = .ok (.getfield 42, 3) := by decide +kernel
theorem dX8_init_76 : decode cX8_init 76 = .ok (.invokespecial 48, 3) := by decide +kernel
theorem dX8_init_79 : decode cX8_init 79 = .ok (.putfield 51, 3) := by decide +kernel
theorem dX8_init_82 : decode cX8_init 82 = .ok (.aload_n 0, 1) := by decide +kernel
theorem dX8_init_83 : decode cX8_init 83 = .ok (.new 55, 3) := by decide +kernel
theorem dX8_init_86 : decode cX8_init 86 = .ok (.dup, 1) := by decide +kernel
theorem dX8_init_87 : decode cX8_init 87 = .ok (.invokespecial 57, 3) := by decide +kernel
theorem dX8_init_90 : decode cX8_init 90 = .ok (.putfield 58, 3) := by decide +kernel
theorem dX8_init_93 : decode cX8_init 93 = .ok (.aload_n 0, 1) := by decide +kernel
theorem dX8_init_94 : decode cX8_init 94 = .ok (.new 55, 3) := by decide +kernel
theorem dX8_init_97 : decode cX8_init 97 = .ok (.dup, 1) := by decide +kernel
theorem dX8_init_98 : decode cX8_init 98 = .ok (.invokespecial 57, 3) := by decide +kernel
theorem dX8_init_101 : decode cX8_init 101 = .ok (.putfield 62, 3) := by decide +kernel
theorem dX8_init_104 : decode cX8_init 104 = .ok (.aload_n 0, 1) := by decide +kernel
theorem dX8_init_105 : decode cX8_init 105 = .ok (.bipush 100, 2) := by decide +kernel
theorem dX8_init_107 : decode cX8_init 107 = .ok (.putfield 65, 3) := by decide +kernel
theorem dX8_init_110 : decode cX8_init 110 = .ok (.aload_n 0, 1) := by decide +kernel
theorem dX8_init_111 : decode cX8_init 111 = .ok (.sipush 400, 3) := by decide +kernel
theorem dX8_init_114 : decode cX8_init 114 = .ok (.putfield 69, 3) := by decide +kernel
theorem dX8_init_117 : decode cX8_init 117 = .ok (.aload_n 0, 1) := by decide +kernel
theorem dX8_init_118 : decode cX8_init 118 = .ok (.bipush 8, 2) := by decide +kernel
theorem dX8_init_120 : decode cX8_init 120 = .ok (.putfield 72, 3) := by decide +kernel
theorem dX8_init_123 : decode cX8_init 123 = .ok (.return_, 1) := by decide +kernel
theorem dX8_feed_0 : decode cX8_feed 0 = .ok (.aload_n 0, 1) := by decide +kernel
theorem dX8_feed_1 : decode cX8_feed 1 = .ok (.getfield 10, 3) := by decide +kernel
theorem dX8_feed_4 : decode cX8_feed 4 = .ok (.lload_n 1, 1) := by decide +kernel
theorem dX8_feed_5 : decode cX8_feed 5 = .ok (.invokevirtual 75, 3) := by decide +kernel
theorem dX8_feed_8 : decode cX8_feed 8 = .ok (.aload_n 0, 1) := by decide +kernel
theorem dX8_feed_9 : decode cX8_feed 9 = .ok (.getfield 10, 3) := by decide +kernel
theorem dX8_feed_12 : decode cX8_feed 12 = .ok (.lload_n 3, 1) := by decide +kernel
theorem dX8_feed_13 : decode cX8_feed 13 = .ok (.invokevirtual 75, 3) := by decide +kernel
theorem dX8_feed_16 : decode cX8_feed 16 = .ok (.aload_n 0, 1) := by decide +kernel
theorem dX8_feed_17 : decode cX8_feed 17 = .ok (.getfield 10, 3) := by decide +kernel
theorem dX8_feed_20 : decode cX8_feed 20 = .ok (.lload 5, 2) := by decide +kernel
theorem dX8_feed_22 : decode cX8_feed 22 = .ok (.invokevirtual 75, 3) := by decide +kernel
theorem dX8_feed_25 : decode cX8_feed 25 = .ok (.aload_n 0, 1) := by decide +kernel
theorem dX8_feed_26 : decode cX8_feed 26 = .ok (.getfield 10, 3) := by decide +kernel
theorem dX8_feed_29 : decode cX8_feed 29 = .ok (.getfield 79, 3) := by decide +kernel
theorem dX8_feed_32 : decode cX8_feed 32 = .ok (.ireturn, 1) := by decide +kernel
theorem dX8_weave_0 : decode cX8_weave 0 = .ok (.aload_n 0, 1) := by decide +kernel
theorem dX8_weave_1 : decode cX8_weave 1 = .ok (.getfield 26, 3) := by decide +kernel
theorem dX8_weave_4 : decode cX8_weave 4 = .ok (.aload_n 0, 1) := by decide +kernel
theorem dX8_weave_5 : decode cX8_weave 5 = .ok (.getfield 62, 3) := by decide +kernel
theorem dX8_weave_8 : decode cX8_weave 8 = .ok (.invokevirtual 82, 3) := by decide +kernel
theorem dX8_weave_11 : decode cX8_weave 11 = .ok (.istore_n 1, 1) := by decide +kernel
theorem dX8_weave_12 : decode cX8_weave 12 = .ok (.aload_n 0, 1) := by decide +kernel
theorem dX8_weave_13 : decode cX8_weave 13 = .ok (.getfield 10, 3) := by decide +kernel
theorem dX8_weave_16 : decode cX8_weave 16 = .ok (.invokevirtual 86, 3) := by decide +kernel
theorem dX8_weave_19 : decode cX8_weave 19 = .ok (.iload_n 1, 1) := by decide +kernel
theorem dX8_weave_20 : decode cX8_weave 20 = .ok (.ifCond .ne 21, 3) := by decide +kernel
theorem dX8_weave_23 : decode cX8_weave 23 = .ok (.aload_n 0, 1) := by decide +kernel
theorem dX8_weave_24 : decode cX8_weave 24 = .ok (.getfield 58, 3) := by decide +kernel
theorem dX8_weave_27 : decode cX8_weave 27 = .ok (.astore_n 2, 1) := by decide +kernel
theorem dX8_weave_28 : decode cX8_weave 28 = .ok (.aload_n 0, 1) := by decide +kernel
theorem dX8_weave_29 : decode cX8_weave 29 = .ok (.aload_n 0, 1) := by decide +kernel
theorem dX8_weave_30 : decode cX8_weave 30 = .ok (.getfield 62, 3) := by decide +kernel
theorem dX8_weave_33 : decode cX8_weave 33 = .ok (.putfield 58, 3) := by decide +kernel
theorem dX8_weave_36 : decode cX8_weave 36 = .ok (.aload_n 0, 1) := by decide +kernel
theorem dX8_weave_37 : decode cX8_weave 37 = .ok (.aload_n 2, 1) := by decide +kernel
theorem dX8_weave_38 : decode cX8_weave 38 = .ok (.putfield 62, 3) := by decide +kernel
theorem dX8_weave_41 : decode cX8_weave 41 = .ok (.iload_n 1, 1) := by decide +kernel
theorem dX8_weave_42 : decode cX8_weave 42 = .ok (.ireturn, 1) := by decide +kernel
theorem dX8_lay_0 : decode cX8_lay 0 = .ok (.aload_n 0, 1) := by decide +kernel
theorem dX8_lay_1 : decode cX8_lay 1 = .ok (.getfield 58, 3) := by decide +kernel
theorem dX8_lay_4 : decode cX8_lay 4 = .ok (.getfield 89, 3) := by decide +kernel
theorem dX8_lay_7 : decode cX8_lay 7 = .ok (.ifCond .eq 17, 3) := by decide +kernel
theorem dX8_lay_10 : decode cX8_lay 10 = .ok (.iload_n 1, 1) := by decide +kernel
theorem dX8_lay_11 : decode cX8_lay 11 = .ok (.invokestatic 92, 3) := by decide +kernel
theorem dX8_lay_14 : decode cX8_lay 14 = .ok (.ifCond .eq 10, 3) := by decide +kernel
theorem dX8_lay_17 : decode cX8_lay 17 = .ok (.iload_n 2, 1) := by decide +kernel
theorem dX8_lay_18 : decode cX8_lay 18 = .ok (.invokestatic 92, 3) := by decide +kernel
theorem dX8_lay_21 : decode cX8_lay 21 = .ok (.ifCond .ne 5, 3) := by decide +kernel
theorem dX8_lay_24 : decode cX8_lay 24 = .ok (.iconst (-1), 1) := by decide +kernel
theorem dX8_lay_25 : decode cX8_lay 25 = .ok (.ireturn, 1) := by decide +kernel
theorem dX8_lay_26 : decode cX8_lay 26 = .ok (.iload_n 1, 1) := by decide +kernel
theorem dX8_lay_27 : decode cX8_lay 27 = .ok (.iload_n 2, 1) := by decide +kernel
theorem dX8_lay_28 : decode cX8_lay 28 = .ok (.imul, 1) := by decide +kernel
theorem dX8_lay_29 : decode cX8_lay 29 = .ok (.aload_n 0, 1) := by decide +kernel
theorem dX8_lay_30 : decode cX8_lay 30 = .ok (.getfield 58, 3) := by decide +kernel
theorem dX8_lay_33 : decode cX8_lay 33 = .ok (.getfield 89, 3) := by decide +kernel
theorem dX8_lay_36 : decode cX8_lay 36 = .ok (.imul, 1) := by decide +kernel
theorem dX8_lay_37 : decode cX8_lay 37 = .ok (.sipush 240, 3) := by decide +kernel
theorem dX8_lay_40 : decode cX8_lay 40 = .ok (.if_icmp .le 5, 3) := by decide +kernel
theorem dX8_lay_43 : decode cX8_lay 43 = .ok (.iconst (-1), 1) := by decide +kernel
theorem dX8_lay_44 : decode cX8_lay 44 = .ok (.ireturn, 1) := by decide +kernel
theorem dX8_lay_45 : decode cX8_lay 45 = .ok (.aload_n 0, 1) := by decide +kernel
theorem dX8_lay_46 : decode cX8_lay 46 = .ok (.getfield 33, 3) := by decide +kernel
theorem dX8_lay_49 : decode cX8_lay 49 = .ok (.aload_n 0, 1) := by decide +kernel
theorem dX8_lay_50 : decode cX8_lay 50 = .ok (.getfield 58, 3) := by decide +kernel
theorem dX8_lay_53 : decode cX8_lay 53 = .ok (.iload_n 1, 1) := by decide +kernel
theorem dX8_lay_54 : decode cX8_lay 54 = .ok (.iload_n 2, 1) := by decide +kernel
theorem dX8_lay_55 : decode cX8_lay 55 = .ok (.invokevirtual 96, 3) := by decide +kernel
theorem dX8_lay_58 : decode cX8_lay 58 = .ok (.aload_n 0, 1) := by decide +kernel
theorem dX8_lay_59 : decode cX8_lay 59 = .ok (.getfield 33, 3) := by decide +kernel
theorem dX8_lay_62 : decode cX8_lay 62 = .ok (.getfield 100, 3) := by decide +kernel
theorem dX8_lay_65 : decode cX8_lay 65 = .ok (.ireturn, 1) := by decide +kernel
theorem dX8_at_0 : decode cX8_at 0 = .ok (.aload_n 0, 1) := by decide +kernel
theorem dX8_at_1 : decode cX8_at 1 = .ok (.getfield 33, 3) := by decide +kernel
theorem dX8_at_4 : decode cX8_at 4 = .ok (.iload_n 1, 1) := by decide +kernel
theorem dX8_at_5 : decode cX8_at 5 = .ok (.iload_n 2, 1) := by decide +kernel
theorem dX8_at_6 : decode cX8_at 6 = .ok (.iload_n 3, 1) := by decide +kernel
theorem dX8_at_7 : decode cX8_at 7 = .ok (.invokevirtual 103, 3) := by decide +kernel
theorem dX8_at_10 : decode cX8_at 10 = .ok (.ireturn, 1) := by decide +kernel
theorem dX8_add_0 : decode cX8_add 0 = .ok (.aload_n 0, 1) := by decide +kernel
theorem dX8_add_1 : decode cX8_add 1 = .ok (.getfield 33, 3) := by decide +kernel
theorem dX8_add_4 : decode cX8_add 4 = .ok (.invokevirtual 107, 3) := by decide +kernel
theorem dX8_add_7 : decode cX8_add 7 = .ok (.ireturn, 1) := by decide +kernel
theorem dX8_take_0 : decode cX8_take 0 = .ok (.aload_n 0, 1) := by decide +kernel
theorem dX8_take_1 : decode cX8_take 1 = .ok (.getfield 33, 3) := by decide +kernel
theorem dX8_take_4 : decode cX8_take 4 = .ok (.iload_n 1, 1) := by decide +kernel
theorem dX8_take_5 : decode cX8_take 5 = .ok (.invokevirtual 111, 3) := by decide +kernel
theorem dX8_take_8 : decode cX8_take 8 = .ok (.ifCond .eq 14, 3) := by decide +kernel
theorem dX8_take_11 : decode cX8_take 11 = .ok (.aload_n 0, 1) := by decide +kernel
theorem dX8_take_12 : decode cX8_take 12 = .ok (.getfield 33, 3) := by decide +kernel
theorem dX8_take_15 : decode cX8_take 15 = .ok (.iload_n 1, 1) := by decide +kernel
theorem dX8_take_16 : decode cX8_take 16 = .ok (.invokevirtual 114, 3) := by decide +kernel
theorem dX8_take_19 : decode cX8_take 19 = .ok (.goto 4, 3) := by decide +kernel
theorem dX8_take_22 : decode cX8_take 22 = .ok (.iconst (-1), 1) := by decide +kernel
theorem dX8_take_23 : decode cX8_take 23 = .ok (.ireturn, 1) := by decide +kernel
theorem dX8_link_0 : decode cX8_link 0 = .ok (.iload_n 1, 1) := by decide +kernel
theorem dX8_link_1 : decode cX8_link 1 = .ok (.iload_n 2, 1) := by decide +kernel
theorem dX8_link_2 : decode cX8_link 2 = .ok (.if_icmp .eq 37, 3) := by decide +kernel
theorem dX8_link_5 : decode cX8_link 5 = .ok (.aload_n 0, 1) := by decide +kernel
theorem dX8_link_6 : decode cX8_link 6 = .ok (.getfield 33, 3) := by decide +kernel
theorem dX8_link_9 : decode cX8_link 9 = .ok (.iload_n 1, 1) := by decide +kernel
theorem dX8_link_10 : decode cX8_link 10 = .ok (.invokevirtual 111, 3) := by decide +kernel
theorem dX8_link_13 : decode cX8_link 13 = .ok (.ifCond .eq 26, 3) := by decide +kernel
theorem dX8_link_16 : decode cX8_link 16 = .ok (.aload_n 0, 1) := by decide +kernel
theorem dX8_link_17 : decode cX8_link 17 = .ok (.getfield 33, 3) := by decide +kernel
theorem dX8_link_20 : decode cX8_link 20 = .ok (.iload_n 2, 1) := by decide +kernel
theorem dX8_link_21 : decode cX8_link 21 = .ok (.invokevirtual 111, 3) := by decide +kernel
theorem dX8_link_24 : decode cX8_link 24 = .ok (.ifCond .eq 15, 3) := by decide +kernel
theorem dX8_link_27 : decode cX8_link 27 = .ok (.aload_n 0, 1) := by decide +kernel
theorem dX8_link_28 : decode cX8_link 28 = .ok (.getfield 33, 3) := by decide +kernel
theorem dX8_link_31 : decode cX8_link 31 = .ok (.iload_n 1, 1) := by decide +kernel
theorem dX8_link_32 : decode cX8_link 32 = .ok (.iload_n 2, 1) := by decide +kernel
theorem dX8_link_33 : decode cX8_link 33 = .ok (.invokevirtual 118, 3) := by decide +kernel
theorem dX8_link_36 : decode cX8_link 36 = .ok (.ifCond .eq 5, 3) := by decide +kernel
theorem dX8_link_39 : decode cX8_link 39 = .ok (.iconst 0, 1) := by decide +kernel
theorem dX8_link_40 : decode cX8_link 40 = .ok (.ireturn, 1) := by decide +kernel
theorem dX8_link_41 : decode cX8_link 41 = .ok (.aload_n 0, 1) := by decide +kernel
theorem dX8_link_42 : decode cX8_link 42 = .ok (.getfield 33, 3) := by decide +kernel
theorem dX8_link_45 : decode cX8_link 45 = .ok (.iload_n 1, 1) := by decide +kernel
theorem dX8_link_46 : decode cX8_link 46 = .ok (.iload_n 2, 1) := by decide +kernel
theorem dX8_link_47 : decode cX8_link 47 = .ok (.invokevirtual 122, 3) := by decide +kernel
theorem dX8_link_50 : decode cX8_link 50 = .ok (.iconst 1, 1) := by decide +kernel
theorem dX8_link_51 : decode cX8_link 51 = .ok (.ireturn, 1) := by decide +kernel
theorem dX8_unlink_0 : decode cX8_unlink 0 = .ok (.aload_n 0, 1) := by decide +kernel
theorem dX8_unlink_1 : decode cX8_unlink 1 = .ok (.getfield 33, 3) := by decide +kernel
theorem dX8_unlink_4 : decode cX8_unlink 4 = .ok (.iload_n 1, 1) := by decide +kernel
theorem dX8_unlink_5 : decode cX8_unlink 5 = .ok (.invokevirtual 111, 3) := by decide +kernel
theorem dX8_unlink_8 : decode cX8_unlink 8 = .ok (.ifCond .eq 26, 3) := by decide +kernel
theorem dX8_unlink_11 : decode cX8_unlink 11 = .ok (.aload_n 0, 1) := by decide +kernel
theorem dX8_unlink_12 : decode cX8_unlink 12 = .ok (.getfield 33, 3) := by decide +kernel
theorem dX8_unlink_15 : decode cX8_unlink 15 = .ok (.iload_n 2, 1) := by decide +kernel
theorem dX8_unlink_16 : decode cX8_unlink 16 = .ok (.invokevirtual 111, 3) := by decide +kernel
theorem dX8_unlink_19 : decode cX8_unlink 19 = .ok (.ifCond .eq 15, 3) := by decide +kernel
theorem dX8_unlink_22 : decode cX8_unlink 22 = .ok (.aload_n 0, 1) := by decide +kernel
theorem dX8_unlink_23 : decode cX8_unlink 23 = .ok (.getfield 33, 3) := by decide +kernel
theorem dX8_unlink_26 : decode cX8_unlink 26 = .ok (.iload_n 1, 1) := by decide +kernel
theorem dX8_unlink_27 : decode cX8_unlink 27 = .ok (.iload_n 2, 1) := by decide +kernel
theorem dX8_unlink_28 : decode cX8_unlink 28 = .ok (.invokevirtual 118, 3) := by decide +kernel
theorem dX8_unlink_31 : decode cX8_unlink 31 = .ok (.ifCond .ne 5, 3) := by decide +kernel
theorem dX8_unlink_34 : decode cX8_unlink 34 = .ok (.iconst 0, 1) := by decide +kernel
theorem dX8_unlink_35 : decode cX8_unlink 35 = .ok (.ireturn, 1) := by decide +kernel
theorem dX8_unlink_36 : decode cX8_unlink 36 = .ok (.aload_n 0, 1) := by decide +kernel
theorem dX8_unlink_37 : decode cX8_unlink 37 = .ok (.getfield 33, 3) := by decide +kernel
theorem dX8_unlink_40 : decode cX8_unlink 40 = .ok (.iload_n 1, 1) := by decide +kernel
theorem dX8_unlink_41 : decode cX8_unlink 41 = .ok (.iload_n 2, 1) := by decide +kernel
theorem dX8_unlink_42 : decode cX8_unlink 42 = .ok (.invokevirtual 126, 3) := by decide +kernel
theorem dX8_unlink_45 : decode cX8_unlink 45 = .ok (.iconst 1, 1) := by decide +kernel
theorem dX8_unlink_46 : decode cX8_unlink 46 = .ok (.ireturn, 1) := by decide +kernel
theorem dX8_mend_0 : decode cX8_mend 0 = .ok (.aload_n 0, 1) := by decide +kernel
theorem dX8_mend_1 : decode cX8_mend 1 = .ok (.getfield 33, 3) := by decide +kernel
theorem dX8_mend_4 : decode cX8_mend 4 = .ok (.invokevirtual 129, 3) := by decide +kernel
theorem dX8_mend_7 : decode cX8_mend 7 = .ok (.ireturn, 1) := by decide +kernel
theorem dX8_look_0 : decode cX8_look 0 = .ok (.aload_n 0, 1) := by decide +kernel
theorem dX8_look_1 : decode cX8_look 1 = .ok (.getfield 33, 3) := by decide +kernel
theorem dX8_look_4 : decode cX8_look 4 = .ok (.iload_n 1, 1) := by decide +kernel
theorem dX8_look_5 : decode cX8_look 5 = .ok (.invokevirtual 132, 3) := by decide +kernel
theorem dX8_look_8 : decode cX8_look 8 = .ok (.ifCond .eq 13, 3) := by decide +kernel
theorem dX8_look_11 : decode cX8_look 11 = .ok (.iload_n 2, 1) := by decide +kernel
theorem dX8_look_12 : decode cX8_look 12 = .ok (.ifCond .lt 9, 3) := by decide +kernel
theorem dX8_look_15 : decode cX8_look 15 = .ok (.iload_n 2, 1) := by decide +kernel
theorem dX8_look_16 : decode cX8_look 16 = .ok (.bipush 6, 2) := by decide +kernel
theorem dX8_look_18 : decode cX8_look 18 = .ok (.if_icmp .le 13, 3) := by decide +kernel
theorem dX8_look_21 : decode cX8_look 21 = .ok (.new 135, 3) := by decide +kernel
theorem dX8_look_24 : decode cX8_look 24 = .ok (.dup, 1) := by decide +kernel
theorem dX8_look_25 : decode cX8_look 25 = .ok (.ldc 137, 2) := by decide +kernel
theorem dX8_look_27 : decode cX8_look 27 = .ok (.invokespecial 139, 3) := by decide +kernel
theorem dX8_look_30 : decode cX8_look 30 = .ok (.athrow, 1) := by decide +kernel
theorem dX8_look_31 : decode cX8_look 31 = .ok (.iload_n 2, 1) := by decide +kernel
theorem dX8_look_32 : decode cX8_look 32 = .ok (.ifCond .ne 15, 3) := by decide +kernel
theorem dX8_look_35 : decode cX8_look 35 = .ok (.aload_n 0, 1) := by decide +kernel
theorem dX8_look_36 : decode cX8_look 36 = .ok (.getfield 33, 3) := by decide +kernel
theorem dX8_look_39 : decode cX8_look 39 = .ok (.iload_n 1, 1) := by decide +kernel
theorem dX8_look_40 : decode cX8_look 40 = .ok (.invokevirtual 111, 3) := by decide +kernel
theorem dX8_look_43 : decode cX8_look 43 = .ok (.invokestatic 142, 3) := by decide +kernel
theorem dX8_look_46 : decode cX8_look 46 = .ok (.ireturn, 1) := by decide +kernel
theorem dX8_look_47 : decode cX8_look 47 = .ok (.aload_n 0, 1) := by decide +kernel
theorem dX8_look_48 : decode cX8_look 48 = .ok (.getfield 33, 3) := by decide +kernel
theorem dX8_look_51 : decode cX8_look 51 = .ok (.iload_n 1, 1) := by decide +kernel
theorem dX8_look_52 : decode cX8_look 52 = .ok (.invokevirtual 111, 3) := by decide +kernel
theorem dX8_look_55 : decode cX8_look 55 = .ok (.ifCond .ne 13, 3) := by decide +kernel
theorem dX8_look_58 : decode cX8_look 58 = .ok (.new 135, 3) := by decide +kernel
theorem dX8_look_61 : decode cX8_look 61 = .ok (.dup, 1) := by decide +kernel
theorem dX8_look_62 : decode cX8_look 62 = .ok (.ldc 146, 2) := by decide +kernel
theorem dX8_look_64 : decode cX8_look 64 = .ok (.invokespecial 139, 3) := by decide +kernel
theorem dX8_look_67 : decode cX8_look 67 = .ok (.athrow, 1) := by decide +kernel
theorem dX8_look_68 : decode cX8_look 68 = .ok (.aload_n 0, 1) := by decide +kernel
theorem dX8_look_69 : decode cX8_look 69 = .ok (.iload_n 1, 1) := by decide +kernel
theorem dX8_look_70 : decode cX8_look 70 = .ok (.iload_n 2, 1) := by decide +kernel
theorem dX8_look_71 : decode cX8_look 71 = .ok (.invokevirtual 148, 3) := by decide +kernel
theorem dX8_look_74 : decode cX8_look 74 = .ok (.ireturn, 1) := by decide +kernel
theorem dX8_over_0 : decode cX8_over 0 = .ok (.aload_n 0, 1) := by decide +kernel
theorem dX8_over_1 : decode cX8_over 1 = .ok (.getfield 33, 3) := by decide +kernel
theorem dX8_over_4 : decode cX8_over 4 = .ok (.iload_n 1, 1) := by decide +kernel
theorem dX8_over_5 : decode cX8_over 5 = .ok (.invokevirtual 111, 3) := by decide +kernel
theorem dX8_over_8 : decode cX8_over 8 = .ok (.ifCond .eq 14, 3) := by decide +kernel
theorem dX8_over_11 : decode cX8_over 11 = .ok (.aload_n 0, 1) := by decide +kernel
theorem dX8_over_12 : decode cX8_over 12 = .ok (.getfield 33, 3) := by decide +kernel
theorem dX8_over_15 : decode cX8_over 15 = .ok (.iload_n 2, 1) := by decide +kernel
theorem dX8_over_16 : decode cX8_over 16 = .ok (.invokevirtual 111, 3) := by decide +kernel
theorem dX8_over_19 : decode cX8_over 19 = .ok (.ifCond .ne 6, 3) := by decide +kernel
theorem dX8_over_22 : decode cX8_over 22 = .ok (.bipush (-2), 2) := by decide +kernel
theorem dX8_over_24 : decode cX8_over 24 = .ok (.ireturn, 1) := by decide +kernel
theorem dX8_over_25 : decode cX8_over 25 = .ok (.aload_n 0, 1) := by decide +kernel
theorem dX8_over_26 : decode cX8_over 26 = .ok (.getfield 33, 3) := by decide +kernel
theorem dX8_over_29 : decode cX8_over 29 = .ok (.iload_n 1, 1) := by decide +kernel
theorem dX8_over_30 : decode cX8_over 30 = .ok (.iload_n 2, 1) := by decide +kernel
theorem dX8_over_31 : decode cX8_over 31 = .ok (.invokevirtual 118, 3) := by decide +kernel
theorem dX8_over_34 : decode cX8_over 34 = .ok (.ifCond .ne 5, 3) := by decide +kernel
theorem dX8_over_37 : decode cX8_over 37 = .ok (.iconst 0, 1) := by decide +kernel
theorem dX8_over_38 : decode cX8_over 38 = .ok (.ireturn, 1) := by decide +kernel
theorem dX8_over_39 : decode cX8_over 39 = .ok (.aload_n 0, 1) := by decide +kernel
theorem dX8_over_40 : decode cX8_over 40 = .ok (.getfield 33, 3) := by decide +kernel
theorem dX8_over_43 : decode cX8_over 43 = .ok (.iload_n 1, 1) := by decide +kernel
theorem dX8_over_44 : decode cX8_over 44 = .ok (.iload_n 2, 1) := by decide +kernel
theorem dX8_over_45 : decode cX8_over 45 = .ok (.invokevirtual 152, 3) := by decide +kernel
theorem dX8_over_48 : decode cX8_over 48 = .ok (.ifCond .eq 7, 3) := by decide +kernel
theorem dX8_over_51 : decode cX8_over 51 = .ok (.iconst 1, 1) := by decide +kernel
theorem dX8_over_52 : decode cX8_over 52 = .ok (.goto 4, 3) := by decide +kernel
theorem dX8_over_55 : decode cX8_over 55 = .ok (.iconst (-1), 1) := by decide +kernel
theorem dX8_over_56 : decode cX8_over 56 = .ok (.ireturn, 1) := by decide +kernel
theorem dX8_linked_0 : decode cX8_linked 0 = .ok (.aload_n 0, 1) := by decide +kernel
theorem dX8_linked_1 : decode cX8_linked 1 = .ok (.getfield 33, 3) := by decide +kernel
theorem dX8_linked_4 : decode cX8_linked 4 = .ok (.iload_n 1, 1) := by decide +kernel
theorem dX8_linked_5 : decode cX8_linked 5 = .ok (.invokevirtual 111, 3) := by decide +kernel
theorem dX8_linked_8 : decode cX8_linked 8 = .ok (.ifCond .eq 15, 3) := by decide +kernel
theorem dX8_linked_11 : decode cX8_linked 11 = .ok (.aload_n 0, 1) := by decide +kernel
theorem dX8_linked_12 : decode cX8_linked 12 = .ok (.getfield 33, 3) := by decide +kernel
theorem dX8_linked_15 : decode cX8_linked 15 = .ok (.iload_n 1, 1) := by decide +kernel
theorem dX8_linked_16 : decode cX8_linked 16 = .ok (.iload_n 2, 1) := by decide +kernel
theorem dX8_linked_17 : decode cX8_linked 17 = .ok (.invokevirtual 155, 3) := by decide +kernel
theorem dX8_linked_20 : decode cX8_linked 20 = .ok (.goto 4, 3) := by decide +kernel
theorem dX8_linked_23 : decode cX8_linked 23 = .ok (.iconst (-1), 1) := by decide +kernel
theorem dX8_linked_24 : decode cX8_linked 24 = .ok (.ireturn, 1) := by decide +kernel
theorem dX8_fewest_0 : decode cX8_fewest 0 = .ok (.aload_n 0, 1) := by decide +kernel
theorem dX8_fewest_1 : decode cX8_fewest 1 = .ok (.getfield 51, 3) := by decide +kernel
theorem dX8_fewest_4 : decode cX8_fewest 4 = .ok (.invokevirtual 158, 3) := by decide +kernel
theorem dX8_fewest_7 : decode cX8_fewest 7 = .ok (.aload_n 0, 1) := by decide +kernel
theorem dX8_fewest_8 : decode cX8_fewest 8 = .ok (.getfield 42, 3) := by decide +kernel
theorem dX8_fewest_11 : decode cX8_fewest 11 = .ok (.getfield 161, 3) := by decide +kernel
theorem dX8_fewest_14 : decode cX8_fewest 14 = .ok (.ifCond .eq 13, 3) := by decide +kernel
theorem dX8_fewest_17 : decode cX8_fewest 17 = .ok (.aload_n 0, 1) := by decide +kernel
theorem dX8_fewest_18 : decode cX8_fewest 18 = .ok (.getfield 51, 3) := by decide +kernel
theorem dX8_fewest_21 : decode cX8_fewest 21 = .ok (.getfield 165, 3) := by decide +kernel
theorem dX8_fewest_24 : decode cX8_fewest 24 = .ok (.goto 4, 3) := by decide +kernel
theorem dX8_fewest_27 : decode cX8_fewest 27 = .ok (.iconst (-1), 1) := by decide +kernel
theorem dX8_fewest_28 : decode cX8_fewest 28 = .ok (.ireturn, 1) := by decide +kernel
theorem dX8_order_0 : decode cX8_order 0 = .ok (.aload_n 0, 1) := by decide +kernel
theorem dX8_order_1 : decode cX8_order 1 = .ok (.getfield 51, 3) := by decide +kernel
theorem dX8_order_4 : decode cX8_order 4 = .ok (.invokevirtual 158, 3) := by decide +kernel
theorem dX8_order_7 : decode cX8_order 7 = .ok (.iload_n 1, 1) := by decide +kernel
theorem dX8_order_8 : decode cX8_order 8 = .ok (.ifCond .lt 26, 3) := by decide +kernel
theorem dX8_order_11 : decode cX8_order 11 = .ok (.iload_n 1, 1) := by decide +kernel
theorem dX8_order_12 : decode cX8_order 12 = .ok (.aload_n 0, 1) := by decide +kernel
theorem dX8_order_13 : decode cX8_order 13 = .ok (.getfield 51, 3) := by decide +kernel
theorem dX8_order_16 : decode cX8_order 16 = .ok (.getfield 165, 3) := by decide +kernel
theorem dX8_order_19 : decode cX8_order 19 = .ok (.if_icmp .ge 15, 3) := by decide +kernel
theorem dX8_order_22 : decode cX8_order 22 = .ok (.aload_n 0, 1) := by decide +kernel
theorem dX8_order_23 : decode cX8_order 23 = .ok (.getfield 51, 3) := by decide +kernel
theorem dX8_order_26 : decode cX8_order 26 = .ok (.getfield 168, 3) := by decide +kernel
theorem dX8_order_29 : decode cX8_order 29 = .ok (.iload_n 1, 1) := by decide +kernel
theorem dX8_order_30 : decode cX8_order 30 = .ok (.iaload, 1) := by decide +kernel
theorem dX8_order_31 : decode cX8_order 31 = .ok (.goto 4, 3) := by decide +kernel
theorem dX8_order_34 : decode cX8_order 34 = .ok (.iconst (-1), 1) := by decide +kernel
theorem dX8_order_35 : decode cX8_order 35 = .ok (.ireturn, 1) := by decide +kernel
theorem dX8_sizes_0 : decode cX8_sizes 0 = .ok (.iload_n 1, 1) := by decide +kernel
theorem dX8_sizes_1 : decode cX8_sizes 1 = .ok (.sipush 999, 3) := by decide +kernel
theorem dX8_sizes_4 : decode cX8_sizes 4 = .ok (.invokestatic 172, 3) := by decide +kernel
theorem dX8_sizes_7 : decode cX8_sizes 7 = .ok (.ifCond .eq 22, 3) := by decide +kernel
theorem dX8_sizes_10 : decode cX8_sizes 10 = .ok (.iload_n 2, 1) := by decide +kernel
theorem dX8_sizes_11 : decode cX8_sizes 11 = .ok (.sipush 9999, 3) := by decide +kernel
theorem dX8_sizes_14 : decode cX8_sizes 14 = .ok (.invokestatic 172, 3) := by decide +kernel
theorem dX8_sizes_17 : decode cX8_sizes 17 = .ok (.ifCond .eq 12, 3) := by decide +kernel
theorem dX8_sizes_20 : decode cX8_sizes 20 = .ok (.iload_n 3, 1) := by decide +kernel
theorem dX8_sizes_21 : decode cX8_sizes 21 = .ok (.bipush 99, 2) := by decide +kernel
theorem dX8_sizes_23 : decode cX8_sizes 23 = .ok (.invokestatic 172, 3) := by decide +kernel
theorem dX8_sizes_26 : decode cX8_sizes 26 = .ok (.ifCond .ne 5, 3) := by decide +kernel
theorem dX8_sizes_29 : decode cX8_sizes 29 = .ok (.iconst 0, 1) := by decide +kernel
theorem dX8_sizes_30 : decode cX8_sizes 30 = .ok (.ireturn, 1) := by decide +kernel
theorem dX8_sizes_31 : decode cX8_sizes 31 = .ok (.aload_n 0, 1) := by decide +kernel
theorem dX8_sizes_32 : decode cX8_sizes 32 = .ok (.iload_n 1, 1) := by decide +kernel
theorem dX8_sizes_33 : decode cX8_sizes 33 = .ok (.putfield 65, 3) := by decide +kernel
theorem dX8_sizes_36 : decode cX8_sizes 36 = .ok (.aload_n 0, 1) := by decide +kernel
theorem dX8_sizes_37 : decode cX8_sizes 37 = .ok (.iload_n 2, 1) := by decide +kernel
theorem dX8_sizes_38 : decode cX8_sizes 38 = .ok (.putfield 69, 3) := by decide +kernel
theorem dX8_sizes_41 : decode cX8_sizes 41 = .ok (.aload_n 0, 1) := by decide +kernel
theorem dX8_sizes_42 : decode cX8_sizes 42 = .ok (.iload_n 3, 1) := by decide +kernel
theorem dX8_sizes_43 : decode cX8_sizes 43 = .ok (.putfield 72, 3) := by decide +kernel
theorem dX8_sizes_46 : decode cX8_sizes 46 = .ok (.iconst 1, 1) := by decide +kernel
theorem dX8_sizes_47 : decode cX8_sizes 47 = .ok (.ireturn, 1) := by decide +kernel
theorem dX8_count_0 : decode cX8_count 0 = .ok (.iload_n 1, 1) := by decide +kernel
theorem dX8_count_1 : decode cX8_count 1 = .ok (.tableswitch 176 0 12 #[67, 75, 83, 98, 106, 111, 126, 131, 136, 144, 152, 160, 168], 67) := by decide +kernel
theorem dX8_count_68 : decode cX8_count 68 = .ok (.aload_n 0, 1) := by decide +kernel
theorem dX8_count_69 : decode cX8_count 69 = .ok (.getfield 33, 3) := by decide +kernel
theorem dX8_count_72 : decode cX8_count 72 = .ok (.invokevirtual 175, 3) := by decide +kernel
theorem dX8_count_75 : decode cX8_count 75 = .ok (.ireturn, 1) := by decide +kernel
theorem dX8_count_76 : decode cX8_count 76 = .ok (.aload_n 0, 1) := by decide +kernel
theorem dX8_count_77 : decode cX8_count 77 = .ok (.getfield 33, 3) := by decide +kernel
theorem dX8_count_80 : decode cX8_count 80 = .ok (.invokevirtual 178, 3) := by decide +kernel
theorem dX8_count_83 : decode cX8_count 83 = .ok (.ireturn, 1) := by decide +kernel
theorem dX8_count_84 : decode cX8_count 84 = .ok (.aload_n 0, 1) := by decide +kernel
theorem dX8_count_85 : decode cX8_count 85 = .ok (.getfield 42, 3) := by decide +kernel
theorem dX8_count_88 : decode cX8_count 88 = .ok (.invokevirtual 181, 3) := by decide +kernel
theorem dX8_count_91 : decode cX8_count 91 = .ok (.aload_n 0, 1) := by decide +kernel
theorem dX8_count_92 : decode cX8_count 92 = .ok (.getfield 42, 3) := by decide +kernel
theorem dX8_count_95 : decode cX8_count 95 = .ok (.getfield 182, 3) := by decide +kernel
theorem dX8_count_98 : decode cX8_count 98 = .ok (.ireturn, 1) := by decide +kernel
theorem dX8_count_99 : decode cX8_count 99 = .ok (.aload_n 0, 1) := by decide +kernel
theorem dX8_count_100 : decode cX8_count 100 = .ok (.getfield 33, 3) := by decide +kernel
theorem dX8_count_103 : decode cX8_count 103 = .ok (.invokevirtual 185, 3) := by decide +kernel
theorem dX8_count_106 : decode cX8_count 106 = .ok (.ireturn, 1) := by decide +kernel
theorem dX8_count_107 : decode cX8_count 107 = .ok (.aload_n 0, 1) := by decide +kernel
theorem dX8_count_108 : decode cX8_count 108 = .ok (.invokevirtual 188, 3) := by decide +kernel
theorem dX8_count_111 : decode cX8_count 111 = .ok (.ireturn, 1) := by decide +kernel
theorem dX8_count_112 : decode cX8_count 112 = .ok (.aload_n 0, 1) := by decide +kernel
theorem dX8_count_113 : decode cX8_count 113 = .ok (.getfield 42, 3) := by decide +kernel
theorem dX8_count_116 : decode cX8_count 116 = .ok (.invokevirtual 181, 3) := by decide +kernel
theorem dX8_count_119 : decode cX8_count 119 = .ok (.aload_n 0, 1) := by decide +kernel
theorem dX8_count_120 : decode cX8_count 120 = .ok (.getfield 42, 3) := by decide +kernel
theorem dX8_count_123 : decode cX8_count 123 = .ok (.getfield 191, 3) := by decide +kernel
theorem dX8_count_126 : decode cX8_count 126 = .ok (.ireturn, 1) := by decide +kernel
theorem dX8_count_127 : decode cX8_count 127 = .ok (.aload_n 0, 1) := by decide +kernel
theorem dX8_count_128 : decode cX8_count 128 = .ok (.invokevirtual 194, 3) := by decide +kernel
theorem dX8_count_131 : decode cX8_count 131 = .ok (.ireturn, 1) := by decide +kernel
theorem dX8_count_132 : decode cX8_count 132 = .ok (.aload_n 0, 1) := by decide +kernel
theorem dX8_count_133 : decode cX8_count 133 = .ok (.invokevirtual 197, 3) := by decide +kernel
theorem dX8_count_136 : decode cX8_count 136 = .ok (.ireturn, 1) := by decide +kernel
theorem dX8_count_137 : decode cX8_count 137 = .ok (.aload_n 0, 1) := by decide +kernel
theorem dX8_count_138 : decode cX8_count 138 = .ok (.getfield 33, 3) := by decide +kernel
theorem dX8_count_141 : decode cX8_count 141 = .ok (.getfield 100, 3) := by decide +kernel
theorem dX8_count_144 : decode cX8_count 144 = .ok (.ireturn, 1) := by decide +kernel
theorem dX8_count_145 : decode cX8_count 145 = .ok (.aload_n 0, 1) := by decide +kernel
theorem dX8_count_146 : decode cX8_count 146 = .ok (.getfield 58, 3) := by decide +kernel
theorem dX8_count_149 : decode cX8_count 149 = .ok (.getfield 89, 3) := by decide +kernel
theorem dX8_count_152 : decode cX8_count 152 = .ok (.ireturn, 1) := by decide +kernel
theorem dX8_count_153 : decode cX8_count 153 = .ok (.aload_n 0, 1) := by decide +kernel
theorem dX8_count_154 : decode cX8_count 154 = .ok (.getfield 58, 3) := by decide +kernel
theorem dX8_count_157 : decode cX8_count 157 = .ok (.getfield 200, 3) := by decide +kernel
theorem dX8_count_160 : decode cX8_count 160 = .ok (.ireturn, 1) := by decide +kernel
theorem dX8_count_161 : decode cX8_count 161 = .ok (.aload_n 0, 1) := by decide +kernel
theorem dX8_count_162 : decode cX8_count 162 = .ok (.getfield 10, 3) := by decide +kernel
theorem dX8_count_165 : decode cX8_count 165 = .ok (.getfield 79, 3) := by decide +kernel
theorem dX8_count_168 : decode cX8_count 168 = .ok (.ireturn, 1) := by decide +kernel
theorem dX8_count_169 : decode cX8_count 169 = .ok (.aload_n 0, 1) := by decide +kernel
theorem dX8_count_170 : decode cX8_count 170 = .ok (.getfield 33, 3) := by decide +kernel
theorem dX8_count_173 : decode cX8_count 173 = .ok (.invokevirtual 203, 3) := by decide +kernel
theorem dX8_count_176 : decode cX8_count 176 = .ok (.ireturn, 1) := by decide +kernel
theorem dX8_count_177 : decode cX8_count 177 = .ok (.iconst (-1), 1) := by decide +kernel
theorem dX8_count_178 : decode cX8_count 178 = .ok (.ireturn, 1) := by decide +kernel
theorem dX8_lookAtOneThere_0 : decode cX8_lookAtOneThere 0 = .ok (.iload_n 2, 1) := by decide +kernel
theorem dX8_lookAtOneThere_1 : decode cX8_lookAtOneThere 1 = .ok (.tableswitch 104 1 5 #[35, 44, 56, 65, 85], 35) := by decide +kernel
theorem dX8_lookAtOneThere_36 : decode cX8_lookAtOneThere 36 = .ok (.aload_n 0, 1) := by decide +kernel
theorem dX8_lookAtOneThere_37 : decode cX8_lookAtOneThere 37 = .ok (.getfield 33, 3) := by decide +kernel
theorem dX8_lookAtOneThere_40 : decode cX8_lookAtOneThere 40 = .ok (.iload_n 1, 1) := by decide +kernel
theorem dX8_lookAtOneThere_41 : decode cX8_lookAtOneThere 41 = .ok (.invokevirtual 206, 3) := by decide +kernel
theorem dX8_lookAtOneThere_44 : decode cX8_lookAtOneThere 44 = .ok (.ireturn, 1) := by decide +kernel
theorem dX8_lookAtOneThere_45 : decode cX8_lookAtOneThere 45 = .ok (.aload_n 0, 1) := by decide +kernel
theorem dX8_lookAtOneThere_46 : decode cX8_lookAtOneThere 46 = .ok (.getfield 33, 3) := by decide +kernel
theorem dX8_lookAtOneThere_49 : decode cX8_lookAtOneThere 49 = .ok (.iload_n 1, 1) := by decide +kernel
theorem dX8_lookAtOneThere_50 : decode cX8_lookAtOneThere 50 = .ok (.invokevirtual 209, 3) := by decide +kernel
theorem dX8_lookAtOneThere_53 : decode cX8_lookAtOneThere 53 = .ok (.invokestatic 142, 3) := by decide +kernel
theorem dX8_lookAtOneThere_56 : decode cX8_lookAtOneThere 56 = .ok (.ireturn, 1) := by decide +kernel
theorem dX8_lookAtOneThere_57 : decode cX8_lookAtOneThere 57 = .ok (.aload_n 0, 1) := by decide +kernel
theorem dX8_lookAtOneThere_58 : decode cX8_lookAtOneThere 58 = .ok (.iload_n 1, 1) := by decide +kernel
theorem dX8_lookAtOneThere_59 : decode cX8_lookAtOneThere 59 = .ok (.invokevirtual 212, 3) := by decide +kernel
theorem dX8_lookAtOneThere_62 : decode cX8_lookAtOneThere 62 = .ok (.invokestatic 142, 3) := by decide +kernel
theorem dX8_lookAtOneThere_65 : decode cX8_lookAtOneThere 65 = .ok (.ireturn, 1) := by decide +kernel
theorem dX8_lookAtOneThere_66 : decode cX8_lookAtOneThere 66 = .ok (.aload_n 0, 1) := by decide +kernel
theorem dX8_lookAtOneThere_67 : decode cX8_lookAtOneThere 67 = .ok (.getfield 42, 3) := by decide +kernel
theorem dX8_lookAtOneThere_70 : decode cX8_lookAtOneThere 70 = .ok (.invokevirtual 181, 3) := by decide +kernel
theorem dX8_lookAtOneThere_73 : decode cX8_lookAtOneThere 73 = .ok (.aload_n 0, 1) := by decide +kernel
theorem dX8_lookAtOneThere_74 : decode cX8_lookAtOneThere 74 = .ok (.getfield 42, 3) := by decide +kernel
theorem dX8_lookAtOneThere_77 : decode cX8_lookAtOneThere 77 = .ok (.getfield 215, 3) := by decide +kernel
theorem dX8_lookAtOneThere_80 : decode cX8_lookAtOneThere 80 = .ok (.iload_n 1, 1) := by decide +kernel
theorem dX8_lookAtOneThere_81 : decode cX8_lookAtOneThere 81 = .ok (.baload, 1) := by decide +kernel
theorem dX8_lookAtOneThere_82 : decode cX8_lookAtOneThere 82 = .ok (.invokestatic 142, 3) := by decide +kernel
theorem dX8_lookAtOneThere_85 : decode cX8_lookAtOneThere 85 = .ok (.ireturn, 1) := by decide +kernel
theorem dX8_lookAtOneThere_86 : decode cX8_lookAtOneThere 86 = .ok (.aload_n 0, 1) := by decide +kernel
theorem dX8_lookAtOneThere_87 : decode cX8_lookAtOneThere 87 = .ok (.getfield 51, 3) := by decide +kernel
theorem dX8_lookAtOneThere_90 : decode cX8_lookAtOneThere 90 = .ok (.invokevirtual 158, 3) := by decide +kernel
theorem dX8_lookAtOneThere_93 : decode cX8_lookAtOneThere 93 = .ok (.aload_n 0, 1) := by decide +kernel
theorem dX8_lookAtOneThere_94 : decode cX8_lookAtOneThere 94 = .ok (.getfield 51, 3) := by decide +kernel
theorem dX8_lookAtOneThere_97 : decode cX8_lookAtOneThere 97 = .ok (.iload_n 1, 1) := by decide +kernel
theorem dX8_lookAtOneThere_98 : decode cX8_lookAtOneThere 98 = .ok (.invokevirtual 219, 3) := by decide +kernel
theorem dX8_lookAtOneThere_101 : decode cX8_lookAtOneThere 101 = .ok (.invokestatic 142, 3) := by decide +kernel
theorem dX8_lookAtOneThere_104 : decode cX8_lookAtOneThere 104 = .ok (.ireturn, 1) := by decide +kernel
theorem dX8_lookAtOneThere_105 : decode cX8_lookAtOneThere 105 = .ok (.aload_n 0, 1) := by decide +kernel
theorem dX8_lookAtOneThere_106 : decode cX8_lookAtOneThere 106 = .ok (.getfield 42, 3) := by decide +kernel
theorem dX8_lookAtOneThere_109 : decode cX8_lookAtOneThere 109 = .ok (.invokevirtual 181, 3) := by decide +kernel
theorem dX8_lookAtOneThere_112 : decode cX8_lookAtOneThere 112 = .ok (.aload_n 0, 1) := by decide +kernel
theorem dX8_lookAtOneThere_113 : decode cX8_lookAtOneThere 113 = .ok (.getfield 42, 3) := by decide +kernel
theorem dX8_lookAtOneThere_116 : decode cX8_lookAtOneThere 116 = .ok (.getfield 222, 3) := by decide +kernel
theorem dX8_lookAtOneThere_119 : decode cX8_lookAtOneThere 119 = .ok (.iload_n 1, 1) := by decide +kernel
theorem dX8_lookAtOneThere_120 : decode cX8_lookAtOneThere 120 = .ok (.iaload, 1) := by decide +kernel
theorem dX8_lookAtOneThere_121 : decode cX8_lookAtOneThere 121 = .ok (.ireturn, 1) := by decide +kernel
theorem dX8_binds_0 : decode cX8_binds 0 = .ok (.aload_n 0, 1) := by decide +kernel
theorem dX8_binds_1 : decode cX8_binds 1 = .ok (.getfield 33, 3) := by decide +kernel
theorem dX8_binds_4 : decode cX8_binds 4 = .ok (.iload_n 1, 1) := by decide +kernel
theorem dX8_binds_5 : decode cX8_binds 5 = .ok (.invokevirtual 206, 3) := by decide +kernel
theorem dX8_binds_8 : decode cX8_binds 8 = .ok (.istore_n 2, 1) := by decide +kernel
theorem dX8_binds_9 : decode cX8_binds 9 = .ok (.iload_n 2, 1) := by decide +kernel
theorem dX8_binds_10 : decode cX8_binds 10 = .ok (.ifCond .le 27, 3) := by decide +kernel
theorem dX8_binds_13 : decode cX8_binds 13 = .ok (.sipush 1000, 3) := by decide +kernel
theorem dX8_binds_16 : decode cX8_binds 16 = .ok (.aload_n 0, 1) := by decide +kernel
theorem dX8_binds_17 : decode cX8_binds 17 = .ok (.getfield 69, 3) := by decide +kernel
theorem dX8_binds_20 : decode cX8_binds 20 = .ok (.imul, 1) := by decide +kernel
theorem dX8_binds_21 : decode cX8_binds 21 = .ok (.aload_n 0, 1) := by decide +kernel
theorem dX8_binds_22 : decode cX8_binds 22 = .ok (.getfield 65, 3) := by decide +kernel
theorem dX8_binds_25 : decode cX8_binds 25 = .ok (.iload_n 2, 1) := by decide +kernel
theorem dX8_binds_26 : decode cX8_binds 26 = .ok (.invokestatic 225, 3) := by decide +kernel
theorem dX8_binds_29 : decode cX8_binds 29 = .ok (.imul, 1) := by decide +kernel
theorem dX8_binds_30 : decode cX8_binds 30 = .ok (.if_icmp .ge 7, 3) := by decide +kernel
theorem dX8_binds_33 : decode cX8_binds 33 = .ok (.iconst 1, 1) := by decide +kernel
theorem dX8_binds_34 : decode cX8_binds 34 = .ok (.goto 4, 3) := by decide +kernel
theorem dX8_binds_37 : decode cX8_binds 37 = .ok (.iconst 0, 1) := by decide +kernel
theorem dX8_binds_38 : decode cX8_binds 38 = .ok (.ireturn, 1) := by decide +kernel
theorem dX8_roomFor_0 : decode cX8_roomFor 0 = .ok (.getstatic 228, 3) := by decide +kernel
theorem dX8_roomFor_3 : decode cX8_roomFor 3 = .ok (.arraylength, 1) := by decide +kernel
theorem dX8_roomFor_4 : decode cX8_roomFor 4 = .ok (.iconst 1, 1) := by decide +kernel
theorem dX8_roomFor_5 : decode cX8_roomFor 5 = .ok (.isub, 1) := by decide +kernel
theorem dX8_roomFor_6 : decode cX8_roomFor 6 = .ok (.istore_n 1, 1) := by decide +kernel
theorem dX8_roomFor_7 : decode cX8_roomFor 7 = .ok (.iload_n 0, 1) := by decide +kernel
theorem dX8_roomFor_8 : decode cX8_roomFor 8 = .ok (.iload_n 1, 1) := by decide +kernel
theorem dX8_roomFor_9 : decode cX8_roomFor 9 = .ok (.if_icmp .gt 9, 3) := by decide +kernel
theorem dX8_roomFor_12 : decode cX8_roomFor 12 = .ok (.getstatic 228, 3) := by decide +kernel
theorem dX8_roomFor_15 : decode cX8_roomFor 15 = .ok (.iload_n 0, 1) := by decide +kernel
theorem dX8_roomFor_16 : decode cX8_roomFor 16 = .ok (.iaload, 1) := by decide +kernel
theorem dX8_roomFor_17 : decode cX8_roomFor 17 = .ok (.ireturn, 1) := by decide +kernel
theorem dX8_roomFor_18 : decode cX8_roomFor 18 = .ok (.getstatic 228, 3) := by decide +kernel
theorem dX8_roomFor_21 : decode cX8_roomFor 21 = .ok (.iload_n 1, 1) := by decide +kernel
theorem dX8_roomFor_22 : decode cX8_roomFor 22 = .ok (.iaload, 1) := by decide +kernel
theorem dX8_roomFor_23 : decode cX8_roomFor 23 = .ok (.sipush 400, 3) := by decide +kernel
theorem dX8_roomFor_26 : decode cX8_roomFor 26 = .ok (.iload_n 0, 1) := by decide +kernel
theorem dX8_roomFor_27 : decode cX8_roomFor 27 = .ok (.iload_n 1, 1) := by decide +kernel
theorem dX8_roomFor_28 : decode cX8_roomFor 28 = .ok (.isub, 1) := by decide +kernel
theorem dX8_roomFor_29 : decode cX8_roomFor 29 = .ok (.imul, 1) := by decide +kernel
theorem dX8_roomFor_30 : decode cX8_roomFor 30 = .ok (.iadd, 1) := by decide +kernel
theorem dX8_roomFor_31 : decode cX8_roomFor 31 = .ok (.ireturn, 1) := by decide +kernel
theorem dX8_bindingRings_0 : decode cX8_bindingRings 0 = .ok (.iconst 0, 1) := by decide +kernel
theorem dX8_bindingRings_1 : decode cX8_bindingRings 1 = .ok (.istore_n 1, 1) := by decide +kernel
theorem dX8_bindingRings_2 : decode cX8_bindingRings 2 = .ok (.iconst 0, 1) := by decide +kernel
theorem dX8_bindingRings_3 : decode cX8_bindingRings 3 = .ok (.istore_n 2, 1) := by decide +kernel
theorem dX8_bindingRings_4 : decode cX8_bindingRings 4 = .ok (.iload_n 2, 1) := by decide +kernel
theorem dX8_bindingRings_5 : decode cX8_bindingRings 5 = .ok (.aload_n 0, 1) := by decide +kernel
theorem dX8_bindingRings_6 : decode cX8_bindingRings 6 = .ok (.getfield 33, 3) := by decide +kernel
theorem dX8_bindingRings_9 : decode cX8_bindingRings 9 = .ok (.getfield 100, 3) := by decide +kernel
theorem dX8_bindingRings_12 : decode cX8_bindingRings 12 = .ok (.if_icmp .ge 31, 3) := by decide +kernel
theorem dX8_bindingRings_15 : decode cX8_bindingRings 15 = .ok (.aload_n 0, 1) := by decide +kernel
theorem dX8_bindingRings_16 : decode cX8_bindingRings 16 = .ok (.getfield 33, 3) := by decide +kernel
theorem dX8_bindingRings_19 : decode cX8_bindingRings 19 = .ok (.iload_n 2, 1) := by decide +kernel
theorem dX8_bindingRings_20 : decode cX8_bindingRings 20 = .ok (.invokevirtual 111, 3) := by decide +kernel
theorem dX8_bindingRings_23 : decode cX8_bindingRings 23 = .ok (.ifCond .eq 14, 3) := by decide +kernel
theorem dX8_bindingRings_26 : decode cX8_bindingRings 26 = .ok (.aload_n 0, 1) := by decide +kernel
theorem dX8_bindingRings_27 : decode cX8_bindingRings 27 = .ok (.iload_n 2, 1) := by decide +kernel
theorem dX8_bindingRings_28 : decode cX8_bindingRings 28 = .ok (.invokevirtual 212, 3) := by decide +kernel
theorem dX8_bindingRings_31 : decode cX8_bindingRings 31 = .ok (.ifCond .eq 6, 3) := by decide +kernel
theorem dX8_bindingRings_34 : decode cX8_bindingRings 34 = .ok (.iinc 1 1, 3) := by decide +kernel
theorem dX8_bindingRings_37 : decode cX8_bindingRings 37 = .ok (.iinc 2 1, 3) := by decide +kernel
theorem dX8_bindingRings_40 : decode cX8_bindingRings 40 = .ok (.goto (-36), 3) := by decide +kernel
theorem dX8_bindingRings_43 : decode cX8_bindingRings 43 = .ok (.iload_n 1, 1) := by decide +kernel
theorem dX8_bindingRings_44 : decode cX8_bindingRings 44 = .ok (.ireturn, 1) := by decide +kernel
theorem dX8_wireOfAll_0 : decode cX8_wireOfAll 0 = .ok (.aload_n 0, 1) := by decide +kernel
theorem dX8_wireOfAll_1 : decode cX8_wireOfAll 1 = .ok (.getfield 69, 3) := by decide +kernel
theorem dX8_wireOfAll_4 : decode cX8_wireOfAll 4 = .ok (.aload_n 0, 1) := by decide +kernel
theorem dX8_wireOfAll_5 : decode cX8_wireOfAll 5 = .ok (.getfield 65, 3) := by decide +kernel
theorem dX8_wireOfAll_8 : decode cX8_wireOfAll 8 = .ok (.iadd, 1) := by decide +kernel
theorem dX8_wireOfAll_9 : decode cX8_wireOfAll 9 = .ok (.sipush 355, 3) := by decide +kernel
theorem dX8_wireOfAll_12 : decode cX8_wireOfAll 12 = .ok (.imul, 1) := by decide +kernel
theorem dX8_wireOfAll_13 : decode cX8_wireOfAll 13 = .ok (.bipush 113, 2) := by decide +kernel
theorem dX8_wireOfAll_15 : decode cX8_wireOfAll 15 = .ok (.idiv, 1) := by decide +kernel
theorem dX8_wireOfAll_16 : decode cX8_wireOfAll 16 = .ok (.aload_n 0, 1) := by decide +kernel
theorem dX8_wireOfAll_17 : decode cX8_wireOfAll 17 = .ok (.getfield 33, 3) := by decide +kernel
theorem dX8_wireOfAll_20 : decode cX8_wireOfAll 20 = .ok (.invokevirtual 175, 3) := by decide +kernel
theorem dX8_wireOfAll_23 : decode cX8_wireOfAll 23 = .ok (.imul, 1) := by decide +kernel
theorem dX8_wireOfAll_24 : decode cX8_wireOfAll 24 = .ok (.ireturn, 1) := by decide +kernel
theorem dX8_weightOfAll_0 : decode cX8_weightOfAll 0 = .ok (.aload_n 0, 1) := by decide +kernel
theorem dX8_weightOfAll_1 : decode cX8_weightOfAll 1 = .ok (.invokevirtual 194, 3) := by decide +kernel
theorem dX8_weightOfAll_4 : decode cX8_weightOfAll 4 = .ok (.i2l, 1) := by decide +kernel
theorem dX8_weightOfAll_5 : decode cX8_weightOfAll 5 = .ok (.aload_n 0, 1) := by decide +kernel
theorem dX8_weightOfAll_6 : decode cX8_weightOfAll 6 = .ok (.getfield 65, 3) := by decide +kernel
theorem dX8_weightOfAll_9 : decode cX8_weightOfAll 9 = .ok (.i2l, 1) := by decide +kernel
theorem dX8_weightOfAll_10 : decode cX8_weightOfAll 10 = .ok (.lmul, 1) := by decide +kernel
theorem dX8_weightOfAll_11 : decode cX8_weightOfAll 11 = .ok (.aload_n 0, 1) := by decide +kernel
theorem dX8_weightOfAll_12 : decode cX8_weightOfAll 12 = .ok (.getfield 65, 3) := by decide +kernel
theorem dX8_weightOfAll_15 : decode cX8_weightOfAll 15 = .ok (.i2l, 1) := by decide +kernel
theorem dX8_weightOfAll_16 : decode cX8_weightOfAll 16 = .ok (.lmul, 1) := by decide +kernel
theorem dX8_weightOfAll_17 : decode cX8_weightOfAll 17 = .ok (.aload_n 0, 1) := by decide +kernel
theorem dX8_weightOfAll_18 : decode cX8_weightOfAll 18 = .ok (.getfield 72, 3) := by decide +kernel
theorem dX8_weightOfAll_21 : decode cX8_weightOfAll 21 = .ok (.i2l, 1) := by decide +kernel
theorem dX8_weightOfAll_22 : decode cX8_weightOfAll 22 = .ok (.lmul, 1) := by decide +kernel
theorem dX8_weightOfAll_23 : decode cX8_weightOfAll 23 = .ok (.ldc2_w 231, 3) := by decide +kernel
theorem dX8_weightOfAll_26 : decode cX8_weightOfAll 26 = .ok (.ldiv, 1) := by decide +kernel
theorem dX8_weightOfAll_27 : decode cX8_weightOfAll 27 = .ok (.l2i, 1) := by decide +kernel
theorem dX8_weightOfAll_28 : decode cX8_weightOfAll 28 = .ok (.ireturn, 1) := by decide +kernel
theorem dX8_isSide_0 : decode cX8_isSide 0 = .ok (.iload_n 0, 1) := by decide +kernel
theorem dX8_isSide_1 : decode cX8_isSide 1 = .ok (.bipush 12, 2) := by decide +kernel
theorem dX8_isSide_3 : decode cX8_isSide 3 = .ok (.invokestatic 172, 3) := by decide +kernel
theorem dX8_isSide_6 : decode cX8_isSide 6 = .ok (.ireturn, 1) := by decide +kernel
theorem dX8_isWithin_0 : decode cX8_isWithin 0 = .ok (.iload_n 0, 1) := by decide +kernel
theorem dX8_isWithin_1 : decode cX8_isWithin 1 = .ok (.iconst 1, 1) := by decide +kernel
theorem dX8_isWithin_2 : decode cX8_isWithin 2 = .ok (.if_icmp .lt 12, 3) := by decide +kernel
theorem dX8_isWithin_5 : decode cX8_isWithin 5 = .ok (.iload_n 0, 1) := by decide +kernel
theorem dX8_isWithin_6 : decode cX8_isWithin 6 = .ok (.iload_n 1, 1) := by decide +kernel
theorem dX8_isWithin_7 : decode cX8_isWithin 7 = .ok (.if_icmp .gt 7, 3) := by decide +kernel
theorem dX8_isWithin_10 : decode cX8_isWithin 10 = .ok (.iconst 1, 1) := by decide +kernel
theorem dX8_isWithin_11 : decode cX8_isWithin 11 = .ok (.goto 4, 3) := by decide +kernel
theorem dX8_isWithin_14 : decode cX8_isWithin 14 = .ok (.iconst 0, 1) := by decide +kernel
theorem dX8_isWithin_15 : decode cX8_isWithin 15 = .ok (.ireturn, 1) := by decide +kernel
theorem dX8_asNumber_0 : decode cX8_asNumber 0 = .ok (.iload_n 0, 1) := by decide +kernel
theorem dX8_asNumber_1 : decode cX8_asNumber 1 = .ok (.ifCond .eq 7, 3) := by decide +kernel
theorem dX8_asNumber_4 : decode cX8_asNumber 4 = .ok (.iconst 1, 1) := by decide +kernel
theorem dX8_asNumber_5 : decode cX8_asNumber 5 = .ok (.goto 4, 3) := by decide +kernel
theorem dX8_asNumber_8 : decode cX8_asNumber 8 = .ok (.iconst 0, 1) := by decide +kernel
theorem dX8_asNumber_9 : decode cX8_asNumber 9 = .ok (.ireturn, 1) := by decide +kernel
theorem dX9_thrown_0 : decode cX9_thrown 0 = .ok (.aload_n 0, 1) := by decide +kernel
theorem dX9_thrown_1 : decode cX9_thrown 1 = .ok (.getfield 1, 3) := by decide +kernel
theorem dX9_thrown_4 : decode cX9_thrown 4 = .ok (.ireturn, 1) := by decide +kernel
theorem dX9_feed_0 : decode cX9_feed 0 = .ok (.aload_n 0, 1) := by decide +kernel
theorem dX9_feed_1 : decode cX9_feed 1 = .ok (.iconst 0, 1) := by decide +kernel
theorem dX9_feed_2 : decode cX9_feed 2 = .ok (.putfield 1, 3) := by decide +kernel
theorem dX9_feed_5 : decode cX9_feed 5 = .ok (.aload_n 0, 1) := by decide +kernel
theorem dX9_feed_6 : decode cX9_feed 6 = .ok (.lload_n 1, 1) := by decide +kernel
theorem dX9_feed_7 : decode cX9_feed 7 = .ok (.invokevirtual 7, 3) := by decide +kernel
theorem dX9_feed_10 : decode cX9_feed 10 = .ok (.aload_n 0, 1) := by decide +kernel
theorem dX9_feed_11 : decode cX9_feed 11 = .ok (.lload_n 3, 1) := by decide +kernel
theorem dX9_feed_12 : decode cX9_feed 12 = .ok (.invokevirtual 7, 3) := by decide +kernel
theorem dX9_feed_15 : decode cX9_feed 15 = .ok (.aload_n 0, 1) := by decide +kernel
theorem dX9_feed_16 : decode cX9_feed 16 = .ok (.lload 5, 2) := by decide +kernel
theorem dX9_feed_18 : decode cX9_feed 18 = .ok (.invokevirtual 7, 3) := by decide +kernel
theorem dX9_feed_21 : decode cX9_feed 21 = .ok (.aload_n 0, 1) := by decide +kernel
theorem dX9_feed_22 : decode cX9_feed 22 = .ok (.getfield 11, 3) := by decide +kernel
theorem dX9_feed_25 : decode cX9_feed 25 = .ok (.ireturn, 1) := by decide +kernel
theorem dX9_lay_0 : decode cX9_lay 0 = .ok (.bipush 56, 2) := by decide +kernel
theorem dX9_lay_2 : decode cX9_lay 2 = .ok (.istore_n 3, 1) := by decide +kernel
theorem dX9_lay_3 : decode cX9_lay 3 = .ok (.iload_n 3, 1) := by decide +kernel
theorem dX9_lay_4 : decode cX9_lay 4 = .ok (.ifCond .lt 71, 3) := by decide +kernel
theorem dX9_lay_7 : decode cX9_lay 7 = .ok (.lload_n 1, 1) := by decide +kernel
theorem dX9_lay_8 : decode cX9_lay 8 = .ok (.iload_n 3, 1) := by decide +kernel
theorem dX9_lay_9 : decode cX9_lay 9 = .ok (.lshr, 1) := by decide +kernel
theorem dX9_lay_10 : decode cX9_lay 10 = .ok (.l2i, 1) := by decide +kernel
theorem dX9_lay_11 : decode cX9_lay 11 = .ok (.sipush 255, 3) := by decide +kernel
theorem dX9_lay_14 : decode cX9_lay 14 = .ok (.iand, 1) := by decide +kernel
theorem dX9_lay_15 : decode cX9_lay 15 = .ok (.istore 4, 2) := by decide +kernel
theorem dX9_lay_17 : decode cX9_lay 17 = .ok (.iload 4, 2) := by decide +kernel
theorem dX9_lay_19 : decode cX9_lay 19 = .ok (.bipush 10, 2) := by decide +kernel
theorem dX9_lay_21 : decode cX9_lay 21 = .ok (.if_icmp .eq 17, 3) := by decide +kernel
theorem dX9_lay_24 : decode cX9_lay 24 = .ok (.iload 4, 2) := by decide +kernel
theorem dX9_lay_26 : decode cX9_lay 26 = .ok (.bipush 32, 2) := by decide +kernel
theorem dX9_lay_28 : decode cX9_lay 28 = .ok (.if_icmp .lt 41, 3) := by decide +kernel
theorem dX9_lay_31 : decode cX9_lay 31 = .ok (.iload 4, 2) := by decide +kernel
theorem dX9_lay_33 : decode cX9_lay 33 = .ok (.bipush 126, 2) := by decide +kernel
theorem dX9_lay_35 : decode cX9_lay 35 = .ok (.if_icmp .gt 34, 3) := by decide +kernel
theorem dX9_lay_38 : decode cX9_lay 38 = .ok (.aload_n 0, 1) := by decide +kernel
theorem dX9_lay_39 : decode cX9_lay 39 = .ok (.getfield 11, 3) := by decide +kernel
theorem dX9_lay_42 : decode cX9_lay 42 = .ok (.sipush 1000, 3) := by decide +kernel
theorem dX9_lay_45 : decode cX9_lay 45 = .ok (.if_icmp .ge 24, 3) := by decide +kernel
theorem dX9_lay_48 : decode cX9_lay 48 = .ok (.aload_n 0, 1) := by decide +kernel
theorem dX9_lay_49 : decode cX9_lay 49 = .ok (.getfield 14, 3) := by decide +kernel
theorem dX9_lay_52 : decode cX9_lay 52 = .ok (.aload_n 0, 1) := by decide +kernel
theorem dX9_lay_53 : decode cX9_lay 53 = .ok (.getfield 11, 3) := by decide +kernel
theorem dX9_lay_56 : decode cX9_lay 56 = .ok (.iload 4, 2) := by decide +kernel
theorem dX9_lay_58 : decode cX9_lay 58 = .ok (.iastore, 1) := by decide +kernel
theorem dX9_lay_59 : decode cX9_lay 59 = .ok (.aload_n 0, 1) := by decide +kernel
theorem dX9_lay_60 : decode cX9_lay 60 = .ok (.dup, 1) := by decide +kernel
theorem dX9_lay_61 : decode cX9_lay 61 = .ok (.getfield 11, 3) := by decide +kernel
theorem dX9_lay_64 : decode cX9_lay 64 = .ok (.iconst 1, 1) := by decide +kernel
theorem dX9_lay_65 : decode cX9_lay 65 = .ok (.iadd, 1) := by decide +kernel
theorem dX9_lay_66 : decode cX9_lay 66 = .ok (.putfield 11, 3) := by decide +kernel
theorem dX9_lay_69 : decode cX9_lay 69 = .ok (.iinc 3 (-8), 3) := by decide +kernel
theorem dX9_lay_72 : decode cX9_lay 72 = .ok (.goto (-69), 3) := by decide +kernel
theorem dX9_lay_75 : decode cX9_lay 75 = .ok (.return_, 1) := by decide +kernel
theorem dX9_init_0 : decode cX9_init 0 = .ok (.aload_n 0, 1) := by decide +kernel
theorem dX9_init_1 : decode cX9_init 1 = .ok (.invokespecial 18, 3) := by decide +kernel
theorem dX9_init_4 : decode cX9_init 4 = .ok (.aload_n 0, 1) := by decide +kernel
theorem dX9_init_5 : decode cX9_init 5 = .ok (.sipush 1000, 3) := by decide +kernel
theorem dX9_init_8 : decode cX9_init 8 = .ok (.newarray .int, 2) := by decide +kernel
theorem dX9_init_10 : decode cX9_init 10 = .ok (.putfield 14, 3) := by decide +kernel
theorem dX9_init_13 : decode cX9_init 13 = .ok (.aload_n 0, 1) := by decide +kernel
theorem dX9_init_14 : decode cX9_init 14 = .ok (.sipush 1002, 3) := by decide +kernel
theorem dX9_init_17 : decode cX9_init 17 = .ok (.newarray .int, 2) := by decide +kernel
theorem dX9_init_19 : decode cX9_init 19 = .ok (.putfield 24, 3) := by decide +kernel
theorem dX9_init_22 : decode cX9_init 22 = .ok (.aload_n 0, 1) := by decide +kernel
theorem dX9_init_23 : decode cX9_init 23 = .ok (.sipush 1002, 3) := by decide +kernel
theorem dX9_init_26 : decode cX9_init 26 = .ok (.newarray .int, 2) := by decide +kernel
theorem dX9_init_28 : decode cX9_init 28 = .ok (.putfield 27, 3) := by decide +kernel
theorem dX9_init_31 : decode cX9_init 31 = .ok (.aload_n 0, 1) := by decide +kernel
theorem dX9_init_32 : decode cX9_init 32 = .ok (.sipush 1002, 3) := by decide +kernel
theorem dX9_init_35 : decode cX9_init 35 = .ok (.newarray .long, 2) := by decide +kernel
theorem dX9_init_37 : decode cX9_init 37 = .ok (.putfield 30, 3) := by decide +kernel
theorem dX9_init_40 : decode cX9_init 40 = .ok (.aload_n 0, 1) := by decide +kernel
theorem dX9_init_41 : decode cX9_init 41 = .ok (.iconst 4, 1) := by decide +kernel
theorem dX9_init_42 : decode cX9_init 42 = .ok (.newarray .long, 2) := by decide +kernel
theorem dX9_init_44 : decode cX9_init 44 = .ok (.dup, 1) := by decide +kernel
theorem dX9_init_45 : decode cX9_init 45 = .ok (.iconst 0, 1) := by decide +kernel
theorem dX9_init_46 : decode cX9_init 46 = .ok (.ldc2_w 34, 3) := by decide +kernel
theorem dX9_init_49 : decode cX9_init 49 = .ok (.lastore, 1) := by decide +kernel
theorem dX9_init_50 : decode cX9_init 50 = .ok (.dup, 1) := by decide +kernel
theorem dX9_init_51 : decode cX9_init 51 = .ok (.iconst 1, 1) := by decide +kernel
theorem dX9_init_52 : decode cX9_init 52 = .ok (.ldc2_w 36, 3) := by decide +kernel
theorem dX9_init_55 : decode cX9_init 55 = .ok (.lastore, 1) := by decide +kernel
theorem dX9_init_56 : decode cX9_init 56 = .ok (.dup, 1) := by decide +kernel
theorem dX9_init_57 : decode cX9_init 57 = .ok (.iconst 2, 1) := by decide +kernel
theorem dX9_init_58 : decode cX9_init 58 = .ok (.ldc2_w 38, 3) := by decide +kernel
theorem dX9_init_61 : decode cX9_init 61 = .ok (.lastore, 1) := by decide +kernel
theorem dX9_init_62 : decode cX9_init 62 = .ok (.dup, 1) := by decide +kernel
theorem dX9_init_63 : decode cX9_init 63 = .ok (.iconst 3, 1) := by decide +kernel
theorem dX9_init_64 : decode cX9_init 64 = .ok (.ldc2_w 40, 3) := by decide +kernel
theorem dX9_init_67 : decode cX9_init 67 = .ok (.lastore, 1) := by decide +kernel
theorem dX9_init_68 : decode cX9_init 68 = .ok (.putfield 42, 3) := by decide +kernel
theorem dX9_init_71 : decode cX9_init 71 = .ok (.aload_n 0, 1) := by decide +kernel
theorem dX9_init_72 : decode cX9_init 72 = .ok (.iconst 3, 1) := by decide +kernel
theorem dX9_init_73 : decode cX9_init 73 = .ok (.newarray .int, 2) := by decide +kernel
theorem dX9_init_75 : decode cX9_init 75 = .ok (.putfield 45, 3) := by decide +kernel
theorem dX9_init_78 : decode cX9_init 78 = .ok (.aload_n 0, 1) := by decide +kernel
theorem dX9_init_79 : decode cX9_init 79 = .ok (.bipush 12, 2) := by decide +kernel
theorem dX9_init_81 : decode cX9_init 81 = .ok (.newarray .long, 2) := by decide +kernel
theorem dX9_init_83 : decode cX9_init 83 = .ok (.putfield 48, 3) := by decide +kernel
theorem dX9_init_86 : decode cX9_init 86 = .ok (.aload_n 0, 1) := by decide +kernel
theorem dX9_init_87 : decode cX9_init 87 = .ok (.iconst 3, 1) := by decide +kernel
theorem dX9_init_88 : decode cX9_init 88 = .ok (.newarray .int, 2) := by decide +kernel
theorem dX9_init_90 : decode cX9_init 90 = .ok (.putfield 51, 3) := by decide +kernel
theorem dX9_init_93 : decode cX9_init 93 = .ok (.aload_n 0, 1) := by decide +kernel
theorem dX9_init_94 : decode cX9_init 94 = .ok (.bipush 72, 2) := by decide +kernel
theorem dX9_init_96 : decode cX9_init 96 = .ok (.newarray .int, 2) := by decide +kernel
theorem dX9_init_98 : decode cX9_init 98 = .ok (.putfield 54, 3) := by decide +kernel
theorem dX9_init_101 : decode cX9_init 101 = .ok (.aload_n 0, 1) := by decide +kernel
theorem dX9_init_102 : decode cX9_init 102 = .ok (.bipush 72, 2) := by decide +kernel
theorem dX9_init_104 : decode cX9_init 104 = .ok (.newarray .int, 2) := by decide +kernel
theorem dX9_init_106 : decode cX9_init 106 = .ok (.putfield 57, 3) := by decide +kernel
theorem dX9_init_109 : decode cX9_init 109 = .ok (.aload_n 0, 1) := by decide +kernel
theorem dX9_init_110 : decode cX9_init 110 = .ok (.bipush 72, 2) := by decide +kernel
theorem dX9_init_112 : decode cX9_init 112 = .ok (.newarray .int, 2) := by decide +kernel
theorem dX9_init_114 : decode cX9_init 114 = .ok (.putfield 60, 3) := by decide +kernel
theorem dX9_init_117 : decode cX9_init 117 = .ok (.aload_n 0, 1) := by decide +kernel
theorem dX9_init_118 : decode cX9_init 118 = .ok (.bipush 72, 2) := by decide +kernel
theorem dX9_init_120 : decode cX9_init 120 = .ok (.newarray .int, 2) := by decide +kernel
theorem dX9_init_122 : decode cX9_init 122 = .ok (.putfield 63, 3) := by decide +kernel
theorem dX9_init_125 : decode cX9_init 125 = .ok (.aload_n 0, 1) := by decide +kernel
theorem dX9_init_126 : decode cX9_init 126 = .ok (.bipush 72, 2) := by decide +kernel
theorem dX9_init_128 : decode cX9_init 128 = .ok (.newarray .boolean, 2) := by decide +kernel
theorem dX9_init_130 : decode cX9_init 130 = .ok (.putfield 66, 3) := by decide +kernel
theorem dX9_init_133 : decode cX9_init 133 = .ok (.aload_n 0, 1) := by decide +kernel
theorem dX9_init_134 : decode cX9_init 134 = .ok (.sipush 300, 3) := by decide +kernel
theorem dX9_init_137 : decode cX9_init 137 = .ok (.newarray .boolean, 2) := by decide +kernel
theorem dX9_init_139 : decode cX9_init 139 = .ok (.putfield 70, 3) := by decide +kernel
theorem dX9_init_142 : decode cX9_init 142 = .ok (.aload_n 0, 1) := by decide +kernel
theorem dX9_init_143 : decode cX9_init 143 = .ok (.ldc 73, 2) := by decide +kernel
