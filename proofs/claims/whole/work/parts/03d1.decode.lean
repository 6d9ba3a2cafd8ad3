theorem dX1_putInOrder_60 : decode cX1_putInOrder 60 = .ok (.iinc 1 1, 3) := by decide +kernel
theorem dX1_putInOrder_63 : decode cX1_putInOrder 63 = .ok (.goto (-48), 3) := by decide +kernel
theorem dX1_putInOrder_66 : decode cX1_putInOrder 66 = .ok (.return_, 1) := by decide +kernel
theorem dX1_nextToOpen_0 : decode cX1_nextToOpen 0 = .ok (.aload_n 0, 1) := by decide +kernel
theorem dX1_nextToOpen_1 : decode cX1_nextToOpen 1 = .ok (.getfield 24, 3) := by decide +kernel
theorem dX1_nextToOpen_4 : decode cX1_nextToOpen 4 = .ok (.iconst 1, 1) := by decide +kernel
theorem dX1_nextToOpen_5 : decode cX1_nextToOpen 5 = .ok (.iconst 0, 1) := by decide +kernel
theorem dX1_nextToOpen_6 : decode cX1_nextToOpen 6 = .ok (.invokevirtual 103, 3) := by decide +kernel
theorem dX1_nextToOpen_9 : decode cX1_nextToOpen 9 = .ok (.istore_n 1, 1) := by decide +kernel
theorem dX1_nextToOpen_10 : decode cX1_nextToOpen 10 = .ok (.iload_n 1, 1) := by decide +kernel
theorem dX1_nextToOpen_11 : decode cX1_nextToOpen 11 = .ok (.istore_n 2, 1) := by decide +kernel
theorem dX1_nextToOpen_12 : decode cX1_nextToOpen 12 = .ok (.iconst 0, 1) := by decide +kernel
theorem dX1_nextToOpen_13 : decode cX1_nextToOpen 13 = .ok (.istore_n 3, 1) := by decide +kernel
theorem dX1_nextToOpen_14 : decode cX1_nextToOpen 14 = .ok (.iload_n 3, 1) := by decide +kernel
theorem dX1_nextToOpen_15 : decode cX1_nextToOpen 15 = .ok (.sipush 300, 3) := by decide +kernel
theorem dX1_nextToOpen_18 : decode cX1_nextToOpen 18 = .ok (.if_icmp .ge 40, 3) := by decide +kernel
theorem dX1_nextToOpen_21 : decode cX1_nextToOpen 21 = .ok (.iload_n 2, 1) := by decide +kernel
theorem dX1_nextToOpen_22 : decode cX1_nextToOpen 22 = .ok (.iconst (-1), 1) := by decide +kernel
theorem dX1_nextToOpen_23 : decode cX1_nextToOpen 23 = .ok (.if_icmp .eq 35, 3) := by decide +kernel
theorem dX1_nextToOpen_26 : decode cX1_nextToOpen 26 = .ok (.aload_n 0, 1) := by decide +kernel
theorem dX1_nextToOpen_27 : decode cX1_nextToOpen 27 = .ok (.getfield 24, 3) := by decide +kernel
theorem dX1_nextToOpen_30 : decode cX1_nextToOpen 30 = .ok (.iconst 3, 1) := by decide +kernel
theorem dX1_nextToOpen_31 : decode cX1_nextToOpen 31 = .ok (.iload_n 2, 1) := by decide +kernel
theorem dX1_nextToOpen_32 : decode cX1_nextToOpen 32 = .ok (.invokevirtual 81, 3) := by decide +kernel
theorem dX1_nextToOpen_35 : decode cX1_nextToOpen 35 = .ok (.ifCond .eq 5, 3) := by decide +kernel
theorem dX1_nextToOpen_38 : decode cX1_nextToOpen 38 = .ok (.iload_n 2, 1) := by decide +kernel
theorem dX1_nextToOpen_39 : decode cX1_nextToOpen 39 = .ok (.ireturn, 1) := by decide +kernel
theorem dX1_nextToOpen_40 : decode cX1_nextToOpen 40 = .ok (.aload_n 0, 1) := by decide +kernel
theorem dX1_nextToOpen_41 : decode cX1_nextToOpen 41 = .ok (.getfield 24, 3) := by decide +kernel
theorem dX1_nextToOpen_44 : decode cX1_nextToOpen 44 = .ok (.iconst 1, 1) := by decide +kernel
theorem dX1_nextToOpen_45 : decode cX1_nextToOpen 45 = .ok (.iload_n 2, 1) := by decide +kernel
theorem dX1_nextToOpen_46 : decode cX1_nextToOpen 46 = .ok (.iconst 1, 1) := by decide +kernel
theorem dX1_nextToOpen_47 : decode cX1_nextToOpen 47 = .ok (.iadd, 1) := by decide +kernel
theorem dX1_nextToOpen_48 : decode cX1_nextToOpen 48 = .ok (.invokevirtual 103, 3) := by decide +kernel
theorem dX1_nextToOpen_51 : decode cX1_nextToOpen 51 = .ok (.istore_n 2, 1) := by decide +kernel
theorem dX1_nextToOpen_52 : decode cX1_nextToOpen 52 = .ok (.iinc 3 1, 3) := by decide +kernel
theorem dX1_nextToOpen_55 : decode cX1_nextToOpen 55 = .ok (.goto (-41), 3) := by decide +kernel
theorem dX1_nextToOpen_58 : decode cX1_nextToOpen 58 = .ok (.iload_n 1, 1) := by decide +kernel
theorem dX1_nextToOpen_59 : decode cX1_nextToOpen 59 = .ok (.ireturn, 1) := by decide +kernel
theorem dX1_takeLinkedInHand_0 : decode cX1_takeLinkedInHand 0 = .ok (.aload_n 0, 1) := by decide +kernel
theorem dX1_takeLinkedInHand_1 : decode cX1_takeLinkedInHand 1 = .ok (.getfield 9, 3) := by decide +kernel
theorem dX1_takeLinkedInHand_4 : decode cX1_takeLinkedInHand 4 = .ok (.getfield 100, 3) := by decide +kernel
theorem dX1_takeLinkedInHand_7 : decode cX1_takeLinkedInHand 7 = .ok (.iload_n 1, 1) := by decide +kernel
theorem dX1_takeLinkedInHand_8 : decode cX1_takeLinkedInHand 8 = .ok (.iconst 0, 1) := by decide +kernel
theorem dX1_takeLinkedInHand_9 : decode cX1_takeLinkedInHand 9 = .ok (.invokevirtual 103, 3) := by decide +kernel
theorem dX1_takeLinkedInHand_12 : decode cX1_takeLinkedInHand 12 = .ok (.istore_n 2, 1) := by decide +kernel
theorem dX1_takeLinkedInHand_13 : decode cX1_takeLinkedInHand 13 = .ok (.iconst 0, 1) := by decide +kernel
theorem dX1_takeLinkedInHand_14 : decode cX1_takeLinkedInHand 14 = .ok (.istore_n 3, 1) := by decide +kernel
theorem dX1_takeLinkedInHand_15 : decode cX1_takeLinkedInHand 15 = .ok (.iload_n 3, 1) := by decide +kernel
theorem dX1_takeLinkedInHand_16 : decode cX1_takeLinkedInHand 16 = .ok (.sipush 300, 3) := by decide +kernel
theorem dX1_takeLinkedInHand_19 : decode cX1_takeLinkedInHand 19 = .ok (.if_icmp .ge 34, 3) := by decide +kernel
theorem dX1_takeLinkedInHand_22 : decode cX1_takeLinkedInHand 22 = .ok (.iload_n 2, 1) := by decide +kernel
theorem dX1_takeLinkedInHand_23 : decode cX1_takeLinkedInHand 23 = .ok (.iconst (-1), 1) := by decide +kernel
theorem dX1_takeLinkedInHand_24 : decode cX1_takeLinkedInHand 24 = .ok (.if_icmp .eq 29, 3) := by decide +kernel
theorem dX1_takeLinkedInHand_27 : decode cX1_takeLinkedInHand 27 = .ok (.aload_n 0, 1) := by decide +kernel
theorem dX1_takeLinkedInHand_28 : decode cX1_takeLinkedInHand 28 = .ok (.iload_n 2, 1) := by decide +kernel
theorem dX1_takeLinkedInHand_29 : decode cX1_takeLinkedInHand 29 = .ok (.invokevirtual 151, 3) := by decide +kernel
theorem dX1_takeLinkedInHand_32 : decode cX1_takeLinkedInHand 32 = .ok (.aload_n 0, 1) := by decide +kernel
theorem dX1_takeLinkedInHand_33 : decode cX1_takeLinkedInHand 33 = .ok (.getfield 9, 3) := by decide +kernel
theorem dX1_takeLinkedInHand_36 : decode cX1_takeLinkedInHand 36 = .ok (.getfield 100, 3) := by decide +kernel
theorem dX1_takeLinkedInHand_39 : decode cX1_takeLinkedInHand 39 = .ok (.iload_n 1, 1) := by decide +kernel
theorem dX1_takeLinkedInHand_40 : decode cX1_takeLinkedInHand 40 = .ok (.iload_n 2, 1) := by decide +kernel
theorem dX1_takeLinkedInHand_41 : decode cX1_takeLinkedInHand 41 = .ok (.iconst 1, 1) := by decide +kernel
theorem dX1_takeLinkedInHand_42 : decode cX1_takeLinkedInHand 42 = .ok (.iadd, 1) := by decide +kernel
theorem dX1_takeLinkedInHand_43 : decode cX1_takeLinkedInHand 43 = .ok (.invokevirtual 103, 3) := by decide +kernel
theorem dX1_takeLinkedInHand_46 : decode cX1_takeLinkedInHand 46 = .ok (.istore_n 2, 1) := by decide +kernel
theorem dX1_takeLinkedInHand_47 : decode cX1_takeLinkedInHand 47 = .ok (.iinc 3 1, 3) := by decide +kernel
theorem dX1_takeLinkedInHand_50 : decode cX1_takeLinkedInHand 50 = .ok (.goto (-35), 3) := by decide +kernel
theorem dX1_takeLinkedInHand_53 : decode cX1_takeLinkedInHand 53 = .ok (.return_, 1) := by decide +kernel
theorem dX1_takeInHand_0 : decode cX1_takeInHand 0 = .ok (.aload_n 0, 1) := by decide +kernel
theorem dX1_takeInHand_1 : decode cX1_takeInHand 1 = .ok (.getfield 24, 3) := by decide +kernel
theorem dX1_takeInHand_4 : decode cX1_takeInHand 4 = .ok (.iconst 2, 1) := by decide +kernel
theorem dX1_takeInHand_5 : decode cX1_takeInHand 5 = .ok (.iload_n 1, 1) := by decide +kernel
theorem dX1_takeInHand_6 : decode cX1_takeInHand 6 = .ok (.invokevirtual 81, 3) := by decide +kernel
theorem dX1_takeInHand_9 : decode cX1_takeInHand 9 = .ok (.ifCond .ne 28, 3) := by decide +kernel
theorem dX1_takeInHand_12 : decode cX1_takeInHand 12 = .ok (.aload_n 0, 1) := by decide +kernel
theorem dX1_takeInHand_13 : decode cX1_takeInHand 13 = .ok (.getfield 24, 3) := by decide +kernel
theorem dX1_takeInHand_16 : decode cX1_takeInHand 16 = .ok (.iconst 2, 1) := by decide +kernel
theorem dX1_takeInHand_17 : decode cX1_takeInHand 17 = .ok (.iload_n 1, 1) := by decide +kernel
theorem dX1_takeInHand_18 : decode cX1_takeInHand 18 = .ok (.invokevirtual 134, 3) := by decide +kernel
theorem dX1_takeInHand_21 : decode cX1_takeInHand 21 = .ok (.aload_n 0, 1) := by decide +kernel
theorem dX1_takeInHand_22 : decode cX1_takeInHand 22 = .ok (.getfield 24, 3) := by decide +kernel
theorem dX1_takeInHand_25 : decode cX1_takeInHand 25 = .ok (.iconst 3, 1) := by decide +kernel
theorem dX1_takeInHand_26 : decode cX1_takeInHand 26 = .ok (.aload_n 0, 1) := by decide +kernel
theorem dX1_takeInHand_27 : decode cX1_takeInHand 27 = .ok (.getfield 9, 3) := by decide +kernel
theorem dX1_takeInHand_30 : decode cX1_takeInHand 30 = .ok (.getfield 100, 3) := by decide +kernel
theorem dX1_takeInHand_33 : decode cX1_takeInHand 33 = .ok (.iload_n 1, 1) := by decide +kernel
theorem dX1_takeInHand_34 : decode cX1_takeInHand 34 = .ok (.invokevirtual 141, 3) := by decide +kernel
theorem dX1_takeInHand_37 : decode cX1_takeInHand 37 = .ok (.return_, 1) := by decide +kernel
theorem dX2_init_0 : decode cX2_init 0 = .ok (.aload_n 0, 1) := by decide +kernel
theorem dX2_init_1 : decode cX2_init 1 = .ok (.invokespecial 3, 3) := by decide +kernel
theorem dX2_init_4 : decode cX2_init 4 = .ok (.aload_n 0, 1) := by decide +kernel
theorem dX2_init_5 : decode cX2_init 5 = .ok (.iload_n 1, 1) := by decide +kernel
theorem dX2_init_6 : decode cX2_init 6 = .ok (.iconst 5, 1) := by decide +kernel
theorem dX2_init_7 : decode cX2_init 7 = .ok (.imul, 1) := by decide +kernel
theorem dX2_init_8 : decode cX2_init 8 = .ok (.newarray .long, 2) := by decide +kernel
theorem dX2_init_10 : decode cX2_init 10 = .ok (.putfield 11, 3) := by decide +kernel
theorem dX2_init_13 : decode cX2_init 13 = .ok (.return_, 1) := by decide +kernel
theorem dX2_has_0 : decode cX2_has 0 = .ok (.aload_n 0, 1) := by decide +kernel
theorem dX2_has_1 : decode cX2_has 1 = .ok (.getfield 11, 3) := by decide +kernel
theorem dX2_has_4 : decode cX2_has 4 = .ok (.iload_n 1, 1) := by decide +kernel
theorem dX2_has_5 : decode cX2_has 5 = .ok (.iconst 5, 1) := by decide +kernel
theorem dX2_has_6 : decode cX2_has 6 = .ok (.imul, 1) := by decide +kernel
theorem dX2_has_7 : decode cX2_has 7 = .ok (.iload_n 2, 1) := by decide +kernel
theorem dX2_has_8 : decode cX2_has 8 = .ok (.bipush 6, 2) := by decide +kernel
theorem dX2_has_10 : decode cX2_has 10 = .ok (.ishr, 1) := by decide +kernel
theorem dX2_has_11 : decode cX2_has 11 = .ok (.iadd, 1) := by decide +kernel
theorem dX2_has_12 : decode cX2_has 12 = .ok (.laload, 1) := by decide +kernel
theorem dX2_has_13 : decode cX2_has 13 = .ok (.iload_n 2, 1) := by decide +kernel
theorem dX2_has_14 : decode cX2_has 14 = .ok (.bipush 63, 2) := by decide +kernel
theorem dX2_has_16 : decode cX2_has 16 = .ok (.iand, 1) := by decide +kernel
theorem dX2_has_17 : decode cX2_has 17 = .ok (.lushr, 1) := by decide +kernel
theorem dX2_has_18 : decode cX2_has 18 = .ok (.lconst 1, 1) := by decide +kernel
theorem dX2_has_19 : decode cX2_has 19 = .ok (.land, 1) := by decide +kernel
theorem dX2_has_20 : decode cX2_has 20 = .ok (.lconst 0, 1) := by decide +kernel
theorem dX2_has_21 : decode cX2_has 21 = .ok (.lcmp, 1) := by decide +kernel
theorem dX2_has_22 : decode cX2_has 22 = .ok (.ifCond .eq 7, 3) := by decide +kernel
theorem dX2_has_25 : decode cX2_has 25 = .ok (.iconst 1, 1) := by decide +kernel
theorem dX2_has_26 : decode cX2_has 26 = .ok (.goto 4, 3) := by decide +kernel
theorem dX2_has_29 : decode cX2_has 29 = .ok (.iconst 0, 1) := by decide +kernel
theorem dX2_has_30 : decode cX2_has 30 = .ok (.ireturn, 1) := by decide +kernel
theorem dX2_put_0 : decode cX2_put 0 = .ok (.aload_n 0, 1) := by decide +kernel
theorem dX2_put_1 : decode cX2_put 1 = .ok (.getfield 11, 3) := by decide +kernel
theorem dX2_put_4 : decode cX2_put 4 = .ok (.iload_n 1, 1) := by decide +kernel
theorem dX2_put_5 : decode cX2_put 5 = .ok (.iconst 5, 1) := by decide +kernel
theorem dX2_put_6 : decode cX2_put 6 = .ok (.imul, 1) := by decide +kernel
theorem dX2_put_7 : decode cX2_put 7 = .ok (.iload_n 2, 1) := by decide +kernel
theorem dX2_put_8 : decode cX2_put 8 = .ok (.bipush 6, 2) := by decide +kernel
theorem dX2_put_10 : decode cX2_put 10 = .ok (.ishr, 1) := by decide +kernel
theorem dX2_put_11 : decode cX2_put 11 = .ok (.iadd, 1) := by decide +kernel
theorem dX2_put_12 : decode cX2_put 12 = .ok (.dup2, 1) := by decide +kernel
theorem dX2_put_13 : decode cX2_put 13 = .ok (.laload, 1) := by decide +kernel
theorem dX2_put_14 : decode cX2_put 14 = .ok (.lconst 1, 1) := by decide +kernel
theorem dX2_put_15 : decode cX2_put 15 = .ok (.iload_n 2, 1) := by decide +kernel
theorem dX2_put_16 : decode cX2_put 16 = .ok (.bipush 63, 2) := by decide +kernel
theorem dX2_put_18 : decode cX2_put 18 = .ok (.iand, 1) := by decide +kernel
theorem dX2_put_19 : decode cX2_put 19 = .ok (.lshl, 1) := by decide +kernel
theorem dX2_put_20 : decode cX2_put 20 = .ok (.lor, 1) := by decide +kernel
theorem dX2_put_21 : decode cX2_put 21 = .ok (.lastore, 1) := by decide +kernel
theorem dX2_put_22 : decode cX2_put 22 = .ok (.return_, 1) := by decide +kernel
theorem dX2_drop_0 : decode cX2_drop 0 = .ok (.aload_n 0, 1) := by decide +kernel
theorem dX2_drop_1 : decode cX2_drop 1 = .ok (.getfield 11, 3) := by decide +kernel
theorem dX2_drop_4 : decode cX2_drop 4 = .ok (.iload_n 1, 1) := by decide +kernel
theorem dX2_drop_5 : decode cX2_drop 5 = .ok (.iconst 5, 1) := by decide +kernel
theorem dX2_drop_6 : decode cX2_drop 6 = .ok (.imul, 1) := by decide +kernel
theorem dX2_drop_7 : decode cX2_drop 7 = .ok (.iload_n 2, 1) := by decide +kernel
theorem dX2_drop_8 : decode cX2_drop 8 = .ok (.bipush 6, 2) := by decide +kernel
theorem dX2_drop_10 : decode cX2_drop 10 = .ok (.ishr, 1) := by decide +kernel
theorem dX2_drop_11 : decode cX2_drop 11 = .ok (.iadd, 1) := by decide +kernel
theorem dX2_drop_12 : decode cX2_drop 12 = .ok (.dup2, 1) := by decide +kernel
theorem dX2_drop_13 : decode cX2_drop 13 = .ok (.laload, 1) := by decide +kernel
theorem dX2_drop_14 : decode cX2_drop 14 = .ok (.lconst 1, 1) := by decide +kernel
theorem dX2_drop_15 : decode cX2_drop 15 = .ok (.iload_n 2, 1) := by decide +kernel
theorem dX2_drop_16 : decode cX2_drop 16 = .ok (.bipush 63, 2) := by decide +kernel
theorem dX2_drop_18 : decode cX2_drop 18 = .ok (.iand, 1) := by decide +kernel
theorem dX2_drop_19 : decode cX2_drop 19 = .ok (.lshl, 1) := by decide +kernel
theorem dX2_drop_20 : decode cX2_drop 20 = .ok (.ldc2_w 15, 3) := by decide +kernel
theorem dX2_drop_23 : decode cX2_drop 23 = .ok (.lxor, 1) := by decide +kernel
theorem dX2_drop_24 : decode cX2_drop 24 = .ok (.land, 1) := by decide +kernel
theorem dX2_drop_25 : decode cX2_drop 25 = .ok (.lastore, 1) := by decide +kernel
theorem dX2_drop_26 : decode cX2_drop 26 = .ok (.return_, 1) := by decide +kernel
theorem dX2_dropAll_0 : decode cX2_dropAll 0 = .ok (.aload_n 0, 1) := by decide +kernel
theorem dX2_dropAll_1 : decode cX2_dropAll 1 = .ok (.getfield 11, 3) := by decide +kernel
theorem dX2_dropAll_4 : decode cX2_dropAll 4 = .ok (.lconst 0, 1) := by decide +kernel
theorem dX2_dropAll_5 : decode cX2_dropAll 5 = .ok (.invokestatic 17, 3) := by decide +kernel
theorem dX2_dropAll_8 : decode cX2_dropAll 8 = .ok (.return_, 1) := by decide +kernel
theorem dX2_next_0 : decode cX2_next 0 = .ok (.ldc2_w 15, 3) := by decide +kernel
theorem dX2_next_3 : decode cX2_next 3 = .ok (.iload_n 2, 1) := by decide +kernel
theorem dX2_next_4 : decode cX2_next 4 = .ok (.bipush 63, 2) := by decide +kernel
theorem dX2_next_6 : decode cX2_next 6 = .ok (.iand, 1) := by decide +kernel
theorem dX2_next_7 : decode cX2_next 7 = .ok (.lshl, 1) := by decide +kernel
theorem dX2_next_8 : decode cX2_next 8 = .ok (.lstore_n 3, 1) := by decide +kernel
theorem dX2_next_9 : decode cX2_next 9 = .ok (.iload_n 2, 1) := by decide +kernel
theorem dX2_next_10 : decode cX2_next 10 = .ok (.bipush 6, 2) := by decide +kernel
theorem dX2_next_12 : decode cX2_next 12 = .ok (.ishr, 1) := by decide +kernel
theorem dX2_next_13 : decode cX2_next 13 = .ok (.istore 5, 2) := by decide +kernel
theorem dX2_next_15 : decode cX2_next 15 = .ok (.iload 5, 2) := by decide +kernel
theorem dX2_next_17 : decode cX2_next 17 = .ok (.iconst 5, 1) := by decide +kernel
theorem dX2_next_18 : decode cX2_next 18 = .ok (.if_icmp .ge 57, 3) := by decide +kernel
theorem dX2_next_21 : decode cX2_next 21 = .ok (.aload_n 0, 1) := by decide +kernel
theorem dX2_next_22 : decode cX2_next 22 = .ok (.getfield 11, 3) := by decide +kernel
theorem dX2_next_25 : decode cX2_next 25 = .ok (.iload_n 1, 1) := by decide +kernel
theorem dX2_next_26 : decode cX2_next 26 = .ok (.iconst 5, 1) := by decide +kernel
theorem dX2_next_27 : decode cX2_next 27 = .ok (.imul, 1) := by decide +kernel
theorem dX2_next_28 : decode cX2_next 28 = .ok (.iload 5, 2) := by decide +kernel
theorem dX2_next_30 : decode cX2_next 30 = .ok (.iadd, 1) := by decide +kernel
theorem dX2_next_31 : decode cX2_next 31 = .ok (.laload, 1) := by decide +kernel
theorem dX2_next_32 : decode cX2_next 32 = .ok (.lload_n 3, 1) := by decide +kernel
theorem dX2_next_33 : decode cX2_next 33 = .ok (.land, 1) := by decide +kernel
theorem dX2_next_34 : decode cX2_next 34 = .ok (.lstore 6, 2) := by decide +kernel
theorem dX2_next_36 : decode cX2_next 36 = .ok (.lload 6, 2) := by decide +kernel
theorem dX2_next_38 : decode cX2_next 38 = .ok (.lconst 0, 1) := by decide +kernel
theorem dX2_next_39 : decode cX2_next 39 = .ok (.lcmp, 1) := by decide +kernel
theorem dX2_next_40 : decode cX2_next 40 = .ok (.ifCond .eq 25, 3) := by decide +kernel
theorem dX2_next_43 : decode cX2_next 43 = .ok (.lload 6, 2) := by decide +kernel
theorem dX2_next_45 : decode cX2_next 45 = .ok (.lload 6, 2) := by decide +kernel
theorem dX2_next_47 : decode cX2_next 47 = .ok (.lneg, 1) := by decide +kernel
theorem dX2_next_48 : decode cX2_next 48 = .ok (.land, 1) := by decide +kernel
theorem dX2_next_49 : decode cX2_next 49 = .ok (.lconst 1, 1) := by decide +kernel
theorem dX2_next_50 : decode cX2_next 50 = .ok (.lsub, 1) := by decide +kernel
theorem dX2_next_51 : decode cX2_next 51 = .ok (.lstore 8, 2) := by decide +kernel
theorem dX2_next_53 : decode cX2_next 53 = .ok (.iload 5, 2) := by decide +kernel
theorem dX2_next_55 : decode cX2_next 55 = .ok (.bipush 64, 2) := by decide +kernel
theorem dX2_next_57 : decode cX2_next 57 = .ok (.imul, 1) := by decide +kernel
theorem dX2_next_58 : decode cX2_next 58 = .ok (.lload 8, 2) := by decide +kernel
theorem dX2_next_60 : decode cX2_next 60 = .ok (.invokestatic 23, 3) := by decide +kernel
theorem dX2_next_63 : decode cX2_next 63 = .ok (.iadd, 1) := by decide +kernel
theorem dX2_next_64 : decode cX2_next 64 = .ok (.ireturn, 1) := by decide +kernel
theorem dX2_next_65 : decode cX2_next 65 = .ok (.ldc2_w 15, 3) := by decide +kernel
theorem dX2_next_68 : decode cX2_next 68 = .ok (.lstore_n 3, 1) := by decide +kernel
theorem dX2_next_69 : decode cX2_next 69 = .ok (.iinc 5 1, 3) := by decide +kernel
theorem dX2_next_72 : decode cX2_next 72 = .ok (.goto (-57), 3) := by decide +kernel
theorem dX2_next_75 : decode cX2_next 75 = .ok (.iconst (-1), 1) := by decide +kernel
theorem dX2_next_76 : decode cX2_next 76 = .ok (.ireturn, 1) := by decide +kernel
theorem dX2_size_0 : decode cX2_size 0 = .ok (.iconst 0, 1) := by decide +kernel
theorem dX2_size_1 : decode cX2_size 1 = .ok (.istore_n 2, 1) := by decide +kernel
theorem dX2_size_2 : decode cX2_size 2 = .ok (.iconst 0, 1) := by decide +kernel
theorem dX2_size_3 : decode cX2_size 3 = .ok (.istore_n 3, 1) := by decide +kernel
theorem dX2_size_4 : decode cX2_size 4 = .ok (.iload_n 3, 1) := by decide +kernel
theorem dX2_size_5 : decode cX2_size 5 = .ok (.iconst 5, 1) := by decide +kernel
theorem dX2_size_6 : decode cX2_size 6 = .ok (.if_icmp .ge 25, 3) := by decide +kernel
theorem dX2_size_9 : decode cX2_size 9 = .ok (.iload_n 2, 1) := by decide +kernel
theorem dX2_size_10 : decode cX2_size 10 = .ok (.aload_n 0, 1) := by decide +kernel
theorem dX2_size_11 : decode cX2_size 11 = .ok (.getfield 11, 3) := by decide +kernel
theorem dX2_size_14 : decode cX2_size 14 = .ok (.iload_n 1, 1) := by decide +kernel
theorem dX2_size_15 : decode cX2_size 15 = .ok (.iconst 5, 1) := by decide +kernel
theorem dX2_size_16 : decode cX2_size 16 = .ok (.imul, 1) := by decide +kernel
theorem dX2_size_17 : decode cX2_size 17 = .ok (.iload_n 3, 1) := by decide +kernel
theorem dX2_size_18 : decode cX2_size 18 = .ok (.iadd, 1) := by decide +kernel
theorem dX2_size_19 : decode cX2_size 19 = .ok (.laload, 1) := by decide +kernel
theorem dX2_size_20 : decode cX2_size 20 = .ok (.invokestatic 23, 3) := by decide +kernel
theorem dX2_size_23 : decode cX2_size 23 = .ok (.iadd, 1) := by decide +kernel
theorem dX2_size_24 : decode cX2_size 24 = .ok (.istore_n 2, 1) := by decide +kernel
theorem dX2_size_25 : decode cX2_size 25 = .ok (.iinc 3 1, 3) := by decide +kernel
theorem dX2_size_28 : decode cX2_size 28 = .ok (.goto (-24), 3) := by decide +kernel
theorem dX2_size_31 : decode cX2_size 31 = .ok (.iload_n 2, 1) := by decide +kernel
theorem dX2_size_32 : decode cX2_size 32 = .ok (.ireturn, 1) := by decide +kernel
theorem dX2_putAllOf_0 : decode cX2_putAllOf 0 = .ok (.iconst 0, 1) := by decide +kernel
theorem dX2_putAllOf_1 : decode cX2_putAllOf 1 = .ok (.istore 4, 2) := by decide +kernel
theorem dX2_putAllOf_3 : decode cX2_putAllOf 3 = .ok (.iload 4, 2) := by decide +kernel
theorem dX2_putAllOf_5 : decode cX2_putAllOf 5 = .ok (.iconst 5, 1) := by decide +kernel
theorem dX2_putAllOf_6 : decode cX2_putAllOf 6 = .ok (.if_icmp .ge 34, 3) := by decide +kernel
theorem dX2_putAllOf_9 : decode cX2_putAllOf 9 = .ok (.aload_n 0, 1) := by decide +kernel
theorem dX2_putAllOf_10 : decode cX2_putAllOf 10 = .ok (.getfield 11, 3) := by decide +kernel
theorem dX2_putAllOf_13 : decode cX2_putAllOf 13 = .ok (.iload_n 1, 1) := by decide +kernel
theorem dX2_putAllOf_14 : decode cX2_putAllOf 14 = .ok (.iconst 5, 1) := by decide +kernel
theorem dX2_putAllOf_15 : decode cX2_putAllOf 15 = .ok (.imul, 1) := by decide +kernel
theorem dX2_putAllOf_16 : decode cX2_putAllOf 16 = .ok (.iload 4, 2) := by decide +kernel
theorem dX2_putAllOf_18 : decode cX2_putAllOf 18 = .ok (.iadd, 1) := by decide +kernel
theorem dX2_putAllOf_19 : decode cX2_putAllOf 19 = .ok (.dup2, 1) := by decide +kernel
theorem dX2_putAllOf_20 : decode cX2_putAllOf 20 = .ok (.laload, 1) := by decide +kernel
theorem dX2_putAllOf_21 : decode cX2_putAllOf 21 = .ok (.aload_n 2, 1) := by decide +kernel
theorem dX2_putAllOf_22 : decode cX2_putAllOf 22 = .ok (.getfield 11, 3) := by decide +kernel
theorem dX2_putAllOf_25 : decode cX2_putAllOf 25 = .ok (.iload_n 3, 1) := by decide +kernel
theorem dX2_putAllOf_26 : decode cX2_putAllOf 26 = .ok (.iconst 5, 1) := by decide +kernel
theorem dX2_putAllOf_27 : decode cX2_putAllOf 27 = .ok (.imul, 1) := by decide +kernel
theorem dX2_putAllOf_28 : decode cX2_putAllOf 28 = .ok (.iload 4, 2) := by decide +kernel
theorem dX2_putAllOf_30 : decode cX2_putAllOf 30 = .ok (.iadd, 1) := by decide +kernel
theorem dX2_putAllOf_31 : decode cX2_putAllOf 31 = .ok (.laload, 1) := by decide +kernel
theorem dX2_putAllOf_32 : decode cX2_putAllOf 32 = .ok (.lor, 1) := by decide +kernel
theorem dX2_putAllOf_33 : decode cX2_putAllOf 33 = .ok (.lastore, 1) := by decide +kernel
theorem dX2_putAllOf_34 : decode cX2_putAllOf 34 = .ok (.iinc 4 1, 3) := by decide +kernel
theorem dX2_putAllOf_37 : decode cX2_putAllOf 37 = .ok (.goto (-34), 3) := by decide +kernel
theorem dX2_putAllOf_40 : decode cX2_putAllOf 40 = .ok (.return_, 1) := by decide +kernel
theorem dX3_init_0 : decode cX3_init 0 = .ok (.aload_n 0, 1) := by decide +kernel
theorem dX3_init_1 : decode cX3_init 1 = .ok (.invokespecial 3, 3) := by decide +kernel
theorem dX3_init_4 : decode cX3_init 4 = .ok (.aload_n 0, 1) := by decide +kernel
theorem dX3_init_5 : decode cX3_init 5 = .ok (.aload_n 1, 1) := by decide +kernel
theorem dX3_init_6 : decode cX3_init 6 = .ok (.putfield 9, 3) := by decide +kernel
theorem dX3_init_9 : decode cX3_init 9 = .ok (.aload_n 0, 1) := by decide +kernel
theorem dX3_init_10 : decode cX3_init 10 = .ok (.sipush 300, 3) := by decide +kernel
theorem dX3_init_13 : decode cX3_init 13 = .ok (.newarray .int, 2) := by decide +kernel
theorem dX3_init_15 : decode cX3_init 15 = .ok (.putfield 15, 3) := by decide +kernel
theorem dX3_init_18 : decode cX3_init 18 = .ok (.aload_n 0, 1) := by decide +kernel
theorem dX3_init_19 : decode cX3_init 19 = .ok (.sipush 300, 3) := by decide +kernel
theorem dX3_init_22 : decode cX3_init 22 = .ok (.newarray .int, 2) := by decide +kernel
theorem dX3_init_24 : decode cX3_init 24 = .ok (.putfield 19, 3) := by decide +kernel
theorem dX3_init_27 : decode cX3_init 27 = .ok (.aload_n 0, 1) := by decide +kernel
theorem dX3_init_28 : decode cX3_init 28 = .ok (.sipush 300, 3) := by decide +kernel
theorem dX3_init_31 : decode cX3_init 31 = .ok (.newarray .int, 2) := by decide +kernel
theorem dX3_init_33 : decode cX3_init 33 = .ok (.putfield 22, 3) := by decide +kernel
theorem dX3_init_36 : decode cX3_init 36 = .ok (.aload_n 0, 1) := by decide +kernel
theorem dX3_init_37 : decode cX3_init 37 = .ok (.sipush 300, 3) := by decide +kernel
theorem dX3_init_40 : decode cX3_init 40 = .ok (.newarray .int, 2) := by decide +kernel
theorem dX3_init_42 : decode cX3_init 42 = .ok (.putfield 25, 3) := by decide +kernel
theorem dX3_init_45 : decode cX3_init 45 = .ok (.aload_n 0, 1) := by decide +kernel
theorem dX3_init_46 : decode cX3_init 46 = .ok (.sipush 300, 3) := by decide +kernel
theorem dX3_init_49 : decode cX3_init 49 = .ok (.newarray .int, 2) := by decide +kernel
theorem dX3_init_51 : decode cX3_init 51 = .ok (.putfield 28, 3) := by decide +kernel
theorem dX3_init_54 : decode cX3_init 54 = .ok (.aload_n 0, 1) := by decide +kernel
theorem dX3_init_55 : decode cX3_init 55 = .ok (.sipush 300, 3) := by decide +kernel
theorem dX3_init_58 : decode cX3_init 58 = .ok (.newarray .boolean, 2) := by decide +kernel
theorem dX3_init_60 : decode cX3_init 60 = .ok (.putfield 31, 3) := by decide +kernel
theorem dX3_init_63 : decode cX3_init 63 = .ok (.aload_n 0, 1) := by decide +kernel
theorem dX3_init_64 : decode cX3_init 64 = .ok (.sipush 300, 3) := by decide +kernel
theorem dX3_init_67 : decode cX3_init 67 = .ok (.newarray .boolean, 2) := by decide +kernel
theorem dX3_init_69 : decode cX3_init 69 = .ok (.putfield 35, 3) := by decide +kernel
theorem dX3_init_72 : decode cX3_init 72 = .ok (.aload_n 0, 1) := by decide +kernel
theorem dX3_init_73 : decode cX3_init 73 = .ok (.iconst (-1), 1) := by decide +kernel
theorem dX3_init_74 : decode cX3_init 74 = .ok (.putfield 38, 3) := by decide +kernel
theorem dX3_init_77 : decode cX3_init 77 = .ok (.return_, 1) := by decide +kernel
theorem dX3_refresh_0 : decode cX3_refresh 0 = .ok (.aload_n 0, 1) := by decide +kernel
theorem dX3_refresh_1 : decode cX3_refresh 1 = .ok (.getfield 38, 3) := by decide +kernel
theorem dX3_refresh_4 : decode cX3_refresh 4 = .ok (.aload_n 0, 1) := by decide +kernel
theorem dX3_refresh_5 : decode cX3_refresh 5 = .ok (.getfield 9, 3) := by decide +kernel
theorem dX3_refresh_8 : decode cX3_refresh 8 = .ok (.getfield 42, 3) := by decide +kernel
theorem dX3_refresh_11 : decode cX3_refresh 11 = .ok (.if_icmp .ne 4, 3) := by decide +kernel
theorem dX3_refresh_14 : decode cX3_refresh 14 = .ok (.return_, 1) := by decide +kernel
theorem dX3_refresh_15 : decode cX3_refresh 15 = .ok (.aload_n 0, 1) := by decide +kernel
theorem dX3_refresh_16 : decode cX3_refresh 16 = .ok (.aload_n 0, 1) := by decide +kernel
theorem dX3_refresh_17 : decode cX3_refresh 17 = .ok (.getfield 9, 3) := by decide +kernel
theorem dX3_refresh_20 : decode cX3_refresh 20 = .ok (.getfield 42, 3) := by decide +kernel
theorem dX3_refresh_23 : decode cX3_refresh 23 = .ok (.putfield 38, 3) := by decide +kernel
theorem dX3_refresh_26 : decode cX3_refresh 26 = .ok (.aload_n 0, 1) := by decide +kernel
theorem dX3_refresh_27 : decode cX3_refresh 27 = .ok (.iconst 0, 1) := by decide +kernel
theorem dX3_refresh_28 : decode cX3_refresh 28 = .ok (.putfield 47, 3) := by decide +kernel
theorem dX3_refresh_31 : decode cX3_refresh 31 = .ok (.aload_n 0, 1) := by decide +kernel
theorem dX3_refresh_32 : decode cX3_refresh 32 = .ok (.iconst 0, 1) := by decide +kernel
theorem dX3_refresh_33 : decode cX3_refresh 33 = .ok (.putfield 50, 3) := by decide +kernel
theorem dX3_refresh_36 : decode cX3_refresh 36 = .ok (.aload_n 0, 1) := by decide +kernel
theorem dX3_refresh_37 : decode cX3_refresh 37 = .ok (.iconst 1, 1) := by decide +kernel
theorem dX3_refresh_38 : decode cX3_refresh 38 = .ok (.putfield 53, 3) := by decide +kernel
theorem dX3_refresh_41 : decode cX3_refresh 41 = .ok (.aload_n 0, 1) := by decide +kernel
theorem dX3_refresh_42 : decode cX3_refresh 42 = .ok (.iconst 0, 1) := by decide +kernel
theorem dX3_refresh_43 : decode cX3_refresh 43 = .ok (.putfield 57, 3) := by decide +kernel
theorem dX3_refresh_46 : decode cX3_refresh 46 = .ok (.iconst 0, 1) := by decide +kernel
theorem dX3_refresh_47 : decode cX3_refresh 47 = .ok (.istore_n 1, 1) := by decide +kernel
theorem dX3_refresh_48 : decode cX3_refresh 48 = .ok (.iload_n 1, 1) := by decide +kernel
theorem dX3_refresh_49 : decode cX3_refresh 49 = .ok (.sipush 300, 3) := by decide +kernel
theorem dX3_refresh_52 : decode cX3_refresh 52 = .ok (.if_icmp .ge 30, 3) := by decide +kernel
theorem dX3_refresh_55 : decode cX3_refresh 55 = .ok (.aload_n 0, 1) := by decide +kernel
theorem dX3_refresh_56 : decode cX3_refresh 56 = .ok (.getfield 15, 3) := by decide +kernel
theorem dX3_refresh_59 : decode cX3_refresh 59 = .ok (.iload_n 1, 1) := by decide +kernel
theorem dX3_refresh_60 : decode cX3_refresh 60 = .ok (.iconst (-1), 1) := by decide +kernel
theorem dX3_refresh_61 : decode cX3_refresh 61 = .ok (.iastore, 1) := by decide +kernel
theorem dX3_refresh_62 : decode cX3_refresh 62 = .ok (.aload_n 0, 1) := by decide +kernel
theorem dX3_refresh_63 : decode cX3_refresh 63 = .ok (.getfield 31, 3) := by decide +kernel
theorem dX3_refresh_66 : decode cX3_refresh 66 = .ok (.iload_n 1, 1) := by decide +kernel
theorem dX3_refresh_67 : decode cX3_refresh 67 = .ok (.iconst 0, 1) := by decide +kernel
theorem dX3_refresh_68 : decode cX3_refresh 68 = .ok (.bastore, 1) := by decide +kernel
theorem dX3_refresh_69 : decode cX3_refresh 69 = .ok (.aload_n 0, 1) := by decide +kernel
theorem dX3_refresh_70 : decode cX3_refresh 70 = .ok (.getfield 35, 3) := by decide +kernel
theorem dX3_refresh_73 : decode cX3_refresh 73 = .ok (.iload_n 1, 1) := by decide +kernel
theorem dX3_refresh_74 : decode cX3_refresh 74 = .ok (.iconst 0, 1) := by decide +kernel
theorem dX3_refresh_75 : decode cX3_refresh 75 = .ok (.bastore, 1) := by decide +kernel
theorem dX3_refresh_76 : decode cX3_refresh 76 = .ok (.iinc 1 1, 3) := by decide +kernel
theorem dX3_refresh_79 : decode cX3_refresh 79 = .ok (.goto (-31), 3) := by decide +kernel
theorem dX3_refresh_82 : decode cX3_refresh 82 = .ok (.iconst 0, 1) := by decide +kernel
theorem dX3_refresh_83 : decode cX3_refresh 83 = .ok (.istore_n 1, 1) := by decide +kernel
theorem dX3_refresh_84 : decode cX3_refresh 84 = .ok (.iload_n 1, 1) := by decide +kernel
theorem dX3_refresh_85 : decode cX3_refresh 85 = .ok (.aload_n 0, 1) := by decide +kernel
theorem dX3_refresh_86 : decode cX3_refresh 86 = .ok (.getfield 9, 3) := by decide +kernel
theorem dX3_refresh_89 : decode cX3_refresh 89 = .ok (.getfield 60, 3) := by decide +kernel
theorem dX3_refresh_92 : decode cX3_refresh 92 = .ok (.if_icmp .ge 45, 3) := by decide +kernel
theorem dX3_refresh_95 : decode cX3_refresh 95 = .ok (.aload_n 0, 1) := by decide +kernel
theorem dX3_refresh_96 : decode cX3_refresh 96 = .ok (.getfield 9, 3) := by decide +kernel
theorem dX3_refresh_99 : decode cX3_refresh 99 = .ok (.iload_n 1, 1) := by decide +kernel
theorem dX3_refresh_100 : decode cX3_refresh 100 = .ok (.invokevirtual 63, 3) := by decide +kernel
theorem dX3_refresh_103 : decode cX3_refresh 103 = .ok (.ifCond .eq 28, 3) := by decide +kernel
theorem dX3_refresh_106 : decode cX3_refresh 106 = .ok (.aload_n 0, 1) := by decide +kernel
theorem dX3_refresh_107 : decode cX3_refresh 107 = .ok (.getfield 15, 3) := by decide +kernel
theorem dX3_refresh_110 : decode cX3_refresh 110 = .ok (.iload_n 1, 1) := by decide +kernel
theorem dX3_refresh_111 : decode cX3_refresh 111 = .ok (.iaload, 1) := by decide +kernel
theorem dX3_refresh_112 : decode cX3_refresh 112 = .ok (.iconst (-1), 1) := by decide +kernel
theorem dX3_refresh_113 : decode cX3_refresh 113 = .ok (.if_icmp .ne 18, 3) := by decide +kernel
theorem dX3_refresh_116 : decode cX3_refresh 116 = .ok (.aload_n 0, 1) := by decide +kernel
theorem dX3_refresh_117 : decode cX3_refresh 117 = .ok (.dup, 1) := by decide +kernel
theorem dX3_refresh_118 : decode cX3_refresh 118 = .ok (.getfield 47, 3) := by decide +kernel
theorem dX3_refresh_121 : decode cX3_refresh 121 = .ok (.iconst 1, 1) := by decide +kernel
theorem dX3_refresh_122 : decode cX3_refresh 122 = .ok (.iadd, 1) := by decide +kernel
theorem dX3_refresh_123 : decode cX3_refresh 123 = .ok (.putfield 47, 3) := by decide +kernel
theorem dX3_refresh_126 : decode cX3_refresh 126 = .ok (.aload_n 0, 1) := by decide +kernel
theorem dX3_refresh_127 : decode cX3_refresh 127 = .ok (.iload_n 1, 1) := by decide +kernel
theorem dX3_refresh_128 : decode cX3_refresh 128 = .ok (.invokevirtual 67, 3) := by decide +kernel
theorem dX3_refresh_131 : decode cX3_refresh 131 = .ok (.iinc 1 1, 3) := by decide +kernel
theorem dX3_refresh_134 : decode cX3_refresh 134 = .ok (.goto (-50), 3) := by decide +kernel
theorem dX3_refresh_137 : decode cX3_refresh 137 = .ok (.return_, 1) := by decide +kernel
theorem dX3_walkPiece_0 : decode cX3_walkPiece 0 = .ok (.aload_n 0, 1) := by decide +kernel
theorem dX3_walkPiece_1 : decode cX3_walkPiece 1 = .ok (.iconst 0, 1) := by decide +kernel
theorem dX3_walkPiece_2 : decode cX3_walkPiece 2 = .ok (.putfield 71, 3) := by decide +kernel
theorem dX3_walkPiece_5 : decode cX3_walkPiece 5 = .ok (.aload_n 0, 1) := by decide +kernel
theorem dX3_walkPiece_6 : decode cX3_walkPiece 6 = .ok (.getfield 28, 3) := by decide +kernel
theorem dX3_walkPiece_9 : decode cX3_walkPiece 9 = .ok (.iload_n 1, 1) := by decide +kernel
theorem dX3_walkPiece_10 : decode cX3_walkPiece 10 = .ok (.iload_n 1, 1) := by decide +kernel
theorem dX3_walkPiece_11 : decode cX3_walkPiece 11 = .ok (.iastore, 1) := by decide +kernel
theorem dX3_walkPiece_12 : decode cX3_walkPiece 12 = .ok (.aload_n 0, 1) := by decide +kernel
theorem dX3_walkPiece_13 : decode cX3_walkPiece 13 = .ok (.getfield 31, 3) := by decide +kernel
theorem dX3_walkPiece_16 : decode cX3_walkPiece 16 = .ok (.iload_n 1, 1) := by decide +kernel
theorem dX3_walkPiece_17 : decode cX3_walkPiece 17 = .ok (.iconst 1, 1) := by decide +kernel
theorem dX3_walkPiece_18 : decode cX3_walkPiece 18 = .ok (.bastore, 1) := by decide +kernel
theorem dX3_walkPiece_19 : decode cX3_walkPiece 19 = .ok (.aload_n 0, 1) := by decide +kernel
theorem dX3_walkPiece_20 : decode cX3_walkPiece 20 = .ok (.iload_n 1, 1) := by decide +kernel
theorem dX3_walkPiece_21 : decode cX3_walkPiece 21 = .ok (.iconst (-1), 1) := by decide +kernel
theorem dX3_walkPiece_22 : decode cX3_walkPiece 22 = .ok (.invokevirtual 74, 3) := by decide +kernel
theorem dX3_walkPiece_25 : decode cX3_walkPiece 25 = .ok (.iload_n 1, 1) := by decide +kernel
theorem dX3_walkPiece_26 : decode cX3_walkPiece 26 = .ok (.istore_n 2, 1) := by decide +kernel
theorem dX3_walkPiece_27 : decode cX3_walkPiece 27 = .ok (.iconst 0, 1) := by decide +kernel
theorem dX3_walkPiece_28 : decode cX3_walkPiece 28 = .ok (.istore_n 3, 1) := by decide +kernel
theorem dX3_walkPiece_29 : decode cX3_walkPiece 29 = .ok (.iload_n 3, 1) := by decide +kernel
theorem dX3_walkPiece_30 : decode cX3_walkPiece 30 = .ok (.ldc 78, 2) := by decide +kernel
theorem dX3_walkPiece_32 : decode cX3_walkPiece 32 = .ok (.if_icmp .ge 72, 3) := by decide +kernel
theorem dX3_walkPiece_35 : decode cX3_walkPiece 35 = .ok (.iload_n 2, 1) := by decide +kernel
theorem dX3_walkPiece_36 : decode cX3_walkPiece 36 = .ok (.iconst (-1), 1) := by decide +kernel
theorem dX3_walkPiece_37 : decode cX3_walkPiece 37 = .ok (.if_icmp .eq 67, 3) := by decide +kernel
theorem dX3_walkPiece_40 : decode cX3_walkPiece 40 = .ok (.aload_n 0, 1) := by decide +kernel
theorem dX3_walkPiece_41 : decode cX3_walkPiece 41 = .ok (.getfield 9, 3) := by decide +kernel
theorem dX3_walkPiece_44 : decode cX3_walkPiece 44 = .ok (.getfield 79, 3) := by decide +kernel
theorem dX3_walkPiece_47 : decode cX3_walkPiece 47 = .ok (.iload_n 2, 1) := by decide +kernel
theorem dX3_walkPiece_48 : decode cX3_walkPiece 48 = .ok (.aload_n 0, 1) := by decide +kernel
theorem dX3_walkPiece_49 : decode cX3_walkPiece 49 = .ok (.getfield 25, 3) := by decide +kernel
theorem dX3_walkPiece_52 : decode cX3_walkPiece 52 = .ok (.iload_n 2, 1) := by decide +kernel
theorem dX3_walkPiece_53 : decode cX3_walkPiece 53 = .ok (.iaload, 1) := by decide +kernel
theorem dX3_walkPiece_54 : decode cX3_walkPiece 54 = .ok (.invokevirtual 83, 3) := by decide +kernel
theorem dX3_walkPiece_57 : decode cX3_walkPiece 57 = .ok (.istore 4, 2) := by decide +kernel
theorem dX3_walkPiece_59 : decode cX3_walkPiece 59 = .ok (.iload 4, 2) := by decide +kernel
theorem dX3_walkPiece_61 : decode cX3_walkPiece 61 = .ok (.iconst (-1), 1) := by decide +kernel
theorem dX3_walkPiece_62 : decode cX3_walkPiece 62 = .ok (.if_icmp .ne 18, 3) := by decide +kernel
theorem dX3_walkPiece_65 : decode cX3_walkPiece 65 = .ok (.aload_n 0, 1) := by decide +kernel
theorem dX3_walkPiece_66 : decode cX3_walkPiece 66 = .ok (.iload_n 2, 1) := by decide +kernel
theorem dX3_walkPiece_67 : decode cX3_walkPiece 67 = .ok (.invokevirtual 89, 3) := by decide +kernel
theorem dX3_walkPiece_70 : decode cX3_walkPiece 70 = .ok (.aload_n 0, 1) := by decide +kernel
theorem dX3_walkPiece_71 : decode cX3_walkPiece 71 = .ok (.getfield 22, 3) := by decide +kernel
theorem dX3_walkPiece_74 : decode cX3_walkPiece 74 = .ok (.iload_n 2, 1) := by decide +kernel
theorem dX3_walkPiece_75 : decode cX3_walkPiece 75 = .ok (.iaload, 1) := by decide +kernel
theorem dX3_walkPiece_76 : decode cX3_walkPiece 76 = .ok (.istore_n 2, 1) := by decide +kernel
theorem dX3_walkPiece_77 : decode cX3_walkPiece 77 = .ok (.goto 21, 3) := by decide +kernel
theorem dX3_walkPiece_80 : decode cX3_walkPiece 80 = .ok (.aload_n 0, 1) := by decide +kernel
theorem dX3_walkPiece_81 : decode cX3_walkPiece 81 = .ok (.getfield 25, 3) := by decide +kernel
theorem dX3_walkPiece_84 : decode cX3_walkPiece 84 = .ok (.iload_n 2, 1) := by decide +kernel
theorem dX3_walkPiece_85 : decode cX3_walkPiece 85 = .ok (.iload 4, 2) := by decide +kernel
theorem dX3_walkPiece_87 : decode cX3_walkPiece 87 = .ok (.iconst 1, 1) := by decide +kernel
theorem dX3_walkPiece_88 : decode cX3_walkPiece 88 = .ok (.iadd, 1) := by decide +kernel
theorem dX3_walkPiece_89 : decode cX3_walkPiece 89 = .ok (.iastore, 1) := by decide +kernel
theorem dX3_walkPiece_90 : decode cX3_walkPiece 90 = .ok (.aload_n 0, 1) := by decide +kernel
theorem dX3_walkPiece_91 : decode cX3_walkPiece 91 = .ok (.iload_n 2, 1) := by decide +kernel
theorem dX3_walkPiece_92 : decode cX3_walkPiece 92 = .ok (.iload 4, 2) := by decide +kernel
theorem dX3_walkPiece_94 : decode cX3_walkPiece 94 = .ok (.invokevirtual 92, 3) := by decide +kernel
theorem dX3_walkPiece_97 : decode cX3_walkPiece 97 = .ok (.istore_n 2, 1) := by decide +kernel
theorem dX3_walkPiece_98 : decode cX3_walkPiece 98 = .ok (.iinc 3 1, 3) := by decide +kernel
theorem dX3_walkPiece_101 : decode cX3_walkPiece 101 = .ok (.goto (-72), 3) := by decide +kernel
theorem dX3_walkPiece_104 : decode cX3_walkPiece 104 = .ok (.return_, 1) := by decide +kernel
theorem dX3_tryLink_0 : decode cX3_tryLink 0 = .ok (.aload_n 0, 1) := by decide +kernel
theorem dX3_tryLink_1 : decode cX3_tryLink 1 = .ok (.getfield 15, 3) := by decide +kernel
theorem dX3_tryLink_4 : decode cX3_tryLink 4 = .ok (.iload_n 2, 1) := by decide +kernel
theorem dX3_tryLink_5 : decode cX3_tryLink 5 = .ok (.iaload, 1) := by decide +kernel
theorem dX3_tryLink_6 : decode cX3_tryLink 6 = .ok (.iconst (-1), 1) := by decide +kernel
theorem dX3_tryLink_7 : decode cX3_tryLink 7 = .ok (.if_icmp .ne 43, 3) := by decide +kernel
theorem dX3_tryLink_10 : decode cX3_tryLink 10 = .ok (.aload_n 0, 1) := by decide +kernel
theorem dX3_tryLink_11 : decode cX3_tryLink 11 = .ok (.getfield 28, 3) := by decide +kernel
theorem dX3_tryLink_14 : decode cX3_tryLink 14 = .ok (.iload_n 2, 1) := by decide +kernel
theorem dX3_tryLink_15 : decode cX3_tryLink 15 = .ok (.aload_n 0, 1) := by decide +kernel
theorem dX3_tryLink_16 : decode cX3_tryLink 16 = .ok (.getfield 28, 3) := by decide +kernel
theorem dX3_tryLink_19 : decode cX3_tryLink 19 = .ok (.iload_n 1, 1) := by decide +kernel
theorem dX3_tryLink_20 : decode cX3_tryLink 20 = .ok (.iaload, 1) := by decide +kernel
theorem dX3_tryLink_21 : decode cX3_tryLink 21 = .ok (.iastore, 1) := by decide +kernel
theorem dX3_tryLink_22 : decode cX3_tryLink 22 = .ok (.aload_n 0, 1) := by decide +kernel
theorem dX3_tryLink_23 : decode cX3_tryLink 23 = .ok (.getfield 31, 3) := by decide +kernel
theorem dX3_tryLink_26 : decode cX3_tryLink 26 = .ok (.iload_n 2, 1) := by decide +kernel
theorem dX3_tryLink_27 : decode cX3_tryLink 27 = .ok (.aload_n 0, 1) := by decide +kernel
theorem dX3_tryLink_28 : decode cX3_tryLink 28 = .ok (.getfield 31, 3) := by decide +kernel
theorem dX3_tryLink_31 : decode cX3_tryLink 31 = .ok (.iload_n 1, 1) := by decide +kernel
theorem dX3_tryLink_32 : decode cX3_tryLink 32 = .ok (.baload, 1) := by decide +kernel
theorem dX3_tryLink_33 : decode cX3_tryLink 33 = .ok (.ifCond .ne 7, 3) := by decide +kernel
theorem dX3_tryLink_36 : decode cX3_tryLink 36 = .ok (.iconst 1, 1) := by decide +kernel
theorem dX3_tryLink_37 : decode cX3_tryLink 37 = .ok (.goto 4, 3) := by decide +kernel
theorem dX3_tryLink_40 : decode cX3_tryLink 40 = .ok (.iconst 0, 1) := by decide +kernel
theorem dX3_tryLink_41 : decode cX3_tryLink 41 = .ok (.bastore, 1) := by decide +kernel
theorem dX3_tryLink_42 : decode cX3_tryLink 42 = .ok (.aload_n 0, 1) := by decide +kernel
theorem dX3_tryLink_43 : decode cX3_tryLink 43 = .ok (.iload_n 2, 1) := by decide +kernel
theorem dX3_tryLink_44 : decode cX3_tryLink 44 = .ok (.iload_n 1, 1) := by decide +kernel
theorem dX3_tryLink_45 : decode cX3_tryLink 45 = .ok (.invokevirtual 74, 3) := by decide +kernel
theorem dX3_tryLink_48 : decode cX3_tryLink 48 = .ok (.iload_n 2, 1) := by decide +kernel
theorem dX3_tryLink_49 : decode cX3_tryLink 49 = .ok (.ireturn, 1) := by decide +kernel
theorem dX3_tryLink_50 : decode cX3_tryLink 50 = .ok (.aload_n 0, 1) := by decide +kernel
theorem dX3_tryLink_51 : decode cX3_tryLink 51 = .ok (.getfield 31, 3) := by decide +kernel
theorem dX3_tryLink_54 : decode cX3_tryLink 54 = .ok (.iload_n 2, 1) := by decide +kernel
theorem dX3_tryLink_55 : decode cX3_tryLink 55 = .ok (.baload, 1) := by decide +kernel
theorem dX3_tryLink_56 : decode cX3_tryLink 56 = .ok (.aload_n 0, 1) := by decide +kernel
theorem dX3_tryLink_57 : decode cX3_tryLink 57 = .ok (.getfield 31, 3) := by decide +kernel
theorem dX3_tryLink_60 : decode cX3_tryLink 60 = .ok (.iload_n 1, 1) := by decide +kernel
theorem dX3_tryLink_61 : decode cX3_tryLink 61 = .ok (.baload, 1) := by decide +kernel
theorem dX3_tryLink_62 : decode cX3_tryLink 62 = .ok (.if_icmp .ne 8, 3) := by decide +kernel
theorem dX3_tryLink_65 : decode cX3_tryLink 65 = .ok (.aload_n 0, 1) := by decide +kernel
theorem dX3_tryLink_66 : decode cX3_tryLink 66 = .ok (.iconst 0, 1) := by decide +kernel
theorem dX3_tryLink_67 : decode cX3_tryLink 67 = .ok (.putfield 53, 3) := by decide +kernel
theorem dX3_tryLink_70 : decode cX3_tryLink 70 = .ok (.aload_n 0, 1) := by decide +kernel
theorem dX3_tryLink_71 : decode cX3_tryLink 71 = .ok (.getfield 19, 3) := by decide +kernel
theorem dX3_tryLink_74 : decode cX3_tryLink 74 = .ok (.iload_n 1, 1) := by decide +kernel
theorem dX3_tryLink_75 : decode cX3_tryLink 75 = .ok (.aload_n 0, 1) := by decide +kernel
theorem dX3_tryLink_76 : decode cX3_tryLink 76 = .ok (.getfield 19, 3) := by decide +kernel
theorem dX3_tryLink_79 : decode cX3_tryLink 79 = .ok (.iload_n 1, 1) := by decide +kernel
theorem dX3_tryLink_80 : decode cX3_tryLink 80 = .ok (.iaload, 1) := by decide +kernel
theorem dX3_tryLink_81 : decode cX3_tryLink 81 = .ok (.aload_n 0, 1) := by decide +kernel
theorem dX3_tryLink_82 : decode cX3_tryLink 82 = .ok (.getfield 15, 3) := by decide +kernel
theorem dX3_tryLink_85 : decode cX3_tryLink 85 = .ok (.iload_n 2, 1) := by decide +kernel
theorem dX3_tryLink_86 : decode cX3_tryLink 86 = .ok (.iaload, 1) := by decide +kernel
theorem dX3_tryLink_87 : decode cX3_tryLink 87 = .ok (.invokestatic 95, 3) := by decide +kernel
theorem dX3_tryLink_90 : decode cX3_tryLink 90 = .ok (.iastore, 1) := by decide +kernel
theorem dX3_tryLink_91 : decode cX3_tryLink 91 = .ok (.iload_n 1, 1) := by decide +kernel
theorem dX3_tryLink_92 : decode cX3_tryLink 92 = .ok (.ireturn, 1) := by decide +kernel
theorem dX3_enter_0 : decode cX3_enter 0 = .ok (.aload_n 0, 1) := by decide +kernel
theorem dX3_enter_1 : decode cX3_enter 1 = .ok (.getfield 15, 3) := by decide +kernel
theorem dX3_enter_4 : decode cX3_enter 4 = .ok (.iload_n 1, 1) := by decide +kernel
theorem dX3_enter_5 : decode cX3_enter 5 = .ok (.aload_n 0, 1) := by decide +kernel
theorem dX3_enter_6 : decode cX3_enter 6 = .ok (.getfield 57, 3) := by decide +kernel
theorem dX3_enter_9 : decode cX3_enter 9 = .ok (.iastore, 1) := by decide +kernel
theorem dX3_enter_10 : decode cX3_enter 10 = .ok (.aload_n 0, 1) := by decide +kernel
theorem dX3_enter_11 : decode cX3_enter 11 = .ok (.getfield 19, 3) := by decide +kernel
theorem dX3_enter_14 : decode cX3_enter 14 = .ok (.iload_n 1, 1) := by decide +kernel
theorem dX3_enter_15 : decode cX3_enter 15 = .ok (.aload_n 0, 1) := by decide +kernel
theorem dX3_enter_16 : decode cX3_enter 16 = .ok (.getfield 57, 3) := by decide +kernel
theorem dX3_enter_19 : decode cX3_enter 19 = .ok (.iastore, 1) := by decide +kernel
theorem dX3_enter_20 : decode cX3_enter 20 = .ok (.aload_n 0, 1) := by decide +kernel
theorem dX3_enter_21 : decode cX3_enter 21 = .ok (.dup, 1) := by decide +kernel
theorem dX3_enter_22 : decode cX3_enter 22 = .ok (.getfield 57, 3) := by decide +kernel
theorem dX3_enter_25 : decode cX3_enter 25 = .ok (.iconst 1, 1) := by decide +kernel
theorem dX3_enter_26 : decode cX3_enter 26 = .ok (.iadd, 1) := by decide +kernel
theorem dX3_enter_27 : decode cX3_enter 27 = .ok (.putfield 57, 3) := by decide +kernel
theorem dX3_enter_30 : decode cX3_enter 30 = .ok (.aload_n 0, 1) := by decide +kernel
theorem dX3_enter_31 : decode cX3_enter 31 = .ok (.getfield 22, 3) := by decide +kernel
theorem dX3_enter_34 : decode cX3_enter 34 = .ok (.iload_n 1, 1) := by decide +kernel
theorem dX3_enter_35 : decode cX3_enter 35 = .ok (.iload_n 2, 1) := by decide +kernel
theorem dX3_enter_36 : decode cX3_enter 36 = .ok (.iastore, 1) := by decide +kernel
theorem dX3_enter_37 : decode cX3_enter 37 = .ok (.aload_n 0, 1) := by decide +kernel
theorem dX3_enter_38 : decode cX3_enter 38 = .ok (.getfield 25, 3) := by decide +kernel
theorem dX3_enter_41 : decode cX3_enter 41 = .ok (.iload_n 1, 1) := by decide +kernel
theorem dX3_enter_42 : decode cX3_enter 42 = .ok (.iconst 0, 1) := by decide +kernel
theorem dX3_enter_43 : decode cX3_enter 43 = .ok (.iastore, 1) := by decide +kernel
theorem dX3_enter_44 : decode cX3_enter 44 = .ok (.return_, 1) := by decide +kernel
theorem dX3_leave_0 : decode cX3_leave 0 = .ok (.aload_n 0, 1) := by decide +kernel
theorem dX3_leave_1 : decode cX3_leave 1 = .ok (.getfield 22, 3) := by decide +kernel
theorem dX3_leave_4 : decode cX3_leave 4 = .ok (.iload_n 1, 1) := by decide +kernel
theorem dX3_leave_5 : decode cX3_leave 5 = .ok (.iaload, 1) := by decide +kernel
theorem dX3_leave_6 : decode cX3_leave 6 = .ok (.istore_n 2, 1) := by decide +kernel
theorem dX3_leave_7 : decode cX3_leave 7 = .ok (.iload_n 2, 1) := by decide +kernel
theorem dX3_leave_8 : decode cX3_leave 8 = .ok (.iconst (-1), 1) := by decide +kernel
theorem dX3_leave_9 : decode cX3_leave 9 = .ok (.if_icmp .ne 4, 3) := by decide +kernel
theorem dX3_leave_12 : decode cX3_leave 12 = .ok (.return_, 1) := by decide +kernel
theorem dX3_leave_13 : decode cX3_leave 13 = .ok (.aload_n 0, 1) := by decide +kernel
theorem dX3_leave_14 : decode cX3_leave 14 = .ok (.getfield 19, 3) := by decide +kernel
theorem dX3_leave_17 : decode cX3_leave 17 = .ok (.iload_n 2, 1) := by decide +kernel
theorem dX3_leave_18 : decode cX3_leave 18 = .ok (.aload_n 0, 1) := by decide +kernel
theorem dX3_leave_19 : decode cX3_leave 19 = .ok (.getfield 19, 3) := by decide +kernel
theorem dX3_leave_22 : decode cX3_leave 22 = .ok (.iload_n 2, 1) := by decide +kernel
theorem dX3_leave_23 : decode cX3_leave 23 = .ok (.iaload, 1) := by decide +kernel
theorem dX3_leave_24 : decode cX3_leave 24 = .ok (.aload_n 0, 1) := by decide +kernel
theorem dX3_leave_25 : decode cX3_leave 25 = .ok (.getfield 19, 3) := by decide +kernel
theorem dX3_leave_28 : decode cX3_leave 28 = .ok (.iload_n 1, 1) := by decide +kernel
theorem dX3_leave_29 : decode cX3_leave 29 = .ok (.iaload, 1) := by decide +kernel
theorem dX3_leave_30 : decode cX3_leave 30 = .ok (.invokestatic 95, 3) := by decide +kernel
theorem dX3_leave_33 : decode cX3_leave 33 = .ok (.iastore, 1) := by decide +kernel
theorem dX3_leave_34 : decode cX3_leave 34 = .ok (.aload_n 0, 1) := by decide +kernel
theorem dX3_leave_35 : decode cX3_leave 35 = .ok (.getfield 22, 3) := by decide +kernel
theorem dX3_leave_38 : decode cX3_leave 38 = .ok (.iload_n 2, 1) := by decide +kernel
theorem dX3_leave_39 : decode cX3_leave 39 = .ok (.iaload, 1) := by decide +kernel
theorem dX3_leave_40 : decode cX3_leave 40 = .ok (.iconst (-1), 1) := by decide +kernel
theorem dX3_leave_41 : decode cX3_leave 41 = .ok (.if_icmp .eq 24, 3) := by decide +kernel
theorem dX3_leave_44 : decode cX3_leave 44 = .ok (.aload_n 0, 1) := by decide +kernel
theorem dX3_leave_45 : decode cX3_leave 45 = .ok (.getfield 19, 3) := by decide +kernel
theorem dX3_leave_48 : decode cX3_leave 48 = .ok (.iload_n 1, 1) := by decide +kernel
theorem dX3_leave_49 : decode cX3_leave 49 = .ok (.iaload, 1) := by decide +kernel
theorem dX3_leave_50 : decode cX3_leave 50 = .ok (.aload_n 0, 1) := by decide +kernel
theorem dX3_leave_51 : decode cX3_leave 51 = .ok (.getfield 15, 3) := by decide +kernel
theorem dX3_leave_54 : decode cX3_leave 54 = .ok (.iload_n 2, 1) := by decide +kernel
theorem dX3_leave_55 : decode cX3_leave 55 = .ok (.iaload, 1) := by decide +kernel
theorem dX3_leave_56 : decode cX3_leave 56 = .ok (.if_icmp .lt 8, 3) := by decide +kernel
theorem dX3_leave_59 : decode cX3_leave 59 = .ok (.aload_n 0, 1) := by decide +kernel
theorem dX3_leave_60 : decode cX3_leave 60 = .ok (.iload_n 2, 1) := by decide +kernel
theorem dX3_leave_61 : decode cX3_leave 61 = .ok (.invokevirtual 100, 3) := by decide +kernel
theorem dX3_leave_64 : decode cX3_leave 64 = .ok (.return_, 1) := by decide +kernel
theorem dX3_leave_65 : decode cX3_leave 65 = .ok (.aload_n 0, 1) := by decide +kernel
theorem dX3_leave_66 : decode cX3_leave 66 = .ok (.dup, 1) := by decide +kernel
theorem dX3_leave_67 : decode cX3_leave 67 = .ok (.getfield 71, 3) := by decide +kernel
theorem dX3_leave_70 : decode cX3_leave 70 = .ok (.iconst 1, 1) := by decide +kernel
theorem dX3_leave_71 : decode cX3_leave 71 = .ok (.iadd, 1) := by decide +kernel
theorem dX3_leave_72 : decode cX3_leave 72 = .ok (.putfield 71, 3) := by decide +kernel
theorem dX3_leave_75 : decode cX3_leave 75 = .ok (.aload_n 0, 1) := by decide +kernel
theorem dX3_leave_76 : decode cX3_leave 76 = .ok (.getfield 71, 3) := by decide +kernel
theorem dX3_leave_79 : decode cX3_leave 79 = .ok (.iconst 1, 1) := by decide +kernel
theorem dX3_leave_80 : decode cX3_leave 80 = .ok (.if_icmp .le 8, 3) := by decide +kernel
theorem dX3_leave_83 : decode cX3_leave 83 = .ok (.aload_n 0, 1) := by decide +kernel
theorem dX3_leave_84 : decode cX3_leave 84 = .ok (.iload_n 2, 1) := by decide +kernel
theorem dX3_leave_85 : decode cX3_leave 85 = .ok (.invokevirtual 100, 3) := by decide +kernel
theorem dX3_leave_88 : decode cX3_leave 88 = .ok (.return_, 1) := by decide +kernel
theorem dX3_markCut_0 : decode cX3_markCut 0 = .ok (.aload_n 0, 1) := by decide +kernel
theorem dX3_markCut_1 : decode cX3_markCut 1 = .ok (.getfield 35, 3) := by decide +kernel
theorem dX3_markCut_4 : decode cX3_markCut 4 = .ok (.iload_n 1, 1) := by decide +kernel
theorem dX3_markCut_5 : decode cX3_markCut 5 = .ok (.baload, 1) := by decide +kernel
theorem dX3_markCut_6 : decode cX3_markCut 6 = .ok (.ifCond .ne 20, 3) := by decide +kernel
theorem dX3_markCut_9 : decode cX3_markCut 9 = .ok (.aload_n 0, 1) := by decide +kernel
theorem dX3_markCut_10 : decode cX3_markCut 10 = .ok (.getfield 35, 3) := by decide +kernel
theorem dX3_markCut_13 : decode cX3_markCut 13 = .ok (.iload_n 1, 1) := by decide +kernel
theorem dX3_markCut_14 : decode cX3_markCut 14 = .ok (.iconst 1, 1) := by decide +kernel
theorem dX3_markCut_15 : decode cX3_markCut 15 = .ok (.bastore, 1) := by decide +kernel
theorem dX3_markCut_16 : decode cX3_markCut 16 = .ok (.aload_n 0, 1) := by decide +kernel
theorem dX3_markCut_17 : decode cX3_markCut 17 = .ok (.dup, 1) := by decide +kernel
theorem dX3_markCut_18 : decode cX3_markCut 18 = .ok (.getfield 50, 3) := by decide +kernel
theorem dX3_markCut_21 : decode cX3_markCut 21 = .ok (.iconst 1, 1) := by decide +kernel
theorem dX3_markCut_22 : decode cX3_markCut 22 = .ok (.iadd, 1) := by decide +kernel
theorem dX3_markCut_23 : decode cX3_markCut 23 = .ok (.putfield 50, 3) := by decide +kernel
theorem dX3_markCut_26 : decode cX3_markCut 26 = .ok (.return_, 1) := by decide +kernel
theorem dX4_init_0 : decode cX4_init 0 = .ok (.aload_n 0, 1) := by decide +kernel
theorem dX4_init_1 : decode cX4_init 1 = .ok (.invokespecial 3, 3) := by decide +kernel
theorem dX4_init_4 : decode cX4_init 4 = .ok (.aload_n 0, 1) := by decide +kernel
theorem dX4_init_5 : decode cX4_init 5 = .ok (.aload_n 1, 1) := by decide +kernel
theorem dX4_init_6 : decode cX4_init 6 = .ok (.putfield 9, 3) := by decide +kernel
theorem dX4_init_9 : decode cX4_init 9 = .ok (.aload_n 0, 1) := by decide +kernel
theorem dX4_init_10 : decode cX4_init 10 = .ok (.iconst 4, 1) := by decide +kernel
theorem dX4_init_11 : decode cX4_init 11 = .ok (.newarray .long, 2) := by decide +kernel
theorem dX4_init_13 : decode cX4_init 13 = .ok (.putfield 15, 3) := by decide +kernel
theorem dX4_init_16 : decode cX4_init 16 = .ok (.return_, 1) := by decide +kernel
theorem dX4_read_0 : decode cX4_read 0 = .ok (.aload_n 1, 1) := by decide +kernel
theorem dX4_read_1 : decode cX4_read 1 = .ok (.invokevirtual 19, 3) := by decide +kernel
theorem dX4_read_4 : decode cX4_read 4 = .ok (.aload_n 0, 1) := by decide +kernel
theorem dX4_read_5 : decode cX4_read 5 = .ok (.iconst 0, 1) := by decide +kernel
theorem dX4_read_6 : decode cX4_read 6 = .ok (.putfield 24, 3) := by decide +kernel
theorem dX4_read_9 : decode cX4_read 9 = .ok (.aload_n 0, 1) := by decide +kernel
theorem dX4_read_10 : decode cX4_read 10 = .ok (.getfield 9, 3) := by decide +kernel
theorem dX4_read_13 : decode cX4_read 13 = .ok (.invokevirtual 28, 3) := by decide +kernel
theorem dX4_read_16 : decode cX4_read 16 = .ok (.aload_n 0, 1) := by decide +kernel
theorem dX4_read_17 : decode cX4_read 17 = .ok (.ldc2_w 33, 3) := by decide +kernel
theorem dX4_read_20 : decode cX4_read 20 = .ok (.invokevirtual 35, 3) := by decide +kernel
theorem dX4_read_23 : decode cX4_read 23 = .ok (.ifCond .ne 13, 3) := by decide +kernel
theorem dX4_read_26 : decode cX4_read 26 = .ok (.aload_n 0, 1) := by decide +kernel
theorem dX4_read_27 : decode cX4_read 27 = .ok (.iconst 1, 1) := by decide +kernel
theorem dX4_read_28 : decode cX4_read 28 = .ok (.invokevirtual 39, 3) := by decide +kernel
theorem dX4_read_31 : decode cX4_read 31 = .ok (.aload_n 0, 1) := by decide +kernel
theorem dX4_read_32 : decode cX4_read 32 = .ok (.getfield 24, 3) := by decide +kernel
theorem dX4_read_35 : decode cX4_read 35 = .ok (.ireturn, 1) := by decide +kernel
theorem dX4_read_36 : decode cX4_read 36 = .ok (.iconst 0, 1) := by decide +kernel
theorem dX4_read_37 : decode cX4_read 37 = .ok (.istore_n 2, 1) := by decide +kernel
theorem dX4_read_38 : decode cX4_read 38 = .ok (.iload_n 2, 1) := by decide +kernel
theorem dX4_read_39 : decode cX4_read 39 = .ok (.iconst 4, 1) := by decide +kernel
theorem dX4_read_40 : decode cX4_read 40 = .ok (.if_icmp .gt 31, 3) := by decide +kernel
theorem dX4_read_43 : decode cX4_read 43 = .ok (.aload_n 0, 1) := by decide +kernel
theorem dX4_read_44 : decode cX4_read 44 = .ok (.getfield 24, 3) := by decide +kernel
theorem dX4_read_47 : decode cX4_read 47 = .ok (.ifCond .ne 24, 3) := by decide +kernel
theorem dX4_read_50 : decode cX4_read 50 = .ok (.aload_n 0, 1) := by decide +kernel
theorem dX4_read_51 : decode cX4_read 51 = .ok (.ldc2_w 33, 3) := by decide +kernel
theorem dX4_read_54 : decode cX4_read 54 = .ok (.invokevirtual 35, 3) := by decide +kernel
theorem dX4_read_57 : decode cX4_read 57 = .ok (.ifCond .eq 14, 3) := by decide +kernel
theorem dX4_read_60 : decode cX4_read 60 = .ok (.aload_n 0, 1) := by decide +kernel
theorem dX4_read_61 : decode cX4_read 61 = .ok (.aload_n 1, 1) := by decide +kernel
theorem dX4_read_62 : decode cX4_read 62 = .ok (.invokevirtual 43, 3) := by decide +kernel
theorem dX4_read_65 : decode cX4_read 65 = .ok (.iinc 2 1, 3) := by decide +kernel
theorem dX4_read_68 : decode cX4_read 68 = .ok (.goto (-30), 3) := by decide +kernel
theorem dX4_read_71 : decode cX4_read 71 = .ok (.iconst 0, 1) := by decide +kernel
theorem dX4_read_72 : decode cX4_read 72 = .ok (.istore_n 2, 1) := by decide +kernel
theorem dX4_read_73 : decode cX4_read 73 = .ok (.iload_n 2, 1) := by decide +kernel
theorem dX4_read_74 : decode cX4_read 74 = .ok (.bipush 24, 2) := by decide +kernel
theorem dX4_read_76 : decode cX4_read 76 = .ok (.if_icmp .gt 31, 3) := by decide +kernel
theorem dX4_read_79 : decode cX4_read 79 = .ok (.aload_n 0, 1) := by decide +kernel
theorem dX4_read_80 : decode cX4_read 80 = .ok (.getfield 24, 3) := by decide +kernel
theorem dX4_read_83 : decode cX4_read 83 = .ok (.ifCond .ne 24, 3) := by decide +kernel
theorem dX4_read_86 : decode cX4_read 86 = .ok (.aload_n 0, 1) := by decide +kernel
theorem dX4_read_87 : decode cX4_read 87 = .ok (.ldc2_w 47, 3) := by decide +kernel
theorem dX4_read_90 : decode cX4_read 90 = .ok (.invokevirtual 35, 3) := by decide +kernel
theorem dX4_read_93 : decode cX4_read 93 = .ok (.ifCond .eq 14, 3) := by decide +kernel
theorem dX4_read_96 : decode cX4_read 96 = .ok (.aload_n 0, 1) := by decide +kernel
theorem dX4_read_97 : decode cX4_read 97 = .ok (.aload_n 1, 1) := by decide +kernel
theorem dX4_read_98 : decode cX4_read 98 = .ok (.invokevirtual 49, 3) := by decide +kernel
theorem dX4_read_101 : decode cX4_read 101 = .ok (.iinc 2 1, 3) := by decide +kernel
theorem dX4_read_104 : decode cX4_read 104 = .ok (.goto (-31), 3) := by decide +kernel
theorem dX4_read_107 : decode cX4_read 107 = .ok (.aload_n 0, 1) := by decide +kernel
theorem dX4_read_108 : decode cX4_read 108 = .ok (.getfield 24, 3) := by decide +kernel
theorem dX4_read_111 : decode cX4_read 111 = .ok (.ifCond .ne 18, 3) := by decide +kernel
theorem dX4_read_114 : decode cX4_read 114 = .ok (.aload_n 0, 1) := by decide +kernel
theorem dX4_read_115 : decode cX4_read 115 = .ok (.getfield 9, 3) := by decide +kernel
theorem dX4_read_118 : decode cX4_read 118 = .ok (.getfield 52, 3) := by decide +kernel
theorem dX4_read_121 : decode cX4_read 121 = .ok (.ifCond .eq 8, 3) := by decide +kernel
theorem dX4_read_124 : decode cX4_read 124 = .ok (.aload_n 0, 1) := by decide +kernel
theorem dX4_read_125 : decode cX4_read 125 = .ok (.iconst 1, 1) := by decide +kernel
theorem dX4_read_126 : decode cX4_read 126 = .ok (.invokevirtual 39, 3) := by decide +kernel
theorem dX4_read_129 : decode cX4_read 129 = .ok (.aload_n 0, 1) := by decide +kernel
theorem dX4_read_130 : decode cX4_read 130 = .ok (.getfield 24, 3) := by decide +kernel
theorem dX4_read_133 : decode cX4_read 133 = .ok (.ireturn, 1) := by decide +kernel
theorem dX4_readRing_0 : decode cX4_readRing 0 = .ok (.aload_n 1, 1) := by decide +kernel
theorem dX4_readRing_1 : decode cX4_readRing 1 = .ok (.getfield 55, 3) := by decide +kernel
theorem dX4_readRing_4 : decode cX4_readRing 4 = .ok (.iconst 4, 1) := by decide +kernel
theorem dX4_readRing_5 : decode cX4_readRing 5 = .ok (.if_icmp .lt 9, 3) := by decide +kernel
theorem dX4_readRing_8 : decode cX4_readRing 8 = .ok (.aload_n 0, 1) := by decide +kernel
theorem dX4_readRing_9 : decode cX4_readRing 9 = .ok (.iconst 5, 1) := by decide +kernel
theorem dX4_readRing_10 : decode cX4_readRing 10 = .ok (.invokevirtual 39, 3) := by decide +kernel
theorem dX4_readRing_13 : decode cX4_readRing 13 = .ok (.return_, 1) := by decide +kernel
theorem dX4_readRing_14 : decode cX4_readRing 14 = .ok (.aload_n 0, 1) := by decide +kernel
theorem dX4_readRing_15 : decode cX4_readRing 15 = .ok (.getfield 9, 3) := by decide +kernel
theorem dX4_readRing_18 : decode cX4_readRing 18 = .ok (.invokevirtual 58, 3) := by decide +kernel
theorem dX4_readRing_21 : decode cX4_readRing 21 = .ok (.aload_n 0, 1) := by decide +kernel
theorem dX4_readRing_22 : decode cX4_readRing 22 = .ok (.invokevirtual 61, 3) := by decide +kernel
theorem dX4_readRing_25 : decode cX4_readRing 25 = .ok (.ifCond .ne 11, 3) := by decide +kernel
theorem dX4_readRing_28 : decode cX4_readRing 28 = .ok (.aload_n 0, 1) := by decide +kernel
theorem dX4_readRing_29 : decode cX4_readRing 29 = .ok (.iconst 1, 1) := by decide +kernel
theorem dX4_readRing_30 : decode cX4_readRing 30 = .ok (.invokevirtual 39, 3) := by decide +kernel
theorem dX4_readRing_33 : decode cX4_readRing 33 = .ok (.goto 57, 3) := by decide +kernel
theorem dX4_readRing_36 : decode cX4_readRing 36 = .ok (.aload_n 0, 1) := by decide +kernel
theorem dX4_readRing_37 : decode cX4_readRing 37 = .ok (.aload_n 1, 1) := by decide +kernel
theorem dX4_readRing_38 : decode cX4_readRing 38 = .ok (.invokevirtual 65, 3) := by decide +kernel
theorem dX4_readRing_41 : decode cX4_readRing 41 = .ok (.iconst (-1), 1) := by decide +kernel
theorem dX4_readRing_42 : decode cX4_readRing 42 = .ok (.if_icmp .eq 11, 3) := by decide +kernel
theorem dX4_readRing_45 : decode cX4_readRing 45 = .ok (.aload_n 0, 1) := by decide +kernel
theorem dX4_readRing_46 : decode cX4_readRing 46 = .ok (.iconst 3, 1) := by decide +kernel
theorem dX4_readRing_47 : decode cX4_readRing 47 = .ok (.invokevirtual 39, 3) := by decide +kernel
theorem dX4_readRing_50 : decode cX4_readRing 50 = .ok (.goto 40, 3) := by decide +kernel
theorem dX4_readRing_53 : decode cX4_readRing 53 = .ok (.aload_n 0, 1) := by decide +kernel
theorem dX4_readRing_54 : decode cX4_readRing 54 = .ok (.getfield 15, 3) := by decide +kernel
theorem dX4_readRing_57 : decode cX4_readRing 57 = .ok (.aload_n 1, 1) := by decide +kernel
theorem dX4_readRing_58 : decode cX4_readRing 58 = .ok (.getfield 55, 3) := by decide +kernel
theorem dX4_readRing_61 : decode cX4_readRing 61 = .ok (.aload_n 0, 1) := by decide +kernel
theorem dX4_readRing_62 : decode cX4_readRing 62 = .ok (.getfield 9, 3) := by decide +kernel
theorem dX4_readRing_65 : decode cX4_readRing 65 = .ok (.getfield 69, 3) := by decide +kernel
theorem dX4_readRing_68 : decode cX4_readRing 68 = .ok (.lastore, 1) := by decide +kernel
theorem dX4_readRing_69 : decode cX4_readRing 69 = .ok (.aload_n 1, 1) := by decide +kernel
theorem dX4_readRing_70 : decode cX4_readRing 70 = .ok (.dup, 1) := by decide +kernel
theorem dX4_readRing_71 : decode cX4_readRing 71 = .ok (.getfield 55, 3) := by decide +kernel
theorem dX4_readRing_74 : decode cX4_readRing 74 = .ok (.iconst 1, 1) := by decide +kernel
theorem dX4_readRing_75 : decode cX4_readRing 75 = .ok (.iadd, 1) := by decide +kernel
theorem dX4_readRing_76 : decode cX4_readRing 76 = .ok (.putfield 55, 3) := by decide +kernel
theorem dX4_readRing_79 : decode cX4_readRing 79 = .ok (.aload_n 0, 1) := by decide +kernel
theorem dX4_readRing_80 : decode cX4_readRing 80 = .ok (.getfield 9, 3) := by decide +kernel
theorem dX4_readRing_83 : decode cX4_readRing 83 = .ok (.invokevirtual 58, 3) := by decide +kernel
theorem dX4_readRing_86 : decode cX4_readRing 86 = .ok (.aload_n 0, 1) := by decide +kernel
theorem dX4_readRing_87 : decode cX4_readRing 87 = .ok (.invokevirtual 73, 3) := by decide +kernel
theorem dX4_readRing_90 : decode cX4_readRing 90 = .ok (.return_, 1) := by decide +kernel
theorem dX4_readLink_0 : decode cX4_readLink 0 = .ok (.aload_n 1, 1) := by decide +kernel
theorem dX4_readLink_1 : decode cX4_readLink 1 = .ok (.getfield 76, 3) := by decide +kernel
theorem dX4_readLink_4 : decode cX4_readLink 4 = .ok (.istore_n 2, 1) := by decide +kernel
theorem dX4_readLink_5 : decode cX4_readLink 5 = .ok (.iload_n 2, 1) := by decide +kernel
theorem dX4_readLink_6 : decode cX4_readLink 6 = .ok (.bipush 24, 2) := by decide +kernel
theorem dX4_readLink_8 : decode cX4_readLink 8 = .ok (.if_icmp .lt 9, 3) := by decide +kernel
theorem dX4_readLink_11 : decode cX4_readLink 11 = .ok (.aload_n 0, 1) := by decide +kernel
theorem dX4_readLink_12 : decode cX4_readLink 12 = .ok (.iconst 5, 1) := by decide +kernel
theorem dX4_readLink_13 : decode cX4_readLink 13 = .ok (.invokevirtual 39, 3) := by decide +kernel
theorem dX4_readLink_16 : decode cX4_readLink 16 = .ok (.return_, 1) := by decide +kernel
theorem dX4_readLink_17 : decode cX4_readLink 17 = .ok (.aload_n 0, 1) := by decide +kernel
theorem dX4_readLink_18 : decode cX4_readLink 18 = .ok (.getfield 9, 3) := by decide +kernel
theorem dX4_readLink_21 : decode cX4_readLink 21 = .ok (.invokevirtual 58, 3) := by decide +kernel
theorem dX4_readLink_24 : decode cX4_readLink 24 = .ok (.aload_n 1, 1) := by decide +kernel
theorem dX4_readLink_25 : decode cX4_readLink 25 = .ok (.getfield 79, 3) := by decide +kernel
theorem dX4_readLink_28 : decode cX4_readLink 28 = .ok (.iload_n 2, 1) := by decide +kernel
theorem dX4_readLink_29 : decode cX4_readLink 29 = .ok (.aload_n 0, 1) := by decide +kernel
theorem dX4_readLink_30 : decode cX4_readLink 30 = .ok (.aload_n 1, 1) := by decide +kernel
theorem dX4_readLink_31 : decode cX4_readLink 31 = .ok (.invokevirtual 83, 3) := by decide +kernel
theorem dX4_readLink_34 : decode cX4_readLink 34 = .ok (.iastore, 1) := by decide +kernel
theorem dX4_readLink_35 : decode cX4_readLink 35 = .ok (.aload_n 1, 1) := by decide +kernel
theorem dX4_readLink_36 : decode cX4_readLink 36 = .ok (.getfield 86, 3) := by decide +kernel
theorem dX4_readLink_39 : decode cX4_readLink 39 = .ok (.iload_n 2, 1) := by decide +kernel
theorem dX4_readLink_40 : decode cX4_readLink 40 = .ok (.aload_n 0, 1) := by decide +kernel
theorem dX4_readLink_41 : decode cX4_readLink 41 = .ok (.aload_n 1, 1) := by decide +kernel
theorem dX4_readLink_42 : decode cX4_readLink 42 = .ok (.invokevirtual 83, 3) := by decide +kernel
theorem dX4_readLink_45 : decode cX4_readLink 45 = .ok (.iastore, 1) := by decide +kernel
theorem dX4_readLink_46 : decode cX4_readLink 46 = .ok (.aload_n 1, 1) := by decide +kernel
theorem dX4_readLink_47 : decode cX4_readLink 47 = .ok (.getfield 89, 3) := by decide +kernel
theorem dX4_readLink_50 : decode cX4_readLink 50 = .ok (.iload_n 2, 1) := by decide +kernel
theorem dX4_readLink_51 : decode cX4_readLink 51 = .ok (.aload_n 0, 1) := by decide +kernel
theorem dX4_readLink_52 : decode cX4_readLink 52 = .ok (.invokevirtual 92, 3) := by decide +kernel
theorem dX4_readLink_55 : decode cX4_readLink 55 = .ok (.iastore, 1) := by decide +kernel
theorem dX4_readLink_56 : decode cX4_readLink 56 = .ok (.aload_n 1, 1) := by decide +kernel
theorem dX4_readLink_57 : decode cX4_readLink 57 = .ok (.getfield 96, 3) := by decide +kernel
theorem dX4_readLink_60 : decode cX4_readLink 60 = .ok (.iload_n 2, 1) := by decide +kernel
theorem dX4_readLink_61 : decode cX4_readLink 61 = .ok (.aload_n 0, 1) := by decide +kernel
theorem dX4_readLink_62 : decode cX4_readLink 62 = .ok (.invokevirtual 92, 3) := by decide +kernel
theorem dX4_readLink_65 : decode cX4_readLink 65 = .ok (.iastore, 1) := by decide +kernel
theorem dX4_readLink_66 : decode cX4_readLink 66 = .ok (.aload_n 1, 1) := by decide +kernel
theorem dX4_readLink_67 : decode cX4_readLink 67 = .ok (.getfield 99, 3) := by decide +kernel
theorem dX4_readLink_70 : decode cX4_readLink 70 = .ok (.iload_n 2, 1) := by decide +kernel
theorem dX4_readLink_71 : decode cX4_readLink 71 = .ok (.aload_n 0, 1) := by decide +kernel
theorem dX4_readLink_72 : decode cX4_readLink 72 = .ok (.aload_n 1, 1) := by decide +kernel
theorem dX4_readLink_73 : decode cX4_readLink 73 = .ok (.invokevirtual 103, 3) := by decide +kernel
theorem dX4_readLink_76 : decode cX4_readLink 76 = .ok (.bastore, 1) := by decide +kernel
theorem dX4_readLink_77 : decode cX4_readLink 77 = .ok (.aload_n 0, 1) := by decide +kernel
theorem dX4_readLink_78 : decode cX4_readLink 78 = .ok (.invokevirtual 73, 3) := by decide +kernel
theorem dX4_readLink_81 : decode cX4_readLink 81 = .ok (.aload_n 0, 1) := by decide +kernel
theorem dX4_readLink_82 : decode cX4_readLink 82 = .ok (.getfield 24, 3) := by decide +kernel
theorem dX4_readLink_85 : decode cX4_readLink 85 = .ok (.ifCond .ne 13, 3) := by decide +kernel
theorem dX4_readLink_88 : decode cX4_readLink 88 = .ok (.aload_n 1, 1) := by decide +kernel
theorem dX4_readLink_89 : decode cX4_readLink 89 = .ok (.dup, 1) := by decide +kernel
theorem dX4_readLink_90 : decode cX4_readLink 90 = .ok (.getfield 76, 3) := by decide +kernel
theorem dX4_readLink_93 : decode cX4_readLink 93 = .ok (.iconst 1, 1) := by decide +kernel
theorem dX4_readLink_94 : decode cX4_readLink 94 = .ok (.iadd, 1) := by decide +kernel
theorem dX4_readLink_95 : decode cX4_readLink 95 = .ok (.putfield 76, 3) := by decide +kernel
theorem dX4_readLink_98 : decode cX4_readLink 98 = .ok (.return_, 1) := by decide +kernel
theorem dX4_readToldName_0 : decode cX4_readToldName 0 = .ok (.aload_n 0, 1) := by decide +kernel
theorem dX4_readToldName_1 : decode cX4_readToldName 1 = .ok (.getfield 24, 3) := by decide +kernel
theorem dX4_readToldName_4 : decode cX4_readToldName 4 = .ok (.ifCond .eq 5, 3) := by decide +kernel
theorem dX4_readToldName_7 : decode cX4_readToldName 7 = .ok (.iconst (-1), 1) := by decide +kernel
theorem dX4_readToldName_8 : decode cX4_readToldName 8 = .ok (.ireturn, 1) := by decide +kernel
theorem dX4_readToldName_9 : decode cX4_readToldName 9 = .ok (.iconst (-1), 1) := by decide +kernel
theorem dX4_readToldName_10 : decode cX4_readToldName 10 = .ok (.istore_n 2, 1) := by decide +kernel
theorem dX4_readToldName_11 : decode cX4_readToldName 11 = .ok (.aload_n 0, 1) := by decide +kernel
theorem dX4_readToldName_12 : decode cX4_readToldName 12 = .ok (.invokevirtual 61, 3) := by decide +kernel
theorem dX4_readToldName_15 : decode cX4_readToldName 15 = .ok (.ifCond .ne 11, 3) := by decide +kernel
theorem dX4_readToldName_18 : decode cX4_readToldName 18 = .ok (.aload_n 0, 1) := by decide +kernel
theorem dX4_readToldName_19 : decode cX4_readToldName 19 = .ok (.iconst 1, 1) := by decide +kernel
theorem dX4_readToldName_20 : decode cX4_readToldName 20 = .ok (.invokevirtual 39, 3) := by decide +kernel
theorem dX4_readToldName_23 : decode cX4_readToldName 23 = .ok (.goto 19, 3) := by decide +kernel
theorem dX4_readToldName_26 : decode cX4_readToldName 26 = .ok (.aload_n 0, 1) := by decide +kernel
theorem dX4_readToldName_27 : decode cX4_readToldName 27 = .ok (.aload_n 1, 1) := by decide +kernel
theorem dX4_readToldName_28 : decode cX4_readToldName 28 = .ok (.invokevirtual 65, 3) := by decide +kernel
theorem dX4_readToldName_31 : decode cX4_readToldName 31 = .ok (.istore_n 2, 1) := by decide +kernel
theorem dX4_readToldName_32 : decode cX4_readToldName 32 = .ok (.iload_n 2, 1) := by decide +kernel
theorem dX4_readToldName_33 : decode cX4_readToldName 33 = .ok (.iconst (-1), 1) := by decide +kernel
theorem dX4_readToldName_34 : decode cX4_readToldName 34 = .ok (.if_icmp .ne 8, 3) := by decide +kernel
theorem dX4_readToldName_37 : decode cX4_readToldName 37 = .ok (.aload_n 0, 1) := by decide +kernel
theorem dX4_readToldName_38 : decode cX4_readToldName 38 = .ok (.iconst 2, 1) := by decide +kernel
theorem dX4_readToldName_39 : decode cX4_readToldName 39 = .ok (.invokevirtual 39, 3) := by decide +kernel
theorem dX4_readToldName_42 : decode cX4_readToldName 42 = .ok (.aload_n 0, 1) := by decide +kernel
theorem dX4_readToldName_43 : decode cX4_readToldName 43 = .ok (.getfield 9, 3) := by decide +kernel
theorem dX4_readToldName_46 : decode cX4_readToldName 46 = .ok (.invokevirtual 58, 3) := by decide +kernel
theorem dX4_readToldName_49 : decode cX4_readToldName 49 = .ok (.iload_n 2, 1) := by decide +kernel
theorem dX4_readToldName_50 : decode cX4_readToldName 50 = .ok (.ireturn, 1) := by decide +kernel
theorem dX4_readAway_0 : decode cX4_readAway 0 = .ok (.aload_n 0, 1) := by decide +kernel
theorem dX4_readAway_1 : decode cX4_readAway 1 = .ok (.getfield 24, 3) := by decide +kernel
theorem dX4_readAway_4 : decode cX4_readAway 4 = .ok (.ifCond .eq 5, 3) := by decide +kernel
theorem dX4_readAway_7 : decode cX4_readAway 7 = .ok (.iconst 0, 1) := by decide +kernel
theorem dX4_readAway_8 : decode cX4_readAway 8 = .ok (.ireturn, 1) := by decide +kernel
theorem dX4_readAway_9 : decode cX4_readAway 9 = .ok (.aload_n 0, 1) := by decide +kernel
theorem dX4_readAway_10 : decode cX4_readAway 10 = .ok (.getfield 9, 3) := by decide +kernel
theorem dX4_readAway_13 : decode cX4_readAway 13 = .ok (.iconst 3, 1) := by decide +kernel
theorem dX4_readAway_14 : decode cX4_readAway 14 = .ok (.ldc2_w 107, 3) := by decide +kernel
theorem dX4_readAway_17 : decode cX4_readAway 17 = .ok (.invokevirtual 109, 3) := by decide +kernel
theorem dX4_readAway_20 : decode cX4_readAway 20 = .ok (.istore_n 1, 1) := by decide +kernel
theorem dX4_readAway_21 : decode cX4_readAway 21 = .ok (.iload_n 1, 1) := by decide +kernel
theorem dX4_readAway_22 : decode cX4_readAway 22 = .ok (.ifCond .ne 17, 3) := by decide +kernel
theorem dX4_readAway_25 : decode cX4_readAway 25 = .ok (.aload_n 0, 1) := by decide +kernel
theorem dX4_readAway_26 : decode cX4_readAway 26 = .ok (.getfield 9, 3) := by decide +kernel
theorem dX4_readAway_29 : decode cX4_readAway 29 = .ok (.iconst 3, 1) := by decide +kernel
theorem dX4_readAway_30 : decode cX4_readAway 30 = .ok (.ldc2_w 113, 3) := by decide +kernel
theorem dX4_readAway_33 : decode cX4_readAway 33 = .ok (.invokevirtual 109, 3) := by decide +kernel
theorem dX4_readAway_36 : decode cX4_readAway 36 = .ok (.ifCond .eq 10, 3) := by decide +kernel
theorem dX4_readAway_39 : decode cX4_readAway 39 = .ok (.aload_n 0, 1) := by decide +kernel
theorem dX4_readAway_40 : decode cX4_readAway 40 = .ok (.getfield 9, 3) := by decide +kernel
theorem dX4_readAway_43 : decode cX4_readAway 43 = .ok (.invokevirtual 58, 3) := by decide +kernel
theorem dX4_readAway_46 : decode cX4_readAway 46 = .ok (.aload_n 0, 1) := by decide +kernel
theorem dX4_readAway_47 : decode cX4_readAway 47 = .ok (.getfield 9, 3) := by decide +kernel
theorem dX4_readAway_50 : decode cX4_readAway 50 = .ok (.getfield 52, 3) := by decide +kernel
theorem dX4_readAway_53 : decode cX4_readAway 53 = .ok (.iconst 2, 1) := by decide +kernel
theorem dX4_readAway_54 : decode cX4_readAway 54 = .ok (.if_icmp .eq 11, 3) := by decide +kernel
theorem dX4_readAway_57 : decode cX4_readAway 57 = .ok (.aload_n 0, 1) := by decide +kernel
theorem dX4_readAway_58 : decode cX4_readAway 58 = .ok (.iconst 1, 1) := by decide +kernel
theorem dX4_readAway_59 : decode cX4_readAway 59 = .ok (.invokevirtual 39, 3) := by decide +kernel
theorem dX4_readAway_62 : decode cX4_readAway 62 = .ok (.goto 22, 3) := by decide +kernel
theorem dX4_readAway_65 : decode cX4_readAway 65 = .ok (.aload_n 0, 1) := by decide +kernel
theorem dX4_readAway_66 : decode cX4_readAway 66 = .ok (.getfield 9, 3) := by decide +kernel
theorem dX4_readAway_69 : decode cX4_readAway 69 = .ok (.getfield 69, 3) := by decide +kernel
theorem dX4_readAway_72 : decode cX4_readAway 72 = .ok (.ldc2_w 115, 3) := by decide +kernel
theorem dX4_readAway_75 : decode cX4_readAway 75 = .ok (.lcmp, 1) := by decide +kernel
theorem dX4_readAway_76 : decode cX4_readAway 76 = .ok (.ifCond .le 8, 3) := by decide +kernel
theorem dX4_readAway_79 : decode cX4_readAway 79 = .ok (.aload_n 0, 1) := by decide +kernel
theorem dX4_readAway_80 : decode cX4_readAway 80 = .ok (.iconst 4, 1) := by decide +kernel
theorem dX4_readAway_81 : decode cX4_readAway 81 = .ok (.invokevirtual 39, 3) := by decide +kernel
theorem dX4_readAway_84 : decode cX4_readAway 84 = .ok (.aload_n 0, 1) := by decide +kernel
theorem dX4_readAway_85 : decode cX4_readAway 85 = .ok (.getfield 9, 3) := by decide +kernel
theorem dX4_readAway_88 : decode cX4_readAway 88 = .ok (.getfield 69, 3) := by decide +kernel
theorem dX4_readAway_91 : decode cX4_readAway 91 = .ok (.l2i, 1) := by decide +kernel
theorem dX4_readAway_92 : decode cX4_readAway 92 = .ok (.istore_n 2, 1) := by decide +kernel
theorem dX4_readAway_93 : decode cX4_readAway 93 = .ok (.aload_n 0, 1) := by decide +kernel
theorem dX4_readAway_94 : decode cX4_readAway 94 = .ok (.getfield 9, 3) := by decide +kernel
theorem dX4_readAway_97 : decode cX4_readAway 97 = .ok (.invokevirtual 58, 3) := by decide +kernel
theorem dX4_readAway_100 : decode cX4_readAway 100 = .ok (.iload_n 1, 1) := by decide +kernel
theorem dX4_readAway_101 : decode cX4_readAway 101 = .ok (.ifCond .eq 8, 3) := by decide +kernel
theorem dX4_readAway_104 : decode cX4_readAway 104 = .ok (.iload_n 2, 1) := by decide +kernel
theorem dX4_readAway_105 : decode cX4_readAway 105 = .ok (.ineg, 1) := by decide +kernel
theorem dX4_readAway_106 : decode cX4_readAway 106 = .ok (.goto 4, 3) := by decide +kernel
theorem dX4_readAway_109 : decode cX4_readAway 109 = .ok (.iload_n 2, 1) := by decide +kernel
theorem dX4_readAway_110 : decode cX4_readAway 110 = .ok (.ireturn, 1) := by decide +kernel
theorem dX4_readOver_0 : decode cX4_readOver 0 = .ok (.aload_n 0, 1) := by decide +kernel
theorem dX4_readOver_1 : decode cX4_readOver 1 = .ok (.getfield 24, 3) := by decide +kernel
theorem dX4_readOver_4 : decode cX4_readOver 4 = .ok (.ifCond .eq 5, 3) := by decide +kernel
theorem dX4_readOver_7 : decode cX4_readOver 7 = .ok (.iconst 0, 1) := by decide +kernel
theorem dX4_readOver_8 : decode cX4_readOver 8 = .ok (.ireturn, 1) := by decide +kernel
theorem dX4_readOver_9 : decode cX4_readOver 9 = .ok (.aload_n 0, 1) := by decide +kernel
theorem dX4_readOver_10 : decode cX4_readOver 10 = .ok (.ldc2_w 117, 3) := by decide +kernel
theorem dX4_readOver_13 : decode cX4_readOver 13 = .ok (.invokevirtual 35, 3) := by decide +kernel
theorem dX4_readOver_16 : decode cX4_readOver 16 = .ok (.istore_n 2, 1) := by decide +kernel
theorem dX4_readOver_17 : decode cX4_readOver 17 = .ok (.iload_n 2, 1) := by decide +kernel
theorem dX4_readOver_18 : decode cX4_readOver 18 = .ok (.ifCond .ne 21, 3) := by decide +kernel
theorem dX4_readOver_21 : decode cX4_readOver 21 = .ok (.aload_n 0, 1) := by decide +kernel
theorem dX4_readOver_22 : decode cX4_readOver 22 = .ok (.ldc2_w 119, 3) := by decide +kernel
theorem dX4_readOver_25 : decode cX4_readOver 25 = .ok (.invokevirtual 35, 3) := by decide +kernel
theorem dX4_readOver_28 : decode cX4_readOver 28 = .ok (.ifCond .ne 11, 3) := by decide +kernel
theorem dX4_readOver_31 : decode cX4_readOver 31 = .ok (.aload_n 0, 1) := by decide +kernel
theorem dX4_readOver_32 : decode cX4_readOver 32 = .ok (.iconst 1, 1) := by decide +kernel
theorem dX4_readOver_33 : decode cX4_readOver 33 = .ok (.invokevirtual 39, 3) := by decide +kernel
theorem dX4_readOver_36 : decode cX4_readOver 36 = .ok (.goto 16, 3) := by decide +kernel
theorem dX4_readOver_39 : decode cX4_readOver 39 = .ok (.aload_n 1, 1) := by decide +kernel
theorem dX4_readOver_40 : decode cX4_readOver 40 = .ok (.invokevirtual 121, 3) := by decide +kernel
theorem dX4_readOver_43 : decode cX4_readOver 43 = .ok (.ifCond .ne 9, 3) := by decide +kernel
theorem dX4_readOver_46 : decode cX4_readOver 46 = .ok (.aload_n 0, 1) := by decide +kernel
theorem dX4_readOver_47 : decode cX4_readOver 47 = .ok (.bipush 6, 2) := by decide +kernel
theorem dX4_readOver_49 : decode cX4_readOver 49 = .ok (.invokevirtual 39, 3) := by decide +kernel
theorem dX4_readOver_52 : decode cX4_readOver 52 = .ok (.aload_n 0, 1) := by decide +kernel
theorem dX4_readOver_53 : decode cX4_readOver 53 = .ok (.getfield 9, 3) := by decide +kernel
theorem dX4_readOver_56 : decode cX4_readOver 56 = .ok (.invokevirtual 58, 3) := by decide +kernel
theorem dX4_readOver_59 : decode cX4_readOver 59 = .ok (.iload_n 2, 1) := by decide +kernel
theorem dX4_readOver_60 : decode cX4_readOver 60 = .ok (.ireturn, 1) := by decide +kernel
theorem dX4_passSemicolon_0 : decode cX4_passSemicolon 0 = .ok (.aload_n 0, 1) := by decide +kernel
theorem dX4_passSemicolon_1 : decode cX4_passSemicolon 1 = .ok (.getfield 24, 3) := by decide +kernel
theorem dX4_passSemicolon_4 : decode cX4_passSemicolon 4 = .ok (.ifCond .eq 4, 3) := by decide +kernel
theorem dX4_passSemicolon_7 : decode cX4_passSemicolon 7 = .ok (.return_, 1) := by decide +kernel
theorem dX4_passSemicolon_8 : decode cX4_passSemicolon 8 = .ok (.aload_n 0, 1) := by decide +kernel
theorem dX4_passSemicolon_9 : decode cX4_passSemicolon 9 = .ok (.getfield 9, 3) := by decide +kernel
theorem dX4_passSemicolon_12 : decode cX4_passSemicolon 12 = .ok (.iconst 3, 1) := by decide +kernel
theorem dX4_passSemicolon_13 : decode cX4_passSemicolon 13 = .ok (.ldc2_w 124, 3) := by decide +kernel
theorem dX4_passSemicolon_16 : decode cX4_passSemicolon 16 = .ok (.invokevirtual 109, 3) := by decide +kernel
theorem dX4_passSemicolon_19 : decode cX4_passSemicolon 19 = .ok (.ifCond .ne 8, 3) := by decide +kernel
theorem dX4_passSemicolon_22 : decode cX4_passSemicolon 22 = .ok (.aload_n 0, 1) := by decide +kernel
theorem dX4_passSemicolon_23 : decode cX4_passSemicolon 23 = .ok (.iconst 1, 1) := by decide +kernel
theorem dX4_passSemicolon_24 : decode cX4_passSemicolon 24 = .ok (.invokevirtual 39, 3) := by decide +kernel
theorem dX4_passSemicolon_27 : decode cX4_passSemicolon 27 = .ok (.aload_n 0, 1) := by decide +kernel
theorem dX4_passSemicolon_28 : decode cX4_passSemicolon 28 = .ok (.getfield 9, 3) := by decide +kernel
theorem dX4_passSemicolon_31 : decode cX4_passSemicolon 31 = .ok (.invokevirtual 58, 3) := by decide +kernel
theorem dX4_passSemicolon_34 : decode cX4_passSemicolon 34 = .ok (.return_, 1) := by decide +kernel
theorem dX4_isWord_0 : decode cX4_isWord 0 = .ok (.aload_n 0, 1) := by decide +kernel
theorem dX4_isWord_1 : decode cX4_isWord 1 = .ok (.getfield 9, 3) := by decide +kernel
theorem dX4_isWord_4 : decode cX4_isWord 4 = .ok (.iconst 1, 1) := by decide +kernel
theorem dX4_isWord_5 : decode cX4_isWord 5 = .ok (.lload_n 1, 1) := by decide +kernel
theorem dX4_isWord_6 : decode cX4_isWord 6 = .ok (.invokevirtual 109, 3) := by decide +kernel
theorem dX4_isWord_9 : decode cX4_isWord 9 = .ok (.ireturn, 1) := by decide +kernel
theorem dX4_isName_0 : decode cX4_isName 0 = .ok (.aload_n 0, 1) := by decide +kernel
theorem dX4_isName_1 : decode cX4_isName 1 = .ok (.getfield 9, 3) := by decide +kernel
theorem dX4_isName_4 : decode cX4_isName 4 = .ok (.getfield 52, 3) := by decide +kernel
theorem dX4_isName_7 : decode cX4_isName 7 = .ok (.iconst 1, 1) := by decide +kernel
theorem dX4_isName_8 : decode cX4_isName 8 = .ok (.if_icmp .ne 47, 3) := by decide +kernel
theorem dX4_isName_11 : decode cX4_isName 11 = .ok (.aload_n 0, 1) := by decide +kernel
theorem dX4_isName_12 : decode cX4_isName 12 = .ok (.ldc2_w 33, 3) := by decide +kernel
theorem dX4_isName_15 : decode cX4_isName 15 = .ok (.invokevirtual 35, 3) := by decide +kernel
theorem dX4_isName_18 : decode cX4_isName 18 = .ok (.ifCond .ne 37, 3) := by decide +kernel
theorem dX4_isName_21 : decode cX4_isName 21 = .ok (.aload_n 0, 1) := by decide +kernel
theorem dX4_isName_22 : decode cX4_isName 22 = .ok (.ldc2_w 47, 3) := by decide +kernel
theorem dX4_isName_25 : decode cX4_isName 25 = .ok (.invokevirtual 35, 3) := by decide +kernel
theorem dX4_isName_28 : decode cX4_isName 28 = .ok (.ifCond .ne 27, 3) := by decide +kernel
theorem dX4_isName_31 : decode cX4_isName 31 = .ok (.aload_n 0, 1) := by decide +kernel
theorem dX4_isName_32 : decode cX4_isName 32 = .ok (.ldc2_w 117, 3) := by decide +kernel
theorem dX4_isName_35 : decode cX4_isName 35 = .ok (.invokevirtual 35, 3) := by decide +kernel
theorem dX4_isName_38 : decode cX4_isName 38 = .ok (.ifCond .ne 17, 3) := by decide +kernel
theorem dX4_isName_41 : decode cX4_isName 41 = .ok (.aload_n 0, 1) := by decide +kernel
theorem dX4_isName_42 : decode cX4_isName 42 = .ok (.ldc2_w 119, 3) := by decide +kernel
theorem dX4_isName_45 : decode cX4_isName 45 = .ok (.invokevirtual 35, 3) := by decide +kernel
theorem dX4_isName_48 : decode cX4_isName 48 = .ok (.ifCond .ne 7, 3) := by decide +kernel
theorem dX4_isName_51 : decode cX4_isName 51 = .ok (.iconst 1, 1) := by decide +kernel
theorem dX4_isName_52 : decode cX4_isName 52 = .ok (.goto 4, 3) := by decide +kernel
theorem dX4_isName_55 : decode cX4_isName 55 = .ok (.iconst 0, 1) := by decide +kernel
theorem dX4_isName_56 : decode cX4_isName 56 = .ok (.ireturn, 1) := by decide +kernel
theorem dX4_ringOfName_0 : decode cX4_ringOfName 0 = .ok (.iconst 0, 1) := by decide +kernel
theorem dX4_ringOfName_1 : decode cX4_ringOfName 1 = .ok (.istore_n 2, 1) := by decide +kernel
theorem dX4_ringOfName_2 : decode cX4_ringOfName 2 = .ok (.iload_n 2, 1) := by decide +kernel
theorem dX4_ringOfName_3 : decode cX4_ringOfName 3 = .ok (.aload_n 1, 1) := by decide +kernel
theorem dX4_ringOfName_4 : decode cX4_ringOfName 4 = .ok (.getfield 55, 3) := by decide +kernel
theorem dX4_ringOfName_7 : decode cX4_ringOfName 7 = .ok (.if_icmp .ge 28, 3) := by decide +kernel
theorem dX4_ringOfName_10 : decode cX4_ringOfName 10 = .ok (.aload_n 0, 1) := by decide +kernel
theorem dX4_ringOfName_11 : decode cX4_ringOfName 11 = .ok (.getfield 15, 3) := by decide +kernel
theorem dX4_ringOfName_14 : decode cX4_ringOfName 14 = .ok (.iload_n 2, 1) := by decide +kernel
theorem dX4_ringOfName_15 : decode cX4_ringOfName 15 = .ok (.laload, 1) := by decide +kernel
theorem dX4_ringOfName_16 : decode cX4_ringOfName 16 = .ok (.aload_n 0, 1) := by decide +kernel
theorem dX4_ringOfName_17 : decode cX4_ringOfName 17 = .ok (.getfield 9, 3) := by decide +kernel
theorem dX4_ringOfName_20 : decode cX4_ringOfName 20 = .ok (.getfield 69, 3) := by decide +kernel
theorem dX4_ringOfName_23 : decode cX4_ringOfName 23 = .ok (.lcmp, 1) := by decide +kernel
theorem dX4_ringOfName_24 : decode cX4_ringOfName 24 = .ok (.ifCond .ne 5, 3) := by decide +kernel
theorem dX4_ringOfName_27 : decode cX4_ringOfName 27 = .ok (.iload_n 2, 1) := by decide +kernel
theorem dX4_ringOfName_28 : decode cX4_ringOfName 28 = .ok (.ireturn, 1) := by decide +kernel
theorem dX4_ringOfName_29 : decode cX4_ringOfName 29 = .ok (.iinc 2 1, 3) := by decide +kernel
theorem dX4_ringOfName_32 : decode cX4_ringOfName 32 = .ok (.goto (-30), 3) := by decide +kernel
theorem dX4_ringOfName_35 : decode cX4_ringOfName 35 = .ok (.iconst (-1), 1) := by decide +kernel
theorem dX4_ringOfName_36 : decode cX4_ringOfName 36 = .ok (.ireturn, 1) := by decide +kernel
theorem dX4_failWith_0 : decode cX4_failWith 0 = .ok (.aload_n 0, 1) := by decide +kernel
theorem dX4_failWith_1 : decode cX4_failWith 1 = .ok (.iload_n 1, 1) := by decide +kernel
theorem dX4_failWith_2 : decode cX4_failWith 2 = .ok (.bipush 16, 2) := by decide +kernel
theorem dX4_failWith_4 : decode cX4_failWith 4 = .ok (.aload_n 0, 1) := by decide +kernel
theorem dX4_failWith_5 : decode cX4_failWith 5 = .ok (.getfield 9, 3) := by decide +kernel
theorem dX4_failWith_8 : decode cX4_failWith 8 = .ok (.getfield 126, 3) := by decide +kernel
theorem dX4_failWith_11 : decode cX4_failWith 11 = .ok (.imul, 1) := by decide +kernel
theorem dX4_failWith_12 : decode cX4_failWith 12 = .ok (.iadd, 1) := by decide +kernel
theorem dX4_failWith_13 : decode cX4_failWith 13 = .ok (.putfield 24, 3) := by decide +kernel
theorem dX4_failWith_16 : decode cX4_failWith 16 = .ok (.return_, 1) := by decide +kernel
theorem dX5_init_0 : decode cX5_init 0 = .ok (.aload_n 0, 1) := by decide +kernel
theorem dX5_init_1 : decode cX5_init 1 = .ok (.invokespecial 3, 3) := by decide +kernel
theorem dX5_init_4 : decode cX5_init 4 = .ok (.aload_n 0, 1) := by decide +kernel
theorem dX5_init_5 : decode cX5_init 5 = .ok (.sipush 1000, 3) := by decide +kernel
theorem dX5_init_8 : decode cX5_init 8 = .ok (.newarray .char, 2) := by decide +kernel
theorem dX5_init_10 : decode cX5_init 10 = .ok (.putfield 9, 3) := by decide +kernel
theorem dX5_init_13 : decode cX5_init 13 = .ok (.return_, 1) := by decide +kernel
theorem dX5_putBytes_0 : decode cX5_putBytes 0 = .ok (.bipush 56, 2) := by decide +kernel
theorem dX5_putBytes_2 : decode cX5_putBytes 2 = .ok (.istore_n 3, 1) := by decide +kernel
theorem dX5_putBytes_3 : decode cX5_putBytes 3 = .ok (.iload_n 3, 1) := by decide +kernel
theorem dX5_putBytes_4 : decode cX5_putBytes 4 = .ok (.ifCond .lt 21, 3) := by decide +kernel
theorem dX5_putBytes_7 : decode cX5_putBytes 7 = .ok (.aload_n 0, 1) := by decide +kernel
theorem dX5_putBytes_8 : decode cX5_putBytes 8 = .ok (.lload_n 1, 1) := by decide +kernel
theorem dX5_putBytes_9 : decode cX5_putBytes 9 = .ok (.iload_n 3, 1) := by decide +kernel
theorem dX5_putBytes_10 : decode cX5_putBytes 10 = .ok (.lushr, 1) := by decide +kernel
theorem dX5_putBytes_11 : decode cX5_putBytes 11 = .ok (.l2i, 1) := by decide +kernel
theorem dX5_putBytes_12 : decode cX5_putBytes 12 = .ok (.sipush 255, 3) := by decide +kernel
theorem dX5_putBytes_15 : decode cX5_putBytes 15 = .ok (.iand, 1) := by decide +kernel
theorem dX5_putBytes_16 : decode cX5_putBytes 16 = .ok (.invokevirtual 15, 3) := by decide +kernel
theorem dX5_putBytes_19 : decode cX5_putBytes 19 = .ok (.iinc 3 (-8), 3) := by decide +kernel
theorem dX5_putBytes_22 : decode cX5_putBytes 22 = .ok (.goto (-19), 3) := by decide +kernel
theorem dX5_putBytes_25 : decode cX5_putBytes 25 = .ok (.return_, 1) := by decide +kernel
theorem dX5_empty_0 : decode cX5_empty 0 = .ok (.aload_n 0, 1) := by decide +kernel
theorem dX5_empty_1 : decode cX5_empty 1 = .ok (.iconst 0, 1) := by decide +kernel
theorem dX5_empty_2 : decode cX5_empty 2 = .ok (.putfield 19, 3) := by decide +kernel
theorem dX5_empty_5 : decode cX5_empty 5 = .ok (.return_, 1) := by decide +kernel
theorem dX5_putSign_0 : decode cX5_putSign 0 = .ok (.iload_n 1, 1) := by decide +kernel
theorem dX5_putSign_1 : decode cX5_putSign 1 = .ok (.bipush 10, 2) := by decide +kernel
theorem dX5_putSign_3 : decode cX5_putSign 3 = .ok (.if_icmp .eq 15, 3) := by decide +kernel
theorem dX5_putSign_6 : decode cX5_putSign 6 = .ok (.iload_n 1, 1) := by decide +kernel
theorem dX5_putSign_7 : decode cX5_putSign 7 = .ok (.bipush 32, 2) := by decide +kernel
theorem dX5_putSign_9 : decode cX5_putSign 9 = .ok (.if_icmp .lt 13, 3) := by decide +kernel
theorem dX5_putSign_12 : decode cX5_putSign 12 = .ok (.iload_n 1, 1) := by decide +kernel
theorem dX5_putSign_13 : decode cX5_putSign 13 = .ok (.bipush 126, 2) := by decide +kernel
theorem dX5_putSign_15 : decode cX5_putSign 15 = .ok (.if_icmp .gt 7, 3) := by decide +kernel
theorem dX5_putSign_18 : decode cX5_putSign 18 = .ok (.iconst 1, 1) := by decide +kernel
theorem dX5_putSign_19 : decode cX5_putSign 19 = .ok (.goto 4, 3) := by decide +kernel
theorem dX5_putSign_22 : decode cX5_putSign 22 = .ok (.iconst 0, 1) := by decide +kernel
theorem dX5_putSign_23 : decode cX5_putSign 23 = .ok (.istore_n 2, 1) := by decide +kernel
theorem dX5_putSign_24 : decode cX5_putSign 24 = .ok (.iload_n 2, 1) := by decide +kernel
theorem dX5_putSign_25 : decode cX5_putSign 25 = .ok (.ifCond .eq 34, 3) := by decide +kernel
theorem dX5_putSign_28 : decode cX5_putSign 28 = .ok (.aload_n 0, 1) := by decide +kernel
theorem dX5_putSign_29 : decode cX5_putSign 29 = .ok (.getfield 19, 3) := by decide +kernel
theorem dX5_putSign_32 : decode cX5_putSign 32 = .ok (.sipush 1000, 3) := by decide +kernel
theorem dX5_putSign_35 : decode cX5_putSign 35 = .ok (.if_icmp .ge 24, 3) := by decide +kernel
theorem dX5_putSign_38 : decode cX5_putSign 38 = .ok (.aload_n 0, 1) := by decide +kernel
theorem dX5_putSign_39 : decode cX5_putSign 39 = .ok (.getfield 9, 3) := by decide +kernel
theorem dX5_putSign_42 : decode cX5_putSign 42 = .ok (.aload_n 0, 1) := by decide +kernel
theorem dX5_putSign_43 : decode cX5_putSign 43 = .ok (.getfield 19, 3) := by decide +kernel
theorem dX5_putSign_46 : decode cX5_putSign 46 = .ok (.iload_n 1, 1) := by decide +kernel
theorem dX5_putSign_47 : decode cX5_putSign 47 = .ok (.i2c, 1) := by decide +kernel
theorem dX5_putSign_48 : decode cX5_putSign 48 = .ok (.castore, 1) := by decide +kernel
theorem dX5_putSign_49 : decode cX5_putSign 49 = .ok (.aload_n 0, 1) := by decide +kernel
theorem dX5_putSign_50 : decode cX5_putSign 50 = .ok (.dup, 1) := by decide +kernel
theorem dX5_putSign_51 : decode cX5_putSign 51 = .ok (.getfield 19, 3) := by decide +kernel
theorem dX5_putSign_54 : decode cX5_putSign 54 = .ok (.iconst 1, 1) := by decide +kernel
theorem dX5_putSign_55 : decode cX5_putSign 55 = .ok (.iadd, 1) := by decide +kernel
theorem dX5_putSign_56 : decode cX5_putSign 56 = .ok (.putfield 19, 3) := by decide +kernel
theorem dX5_putSign_59 : decode cX5_putSign 59 = .ok (.return_, 1) := by decide +kernel
theorem dX6_init_0 : decode cX6_init 0 = .ok (.aload_n 0, 1) := by decide +kernel
theorem dX6_init_1 : decode cX6_init 1 = .ok (.invokespecial 1, 3) := by decide +kernel
theorem dX6_init_4 : decode cX6_init 4 = .ok (.aload_n 0, 1) := by decide +kernel
theorem dX6_init_5 : decode cX6_init 5 = .ok (.aload_n 1, 1) := by decide +kernel
theorem dX6_init_6 : decode cX6_init 6 = .ok (.putfield 7, 3) := by decide +kernel
theorem dX6_init_9 : decode cX6_init 9 = .ok (.return_, 1) := by decide +kernel
theorem dX6_start_0 : decode cX6_start 0 = .ok (.aload_n 0, 1) := by decide +kernel
theorem dX6_start_1 : decode cX6_start 1 = .ok (.iconst 0, 1) := by decide +kernel
theorem dX6_start_2 : decode cX6_start 2 = .ok (.putfield 13, 3) := by decide +kernel
theorem dX6_start_5 : decode cX6_start 5 = .ok (.aload_n 0, 1) := by decide +kernel
theorem dX6_start_6 : decode cX6_start 6 = .ok (.invokevirtual 17, 3) := by decide +kernel
theorem dX6_start_9 : decode cX6_start 9 = .ok (.return_, 1) := by decide +kernel
theorem dX6_step_0 : decode cX6_step 0 = .ok (.aload_n 0, 1) := by decide +kernel
theorem dX6_step_1 : decode cX6_step 1 = .ok (.aload_n 0, 1) := by decide +kernel
theorem dX6_step_2 : decode cX6_step 2 = .ok (.aload_n 0, 1) := by decide +kernel
theorem dX6_step_3 : decode cX6_step 3 = .ok (.getfield 13, 3) := by decide +kernel
theorem dX6_step_6 : decode cX6_step 6 = .ok (.invokevirtual 20, 3) := by decide +kernel
theorem dX6_step_9 : decode cX6_step 9 = .ok (.putfield 24, 3) := by decide +kernel
theorem dX6_step_12 : decode cX6_step 12 = .ok (.aload_n 0, 1) := by decide +kernel
theorem dX6_step_13 : decode cX6_step 13 = .ok (.aload_n 0, 1) := by decide +kernel
theorem dX6_step_14 : decode cX6_step 14 = .ok (.getfield 24, 3) := by decide +kernel
theorem dX6_step_17 : decode cX6_step 17 = .ok (.putfield 13, 3) := by decide +kernel
theorem dX6_step_20 : decode cX6_step 20 = .ok (.aload_n 0, 1) := by decide +kernel
theorem dX6_step_21 : decode cX6_step 21 = .ok (.lconst 0, 1) := by decide +kernel
theorem dX6_step_22 : decode cX6_step 22 = .ok (.putfield 27, 3) := by decide +kernel
theorem dX6_step_25 : decode cX6_step 25 = .ok (.aload_n 0, 1) := by decide +kernel
theorem dX6_step_26 : decode cX6_step 26 = .ok (.getfield 24, 3) := by decide +kernel
theorem dX6_step_29 : decode cX6_step 29 = .ok (.aload_n 0, 1) := by decide +kernel
theorem dX6_step_30 : decode cX6_step 30 = .ok (.getfield 7, 3) := by decide +kernel
theorem dX6_step_33 : decode cX6_step 33 = .ok (.getfield 31, 3) := by decide +kernel
theorem dX6_step_36 : decode cX6_step 36 = .ok (.if_icmp .lt 11, 3) := by decide +kernel
theorem dX6_step_39 : decode cX6_step 39 = .ok (.aload_n 0, 1) := by decide +kernel
theorem dX6_step_40 : decode cX6_step 40 = .ok (.iconst 0, 1) := by decide +kernel
theorem dX6_step_41 : decode cX6_step 41 = .ok (.putfield 36, 3) := by decide +kernel
theorem dX6_step_44 : decode cX6_step 44 = .ok (.goto 57, 3) := by decide +kernel
theorem dX6_step_47 : decode cX6_step 47 = .ok (.aload_n 0, 1) := by decide +kernel
theorem dX6_step_48 : decode cX6_step 48 = .ok (.getfield 7, 3) := by decide +kernel
theorem dX6_step_51 : decode cX6_step 51 = .ok (.getfield 39, 3) := by decide +kernel
theorem dX6_step_54 : decode cX6_step 54 = .ok (.aload_n 0, 1) := by decide +kernel
theorem dX6_step_55 : decode cX6_step 55 = .ok (.getfield 24, 3) := by decide +kernel
theorem dX6_step_58 : decode cX6_step 58 = .ok (.caload, 1) := by decide +kernel
theorem dX6_step_59 : decode cX6_step 59 = .ok (.invokestatic 43, 3) := by decide +kernel
theorem dX6_step_62 : decode cX6_step 62 = .ok (.ifCond .eq 10, 3) := by decide +kernel
theorem dX6_step_65 : decode cX6_step 65 = .ok (.aload_n 0, 1) := by decide +kernel
theorem dX6_step_66 : decode cX6_step 66 = .ok (.invokevirtual 47, 3) := by decide +kernel
theorem dX6_step_69 : decode cX6_step 69 = .ok (.goto 32, 3) := by decide +kernel
theorem dX6_step_72 : decode cX6_step 72 = .ok (.aload_n 0, 1) := by decide +kernel
theorem dX6_step_73 : decode cX6_step 73 = .ok (.getfield 7, 3) := by decide +kernel
theorem dX6_step_76 : decode cX6_step 76 = .ok (.getfield 39, 3) := by decide +kernel
theorem dX6_step_79 : decode cX6_step 79 = .ok (.aload_n 0, 1) := by decide +kernel
theorem dX6_step_80 : decode cX6_step 80 = .ok (.getfield 24, 3) := by decide +kernel
theorem dX6_step_83 : decode cX6_step 83 = .ok (.caload, 1) := by decide +kernel
theorem dX6_step_84 : decode cX6_step 84 = .ok (.invokestatic 50, 3) := by decide +kernel
theorem dX6_step_87 : decode cX6_step 87 = .ok (.ifCond .eq 10, 3) := by decide +kernel
theorem dX6_step_90 : decode cX6_step 90 = .ok (.aload_n 0, 1) := by decide +kernel
theorem dX6_step_91 : decode cX6_step 91 = .ok (.invokevirtual 53, 3) := by decide +kernel
theorem dX6_step_94 : decode cX6_step 94 = .ok (.goto 7, 3) := by decide +kernel
theorem dX6_step_97 : decode cX6_step 97 = .ok (.aload_n 0, 1) := by decide +kernel
theorem dX6_step_98 : decode cX6_step 98 = .ok (.invokevirtual 56, 3) := by decide +kernel
theorem dX6_step_101 : decode cX6_step 101 = .ok (.return_, 1) := by decide +kernel
theorem dX6_is_0 : decode cX6_is 0 = .ok (.aload_n 0, 1) := by decide +kernel
theorem dX6_is_1 : decode cX6_is 1 = .ok (.getfield 36, 3) := by decide +kernel
theorem dX6_is_4 : decode cX6_is 4 = .ok (.iload_n 1, 1) := by decide +kernel
theorem dX6_is_5 : decode cX6_is 5 = .ok (.if_icmp .ne 16, 3) := by decide +kernel
theorem dX6_is_8 : decode cX6_is 8 = .ok (.aload_n 0, 1) := by decide +kernel
theorem dX6_is_9 : decode cX6_is 9 = .ok (.getfield 27, 3) := by decide +kernel
theorem dX6_is_12 : decode cX6_is 12 = .ok (.lload_n 2, 1) := by decide +kernel
