section
-- ===== PART A: goes FIRST, ahead of the names: the tables' words, and 'selects' of the private methods out of them =====
/-- a private method of a class that the tables say can be made, by its rows of tables_1 -/
def lw_okq (q : MethodName × Nat) : Prop := (q.1.cls ≠ "java/lang/invoke/MethodHandle" ∧ q.1.cls ≠ "java/lang/invoke/VarHandle") ∧ Cond.instantiable q.1.cls q.2 ∈ tables_1 ∧ Cond.privateMethod q.1 ∈ tables_1 ∧ Cond.instanceMethod q.1 ∈ tables_1
theorem lw_p0 : lw_okq (⟨"RingWeaves$Tape", "putSign", "(I)V"⟩, 2) := ⟨⟨by decide +kernel, by decide +kernel⟩, List.mem_of_getElem? (i := 27) (by decide +kernel), List.mem_of_getElem? (i := 324) (by decide +kernel), List.mem_of_getElem? (i := 325) (by decide +kernel)⟩
theorem lw_p1 : lw_okq (⟨"RingWeaves$Tokens", "behindBlanks", "(I)I"⟩, 5) := ⟨⟨by decide +kernel, by decide +kernel⟩, List.mem_of_getElem? (i := 46) (by decide +kernel), List.mem_of_getElem? (i := 348) (by decide +kernel), List.mem_of_getElem? (i := 349) (by decide +kernel)⟩
theorem lw_p2 : lw_okq (⟨"RingWeaves$Tokens", "readWord", "()V"⟩, 5) := ⟨⟨by decide +kernel, by decide +kernel⟩, List.mem_of_getElem? (i := 46) (by decide +kernel), List.mem_of_getElem? (i := 355) (by decide +kernel), List.mem_of_getElem? (i := 356) (by decide +kernel)⟩
theorem lw_p3 : lw_okq (⟨"RingWeaves$Tokens", "readNumber", "()V"⟩, 5) := ⟨⟨by decide +kernel, by decide +kernel⟩, List.mem_of_getElem? (i := 46) (by decide +kernel), List.mem_of_getElem? (i := 362) (by decide +kernel), List.mem_of_getElem? (i := 363) (by decide +kernel)⟩
theorem lw_p4 : lw_okq (⟨"RingWeaves$Tokens", "readSign", "()V"⟩, 5) := ⟨⟨by decide +kernel, by decide +kernel⟩, List.mem_of_getElem? (i := 46) (by decide +kernel), List.mem_of_getElem? (i := 367) (by decide +kernel), List.mem_of_getElem? (i := 368) (by decide +kernel)⟩
theorem lw_p5 : lw_okq (⟨"RingWeaves$Reader", "isWord", "(J)Z"⟩, 3) := ⟨⟨by decide +kernel, by decide +kernel⟩, List.mem_of_getElem? (i := 44) (by decide +kernel), List.mem_of_getElem? (i := 372) (by decide +kernel), List.mem_of_getElem? (i := 373) (by decide +kernel)⟩
theorem lw_p6 : lw_okq (⟨"RingWeaves$Reader", "failWith", "(I)V"⟩, 3) := ⟨⟨by decide +kernel, by decide +kernel⟩, List.mem_of_getElem? (i := 44) (by decide +kernel), List.mem_of_getElem? (i := 380) (by decide +kernel), List.mem_of_getElem? (i := 381) (by decide +kernel)⟩
theorem lw_p7 : lw_okq (⟨"RingWeaves$Reader", "readRing", "(LRingWeaves$Weave;)V"⟩, 3) := ⟨⟨by decide +kernel, by decide +kernel⟩, List.mem_of_getElem? (i := 44) (by decide +kernel), List.mem_of_getElem? (i := 384) (by decide +kernel), List.mem_of_getElem? (i := 385) (by decide +kernel)⟩
theorem lw_p8 : lw_okq (⟨"RingWeaves$Reader", "isName", "()Z"⟩, 3) := ⟨⟨by decide +kernel, by decide +kernel⟩, List.mem_of_getElem? (i := 44) (by decide +kernel), List.mem_of_getElem? (i := 389) (by decide +kernel), List.mem_of_getElem? (i := 390) (by decide +kernel)⟩
theorem lw_p9 : lw_okq (⟨"RingWeaves$Reader", "ringOfName", "(LRingWeaves$Weave;)I"⟩, 3) := ⟨⟨by decide +kernel, by decide +kernel⟩, List.mem_of_getElem? (i := 44) (by decide +kernel), List.mem_of_getElem? (i := 396) (by decide +kernel), List.mem_of_getElem? (i := 397) (by decide +kernel)⟩
theorem lw_p10 : lw_okq (⟨"RingWeaves$Reader", "passSemicolon", "()V"⟩, 3) := ⟨⟨by decide +kernel, by decide +kernel⟩, List.mem_of_getElem? (i := 44) (by decide +kernel), List.mem_of_getElem? (i := 400) (by decide +kernel), List.mem_of_getElem? (i := 401) (by decide +kernel)⟩
theorem lw_p11 : lw_okq (⟨"RingWeaves$Reader", "readLink", "(LRingWeaves$Weave;)V"⟩, 3) := ⟨⟨by decide +kernel, by decide +kernel⟩, List.mem_of_getElem? (i := 44) (by decide +kernel), List.mem_of_getElem? (i := 405) (by decide +kernel), List.mem_of_getElem? (i := 406) (by decide +kernel)⟩
theorem lw_p12 : lw_okq (⟨"RingWeaves$Reader", "readToldName", "(LRingWeaves$Weave;)I"⟩, 3) := ⟨⟨by decide +kernel, by decide +kernel⟩, List.mem_of_getElem? (i := 44) (by decide +kernel), List.mem_of_getElem? (i := 409) (by decide +kernel), List.mem_of_getElem? (i := 410) (by decide +kernel)⟩
theorem lw_p13 : lw_okq (⟨"RingWeaves$Reader", "readAway", "()I"⟩, 3) := ⟨⟨by decide +kernel, by decide +kernel⟩, List.mem_of_getElem? (i := 44) (by decide +kernel), List.mem_of_getElem? (i := 413) (by decide +kernel), List.mem_of_getElem? (i := 414) (by decide +kernel)⟩
theorem lw_p14 : lw_okq (⟨"RingWeaves$Reader", "readOver", "(LRingWeaves$Weave;)Z"⟩, 3) := ⟨⟨by decide +kernel, by decide +kernel⟩, List.mem_of_getElem? (i := 44) (by decide +kernel), List.mem_of_getElem? (i := 420) (by decide +kernel), List.mem_of_getElem? (i := 421) (by decide +kernel)⟩
theorem lw_p15 : lw_okq (⟨"RingWeaves$Weave", "isSameToldAlike", "(II)Z"⟩, 7) := ⟨⟨by decide +kernel, by decide +kernel⟩, List.mem_of_getElem? (i := 92) (by decide +kernel), List.mem_of_getElem? (i := 428) (by decide +kernel), List.mem_of_getElem? (i := 429) (by decide +kernel)⟩
def lw_privs_1 : List (MethodName × Nat) := [(⟨"RingWeaves$Tape", "putSign", "(I)V"⟩, 2), (⟨"RingWeaves$Tokens", "behindBlanks", "(I)I"⟩, 5), (⟨"RingWeaves$Tokens", "readWord", "()V"⟩, 5), (⟨"RingWeaves$Tokens", "readNumber", "()V"⟩, 5), (⟨"RingWeaves$Tokens", "readSign", "()V"⟩, 5), (⟨"RingWeaves$Reader", "isWord", "(J)Z"⟩, 3), (⟨"RingWeaves$Reader", "failWith", "(I)V"⟩, 3), (⟨"RingWeaves$Reader", "readRing", "(LRingWeaves$Weave;)V"⟩, 3), (⟨"RingWeaves$Reader", "isName", "()Z"⟩, 3), (⟨"RingWeaves$Reader", "ringOfName", "(LRingWeaves$Weave;)I"⟩, 3), (⟨"RingWeaves$Reader", "passSemicolon", "()V"⟩, 3), (⟨"RingWeaves$Reader", "readLink", "(LRingWeaves$Weave;)V"⟩, 3), (⟨"RingWeaves$Reader", "readToldName", "(LRingWeaves$Weave;)I"⟩, 3), (⟨"RingWeaves$Reader", "readAway", "()I"⟩, 3), (⟨"RingWeaves$Reader", "readOver", "(LRingWeaves$Weave;)Z"⟩, 3), (⟨"RingWeaves$Weave", "isSameToldAlike", "(II)Z"⟩, 7)]
theorem lw_r1 : ∀ q ∈ lw_privs_1, lw_okq q := List.forall_mem_cons.mpr ⟨lw_p0, List.forall_mem_cons.mpr ⟨lw_p1, List.forall_mem_cons.mpr ⟨lw_p2, List.forall_mem_cons.mpr ⟨lw_p3, List.forall_mem_cons.mpr ⟨lw_p4, List.forall_mem_cons.mpr ⟨lw_p5, List.forall_mem_cons.mpr ⟨lw_p6, List.forall_mem_cons.mpr ⟨lw_p7, List.forall_mem_cons.mpr ⟨lw_p8, List.forall_mem_cons.mpr ⟨lw_p9, List.forall_mem_cons.mpr ⟨lw_p10, List.forall_mem_cons.mpr ⟨lw_p11, List.forall_mem_cons.mpr ⟨lw_p12, List.forall_mem_cons.mpr ⟨lw_p13, List.forall_mem_cons.mpr ⟨lw_p14, List.forall_mem_cons.mpr ⟨lw_p15, fun _ h => absurd h List.not_mem_nil⟩⟩⟩⟩⟩⟩⟩⟩⟩⟩⟩⟩⟩⟩⟩⟩
theorem lw_p16 : lw_okq (⟨"RingWeaves$Weave", "isSameToldBack", "(II)Z"⟩, 7) := ⟨⟨by decide +kernel, by decide +kernel⟩, List.mem_of_getElem? (i := 92) (by decide +kernel), List.mem_of_getElem? (i := 432) (by decide +kernel), List.mem_of_getElem? (i := 433) (by decide +kernel)⟩
theorem lw_p17 : lw_okq (⟨"RingWeaves$Mail", "joinAsTold", "(I)V"⟩, 9) := ⟨⟨by decide +kernel, by decide +kernel⟩, List.mem_of_getElem? (i := 86) (by decide +kernel), List.mem_of_getElem? (i := 465) (by decide +kernel), List.mem_of_getElem? (i := 466) (by decide +kernel)⟩
theorem lw_p18 : lw_okq (⟨"RingWeaves$Mail", "joinOneAsTold", "(IIZ)V"⟩, 9) := ⟨⟨by decide +kernel, by decide +kernel⟩, List.mem_of_getElem? (i := 86) (by decide +kernel), List.mem_of_getElem? (i := 469) (by decide +kernel), List.mem_of_getElem? (i := 470) (by decide +kernel)⟩
theorem lw_p19 : lw_okq (⟨"RingWeaves$Mail", "isOfLink", "(IIZ)Z"⟩, 9) := ⟨⟨by decide +kernel, by decide +kernel⟩, List.mem_of_getElem? (i := 86) (by decide +kernel), List.mem_of_getElem? (i := 473) (by decide +kernel), List.mem_of_getElem? (i := 474) (by decide +kernel)⟩
theorem lw_p20 : lw_okq (⟨"RingWeaves$Mail", "otherAsTold", "(IIZ)I"⟩, 9) := ⟨⟨by decide +kernel, by decide +kernel⟩, List.mem_of_getElem? (i := 86) (by decide +kernel), List.mem_of_getElem? (i := 477) (by decide +kernel), List.mem_of_getElem? (i := 478) (by decide +kernel)⟩
theorem lw_p21 : lw_okq (⟨"RingWeaves$Pieces", "walkPiece", "(I)V"⟩, 14) := ⟨⟨by decide +kernel, by decide +kernel⟩, List.mem_of_getElem? (i := 183) (by decide +kernel), List.mem_of_getElem? (i := 605) (by decide +kernel), List.mem_of_getElem? (i := 606) (by decide +kernel)⟩
theorem lw_p22 : lw_okq (⟨"RingWeaves$Pieces", "enter", "(II)V"⟩, 14) := ⟨⟨by decide +kernel, by decide +kernel⟩, List.mem_of_getElem? (i := 183) (by decide +kernel), List.mem_of_getElem? (i := 609) (by decide +kernel), List.mem_of_getElem? (i := 610) (by decide +kernel)⟩
theorem lw_p23 : lw_okq (⟨"RingWeaves$Pieces", "leave", "(I)V"⟩, 14) := ⟨⟨by decide +kernel, by decide +kernel⟩, List.mem_of_getElem? (i := 183) (by decide +kernel), List.mem_of_getElem? (i := 615) (by decide +kernel), List.mem_of_getElem? (i := 616) (by decide +kernel)⟩
theorem lw_p24 : lw_okq (⟨"RingWeaves$Pieces", "markCut", "(I)V"⟩, 14) := ⟨⟨by decide +kernel, by decide +kernel⟩, List.mem_of_getElem? (i := 183) (by decide +kernel), List.mem_of_getElem? (i := 622) (by decide +kernel), List.mem_of_getElem? (i := 623) (by decide +kernel)⟩
theorem lw_p25 : lw_okq (⟨"RingWeaves$Pieces", "tryLink", "(II)I"⟩, 14) := ⟨⟨by decide +kernel, by decide +kernel⟩, List.mem_of_getElem? (i := 183) (by decide +kernel), List.mem_of_getElem? (i := 626) (by decide +kernel), List.mem_of_getElem? (i := 627) (by decide +kernel)⟩
theorem lw_p26 : lw_okq (⟨"RingWeaves$Making", "pairWhatIsFree", "()V"⟩, 11) := ⟨⟨by decide +kernel, by decide +kernel⟩, List.mem_of_getElem? (i := 239) (by decide +kernel), List.mem_of_getElem? (i := 631) (by decide +kernel), List.mem_of_getElem? (i := 632) (by decide +kernel)⟩
theorem lw_p27 : lw_okq (⟨"RingWeaves$Making", "isOfFirstSide", "(I)Z"⟩, 11) := ⟨⟨by decide +kernel, by decide +kernel⟩, List.mem_of_getElem? (i := 239) (by decide +kernel), List.mem_of_getElem? (i := 638) (by decide +kernel), List.mem_of_getElem? (i := 639) (by decide +kernel)⟩
theorem lw_p28 : lw_okq (⟨"RingWeaves$Making", "pairWithFree", "(I)V"⟩, 11) := ⟨⟨by decide +kernel, by decide +kernel⟩, List.mem_of_getElem? (i := 239) (by decide +kernel), List.mem_of_getElem? (i := 643) (by decide +kernel), List.mem_of_getElem? (i := 644) (by decide +kernel)⟩
theorem lw_p29 : lw_okq (⟨"RingWeaves$Making", "pairAsManyAsCanBe", "()V"⟩, 11) := ⟨⟨by decide +kernel, by decide +kernel⟩, List.mem_of_getElem? (i := 239) (by decide +kernel), List.mem_of_getElem? (i := 648) (by decide +kernel), List.mem_of_getElem? (i := 649) (by decide +kernel)⟩
theorem lw_p30 : lw_okq (⟨"RingWeaves$Making", "reachFromUnpaired", "()I"⟩, 11) := ⟨⟨by decide +kernel, by decide +kernel⟩, List.mem_of_getElem? (i := 239) (by decide +kernel), List.mem_of_getElem? (i := 652) (by decide +kernel), List.mem_of_getElem? (i := 653) (by decide +kernel)⟩
theorem lw_p31 : lw_okq (⟨"RingWeaves$Making", "queueUnpaired", "()V"⟩, 11) := ⟨⟨by decide +kernel, by decide +kernel⟩, List.mem_of_getElem? (i := 239) (by decide +kernel), List.mem_of_getElem? (i := 656) (by decide +kernel), List.mem_of_getElem? (i := 657) (by decide +kernel)⟩
def lw_privs_2 : List (MethodName × Nat) := [(⟨"RingWeaves$Weave", "isSameToldBack", "(II)Z"⟩, 7), (⟨"RingWeaves$Mail", "joinAsTold", "(I)V"⟩, 9), (⟨"RingWeaves$Mail", "joinOneAsTold", "(IIZ)V"⟩, 9), (⟨"RingWeaves$Mail", "isOfLink", "(IIZ)Z"⟩, 9), (⟨"RingWeaves$Mail", "otherAsTold", "(IIZ)I"⟩, 9), (⟨"RingWeaves$Pieces", "walkPiece", "(I)V"⟩, 14), (⟨"RingWeaves$Pieces", "enter", "(II)V"⟩, 14), (⟨"RingWeaves$Pieces", "leave", "(I)V"⟩, 14), (⟨"RingWeaves$Pieces", "markCut", "(I)V"⟩, 14), (⟨"RingWeaves$Pieces", "tryLink", "(II)I"⟩, 14), (⟨"RingWeaves$Making", "pairWhatIsFree", "()V"⟩, 11), (⟨"RingWeaves$Making", "isOfFirstSide", "(I)Z"⟩, 11), (⟨"RingWeaves$Making", "pairWithFree", "(I)V"⟩, 11), (⟨"RingWeaves$Making", "pairAsManyAsCanBe", "()V"⟩, 11), (⟨"RingWeaves$Making", "reachFromUnpaired", "()I"⟩, 11), (⟨"RingWeaves$Making", "queueUnpaired", "()V"⟩, 11)]
theorem lw_r2 : ∀ q ∈ lw_privs_2, lw_okq q := List.forall_mem_cons.mpr ⟨lw_p16, List.forall_mem_cons.mpr ⟨lw_p17, List.forall_mem_cons.mpr ⟨lw_p18, List.forall_mem_cons.mpr ⟨lw_p19, List.forall_mem_cons.mpr ⟨lw_p20, List.forall_mem_cons.mpr ⟨lw_p21, List.forall_mem_cons.mpr ⟨lw_p22, List.forall_mem_cons.mpr ⟨lw_p23, List.forall_mem_cons.mpr ⟨lw_p24, List.forall_mem_cons.mpr ⟨lw_p25, List.forall_mem_cons.mpr ⟨lw_p26, List.forall_mem_cons.mpr ⟨lw_p27, List.forall_mem_cons.mpr ⟨lw_p28, List.forall_mem_cons.mpr ⟨lw_p29, List.forall_mem_cons.mpr ⟨lw_p30, List.forall_mem_cons.mpr ⟨lw_p31, fun _ h => absurd h List.not_mem_nil⟩⟩⟩⟩⟩⟩⟩⟩⟩⟩⟩⟩⟩⟩⟩⟩
theorem lw_p32 : lw_okq (⟨"RingWeaves$Making", "putInQueue", "(I)V"⟩, 11) := ⟨⟨by decide +kernel, by decide +kernel⟩, List.mem_of_getElem? (i := 239) (by decide +kernel), List.mem_of_getElem? (i := 660) (by decide +kernel), List.mem_of_getElem? (i := 661) (by decide +kernel)⟩
theorem lw_p33 : lw_okq (⟨"RingWeaves$Making", "reachFrom", "(I)I"⟩, 11) := ⟨⟨by decide +kernel, by decide +kernel⟩, List.mem_of_getElem? (i := 239) (by decide +kernel), List.mem_of_getElem? (i := 664) (by decide +kernel), List.mem_of_getElem? (i := 665) (by decide +kernel)⟩
theorem lw_p34 : lw_okq (⟨"RingWeaves$Making", "turnPairsUpTo", "(I)V"⟩, 11) := ⟨⟨by decide +kernel, by decide +kernel⟩, List.mem_of_getElem? (i := 239) (by decide +kernel), List.mem_of_getElem? (i := 668) (by decide +kernel), List.mem_of_getElem? (i := 669) (by decide +kernel)⟩
theorem lw_p35 : lw_okq (⟨"RingWeaves$Making", "markOpened", "()V"⟩, 11) := ⟨⟨by decide +kernel, by decide +kernel⟩, List.mem_of_getElem? (i := 239) (by decide +kernel), List.mem_of_getElem? (i := 672) (by decide +kernel), List.mem_of_getElem? (i := 673) (by decide +kernel)⟩
theorem lw_p36 : lw_okq (⟨"RingWeaves$Making", "needsOpening", "(I)Z"⟩, 11) := ⟨⟨by decide +kernel, by decide +kernel⟩, List.mem_of_getElem? (i := 239) (by decide +kernel), List.mem_of_getElem? (i := 676) (by decide +kernel), List.mem_of_getElem? (i := 677) (by decide +kernel)⟩
theorem lw_p37 : lw_okq (⟨"RingWeaves$Making", "putInOrder", "()V"⟩, 11) := ⟨⟨by decide +kernel, by decide +kernel⟩, List.mem_of_getElem? (i := 239) (by decide +kernel), List.mem_of_getElem? (i := 682) (by decide +kernel), List.mem_of_getElem? (i := 683) (by decide +kernel)⟩
theorem lw_p38 : lw_okq (⟨"RingWeaves$Making", "nextToOpen", "()I"⟩, 11) := ⟨⟨by decide +kernel, by decide +kernel⟩, List.mem_of_getElem? (i := 239) (by decide +kernel), List.mem_of_getElem? (i := 690) (by decide +kernel), List.mem_of_getElem? (i := 691) (by decide +kernel)⟩
theorem lw_p39 : lw_okq (⟨"RingWeaves$Making", "takeInHand", "(I)V"⟩, 11) := ⟨⟨by decide +kernel, by decide +kernel⟩, List.mem_of_getElem? (i := 239) (by decide +kernel), List.mem_of_getElem? (i := 696) (by decide +kernel), List.mem_of_getElem? (i := 697) (by decide +kernel)⟩
theorem lw_p40 : lw_okq (⟨"RingWeaves$Making", "takeLinkedInHand", "(I)V"⟩, 11) := ⟨⟨by decide +kernel, by decide +kernel⟩, List.mem_of_getElem? (i := 239) (by decide +kernel), List.mem_of_getElem? (i := 700) (by decide +kernel), List.mem_of_getElem? (i := 701) (by decide +kernel)⟩
theorem lw_p41 : lw_okq (⟨"RingWeaves$Mail", "standsAsTold", "(IIZ)Z"⟩, 9) := ⟨⟨by decide +kernel, by decide +kernel⟩, List.mem_of_getElem? (i := 86) (by decide +kernel), List.mem_of_getElem? (i := 733) (by decide +kernel), List.mem_of_getElem? (i := 734) (by decide +kernel)⟩
theorem lw_p42 : lw_okq (⟨"RingWeaves", "bindingRings", "()I"⟩, 10) := ⟨⟨by decide +kernel, by decide +kernel⟩, List.mem_of_getElem? (i := 19) (by decide +kernel), List.mem_of_getElem? (i := 737) (by decide +kernel), List.mem_of_getElem? (i := 738) (by decide +kernel)⟩
theorem lw_p43 : lw_okq (⟨"RingWeaves", "binds", "(I)Z"⟩, 10) := ⟨⟨by decide +kernel, by decide +kernel⟩, List.mem_of_getElem? (i := 19) (by decide +kernel), List.mem_of_getElem? (i := 741) (by decide +kernel), List.mem_of_getElem? (i := 742) (by decide +kernel)⟩
theorem lw_p44 : lw_okq (⟨"RingWeaves", "wireOfAll", "()I"⟩, 10) := ⟨⟨by decide +kernel, by decide +kernel⟩, List.mem_of_getElem? (i := 19) (by decide +kernel), List.mem_of_getElem? (i := 751) (by decide +kernel), List.mem_of_getElem? (i := 752) (by decide +kernel)⟩
theorem lw_p45 : lw_okq (⟨"RingWeaves", "weightOfAll", "()I"⟩, 10) := ⟨⟨by decide +kernel, by decide +kernel⟩, List.mem_of_getElem? (i := 19) (by decide +kernel), List.mem_of_getElem? (i := 755) (by decide +kernel), List.mem_of_getElem? (i := 756) (by decide +kernel)⟩
theorem lw_p46 : lw_okq (⟨"java/lang/Throwable", "fillInStackTrace", "(I)Ljava/lang/Throwable;"⟩, 6) := ⟨⟨by decide +kernel, by decide +kernel⟩, List.mem_of_getElem? (i := 809) (by decide +kernel), List.mem_of_getElem? (i := 807) (by decide +kernel), List.mem_of_getElem? (i := 808) (by decide +kernel)⟩
theorem lw_p47 : lw_okq (⟨"RingWeaves", "lookAtOneThere", "(II)I"⟩, 10) := ⟨⟨by decide +kernel, by decide +kernel⟩, List.mem_of_getElem? (i := 19) (by decide +kernel), List.mem_of_getElem? (i := 843) (by decide +kernel), List.mem_of_getElem? (i := 844) (by decide +kernel)⟩
def lw_privs_3 : List (MethodName × Nat) := [(⟨"RingWeaves$Making", "putInQueue", "(I)V"⟩, 11), (⟨"RingWeaves$Making", "reachFrom", "(I)I"⟩, 11), (⟨"RingWeaves$Making", "turnPairsUpTo", "(I)V"⟩, 11), (⟨"RingWeaves$Making", "markOpened", "()V"⟩, 11), (⟨"RingWeaves$Making", "needsOpening", "(I)Z"⟩, 11), (⟨"RingWeaves$Making", "putInOrder", "()V"⟩, 11), (⟨"RingWeaves$Making", "nextToOpen", "()I"⟩, 11), (⟨"RingWeaves$Making", "takeInHand", "(I)V"⟩, 11), (⟨"RingWeaves$Making", "takeLinkedInHand", "(I)V"⟩, 11), (⟨"RingWeaves$Mail", "standsAsTold", "(IIZ)Z"⟩, 9), (⟨"RingWeaves", "bindingRings", "()I"⟩, 10), (⟨"RingWeaves", "binds", "(I)Z"⟩, 10), (⟨"RingWeaves", "wireOfAll", "()I"⟩, 10), (⟨"RingWeaves", "weightOfAll", "()I"⟩, 10), (⟨"java/lang/Throwable", "fillInStackTrace", "(I)Ljava/lang/Throwable;"⟩, 6), (⟨"RingWeaves", "lookAtOneThere", "(II)I"⟩, 10)]
theorem lw_r3 : ∀ q ∈ lw_privs_3, lw_okq q := List.forall_mem_cons.mpr ⟨lw_p32, List.forall_mem_cons.mpr ⟨lw_p33, List.forall_mem_cons.mpr ⟨lw_p34, List.forall_mem_cons.mpr ⟨lw_p35, List.forall_mem_cons.mpr ⟨lw_p36, List.forall_mem_cons.mpr ⟨lw_p37, List.forall_mem_cons.mpr ⟨lw_p38, List.forall_mem_cons.mpr ⟨lw_p39, List.forall_mem_cons.mpr ⟨lw_p40, List.forall_mem_cons.mpr ⟨lw_p41, List.forall_mem_cons.mpr ⟨lw_p42, List.forall_mem_cons.mpr ⟨lw_p43, List.forall_mem_cons.mpr ⟨lw_p44, List.forall_mem_cons.mpr ⟨lw_p45, List.forall_mem_cons.mpr ⟨lw_p46, List.forall_mem_cons.mpr ⟨lw_p47, fun _ h => absurd h List.not_mem_nil⟩⟩⟩⟩⟩⟩⟩⟩⟩⟩⟩⟩⟩⟩⟩⟩
theorem lw_p48 : lw_okq (⟨"RingWeavesModel", "lay", "(J)V"⟩, 38) := ⟨⟨by decide +kernel, by decide +kernel⟩, List.mem_of_getElem? (i := 862) (by decide +kernel), List.mem_of_getElem? (i := 860) (by decide +kernel), List.mem_of_getElem? (i := 861) (by decide +kernel)⟩
theorem lw_p49 : lw_okq (⟨"RingWeavesModel", "cutAll", "()V"⟩, 38) := ⟨⟨by decide +kernel, by decide +kernel⟩, List.mem_of_getElem? (i := 862) (by decide +kernel), List.mem_of_getElem? (i := 994) (by decide +kernel), List.mem_of_getElem? (i := 995) (by decide +kernel)⟩
theorem lw_p50 : lw_okq (⟨"RingWeavesModel", "isWord", "(I)Z"⟩, 38) := ⟨⟨by decide +kernel, by decide +kernel⟩, List.mem_of_getElem? (i := 862) (by decide +kernel), List.mem_of_getElem? (i := 1013) (by decide +kernel), List.mem_of_getElem? (i := 1014) (by decide +kernel)⟩
theorem lw_p51 : lw_okq (⟨"RingWeavesModel", "wrong", "(I)V"⟩, 38) := ⟨⟨by decide +kernel, by decide +kernel⟩, List.mem_of_getElem? (i := 862) (by decide +kernel), List.mem_of_getElem? (i := 1017) (by decide +kernel), List.mem_of_getElem? (i := 1018) (by decide +kernel)⟩
theorem lw_p52 : lw_okq (⟨"RingWeavesModel", "readRing", "()V"⟩, 38) := ⟨⟨by decide +kernel, by decide +kernel⟩, List.mem_of_getElem? (i := 862) (by decide +kernel), List.mem_of_getElem? (i := 1021) (by decide +kernel), List.mem_of_getElem? (i := 1022) (by decide +kernel)⟩
theorem lw_p53 : lw_okq (⟨"RingWeavesModel", "isName", "()Z"⟩, 38) := ⟨⟨by decide +kernel, by decide +kernel⟩, List.mem_of_getElem? (i := 862) (by decide +kernel), List.mem_of_getElem? (i := 1025) (by decide +kernel), List.mem_of_getElem? (i := 1026) (by decide +kernel)⟩
theorem lw_p54 : lw_okq (⟨"RingWeavesModel", "findRing", "(J)I"⟩, 38) := ⟨⟨by decide +kernel, by decide +kernel⟩, List.mem_of_getElem? (i := 862) (by decide +kernel), List.mem_of_getElem? (i := 1029) (by decide +kernel), List.mem_of_getElem? (i := 1030) (by decide +kernel)⟩
theorem lw_p55 : lw_okq (⟨"RingWeavesModel", "takeSign", "(I)V"⟩, 38) := ⟨⟨by decide +kernel, by decide +kernel⟩, List.mem_of_getElem? (i := 862) (by decide +kernel), List.mem_of_getElem? (i := 1033) (by decide +kernel), List.mem_of_getElem? (i := 1034) (by decide +kernel)⟩
theorem lw_p56 : lw_okq (⟨"RingWeavesModel", "isSign", "(I)Z"⟩, 38) := ⟨⟨by decide +kernel, by decide +kernel⟩, List.mem_of_getElem? (i := 862) (by decide +kernel), List.mem_of_getElem? (i := 1037) (by decide +kernel), List.mem_of_getElem? (i := 1038) (by decide +kernel)⟩
theorem lw_p57 : lw_okq (⟨"RingWeavesModel", "readLink", "()V"⟩, 38) := ⟨⟨by decide +kernel, by decide +kernel⟩, List.mem_of_getElem? (i := 862) (by decide +kernel), List.mem_of_getElem? (i := 1041) (by decide +kernel), List.mem_of_getElem? (i := 1042) (by decide +kernel)⟩
theorem lw_p58 : lw_okq (⟨"RingWeavesModel", "takeRing", "()I"⟩, 38) := ⟨⟨by decide +kernel, by decide +kernel⟩, List.mem_of_getElem? (i := 862) (by decide +kernel), List.mem_of_getElem? (i := 1045) (by decide +kernel), List.mem_of_getElem? (i := 1046) (by decide +kernel)⟩
theorem lw_p59 : lw_okq (⟨"RingWeavesModel", "takeAway", "()I"⟩, 38) := ⟨⟨by decide +kernel, by decide +kernel⟩, List.mem_of_getElem? (i := 862) (by decide +kernel), List.mem_of_getElem? (i := 1049) (by decide +kernel), List.mem_of_getElem? (i := 1050) (by decide +kernel)⟩
theorem lw_p60 : lw_okq (⟨"RingWeavesModel", "hasSign", "(I)Z"⟩, 38) := ⟨⟨by decide +kernel, by decide +kernel⟩, List.mem_of_getElem? (i := 862) (by decide +kernel), List.mem_of_getElem? (i := 1053) (by decide +kernel), List.mem_of_getElem? (i := 1054) (by decide +kernel)⟩
theorem lw_p61 : lw_okq (⟨"RingWeavesModel", "isLinkTold", "(IIII)Z"⟩, 38) := ⟨⟨by decide +kernel, by decide +kernel⟩, List.mem_of_getElem? (i := 862) (by decide +kernel), List.mem_of_getElem? (i := 1058) (by decide +kernel), List.mem_of_getElem? (i := 1059) (by decide +kernel)⟩
theorem lw_p62 : lw_okq (⟨"RingWeavesModel", "copies", "(II)V"⟩, 38) := ⟨⟨by decide +kernel, by decide +kernel⟩, List.mem_of_getElem? (i := 862) (by decide +kernel), List.mem_of_getElem? (i := 1062) (by decide +kernel), List.mem_of_getElem? (i := 1063) (by decide +kernel)⟩
theorem lw_p63 : lw_okq (⟨"RingWeavesModel", "links", "(I)V"⟩, 38) := ⟨⟨by decide +kernel, by decide +kernel⟩, List.mem_of_getElem? (i := 862) (by decide +kernel), List.mem_of_getElem? (i := 1070) (by decide +kernel), List.mem_of_getElem? (i := 1071) (by decide +kernel)⟩
def lw_privs_4 : List (MethodName × Nat) := [(⟨"RingWeavesModel", "lay", "(J)V"⟩, 38), (⟨"RingWeavesModel", "cutAll", "()V"⟩, 38), (⟨"RingWeavesModel", "isWord", "(I)Z"⟩, 38), (⟨"RingWeavesModel", "wrong", "(I)V"⟩, 38), (⟨"RingWeavesModel", "readRing", "()V"⟩, 38), (⟨"RingWeavesModel", "isName", "()Z"⟩, 38), (⟨"RingWeavesModel", "findRing", "(J)I"⟩, 38), (⟨"RingWeavesModel", "takeSign", "(I)V"⟩, 38), (⟨"RingWeavesModel", "isSign", "(I)Z"⟩, 38), (⟨"RingWeavesModel", "readLink", "()V"⟩, 38), (⟨"RingWeavesModel", "takeRing", "()I"⟩, 38), (⟨"RingWeavesModel", "takeAway", "()I"⟩, 38), (⟨"RingWeavesModel", "hasSign", "(I)Z"⟩, 38), (⟨"RingWeavesModel", "isLinkTold", "(IIII)Z"⟩, 38), (⟨"RingWeavesModel", "copies", "(II)V"⟩, 38), (⟨"RingWeavesModel", "links", "(I)V"⟩, 38)]
theorem lw_r4 : ∀ q ∈ lw_privs_4, lw_okq q := List.forall_mem_cons.mpr ⟨lw_p48, List.forall_mem_cons.mpr ⟨lw_p49, List.forall_mem_cons.mpr ⟨lw_p50, List.forall_mem_cons.mpr ⟨lw_p51, List.forall_mem_cons.mpr ⟨lw_p52, List.forall_mem_cons.mpr ⟨lw_p53, List.forall_mem_cons.mpr ⟨lw_p54, List.forall_mem_cons.mpr ⟨lw_p55, List.forall_mem_cons.mpr ⟨lw_p56, List.forall_mem_cons.mpr ⟨lw_p57, List.forall_mem_cons.mpr ⟨lw_p58, List.forall_mem_cons.mpr ⟨lw_p59, List.forall_mem_cons.mpr ⟨lw_p60, List.forall_mem_cons.mpr ⟨lw_p61, List.forall_mem_cons.mpr ⟨lw_p62, List.forall_mem_cons.mpr ⟨lw_p63, fun _ h => absurd h List.not_mem_nil⟩⟩⟩⟩⟩⟩⟩⟩⟩⟩⟩⟩⟩⟩⟩⟩
theorem lw_p64 : lw_okq (⟨"RingWeavesModel", "partner", "(IIZ)I"⟩, 38) := ⟨⟨by decide +kernel, by decide +kernel⟩, List.mem_of_getElem? (i := 862) (by decide +kernel), List.mem_of_getElem? (i := 1074) (by decide +kernel), List.mem_of_getElem? (i := 1075) (by decide +kernel)⟩
theorem lw_p65 : lw_okq (⟨"RingWeavesModel", "sets", "(III)V"⟩, 38) := ⟨⟨by decide +kernel, by decide +kernel⟩, List.mem_of_getElem? (i := 862) (by decide +kernel), List.mem_of_getElem? (i := 1078) (by decide +kernel), List.mem_of_getElem? (i := 1079) (by decide +kernel)⟩
theorem lw_p66 : lw_okq (⟨"RingWeavesModel", "isRing", "(I)Z"⟩, 38) := ⟨⟨by decide +kernel, by decide +kernel⟩, List.mem_of_getElem? (i := 862) (by decide +kernel), List.mem_of_getElem? (i := 1094) (by decide +kernel), List.mem_of_getElem? (i := 1095) (by decide +kernel)⟩
theorem lw_p67 : lw_okq (⟨"RingWeavesModel", "linksOf", "(I)I"⟩, 38) := ⟨⟨by decide +kernel, by decide +kernel⟩, List.mem_of_getElem? (i := 862) (by decide +kernel), List.mem_of_getElem? (i := 1098) (by decide +kernel), List.mem_of_getElem? (i := 1099) (by decide +kernel)⟩
theorem lw_p68 : lw_okq (⟨"RingWeavesModel", "areLinked", "(II)Z"⟩, 38) := ⟨⟨by decide +kernel, by decide +kernel⟩, List.mem_of_getElem? (i := 862) (by decide +kernel), List.mem_of_getElem? (i := 1106) (by decide +kernel), List.mem_of_getElem? (i := 1107) (by decide +kernel)⟩
theorem lw_p69 : lw_okq (⟨"RingWeavesModel", "opens", "()I"⟩, 38) := ⟨⟨by decide +kernel, by decide +kernel⟩, List.mem_of_getElem? (i := 862) (by decide +kernel), List.mem_of_getElem? (i := 1122) (by decide +kernel), List.mem_of_getElem? (i := 1123) (by decide +kernel)⟩
theorem lw_p70 : lw_okq (⟨"RingWeavesModel", "findNear", "()V"⟩, 38) := ⟨⟨by decide +kernel, by decide +kernel⟩, List.mem_of_getElem? (i := 862) (by decide +kernel), List.mem_of_getElem? (i := 1126) (by decide +kernel), List.mem_of_getElem? (i := 1127) (by decide +kernel)⟩
theorem lw_p71 : lw_okq (⟨"RingWeavesModel", "parts", "()Z"⟩, 38) := ⟨⟨by decide +kernel, by decide +kernel⟩, List.mem_of_getElem? (i := 862) (by decide +kernel), List.mem_of_getElem? (i := 1130) (by decide +kernel), List.mem_of_getElem? (i := 1131) (by decide +kernel)⟩
theorem lw_p72 : lw_okq (⟨"RingWeavesModel", "finds", "(I)Z"⟩, 38) := ⟨⟨by decide +kernel, by decide +kernel⟩, List.mem_of_getElem? (i := 862) (by decide +kernel), List.mem_of_getElem? (i := 1134) (by decide +kernel), List.mem_of_getElem? (i := 1135) (by decide +kernel)⟩
theorem lw_p73 : lw_okq (⟨"RingWeavesModel", "reaches", "(I)V"⟩, 38) := ⟨⟨by decide +kernel, by decide +kernel⟩, List.mem_of_getElem? (i := 862) (by decide +kernel), List.mem_of_getElem? (i := 1138) (by decide +kernel), List.mem_of_getElem? (i := 1139) (by decide +kernel)⟩
theorem lw_p74 : lw_okq (⟨"RingWeavesModel", "nextOpened", "()I"⟩, 38) := ⟨⟨by decide +kernel, by decide +kernel⟩, List.mem_of_getElem? (i := 862) (by decide +kernel), List.mem_of_getElem? (i := 1146) (by decide +kernel), List.mem_of_getElem? (i := 1147) (by decide +kernel)⟩
theorem lw_p75 : lw_okq (⟨"RingWeavesModel", "isNearHand", "(I)Z"⟩, 38) := ⟨⟨by decide +kernel, by decide +kernel⟩, List.mem_of_getElem? (i := 862) (by decide +kernel), List.mem_of_getElem? (i := 1150) (by decide +kernel), List.mem_of_getElem? (i := 1151) (by decide +kernel)⟩
theorem lw_p76 : lw_okq (⟨"RingWeavesModel", "isFull", "(I)Z"⟩, 38) := ⟨⟨by decide +kernel, by decide +kernel⟩, List.mem_of_getElem? (i := 862) (by decide +kernel), List.mem_of_getElem? (i := 1162) (by decide +kernel), List.mem_of_getElem? (i := 1163) (by decide +kernel)⟩
theorem lw_p77 : lw_okq (⟨"RingWeavesModel", "binds", "(I)Z"⟩, 38) := ⟨⟨by decide +kernel, by decide +kernel⟩, List.mem_of_getElem? (i := 862) (by decide +kernel), List.mem_of_getElem? (i := 1166) (by decide +kernel), List.mem_of_getElem? (i := 1167) (by decide +kernel)⟩
theorem lw_p78 : lw_okq (⟨"RingWeavesModel", "findPieces", "(I)I"⟩, 38) := ⟨⟨by decide +kernel, by decide +kernel⟩, List.mem_of_getElem? (i := 862) (by decide +kernel), List.mem_of_getElem? (i := 1173) (by decide +kernel), List.mem_of_getElem? (i := 1174) (by decide +kernel)⟩
theorem lw_p79 : lw_okq (⟨"RingWeavesModel", "spreads", "(II)V"⟩, 38) := ⟨⟨by decide +kernel, by decide +kernel⟩, List.mem_of_getElem? (i := 862) (by decide +kernel), List.mem_of_getElem? (i := 1177) (by decide +kernel), List.mem_of_getElem? (i := 1178) (by decide +kernel)⟩
def lw_privs_5 : List (MethodName × Nat) := [(⟨"RingWeavesModel", "partner", "(IIZ)I"⟩, 38), (⟨"RingWeavesModel", "sets", "(III)V"⟩, 38), (⟨"RingWeavesModel", "isRing", "(I)Z"⟩, 38), (⟨"RingWeavesModel", "linksOf", "(I)I"⟩, 38), (⟨"RingWeavesModel", "areLinked", "(II)Z"⟩, 38), (⟨"RingWeavesModel", "opens", "()I"⟩, 38), (⟨"RingWeavesModel", "findNear", "()V"⟩, 38), (⟨"RingWeavesModel", "parts", "()Z"⟩, 38), (⟨"RingWeavesModel", "finds", "(I)Z"⟩, 38), (⟨"RingWeavesModel", "reaches", "(I)V"⟩, 38), (⟨"RingWeavesModel", "nextOpened", "()I"⟩, 38), (⟨"RingWeavesModel", "isNearHand", "(I)Z"⟩, 38), (⟨"RingWeavesModel", "isFull", "(I)Z"⟩, 38), (⟨"RingWeavesModel", "binds", "(I)Z"⟩, 38), (⟨"RingWeavesModel", "findPieces", "(I)I"⟩, 38), (⟨"RingWeavesModel", "spreads", "(II)V"⟩, 38)]
theorem lw_r5 : ∀ q ∈ lw_privs_5, lw_okq q := List.forall_mem_cons.mpr ⟨lw_p64, List.forall_mem_cons.mpr ⟨lw_p65, List.forall_mem_cons.mpr ⟨lw_p66, List.forall_mem_cons.mpr ⟨lw_p67, List.forall_mem_cons.mpr ⟨lw_p68, List.forall_mem_cons.mpr ⟨lw_p69, List.forall_mem_cons.mpr ⟨lw_p70, List.forall_mem_cons.mpr ⟨lw_p71, List.forall_mem_cons.mpr ⟨lw_p72, List.forall_mem_cons.mpr ⟨lw_p73, List.forall_mem_cons.mpr ⟨lw_p74, List.forall_mem_cons.mpr ⟨lw_p75, List.forall_mem_cons.mpr ⟨lw_p76, List.forall_mem_cons.mpr ⟨lw_p77, List.forall_mem_cons.mpr ⟨lw_p78, List.forall_mem_cons.mpr ⟨lw_p79, fun _ h => absurd h List.not_mem_nil⟩⟩⟩⟩⟩⟩⟩⟩⟩⟩⟩⟩⟩⟩⟩⟩
theorem lw_p80 : lw_okq (⟨"RingWeavesModel", "isCut", "(II)Z"⟩, 38) := ⟨⟨by decide +kernel, by decide +kernel⟩, List.mem_of_getElem? (i := 862) (by decide +kernel), List.mem_of_getElem? (i := 1181) (by decide +kernel), List.mem_of_getElem? (i := 1182) (by decide +kernel)⟩
theorem lw_p81 : lw_okq (⟨"RingWeavesModel", "there", "()I"⟩, 38) := ⟨⟨by decide +kernel, by decide +kernel⟩, List.mem_of_getElem? (i := 862) (by decide +kernel), List.mem_of_getElem? (i := 1197) (by decide +kernel), List.mem_of_getElem? (i := 1198) (by decide +kernel)⟩
theorem lw_p82 : lw_okq (⟨"RingWeavesModel", "sum", "(I)I"⟩, 38) := ⟨⟨by decide +kernel, by decide +kernel⟩, List.mem_of_getElem? (i := 862) (by decide +kernel), List.mem_of_getElem? (i := 1201) (by decide +kernel), List.mem_of_getElem? (i := 1202) (by decide +kernel)⟩
theorem lw_p83 : lw_okq (⟨"RingWeavesModel", "worn", "()I"⟩, 38) := ⟨⟨by decide +kernel, by decide +kernel⟩, List.mem_of_getElem? (i := 862) (by decide +kernel), List.mem_of_getElem? (i := 1206) (by decide +kernel), List.mem_of_getElem? (i := 1207) (by decide +kernel)⟩
def lw_privs_6 : List (MethodName × Nat) := [(⟨"RingWeavesModel", "isCut", "(II)Z"⟩, 38), (⟨"RingWeavesModel", "there", "()I"⟩, 38), (⟨"RingWeavesModel", "sum", "(I)I"⟩, 38), (⟨"RingWeavesModel", "worn", "()I"⟩, 38)]
theorem lw_r6 : ∀ q ∈ lw_privs_6, lw_okq q := List.forall_mem_cons.mpr ⟨lw_p80, List.forall_mem_cons.mpr ⟨lw_p81, List.forall_mem_cons.mpr ⟨lw_p82, List.forall_mem_cons.mpr ⟨lw_p83, fun _ h => absurd h List.not_mem_nil⟩⟩⟩⟩
def lw_privs : List (MethodName × Nat) := lw_privs_1 ++ (lw_privs_2 ++ (lw_privs_3 ++ (lw_privs_4 ++ (lw_privs_5 ++ (lw_privs_6)))))
def lw_tbl : List Cond := k2_sels lw_privs ++ tables_1
theorem lw_privs_ok : ∀ q ∈ lw_privs, lw_okq q := by
  show ∀ q ∈ lw_privs_1 ++ (lw_privs_2 ++ (lw_privs_3 ++ (lw_privs_4 ++ (lw_privs_5 ++ (lw_privs_6))))), lw_okq q
  exact List.forall_mem_append.mpr ⟨lw_r1, List.forall_mem_append.mpr ⟨lw_r2, List.forall_mem_append.mpr ⟨lw_r3, List.forall_mem_append.mpr ⟨lw_r4, List.forall_mem_append.mpr ⟨lw_r5, lw_r6⟩⟩⟩⟩⟩
end
section
def RX0 : String := "RingWeaves$Mail"
def TX0 : u_T := fun k => match k with
  | 0 => ("RingWeaves$Mail", "laid", "LRingWeaves$Weave;", true)
  | 1 => ("RingWeaves$Mail", "there", "[Z", true)
  | 2 => ("RingWeaves$Mail", "above", "LRingWeaves$MarkRows;", true)
  | 3 => ("RingWeaves$Mail", "joined", "LRingWeaves$MarkRows;", true)
  | 4 => ("RingWeaves$Mail", "columns", "I", false)
  | 5 => ("RingWeaves$Mail", "rows", "I", false)
  | 6 => ("RingWeaves$Mail", "sheetRings", "I", false)
  | 7 => ("RingWeaves$Mail", "numbered", "I", false)
  | _ => ("RingWeaves$Mail", "changes", "I", false)
def tyX0 : Nat → FieldType := fun k => match k with
  | 0 => .object "RingWeaves$Weave"
  | 1 => .array .boolean
  | 2 => .object "RingWeaves$MarkRows"
  | 3 => .object "RingWeaves$MarkRows"
  | 4 => .int
  | 5 => .int
  | 6 => .int
  | 7 => .int
  | _ => .int
abbrev wsX00 : List Cond := u_ws RX0 TX0 9
theorem nmX0 : ∀ a, a < 9 → ∀ b, b < 9 → a ≠ b → (TX0 a).2.1 ≠ (TX0 b).2.1 := by decide +kernel
theorem tyX0_ok : ∀ k, k < 9 → parseFieldDescriptor (TX0 k).2.2.1 = some (tyX0 k) := by decide +kernel
abbrev cX0_init : ByteArray := prog_2_method_1_code
def yX0_init : MethodName := ⟨RX0, "<init>", "()V"⟩
abbrev cX0_layOut : ByteArray := prog_2_method_2_code
def yX0_layOut : MethodName := ⟨RX0, "layOut", "(LRingWeaves$Weave;II)V"⟩
abbrev cX0_ringOfCell : ByteArray := prog_2_method_3_code
def yX0_ringOfCell : MethodName := ⟨RX0, "ringOfCell", "(III)I"⟩
abbrev cX0_isNumbered : ByteArray := prog_2_method_4_code
def yX0_isNumbered : MethodName := ⟨RX0, "isNumbered", "(I)Z"⟩
abbrev cX0_isThere : ByteArray := prog_2_method_5_code
def yX0_isThere : MethodName := ⟨RX0, "isThere", "(I)Z"⟩
abbrev cX0_putIn : ByteArray := prog_2_method_6_code
def yX0_putIn : MethodName := ⟨RX0, "putIn", "()I"⟩
abbrev cX0_takeAway : ByteArray := prog_2_method_7_code
def yX0_takeAway : MethodName := ⟨RX0, "takeAway", "(I)I"⟩
abbrev cX0_areLinked : ByteArray := prog_2_method_8_code
def yX0_areLinked : MethodName := ⟨RX0, "areLinked", "(II)Z"⟩
abbrev cX0_goesOver : ByteArray := prog_2_method_9_code
def yX0_goesOver : MethodName := ⟨RX0, "goesOver", "(II)Z"⟩
abbrev cX0_join : ByteArray := prog_2_method_10_code
def yX0_join : MethodName := ⟨RX0, "join", "(II)V"⟩
abbrev cX0_part : ByteArray := prog_2_method_11_code
def yX0_part : MethodName := ⟨RX0, "part", "(II)V"⟩
abbrev cX0_mendWorn : ByteArray := prog_2_method_12_code
def yX0_mendWorn : MethodName := ⟨RX0, "mendWorn", "()I"⟩
abbrev cX0_linksOf : ByteArray := prog_2_method_13_code
def yX0_linksOf : MethodName := ⟨RX0, "linksOf", "(I)I"⟩
abbrev cX0_linkedAtPlace : ByteArray := prog_2_method_14_code
def yX0_linkedAtPlace : MethodName := ⟨RX0, "linkedAtPlace", "(II)I"⟩
abbrev cX0_isFull : ByteArray := prog_2_method_15_code
def yX0_isFull : MethodName := ⟨RX0, "isFull", "(I)Z"⟩
abbrev cX0_ringsThere : ByteArray := prog_2_method_16_code
def yX0_ringsThere : MethodName := ⟨RX0, "ringsThere", "()I"⟩
abbrev cX0_allLinks : ByteArray := prog_2_method_17_code
def yX0_allLinks : MethodName := ⟨RX0, "allLinks", "()I"⟩
abbrev cX0_fullRings : ByteArray := prog_2_method_18_code
def yX0_fullRings : MethodName := ⟨RX0, "fullRings", "()I"⟩
abbrev cX0_wornRings : ByteArray := prog_2_method_19_code
def yX0_wornRings : MethodName := ⟨RX0, "wornRings", "()I"⟩
abbrev cX0_joinAsTold : ByteArray := prog_2_method_20_code
def yX0_joinAsTold : MethodName := ⟨RX0, "joinAsTold", "(I)V"⟩
abbrev cX0_joinOneAsTold : ByteArray := prog_2_method_21_code
def yX0_joinOneAsTold : MethodName := ⟨RX0, "joinOneAsTold", "(IIZ)V"⟩
abbrev cX0_standsAsTold : ByteArray := prog_2_method_22_code
def yX0_standsAsTold : MethodName := ⟨RX0, "standsAsTold", "(IIZ)Z"⟩
abbrev cX0_isOfLink : ByteArray := prog_2_method_23_code
def yX0_isOfLink : MethodName := ⟨RX0, "isOfLink", "(IIZ)Z"⟩
abbrev cX0_otherAsTold : ByteArray := prog_2_method_24_code
def yX0_otherAsTold : MethodName := ⟨RX0, "otherAsTold", "(IIZ)I"⟩
def RX1 : String := "RingWeaves$Making"
def TX1 : u_T := fun k => match k with
  | 0 => ("RingWeaves$Making", "mail", "LRingWeaves$Mail;", true)
  | 1 => ("RingWeaves$Making", "pieces", "LRingWeaves$Pieces;", true)
  | 2 => ("RingWeaves$Making", "marks", "LRingWeaves$MarkRows;", true)
  | 3 => ("RingWeaves$Making", "pair", "[I", true)
  | 4 => ("RingWeaves$Making", "reachedFrom", "[I", true)
  | 5 => ("RingWeaves$Making", "queue", "[I", true)
  | 6 => ("RingWeaves$Making", "queued", "[Z", true)
  | 7 => ("RingWeaves$Making", "queueLength", "I", false)
  | 8 => ("RingWeaves$Making", "changesSeen", "I", false)
  | 9 => ("RingWeaves$Making", "inOrder", "[I", true)
  | _ => ("RingWeaves$Making", "openedRings", "I", false)
def tyX1 : Nat → FieldType := fun k => match k with
  | 0 => .object "RingWeaves$Mail"
  | 1 => .object "RingWeaves$Pieces"
  | 2 => .object "RingWeaves$MarkRows"
  | 3 => .array .int
  | 4 => .array .int
  | 5 => .array .int
  | 6 => .array .boolean
  | 7 => .int
  | 8 => .int
  | 9 => .array .int
  | _ => .int
abbrev wsX10 : List Cond := u_ws RX1 TX1 11
theorem nmX1 : ∀ a, a < 11 → ∀ b, b < 11 → a ≠ b → (TX1 a).2.1 ≠ (TX1 b).2.1 := by decide +kernel
theorem tyX1_ok : ∀ k, k < 11 → parseFieldDescriptor (TX1 k).2.2.1 = some (tyX1 k) := by decide +kernel
abbrev cX1_init : ByteArray := prog_3_method_1_code
def yX1_init : MethodName := ⟨RX1, "<init>", "(LRingWeaves$Mail;LRingWeaves$Pieces;)V"⟩
abbrev cX1_refresh : ByteArray := prog_3_method_2_code
def yX1_refresh : MethodName := ⟨RX1, "refresh", "()V"⟩
abbrev cX1_isOpened : ByteArray := prog_3_method_3_code
def yX1_isOpened : MethodName := ⟨RX1, "isOpened", "(I)Z"⟩
abbrev cX1_pairWhatIsFree : ByteArray := prog_3_method_4_code
def yX1_pairWhatIsFree : MethodName := ⟨RX1, "pairWhatIsFree", "()V"⟩
abbrev cX1_pairWithFree : ByteArray := prog_3_method_5_code
def yX1_pairWithFree : MethodName := ⟨RX1, "pairWithFree", "(I)V"⟩
abbrev cX1_pairAsManyAsCanBe : ByteArray := prog_3_method_6_code
def yX1_pairAsManyAsCanBe : MethodName := ⟨RX1, "pairAsManyAsCanBe", "()V"⟩
abbrev cX1_reachFromUnpaired : ByteArray := prog_3_method_7_code
def yX1_reachFromUnpaired : MethodName := ⟨RX1, "reachFromUnpaired", "()I"⟩
abbrev cX1_queueUnpaired : ByteArray := prog_3_method_8_code
def yX1_queueUnpaired : MethodName := ⟨RX1, "queueUnpaired", "()V"⟩
abbrev cX1_reachFrom : ByteArray := prog_3_method_9_code
def yX1_reachFrom : MethodName := ⟨RX1, "reachFrom", "(I)I"⟩
abbrev cX1_putInQueue : ByteArray := prog_3_method_10_code
def yX1_putInQueue : MethodName := ⟨RX1, "putInQueue", "(I)V"⟩
abbrev cX1_turnPairsUpTo : ByteArray := prog_3_method_11_code
def yX1_turnPairsUpTo : MethodName := ⟨RX1, "turnPairsUpTo", "(I)V"⟩
abbrev cX1_markOpened : ByteArray := prog_3_method_12_code
def yX1_markOpened : MethodName := ⟨RX1, "markOpened", "()V"⟩
abbrev cX1_needsOpening : ByteArray := prog_3_method_13_code
def yX1_needsOpening : MethodName := ⟨RX1, "needsOpening", "(I)Z"⟩
abbrev cX1_putInOrder : ByteArray := prog_3_method_14_code
def yX1_putInOrder : MethodName := ⟨RX1, "putInOrder", "()V"⟩
abbrev cX1_nextToOpen : ByteArray := prog_3_method_15_code
def yX1_nextToOpen : MethodName := ⟨RX1, "nextToOpen", "()I"⟩
abbrev cX1_takeLinkedInHand : ByteArray := prog_3_method_16_code
def yX1_takeLinkedInHand : MethodName := ⟨RX1, "takeLinkedInHand", "(I)V"⟩
abbrev cX1_takeInHand : ByteArray := prog_3_method_17_code
def yX1_takeInHand : MethodName := ⟨RX1, "takeInHand", "(I)V"⟩
abbrev cX1_isOfFirstSide : ByteArray := prog_3_method_18_code
def yX1_isOfFirstSide : MethodName := ⟨RX1, "isOfFirstSide", "(I)Z"⟩
def RX2 : String := "RingWeaves$MarkRows"
def TX2 : u_T := fun k => match k with
  | _ => ("RingWeaves$MarkRows", "words", "[J", true)
def tyX2 : Nat → FieldType := fun k => match k with
  | _ => .array .long
abbrev wsX20 : List Cond := u_ws RX2 TX2 1
theorem nmX2 : ∀ a, a < 1 → ∀ b, b < 1 → a ≠ b → (TX2 a).2.1 ≠ (TX2 b).2.1 := by decide +kernel
theorem tyX2_ok : ∀ k, k < 1 → parseFieldDescriptor (TX2 k).2.2.1 = some (tyX2 k) := by decide +kernel
abbrev cX2_init : ByteArray := prog_4_method_1_code
def yX2_init : MethodName := ⟨RX2, "<init>", "(I)V"⟩
abbrev cX2_has : ByteArray := prog_4_method_2_code
def yX2_has : MethodName := ⟨RX2, "has", "(II)Z"⟩
abbrev cX2_put : ByteArray := prog_4_method_3_code
def yX2_put : MethodName := ⟨RX2, "put", "(II)V"⟩
abbrev cX2_drop : ByteArray := prog_4_method_4_code
def yX2_drop : MethodName := ⟨RX2, "drop", "(II)V"⟩
abbrev cX2_dropAll : ByteArray := prog_4_method_5_code
def yX2_dropAll : MethodName := ⟨RX2, "dropAll", "()V"⟩
abbrev cX2_next : ByteArray := prog_4_method_6_code
def yX2_next : MethodName := ⟨RX2, "next", "(II)I"⟩
abbrev cX2_size : ByteArray := prog_4_method_7_code
def yX2_size : MethodName := ⟨RX2, "size", "(I)I"⟩
abbrev cX2_putAllOf : ByteArray := prog_4_method_8_code
def yX2_putAllOf : MethodName := ⟨RX2, "putAllOf", "(ILRingWeaves$MarkRows;I)V"⟩
def RX3 : String := "RingWeaves$Pieces"
def TX3 : u_T := fun k => match k with
  | 0 => ("RingWeaves$Pieces", "mail", "LRingWeaves$Mail;", true)
  | 1 => ("RingWeaves$Pieces", "found", "[I", true)
  | 2 => ("RingWeaves$Pieces", "reach", "[I", true)
  | 3 => ("RingWeaves$Pieces", "parent", "[I", true)
  | 4 => ("RingWeaves$Pieces", "nextToTry", "[I", true)
  | 5 => ("RingWeaves$Pieces", "foundSoFar", "I", false)
  | 6 => ("RingWeaves$Pieces", "rootBranches", "I", false)
  | 7 => ("RingWeaves$Pieces", "changesSeen", "I", false)
  | 8 => ("RingWeaves$Pieces", "least", "[I", true)
  | 9 => ("RingWeaves$Pieces", "firstSide", "[Z", true)
  | 10 => ("RingWeaves$Pieces", "cut", "[Z", true)
  | 11 => ("RingWeaves$Pieces", "number", "I", false)
  | 12 => ("RingWeaves$Pieces", "cutRings", "I", false)
  | _ => ("RingWeaves$Pieces", "partable", "Z", false)
def tyX3 : Nat → FieldType := fun k => match k with
  | 0 => .object "RingWeaves$Mail"
  | 1 => .array .int
  | 2 => .array .int
  | 3 => .array .int
  | 4 => .array .int
  | 5 => .int
  | 6 => .int
  | 7 => .int
  | 8 => .array .int
  | 9 => .array .boolean
  | 10 => .array .boolean
  | 11 => .int
  | 12 => .int
  | _ => .boolean
abbrev wsX30 : List Cond := u_ws RX3 TX3 14
theorem nmX3 : ∀ a, a < 14 → ∀ b, b < 14 → a ≠ b → (TX3 a).2.1 ≠ (TX3 b).2.1 := by decide +kernel
theorem tyX3_ok : ∀ k, k < 14 → parseFieldDescriptor (TX3 k).2.2.1 = some (tyX3 k) := by decide +kernel
abbrev cX3_init : ByteArray := prog_5_method_1_code
def yX3_init : MethodName := ⟨RX3, "<init>", "(LRingWeaves$Mail;)V"⟩
abbrev cX3_refresh : ByteArray := prog_5_method_2_code
def yX3_refresh : MethodName := ⟨RX3, "refresh", "()V"⟩
abbrev cX3_walkPiece : ByteArray := prog_5_method_3_code
def yX3_walkPiece : MethodName := ⟨RX3, "walkPiece", "(I)V"⟩
abbrev cX3_tryLink : ByteArray := prog_5_method_4_code
def yX3_tryLink : MethodName := ⟨RX3, "tryLink", "(II)I"⟩
abbrev cX3_enter : ByteArray := prog_5_method_5_code
def yX3_enter : MethodName := ⟨RX3, "enter", "(II)V"⟩
abbrev cX3_leave : ByteArray := prog_5_method_6_code
def yX3_leave : MethodName := ⟨RX3, "leave", "(I)V"⟩
abbrev cX3_markCut : ByteArray := prog_5_method_7_code
def yX3_markCut : MethodName := ⟨RX3, "markCut", "(I)V"⟩
def RX4 : String := "RingWeaves$Reader"
def TX4 : u_T := fun k => match k with
  | 0 => ("RingWeaves$Reader", "tokens", "LRingWeaves$Tokens;", true)
  | 1 => ("RingWeaves$Reader", "names", "[J", true)
  | _ => ("RingWeaves$Reader", "fault", "I", false)
def tyX4 : Nat → FieldType := fun k => match k with
  | 0 => .object "RingWeaves$Tokens"
  | 1 => .array .long
  | _ => .int
abbrev wsX40 : List Cond := u_ws RX4 TX4 3
theorem nmX4 : ∀ a, a < 3 → ∀ b, b < 3 → a ≠ b → (TX4 a).2.1 ≠ (TX4 b).2.1 := by decide +kernel
theorem tyX4_ok : ∀ k, k < 3 → parseFieldDescriptor (TX4 k).2.2.1 = some (tyX4 k) := by decide +kernel
abbrev cX4_init : ByteArray := prog_6_method_1_code
def yX4_init : MethodName := ⟨RX4, "<init>", "(LRingWeaves$Tokens;)V"⟩
abbrev cX4_read : ByteArray := prog_6_method_2_code
def yX4_read : MethodName := ⟨RX4, "read", "(LRingWeaves$Weave;)I"⟩
abbrev cX4_readRing : ByteArray := prog_6_method_3_code
def yX4_readRing : MethodName := ⟨RX4, "readRing", "(LRingWeaves$Weave;)V"⟩
abbrev cX4_readLink : ByteArray := prog_6_method_4_code
def yX4_readLink : MethodName := ⟨RX4, "readLink", "(LRingWeaves$Weave;)V"⟩
abbrev cX4_readToldName : ByteArray := prog_6_method_5_code
def yX4_readToldName : MethodName := ⟨RX4, "readToldName", "(LRingWeaves$Weave;)I"⟩
abbrev cX4_readAway : ByteArray := prog_6_method_6_code
def yX4_readAway : MethodName := ⟨RX4, "readAway", "()I"⟩
abbrev cX4_readOver : ByteArray := prog_6_method_7_code
def yX4_readOver : MethodName := ⟨RX4, "readOver", "(LRingWeaves$Weave;)Z"⟩
abbrev cX4_passSemicolon : ByteArray := prog_6_method_8_code
def yX4_passSemicolon : MethodName := ⟨RX4, "passSemicolon", "()V"⟩
abbrev cX4_isWord : ByteArray := prog_6_method_9_code
def yX4_isWord : MethodName := ⟨RX4, "isWord", "(J)Z"⟩
abbrev cX4_isName : ByteArray := prog_6_method_10_code
def yX4_isName : MethodName := ⟨RX4, "isName", "()Z"⟩
abbrev cX4_ringOfName : ByteArray := prog_6_method_11_code
def yX4_ringOfName : MethodName := ⟨RX4, "ringOfName", "(LRingWeaves$Weave;)I"⟩
abbrev cX4_failWith : ByteArray := prog_6_method_12_code
def yX4_failWith : MethodName := ⟨RX4, "failWith", "(I)V"⟩
def RX5 : String := "RingWeaves$Tape"
def TX5 : u_T := fun k => match k with
  | 0 => ("RingWeaves$Tape", "signs", "[C", true)
  | _ => ("RingWeaves$Tape", "length", "I", false)
def tyX5 : Nat → FieldType := fun k => match k with
  | 0 => .array .char
  | _ => .int
abbrev wsX50 : List Cond := u_ws RX5 TX5 2
theorem nmX5 : ∀ a, a < 2 → ∀ b, b < 2 → a ≠ b → (TX5 a).2.1 ≠ (TX5 b).2.1 := by decide +kernel
theorem tyX5_ok : ∀ k, k < 2 → parseFieldDescriptor (TX5 k).2.2.1 = some (tyX5 k) := by decide +kernel
abbrev cX5_init : ByteArray := prog_7_method_1_code
def yX5_init : MethodName := ⟨RX5, "<init>", "()V"⟩
abbrev cX5_putBytes : ByteArray := prog_7_method_2_code
def yX5_putBytes : MethodName := ⟨RX5, "putBytes", "(J)V"⟩
abbrev cX5_empty : ByteArray := prog_7_method_3_code
def yX5_empty : MethodName := ⟨RX5, "empty", "()V"⟩
abbrev cX5_putSign : ByteArray := prog_7_method_4_code
def yX5_putSign : MethodName := ⟨RX5, "putSign", "(I)V"⟩
def RX6 : String := "RingWeaves$Tokens"
def TX6 : u_T := fun k => match k with
  | 0 => ("RingWeaves$Tokens", "tape", "LRingWeaves$Tape;", true)
  | 1 => ("RingWeaves$Tokens", "behind", "I", false)
  | 2 => ("RingWeaves$Tokens", "kind", "I", false)
  | 3 => ("RingWeaves$Tokens", "place", "I", false)
  | _ => ("RingWeaves$Tokens", "value", "J", false)
def tyX6 : Nat → FieldType := fun k => match k with
  | 0 => .object "RingWeaves$Tape"
  | 1 => .int
  | 2 => .int
  | 3 => .int
  | _ => .long
abbrev wsX60 : List Cond := u_ws RX6 TX6 5
theorem nmX6 : ∀ a, a < 5 → ∀ b, b < 5 → a ≠ b → (TX6 a).2.1 ≠ (TX6 b).2.1 := by decide +kernel
theorem tyX6_ok : ∀ k, k < 5 → parseFieldDescriptor (TX6 k).2.2.1 = some (tyX6 k) := by decide +kernel
abbrev cX6_init : ByteArray := prog_8_method_1_code
def yX6_init : MethodName := ⟨RX6, "<init>", "(LRingWeaves$Tape;)V"⟩
abbrev cX6_start : ByteArray := prog_8_method_2_code
def yX6_start : MethodName := ⟨RX6, "start", "()V"⟩
abbrev cX6_step : ByteArray := prog_8_method_3_code
def yX6_step : MethodName := ⟨RX6, "step", "()V"⟩
abbrev cX6_is : ByteArray := prog_8_method_4_code
def yX6_is : MethodName := ⟨RX6, "is", "(IJ)Z"⟩
abbrev cX6_behindBlanks : ByteArray := prog_8_method_5_code
def yX6_behindBlanks : MethodName := ⟨RX6, "behindBlanks", "(I)I"⟩
abbrev cX6_readWord : ByteArray := prog_8_method_6_code
def yX6_readWord : MethodName := ⟨RX6, "readWord", "()V"⟩
abbrev cX6_readNumber : ByteArray := prog_8_method_7_code
def yX6_readNumber : MethodName := ⟨RX6, "readNumber", "()V"⟩
abbrev cX6_readSign : ByteArray := prog_8_method_8_code
def yX6_readSign : MethodName := ⟨RX6, "readSign", "()V"⟩
abbrev cX6_isLetter : ByteArray := prog_8_method_9_code
def yX6_isLetter : MethodName := ⟨RX6, "isLetter", "(C)Z"⟩
abbrev cX6_isDigit : ByteArray := prog_8_method_10_code
def yX6_isDigit : MethodName := ⟨RX6, "isDigit", "(C)Z"⟩
def RX7 : String := "RingWeaves$Weave"
def TX7 : u_T := fun k => match k with
  | 0 => ("RingWeaves$Weave", "first", "[I", true)
  | 1 => ("RingWeaves$Weave", "second", "[I", true)
  | 2 => ("RingWeaves$Weave", "right", "[I", true)
  | 3 => ("RingWeaves$Weave", "down", "[I", true)
  | 4 => ("RingWeaves$Weave", "firstOver", "[Z", true)
  | 5 => ("RingWeaves$Weave", "rings", "I", false)
  | _ => ("RingWeaves$Weave", "links", "I", false)
def tyX7 : Nat → FieldType := fun k => match k with
  | 0 => .array .int
  | 1 => .array .int
  | 2 => .array .int
  | 3 => .array .int
  | 4 => .array .boolean
  | 5 => .int
  | _ => .int
abbrev wsX70 : List Cond := u_ws RX7 TX7 7
theorem nmX7 : ∀ a, a < 7 → ∀ b, b < 7 → a ≠ b → (TX7 a).2.1 ≠ (TX7 b).2.1 := by decide +kernel
theorem tyX7_ok : ∀ k, k < 7 → parseFieldDescriptor (TX7 k).2.2.1 = some (tyX7 k) := by decide +kernel
abbrev cX7_init : ByteArray := prog_9_method_1_code
def yX7_init : MethodName := ⟨RX7, "<init>", "()V"⟩
abbrev cX7_empty : ByteArray := prog_9_method_2_code
def yX7_empty : MethodName := ⟨RX7, "empty", "()V"⟩
abbrev cX7_copyFrom : ByteArray := prog_9_method_3_code
def yX7_copyFrom : MethodName := ⟨RX7, "copyFrom", "(LRingWeaves$Weave;)V"⟩
abbrev cX7_takesNewLink : ByteArray := prog_9_method_4_code
def yX7_takesNewLink : MethodName := ⟨RX7, "takesNewLink", "()Z"⟩
abbrev cX7_isSameToldAlike : ByteArray := prog_9_method_5_code
def yX7_isSameToldAlike : MethodName := ⟨RX7, "isSameToldAlike", "(II)Z"⟩
abbrev cX7_isSameToldBack : ByteArray := prog_9_method_6_code
def yX7_isSameToldBack : MethodName := ⟨RX7, "isSameToldBack", "(II)Z"⟩
def RX8 : String := "RingWeaves"
def TX8 : u_T := fun k => match k with
  | 0 => ("RingWeaves", "tape", "LRingWeaves$Tape;", true)
  | 1 => ("RingWeaves", "reader", "LRingWeaves$Reader;", true)
  | 2 => ("RingWeaves", "mail", "LRingWeaves$Mail;", true)
  | 3 => ("RingWeaves", "pieces", "LRingWeaves$Pieces;", true)
  | 4 => ("RingWeaves", "making", "LRingWeaves$Making;", true)
  | 5 => ("RingWeaves", "inHand", "LRingWeaves$Weave;", false)
  | 6 => ("RingWeaves", "draft", "LRingWeaves$Weave;", false)
  | 7 => ("RingWeaves", "wire", "I", false)
  | 8 => ("RingWeaves", "within", "I", false)
  | _ => ("RingWeaves", "heft", "I", false)
def tyX8 : Nat → FieldType := fun k => match k with
  | 0 => .object "RingWeaves$Tape"
  | 1 => .object "RingWeaves$Reader"
  | 2 => .object "RingWeaves$Mail"
  | 3 => .object "RingWeaves$Pieces"
  | 4 => .object "RingWeaves$Making"
  | 5 => .object "RingWeaves$Weave"
  | 6 => .object "RingWeaves$Weave"
  | 7 => .int
  | 8 => .int
  | _ => .int
abbrev wsX80 : List Cond := u_ws RX8 TX8 10
theorem nmX8 : ∀ a, a < 10 → ∀ b, b < 10 → a ≠ b → (TX8 a).2.1 ≠ (TX8 b).2.1 := by decide +kernel
theorem tyX8_ok : ∀ k, k < 10 → parseFieldDescriptor (TX8 k).2.2.1 = some (tyX8 k) := by decide +kernel
abbrev cX8_init : ByteArray := prog_1_method_1_code
def yX8_init : MethodName := ⟨RX8, "<init>", "()V"⟩
abbrev cX8_feed : ByteArray := prog_1_method_2_code
def yX8_feed : MethodName := ⟨RX8, "feed", "(JJJ)I"⟩
abbrev cX8_weave : ByteArray := prog_1_method_3_code
def yX8_weave : MethodName := ⟨RX8, "weave", "()I"⟩
abbrev cX8_lay : ByteArray := prog_1_method_4_code
def yX8_lay : MethodName := ⟨RX8, "lay", "(II)I"⟩
abbrev cX8_at : ByteArray := prog_1_method_5_code
def yX8_at : MethodName := ⟨RX8, "at", "(III)I"⟩
abbrev cX8_add : ByteArray := prog_1_method_6_code
def yX8_add : MethodName := ⟨RX8, "add", "()I"⟩
abbrev cX8_take : ByteArray := prog_1_method_7_code
def yX8_take : MethodName := ⟨RX8, "take", "(I)I"⟩
abbrev cX8_link : ByteArray := prog_1_method_8_code
def yX8_link : MethodName := ⟨RX8, "link", "(II)Z"⟩
abbrev cX8_unlink : ByteArray := prog_1_method_9_code
def yX8_unlink : MethodName := ⟨RX8, "unlink", "(II)Z"⟩
abbrev cX8_mend : ByteArray := prog_1_method_10_code
def yX8_mend : MethodName := ⟨RX8, "mend", "()I"⟩
abbrev cX8_look : ByteArray := prog_1_method_11_code
def yX8_look : MethodName := ⟨RX8, "look", "(II)I"⟩
abbrev cX8_over : ByteArray := prog_1_method_12_code
def yX8_over : MethodName := ⟨RX8, "over", "(II)I"⟩
abbrev cX8_linked : ByteArray := prog_1_method_13_code
def yX8_linked : MethodName := ⟨RX8, "linked", "(II)I"⟩
abbrev cX8_fewest : ByteArray := prog_1_method_14_code
def yX8_fewest : MethodName := ⟨RX8, "fewest", "()I"⟩
abbrev cX8_order : ByteArray := prog_1_method_15_code
def yX8_order : MethodName := ⟨RX8, "order", "(I)I"⟩
abbrev cX8_sizes : ByteArray := prog_1_method_16_code
def yX8_sizes : MethodName := ⟨RX8, "sizes", "(III)Z"⟩
abbrev cX8_count : ByteArray := prog_1_method_17_code
def yX8_count : MethodName := ⟨RX8, "count", "(I)I"⟩
abbrev cX8_lookAtOneThere : ByteArray := prog_1_method_18_code
def yX8_lookAtOneThere : MethodName := ⟨RX8, "lookAtOneThere", "(II)I"⟩
abbrev cX8_binds : ByteArray := prog_1_method_19_code
def yX8_binds : MethodName := ⟨RX8, "binds", "(I)Z"⟩
abbrev cX8_roomFor : ByteArray := prog_1_method_20_code
def yX8_roomFor : MethodName := ⟨RX8, "roomFor", "(I)I"⟩
abbrev cX8_bindingRings : ByteArray := prog_1_method_21_code
def yX8_bindingRings : MethodName := ⟨RX8, "bindingRings", "()I"⟩
abbrev cX8_wireOfAll : ByteArray := prog_1_method_22_code
def yX8_wireOfAll : MethodName := ⟨RX8, "wireOfAll", "()I"⟩
abbrev cX8_weightOfAll : ByteArray := prog_1_method_23_code
def yX8_weightOfAll : MethodName := ⟨RX8, "weightOfAll", "()I"⟩
abbrev cX8_isSide : ByteArray := prog_1_method_24_code
def yX8_isSide : MethodName := ⟨RX8, "isSide", "(I)Z"⟩
abbrev cX8_isWithin : ByteArray := prog_1_method_25_code
def yX8_isWithin : MethodName := ⟨RX8, "isWithin", "(II)Z"⟩
abbrev cX8_asNumber : ByteArray := prog_1_method_26_code
def yX8_asNumber : MethodName := ⟨RX8, "asNumber", "(Z)I"⟩
def RX9 : String := "RingWeavesModel"
def TX9 : u_T := fun k => match k with
  | 0 => ("RingWeavesModel", "thrown", "I", false)
  | 1 => ("RingWeavesModel", "tape", "[I", true)
  | 2 => ("RingWeavesModel", "taped", "I", false)
  | 3 => ("RingWeavesModel", "size", "I", false)
  | 4 => ("RingWeavesModel", "sort", "[I", true)
  | 5 => ("RingWeavesModel", "place", "[I", true)
  | 6 => ("RingWeavesModel", "value", "[J", true)
  | 7 => ("RingWeavesModel", "at", "I", false)
  | 8 => ("RingWeavesModel", "fault", "I", false)
  | 9 => ("RingWeavesModel", "words", "[J", true)
  | 10 => ("RingWeavesModel", "rings", "[I", true)
  | 11 => ("RingWeavesModel", "names", "[J", true)
  | 12 => ("RingWeavesModel", "links", "[I", true)
  | 13 => ("RingWeavesModel", "first", "[I", true)
  | 14 => ("RingWeavesModel", "second", "[I", true)
  | 15 => ("RingWeavesModel", "awayX", "[I", true)
  | 16 => ("RingWeavesModel", "awayY", "[I", true)
  | 17 => ("RingWeavesModel", "isOver", "[Z", true)
  | 18 => ("RingWeavesModel", "columns", "I", false)
  | 19 => ("RingWeavesModel", "rows", "I", false)
  | 20 => ("RingWeavesModel", "inCells", "I", false)
  | 21 => ("RingWeavesModel", "numbered", "I", false)
  | 22 => ("RingWeavesModel", "isThere", "[Z", true)
  | 23 => ("RingWeavesModel", "table", "[I", true)
  | 24 => ("RingWeavesModel", "isWorn", "[Z", true)
  | 25 => ("RingWeavesModel", "nearMany", "[I", true)
  | 26 => ("RingWeavesModel", "near", "[I", true)
  | 27 => ("RingWeavesModel", "pieceOf", "[I", true)
  | 28 => ("RingWeavesModel", "line", "[I", true)
  | 29 => ("RingWeavesModel", "side", "[I", true)
  | 30 => ("RingWeavesModel", "pair", "[I", true)
  | 31 => ("RingWeavesModel", "isSeen", "[Z", true)
  | 32 => ("RingWeavesModel", "isOpened", "[Z", true)
  | 33 => ("RingWeavesModel", "isAtHand", "[Z", true)
  | 34 => ("RingWeavesModel", "isDone", "[Z", true)
  | 35 => ("RingWeavesModel", "wire", "I", false)
  | 36 => ("RingWeavesModel", "inner", "I", false)
  | _ => ("RingWeavesModel", "grams", "I", false)
def tyX9 : Nat → FieldType := fun k => match k with
  | 0 => .int
  | 1 => .array .int
  | 2 => .int
  | 3 => .int
  | 4 => .array .int
  | 5 => .array .int
  | 6 => .array .long
  | 7 => .int
  | 8 => .int
  | 9 => .array .long
  | 10 => .array .int
  | 11 => .array .long
  | 12 => .array .int
  | 13 => .array .int
  | 14 => .array .int
  | 15 => .array .int
  | 16 => .array .int
  | 17 => .array .boolean
  | 18 => .int
  | 19 => .int
  | 20 => .int
  | 21 => .int
  | 22 => .array .boolean
  | 23 => .array .int
  | 24 => .array .boolean
  | 25 => .array .int
  | 26 => .array .int
  | 27 => .array .int
  | 28 => .array .int
  | 29 => .array .int
  | 30 => .array .int
  | 31 => .array .boolean
  | 32 => .array .boolean
  | 33 => .array .boolean
  | 34 => .array .boolean
  | 35 => .int
  | 36 => .int
  | _ => .int
abbrev wsX90 : List Cond := u_ws RX9 TX9 38
theorem nmX9 : ∀ a, a < 38 → ∀ b, b < 38 → a ≠ b → (TX9 a).2.1 ≠ (TX9 b).2.1 := by decide +kernel
theorem tyX9_ok : ∀ k, k < 38 → parseFieldDescriptor (TX9 k).2.2.1 = some (tyX9 k) := by decide +kernel
abbrev cX9_thrown : ByteArray := prog_11_method_1_code
def yX9_thrown : MethodName := ⟨RX9, "thrown", "()I"⟩
abbrev cX9_feed : ByteArray := prog_11_method_2_code
def yX9_feed : MethodName := ⟨RX9, "feed", "(JJJ)I"⟩
abbrev cX9_lay : ByteArray := prog_11_method_3_code
def yX9_lay : MethodName := ⟨RX9, "lay", "(J)V"⟩
abbrev cX9_init : ByteArray := prog_11_method_4_code
def yX9_init : MethodName := ⟨RX9, "<init>", "()V"⟩
abbrev cX9_isLetter : ByteArray := prog_11_method_5_code
def yX9_isLetter : MethodName := ⟨RX9, "isLetter", "(I)Z"⟩
abbrev cX9_isDigit : ByteArray := prog_11_method_6_code
def yX9_isDigit : MethodName := ⟨RX9, "isDigit", "(I)Z"⟩
abbrev cX9_rank : ByteArray := prog_11_method_7_code
def yX9_rank : MethodName := ⟨RX9, "rank", "(I)I"⟩
abbrev cX9_isSignOf : ByteArray := prog_11_method_8_code
def yX9_isSignOf : MethodName := ⟨RX9, "isSignOf", "(I)Z"⟩
abbrev cX9_cutAll : ByteArray := prog_11_method_9_code
def yX9_cutAll : MethodName := ⟨RX9, "cutAll", "()V"⟩
abbrev cX9_wrong : ByteArray := prog_11_method_10_code
def yX9_wrong : MethodName := ⟨RX9, "wrong", "(I)V"⟩
abbrev cX9_isSign : ByteArray := prog_11_method_11_code
def yX9_isSign : MethodName := ⟨RX9, "isSign", "(I)Z"⟩
abbrev cX9_isWord : ByteArray := prog_11_method_12_code
def yX9_isWord : MethodName := ⟨RX9, "isWord", "(I)Z"⟩
abbrev cX9_takeSign : ByteArray := prog_11_method_13_code
def yX9_takeSign : MethodName := ⟨RX9, "takeSign", "(I)V"⟩
abbrev cX9_hasSign : ByteArray := prog_11_method_14_code
def yX9_hasSign : MethodName := ⟨RX9, "hasSign", "(I)Z"⟩
abbrev cX9_isName : ByteArray := prog_11_method_17_code
def yX9_isName : MethodName := ⟨RX9, "isName", "()Z"⟩
abbrev cX9_findRing : ByteArray := prog_11_method_18_code
def yX9_findRing : MethodName := ⟨RX9, "findRing", "(J)I"⟩
abbrev cX9_weave : ByteArray := prog_11_method_19_code
def yX9_weave : MethodName := ⟨RX9, "weave", "()I"⟩
abbrev cX9_copies : ByteArray := prog_11_method_20_code
def yX9_copies : MethodName := ⟨RX9, "copies", "(II)V"⟩
abbrev cX9_readRing : ByteArray := prog_11_method_21_code
def yX9_readRing : MethodName := ⟨RX9, "readRing", "()V"⟩
abbrev cX9_takeRing : ByteArray := prog_11_method_22_code
def yX9_takeRing : MethodName := ⟨RX9, "takeRing", "()I"⟩
abbrev cX9_takeAway : ByteArray := prog_11_method_23_code
def yX9_takeAway : MethodName := ⟨RX9, "takeAway", "()I"⟩
abbrev cX9_isLinkTold : ByteArray := prog_11_method_24_code
def yX9_isLinkTold : MethodName := ⟨RX9, "isLinkTold", "(IIII)Z"⟩
abbrev cX9_readLink : ByteArray := prog_11_method_25_code
def yX9_readLink : MethodName := ⟨RX9, "readLink", "()V"⟩
abbrev cX9_isRing : ByteArray := prog_11_method_26_code
def yX9_isRing : MethodName := ⟨RX9, "isRing", "(I)Z"⟩
abbrev cX9_sets : ByteArray := prog_11_method_27_code
def yX9_sets : MethodName := ⟨RX9, "sets", "(III)V"⟩
abbrev cX9_partner : ByteArray := prog_11_method_28_code
def yX9_partner : MethodName := ⟨RX9, "partner", "(IIZ)I"⟩
abbrev cX9_links : ByteArray := prog_11_method_29_code
def yX9_links : MethodName := ⟨RX9, "links", "(I)V"⟩
abbrev cX9_lay_ : ByteArray := prog_11_method_30_code
def yX9_lay_ : MethodName := ⟨RX9, "lay", "(II)I"⟩
abbrev cX9_at : ByteArray := prog_11_method_31_code
def yX9_at : MethodName := ⟨RX9, "at", "(III)I"⟩
abbrev cX9_add : ByteArray := prog_11_method_32_code
def yX9_add : MethodName := ⟨RX9, "add", "()I"⟩
abbrev cX9_linksOf : ByteArray := prog_11_method_33_code
def yX9_linksOf : MethodName := ⟨RX9, "linksOf", "(I)I"⟩
abbrev cX9_take : ByteArray := prog_11_method_34_code
def yX9_take : MethodName := ⟨RX9, "take", "(I)I"⟩
abbrev cX9_areLinked : ByteArray := prog_11_method_35_code
def yX9_areLinked : MethodName := ⟨RX9, "areLinked", "(II)Z"⟩
abbrev cX9_link : ByteArray := prog_11_method_36_code
def yX9_link : MethodName := ⟨RX9, "link", "(II)Z"⟩
abbrev cX9_unlink : ByteArray := prog_11_method_37_code
def yX9_unlink : MethodName := ⟨RX9, "unlink", "(II)Z"⟩
abbrev cX9_mend : ByteArray := prog_11_method_38_code
def yX9_mend : MethodName := ⟨RX9, "mend", "()I"⟩
abbrev cX9_isFull : ByteArray := prog_11_method_39_code
def yX9_isFull : MethodName := ⟨RX9, "isFull", "(I)Z"⟩
abbrev cX9_findNear : ByteArray := prog_11_method_40_code
def yX9_findNear : MethodName := ⟨RX9, "findNear", "()V"⟩
abbrev cX9_findPieces : ByteArray := prog_11_method_41_code
def yX9_findPieces : MethodName := ⟨RX9, "findPieces", "(I)I"⟩
abbrev cX9_spreads : ByteArray := prog_11_method_42_code
def yX9_spreads : MethodName := ⟨RX9, "spreads", "(II)V"⟩
abbrev cX9_isCut : ByteArray := prog_11_method_43_code
def yX9_isCut : MethodName := ⟨RX9, "isCut", "(II)Z"⟩
abbrev cX9_parts : ByteArray := prog_11_method_44_code
def yX9_parts : MethodName := ⟨RX9, "parts", "()Z"⟩
abbrev cX9_finds : ByteArray := prog_11_method_45_code
def yX9_finds : MethodName := ⟨RX9, "finds", "(I)Z"⟩
abbrev cX9_opens : ByteArray := prog_11_method_46_code
def yX9_opens : MethodName := ⟨RX9, "opens", "()I"⟩
abbrev cX9_reaches : ByteArray := prog_11_method_47_code
def yX9_reaches : MethodName := ⟨RX9, "reaches", "(I)V"⟩
abbrev cX9_fewest : ByteArray := prog_11_method_48_code
def yX9_fewest : MethodName := ⟨RX9, "fewest", "()I"⟩
abbrev cX9_isNearHand : ByteArray := prog_11_method_49_code
def yX9_isNearHand : MethodName := ⟨RX9, "isNearHand", "(I)Z"⟩
abbrev cX9_nextOpened : ByteArray := prog_11_method_50_code
def yX9_nextOpened : MethodName := ⟨RX9, "nextOpened", "()I"⟩
abbrev cX9_order : ByteArray := prog_11_method_51_code
def yX9_order : MethodName := ⟨RX9, "order", "(I)I"⟩
abbrev cX9_sizes : ByteArray := prog_11_method_52_code
def yX9_sizes : MethodName := ⟨RX9, "sizes", "(III)Z"⟩
abbrev cX9_times : ByteArray := prog_11_method_53_code
def yX9_times : MethodName := ⟨RX9, "times", "(I)I"⟩
abbrev cX9_binds : ByteArray := prog_11_method_54_code
def yX9_binds : MethodName := ⟨RX9, "binds", "(I)Z"⟩
abbrev cX9_look : ByteArray := prog_11_method_55_code
def yX9_look : MethodName := ⟨RX9, "look", "(II)I"⟩
abbrev cX9_over : ByteArray := prog_11_method_56_code
def yX9_over : MethodName := ⟨RX9, "over", "(II)I"⟩
abbrev cX9_linked : ByteArray := prog_11_method_57_code
def yX9_linked : MethodName := ⟨RX9, "linked", "(II)I"⟩
abbrev cX9_there : ByteArray := prog_11_method_58_code
def yX9_there : MethodName := ⟨RX9, "there", "()I"⟩
abbrev cX9_sum : ByteArray := prog_11_method_59_code
def yX9_sum : MethodName := ⟨RX9, "sum", "(I)I"⟩
abbrev cX9_count : ByteArray := prog_11_method_60_code
def yX9_count : MethodName := ⟨RX9, "count", "(I)I"⟩
abbrev cX9_worn : ByteArray := prog_11_method_61_code
def yX9_worn : MethodName := ⟨RX9, "worn", "()I"⟩
def RJ13 : String := "java/lang/Long"
def TJ13 : u_T := fun k => match k with
  | _ => ("", "", "", false)
def tyJ13 : Nat → FieldType := fun k => match k with
  | _ => .int
abbrev wsJ130 : List Cond := u_ws RJ13 TJ13 0
theorem nmJ13 : ∀ a, a < 0 → ∀ b, b < 0 → a ≠ b → (TJ13 a).2.1 ≠ (TJ13 b).2.1 := by decide +kernel
theorem tyJ13_ok : ∀ k, k < 0 → parseFieldDescriptor (TJ13 k).2.2.1 = some (tyJ13 k) := by decide +kernel
abbrev cJ13_bitCount_95d88 : ByteArray := prog_13_method_50_code
def yJ13_bitCount_95d88 : MethodName := ⟨RJ13, "bitCount", "(J)I"⟩
def RJ9 : String := "java/lang/Math"
def TJ9 : u_T := fun k => match k with
  | _ => ("", "", "", false)
def tyJ9 : Nat → FieldType := fun k => match k with
  | _ => .int
abbrev wsJ90 : List Cond := u_ws RJ9 TJ9 0
theorem nmJ9 : ∀ a, a < 0 → ∀ b, b < 0 → a ≠ b → (TJ9 a).2.1 ≠ (TJ9 b).2.1 := by decide +kernel
theorem tyJ9_ok : ∀ k, k < 0 → parseFieldDescriptor (TJ9 k).2.2.1 = some (tyJ9 k) := by decide +kernel
abbrev cJ9_min_7cf53 : ByteArray := prog_14_method_69_code
def yJ9_min_7cf53 : MethodName := ⟨RJ9, "min", "(II)I"⟩
def RJ0 : String := "java/lang/String"
def TJ0 : u_T := fun k => match k with
  | _ => ("", "", "", false)
def tyJ0 : Nat → FieldType := fun k => match k with
  | _ => .int
abbrev wsJ00 : List Cond := u_ws RJ0 TJ0 0
theorem nmJ0 : ∀ a, a < 0 → ∀ b, b < 0 → a ≠ b → (TJ0 a).2.1 ≠ (TJ0 b).2.1 := by decide +kernel
theorem tyJ0_ok : ∀ k, k < 0 → parseFieldDescriptor (TJ0 k).2.2.1 = some (tyJ0 k) := by decide +kernel
def RJ7 : String := "java/util/Arrays"
def TJ7 : u_T := fun k => match k with
  | _ => ("", "", "", false)
def tyJ7 : Nat → FieldType := fun k => match k with
  | _ => .int
abbrev wsJ70 : List Cond := u_ws RJ7 TJ7 0
theorem nmJ7 : ∀ a, a < 0 → ∀ b, b < 0 → a ≠ b → (TJ7 a).2.1 ≠ (TJ7 b).2.1 := by decide +kernel
theorem tyJ7_ok : ∀ k, k < 0 → parseFieldDescriptor (TJ7 k).2.2.1 = some (tyJ7 k) := by decide +kernel
abbrev cJ7_fill_d0a16 : ByteArray := prog_18_method_101_code
def yJ7_fill_d0a16 : MethodName := ⟨RJ7, "fill", "([JJ)V"⟩
abbrev cJ7_fill_53178 : ByteArray := prog_18_method_103_code
def yJ7_fill_53178 : MethodName := ⟨RJ7, "fill", "([II)V"⟩
def RL : String := "RingWeavesLaw"
abbrev cL_look : ByteArray := method_3_code
def yL_look : MethodName := ⟨RL, "look", "(LRingWeaves;II[J)I"⟩
abbrev cL_law : ByteArray := code
def yL_law : MethodName := ⟨RL, "law", "([I)Z"⟩
end
section
/-! words of the tables that hold at every call -/
def lw_gw : List Cond := lw_tbl.filter goodWord
theorem am_in {w : Cond} (i : Nat) (h : lw_tbl[i]? = some w) (hg : goodWord w = true) : w ∈ lw_gw := List.mem_filter.mpr ⟨List.mem_of_getElem? h, hg⟩
theorem am_gw {w : Cond} (h : w ∈ lw_gw) : w ∈ lw_tbl ∧ goodWord w = true := List.mem_filter.mp h
abbrev am_cls : List vw_C := [(RX0, TX0, 9), (RX1, TX1, 11), (RX2, TX2, 1), (RX3, TX3, 14), (RX4, TX4, 3), (RX5, TX5, 2), (RX6, TX6, 5), (RX7, TX7, 7), (RX8, TX8, 10), (RX9, TX9, 38)]
set_option maxRecDepth 20000 in
theorem gwX0 : ∀ w ∈ u_ws RX0 TX0 9, w ∈ lw_gw := by decide +kernel
set_option maxRecDepth 20000 in
theorem gwX1 : ∀ w ∈ u_ws RX1 TX1 11, w ∈ lw_gw := by decide +kernel
set_option maxRecDepth 20000 in
theorem gwX2 : ∀ w ∈ u_ws RX2 TX2 1, w ∈ lw_gw := by decide +kernel
set_option maxRecDepth 20000 in
theorem gwX3 : ∀ w ∈ u_ws RX3 TX3 14, w ∈ lw_gw := by decide +kernel
set_option maxRecDepth 20000 in
theorem gwX4 : ∀ w ∈ u_ws RX4 TX4 3, w ∈ lw_gw := by decide +kernel
set_option maxRecDepth 20000 in
theorem gwX5 : ∀ w ∈ u_ws RX5 TX5 2, w ∈ lw_gw := by decide +kernel
set_option maxRecDepth 20000 in
theorem gwX6 : ∀ w ∈ u_ws RX6 TX6 5, w ∈ lw_gw := by decide +kernel
set_option maxRecDepth 20000 in
theorem gwX7 : ∀ w ∈ u_ws RX7 TX7 7, w ∈ lw_gw := by decide +kernel
set_option maxRecDepth 20000 in
theorem gwX8 : ∀ w ∈ u_ws RX8 TX8 10, w ∈ lw_gw := by decide +kernel
set_option maxRecDepth 20000 in
theorem gwX9 : ∀ w ∈ u_ws RX9 TX9 38, w ∈ lw_gw := by decide +kernel
/-- a field of a class, by its link -/
def am_F (own : String) (idx ci k : Nat) (ty : FieldType) (fin : Bool) : Prop := ∃ (C : String) (T : u_T) (N : Nat) (ty0 : Nat → FieldType), am_cls[ci]? = some (C, T, N) ∧ (∀ w ∈ u_ws C T N, w ∈ lw_gw) ∧ (∀ k, k < N → parseFieldDescriptor (T k).2.2.1 = some (ty0 k)) ∧ (∀ a, a < N → ∀ b, b < N → a ≠ b → (T a).2.1 ≠ (T b).2.1) ∧ k < N ∧ Cond.fieldLink own idx C (T k).2.1 (T k).2.2.1 ∈ lw_gw ∧ (T k).1 = C ∧ ty0 k = ty ∧ (T k).2.2.2 = fin
theorem fX5_9 : am_F RX5 9 5 0 (.array .char) true := ⟨RX5, TX5, 2, tyX5, rfl, gwX5, tyX5_ok, nmX5, by decide, am_in 116 (by decide +kernel) rfl, rfl, rfl, rfl⟩
theorem fX6_39 : am_F RX6 39 5 0 (.array .char) true := ⟨RX5, TX5, 2, tyX5, rfl, gwX5, tyX5_ok, nmX5, by decide, am_in 117 (by decide +kernel) rfl, rfl, rfl, rfl⟩
theorem fX8_79 : am_F RX8 79 5 1 .int false := ⟨RX5, TX5, 2, tyX5, rfl, gwX5, tyX5_ok, nmX5, by decide, am_in 118 (by decide +kernel) rfl, rfl, rfl, rfl⟩
theorem fX5_19 : am_F RX5 19 5 1 .int false := ⟨RX5, TX5, 2, tyX5, rfl, gwX5, tyX5_ok, nmX5, by decide, am_in 119 (by decide +kernel) rfl, rfl, rfl, rfl⟩
theorem fX6_31 : am_F RX6 31 5 1 .int false := ⟨RX5, TX5, 2, tyX5, rfl, gwX5, tyX5_ok, nmX5, by decide, am_in 120 (by decide +kernel) rfl, rfl, rfl, rfl⟩
theorem fX6_7 : am_F RX6 7 6 0 (.object "RingWeaves$Tape") true := ⟨RX6, TX6, 5, tyX6, rfl, gwX6, tyX6_ok, nmX6, by decide, am_in 135 (by decide +kernel) rfl, rfl, rfl, rfl⟩
theorem fX6_13 : am_F RX6 13 6 1 .int false := ⟨RX6, TX6, 5, tyX6, rfl, gwX6, tyX6_ok, nmX6, by decide, am_in 136 (by decide +kernel) rfl, rfl, rfl, rfl⟩
theorem fX4_52 : am_F RX4 52 6 2 .int false := ⟨RX6, TX6, 5, tyX6, rfl, gwX6, tyX6_ok, nmX6, by decide, am_in 137 (by decide +kernel) rfl, rfl, rfl, rfl⟩
theorem fX6_36 : am_F RX6 36 6 2 .int false := ⟨RX6, TX6, 5, tyX6, rfl, gwX6, tyX6_ok, nmX6, by decide, am_in 138 (by decide +kernel) rfl, rfl, rfl, rfl⟩
theorem fX6_24 : am_F RX6 24 6 3 .int false := ⟨RX6, TX6, 5, tyX6, rfl, gwX6, tyX6_ok, nmX6, by decide, am_in 139 (by decide +kernel) rfl, rfl, rfl, rfl⟩
theorem fX4_126 : am_F RX4 126 6 3 .int false := ⟨RX6, TX6, 5, tyX6, rfl, gwX6, tyX6_ok, nmX6, by decide, am_in 140 (by decide +kernel) rfl, rfl, rfl, rfl⟩
theorem fX6_27 : am_F RX6 27 6 4 .long false := ⟨RX6, TX6, 5, tyX6, rfl, gwX6, tyX6_ok, nmX6, by decide, am_in 141 (by decide +kernel) rfl, rfl, rfl, rfl⟩
theorem fX4_69 : am_F RX4 69 6 4 .long false := ⟨RX6, TX6, 5, tyX6, rfl, gwX6, tyX6_ok, nmX6, by decide, am_in 142 (by decide +kernel) rfl, rfl, rfl, rfl⟩
theorem fX4_9 : am_F RX4 9 4 0 (.object "RingWeaves$Tokens") true := ⟨RX4, TX4, 3, tyX4, rfl, gwX4, tyX4_ok, nmX4, by decide, am_in 158 (by decide +kernel) rfl, rfl, rfl, rfl⟩
theorem fX4_15 : am_F RX4 15 4 1 (.array .long) true := ⟨RX4, TX4, 3, tyX4, rfl, gwX4, tyX4_ok, nmX4, by decide, am_in 159 (by decide +kernel) rfl, rfl, rfl, rfl⟩
theorem fX4_24 : am_F RX4 24 4 2 .int false := ⟨RX4, TX4, 3, tyX4, rfl, gwX4, tyX4_ok, nmX4, by decide, am_in 160 (by decide +kernel) rfl, rfl, rfl, rfl⟩
theorem fX7_9 : am_F RX7 9 7 0 (.array .int) true := ⟨RX7, TX7, 7, tyX7, rfl, gwX7, tyX7_ok, nmX7, by decide, am_in 181 (by decide +kernel) rfl, rfl, rfl, rfl⟩
theorem fX4_79 : am_F RX4 79 7 0 (.array .int) true := ⟨RX7, TX7, 7, tyX7, rfl, gwX7, tyX7_ok, nmX7, by decide, am_in 182 (by decide +kernel) rfl, rfl, rfl, rfl⟩
theorem fX0_122 : am_F RX0 122 7 0 (.array .int) true := ⟨RX7, TX7, 7, tyX7, rfl, gwX7, tyX7_ok, nmX7, by decide, am_in 183 (by decide +kernel) rfl, rfl, rfl, rfl⟩
theorem fX7_15 : am_F RX7 15 7 1 (.array .int) true := ⟨RX7, TX7, 7, tyX7, rfl, gwX7, tyX7_ok, nmX7, by decide, am_in 184 (by decide +kernel) rfl, rfl, rfl, rfl⟩
theorem fX4_86 : am_F RX4 86 7 1 (.array .int) true := ⟨RX7, TX7, 7, tyX7, rfl, gwX7, tyX7_ok, nmX7, by decide, am_in 185 (by decide +kernel) rfl, rfl, rfl, rfl⟩
theorem fX0_126 : am_F RX0 126 7 1 (.array .int) true := ⟨RX7, TX7, 7, tyX7, rfl, gwX7, tyX7_ok, nmX7, by decide, am_in 186 (by decide +kernel) rfl, rfl, rfl, rfl⟩
theorem fX7_18 : am_F RX7 18 7 2 (.array .int) true := ⟨RX7, TX7, 7, tyX7, rfl, gwX7, tyX7_ok, nmX7, by decide, am_in 187 (by decide +kernel) rfl, rfl, rfl, rfl⟩
theorem fX4_89 : am_F RX4 89 7 2 (.array .int) true := ⟨RX7, TX7, 7, tyX7, rfl, gwX7, tyX7_ok, nmX7, by decide, am_in 188 (by decide +kernel) rfl, rfl, rfl, rfl⟩
theorem fX0_129 : am_F RX0 129 7 2 (.array .int) true := ⟨RX7, TX7, 7, tyX7, rfl, gwX7, tyX7_ok, nmX7, by decide, am_in 189 (by decide +kernel) rfl, rfl, rfl, rfl⟩
theorem fX7_21 : am_F RX7 21 7 3 (.array .int) true := ⟨RX7, TX7, 7, tyX7, rfl, gwX7, tyX7_ok, nmX7, by decide, am_in 190 (by decide +kernel) rfl, rfl, rfl, rfl⟩
theorem fX4_96 : am_F RX4 96 7 3 (.array .int) true := ⟨RX7, TX7, 7, tyX7, rfl, gwX7, tyX7_ok, nmX7, by decide, am_in 191 (by decide +kernel) rfl, rfl, rfl, rfl⟩
theorem fX0_132 : am_F RX0 132 7 3 (.array .int) true := ⟨RX7, TX7, 7, tyX7, rfl, gwX7, tyX7_ok, nmX7, by decide, am_in 192 (by decide +kernel) rfl, rfl, rfl, rfl⟩
theorem fX7_24 : am_F RX7 24 7 4 (.array .boolean) true := ⟨RX7, TX7, 7, tyX7, rfl, gwX7, tyX7_ok, nmX7, by decide, am_in 193 (by decide +kernel) rfl, rfl, rfl, rfl⟩
theorem fX4_99 : am_F RX4 99 7 4 (.array .boolean) true := ⟨RX7, TX7, 7, tyX7, rfl, gwX7, tyX7_ok, nmX7, by decide, am_in 194 (by decide +kernel) rfl, rfl, rfl, rfl⟩
theorem fX0_116 : am_F RX0 116 7 4 (.array .boolean) true := ⟨RX7, TX7, 7, tyX7, rfl, gwX7, tyX7_ok, nmX7, by decide, am_in 195 (by decide +kernel) rfl, rfl, rfl, rfl⟩
theorem fX7_28 : am_F RX7 28 7 5 .int false := ⟨RX7, TX7, 7, tyX7, rfl, gwX7, tyX7_ok, nmX7, by decide, am_in 196 (by decide +kernel) rfl, rfl, rfl, rfl⟩
theorem fX0_45 : am_F RX0 45 7 5 .int false := ⟨RX7, TX7, 7, tyX7, rfl, gwX7, tyX7_ok, nmX7, by decide, am_in 197 (by decide +kernel) rfl, rfl, rfl, rfl⟩
theorem fX4_55 : am_F RX4 55 7 5 .int false := ⟨RX7, TX7, 7, tyX7, rfl, gwX7, tyX7_ok, nmX7, by decide, am_in 198 (by decide +kernel) rfl, rfl, rfl, rfl⟩
theorem fX8_89 : am_F RX8 89 7 5 .int false := ⟨RX7, TX7, 7, tyX7, rfl, gwX7, tyX7_ok, nmX7, by decide, am_in 199 (by decide +kernel) rfl, rfl, rfl, rfl⟩
theorem fX7_32 : am_F RX7 32 7 6 .int false := ⟨RX7, TX7, 7, tyX7, rfl, gwX7, tyX7_ok, nmX7, by decide, am_in 200 (by decide +kernel) rfl, rfl, rfl, rfl⟩
theorem fX4_76 : am_F RX4 76 7 6 .int false := ⟨RX7, TX7, 7, tyX7, rfl, gwX7, tyX7_ok, nmX7, by decide, am_in 201 (by decide +kernel) rfl, rfl, rfl, rfl⟩
theorem fX0_95 : am_F RX0 95 7 6 .int false := ⟨RX7, TX7, 7, tyX7, rfl, gwX7, tyX7_ok, nmX7, by decide, am_in 202 (by decide +kernel) rfl, rfl, rfl, rfl⟩
theorem fX8_200 : am_F RX8 200 7 6 .int false := ⟨RX7, TX7, 7, tyX7, rfl, gwX7, tyX7_ok, nmX7, by decide, am_in 203 (by decide +kernel) rfl, rfl, rfl, rfl⟩
theorem fX2_11 : am_F RX2 11 2 0 (.array .long) true := ⟨RX2, TX2, 1, tyX2, rfl, gwX2, tyX2_ok, nmX2, by decide, am_in 227 (by decide +kernel) rfl, rfl, rfl, rfl⟩
theorem fX0_12 : am_F RX0 12 0 0 (.object "RingWeaves$Weave") true := ⟨RX0, TX0, 9, tyX0, rfl, gwX0, tyX0_ok, nmX0, by decide, am_in 231 (by decide +kernel) rfl, rfl, rfl, rfl⟩
theorem fX0_18 : am_F RX0 18 0 1 (.array .boolean) true := ⟨RX0, TX0, 9, tyX0, rfl, gwX0, tyX0_ok, nmX0, by decide, am_in 232 (by decide +kernel) rfl, rfl, rfl, rfl⟩
theorem fX0_27 : am_F RX0 27 0 2 (.object "RingWeaves$MarkRows") true := ⟨RX0, TX0, 9, tyX0, rfl, gwX0, tyX0_ok, nmX0, by decide, am_in 233 (by decide +kernel) rfl, rfl, rfl, rfl⟩
theorem fX0_31 : am_F RX0 31 0 3 (.object "RingWeaves$MarkRows") true := ⟨RX0, TX0, 9, tyX0, rfl, gwX0, tyX0_ok, nmX0, by decide, am_in 234 (by decide +kernel) rfl, rfl, rfl, rfl⟩
theorem fX3_79 : am_F RX3 79 0 3 (.object "RingWeaves$MarkRows") true := ⟨RX0, TX0, 9, tyX0, rfl, gwX0, tyX0_ok, nmX0, by decide, am_in 235 (by decide +kernel) rfl, rfl, rfl, rfl⟩
theorem fX1_101 : am_F RX1 101 0 3 (.object "RingWeaves$MarkRows") true := ⟨RX0, TX0, 9, tyX0, rfl, gwX0, tyX0_ok, nmX0, by decide, am_in 236 (by decide +kernel) rfl, rfl, rfl, rfl⟩
theorem fX0_38 : am_F RX0 38 0 4 .int false := ⟨RX0, TX0, 9, tyX0, rfl, gwX0, tyX0_ok, nmX0, by decide, am_in 237 (by decide +kernel) rfl, rfl, rfl, rfl⟩
theorem fX0_42 : am_F RX0 42 0 5 .int false := ⟨RX0, TX0, 9, tyX0, rfl, gwX0, tyX0_ok, nmX0, by decide, am_in 238 (by decide +kernel) rfl, rfl, rfl, rfl⟩
theorem fX0_48 : am_F RX0 48 0 6 .int false := ⟨RX0, TX0, 9, tyX0, rfl, gwX0, tyX0_ok, nmX0, by decide, am_in 239 (by decide +kernel) rfl, rfl, rfl, rfl⟩
theorem fX0_51 : am_F RX0 51 0 7 .int false := ⟨RX0, TX0, 9, tyX0, rfl, gwX0, tyX0_ok, nmX0, by decide, am_in 240 (by decide +kernel) rfl, rfl, rfl, rfl⟩
theorem fX3_60 : am_F RX3 60 0 7 .int false := ⟨RX0, TX0, 9, tyX0, rfl, gwX0, tyX0_ok, nmX0, by decide, am_in 241 (by decide +kernel) rfl, rfl, rfl, rfl⟩
theorem fX1_91 : am_F RX1 91 0 7 .int false := ⟨RX0, TX0, 9, tyX0, rfl, gwX0, tyX0_ok, nmX0, by decide, am_in 242 (by decide +kernel) rfl, rfl, rfl, rfl⟩
theorem fX8_100 : am_F RX8 100 0 7 .int false := ⟨RX0, TX0, 9, tyX0, rfl, gwX0, tyX0_ok, nmX0, by decide, am_in 243 (by decide +kernel) rfl, rfl, rfl, rfl⟩
theorem fX3_42 : am_F RX3 42 0 8 .int false := ⟨RX0, TX0, 9, tyX0, rfl, gwX0, tyX0_ok, nmX0, by decide, am_in 244 (by decide +kernel) rfl, rfl, rfl, rfl⟩
theorem fX1_49 : am_F RX1 49 0 8 .int false := ⟨RX0, TX0, 9, tyX0, rfl, gwX0, tyX0_ok, nmX0, by decide, am_in 245 (by decide +kernel) rfl, rfl, rfl, rfl⟩
theorem fX0_54 : am_F RX0 54 0 8 .int false := ⟨RX0, TX0, 9, tyX0, rfl, gwX0, tyX0_ok, nmX0, by decide, am_in 246 (by decide +kernel) rfl, rfl, rfl, rfl⟩
theorem fX3_9 : am_F RX3 9 3 0 (.object "RingWeaves$Mail") true := ⟨RX3, TX3, 14, tyX3, rfl, gwX3, tyX3_ok, nmX3, by decide, am_in 272 (by decide +kernel) rfl, rfl, rfl, rfl⟩
theorem fX3_15 : am_F RX3 15 3 1 (.array .int) true := ⟨RX3, TX3, 14, tyX3, rfl, gwX3, tyX3_ok, nmX3, by decide, am_in 273 (by decide +kernel) rfl, rfl, rfl, rfl⟩
theorem fX3_19 : am_F RX3 19 3 2 (.array .int) true := ⟨RX3, TX3, 14, tyX3, rfl, gwX3, tyX3_ok, nmX3, by decide, am_in 274 (by decide +kernel) rfl, rfl, rfl, rfl⟩
theorem fX3_22 : am_F RX3 22 3 3 (.array .int) true := ⟨RX3, TX3, 14, tyX3, rfl, gwX3, tyX3_ok, nmX3, by decide, am_in 275 (by decide +kernel) rfl, rfl, rfl, rfl⟩
theorem fX3_25 : am_F RX3 25 3 4 (.array .int) true := ⟨RX3, TX3, 14, tyX3, rfl, gwX3, tyX3_ok, nmX3, by decide, am_in 276 (by decide +kernel) rfl, rfl, rfl, rfl⟩
theorem fX3_57 : am_F RX3 57 3 5 .int false := ⟨RX3, TX3, 14, tyX3, rfl, gwX3, tyX3_ok, nmX3, by decide, am_in 277 (by decide +kernel) rfl, rfl, rfl, rfl⟩
theorem fX3_71 : am_F RX3 71 3 6 .int false := ⟨RX3, TX3, 14, tyX3, rfl, gwX3, tyX3_ok, nmX3, by decide, am_in 278 (by decide +kernel) rfl, rfl, rfl, rfl⟩
theorem fX3_38 : am_F RX3 38 3 7 .int false := ⟨RX3, TX3, 14, tyX3, rfl, gwX3, tyX3_ok, nmX3, by decide, am_in 279 (by decide +kernel) rfl, rfl, rfl, rfl⟩
theorem fX3_28 : am_F RX3 28 3 8 (.array .int) true := ⟨RX3, TX3, 14, tyX3, rfl, gwX3, tyX3_ok, nmX3, by decide, am_in 280 (by decide +kernel) rfl, rfl, rfl, rfl⟩
theorem fX8_222 : am_F RX8 222 3 8 (.array .int) true := ⟨RX3, TX3, 14, tyX3, rfl, gwX3, tyX3_ok, nmX3, by decide, am_in 281 (by decide +kernel) rfl, rfl, rfl, rfl⟩
theorem fX3_31 : am_F RX3 31 3 9 (.array .boolean) true := ⟨RX3, TX3, 14, tyX3, rfl, gwX3, tyX3_ok, nmX3, by decide, am_in 282 (by decide +kernel) rfl, rfl, rfl, rfl⟩
theorem fX1_138 : am_F RX1 138 3 9 (.array .boolean) true := ⟨RX3, TX3, 14, tyX3, rfl, gwX3, tyX3_ok, nmX3, by decide, am_in 283 (by decide +kernel) rfl, rfl, rfl, rfl⟩
theorem fX3_35 : am_F RX3 35 3 10 (.array .boolean) true := ⟨RX3, TX3, 14, tyX3, rfl, gwX3, tyX3_ok, nmX3, by decide, am_in 284 (by decide +kernel) rfl, rfl, rfl, rfl⟩
theorem fX8_215 : am_F RX8 215 3 10 (.array .boolean) true := ⟨RX3, TX3, 14, tyX3, rfl, gwX3, tyX3_ok, nmX3, by decide, am_in 285 (by decide +kernel) rfl, rfl, rfl, rfl⟩
theorem fX3_47 : am_F RX3 47 3 11 .int false := ⟨RX3, TX3, 14, tyX3, rfl, gwX3, tyX3_ok, nmX3, by decide, am_in 286 (by decide +kernel) rfl, rfl, rfl, rfl⟩
theorem fX8_182 : am_F RX8 182 3 11 .int false := ⟨RX3, TX3, 14, tyX3, rfl, gwX3, tyX3_ok, nmX3, by decide, am_in 287 (by decide +kernel) rfl, rfl, rfl, rfl⟩
theorem fX3_50 : am_F RX3 50 3 12 .int false := ⟨RX3, TX3, 14, tyX3, rfl, gwX3, tyX3_ok, nmX3, by decide, am_in 288 (by decide +kernel) rfl, rfl, rfl, rfl⟩
theorem fX8_191 : am_F RX8 191 3 12 .int false := ⟨RX3, TX3, 14, tyX3, rfl, gwX3, tyX3_ok, nmX3, by decide, am_in 289 (by decide +kernel) rfl, rfl, rfl, rfl⟩
theorem fX3_53 : am_F RX3 53 3 13 .boolean false := ⟨RX3, TX3, 14, tyX3, rfl, gwX3, tyX3_ok, nmX3, by decide, am_in 290 (by decide +kernel) rfl, rfl, rfl, rfl⟩
theorem fX1_65 : am_F RX1 65 3 13 .boolean false := ⟨RX3, TX3, 14, tyX3, rfl, gwX3, tyX3_ok, nmX3, by decide, am_in 291 (by decide +kernel) rfl, rfl, rfl, rfl⟩
theorem fX8_161 : am_F RX8 161 3 13 .boolean false := ⟨RX3, TX3, 14, tyX3, rfl, gwX3, tyX3_ok, nmX3, by decide, am_in 292 (by decide +kernel) rfl, rfl, rfl, rfl⟩
theorem fX1_9 : am_F RX1 9 1 0 (.object "RingWeaves$Mail") true := ⟨RX1, TX1, 11, tyX1, rfl, gwX1, tyX1_ok, nmX1, by decide, am_in 330 (by decide +kernel) rfl, rfl, rfl, rfl⟩
theorem fX1_15 : am_F RX1 15 1 1 (.object "RingWeaves$Pieces") true := ⟨RX1, TX1, 11, tyX1, rfl, gwX1, tyX1_ok, nmX1, by decide, am_in 331 (by decide +kernel) rfl, rfl, rfl, rfl⟩
theorem fX1_24 : am_F RX1 24 1 2 (.object "RingWeaves$MarkRows") true := ⟨RX1, TX1, 11, tyX1, rfl, gwX1, tyX1_ok, nmX1, by decide, am_in 332 (by decide +kernel) rfl, rfl, rfl, rfl⟩
theorem fX1_28 : am_F RX1 28 1 3 (.array .int) true := ⟨RX1, TX1, 11, tyX1, rfl, gwX1, tyX1_ok, nmX1, by decide, am_in 333 (by decide +kernel) rfl, rfl, rfl, rfl⟩
theorem fX1_32 : am_F RX1 32 1 4 (.array .int) true := ⟨RX1, TX1, 11, tyX1, rfl, gwX1, tyX1_ok, nmX1, by decide, am_in 334 (by decide +kernel) rfl, rfl, rfl, rfl⟩
theorem fX1_35 : am_F RX1 35 1 5 (.array .int) true := ⟨RX1, TX1, 11, tyX1, rfl, gwX1, tyX1_ok, nmX1, by decide, am_in 335 (by decide +kernel) rfl, rfl, rfl, rfl⟩
theorem fX1_38 : am_F RX1 38 1 6 (.array .boolean) true := ⟨RX1, TX1, 11, tyX1, rfl, gwX1, tyX1_ok, nmX1, by decide, am_in 336 (by decide +kernel) rfl, rfl, rfl, rfl⟩
theorem fX1_118 : am_F RX1 118 1 7 .int false := ⟨RX1, TX1, 11, tyX1, rfl, gwX1, tyX1_ok, nmX1, by decide, am_in 337 (by decide +kernel) rfl, rfl, rfl, rfl⟩
theorem fX1_45 : am_F RX1 45 1 8 .int false := ⟨RX1, TX1, 11, tyX1, rfl, gwX1, tyX1_ok, nmX1, by decide, am_in 338 (by decide +kernel) rfl, rfl, rfl, rfl⟩
theorem fX1_42 : am_F RX1 42 1 9 (.array .int) true := ⟨RX1, TX1, 11, tyX1, rfl, gwX1, tyX1_ok, nmX1, by decide, am_in 339 (by decide +kernel) rfl, rfl, rfl, rfl⟩
theorem fX8_168 : am_F RX8 168 1 9 (.array .int) true := ⟨RX1, TX1, 11, tyX1, rfl, gwX1, tyX1_ok, nmX1, by decide, am_in 340 (by decide +kernel) rfl, rfl, rfl, rfl⟩
theorem fX1_59 : am_F RX1 59 1 10 .int false := ⟨RX1, TX1, 11, tyX1, rfl, gwX1, tyX1_ok, nmX1, by decide, am_in 341 (by decide +kernel) rfl, rfl, rfl, rfl⟩
theorem fX8_165 : am_F RX8 165 1 10 .int false := ⟨RX1, TX1, 11, tyX1, rfl, gwX1, tyX1_ok, nmX1, by decide, am_in 342 (by decide +kernel) rfl, rfl, rfl, rfl⟩
theorem fX8_10 : am_F RX8 10 8 0 (.object "RingWeaves$Tape") true := ⟨RX8, TX8, 10, tyX8, rfl, gwX8, tyX8_ok, nmX8, by decide, am_in 368 (by decide +kernel) rfl, rfl, rfl, rfl⟩
theorem fX8_26 : am_F RX8 26 8 1 (.object "RingWeaves$Reader") true := ⟨RX8, TX8, 10, tyX8, rfl, gwX8, tyX8_ok, nmX8, by decide, am_in 369 (by decide +kernel) rfl, rfl, rfl, rfl⟩
theorem fX8_33 : am_F RX8 33 8 2 (.object "RingWeaves$Mail") true := ⟨RX8, TX8, 10, tyX8, rfl, gwX8, tyX8_ok, nmX8, by decide, am_in 370 (by decide +kernel) rfl, rfl, rfl, rfl⟩
theorem fX8_42 : am_F RX8 42 8 3 (.object "RingWeaves$Pieces") true := ⟨RX8, TX8, 10, tyX8, rfl, gwX8, tyX8_ok, nmX8, by decide, am_in 371 (by decide +kernel) rfl, rfl, rfl, rfl⟩
theorem fX8_51 : am_F RX8 51 8 4 (.object "RingWeaves$Making") true := ⟨RX8, TX8, 10, tyX8, rfl, gwX8, tyX8_ok, nmX8, by decide, am_in 372 (by decide +kernel) rfl, rfl, rfl, rfl⟩
theorem fX8_58 : am_F RX8 58 8 5 (.object "RingWeaves$Weave") false := ⟨RX8, TX8, 10, tyX8, rfl, gwX8, tyX8_ok, nmX8, by decide, am_in 373 (by decide +kernel) rfl, rfl, rfl, rfl⟩
theorem fX8_62 : am_F RX8 62 8 6 (.object "RingWeaves$Weave") false := ⟨RX8, TX8, 10, tyX8, rfl, gwX8, tyX8_ok, nmX8, by decide, am_in 374 (by decide +kernel) rfl, rfl, rfl, rfl⟩
theorem fX8_65 : am_F RX8 65 8 7 .int false := ⟨RX8, TX8, 10, tyX8, rfl, gwX8, tyX8_ok, nmX8, by decide, am_in 375 (by decide +kernel) rfl, rfl, rfl, rfl⟩
theorem fX8_69 : am_F RX8 69 8 8 .int false := ⟨RX8, TX8, 10, tyX8, rfl, gwX8, tyX8_ok, nmX8, by decide, am_in 376 (by decide +kernel) rfl, rfl, rfl, rfl⟩
theorem fX8_72 : am_F RX8 72 8 9 .int false := ⟨RX8, TX8, 10, tyX8, rfl, gwX8, tyX8_ok, nmX8, by decide, am_in 377 (by decide +kernel) rfl, rfl, rfl, rfl⟩
theorem fX9_1 : am_F RX9 1 9 0 .int false := ⟨RX9, TX9, 38, tyX9, rfl, gwX9, tyX9_ok, nmX9, by decide, am_in 958 (by decide +kernel) rfl, rfl, rfl, rfl⟩
theorem fX9_14 : am_F RX9 14 9 1 (.array .int) true := ⟨RX9, TX9, 38, tyX9, rfl, gwX9, tyX9_ok, nmX9, by decide, am_in 959 (by decide +kernel) rfl, rfl, rfl, rfl⟩
theorem fX9_11 : am_F RX9 11 9 2 .int false := ⟨RX9, TX9, 38, tyX9, rfl, gwX9, tyX9_ok, nmX9, by decide, am_in 960 (by decide +kernel) rfl, rfl, rfl, rfl⟩
theorem fX9_123 : am_F RX9 123 9 3 .int false := ⟨RX9, TX9, 38, tyX9, rfl, gwX9, tyX9_ok, nmX9, by decide, am_in 961 (by decide +kernel) rfl, rfl, rfl, rfl⟩
theorem fX9_24 : am_F RX9 24 9 4 (.array .int) true := ⟨RX9, TX9, 38, tyX9, rfl, gwX9, tyX9_ok, nmX9, by decide, am_in 962 (by decide +kernel) rfl, rfl, rfl, rfl⟩
theorem fX9_27 : am_F RX9 27 9 5 (.array .int) true := ⟨RX9, TX9, 38, tyX9, rfl, gwX9, tyX9_ok, nmX9, by decide, am_in 963 (by decide +kernel) rfl, rfl, rfl, rfl⟩
theorem fX9_30 : am_F RX9 30 9 6 (.array .long) true := ⟨RX9, TX9, 38, tyX9, rfl, gwX9, tyX9_ok, nmX9, by decide, am_in 964 (by decide +kernel) rfl, rfl, rfl, rfl⟩
theorem fX9_142 : am_F RX9 142 9 7 .int false := ⟨RX9, TX9, 38, tyX9, rfl, gwX9, tyX9_ok, nmX9, by decide, am_in 965 (by decide +kernel) rfl, rfl, rfl, rfl⟩
theorem fX9_145 : am_F RX9 145 9 8 .int false := ⟨RX9, TX9, 38, tyX9, rfl, gwX9, tyX9_ok, nmX9, by decide, am_in 966 (by decide +kernel) rfl, rfl, rfl, rfl⟩
theorem fX9_42 : am_F RX9 42 9 9 (.array .long) true := ⟨RX9, TX9, 38, tyX9, rfl, gwX9, tyX9_ok, nmX9, by decide, am_in 967 (by decide +kernel) rfl, rfl, rfl, rfl⟩
theorem fX9_45 : am_F RX9 45 9 10 (.array .int) true := ⟨RX9, TX9, 38, tyX9, rfl, gwX9, tyX9_ok, nmX9, by decide, am_in 968 (by decide +kernel) rfl, rfl, rfl, rfl⟩
theorem fX9_48 : am_F RX9 48 9 11 (.array .long) true := ⟨RX9, TX9, 38, tyX9, rfl, gwX9, tyX9_ok, nmX9, by decide, am_in 969 (by decide +kernel) rfl, rfl, rfl, rfl⟩
theorem fX9_51 : am_F RX9 51 9 12 (.array .int) true := ⟨RX9, TX9, 38, tyX9, rfl, gwX9, tyX9_ok, nmX9, by decide, am_in 970 (by decide +kernel) rfl, rfl, rfl, rfl⟩
theorem fX9_54 : am_F RX9 54 9 13 (.array .int) true := ⟨RX9, TX9, 38, tyX9, rfl, gwX9, tyX9_ok, nmX9, by decide, am_in 971 (by decide +kernel) rfl, rfl, rfl, rfl⟩
theorem fX9_57 : am_F RX9 57 9 14 (.array .int) true := ⟨RX9, TX9, 38, tyX9, rfl, gwX9, tyX9_ok, nmX9, by decide, am_in 972 (by decide +kernel) rfl, rfl, rfl, rfl⟩
theorem fX9_60 : am_F RX9 60 9 15 (.array .int) true := ⟨RX9, TX9, 38, tyX9, rfl, gwX9, tyX9_ok, nmX9, by decide, am_in 973 (by decide +kernel) rfl, rfl, rfl, rfl⟩
theorem fX9_63 : am_F RX9 63 9 16 (.array .int) true := ⟨RX9, TX9, 38, tyX9, rfl, gwX9, tyX9_ok, nmX9, by decide, am_in 974 (by decide +kernel) rfl, rfl, rfl, rfl⟩
theorem fX9_66 : am_F RX9 66 9 17 (.array .boolean) true := ⟨RX9, TX9, 38, tyX9, rfl, gwX9, tyX9_ok, nmX9, by decide, am_in 975 (by decide +kernel) rfl, rfl, rfl, rfl⟩
theorem fX9_204 : am_F RX9 204 9 18 .int false := ⟨RX9, TX9, 38, tyX9, rfl, gwX9, tyX9_ok, nmX9, by decide, am_in 976 (by decide +kernel) rfl, rfl, rfl, rfl⟩
theorem fX9_207 : am_F RX9 207 9 19 .int false := ⟨RX9, TX9, 38, tyX9, rfl, gwX9, tyX9_ok, nmX9, by decide, am_in 977 (by decide +kernel) rfl, rfl, rfl, rfl⟩
theorem fX9_218 : am_F RX9 218 9 20 .int false := ⟨RX9, TX9, 38, tyX9, rfl, gwX9, tyX9_ok, nmX9, by decide, am_in 978 (by decide +kernel) rfl, rfl, rfl, rfl⟩
theorem fX9_201 : am_F RX9 201 9 21 .int false := ⟨RX9, TX9, 38, tyX9, rfl, gwX9, tyX9_ok, nmX9, by decide, am_in 979 (by decide +kernel) rfl, rfl, rfl, rfl⟩
theorem fX9_70 : am_F RX9 70 9 22 (.array .boolean) true := ⟨RX9, TX9, 38, tyX9, rfl, gwX9, tyX9_ok, nmX9, by decide, am_in 980 (by decide +kernel) rfl, rfl, rfl, rfl⟩
theorem fX9_74 : am_F RX9 74 9 23 (.array .int) true := ⟨RX9, TX9, 38, tyX9, rfl, gwX9, tyX9_ok, nmX9, by decide, am_in 981 (by decide +kernel) rfl, rfl, rfl, rfl⟩
theorem fX9_77 : am_F RX9 77 9 24 (.array .boolean) true := ⟨RX9, TX9, 38, tyX9, rfl, gwX9, tyX9_ok, nmX9, by decide, am_in 982 (by decide +kernel) rfl, rfl, rfl, rfl⟩
theorem fX9_80 : am_F RX9 80 9 25 (.array .int) true := ⟨RX9, TX9, 38, tyX9, rfl, gwX9, tyX9_ok, nmX9, by decide, am_in 983 (by decide +kernel) rfl, rfl, rfl, rfl⟩
theorem fX9_83 : am_F RX9 83 9 26 (.array .int) true := ⟨RX9, TX9, 38, tyX9, rfl, gwX9, tyX9_ok, nmX9, by decide, am_in 984 (by decide +kernel) rfl, rfl, rfl, rfl⟩
theorem fX9_86 : am_F RX9 86 9 27 (.array .int) true := ⟨RX9, TX9, 38, tyX9, rfl, gwX9, tyX9_ok, nmX9, by decide, am_in 985 (by decide +kernel) rfl, rfl, rfl, rfl⟩
theorem fX9_89 : am_F RX9 89 9 28 (.array .int) true := ⟨RX9, TX9, 38, tyX9, rfl, gwX9, tyX9_ok, nmX9, by decide, am_in 986 (by decide +kernel) rfl, rfl, rfl, rfl⟩
theorem fX9_92 : am_F RX9 92 9 29 (.array .int) true := ⟨RX9, TX9, 38, tyX9, rfl, gwX9, tyX9_ok, nmX9, by decide, am_in 987 (by decide +kernel) rfl, rfl, rfl, rfl⟩
theorem fX9_95 : am_F RX9 95 9 30 (.array .int) true := ⟨RX9, TX9, 38, tyX9, rfl, gwX9, tyX9_ok, nmX9, by decide, am_in 988 (by decide +kernel) rfl, rfl, rfl, rfl⟩
theorem fX9_98 : am_F RX9 98 9 31 (.array .boolean) true := ⟨RX9, TX9, 38, tyX9, rfl, gwX9, tyX9_ok, nmX9, by decide, am_in 989 (by decide +kernel) rfl, rfl, rfl, rfl⟩
theorem fX9_101 : am_F RX9 101 9 32 (.array .boolean) true := ⟨RX9, TX9, 38, tyX9, rfl, gwX9, tyX9_ok, nmX9, by decide, am_in 990 (by decide +kernel) rfl, rfl, rfl, rfl⟩
theorem fX9_104 : am_F RX9 104 9 33 (.array .boolean) true := ⟨RX9, TX9, 38, tyX9, rfl, gwX9, tyX9_ok, nmX9, by decide, am_in 991 (by decide +kernel) rfl, rfl, rfl, rfl⟩
theorem fX9_107 : am_F RX9 107 9 34 (.array .boolean) true := ⟨RX9, TX9, 38, tyX9, rfl, gwX9, tyX9_ok, nmX9, by decide, am_in 992 (by decide +kernel) rfl, rfl, rfl, rfl⟩
theorem fX9_110 : am_F RX9 110 9 35 .int false := ⟨RX9, TX9, 38, tyX9, rfl, gwX9, tyX9_ok, nmX9, by decide, am_in 993 (by decide +kernel) rfl, rfl, rfl, rfl⟩
theorem fX9_113 : am_F RX9 113 9 36 .int false := ⟨RX9, TX9, 38, tyX9, rfl, gwX9, tyX9_ok, nmX9, by decide, am_in 994 (by decide +kernel) rfl, rfl, rfl, rfl⟩
theorem fX9_116 : am_F RX9 116 9 37 .int false := ⟨RX9, TX9, 38, tyX9, rfl, gwX9, tyX9_ok, nmX9, by decide, am_in 995 (by decide +kernel) rfl, rfl, rfl, rfl⟩
/-- a method: name, code, locals, what it returns, how many cells and slots it makes -/
abbrev am_M : Type := MethodName × ByteArray × Nat × Option FieldType × Nat × Nat
def am_mk (M : am_M) (n : Nat) : Prop := Cond.code M.1 M.2.1 M.2.2.1 M.2.2.2.1 ∈ lw_gw ∧ plainName M.1.cls = true ∧ (M.1.cls ≠ "java/lang/invoke/MethodHandle" ∧ M.1.cls ≠ "java/lang/invoke/VarHandle") ∧ Cond.initialized M.1.cls ∈ lw_gw ∧ M.2.2.1 ≤ 22 ∧ (parseMethodDescriptor M.1.desc).map (fun d => d.parameters.length) = some n
def am_mi (M : am_M) (n : Nat) : Prop := am_mk M n ∧ Cond.instanceMethod M.1 ∈ lw_gw ∧ Cond.selects M.1.cls M.1 M.1 ∈ lw_gw
def am_mc (M : am_M) (n : Nat) : Prop := am_mk M n ∧ Cond.instanceMethod M.1 ∈ lw_gw ∧ M.1.name = "<init>"
def am_ms (M : am_M) (n : Nat) : Prop := am_mk M n ∧ Cond.static M.1 ∈ lw_gw
def mX0_init : am_M := (yX0_init, cX0_init, 1, none, 11, 3429)
def mX0_layOut : am_M := (yX0_layOut, cX0_layOut, 5, none, 0, 0)
def mX0_ringOfCell : am_M := (yX0_ringOfCell, cX0_ringOfCell, 5, (some .int), 0, 0)
def mX0_isNumbered : am_M := (yX0_isNumbered, cX0_isNumbered, 2, (some .boolean), 0, 0)
def mX0_isThere : am_M := (yX0_isThere, cX0_isThere, 2, (some .boolean), 0, 0)
def mX0_putIn : am_M := (yX0_putIn, cX0_putIn, 2, (some .int), 0, 0)
def mX0_takeAway : am_M := (yX0_takeAway, cX0_takeAway, 5, (some .int), 0, 0)
def mX0_areLinked : am_M := (yX0_areLinked, cX0_areLinked, 3, (some .boolean), 0, 0)
def mX0_goesOver : am_M := (yX0_goesOver, cX0_goesOver, 3, (some .boolean), 0, 0)
def mX0_join : am_M := (yX0_join, cX0_join, 3, none, 0, 0)
def mX0_part : am_M := (yX0_part, cX0_part, 3, none, 0, 0)
def mX0_mendWorn : am_M := (yX0_mendWorn, cX0_mendWorn, 3, (some .int), 0, 0)
def mX0_linksOf : am_M := (yX0_linksOf, cX0_linksOf, 2, (some .int), 0, 0)
def mX0_linkedAtPlace : am_M := (yX0_linkedAtPlace, cX0_linkedAtPlace, 5, (some .int), 0, 0)
def mX0_isFull : am_M := (yX0_isFull, cX0_isFull, 3, (some .boolean), 0, 0)
def mX0_ringsThere : am_M := (yX0_ringsThere, cX0_ringsThere, 3, (some .int), 0, 0)
def mX0_allLinks : am_M := (yX0_allLinks, cX0_allLinks, 3, (some .int), 0, 0)
def mX0_fullRings : am_M := (yX0_fullRings, cX0_fullRings, 3, (some .int), 0, 0)
def mX0_wornRings : am_M := (yX0_wornRings, cX0_wornRings, 3, (some .int), 0, 0)
def mX0_joinAsTold : am_M := (yX0_joinAsTold, cX0_joinAsTold, 3, none, 0, 0)
def mX0_joinOneAsTold : am_M := (yX0_joinOneAsTold, cX0_joinOneAsTold, 5, none, 0, 0)
def mX0_standsAsTold : am_M := (yX0_standsAsTold, cX0_standsAsTold, 5, (some .boolean), 0, 0)
def mX0_isOfLink : am_M := (yX0_isOfLink, cX0_isOfLink, 4, (some .boolean), 0, 0)
def mX0_otherAsTold : am_M := (yX0_otherAsTold, cX0_otherAsTold, 7, (some .int), 0, 0)
def mX1_init : am_M := (yX1_init, cX1_init, 3, none, 7, 1521)
def mX1_refresh : am_M := (yX1_refresh, cX1_refresh, 1, none, 0, 0)
def mX1_isOpened : am_M := (yX1_isOpened, cX1_isOpened, 2, (some .boolean), 0, 0)
def mX1_pairWhatIsFree : am_M := (yX1_pairWhatIsFree, cX1_pairWhatIsFree, 2, none, 0, 0)
def mX1_pairWithFree : am_M := (yX1_pairWithFree, cX1_pairWithFree, 4, none, 0, 0)
def mX1_pairAsManyAsCanBe : am_M := (yX1_pairAsManyAsCanBe, cX1_pairAsManyAsCanBe, 3, none, 0, 0)
def mX1_reachFromUnpaired : am_M := (yX1_reachFromUnpaired, cX1_reachFromUnpaired, 3, (some .int), 0, 0)
def mX1_queueUnpaired : am_M := (yX1_queueUnpaired, cX1_queueUnpaired, 2, none, 0, 0)
def mX1_reachFrom : am_M := (yX1_reachFrom, cX1_reachFrom, 4, (some .int), 0, 0)
def mX1_putInQueue : am_M := (yX1_putInQueue, cX1_putInQueue, 2, none, 0, 0)
def mX1_turnPairsUpTo : am_M := (yX1_turnPairsUpTo, cX1_turnPairsUpTo, 6, none, 0, 0)
def mX1_markOpened : am_M := (yX1_markOpened, cX1_markOpened, 2, none, 0, 0)
def mX1_needsOpening : am_M := (yX1_needsOpening, cX1_needsOpening, 2, (some .boolean), 0, 0)
def mX1_putInOrder : am_M := (yX1_putInOrder, cX1_putInOrder, 3, none, 0, 0)
def mX1_nextToOpen : am_M := (yX1_nextToOpen, cX1_nextToOpen, 4, (some .int), 0, 0)
def mX1_takeLinkedInHand : am_M := (yX1_takeLinkedInHand, cX1_takeLinkedInHand, 4, none, 0, 0)
def mX1_takeInHand : am_M := (yX1_takeInHand, cX1_takeInHand, 2, none, 0, 0)
def mX1_isOfFirstSide : am_M := (yX1_isOfFirstSide, cX1_isOfFirstSide, 2, (some .boolean), 0, 0)
def mX2_init300 : am_M := (yX2_init, cX2_init, 2, none, 1, 1500)
def mX2_init4 : am_M := (yX2_init, cX2_init, 2, none, 1, 20)
def mX2_has : am_M := (yX2_has, cX2_has, 3, (some .boolean), 0, 0)
def mX2_put : am_M := (yX2_put, cX2_put, 3, none, 0, 0)
def mX2_drop : am_M := (yX2_drop, cX2_drop, 3, none, 0, 0)
def mX2_dropAll : am_M := (yX2_dropAll, cX2_dropAll, 1, none, 0, 0)
def mX2_next : am_M := (yX2_next, cX2_next, 10, (some .int), 0, 0)
def mX2_size : am_M := (yX2_size, cX2_size, 4, (some .int), 0, 0)
def mX2_putAllOf : am_M := (yX2_putAllOf, cX2_putAllOf, 5, none, 0, 0)
def mX3_init : am_M := (yX3_init, cX3_init, 2, none, 7, 2100)
def mX3_refresh : am_M := (yX3_refresh, cX3_refresh, 2, none, 0, 0)
def mX3_walkPiece : am_M := (yX3_walkPiece, cX3_walkPiece, 5, none, 0, 0)
def mX3_tryLink : am_M := (yX3_tryLink, cX3_tryLink, 3, (some .int), 0, 0)
def mX3_enter : am_M := (yX3_enter, cX3_enter, 3, none, 0, 0)
def mX3_leave : am_M := (yX3_leave, cX3_leave, 3, none, 0, 0)
def mX3_markCut : am_M := (yX3_markCut, cX3_markCut, 2, none, 0, 0)
def mX4_init : am_M := (yX4_init, cX4_init, 2, none, 1, 4)
def mX4_read : am_M := (yX4_read, cX4_read, 3, (some .int), 0, 0)
def mX4_readRing : am_M := (yX4_readRing, cX4_readRing, 2, none, 0, 0)
def mX4_readLink : am_M := (yX4_readLink, cX4_readLink, 3, none, 0, 0)
def mX4_readToldName : am_M := (yX4_readToldName, cX4_readToldName, 3, (some .int), 0, 0)
def mX4_readAway : am_M := (yX4_readAway, cX4_readAway, 3, (some .int), 0, 0)
def mX4_readOver : am_M := (yX4_readOver, cX4_readOver, 3, (some .boolean), 0, 0)
def mX4_passSemicolon : am_M := (yX4_passSemicolon, cX4_passSemicolon, 1, none, 0, 0)
def mX4_isWord : am_M := (yX4_isWord, cX4_isWord, 3, (some .boolean), 0, 0)
def mX4_isName : am_M := (yX4_isName, cX4_isName, 1, (some .boolean), 0, 0)
def mX4_ringOfName : am_M := (yX4_ringOfName, cX4_ringOfName, 3, (some .int), 0, 0)
def mX4_failWith : am_M := (yX4_failWith, cX4_failWith, 2, none, 0, 0)
def mX5_init : am_M := (yX5_init, cX5_init, 1, none, 1, 1000)
def mX5_putBytes : am_M := (yX5_putBytes, cX5_putBytes, 4, none, 0, 0)
def mX5_empty : am_M := (yX5_empty, cX5_empty, 1, none, 0, 0)
def mX5_putSign : am_M := (yX5_putSign, cX5_putSign, 3, none, 0, 0)
def mX6_init : am_M := (yX6_init, cX6_init, 2, none, 0, 0)
def mX6_start : am_M := (yX6_start, cX6_start, 1, none, 0, 0)
def mX6_step : am_M := (yX6_step, cX6_step, 1, none, 0, 0)
def mX6_is : am_M := (yX6_is, cX6_is, 4, (some .boolean), 0, 0)
def mX6_behindBlanks : am_M := (yX6_behindBlanks, cX6_behindBlanks, 3, (some .int), 0, 0)
def mX6_readWord : am_M := (yX6_readWord, cX6_readWord, 1, none, 0, 0)
def mX6_readNumber : am_M := (yX6_readNumber, cX6_readNumber, 1, none, 0, 0)
def mX6_readSign : am_M := (yX6_readSign, cX6_readSign, 2, none, 0, 0)
def mX6_isLetter : am_M := (yX6_isLetter, cX6_isLetter, 1, (some .boolean), 0, 0)
def mX6_isDigit : am_M := (yX6_isDigit, cX6_isDigit, 1, (some .boolean), 0, 0)
def mX7_init : am_M := (yX7_init, cX7_init, 1, none, 5, 120)
def mX7_empty : am_M := (yX7_empty, cX7_empty, 1, none, 0, 0)
def mX7_copyFrom : am_M := (yX7_copyFrom, cX7_copyFrom, 3, none, 0, 0)
def mX7_takesNewLink : am_M := (yX7_takesNewLink, cX7_takesNewLink, 3, (some .boolean), 0, 0)
def mX7_isSameToldAlike : am_M := (yX7_isSameToldAlike, cX7_isSameToldAlike, 3, (some .boolean), 0, 0)
def mX7_isSameToldBack : am_M := (yX7_isSameToldBack, cX7_isSameToldBack, 3, (some .boolean), 0, 0)
def mX8_init : am_M := (yX8_init, cX8_init, 1, none, 45, 8352)
def mX8_feed : am_M := (yX8_feed, cX8_feed, 7, (some .int), 0, 0)
def mX8_weave : am_M := (yX8_weave, cX8_weave, 3, (some .int), 0, 0)
def mX8_lay : am_M := (yX8_lay, cX8_lay, 3, (some .int), 0, 0)
def mX8_at : am_M := (yX8_at, cX8_at, 4, (some .int), 0, 0)
def mX8_add : am_M := (yX8_add, cX8_add, 1, (some .int), 0, 0)
def mX8_take : am_M := (yX8_take, cX8_take, 2, (some .int), 0, 0)
def mX8_link : am_M := (yX8_link, cX8_link, 3, (some .boolean), 0, 0)
def mX8_unlink : am_M := (yX8_unlink, cX8_unlink, 3, (some .boolean), 0, 0)
def mX8_mend : am_M := (yX8_mend, cX8_mend, 1, (some .int), 0, 0)
def mX8_look : am_M := (yX8_look, cX8_look, 3, (some .int), 0, 0)
def mX8_over : am_M := (yX8_over, cX8_over, 3, (some .int), 0, 0)
def mX8_linked : am_M := (yX8_linked, cX8_linked, 3, (some .int), 0, 0)
def mX8_fewest : am_M := (yX8_fewest, cX8_fewest, 1, (some .int), 0, 0)
def mX8_order : am_M := (yX8_order, cX8_order, 2, (some .int), 0, 0)
def mX8_sizes : am_M := (yX8_sizes, cX8_sizes, 4, (some .boolean), 0, 0)
def mX8_count : am_M := (yX8_count, cX8_count, 2, (some .int), 0, 0)
def mX8_lookAtOneThere : am_M := (yX8_lookAtOneThere, cX8_lookAtOneThere, 3, (some .int), 0, 0)
def mX8_binds : am_M := (yX8_binds, cX8_binds, 3, (some .boolean), 0, 0)
def mX8_roomFor : am_M := (yX8_roomFor, cX8_roomFor, 2, (some .int), 0, 0)
def mX8_bindingRings : am_M := (yX8_bindingRings, cX8_bindingRings, 3, (some .int), 0, 0)
def mX8_wireOfAll : am_M := (yX8_wireOfAll, cX8_wireOfAll, 1, (some .int), 0, 0)
def mX8_weightOfAll : am_M := (yX8_weightOfAll, cX8_weightOfAll, 1, (some .int), 0, 0)
def mX8_isSide : am_M := (yX8_isSide, cX8_isSide, 1, (some .boolean), 0, 0)
def mX8_isWithin : am_M := (yX8_isWithin, cX8_isWithin, 2, (some .boolean), 0, 0)
def mX8_asNumber : am_M := (yX8_asNumber, cX8_asNumber, 1, (some .int), 0, 0)
def mX9_thrown : am_M := (yX9_thrown, cX9_thrown, 1, (some .int), 0, 0)
def mX9_feed : am_M := (yX9_feed, cX9_feed, 7, (some .int), 0, 0)
def mX9_lay : am_M := (yX9_lay, cX9_lay, 5, none, 0, 0)
def mX9_init : am_M := (yX9_init, cX9_init, 1, none, 26, 187688)
def mX9_isLetter : am_M := (yX9_isLetter, cX9_isLetter, 1, (some .boolean), 0, 0)
def mX9_isDigit : am_M := (yX9_isDigit, cX9_isDigit, 1, (some .boolean), 0, 0)
def mX9_rank : am_M := (yX9_rank, cX9_rank, 1, (some .int), 0, 0)
def mX9_isSignOf : am_M := (yX9_isSignOf, cX9_isSignOf, 1, (some .boolean), 0, 0)
def mX9_cutAll : am_M := (yX9_cutAll, cX9_cutAll, 7, none, 0, 0)
def mX9_wrong : am_M := (yX9_wrong, cX9_wrong, 2, none, 0, 0)
def mX9_isSign : am_M := (yX9_isSign, cX9_isSign, 2, (some .boolean), 0, 0)
def mX9_isWord : am_M := (yX9_isWord, cX9_isWord, 2, (some .boolean), 0, 0)
def mX9_takeSign : am_M := (yX9_takeSign, cX9_takeSign, 2, none, 0, 0)
def mX9_hasSign : am_M := (yX9_hasSign, cX9_hasSign, 3, (some .boolean), 0, 0)
def mX9_isName : am_M := (yX9_isName, cX9_isName, 3, (some .boolean), 0, 0)
def mX9_findRing : am_M := (yX9_findRing, cX9_findRing, 5, (some .int), 0, 0)
def mX9_weave : am_M := (yX9_weave, cX9_weave, 1, (some .int), 0, 0)
def mX9_copies : am_M := (yX9_copies, cX9_copies, 4, none, 0, 0)
def mX9_readRing : am_M := (yX9_readRing, cX9_readRing, 1, none, 0, 0)
def mX9_takeRing : am_M := (yX9_takeRing, cX9_takeRing, 2, (some .int), 0, 0)
def mX9_takeAway : am_M := (yX9_takeAway, cX9_takeAway, 3, (some .int), 0, 0)
def mX9_isLinkTold : am_M := (yX9_isLinkTold, cX9_isLinkTold, 7, (some .boolean), 0, 0)
def mX9_readLink : am_M := (yX9_readLink, cX9_readLink, 7, none, 0, 0)
def mX9_isRing : am_M := (yX9_isRing, cX9_isRing, 2, (some .boolean), 0, 0)
def mX9_sets : am_M := (yX9_sets, cX9_sets, 4, none, 0, 0)
def mX9_partner : am_M := (yX9_partner, cX9_partner, 8, (some .int), 0, 0)
def mX9_links : am_M := (yX9_links, cX9_links, 6, none, 0, 0)
def mX9_lay_ : am_M := (yX9_lay_, cX9_lay_, 4, (some .int), 0, 0)
def mX9_at : am_M := (yX9_at, cX9_at, 5, (some .int), 0, 0)
def mX9_add : am_M := (yX9_add, cX9_add, 1, (some .int), 0, 0)
def mX9_linksOf : am_M := (yX9_linksOf, cX9_linksOf, 4, (some .int), 0, 0)
def mX9_take : am_M := (yX9_take, cX9_take, 4, (some .int), 0, 0)
def mX9_areLinked : am_M := (yX9_areLinked, cX9_areLinked, 3, (some .boolean), 0, 0)
def mX9_link : am_M := (yX9_link, cX9_link, 3, (some .boolean), 0, 0)
def mX9_unlink : am_M := (yX9_unlink, cX9_unlink, 3, (some .boolean), 0, 0)
def mX9_mend : am_M := (yX9_mend, cX9_mend, 3, (some .int), 0, 0)
def mX9_isFull : am_M := (yX9_isFull, cX9_isFull, 8, (some .boolean), 0, 0)
def mX9_findNear : am_M := (yX9_findNear, cX9_findNear, 3, none, 0, 0)
def mX9_findPieces : am_M := (yX9_findPieces, cX9_findPieces, 4, (some .int), 0, 0)
def mX9_spreads : am_M := (yX9_spreads, cX9_spreads, 8, none, 0, 0)
def mX9_isCut : am_M := (yX9_isCut, cX9_isCut, 3, (some .boolean), 0, 0)
def mX9_parts : am_M := (yX9_parts, cX9_parts, 8, (some .boolean), 0, 0)
def mX9_finds : am_M := (yX9_finds, cX9_finds, 4, (some .boolean), 0, 0)
def mX9_opens : am_M := (yX9_opens, cX9_opens, 4, (some .int), 0, 0)
def mX9_reaches : am_M := (yX9_reaches, cX9_reaches, 4, none, 0, 0)
def mX9_fewest : am_M := (yX9_fewest, cX9_fewest, 1, (some .int), 0, 0)
def mX9_isNearHand : am_M := (yX9_isNearHand, cX9_isNearHand, 4, (some .boolean), 0, 0)
def mX9_nextOpened : am_M := (yX9_nextOpened, cX9_nextOpened, 3, (some .int), 0, 0)
def mX9_order : am_M := (yX9_order, cX9_order, 5, (some .int), 0, 0)
def mX9_sizes : am_M := (yX9_sizes, cX9_sizes, 4, (some .boolean), 0, 0)
def mX9_times : am_M := (yX9_times, cX9_times, 1, (some .int), 0, 0)
def mX9_binds : am_M := (yX9_binds, cX9_binds, 2, (some .boolean), 0, 0)
def mX9_look : am_M := (yX9_look, cX9_look, 4, (some .int), 0, 0)
def mX9_over : am_M := (yX9_over, cX9_over, 3, (some .int), 0, 0)
def mX9_linked : am_M := (yX9_linked, cX9_linked, 5, (some .int), 0, 0)
def mX9_there : am_M := (yX9_there, cX9_there, 3, (some .int), 0, 0)
def mX9_sum : am_M := (yX9_sum, cX9_sum, 5, (some .int), 0, 0)
def mX9_count : am_M := (yX9_count, cX9_count, 3, (some .int), 0, 0)
def mX9_worn : am_M := (yX9_worn, cX9_worn, 3, (some .int), 0, 0)
def mJ13_bitCount_95d88 : am_M := (yJ13_bitCount_95d88, cJ13_bitCount_95d88, 2, (some .int), 0, 0)
def mJ9_min_7cf53 : am_M := (yJ9_min_7cf53, cJ9_min_7cf53, 2, (some .int), 0, 0)
def mJ7_fill_d0a16 : am_M := (yJ7_fill_d0a16, cJ7_fill_d0a16, 5, none, 0, 0)
def mJ7_fill_53178 : am_M := (yJ7_fill_53178, cJ7_fill_53178, 4, none, 0, 0)
theorem mX0_init_ok : am_mc mX0_init 0 := ⟨⟨am_in 173 (by decide +kernel) rfl, by decide +kernel, ⟨by decide +kernel, by decide +kernel⟩, am_in 89 (by decide +kernel) rfl, by decide, by decide +kernel⟩, am_in 172 (by decide +kernel) rfl, rfl⟩
theorem mX0_layOut_ok : am_mi mX0_layOut 3 := ⟨⟨am_in 536 (by decide +kernel) rfl, by decide +kernel, ⟨by decide +kernel, by decide +kernel⟩, am_in 89 (by decide +kernel) rfl, by decide, by decide +kernel⟩, am_in 534 (by decide +kernel) rfl, am_in 535 (by decide +kernel) rfl⟩
theorem mX0_ringOfCell_ok : am_mi mX0_ringOfCell 3 := ⟨⟨am_in 567 (by decide +kernel) rfl, by decide +kernel, ⟨by decide +kernel, by decide +kernel⟩, am_in 89 (by decide +kernel) rfl, by decide, by decide +kernel⟩, am_in 565 (by decide +kernel) rfl, am_in 566 (by decide +kernel) rfl⟩
theorem mX0_isNumbered_ok : am_mi mX0_isNumbered 1 := ⟨⟨am_in 575 (by decide +kernel) rfl, by decide +kernel, ⟨by decide +kernel, by decide +kernel⟩, am_in 89 (by decide +kernel) rfl, by decide, by decide +kernel⟩, am_in 573 (by decide +kernel) rfl, am_in 574 (by decide +kernel) rfl⟩
theorem mX0_isThere_ok : am_mi mX0_isThere 1 := ⟨⟨am_in 571 (by decide +kernel) rfl, by decide +kernel, ⟨by decide +kernel, by decide +kernel⟩, am_in 89 (by decide +kernel) rfl, by decide, by decide +kernel⟩, am_in 569 (by decide +kernel) rfl, am_in 570 (by decide +kernel) rfl⟩
theorem mX0_putIn_ok : am_mi mX0_putIn 0 := ⟨⟨am_in 596 (by decide +kernel) rfl, by decide +kernel, ⟨by decide +kernel, by decide +kernel⟩, am_in 89 (by decide +kernel) rfl, by decide, by decide +kernel⟩, am_in 594 (by decide +kernel) rfl, am_in 595 (by decide +kernel) rfl⟩
theorem mX0_takeAway_ok : am_mi mX0_takeAway 1 := ⟨⟨am_in 605 (by decide +kernel) rfl, by decide +kernel, ⟨by decide +kernel, by decide +kernel⟩, am_in 89 (by decide +kernel) rfl, by decide, by decide +kernel⟩, am_in 603 (by decide +kernel) rfl, am_in 604 (by decide +kernel) rfl⟩
theorem mX0_areLinked_ok : am_mi mX0_areLinked 2 := ⟨⟨am_in 640 (by decide +kernel) rfl, by decide +kernel, ⟨by decide +kernel, by decide +kernel⟩, am_in 89 (by decide +kernel) rfl, by decide, by decide +kernel⟩, am_in 638 (by decide +kernel) rfl, am_in 639 (by decide +kernel) rfl⟩
theorem mX0_goesOver_ok : am_mi mX0_goesOver 2 := ⟨⟨am_in 666 (by decide +kernel) rfl, by decide +kernel, ⟨by decide +kernel, by decide +kernel⟩, am_in 89 (by decide +kernel) rfl, by decide, by decide +kernel⟩, am_in 664 (by decide +kernel) rfl, am_in 665 (by decide +kernel) rfl⟩
theorem mX0_join_ok : am_mi mX0_join 2 := ⟨⟨am_in 579 (by decide +kernel) rfl, by decide +kernel, ⟨by decide +kernel, by decide +kernel⟩, am_in 89 (by decide +kernel) rfl, by decide, by decide +kernel⟩, am_in 577 (by decide +kernel) rfl, am_in 578 (by decide +kernel) rfl⟩
theorem mX0_part_ok : am_mi mX0_part 2 := ⟨⟨am_in 628 (by decide +kernel) rfl, by decide +kernel, ⟨by decide +kernel, by decide +kernel⟩, am_in 89 (by decide +kernel) rfl, by decide, by decide +kernel⟩, am_in 626 (by decide +kernel) rfl, am_in 627 (by decide +kernel) rfl⟩
theorem mX0_mendWorn_ok : am_mi mX0_mendWorn 0 := ⟨⟨am_in 658 (by decide +kernel) rfl, by decide +kernel, ⟨by decide +kernel, by decide +kernel⟩, am_in 89 (by decide +kernel) rfl, by decide, by decide +kernel⟩, am_in 656 (by decide +kernel) rfl, am_in 657 (by decide +kernel) rfl⟩
theorem mX0_linksOf_ok : am_mi mX0_linksOf 1 := ⟨⟨am_in 609 (by decide +kernel) rfl, by decide +kernel, ⟨by decide +kernel, by decide +kernel⟩, am_in 89 (by decide +kernel) rfl, by decide, by decide +kernel⟩, am_in 607 (by decide +kernel) rfl, am_in 608 (by decide +kernel) rfl⟩
theorem mX0_linkedAtPlace_ok : am_mi mX0_linkedAtPlace 2 := ⟨⟨am_in 674 (by decide +kernel) rfl, by decide +kernel, ⟨by decide +kernel, by decide +kernel⟩, am_in 89 (by decide +kernel) rfl, by decide, by decide +kernel⟩, am_in 672 (by decide +kernel) rfl, am_in 673 (by decide +kernel) rfl⟩
theorem mX0_isFull_ok : am_mi mX0_isFull 1 := ⟨⟨am_in 815 (by decide +kernel) rfl, by decide +kernel, ⟨by decide +kernel, by decide +kernel⟩, am_in 89 (by decide +kernel) rfl, by decide, by decide +kernel⟩, am_in 813 (by decide +kernel) rfl, am_in 814 (by decide +kernel) rfl⟩
theorem mX0_ringsThere_ok : am_mi mX0_ringsThere 0 := ⟨⟨am_in 802 (by decide +kernel) rfl, by decide +kernel, ⟨by decide +kernel, by decide +kernel⟩, am_in 89 (by decide +kernel) rfl, by decide, by decide +kernel⟩, am_in 800 (by decide +kernel) rfl, am_in 801 (by decide +kernel) rfl⟩
theorem mX0_allLinks_ok : am_mi mX0_allLinks 0 := ⟨⟨am_in 806 (by decide +kernel) rfl, by decide +kernel, ⟨by decide +kernel, by decide +kernel⟩, am_in 89 (by decide +kernel) rfl, by decide, by decide +kernel⟩, am_in 804 (by decide +kernel) rfl, am_in 805 (by decide +kernel) rfl⟩
theorem mX0_fullRings_ok : am_mi mX0_fullRings 0 := ⟨⟨am_in 811 (by decide +kernel) rfl, by decide +kernel, ⟨by decide +kernel, by decide +kernel⟩, am_in 89 (by decide +kernel) rfl, by decide, by decide +kernel⟩, am_in 809 (by decide +kernel) rfl, am_in 810 (by decide +kernel) rfl⟩
theorem mX0_wornRings_ok : am_mi mX0_wornRings 0 := ⟨⟨am_in 846 (by decide +kernel) rfl, by decide +kernel, ⟨by decide +kernel, by decide +kernel⟩, am_in 89 (by decide +kernel) rfl, by decide, by decide +kernel⟩, am_in 844 (by decide +kernel) rfl, am_in 845 (by decide +kernel) rfl⟩
theorem mX0_joinAsTold_ok : am_mi mX0_joinAsTold 1 := ⟨⟨am_in 551 (by decide +kernel) rfl, by decide +kernel, ⟨by decide +kernel, by decide +kernel⟩, am_in 89 (by decide +kernel) rfl, by decide, by decide +kernel⟩, am_in 550 (by decide +kernel) rfl, am_in 17 (by decide +kernel) rfl⟩
theorem mX0_joinOneAsTold_ok : am_mi mX0_joinOneAsTold 3 := ⟨⟨am_in 555 (by decide +kernel) rfl, by decide +kernel, ⟨by decide +kernel, by decide +kernel⟩, am_in 89 (by decide +kernel) rfl, by decide, by decide +kernel⟩, am_in 554 (by decide +kernel) rfl, am_in 18 (by decide +kernel) rfl⟩
theorem mX0_standsAsTold_ok : am_mi mX0_standsAsTold 3 := ⟨⟨am_in 819 (by decide +kernel) rfl, by decide +kernel, ⟨by decide +kernel, by decide +kernel⟩, am_in 89 (by decide +kernel) rfl, by decide, by decide +kernel⟩, am_in 818 (by decide +kernel) rfl, am_in 41 (by decide +kernel) rfl⟩
theorem mX0_isOfLink_ok : am_mi mX0_isOfLink 3 := ⟨⟨am_in 559 (by decide +kernel) rfl, by decide +kernel, ⟨by decide +kernel, by decide +kernel⟩, am_in 89 (by decide +kernel) rfl, by decide, by decide +kernel⟩, am_in 558 (by decide +kernel) rfl, am_in 19 (by decide +kernel) rfl⟩
theorem mX0_otherAsTold_ok : am_mi mX0_otherAsTold 3 := ⟨⟨am_in 563 (by decide +kernel) rfl, by decide +kernel, ⟨by decide +kernel, by decide +kernel⟩, am_in 89 (by decide +kernel) rfl, by decide, by decide +kernel⟩, am_in 562 (by decide +kernel) rfl, am_in 20 (by decide +kernel) rfl⟩
theorem mX1_init_ok : am_mc mX1_init 2 := ⟨⟨am_in 326 (by decide +kernel) rfl, by decide +kernel, ⟨by decide +kernel, by decide +kernel⟩, am_in 93 (by decide +kernel) rfl, by decide, by decide +kernel⟩, am_in 325 (by decide +kernel) rfl, rfl⟩
theorem mX1_refresh_ok : am_mi mX1_refresh 0 := ⟨⟨am_in 682 (by decide +kernel) rfl, by decide +kernel, ⟨by decide +kernel, by decide +kernel⟩, am_in 93 (by decide +kernel) rfl, by decide, by decide +kernel⟩, am_in 680 (by decide +kernel) rfl, am_in 681 (by decide +kernel) rfl⟩
theorem mX1_isOpened_ok : am_mi mX1_isOpened 1 := ⟨⟨am_in 934 (by decide +kernel) rfl, by decide +kernel, ⟨by decide +kernel, by decide +kernel⟩, am_in 93 (by decide +kernel) rfl, by decide, by decide +kernel⟩, am_in 932 (by decide +kernel) rfl, am_in 933 (by decide +kernel) rfl⟩
theorem mX1_pairWhatIsFree_ok : am_mi mX1_pairWhatIsFree 0 := ⟨⟨am_in 717 (by decide +kernel) rfl, by decide +kernel, ⟨by decide +kernel, by decide +kernel⟩, am_in 93 (by decide +kernel) rfl, by decide, by decide +kernel⟩, am_in 716 (by decide +kernel) rfl, am_in 26 (by decide +kernel) rfl⟩
theorem mX1_pairWithFree_ok : am_mi mX1_pairWithFree 1 := ⟨⟨am_in 729 (by decide +kernel) rfl, by decide +kernel, ⟨by decide +kernel, by decide +kernel⟩, am_in 93 (by decide +kernel) rfl, by decide, by decide +kernel⟩, am_in 728 (by decide +kernel) rfl, am_in 28 (by decide +kernel) rfl⟩
theorem mX1_pairAsManyAsCanBe_ok : am_mi mX1_pairAsManyAsCanBe 0 := ⟨⟨am_in 734 (by decide +kernel) rfl, by decide +kernel, ⟨by decide +kernel, by decide +kernel⟩, am_in 93 (by decide +kernel) rfl, by decide, by decide +kernel⟩, am_in 733 (by decide +kernel) rfl, am_in 29 (by decide +kernel) rfl⟩
theorem mX1_reachFromUnpaired_ok : am_mi mX1_reachFromUnpaired 0 := ⟨⟨am_in 738 (by decide +kernel) rfl, by decide +kernel, ⟨by decide +kernel, by decide +kernel⟩, am_in 93 (by decide +kernel) rfl, by decide, by decide +kernel⟩, am_in 737 (by decide +kernel) rfl, am_in 30 (by decide +kernel) rfl⟩
theorem mX1_queueUnpaired_ok : am_mi mX1_queueUnpaired 0 := ⟨⟨am_in 742 (by decide +kernel) rfl, by decide +kernel, ⟨by decide +kernel, by decide +kernel⟩, am_in 93 (by decide +kernel) rfl, by decide, by decide +kernel⟩, am_in 741 (by decide +kernel) rfl, am_in 31 (by decide +kernel) rfl⟩
theorem mX1_reachFrom_ok : am_mi mX1_reachFrom 1 := ⟨⟨am_in 750 (by decide +kernel) rfl, by decide +kernel, ⟨by decide +kernel, by decide +kernel⟩, am_in 93 (by decide +kernel) rfl, by decide, by decide +kernel⟩, am_in 749 (by decide +kernel) rfl, am_in 33 (by decide +kernel) rfl⟩
theorem mX1_putInQueue_ok : am_mi mX1_putInQueue 1 := ⟨⟨am_in 746 (by decide +kernel) rfl, by decide +kernel, ⟨by decide +kernel, by decide +kernel⟩, am_in 93 (by decide +kernel) rfl, by decide, by decide +kernel⟩, am_in 745 (by decide +kernel) rfl, am_in 32 (by decide +kernel) rfl⟩
theorem mX1_turnPairsUpTo_ok : am_mi mX1_turnPairsUpTo 1 := ⟨⟨am_in 754 (by decide +kernel) rfl, by decide +kernel, ⟨by decide +kernel, by decide +kernel⟩, am_in 93 (by decide +kernel) rfl, by decide, by decide +kernel⟩, am_in 753 (by decide +kernel) rfl, am_in 34 (by decide +kernel) rfl⟩
theorem mX1_markOpened_ok : am_mi mX1_markOpened 0 := ⟨⟨am_in 758 (by decide +kernel) rfl, by decide +kernel, ⟨by decide +kernel, by decide +kernel⟩, am_in 93 (by decide +kernel) rfl, by decide, by decide +kernel⟩, am_in 757 (by decide +kernel) rfl, am_in 35 (by decide +kernel) rfl⟩
theorem mX1_needsOpening_ok : am_mi mX1_needsOpening 1 := ⟨⟨am_in 762 (by decide +kernel) rfl, by decide +kernel, ⟨by decide +kernel, by decide +kernel⟩, am_in 93 (by decide +kernel) rfl, by decide, by decide +kernel⟩, am_in 761 (by decide +kernel) rfl, am_in 36 (by decide +kernel) rfl⟩
theorem mX1_putInOrder_ok : am_mi mX1_putInOrder 0 := ⟨⟨am_in 768 (by decide +kernel) rfl, by decide +kernel, ⟨by decide +kernel, by decide +kernel⟩, am_in 93 (by decide +kernel) rfl, by decide, by decide +kernel⟩, am_in 767 (by decide +kernel) rfl, am_in 37 (by decide +kernel) rfl⟩
theorem mX1_nextToOpen_ok : am_mi mX1_nextToOpen 0 := ⟨⟨am_in 776 (by decide +kernel) rfl, by decide +kernel, ⟨by decide +kernel, by decide +kernel⟩, am_in 93 (by decide +kernel) rfl, by decide, by decide +kernel⟩, am_in 775 (by decide +kernel) rfl, am_in 38 (by decide +kernel) rfl⟩
theorem mX1_takeLinkedInHand_ok : am_mi mX1_takeLinkedInHand 1 := ⟨⟨am_in 786 (by decide +kernel) rfl, by decide +kernel, ⟨by decide +kernel, by decide +kernel⟩, am_in 93 (by decide +kernel) rfl, by decide, by decide +kernel⟩, am_in 785 (by decide +kernel) rfl, am_in 40 (by decide +kernel) rfl⟩
theorem mX1_takeInHand_ok : am_mi mX1_takeInHand 1 := ⟨⟨am_in 782 (by decide +kernel) rfl, by decide +kernel, ⟨by decide +kernel, by decide +kernel⟩, am_in 93 (by decide +kernel) rfl, by decide, by decide +kernel⟩, am_in 781 (by decide +kernel) rfl, am_in 39 (by decide +kernel) rfl⟩
theorem mX1_isOfFirstSide_ok : am_mi mX1_isOfFirstSide 1 := ⟨⟨am_in 724 (by decide +kernel) rfl, by decide +kernel, ⟨by decide +kernel, by decide +kernel⟩, am_in 93 (by decide +kernel) rfl, by decide, by decide +kernel⟩, am_in 723 (by decide +kernel) rfl, am_in 27 (by decide +kernel) rfl⟩
theorem mX2_init300_ok : am_mc mX2_init300 1 := ⟨⟨am_in 225 (by decide +kernel) rfl, by decide +kernel, ⟨by decide +kernel, by decide +kernel⟩, am_in 91 (by decide +kernel) rfl, by decide, by decide +kernel⟩, am_in 224 (by decide +kernel) rfl, rfl⟩
theorem mX2_init4_ok : am_mc mX2_init4 1 := ⟨⟨am_in 225 (by decide +kernel) rfl, by decide +kernel, ⟨by decide +kernel, by decide +kernel⟩, am_in 91 (by decide +kernel) rfl, by decide, by decide +kernel⟩, am_in 224 (by decide +kernel) rfl, rfl⟩
theorem mX2_has_ok : am_mi mX2_has 2 := ⟨⟨am_in 644 (by decide +kernel) rfl, by decide +kernel, ⟨by decide +kernel, by decide +kernel⟩, am_in 91 (by decide +kernel) rfl, by decide, by decide +kernel⟩, am_in 642 (by decide +kernel) rfl, am_in 643 (by decide +kernel) rfl⟩
theorem mX2_put_ok : am_mi mX2_put 2 := ⟨⟨am_in 583 (by decide +kernel) rfl, by decide +kernel, ⟨by decide +kernel, by decide +kernel⟩, am_in 91 (by decide +kernel) rfl, by decide, by decide +kernel⟩, am_in 581 (by decide +kernel) rfl, am_in 582 (by decide +kernel) rfl⟩
theorem mX2_drop_ok : am_mi mX2_drop 2 := ⟨⟨am_in 632 (by decide +kernel) rfl, by decide +kernel, ⟨by decide +kernel, by decide +kernel⟩, am_in 91 (by decide +kernel) rfl, by decide, by decide +kernel⟩, am_in 630 (by decide +kernel) rfl, am_in 631 (by decide +kernel) rfl⟩
theorem mX2_dropAll_ok : am_mi mX2_dropAll 0 := ⟨⟨am_in 544 (by decide +kernel) rfl, by decide +kernel, ⟨by decide +kernel, by decide +kernel⟩, am_in 91 (by decide +kernel) rfl, by decide, by decide +kernel⟩, am_in 542 (by decide +kernel) rfl, am_in 543 (by decide +kernel) rfl⟩
theorem mX2_next_ok : am_mi mX2_next 2 := ⟨⟨am_in 623 (by decide +kernel) rfl, by decide +kernel, ⟨by decide +kernel, by decide +kernel⟩, am_in 91 (by decide +kernel) rfl, by decide, by decide +kernel⟩, am_in 621 (by decide +kernel) rfl, am_in 622 (by decide +kernel) rfl⟩
theorem mX2_size_ok : am_mi mX2_size 1 := ⟨⟨am_in 613 (by decide +kernel) rfl, by decide +kernel, ⟨by decide +kernel, by decide +kernel⟩, am_in 91 (by decide +kernel) rfl, by decide, by decide +kernel⟩, am_in 611 (by decide +kernel) rfl, am_in 612 (by decide +kernel) rfl⟩
theorem mX2_putAllOf_ok : am_mi mX2_putAllOf 3 := ⟨⟨am_in 772 (by decide +kernel) rfl, by decide +kernel, ⟨by decide +kernel, by decide +kernel⟩, am_in 91 (by decide +kernel) rfl, by decide, by decide +kernel⟩, am_in 770 (by decide +kernel) rfl, am_in 771 (by decide +kernel) rfl⟩
theorem mX3_init_ok : am_mc mX3_init 1 := ⟨⟨am_in 270 (by decide +kernel) rfl, by decide +kernel, ⟨by decide +kernel, by decide +kernel⟩, am_in 92 (by decide +kernel) rfl, by decide, by decide +kernel⟩, am_in 269 (by decide +kernel) rfl, rfl⟩
theorem mX3_refresh_ok : am_mi mX3_refresh 0 := ⟨⟨am_in 686 (by decide +kernel) rfl, by decide +kernel, ⟨by decide +kernel, by decide +kernel⟩, am_in 92 (by decide +kernel) rfl, by decide, by decide +kernel⟩, am_in 684 (by decide +kernel) rfl, am_in 685 (by decide +kernel) rfl⟩
theorem mX3_walkPiece_ok : am_mi mX3_walkPiece 1 := ⟨⟨am_in 691 (by decide +kernel) rfl, by decide +kernel, ⟨by decide +kernel, by decide +kernel⟩, am_in 92 (by decide +kernel) rfl, by decide, by decide +kernel⟩, am_in 690 (by decide +kernel) rfl, am_in 21 (by decide +kernel) rfl⟩
theorem mX3_tryLink_ok : am_mi mX3_tryLink 2 := ⟨⟨am_in 712 (by decide +kernel) rfl, by decide +kernel, ⟨by decide +kernel, by decide +kernel⟩, am_in 92 (by decide +kernel) rfl, by decide, by decide +kernel⟩, am_in 711 (by decide +kernel) rfl, am_in 25 (by decide +kernel) rfl⟩
theorem mX3_enter_ok : am_mi mX3_enter 2 := ⟨⟨am_in 695 (by decide +kernel) rfl, by decide +kernel, ⟨by decide +kernel, by decide +kernel⟩, am_in 92 (by decide +kernel) rfl, by decide, by decide +kernel⟩, am_in 694 (by decide +kernel) rfl, am_in 22 (by decide +kernel) rfl⟩
theorem mX3_leave_ok : am_mi mX3_leave 1 := ⟨⟨am_in 701 (by decide +kernel) rfl, by decide +kernel, ⟨by decide +kernel, by decide +kernel⟩, am_in 92 (by decide +kernel) rfl, by decide, by decide +kernel⟩, am_in 700 (by decide +kernel) rfl, am_in 23 (by decide +kernel) rfl⟩
theorem mX3_markCut_ok : am_mi mX3_markCut 1 := ⟨⟨am_in 708 (by decide +kernel) rfl, by decide +kernel, ⟨by decide +kernel, by decide +kernel⟩, am_in 92 (by decide +kernel) rfl, by decide, by decide +kernel⟩, am_in 707 (by decide +kernel) rfl, am_in 24 (by decide +kernel) rfl⟩
theorem mX4_init_ok : am_mc mX4_init 1 := ⟨⟨am_in 156 (by decide +kernel) rfl, by decide +kernel, ⟨by decide +kernel, by decide +kernel⟩, am_in 87 (by decide +kernel) rfl, by decide, by decide +kernel⟩, am_in 155 (by decide +kernel) rfl, rfl⟩
theorem mX4_read_ok : am_mi mX4_read 1 := ⟨⟨am_in 418 (by decide +kernel) rfl, by decide +kernel, ⟨by decide +kernel, by decide +kernel⟩, am_in 87 (by decide +kernel) rfl, by decide, by decide +kernel⟩, am_in 416 (by decide +kernel) rfl, am_in 417 (by decide +kernel) rfl⟩
theorem mX4_readRing_ok : am_mi mX4_readRing 1 := ⟨⟨am_in 470 (by decide +kernel) rfl, by decide +kernel, ⟨by decide +kernel, by decide +kernel⟩, am_in 87 (by decide +kernel) rfl, by decide, by decide +kernel⟩, am_in 469 (by decide +kernel) rfl, am_in 7 (by decide +kernel) rfl⟩
theorem mX4_readLink_ok : am_mi mX4_readLink 1 := ⟨⟨am_in 491 (by decide +kernel) rfl, by decide +kernel, ⟨by decide +kernel, by decide +kernel⟩, am_in 87 (by decide +kernel) rfl, by decide, by decide +kernel⟩, am_in 490 (by decide +kernel) rfl, am_in 11 (by decide +kernel) rfl⟩
theorem mX4_readToldName_ok : am_mi mX4_readToldName 1 := ⟨⟨am_in 495 (by decide +kernel) rfl, by decide +kernel, ⟨by decide +kernel, by decide +kernel⟩, am_in 87 (by decide +kernel) rfl, by decide, by decide +kernel⟩, am_in 494 (by decide +kernel) rfl, am_in 12 (by decide +kernel) rfl⟩
theorem mX4_readAway_ok : am_mi mX4_readAway 0 := ⟨⟨am_in 499 (by decide +kernel) rfl, by decide +kernel, ⟨by decide +kernel, by decide +kernel⟩, am_in 87 (by decide +kernel) rfl, by decide, by decide +kernel⟩, am_in 498 (by decide +kernel) rfl, am_in 13 (by decide +kernel) rfl⟩
theorem mX4_readOver_ok : am_mi mX4_readOver 1 := ⟨⟨am_in 506 (by decide +kernel) rfl, by decide +kernel, ⟨by decide +kernel, by decide +kernel⟩, am_in 87 (by decide +kernel) rfl, by decide, by decide +kernel⟩, am_in 505 (by decide +kernel) rfl, am_in 14 (by decide +kernel) rfl⟩
theorem mX4_passSemicolon_ok : am_mi mX4_passSemicolon 0 := ⟨⟨am_in 486 (by decide +kernel) rfl, by decide +kernel, ⟨by decide +kernel, by decide +kernel⟩, am_in 87 (by decide +kernel) rfl, by decide, by decide +kernel⟩, am_in 485 (by decide +kernel) rfl, am_in 10 (by decide +kernel) rfl⟩
theorem mX4_isWord_ok : am_mi mX4_isWord 1 := ⟨⟨am_in 458 (by decide +kernel) rfl, by decide +kernel, ⟨by decide +kernel, by decide +kernel⟩, am_in 87 (by decide +kernel) rfl, by decide, by decide +kernel⟩, am_in 457 (by decide +kernel) rfl, am_in 5 (by decide +kernel) rfl⟩
theorem mX4_isName_ok : am_mi mX4_isName 0 := ⟨⟨am_in 475 (by decide +kernel) rfl, by decide +kernel, ⟨by decide +kernel, by decide +kernel⟩, am_in 87 (by decide +kernel) rfl, by decide, by decide +kernel⟩, am_in 474 (by decide +kernel) rfl, am_in 8 (by decide +kernel) rfl⟩
theorem mX4_ringOfName_ok : am_mi mX4_ringOfName 1 := ⟨⟨am_in 482 (by decide +kernel) rfl, by decide +kernel, ⟨by decide +kernel, by decide +kernel⟩, am_in 87 (by decide +kernel) rfl, by decide, by decide +kernel⟩, am_in 481 (by decide +kernel) rfl, am_in 9 (by decide +kernel) rfl⟩
theorem mX4_failWith_ok : am_mi mX4_failWith 1 := ⟨⟨am_in 466 (by decide +kernel) rfl, by decide +kernel, ⟨by decide +kernel, by decide +kernel⟩, am_in 87 (by decide +kernel) rfl, by decide, by decide +kernel⟩, am_in 465 (by decide +kernel) rfl, am_in 6 (by decide +kernel) rfl⟩
theorem mX5_init_ok : am_mc mX5_init 0 := ⟨⟨am_in 114 (by decide +kernel) rfl, by decide +kernel, ⟨by decide +kernel, by decide +kernel⟩, am_in 86 (by decide +kernel) rfl, by decide, by decide +kernel⟩, am_in 113 (by decide +kernel) rfl, rfl⟩
theorem mX5_putBytes_ok : am_mi mX5_putBytes 1 := ⟨⟨am_in 406 (by decide +kernel) rfl, by decide +kernel, ⟨by decide +kernel, by decide +kernel⟩, am_in 86 (by decide +kernel) rfl, by decide, by decide +kernel⟩, am_in 404 (by decide +kernel) rfl, am_in 405 (by decide +kernel) rfl⟩
theorem mX5_empty_ok : am_mi mX5_empty 0 := ⟨⟨am_in 522 (by decide +kernel) rfl, by decide +kernel, ⟨by decide +kernel, by decide +kernel⟩, am_in 86 (by decide +kernel) rfl, by decide, by decide +kernel⟩, am_in 520 (by decide +kernel) rfl, am_in 521 (by decide +kernel) rfl⟩
theorem mX5_putSign_ok : am_mi mX5_putSign 1 := ⟨⟨am_in 410 (by decide +kernel) rfl, by decide +kernel, ⟨by decide +kernel, by decide +kernel⟩, am_in 86 (by decide +kernel) rfl, by decide, by decide +kernel⟩, am_in 409 (by decide +kernel) rfl, am_in 0 (by decide +kernel) rfl⟩
theorem mX6_init_ok : am_mc mX6_init 1 := ⟨⟨am_in 133 (by decide +kernel) rfl, by decide +kernel, ⟨by decide +kernel, by decide +kernel⟩, am_in 88 (by decide +kernel) rfl, by decide, by decide +kernel⟩, am_in 132 (by decide +kernel) rfl, rfl⟩
theorem mX6_start_ok : am_mi mX6_start 0 := ⟨⟨am_in 426 (by decide +kernel) rfl, by decide +kernel, ⟨by decide +kernel, by decide +kernel⟩, am_in 88 (by decide +kernel) rfl, by decide, by decide +kernel⟩, am_in 424 (by decide +kernel) rfl, am_in 425 (by decide +kernel) rfl⟩
theorem mX6_step_ok : am_mi mX6_step 0 := ⟨⟨am_in 430 (by decide +kernel) rfl, by decide +kernel, ⟨by decide +kernel, by decide +kernel⟩, am_in 88 (by decide +kernel) rfl, by decide, by decide +kernel⟩, am_in 428 (by decide +kernel) rfl, am_in 429 (by decide +kernel) rfl⟩
theorem mX6_is_ok : am_mi mX6_is 2 := ⟨⟨am_in 462 (by decide +kernel) rfl, by decide +kernel, ⟨by decide +kernel, by decide +kernel⟩, am_in 88 (by decide +kernel) rfl, by decide, by decide +kernel⟩, am_in 460 (by decide +kernel) rfl, am_in 461 (by decide +kernel) rfl⟩
theorem mX6_behindBlanks_ok : am_mi mX6_behindBlanks 1 := ⟨⟨am_in 434 (by decide +kernel) rfl, by decide +kernel, ⟨by decide +kernel, by decide +kernel⟩, am_in 88 (by decide +kernel) rfl, by decide, by decide +kernel⟩, am_in 433 (by decide +kernel) rfl, am_in 1 (by decide +kernel) rfl⟩
theorem mX6_readWord_ok : am_mi mX6_readWord 0 := ⟨⟨am_in 441 (by decide +kernel) rfl, by decide +kernel, ⟨by decide +kernel, by decide +kernel⟩, am_in 88 (by decide +kernel) rfl, by decide, by decide +kernel⟩, am_in 440 (by decide +kernel) rfl, am_in 2 (by decide +kernel) rfl⟩
theorem mX6_readNumber_ok : am_mi mX6_readNumber 0 := ⟨⟨am_in 448 (by decide +kernel) rfl, by decide +kernel, ⟨by decide +kernel, by decide +kernel⟩, am_in 88 (by decide +kernel) rfl, by decide, by decide +kernel⟩, am_in 447 (by decide +kernel) rfl, am_in 3 (by decide +kernel) rfl⟩
theorem mX6_readSign_ok : am_mi mX6_readSign 0 := ⟨⟨am_in 453 (by decide +kernel) rfl, by decide +kernel, ⟨by decide +kernel, by decide +kernel⟩, am_in 88 (by decide +kernel) rfl, by decide, by decide +kernel⟩, am_in 452 (by decide +kernel) rfl, am_in 4 (by decide +kernel) rfl⟩
theorem mX6_isLetter_ok : am_ms mX6_isLetter 1 := ⟨⟨am_in 437 (by decide +kernel) rfl, by decide +kernel, ⟨by decide +kernel, by decide +kernel⟩, am_in 88 (by decide +kernel) rfl, by decide, by decide +kernel⟩, am_in 436 (by decide +kernel) rfl⟩
theorem mX6_isDigit_ok : am_ms mX6_isDigit 1 := ⟨⟨am_in 444 (by decide +kernel) rfl, by decide +kernel, ⟨by decide +kernel, by decide +kernel⟩, am_in 88 (by decide +kernel) rfl, by decide, by decide +kernel⟩, am_in 443 (by decide +kernel) rfl⟩
theorem mX7_init_ok : am_mc mX7_init 0 := ⟨⟨am_in 179 (by decide +kernel) rfl, by decide +kernel, ⟨by decide +kernel, by decide +kernel⟩, am_in 90 (by decide +kernel) rfl, by decide, by decide +kernel⟩, am_in 178 (by decide +kernel) rfl, rfl⟩
theorem mX7_empty_ok : am_mi mX7_empty 0 := ⟨⟨am_in 422 (by decide +kernel) rfl, by decide +kernel, ⟨by decide +kernel, by decide +kernel⟩, am_in 90 (by decide +kernel) rfl, by decide, by decide +kernel⟩, am_in 420 (by decide +kernel) rfl, am_in 421 (by decide +kernel) rfl⟩
theorem mX7_copyFrom_ok : am_mi mX7_copyFrom 1 := ⟨⟨am_in 540 (by decide +kernel) rfl, by decide +kernel, ⟨by decide +kernel, by decide +kernel⟩, am_in 90 (by decide +kernel) rfl, by decide, by decide +kernel⟩, am_in 538 (by decide +kernel) rfl, am_in 539 (by decide +kernel) rfl⟩
theorem mX7_takesNewLink_ok : am_mi mX7_takesNewLink 0 := ⟨⟨am_in 510 (by decide +kernel) rfl, by decide +kernel, ⟨by decide +kernel, by decide +kernel⟩, am_in 90 (by decide +kernel) rfl, by decide, by decide +kernel⟩, am_in 508 (by decide +kernel) rfl, am_in 509 (by decide +kernel) rfl⟩
theorem mX7_isSameToldAlike_ok : am_mi mX7_isSameToldAlike 2 := ⟨⟨am_in 514 (by decide +kernel) rfl, by decide +kernel, ⟨by decide +kernel, by decide +kernel⟩, am_in 90 (by decide +kernel) rfl, by decide, by decide +kernel⟩, am_in 513 (by decide +kernel) rfl, am_in 15 (by decide +kernel) rfl⟩
theorem mX7_isSameToldBack_ok : am_mi mX7_isSameToldBack 2 := ⟨⟨am_in 518 (by decide +kernel) rfl, by decide +kernel, ⟨by decide +kernel, by decide +kernel⟩, am_in 90 (by decide +kernel) rfl, by decide, by decide +kernel⟩, am_in 517 (by decide +kernel) rfl, am_in 16 (by decide +kernel) rfl⟩
theorem mX8_init_ok : am_mc mX8_init 0 := ⟨⟨am_in 106 (by decide +kernel) rfl, by decide +kernel, ⟨by decide +kernel, by decide +kernel⟩, am_in 85 (by decide +kernel) rfl, by decide, by decide +kernel⟩, am_in 105 (by decide +kernel) rfl, rfl⟩
theorem mX8_feed_ok : am_mi mX8_feed 3 := ⟨⟨am_in 402 (by decide +kernel) rfl, by decide +kernel, ⟨by decide +kernel, by decide +kernel⟩, am_in 85 (by decide +kernel) rfl, by decide, by decide +kernel⟩, am_in 400 (by decide +kernel) rfl, am_in 401 (by decide +kernel) rfl⟩
theorem mX8_weave_ok : am_mi mX8_weave 0 := ⟨⟨am_in 414 (by decide +kernel) rfl, by decide +kernel, ⟨by decide +kernel, by decide +kernel⟩, am_in 85 (by decide +kernel) rfl, by decide, by decide +kernel⟩, am_in 412 (by decide +kernel) rfl, am_in 413 (by decide +kernel) rfl⟩
theorem mX8_lay_ok : am_mi mX8_lay 2 := ⟨⟨am_in 526 (by decide +kernel) rfl, by decide +kernel, ⟨by decide +kernel, by decide +kernel⟩, am_in 85 (by decide +kernel) rfl, by decide, by decide +kernel⟩, am_in 524 (by decide +kernel) rfl, am_in 525 (by decide +kernel) rfl⟩
theorem mX8_at_ok : am_mi mX8_at 3 := ⟨⟨am_in 587 (by decide +kernel) rfl, by decide +kernel, ⟨by decide +kernel, by decide +kernel⟩, am_in 85 (by decide +kernel) rfl, by decide, by decide +kernel⟩, am_in 585 (by decide +kernel) rfl, am_in 586 (by decide +kernel) rfl⟩
theorem mX8_add_ok : am_mi mX8_add 0 := ⟨⟨am_in 592 (by decide +kernel) rfl, by decide +kernel, ⟨by decide +kernel, by decide +kernel⟩, am_in 85 (by decide +kernel) rfl, by decide, by decide +kernel⟩, am_in 590 (by decide +kernel) rfl, am_in 591 (by decide +kernel) rfl⟩
theorem mX8_take_ok : am_mi mX8_take 1 := ⟨⟨am_in 600 (by decide +kernel) rfl, by decide +kernel, ⟨by decide +kernel, by decide +kernel⟩, am_in 85 (by decide +kernel) rfl, by decide, by decide +kernel⟩, am_in 598 (by decide +kernel) rfl, am_in 599 (by decide +kernel) rfl⟩
theorem mX8_link_ok : am_mi mX8_link 2 := ⟨⟨am_in 636 (by decide +kernel) rfl, by decide +kernel, ⟨by decide +kernel, by decide +kernel⟩, am_in 85 (by decide +kernel) rfl, by decide, by decide +kernel⟩, am_in 634 (by decide +kernel) rfl, am_in 635 (by decide +kernel) rfl⟩
theorem mX8_unlink_ok : am_mi mX8_unlink 2 := ⟨⟨am_in 649 (by decide +kernel) rfl, by decide +kernel, ⟨by decide +kernel, by decide +kernel⟩, am_in 85 (by decide +kernel) rfl, by decide, by decide +kernel⟩, am_in 647 (by decide +kernel) rfl, am_in 648 (by decide +kernel) rfl⟩
theorem mX8_mend_ok : am_mi mX8_mend 0 := ⟨⟨am_in 654 (by decide +kernel) rfl, by decide +kernel, ⟨by decide +kernel, by decide +kernel⟩, am_in 85 (by decide +kernel) rfl, by decide, by decide +kernel⟩, am_in 652 (by decide +kernel) rfl, am_in 653 (by decide +kernel) rfl⟩
theorem mX8_look_ok : am_mi mX8_look 2 := ⟨⟨am_in 854 (by decide +kernel) rfl, by decide +kernel, ⟨by decide +kernel, by decide +kernel⟩, am_in 85 (by decide +kernel) rfl, by decide, by decide +kernel⟩, am_in 852 (by decide +kernel) rfl, am_in 853 (by decide +kernel) rfl⟩
theorem mX8_over_ok : am_mi mX8_over 2 := ⟨⟨am_in 662 (by decide +kernel) rfl, by decide +kernel, ⟨by decide +kernel, by decide +kernel⟩, am_in 85 (by decide +kernel) rfl, by decide, by decide +kernel⟩, am_in 660 (by decide +kernel) rfl, am_in 661 (by decide +kernel) rfl⟩
theorem mX8_linked_ok : am_mi mX8_linked 2 := ⟨⟨am_in 670 (by decide +kernel) rfl, by decide +kernel, ⟨by decide +kernel, by decide +kernel⟩, am_in 85 (by decide +kernel) rfl, by decide, by decide +kernel⟩, am_in 668 (by decide +kernel) rfl, am_in 669 (by decide +kernel) rfl⟩
theorem mX8_fewest_ok : am_mi mX8_fewest 0 := ⟨⟨am_in 678 (by decide +kernel) rfl, by decide +kernel, ⟨by decide +kernel, by decide +kernel⟩, am_in 85 (by decide +kernel) rfl, by decide, by decide +kernel⟩, am_in 676 (by decide +kernel) rfl, am_in 677 (by decide +kernel) rfl⟩
theorem mX8_order_ok : am_mi mX8_order 1 := ⟨⟨am_in 790 (by decide +kernel) rfl, by decide +kernel, ⟨by decide +kernel, by decide +kernel⟩, am_in 85 (by decide +kernel) rfl, by decide, by decide +kernel⟩, am_in 788 (by decide +kernel) rfl, am_in 789 (by decide +kernel) rfl⟩
theorem mX8_sizes_ok : am_mi mX8_sizes 3 := ⟨⟨am_in 794 (by decide +kernel) rfl, by decide +kernel, ⟨by decide +kernel, by decide +kernel⟩, am_in 85 (by decide +kernel) rfl, by decide, by decide +kernel⟩, am_in 792 (by decide +kernel) rfl, am_in 793 (by decide +kernel) rfl⟩
theorem mX8_count_ok : am_mi mX8_count 1 := ⟨⟨am_in 798 (by decide +kernel) rfl, by decide +kernel, ⟨by decide +kernel, by decide +kernel⟩, am_in 85 (by decide +kernel) rfl, by decide, by decide +kernel⟩, am_in 796 (by decide +kernel) rfl, am_in 797 (by decide +kernel) rfl⟩
theorem mX8_lookAtOneThere_ok : am_mi mX8_lookAtOneThere 2 := ⟨⟨am_in 929 (by decide +kernel) rfl, by decide +kernel, ⟨by decide +kernel, by decide +kernel⟩, am_in 85 (by decide +kernel) rfl, by decide, by decide +kernel⟩, am_in 928 (by decide +kernel) rfl, am_in 47 (by decide +kernel) rfl⟩
theorem mX8_binds_ok : am_mi mX8_binds 1 := ⟨⟨am_in 827 (by decide +kernel) rfl, by decide +kernel, ⟨by decide +kernel, by decide +kernel⟩, am_in 85 (by decide +kernel) rfl, by decide, by decide +kernel⟩, am_in 826 (by decide +kernel) rfl, am_in 43 (by decide +kernel) rfl⟩
theorem mX8_roomFor_ok : am_ms mX8_roomFor 1 := ⟨⟨am_in 831 (by decide +kernel) rfl, by decide +kernel, ⟨by decide +kernel, by decide +kernel⟩, am_in 85 (by decide +kernel) rfl, by decide, by decide +kernel⟩, am_in 830 (by decide +kernel) rfl⟩
theorem mX8_bindingRings_ok : am_mi mX8_bindingRings 0 := ⟨⟨am_in 823 (by decide +kernel) rfl, by decide +kernel, ⟨by decide +kernel, by decide +kernel⟩, am_in 85 (by decide +kernel) rfl, by decide, by decide +kernel⟩, am_in 822 (by decide +kernel) rfl, am_in 42 (by decide +kernel) rfl⟩
theorem mX8_wireOfAll_ok : am_mi mX8_wireOfAll 0 := ⟨⟨am_in 837 (by decide +kernel) rfl, by decide +kernel, ⟨by decide +kernel, by decide +kernel⟩, am_in 85 (by decide +kernel) rfl, by decide, by decide +kernel⟩, am_in 836 (by decide +kernel) rfl, am_in 44 (by decide +kernel) rfl⟩
theorem mX8_weightOfAll_ok : am_mi mX8_weightOfAll 0 := ⟨⟨am_in 841 (by decide +kernel) rfl, by decide +kernel, ⟨by decide +kernel, by decide +kernel⟩, am_in 85 (by decide +kernel) rfl, by decide, by decide +kernel⟩, am_in 840 (by decide +kernel) rfl, am_in 45 (by decide +kernel) rfl⟩
theorem mX8_isSide_ok : am_ms mX8_isSide 1 := ⟨⟨am_in 529 (by decide +kernel) rfl, by decide +kernel, ⟨by decide +kernel, by decide +kernel⟩, am_in 85 (by decide +kernel) rfl, by decide, by decide +kernel⟩, am_in 528 (by decide +kernel) rfl⟩
theorem mX8_isWithin_ok : am_ms mX8_isWithin 2 := ⟨⟨am_in 532 (by decide +kernel) rfl, by decide +kernel, ⟨by decide +kernel, by decide +kernel⟩, am_in 85 (by decide +kernel) rfl, by decide, by decide +kernel⟩, am_in 531 (by decide +kernel) rfl⟩
theorem mX8_asNumber_ok : am_ms mX8_asNumber 1 := ⟨⟨am_in 924 (by decide +kernel) rfl, by decide +kernel, ⟨by decide +kernel, by decide +kernel⟩, am_in 85 (by decide +kernel) rfl, by decide, by decide +kernel⟩, am_in 923 (by decide +kernel) rfl⟩
theorem mX9_thrown_ok : am_mi mX9_thrown 0 := ⟨⟨am_in 938 (by decide +kernel) rfl, by decide +kernel, ⟨by decide +kernel, by decide +kernel⟩, am_in 94 (by decide +kernel) rfl, by decide, by decide +kernel⟩, am_in 936 (by decide +kernel) rfl, am_in 937 (by decide +kernel) rfl⟩
theorem mX9_feed_ok : am_mi mX9_feed 3 := ⟨⟨am_in 942 (by decide +kernel) rfl, by decide +kernel, ⟨by decide +kernel, by decide +kernel⟩, am_in 94 (by decide +kernel) rfl, by decide, by decide +kernel⟩, am_in 940 (by decide +kernel) rfl, am_in 941 (by decide +kernel) rfl⟩
theorem mX9_lay_ok : am_mi mX9_lay 1 := ⟨⟨am_in 947 (by decide +kernel) rfl, by decide +kernel, ⟨by decide +kernel, by decide +kernel⟩, am_in 94 (by decide +kernel) rfl, by decide, by decide +kernel⟩, am_in 945 (by decide +kernel) rfl, am_in 48 (by decide +kernel) rfl⟩
theorem mX9_init_ok : am_mc mX9_init 0 := ⟨⟨am_in 951 (by decide +kernel) rfl, by decide +kernel, ⟨by decide +kernel, by decide +kernel⟩, am_in 94 (by decide +kernel) rfl, by decide, by decide +kernel⟩, am_in 950 (by decide +kernel) rfl, rfl⟩
theorem mX9_isLetter_ok : am_ms mX9_isLetter 1 := ⟨⟨am_in 1083 (by decide +kernel) rfl, by decide +kernel, ⟨by decide +kernel, by decide +kernel⟩, am_in 94 (by decide +kernel) rfl, by decide, by decide +kernel⟩, am_in 1082 (by decide +kernel) rfl⟩
theorem mX9_isDigit_ok : am_ms mX9_isDigit 1 := ⟨⟨am_in 1090 (by decide +kernel) rfl, by decide +kernel, ⟨by decide +kernel, by decide +kernel⟩, am_in 94 (by decide +kernel) rfl, by decide, by decide +kernel⟩, am_in 1089 (by decide +kernel) rfl⟩
theorem mX9_rank_ok : am_ms mX9_rank 1 := ⟨⟨am_in 1087 (by decide +kernel) rfl, by decide +kernel, ⟨by decide +kernel, by decide +kernel⟩, am_in 94 (by decide +kernel) rfl, by decide, by decide +kernel⟩, am_in 1086 (by decide +kernel) rfl⟩
theorem mX9_isSignOf_ok : am_ms mX9_isSignOf 1 := ⟨⟨am_in 1095 (by decide +kernel) rfl, by decide +kernel, ⟨by decide +kernel, by decide +kernel⟩, am_in 94 (by decide +kernel) rfl, by decide, by decide +kernel⟩, am_in 1094 (by decide +kernel) rfl⟩
theorem mX9_cutAll_ok : am_mi mX9_cutAll 0 := ⟨⟨am_in 1080 (by decide +kernel) rfl, by decide +kernel, ⟨by decide +kernel, by decide +kernel⟩, am_in 94 (by decide +kernel) rfl, by decide, by decide +kernel⟩, am_in 1079 (by decide +kernel) rfl, am_in 49 (by decide +kernel) rfl⟩
theorem mX9_wrong_ok : am_mi mX9_wrong 1 := ⟨⟨am_in 1103 (by decide +kernel) rfl, by decide +kernel, ⟨by decide +kernel, by decide +kernel⟩, am_in 94 (by decide +kernel) rfl, by decide, by decide +kernel⟩, am_in 1102 (by decide +kernel) rfl, am_in 51 (by decide +kernel) rfl⟩
theorem mX9_isSign_ok : am_mi mX9_isSign 1 := ⟨⟨am_in 1123 (by decide +kernel) rfl, by decide +kernel, ⟨by decide +kernel, by decide +kernel⟩, am_in 94 (by decide +kernel) rfl, by decide, by decide +kernel⟩, am_in 1122 (by decide +kernel) rfl, am_in 56 (by decide +kernel) rfl⟩
theorem mX9_isWord_ok : am_mi mX9_isWord 1 := ⟨⟨am_in 1099 (by decide +kernel) rfl, by decide +kernel, ⟨by decide +kernel, by decide +kernel⟩, am_in 94 (by decide +kernel) rfl, by decide, by decide +kernel⟩, am_in 1098 (by decide +kernel) rfl, am_in 50 (by decide +kernel) rfl⟩
theorem mX9_takeSign_ok : am_mi mX9_takeSign 1 := ⟨⟨am_in 1119 (by decide +kernel) rfl, by decide +kernel, ⟨by decide +kernel, by decide +kernel⟩, am_in 94 (by decide +kernel) rfl, by decide, by decide +kernel⟩, am_in 1118 (by decide +kernel) rfl, am_in 55 (by decide +kernel) rfl⟩
theorem mX9_hasSign_ok : am_mi mX9_hasSign 1 := ⟨⟨am_in 1139 (by decide +kernel) rfl, by decide +kernel, ⟨by decide +kernel, by decide +kernel⟩, am_in 94 (by decide +kernel) rfl, by decide, by decide +kernel⟩, am_in 1138 (by decide +kernel) rfl, am_in 60 (by decide +kernel) rfl⟩
theorem mX9_isName_ok : am_mi mX9_isName 0 := ⟨⟨am_in 1111 (by decide +kernel) rfl, by decide +kernel, ⟨by decide +kernel, by decide +kernel⟩, am_in 94 (by decide +kernel) rfl, by decide, by decide +kernel⟩, am_in 1110 (by decide +kernel) rfl, am_in 53 (by decide +kernel) rfl⟩
theorem mX9_findRing_ok : am_mi mX9_findRing 1 := ⟨⟨am_in 1115 (by decide +kernel) rfl, by decide +kernel, ⟨by decide +kernel, by decide +kernel⟩, am_in 94 (by decide +kernel) rfl, by decide, by decide +kernel⟩, am_in 1114 (by decide +kernel) rfl, am_in 54 (by decide +kernel) rfl⟩
theorem mX9_weave_ok : am_mi mX9_weave 0 := ⟨⟨am_in 1076 (by decide +kernel) rfl, by decide +kernel, ⟨by decide +kernel, by decide +kernel⟩, am_in 94 (by decide +kernel) rfl, by decide, by decide +kernel⟩, am_in 1074 (by decide +kernel) rfl, am_in 1075 (by decide +kernel) rfl⟩
theorem mX9_copies_ok : am_mi mX9_copies 2 := ⟨⟨am_in 1148 (by decide +kernel) rfl, by decide +kernel, ⟨by decide +kernel, by decide +kernel⟩, am_in 94 (by decide +kernel) rfl, by decide, by decide +kernel⟩, am_in 1147 (by decide +kernel) rfl, am_in 62 (by decide +kernel) rfl⟩
theorem mX9_readRing_ok : am_mi mX9_readRing 0 := ⟨⟨am_in 1107 (by decide +kernel) rfl, by decide +kernel, ⟨by decide +kernel, by decide +kernel⟩, am_in 94 (by decide +kernel) rfl, by decide, by decide +kernel⟩, am_in 1106 (by decide +kernel) rfl, am_in 52 (by decide +kernel) rfl⟩
theorem mX9_takeRing_ok : am_mi mX9_takeRing 0 := ⟨⟨am_in 1131 (by decide +kernel) rfl, by decide +kernel, ⟨by decide +kernel, by decide +kernel⟩, am_in 94 (by decide +kernel) rfl, by decide, by decide +kernel⟩, am_in 1130 (by decide +kernel) rfl, am_in 58 (by decide +kernel) rfl⟩
theorem mX9_takeAway_ok : am_mi mX9_takeAway 0 := ⟨⟨am_in 1135 (by decide +kernel) rfl, by decide +kernel, ⟨by decide +kernel, by decide +kernel⟩, am_in 94 (by decide +kernel) rfl, by decide, by decide +kernel⟩, am_in 1134 (by decide +kernel) rfl, am_in 59 (by decide +kernel) rfl⟩
theorem mX9_isLinkTold_ok : am_mi mX9_isLinkTold 4 := ⟨⟨am_in 1144 (by decide +kernel) rfl, by decide +kernel, ⟨by decide +kernel, by decide +kernel⟩, am_in 94 (by decide +kernel) rfl, by decide, by decide +kernel⟩, am_in 1143 (by decide +kernel) rfl, am_in 61 (by decide +kernel) rfl⟩
theorem mX9_readLink_ok : am_mi mX9_readLink 0 := ⟨⟨am_in 1127 (by decide +kernel) rfl, by decide +kernel, ⟨by decide +kernel, by decide +kernel⟩, am_in 94 (by decide +kernel) rfl, by decide, by decide +kernel⟩, am_in 1126 (by decide +kernel) rfl, am_in 57 (by decide +kernel) rfl⟩
theorem mX9_isRing_ok : am_mi mX9_isRing 1 := ⟨⟨am_in 1180 (by decide +kernel) rfl, by decide +kernel, ⟨by decide +kernel, by decide +kernel⟩, am_in 94 (by decide +kernel) rfl, by decide, by decide +kernel⟩, am_in 1179 (by decide +kernel) rfl, am_in 66 (by decide +kernel) rfl⟩
theorem mX9_sets_ok : am_mi mX9_sets 3 := ⟨⟨am_in 1164 (by decide +kernel) rfl, by decide +kernel, ⟨by decide +kernel, by decide +kernel⟩, am_in 94 (by decide +kernel) rfl, by decide, by decide +kernel⟩, am_in 1163 (by decide +kernel) rfl, am_in 65 (by decide +kernel) rfl⟩
theorem mX9_partner_ok : am_mi mX9_partner 3 := ⟨⟨am_in 1160 (by decide +kernel) rfl, by decide +kernel, ⟨by decide +kernel, by decide +kernel⟩, am_in 94 (by decide +kernel) rfl, by decide, by decide +kernel⟩, am_in 1159 (by decide +kernel) rfl, am_in 64 (by decide +kernel) rfl⟩
theorem mX9_links_ok : am_mi mX9_links 1 := ⟨⟨am_in 1156 (by decide +kernel) rfl, by decide +kernel, ⟨by decide +kernel, by decide +kernel⟩, am_in 94 (by decide +kernel) rfl, by decide, by decide +kernel⟩, am_in 1155 (by decide +kernel) rfl, am_in 63 (by decide +kernel) rfl⟩
theorem mX9_lay__ok : am_mi mX9_lay_ 2 := ⟨⟨am_in 1152 (by decide +kernel) rfl, by decide +kernel, ⟨by decide +kernel, by decide +kernel⟩, am_in 94 (by decide +kernel) rfl, by decide, by decide +kernel⟩, am_in 1150 (by decide +kernel) rfl, am_in 1151 (by decide +kernel) rfl⟩
theorem mX9_at_ok : am_mi mX9_at 3 := ⟨⟨am_in 1168 (by decide +kernel) rfl, by decide +kernel, ⟨by decide +kernel, by decide +kernel⟩, am_in 94 (by decide +kernel) rfl, by decide, by decide +kernel⟩, am_in 1166 (by decide +kernel) rfl, am_in 1167 (by decide +kernel) rfl⟩
theorem mX9_add_ok : am_mi mX9_add 0 := ⟨⟨am_in 1172 (by decide +kernel) rfl, by decide +kernel, ⟨by decide +kernel, by decide +kernel⟩, am_in 94 (by decide +kernel) rfl, by decide, by decide +kernel⟩, am_in 1170 (by decide +kernel) rfl, am_in 1171 (by decide +kernel) rfl⟩
theorem mX9_linksOf_ok : am_mi mX9_linksOf 1 := ⟨⟨am_in 1184 (by decide +kernel) rfl, by decide +kernel, ⟨by decide +kernel, by decide +kernel⟩, am_in 94 (by decide +kernel) rfl, by decide, by decide +kernel⟩, am_in 1183 (by decide +kernel) rfl, am_in 67 (by decide +kernel) rfl⟩
theorem mX9_take_ok : am_mi mX9_take 1 := ⟨⟨am_in 1176 (by decide +kernel) rfl, by decide +kernel, ⟨by decide +kernel, by decide +kernel⟩, am_in 94 (by decide +kernel) rfl, by decide, by decide +kernel⟩, am_in 1174 (by decide +kernel) rfl, am_in 1175 (by decide +kernel) rfl⟩
theorem mX9_areLinked_ok : am_mi mX9_areLinked 2 := ⟨⟨am_in 1192 (by decide +kernel) rfl, by decide +kernel, ⟨by decide +kernel, by decide +kernel⟩, am_in 94 (by decide +kernel) rfl, by decide, by decide +kernel⟩, am_in 1191 (by decide +kernel) rfl, am_in 68 (by decide +kernel) rfl⟩
theorem mX9_link_ok : am_mi mX9_link 2 := ⟨⟨am_in 1188 (by decide +kernel) rfl, by decide +kernel, ⟨by decide +kernel, by decide +kernel⟩, am_in 94 (by decide +kernel) rfl, by decide, by decide +kernel⟩, am_in 1186 (by decide +kernel) rfl, am_in 1187 (by decide +kernel) rfl⟩
theorem mX9_unlink_ok : am_mi mX9_unlink 2 := ⟨⟨am_in 1196 (by decide +kernel) rfl, by decide +kernel, ⟨by decide +kernel, by decide +kernel⟩, am_in 94 (by decide +kernel) rfl, by decide, by decide +kernel⟩, am_in 1194 (by decide +kernel) rfl, am_in 1195 (by decide +kernel) rfl⟩
theorem mX9_mend_ok : am_mi mX9_mend 0 := ⟨⟨am_in 1200 (by decide +kernel) rfl, by decide +kernel, ⟨by decide +kernel, by decide +kernel⟩, am_in 94 (by decide +kernel) rfl, by decide, by decide +kernel⟩, am_in 1198 (by decide +kernel) rfl, am_in 1199 (by decide +kernel) rfl⟩
theorem mX9_isFull_ok : am_mi mX9_isFull 1 := ⟨⟨am_in 1248 (by decide +kernel) rfl, by decide +kernel, ⟨by decide +kernel, by decide +kernel⟩, am_in 94 (by decide +kernel) rfl, by decide, by decide +kernel⟩, am_in 1247 (by decide +kernel) rfl, am_in 76 (by decide +kernel) rfl⟩
theorem mX9_findNear_ok : am_mi mX9_findNear 0 := ⟨⟨am_in 1212 (by decide +kernel) rfl, by decide +kernel, ⟨by decide +kernel, by decide +kernel⟩, am_in 94 (by decide +kernel) rfl, by decide, by decide +kernel⟩, am_in 1211 (by decide +kernel) rfl, am_in 70 (by decide +kernel) rfl⟩
theorem mX9_findPieces_ok : am_mi mX9_findPieces 1 := ⟨⟨am_in 1259 (by decide +kernel) rfl, by decide +kernel, ⟨by decide +kernel, by decide +kernel⟩, am_in 94 (by decide +kernel) rfl, by decide, by decide +kernel⟩, am_in 1258 (by decide +kernel) rfl, am_in 78 (by decide +kernel) rfl⟩
theorem mX9_spreads_ok : am_mi mX9_spreads 2 := ⟨⟨am_in 1263 (by decide +kernel) rfl, by decide +kernel, ⟨by decide +kernel, by decide +kernel⟩, am_in 94 (by decide +kernel) rfl, by decide, by decide +kernel⟩, am_in 1262 (by decide +kernel) rfl, am_in 79 (by decide +kernel) rfl⟩
theorem mX9_isCut_ok : am_mi mX9_isCut 2 := ⟨⟨am_in 1267 (by decide +kernel) rfl, by decide +kernel, ⟨by decide +kernel, by decide +kernel⟩, am_in 94 (by decide +kernel) rfl, by decide, by decide +kernel⟩, am_in 1266 (by decide +kernel) rfl, am_in 80 (by decide +kernel) rfl⟩
theorem mX9_parts_ok : am_mi mX9_parts 0 := ⟨⟨am_in 1216 (by decide +kernel) rfl, by decide +kernel, ⟨by decide +kernel, by decide +kernel⟩, am_in 94 (by decide +kernel) rfl, by decide, by decide +kernel⟩, am_in 1215 (by decide +kernel) rfl, am_in 71 (by decide +kernel) rfl⟩
theorem mX9_finds_ok : am_mi mX9_finds 1 := ⟨⟨am_in 1220 (by decide +kernel) rfl, by decide +kernel, ⟨by decide +kernel, by decide +kernel⟩, am_in 94 (by decide +kernel) rfl, by decide, by decide +kernel⟩, am_in 1219 (by decide +kernel) rfl, am_in 72 (by decide +kernel) rfl⟩
theorem mX9_opens_ok : am_mi mX9_opens 0 := ⟨⟨am_in 1208 (by decide +kernel) rfl, by decide +kernel, ⟨by decide +kernel, by decide +kernel⟩, am_in 94 (by decide +kernel) rfl, by decide, by decide +kernel⟩, am_in 1207 (by decide +kernel) rfl, am_in 69 (by decide +kernel) rfl⟩
theorem mX9_reaches_ok : am_mi mX9_reaches 1 := ⟨⟨am_in 1224 (by decide +kernel) rfl, by decide +kernel, ⟨by decide +kernel, by decide +kernel⟩, am_in 94 (by decide +kernel) rfl, by decide, by decide +kernel⟩, am_in 1223 (by decide +kernel) rfl, am_in 73 (by decide +kernel) rfl⟩
theorem mX9_fewest_ok : am_mi mX9_fewest 0 := ⟨⟨am_in 1204 (by decide +kernel) rfl, by decide +kernel, ⟨by decide +kernel, by decide +kernel⟩, am_in 94 (by decide +kernel) rfl, by decide, by decide +kernel⟩, am_in 1202 (by decide +kernel) rfl, am_in 1203 (by decide +kernel) rfl⟩
theorem mX9_isNearHand_ok : am_mi mX9_isNearHand 1 := ⟨⟨am_in 1236 (by decide +kernel) rfl, by decide +kernel, ⟨by decide +kernel, by decide +kernel⟩, am_in 94 (by decide +kernel) rfl, by decide, by decide +kernel⟩, am_in 1235 (by decide +kernel) rfl, am_in 75 (by decide +kernel) rfl⟩
theorem mX9_nextOpened_ok : am_mi mX9_nextOpened 0 := ⟨⟨am_in 1232 (by decide +kernel) rfl, by decide +kernel, ⟨by decide +kernel, by decide +kernel⟩, am_in 94 (by decide +kernel) rfl, by decide, by decide +kernel⟩, am_in 1231 (by decide +kernel) rfl, am_in 74 (by decide +kernel) rfl⟩
theorem mX9_order_ok : am_mi mX9_order 1 := ⟨⟨am_in 1228 (by decide +kernel) rfl, by decide +kernel, ⟨by decide +kernel, by decide +kernel⟩, am_in 94 (by decide +kernel) rfl, by decide, by decide +kernel⟩, am_in 1226 (by decide +kernel) rfl, am_in 1227 (by decide +kernel) rfl⟩
theorem mX9_sizes_ok : am_mi mX9_sizes 3 := ⟨⟨am_in 1240 (by decide +kernel) rfl, by decide +kernel, ⟨by decide +kernel, by decide +kernel⟩, am_in 94 (by decide +kernel) rfl, by decide, by decide +kernel⟩, am_in 1238 (by decide +kernel) rfl, am_in 1239 (by decide +kernel) rfl⟩
theorem mX9_times_ok : am_ms mX9_times 1 := ⟨⟨am_in 1255 (by decide +kernel) rfl, by decide +kernel, ⟨by decide +kernel, by decide +kernel⟩, am_in 94 (by decide +kernel) rfl, by decide, by decide +kernel⟩, am_in 1254 (by decide +kernel) rfl⟩
theorem mX9_binds_ok : am_mi mX9_binds 1 := ⟨⟨am_in 1252 (by decide +kernel) rfl, by decide +kernel, ⟨by decide +kernel, by decide +kernel⟩, am_in 94 (by decide +kernel) rfl, by decide, by decide +kernel⟩, am_in 1251 (by decide +kernel) rfl, am_in 77 (by decide +kernel) rfl⟩
theorem mX9_look_ok : am_mi mX9_look 2 := ⟨⟨am_in 1244 (by decide +kernel) rfl, by decide +kernel, ⟨by decide +kernel, by decide +kernel⟩, am_in 94 (by decide +kernel) rfl, by decide, by decide +kernel⟩, am_in 1242 (by decide +kernel) rfl, am_in 1243 (by decide +kernel) rfl⟩
theorem mX9_over_ok : am_mi mX9_over 2 := ⟨⟨am_in 1271 (by decide +kernel) rfl, by decide +kernel, ⟨by decide +kernel, by decide +kernel⟩, am_in 94 (by decide +kernel) rfl, by decide, by decide +kernel⟩, am_in 1269 (by decide +kernel) rfl, am_in 1270 (by decide +kernel) rfl⟩
theorem mX9_linked_ok : am_mi mX9_linked 2 := ⟨⟨am_in 1275 (by decide +kernel) rfl, by decide +kernel, ⟨by decide +kernel, by decide +kernel⟩, am_in 94 (by decide +kernel) rfl, by decide, by decide +kernel⟩, am_in 1273 (by decide +kernel) rfl, am_in 1274 (by decide +kernel) rfl⟩
theorem mX9_there_ok : am_mi mX9_there 0 := ⟨⟨am_in 1283 (by decide +kernel) rfl, by decide +kernel, ⟨by decide +kernel, by decide +kernel⟩, am_in 94 (by decide +kernel) rfl, by decide, by decide +kernel⟩, am_in 1282 (by decide +kernel) rfl, am_in 81 (by decide +kernel) rfl⟩
theorem mX9_sum_ok : am_mi mX9_sum 1 := ⟨⟨am_in 1287 (by decide +kernel) rfl, by decide +kernel, ⟨by decide +kernel, by decide +kernel⟩, am_in 94 (by decide +kernel) rfl, by decide, by decide +kernel⟩, am_in 1286 (by decide +kernel) rfl, am_in 82 (by decide +kernel) rfl⟩
theorem mX9_count_ok : am_mi mX9_count 1 := ⟨⟨am_in 1279 (by decide +kernel) rfl, by decide +kernel, ⟨by decide +kernel, by decide +kernel⟩, am_in 94 (by decide +kernel) rfl, by decide, by decide +kernel⟩, am_in 1277 (by decide +kernel) rfl, am_in 1278 (by decide +kernel) rfl⟩
theorem mX9_worn_ok : am_mi mX9_worn 0 := ⟨⟨am_in 1292 (by decide +kernel) rfl, by decide +kernel, ⟨by decide +kernel, by decide +kernel⟩, am_in 94 (by decide +kernel) rfl, by decide, by decide +kernel⟩, am_in 1291 (by decide +kernel) rfl, am_in 83 (by decide +kernel) rfl⟩
theorem mJ13_bitCount_95d88_ok : am_ms mJ13_bitCount_95d88 1 := ⟨⟨am_in 616 (by decide +kernel) rfl, by decide +kernel, ⟨by decide +kernel, by decide +kernel⟩, am_in 96 (by decide +kernel) rfl, by decide, by decide +kernel⟩, am_in 615 (by decide +kernel) rfl⟩
theorem mJ7_fill_d0a16_ok : am_ms mJ7_fill_d0a16 2 := ⟨⟨am_in 547 (by decide +kernel) rfl, by decide +kernel, ⟨by decide +kernel, by decide +kernel⟩, am_in 95 (by decide +kernel) rfl, by decide, by decide +kernel⟩, am_in 546 (by decide +kernel) rfl⟩
theorem mJ7_fill_53178_ok : am_ms mJ7_fill_53178 2 := ⟨⟨am_in 720 (by decide +kernel) rfl, by decide +kernel, ⟨by decide +kernel, by decide +kernel⟩, am_in 95 (by decide +kernel) rfl, by decide, by decide +kernel⟩, am_in 719 (by decide +kernel) rfl⟩
theorem kL_15 : Cond.methodLink RL 15 yX8_init ∈ lw_gw := am_in 104 (by decide +kernel) rfl
theorem kX8_1 : Cond.methodLink RX8 1 objectInit ∈ lw_gw := am_in 107 (by decide +kernel) rfl
theorem kX8_9 : Cond.methodLink RX8 9 yX5_init ∈ lw_gw := am_in 112 (by decide +kernel) rfl
theorem kX5_3 : Cond.methodLink RX5 3 objectInit ∈ lw_gw := am_in 115 (by decide +kernel) rfl
theorem kX8_20 : Cond.methodLink RX8 20 yX6_init ∈ lw_gw := am_in 131 (by decide +kernel) rfl
theorem kX6_1 : Cond.methodLink RX6 1 objectInit ∈ lw_gw := am_in 134 (by decide +kernel) rfl
theorem kX8_23 : Cond.methodLink RX8 23 yX4_init ∈ lw_gw := am_in 154 (by decide +kernel) rfl
theorem kX4_3 : Cond.methodLink RX4 3 objectInit ∈ lw_gw := am_in 157 (by decide +kernel) rfl
theorem kX8_32 : Cond.methodLink RX8 32 yX0_init ∈ lw_gw := am_in 171 (by decide +kernel) rfl
theorem kX0_3 : Cond.methodLink RX0 3 objectInit ∈ lw_gw := am_in 174 (by decide +kernel) rfl
theorem kX0_11 : Cond.methodLink RX0 11 yX7_init ∈ lw_gw := am_in 177 (by decide +kernel) rfl
theorem kX7_3 : Cond.methodLink RX7 3 objectInit ∈ lw_gw := am_in 180 (by decide +kernel) rfl
theorem kX0_24 : Cond.methodLink RX0 24 yX2_init ∈ lw_gw := am_in 223 (by decide +kernel) rfl
theorem kX2_3 : Cond.methodLink RX2 3 objectInit ∈ lw_gw := am_in 226 (by decide +kernel) rfl
theorem kX8_39 : Cond.methodLink RX8 39 yX3_init ∈ lw_gw := am_in 268 (by decide +kernel) rfl
theorem kX3_3 : Cond.methodLink RX3 3 objectInit ∈ lw_gw := am_in 271 (by decide +kernel) rfl
theorem kX8_48 : Cond.methodLink RX8 48 yX1_init ∈ lw_gw := am_in 324 (by decide +kernel) rfl
theorem kX1_3 : Cond.methodLink RX1 3 objectInit ∈ lw_gw := am_in 327 (by decide +kernel) rfl
theorem kX1_21 : Cond.methodLink RX1 21 yX2_init ∈ lw_gw := am_in 329 (by decide +kernel) rfl
theorem kX8_57 : Cond.methodLink RX8 57 yX7_init ∈ lw_gw := am_in 367 (by decide +kernel) rfl
theorem kL_21 : Cond.methodLink RL 21 yX8_feed ∈ lw_gw := am_in 399 (by decide +kernel) rfl
theorem kX8_75 : Cond.methodLink RX8 75 yX5_putBytes ∈ lw_gw := am_in 403 (by decide +kernel) rfl
theorem kX5_15 : Cond.methodLink RX5 15 yX5_putSign ∈ lw_gw := am_in 407 (by decide +kernel) rfl
theorem kL_26 : Cond.methodLink RL 26 yX8_weave ∈ lw_gw := am_in 411 (by decide +kernel) rfl
theorem kX8_82 : Cond.methodLink RX8 82 yX4_read ∈ lw_gw := am_in 415 (by decide +kernel) rfl
theorem kX4_19 : Cond.methodLink RX4 19 yX7_empty ∈ lw_gw := am_in 419 (by decide +kernel) rfl
theorem kX4_28 : Cond.methodLink RX4 28 yX6_start ∈ lw_gw := am_in 423 (by decide +kernel) rfl
theorem kX6_17 : Cond.methodLink RX6 17 yX6_step ∈ lw_gw := am_in 427 (by decide +kernel) rfl
theorem kX6_20 : Cond.methodLink RX6 20 yX6_behindBlanks ∈ lw_gw := am_in 431 (by decide +kernel) rfl
theorem kX6_43 : Cond.methodLink RX6 43 yX6_isLetter ∈ lw_gw := am_in 435 (by decide +kernel) rfl
theorem kX6_47 : Cond.methodLink RX6 47 yX6_readWord ∈ lw_gw := am_in 438 (by decide +kernel) rfl
theorem kX6_50 : Cond.methodLink RX6 50 yX6_isDigit ∈ lw_gw := am_in 442 (by decide +kernel) rfl
theorem kX6_53 : Cond.methodLink RX6 53 yX6_readNumber ∈ lw_gw := am_in 445 (by decide +kernel) rfl
theorem kX6_56 : Cond.methodLink RX6 56 yX6_readSign ∈ lw_gw := am_in 450 (by decide +kernel) rfl
theorem kX4_35 : Cond.methodLink RX4 35 yX4_isWord ∈ lw_gw := am_in 455 (by decide +kernel) rfl
theorem kX4_109 : Cond.methodLink RX4 109 yX6_is ∈ lw_gw := am_in 459 (by decide +kernel) rfl
theorem kX4_39 : Cond.methodLink RX4 39 yX4_failWith ∈ lw_gw := am_in 463 (by decide +kernel) rfl
theorem kX4_43 : Cond.methodLink RX4 43 yX4_readRing ∈ lw_gw := am_in 467 (by decide +kernel) rfl
theorem kX4_58 : Cond.methodLink RX4 58 yX6_step ∈ lw_gw := am_in 471 (by decide +kernel) rfl
theorem kX4_61 : Cond.methodLink RX4 61 yX4_isName ∈ lw_gw := am_in 472 (by decide +kernel) rfl
theorem kX4_65 : Cond.methodLink RX4 65 yX4_ringOfName ∈ lw_gw := am_in 479 (by decide +kernel) rfl
theorem kX4_73 : Cond.methodLink RX4 73 yX4_passSemicolon ∈ lw_gw := am_in 483 (by decide +kernel) rfl
theorem kX4_49 : Cond.methodLink RX4 49 yX4_readLink ∈ lw_gw := am_in 488 (by decide +kernel) rfl
theorem kX4_83 : Cond.methodLink RX4 83 yX4_readToldName ∈ lw_gw := am_in 492 (by decide +kernel) rfl
theorem kX4_92 : Cond.methodLink RX4 92 yX4_readAway ∈ lw_gw := am_in 496 (by decide +kernel) rfl
theorem kX4_103 : Cond.methodLink RX4 103 yX4_readOver ∈ lw_gw := am_in 503 (by decide +kernel) rfl
theorem kX4_121 : Cond.methodLink RX4 121 yX7_takesNewLink ∈ lw_gw := am_in 507 (by decide +kernel) rfl
theorem kX7_35 : Cond.methodLink RX7 35 yX7_isSameToldAlike ∈ lw_gw := am_in 511 (by decide +kernel) rfl
theorem kX7_39 : Cond.methodLink RX7 39 yX7_isSameToldBack ∈ lw_gw := am_in 515 (by decide +kernel) rfl
theorem kX8_86 : Cond.methodLink RX8 86 yX5_empty ∈ lw_gw := am_in 519 (by decide +kernel) rfl
theorem kL_31 : Cond.methodLink RL 31 yX8_lay ∈ lw_gw := am_in 523 (by decide +kernel) rfl
theorem kX8_92 : Cond.methodLink RX8 92 yX8_isSide ∈ lw_gw := am_in 527 (by decide +kernel) rfl
theorem kX8_172 : Cond.methodLink RX8 172 yX8_isWithin ∈ lw_gw := am_in 530 (by decide +kernel) rfl
theorem kX8_96 : Cond.methodLink RX8 96 yX0_layOut ∈ lw_gw := am_in 533 (by decide +kernel) rfl
theorem kX0_34 : Cond.methodLink RX0 34 yX7_copyFrom ∈ lw_gw := am_in 537 (by decide +kernel) rfl
theorem kX0_57 : Cond.methodLink RX0 57 yX2_dropAll ∈ lw_gw := am_in 541 (by decide +kernel) rfl
theorem kX2_17 : Cond.methodLink RX2 17 yJ7_fill_d0a16 ∈ lw_gw := am_in 545 (by decide +kernel) rfl
theorem kX0_60 : Cond.methodLink RX0 60 yX0_joinAsTold ∈ lw_gw := am_in 548 (by decide +kernel) rfl
theorem kX0_105 : Cond.methodLink RX0 105 yX0_joinOneAsTold ∈ lw_gw := am_in 552 (by decide +kernel) rfl
theorem kX0_109 : Cond.methodLink RX0 109 yX0_isOfLink ∈ lw_gw := am_in 556 (by decide +kernel) rfl
theorem kX0_112 : Cond.methodLink RX0 112 yX0_otherAsTold ∈ lw_gw := am_in 560 (by decide +kernel) rfl
theorem kX0_135 : Cond.methodLink RX0 135 yX0_ringOfCell ∈ lw_gw := am_in 564 (by decide +kernel) rfl
theorem kX0_92 : Cond.methodLink RX0 92 yX0_isThere ∈ lw_gw := am_in 568 (by decide +kernel) rfl
theorem kX0_63 : Cond.methodLink RX0 63 yX0_isNumbered ∈ lw_gw := am_in 572 (by decide +kernel) rfl
theorem kX0_119 : Cond.methodLink RX0 119 yX0_join ∈ lw_gw := am_in 576 (by decide +kernel) rfl
theorem kX0_83 : Cond.methodLink RX0 83 yX2_put ∈ lw_gw := am_in 580 (by decide +kernel) rfl
theorem kL_35 : Cond.methodLink RL 35 yX8_at ∈ lw_gw := am_in 584 (by decide +kernel) rfl
theorem kX8_103 : Cond.methodLink RX8 103 yX0_ringOfCell ∈ lw_gw := am_in 588 (by decide +kernel) rfl
theorem kL_40 : Cond.methodLink RL 40 yX8_add ∈ lw_gw := am_in 589 (by decide +kernel) rfl
theorem kX8_107 : Cond.methodLink RX8 107 yX0_putIn ∈ lw_gw := am_in 593 (by decide +kernel) rfl
theorem kL_44 : Cond.methodLink RL 44 yX8_take ∈ lw_gw := am_in 597 (by decide +kernel) rfl
theorem kX8_111 : Cond.methodLink RX8 111 yX0_isThere ∈ lw_gw := am_in 601 (by decide +kernel) rfl
theorem kX8_114 : Cond.methodLink RX8 114 yX0_takeAway ∈ lw_gw := am_in 602 (by decide +kernel) rfl
theorem kX0_67 : Cond.methodLink RX0 67 yX0_linksOf ∈ lw_gw := am_in 606 (by decide +kernel) rfl
theorem kX0_89 : Cond.methodLink RX0 89 yX2_size ∈ lw_gw := am_in 610 (by decide +kernel) rfl
theorem kX2_23 : Cond.methodLink RX2 23 yJ13_bitCount_95d88 ∈ lw_gw := am_in 614 (by decide +kernel) rfl
theorem kX0_71 : Cond.methodLink RX0 71 yX2_next ∈ lw_gw := am_in 620 (by decide +kernel) rfl
theorem kX0_75 : Cond.methodLink RX0 75 yX0_part ∈ lw_gw := am_in 625 (by decide +kernel) rfl
theorem kX0_86 : Cond.methodLink RX0 86 yX2_drop ∈ lw_gw := am_in 629 (by decide +kernel) rfl
theorem kL_49 : Cond.methodLink RL 49 yX8_link ∈ lw_gw := am_in 633 (by decide +kernel) rfl
theorem kX8_118 : Cond.methodLink RX8 118 yX0_areLinked ∈ lw_gw := am_in 637 (by decide +kernel) rfl
theorem kX0_79 : Cond.methodLink RX0 79 yX2_has ∈ lw_gw := am_in 641 (by decide +kernel) rfl
theorem kX8_122 : Cond.methodLink RX8 122 yX0_join ∈ lw_gw := am_in 645 (by decide +kernel) rfl
theorem kL_54 : Cond.methodLink RL 54 yX8_unlink ∈ lw_gw := am_in 646 (by decide +kernel) rfl
theorem kX8_126 : Cond.methodLink RX8 126 yX0_part ∈ lw_gw := am_in 650 (by decide +kernel) rfl
theorem kL_58 : Cond.methodLink RL 58 yX8_mend ∈ lw_gw := am_in 651 (by decide +kernel) rfl
theorem kX8_129 : Cond.methodLink RX8 129 yX0_mendWorn ∈ lw_gw := am_in 655 (by decide +kernel) rfl
theorem kL_71 : Cond.methodLink RL 71 yX8_over ∈ lw_gw := am_in 659 (by decide +kernel) rfl
theorem kX8_152 : Cond.methodLink RX8 152 yX0_goesOver ∈ lw_gw := am_in 663 (by decide +kernel) rfl
theorem kL_75 : Cond.methodLink RL 75 yX8_linked ∈ lw_gw := am_in 667 (by decide +kernel) rfl
theorem kX8_155 : Cond.methodLink RX8 155 yX0_linkedAtPlace ∈ lw_gw := am_in 671 (by decide +kernel) rfl
theorem kL_79 : Cond.methodLink RL 79 yX8_fewest ∈ lw_gw := am_in 675 (by decide +kernel) rfl
theorem kX8_158 : Cond.methodLink RX8 158 yX1_refresh ∈ lw_gw := am_in 679 (by decide +kernel) rfl
theorem kX1_54 : Cond.methodLink RX1 54 yX3_refresh ∈ lw_gw := am_in 683 (by decide +kernel) rfl
theorem kX3_63 : Cond.methodLink RX3 63 yX0_isThere ∈ lw_gw := am_in 687 (by decide +kernel) rfl
theorem kX3_67 : Cond.methodLink RX3 67 yX3_walkPiece ∈ lw_gw := am_in 688 (by decide +kernel) rfl
theorem kX3_74 : Cond.methodLink RX3 74 yX3_enter ∈ lw_gw := am_in 692 (by decide +kernel) rfl
theorem kX3_83 : Cond.methodLink RX3 83 yX2_next ∈ lw_gw := am_in 697 (by decide +kernel) rfl
theorem kX3_89 : Cond.methodLink RX3 89 yX3_leave ∈ lw_gw := am_in 698 (by decide +kernel) rfl
theorem kX3_95 : Cond.methodLink RX3 95 yJ9_min_7cf53 ∈ lw_gw := am_in 702 (by decide +kernel) rfl
theorem kX3_100 : Cond.methodLink RX3 100 yX3_markCut ∈ lw_gw := am_in 705 (by decide +kernel) rfl
theorem kX3_92 : Cond.methodLink RX3 92 yX3_tryLink ∈ lw_gw := am_in 709 (by decide +kernel) rfl
theorem kX1_62 : Cond.methodLink RX1 62 yX2_dropAll ∈ lw_gw := am_in 713 (by decide +kernel) rfl
theorem kX1_69 : Cond.methodLink RX1 69 yX1_pairWhatIsFree ∈ lw_gw := am_in 714 (by decide +kernel) rfl
theorem kX1_85 : Cond.methodLink RX1 85 yJ7_fill_53178 ∈ lw_gw := am_in 718 (by decide +kernel) rfl
theorem kX1_94 : Cond.methodLink RX1 94 yX1_isOfFirstSide ∈ lw_gw := am_in 721 (by decide +kernel) rfl
theorem kX1_128 : Cond.methodLink RX1 128 yX0_isThere ∈ lw_gw := am_in 725 (by decide +kernel) rfl
theorem kX1_98 : Cond.methodLink RX1 98 yX1_pairWithFree ∈ lw_gw := am_in 726 (by decide +kernel) rfl
theorem kX1_104 : Cond.methodLink RX1 104 yX2_next ∈ lw_gw := am_in 730 (by decide +kernel) rfl
theorem kX1_72 : Cond.methodLink RX1 72 yX1_pairAsManyAsCanBe ∈ lw_gw := am_in 731 (by decide +kernel) rfl
theorem kX1_108 : Cond.methodLink RX1 108 yX1_reachFromUnpaired ∈ lw_gw := am_in 735 (by decide +kernel) rfl
theorem kX1_115 : Cond.methodLink RX1 115 yX1_queueUnpaired ∈ lw_gw := am_in 739 (by decide +kernel) rfl
theorem kX1_125 : Cond.methodLink RX1 125 yX1_putInQueue ∈ lw_gw := am_in 743 (by decide +kernel) rfl
theorem kX1_121 : Cond.methodLink RX1 121 yX1_reachFrom ∈ lw_gw := am_in 747 (by decide +kernel) rfl
theorem kX1_112 : Cond.methodLink RX1 112 yX1_turnPairsUpTo ∈ lw_gw := am_in 751 (by decide +kernel) rfl
theorem kX1_75 : Cond.methodLink RX1 75 yX1_markOpened ∈ lw_gw := am_in 755 (by decide +kernel) rfl
theorem kX1_131 : Cond.methodLink RX1 131 yX1_needsOpening ∈ lw_gw := am_in 759 (by decide +kernel) rfl
theorem kX1_141 : Cond.methodLink RX1 141 yX0_linksOf ∈ lw_gw := am_in 763 (by decide +kernel) rfl
theorem kX1_134 : Cond.methodLink RX1 134 yX2_put ∈ lw_gw := am_in 764 (by decide +kernel) rfl
theorem kX1_78 : Cond.methodLink RX1 78 yX1_putInOrder ∈ lw_gw := am_in 765 (by decide +kernel) rfl
theorem kX1_144 : Cond.methodLink RX1 144 yX2_putAllOf ∈ lw_gw := am_in 769 (by decide +kernel) rfl
theorem kX1_148 : Cond.methodLink RX1 148 yX1_nextToOpen ∈ lw_gw := am_in 773 (by decide +kernel) rfl
theorem kX1_81 : Cond.methodLink RX1 81 yX2_has ∈ lw_gw := am_in 777 (by decide +kernel) rfl
theorem kX1_151 : Cond.methodLink RX1 151 yX2_drop ∈ lw_gw := am_in 778 (by decide +kernel) rfl
theorem kX1_154 : Cond.methodLink RX1 154 yX1_takeInHand ∈ lw_gw := am_in 779 (by decide +kernel) rfl
theorem kX1_157 : Cond.methodLink RX1 157 yX1_takeLinkedInHand ∈ lw_gw := am_in 783 (by decide +kernel) rfl
theorem kL_83 : Cond.methodLink RL 83 yX8_order ∈ lw_gw := am_in 787 (by decide +kernel) rfl
theorem kL_87 : Cond.methodLink RL 87 yX8_sizes ∈ lw_gw := am_in 791 (by decide +kernel) rfl
theorem kL_92 : Cond.methodLink RL 92 yX8_count ∈ lw_gw := am_in 795 (by decide +kernel) rfl
theorem kX8_175 : Cond.methodLink RX8 175 yX0_ringsThere ∈ lw_gw := am_in 799 (by decide +kernel) rfl
theorem kX8_178 : Cond.methodLink RX8 178 yX0_allLinks ∈ lw_gw := am_in 803 (by decide +kernel) rfl
theorem kX8_181 : Cond.methodLink RX8 181 yX3_refresh ∈ lw_gw := am_in 807 (by decide +kernel) rfl
theorem kX8_185 : Cond.methodLink RX8 185 yX0_fullRings ∈ lw_gw := am_in 808 (by decide +kernel) rfl
theorem kX0_102 : Cond.methodLink RX0 102 yX0_isFull ∈ lw_gw := am_in 812 (by decide +kernel) rfl
theorem kX0_98 : Cond.methodLink RX0 98 yX0_standsAsTold ∈ lw_gw := am_in 816 (by decide +kernel) rfl
theorem kX8_188 : Cond.methodLink RX8 188 yX8_bindingRings ∈ lw_gw := am_in 820 (by decide +kernel) rfl
theorem kX8_212 : Cond.methodLink RX8 212 yX8_binds ∈ lw_gw := am_in 824 (by decide +kernel) rfl
theorem kX8_206 : Cond.methodLink RX8 206 yX0_linksOf ∈ lw_gw := am_in 828 (by decide +kernel) rfl
theorem kX8_225 : Cond.methodLink RX8 225 yX8_roomFor ∈ lw_gw := am_in 829 (by decide +kernel) rfl
theorem kX8_194 : Cond.methodLink RX8 194 yX8_wireOfAll ∈ lw_gw := am_in 834 (by decide +kernel) rfl
theorem kX8_197 : Cond.methodLink RX8 197 yX8_weightOfAll ∈ lw_gw := am_in 838 (by decide +kernel) rfl
theorem kX8_203 : Cond.methodLink RX8 203 yX0_wornRings ∈ lw_gw := am_in 843 (by decide +kernel) rfl
theorem kL_62 : Cond.methodLink RL 62 yL_look ∈ lw_gw := am_in 847 (by decide +kernel) rfl
theorem kL_7 : Cond.methodLink RL 7 yX8_look ∈ lw_gw := am_in 851 (by decide +kernel) rfl
theorem kX8_132 : Cond.methodLink RX8 132 yX0_isNumbered ∈ lw_gw := am_in 855 (by decide +kernel) rfl
theorem kX8_142 : Cond.methodLink RX8 142 yX8_asNumber ∈ lw_gw := am_in 922 (by decide +kernel) rfl
theorem kX8_148 : Cond.methodLink RX8 148 yX8_lookAtOneThere ∈ lw_gw := am_in 926 (by decide +kernel) rfl
theorem kX8_209 : Cond.methodLink RX8 209 yX0_isFull ∈ lw_gw := am_in 930 (by decide +kernel) rfl
theorem kX8_219 : Cond.methodLink RX8 219 yX1_isOpened ∈ lw_gw := am_in 931 (by decide +kernel) rfl
theorem kL_68 : Cond.methodLink RL 68 yX9_thrown ∈ lw_gw := am_in 935 (by decide +kernel) rfl
theorem kL_25 : Cond.methodLink RL 25 yX9_feed ∈ lw_gw := am_in 939 (by decide +kernel) rfl
theorem kX9_7 : Cond.methodLink RX9 7 yX9_lay ∈ lw_gw := am_in 943 (by decide +kernel) rfl
theorem kL_18 : Cond.methodLink RL 18 yX9_init ∈ lw_gw := am_in 949 (by decide +kernel) rfl
theorem kX9_18 : Cond.methodLink RX9 18 objectInit ∈ lw_gw := am_in 952 (by decide +kernel) rfl
theorem kL_30 : Cond.methodLink RL 30 yX9_weave ∈ lw_gw := am_in 1073 (by decide +kernel) rfl
theorem kX9_161 : Cond.methodLink RX9 161 yX9_cutAll ∈ lw_gw := am_in 1077 (by decide +kernel) rfl
theorem kX9_119 : Cond.methodLink RX9 119 yX9_isLetter ∈ lw_gw := am_in 1081 (by decide +kernel) rfl
theorem kX9_128 : Cond.methodLink RX9 128 yX9_rank ∈ lw_gw := am_in 1085 (by decide +kernel) rfl
theorem kX9_132 : Cond.methodLink RX9 132 yX9_isDigit ∈ lw_gw := am_in 1088 (by decide +kernel) rfl
theorem kX9_139 : Cond.methodLink RX9 139 yX9_isSignOf ∈ lw_gw := am_in 1093 (by decide +kernel) rfl
theorem kX9_155 : Cond.methodLink RX9 155 yX9_isWord ∈ lw_gw := am_in 1096 (by decide +kernel) rfl
theorem kX9_151 : Cond.methodLink RX9 151 yX9_wrong ∈ lw_gw := am_in 1100 (by decide +kernel) rfl
theorem kX9_164 : Cond.methodLink RX9 164 yX9_readRing ∈ lw_gw := am_in 1104 (by decide +kernel) rfl
theorem kX9_174 : Cond.methodLink RX9 174 yX9_isName ∈ lw_gw := am_in 1108 (by decide +kernel) rfl
theorem kX9_178 : Cond.methodLink RX9 178 yX9_findRing ∈ lw_gw := am_in 1112 (by decide +kernel) rfl
theorem kX9_182 : Cond.methodLink RX9 182 yX9_takeSign ∈ lw_gw := am_in 1116 (by decide +kernel) rfl
theorem kX9_148 : Cond.methodLink RX9 148 yX9_isSign ∈ lw_gw := am_in 1120 (by decide +kernel) rfl
theorem kX9_167 : Cond.methodLink RX9 167 yX9_readLink ∈ lw_gw := am_in 1124 (by decide +kernel) rfl
theorem kX9_190 : Cond.methodLink RX9 190 yX9_takeRing ∈ lw_gw := am_in 1128 (by decide +kernel) rfl
theorem kX9_194 : Cond.methodLink RX9 194 yX9_takeAway ∈ lw_gw := am_in 1132 (by decide +kernel) rfl
theorem kX9_185 : Cond.methodLink RX9 185 yX9_hasSign ∈ lw_gw := am_in 1136 (by decide +kernel) rfl
theorem kX9_197 : Cond.methodLink RX9 197 yX9_isLinkTold ∈ lw_gw := am_in 1141 (by decide +kernel) rfl
theorem kX9_170 : Cond.methodLink RX9 170 yX9_copies ∈ lw_gw := am_in 1145 (by decide +kernel) rfl
theorem kL_34 : Cond.methodLink RL 34 yX9_lay_ ∈ lw_gw := am_in 1149 (by decide +kernel) rfl
theorem kX9_221 : Cond.methodLink RX9 221 yX9_links ∈ lw_gw := am_in 1153 (by decide +kernel) rfl
theorem kX9_210 : Cond.methodLink RX9 210 yX9_partner ∈ lw_gw := am_in 1157 (by decide +kernel) rfl
theorem kX9_214 : Cond.methodLink RX9 214 yX9_sets ∈ lw_gw := am_in 1161 (by decide +kernel) rfl
theorem kL_39 : Cond.methodLink RL 39 yX9_at ∈ lw_gw := am_in 1165 (by decide +kernel) rfl
theorem kL_43 : Cond.methodLink RL 43 yX9_add ∈ lw_gw := am_in 1169 (by decide +kernel) rfl
theorem kL_48 : Cond.methodLink RL 48 yX9_take ∈ lw_gw := am_in 1173 (by decide +kernel) rfl
theorem kX9_223 : Cond.methodLink RX9 223 yX9_isRing ∈ lw_gw := am_in 1177 (by decide +kernel) rfl
theorem kX9_226 : Cond.methodLink RX9 226 yX9_linksOf ∈ lw_gw := am_in 1181 (by decide +kernel) rfl
theorem kL_53 : Cond.methodLink RL 53 yX9_link ∈ lw_gw := am_in 1185 (by decide +kernel) rfl
theorem kX9_229 : Cond.methodLink RX9 229 yX9_areLinked ∈ lw_gw := am_in 1189 (by decide +kernel) rfl
theorem kL_57 : Cond.methodLink RL 57 yX9_unlink ∈ lw_gw := am_in 1193 (by decide +kernel) rfl
theorem kL_61 : Cond.methodLink RL 61 yX9_mend ∈ lw_gw := am_in 1197 (by decide +kernel) rfl
theorem kL_82 : Cond.methodLink RL 82 yX9_fewest ∈ lw_gw := am_in 1201 (by decide +kernel) rfl
theorem kX9_251 : Cond.methodLink RX9 251 yX9_opens ∈ lw_gw := am_in 1205 (by decide +kernel) rfl
theorem kX9_242 : Cond.methodLink RX9 242 yX9_findNear ∈ lw_gw := am_in 1209 (by decide +kernel) rfl
theorem kX9_245 : Cond.methodLink RX9 245 yX9_parts ∈ lw_gw := am_in 1213 (by decide +kernel) rfl
theorem kX9_239 : Cond.methodLink RX9 239 yX9_finds ∈ lw_gw := am_in 1217 (by decide +kernel) rfl
theorem kX9_248 : Cond.methodLink RX9 248 yX9_reaches ∈ lw_gw := am_in 1221 (by decide +kernel) rfl
theorem kL_86 : Cond.methodLink RL 86 yX9_order ∈ lw_gw := am_in 1225 (by decide +kernel) rfl
theorem kX9_257 : Cond.methodLink RX9 257 yX9_nextOpened ∈ lw_gw := am_in 1229 (by decide +kernel) rfl
theorem kX9_254 : Cond.methodLink RX9 254 yX9_isNearHand ∈ lw_gw := am_in 1233 (by decide +kernel) rfl
theorem kL_91 : Cond.methodLink RL 91 yX9_sizes ∈ lw_gw := am_in 1237 (by decide +kernel) rfl
theorem kL_67 : Cond.methodLink RL 67 yX9_look ∈ lw_gw := am_in 1241 (by decide +kernel) rfl
theorem kX9_263 : Cond.methodLink RX9 263 yX9_isFull ∈ lw_gw := am_in 1245 (by decide +kernel) rfl
theorem kX9_266 : Cond.methodLink RX9 266 yX9_binds ∈ lw_gw := am_in 1249 (by decide +kernel) rfl
theorem kX9_260 : Cond.methodLink RX9 260 yX9_times ∈ lw_gw := am_in 1253 (by decide +kernel) rfl
theorem kX9_236 : Cond.methodLink RX9 236 yX9_findPieces ∈ lw_gw := am_in 1256 (by decide +kernel) rfl
theorem kX9_233 : Cond.methodLink RX9 233 yX9_spreads ∈ lw_gw := am_in 1260 (by decide +kernel) rfl
theorem kX9_269 : Cond.methodLink RX9 269 yX9_isCut ∈ lw_gw := am_in 1264 (by decide +kernel) rfl
theorem kL_74 : Cond.methodLink RL 74 yX9_over ∈ lw_gw := am_in 1268 (by decide +kernel) rfl
theorem kL_78 : Cond.methodLink RL 78 yX9_linked ∈ lw_gw := am_in 1272 (by decide +kernel) rfl
theorem kL_95 : Cond.methodLink RL 95 yX9_count ∈ lw_gw := am_in 1276 (by decide +kernel) rfl
theorem kX9_272 : Cond.methodLink RX9 272 yX9_there ∈ lw_gw := am_in 1280 (by decide +kernel) rfl
theorem kX9_275 : Cond.methodLink RX9 275 yX9_sum ∈ lw_gw := am_in 1284 (by decide +kernel) rfl
theorem kX9_280 : Cond.methodLink RX9 280 yX9_worn ∈ lw_gw := am_in 1289 (by decide +kernel) rfl
theorem am_oi : Cond.instanceMethod objectInit ∈ lw_gw := am_in 108 (by decide +kernel) rfl
theorem am_oc : Cond.code objectInit ⟨#[0xb1]⟩ 1 none ∈ lw_gw := am_in 109 (by decide +kernel) rfl
theorem cL_8 : Cond.classLink RL 8 RX8 ∈ lw_gw := am_in 102 (by decide +kernel) rfl
theorem nX8 : Cond.instantiable RX8 10 ∈ lw_gw := am_in 103 (by decide +kernel) rfl
theorem cX8_7 : Cond.classLink RX8 7 RX5 ∈ lw_gw := am_in 110 (by decide +kernel) rfl
theorem nX5 : Cond.instantiable RX5 2 ∈ lw_gw := am_in 111 (by decide +kernel) rfl
theorem cX8_16 : Cond.classLink RX8 16 RX4 ∈ lw_gw := am_in 127 (by decide +kernel) rfl
theorem nX4 : Cond.instantiable RX4 3 ∈ lw_gw := am_in 128 (by decide +kernel) rfl
theorem cX8_18 : Cond.classLink RX8 18 RX6 ∈ lw_gw := am_in 129 (by decide +kernel) rfl
theorem nX6 : Cond.instantiable RX6 5 ∈ lw_gw := am_in 130 (by decide +kernel) rfl
theorem cX8_30 : Cond.classLink RX8 30 RX0 ∈ lw_gw := am_in 169 (by decide +kernel) rfl
theorem nX0 : Cond.instantiable RX0 9 ∈ lw_gw := am_in 170 (by decide +kernel) rfl
theorem cX0_9 : Cond.classLink RX0 9 RX7 ∈ lw_gw := am_in 175 (by decide +kernel) rfl
theorem nX7 : Cond.instantiable RX7 7 ∈ lw_gw := am_in 176 (by decide +kernel) rfl
theorem cX0_22 : Cond.classLink RX0 22 RX2 ∈ lw_gw := am_in 221 (by decide +kernel) rfl
theorem nX2 : Cond.instantiable RX2 1 ∈ lw_gw := am_in 222 (by decide +kernel) rfl
theorem cX8_37 : Cond.classLink RX8 37 RX3 ∈ lw_gw := am_in 266 (by decide +kernel) rfl
theorem nX3 : Cond.instantiable RX3 14 ∈ lw_gw := am_in 267 (by decide +kernel) rfl
theorem cX8_46 : Cond.classLink RX8 46 RX1 ∈ lw_gw := am_in 322 (by decide +kernel) rfl
theorem nX1 : Cond.instantiable RX1 11 ∈ lw_gw := am_in 323 (by decide +kernel) rfl
theorem cX1_19 : Cond.classLink RX1 19 RX2 ∈ lw_gw := am_in 328 (by decide +kernel) rfl
theorem cX8_55 : Cond.classLink RX8 55 RX7 ∈ lw_gw := am_in 366 (by decide +kernel) rfl
theorem qX6_59 : Cond.constantLong RX6 59 (10) ∈ lw_gw := am_in 449 (by decide +kernel) rfl
theorem qX4_33 : Cond.constantLong RX4 33 (1919512167) ∈ lw_gw := am_in 454 (by decide +kernel) rfl
theorem qX4_47 : Cond.constantLong RX4 47 (1818848875) ∈ lw_gw := am_in 476 (by decide +kernel) rfl
theorem qX4_117 : Cond.constantLong RX4 117 (1870030194) ∈ lw_gw := am_in 477 (by decide +kernel) rfl
theorem qX4_119 : Cond.constantLong RX4 119 (504363246962) ∈ lw_gw := am_in 478 (by decide +kernel) rfl
theorem qX4_124 : Cond.constantLong RX4 124 (59) ∈ lw_gw := am_in 487 (by decide +kernel) rfl
theorem qX4_107 : Cond.constantLong RX4 107 (45) ∈ lw_gw := am_in 500 (by decide +kernel) rfl
theorem qX4_113 : Cond.constantLong RX4 113 (43) ∈ lw_gw := am_in 501 (by decide +kernel) rfl
theorem qX4_115 : Cond.constantLong RX4 115 (9) ∈ lw_gw := am_in 502 (by decide +kernel) rfl
theorem qJ13_314 : Cond.constantLong RJ13 314 (6148914691236517205) ∈ lw_gw := am_in 617 (by decide +kernel) rfl
theorem qJ13_316 : Cond.constantLong RJ13 316 (3689348814741910323) ∈ lw_gw := am_in 618 (by decide +kernel) rfl
theorem qJ13_318 : Cond.constantLong RJ13 318 (1085102592571150095) ∈ lw_gw := am_in 619 (by decide +kernel) rfl
theorem qX2_15 : Cond.constantLong RX2 15 (-1) ∈ lw_gw := am_in 624 (by decide +kernel) rfl
theorem qX3_78 : Cond.constant RX3 78 (90300) ∈ lw_gw := am_in 696 (by decide +kernel) rfl
theorem qX8_231 : Cond.constantLong RX8 231 (1000000) ∈ lw_gw := am_in 842 (by decide +kernel) rfl
theorem nX9 : Cond.instantiable RX9 38 ∈ lw_gw := am_in 946 (by decide +kernel) rfl
theorem cL_16 : Cond.classLink RL 16 RX9 ∈ lw_gw := am_in 948 (by decide +kernel) rfl
theorem qX9_34 : Cond.constantLong RX9 34 (924600) ∈ lw_gw := am_in 953 (by decide +kernel) rfl
theorem qX9_36 : Cond.constantLong RX9 36 (620686) ∈ lw_gw := am_in 954 (by decide +kernel) rfl
theorem qX9_38 : Cond.constantLong RX9 38 (790116) ∈ lw_gw := am_in 955 (by decide +kernel) rfl
theorem qX9_40 : Cond.constantLong RX9 40 (40072202) ∈ lw_gw := am_in 956 (by decide +kernel) rfl
theorem qX9_73 : Cond.constant RX9 73 (90000) ∈ lw_gw := am_in 957 (by decide +kernel) rfl
theorem qX9_126 : Cond.constantLong RX9 126 (37) ∈ lw_gw := am_in 1084 (by decide +kernel) rfl
theorem qX9_135 : Cond.constantLong RX9 135 (10) ∈ lw_gw := am_in 1091 (by decide +kernel) rfl
theorem qX9_137 : Cond.constantLong RX9 137 (48) ∈ lw_gw := am_in 1092 (by decide +kernel) rfl
theorem qX9_188 : Cond.constantLong RX9 188 (9) ∈ lw_gw := am_in 1140 (by decide +kernel) rfl
theorem qX9_278 : Cond.constantLong RX9 278 (1000000) ∈ lw_gw := am_in 1288 (by decide +kernel) rfl
theorem qL_19 : Cond.constantLong RL 19 (4294967295) ∈ lw_gw := am_in 1293 (by decide +kernel) rfl
theorem zX0 : Cond.initialized RX0 ∈ lw_gw := am_in 89 (by decide +kernel) rfl
theorem zX1 : Cond.initialized RX1 ∈ lw_gw := am_in 93 (by decide +kernel) rfl
theorem zX2 : Cond.initialized RX2 ∈ lw_gw := am_in 91 (by decide +kernel) rfl
theorem zX3 : Cond.initialized RX3 ∈ lw_gw := am_in 92 (by decide +kernel) rfl
theorem zX4 : Cond.initialized RX4 ∈ lw_gw := am_in 87 (by decide +kernel) rfl
theorem zX5 : Cond.initialized RX5 ∈ lw_gw := am_in 86 (by decide +kernel) rfl
theorem zX6 : Cond.initialized RX6 ∈ lw_gw := am_in 88 (by decide +kernel) rfl
theorem zX7 : Cond.initialized RX7 ∈ lw_gw := am_in 90 (by decide +kernel) rfl
theorem zX8 : Cond.initialized RX8 ∈ lw_gw := am_in 85 (by decide +kernel) rfl
theorem zX9 : Cond.initialized RX9 ∈ lw_gw := am_in 94 (by decide +kernel) rfl
theorem aw_char : Cond.arrayClass .char ∈ lw_gw := am_in 126 (by decide +kernel) rfl
theorem aw_long : Cond.arrayClass .long ∈ lw_gw := am_in 168 (by decide +kernel) rfl
theorem aw_int : Cond.arrayClass .int ∈ lw_gw := am_in 219 (by decide +kernel) rfl
theorem aw_boolean : Cond.arrayClass .boolean ∈ lw_gw := am_in 220 (by decide +kernel) rfl
theorem aw_byte : Cond.arrayClass .byte ∈ lw_gw := am_in 921 (by decide +kernel) rfl
end
section
/-! ===== THE PICTURE: the heap from n0 on as a list of cells, methods judged by am_J ===== -/
abbrev am_C : Type := (Nat × Nat × (Nat → Int32)) ⊕ ((Nat × (Nat → Int64)) ⊕ (Nat × List Value))
abbrev am_I (t n : Nat) (f : Nat → Int32) : am_C := .inl (t, n, f)
abbrev am_L (n : Nat) (f : Nat → Int64) : am_C := .inr (.inl (n, f))
abbrev am_O (c : Nat) (fs : List Value) : am_C := .inr (.inr (c, fs))
abbrev am_H : Type := List am_C
/-- where the picture begins, class numbers and slots, array classes, the script (cell, length, ints), ROOM's cell, the two texts' cells -/
abbrev am_G : Type := Nat × va_G × (Nat → ClassId) × (Nat × Nat × (Nat → Int32)) × Nat × Nat × Nat
def am_t (g : am_G) : Value → Value
  | .int v => .int v
  | .long v => .long v
  | .float v => .float v
  | .double v => .double v
  | .null => .null
  | .ref a => .ref (g.1 + a)
  | .retAddr k => .ref (if k = 0 then g.2.2.2.1.1 else g.2.2.2.2.1)
def am_e (g : am_G) : am_C → va_E
  | .inl q => .inl (g.2.2.1 q.1, q.2.1, .inl q.2.2)
  | .inr (.inl q) => .inl (g.2.2.1 1, q.1, .inr (.inl q.2))
  | .inr (.inr q) => .inr (q.1, q.2.map (am_t g))
def am_w (g : am_G) (h : am_H) : va_W := h.mapIdx (fun i c => (g.1 + i, am_e g c))
def am_tys (g : am_G) : List (ClassId × FieldType) := [(g.2.2.1 0, .int), (g.2.2.1 1, .long), (g.2.2.1 2, .boolean), (g.2.2.1 3, .char)]
def am_A (g : am_G) : Nat → Prop := fun q => g.1 ≤ q
def am_room : Nat → Int32 := fun j => match j with
  | 0 => 0
  | 1 => 1000
  | 2 => 2000
  | 3 => 2155
  | 4 => 2414
  | 5 => 2701
  | 6 => 3000
  | 7 => 3000
  | _ => 3304
/-- what the start gives, as it stands at a method's entry -/
def am_X (g : am_G) (U : State) (H : Heap) : Prop :=
  va_X g.2.2.2.1.1 g.2.2.2.1.2.1 g.2.2.2.1.2.2 U H ∧ g.2.2.2.1.1 < g.1 ∧ va_Z "RingWeaves" "ROOM" "[I" (.ref g.2.2.2.2.1) (am_A g) U H ∧ va_T .int g.2.2.2.2.1 9 (fun j => .int (am_room j)) (am_A g) U H ∧ g.1 ≤ H.size
def am_r (g : am_G) (s : State) (H : Heap) (locs : List Loc) (k : Nat) (x : Bool) (h : am_H) : Prop :=
  va_K g.2.1 am_cls (am_tys g) s ∧ am_X g s s.heap ∧ va_P g.2.1 am_cls (am_w g h) H ∧ va_D (am_A g) (am_w g h) ∧ va_S (am_A g) s.heap H locs ∧ (x = true → H.size = g.1 + h.length ∧ H.size = s.heap.size + k)
def am_ctx (M : am_M) (d : Nat) (p : Program) (R : Room) (s : State) (m : MethodId) (args : Array Value) (meth : Method) (c : Code) : Prop :=
  p.tables.exec = Jvm.exec ∧ c.code = M.2.1 ∧ meth.sig.returnType = M.2.2.2.1 ∧ c.maxLocals = M.2.2.1 ∧ s.vm.findClass M.1.cls = some m.cls ∧ (∀ w ∈ lw_gw, w.before args s = true) ∧ meth.locks = false ∧ meth.name = M.1.name ∧ d ≤ R.frames ∧ d * 41 ≤ R.locals ∧ M.2.2.2.2.1 ≤ R.cells ∧ M.2.2.2.2.2 ≤ R.slots
def am_nar (M : am_M) (v : Int32) : Prop := ∃ ty, M.2.2.2.1 = some ty ∧ narrow ty (.int v) = .int v
def am_lv (g : am_G) (L : List (Nat × Value)) : List (Nat × Value) := L.map (fun q => (q.1, am_t g q.2))
/-- a method at pc, with these locals, this stack, this picture, comes to an end (value, picture) with Q; kn: cells and slots made so far, and whether the picture is the whole heap from n0 on -/
def am_J (l : Launch) (g : am_G) (M : am_M) (d : Nat) (kn : Nat × Nat × Bool) (pc : Nat) (L : List (Nat × Value)) (S : List Value) (h : am_H) (Q : Option Value → am_H → Prop) : Prop :=
  ∀ (p : Program) (e : Env) (R : Room) (s : State) (m : MethodId) (args : Array Value) (below : List Frame) (meth : Method) (c : Code) (H : Heap) (locs : List Loc) (ls : Array Slot) (Qm : State → Prop),
    am_ctx M d p R s m args meth c → am_r g s H locs kn.1 kn.2.2 h → lv_has ls M.2.2.1 (am_lv g L) →
    (∀ (h' : am_H) (H' : Heap) (locs' : List Loc), Q none h' → M.2.2.2.1 = none → am_r g s H' locs' M.2.2.2.2.1 kn.2.2 h' → ∀ (pc' : Nat) (ls' : Array Slot), decode M.2.1 pc' = .ok (.return_, 1) → W p l e R s m args below meth c H' locs' M.2.2.2.2.1 M.2.2.2.2.2 Qm (F0 m pc' ls' [])) →
    (∀ (v : Int32) (h' : am_H) (H' : Heap) (locs' : List Loc), Q (some (.int v)) h' → am_nar M v → am_r g s H' locs' M.2.2.2.2.1 kn.2.2 h' → ∀ (pc' : Nat) (ls' : Array Slot), decode M.2.1 pc' = .ok (.ireturn, 1) → W p l e R s m args below meth c H' locs' M.2.2.2.2.1 M.2.2.2.2.2 Qm (F0 m pc' ls' [.int v])) →
    (∀ (k : Nat) (h' : am_H) (H' : Heap) (locs' : List Loc) (k' n' : Nat), Q (some (.retAddr k)) h' → am_r g s H' locs' k' kn.2.2 h' → ∀ (ls' : Array Slot), ls'.size = M.2.2.1 → W p l e R s m args below meth c H' locs' k' n' Qm (F0 m k ls' [])) →
    W p l e R s m args below meth c H locs kn.1 kn.2.1 Qm (F0 m pc ls (S.map (am_t g)))
theorem am_t_cat (g : am_G) (v : Value) : (am_t g v).category = v.category := by cases v <;> rfl
theorem am_w_get {g : am_G} {h : am_H} {a : Nat} {c : am_C} (hh : h[a]? = some c) : (am_w g h)[a]? = some (g.1 + a, am_e g c) := by
  simp [am_w, List.getElem?_mapIdx, hh]
theorem am_w_set {g : am_G} {h : am_H} {a : Nat} {c : am_C} : (am_w g h).set a (g.1 + a, am_e g c) = am_w g (h.set a c) := by
  apply List.ext_getElem?
  intro i
  simp only [am_w, List.getElem?_set, List.getElem?_mapIdx, List.length_mapIdx]
  by_cases hi : a = i
  · subst hi
    by_cases hl : a < h.length
    · simp [hl]
    · simp [hl]
  · simp [hi]
theorem am_w_push {g : am_G} {h : am_H} {c : am_C} : am_w g h ++ [(g.1 + h.length, am_e g c)] = am_w g (h ++ [c]) := by
  simp [am_w, List.mapIdx_append]
theorem am_w_len {g : am_G} {h : am_H} : (am_w g h).length = h.length := by simp [am_w]
theorem am_lv_get {g : am_G} {L : List (Nat × Value)} {j i : Nat} {v : Value} (h : L[j]? = some (i, v)) : (am_lv g L)[j]? = some (i, am_t g v) := by
  simp [am_lv, h]
def am_st1 (L : List (Nat × Value)) (i : Nat) (v : Value) : List (Nat × Value) := (i, v) :: L.filter (fun q => !(q.1 == i) && !(q.1 + 1 == i && q.2.category == 2))
def am_st2 (L : List (Nat × Value)) (i : Nat) (v : Value) : List (Nat × Value) := (i, v) :: L.filter (fun q => !(q.1 == i) && (!(q.1 == i + 1) && !(q.1 + 1 == i && q.2.category == 2)))
theorem am_lv_st1 {g : am_G} {L : List (Nat × Value)} {i : Nat} {v : Value} : (i, am_t g v) :: (am_lv g L).filter (fun q => !(q.1 == i) && !(q.1 + 1 == i && q.2.category == 2)) = am_lv g (am_st1 L i v) := by
  simp only [am_lv, am_st1, List.map_cons, List.filter_map]
  congr 2
  apply List.filter_congr
  intro q _
  simp [am_t_cat]
theorem am_lv_st2 {g : am_G} {L : List (Nat × Value)} {i : Nat} {v : Value} : (i, am_t g v) :: (am_lv g L).filter (fun q => !(q.1 == i) && (!(q.1 == i + 1) && !(q.1 + 1 == i && q.2.category == 2))) = am_lv g (am_st2 L i v) := by
  simp only [am_lv, am_st2, List.map_cons, List.filter_map]
  congr 2
  apply List.filter_congr
  intro q _
  simp [am_t_cat]
theorem am_lv_args (g : am_G) (vs : List Value) : ∀ i, lv_args i (vs.map (am_t g)) = am_lv g (lv_args i vs) := by
  induction vs with
  | nil => intro i; rfl
  | cons v vs ih => intro i; simp only [List.map_cons, lv_args, am_t_cat, am_lv]; rw [ih]; rfl
theorem am_lv_sub {g : am_G} {ls : Array Slot} {nL : Nat} {L L' : List (Nat × Value)} (h : lv_has ls nL (am_lv g L)) (hL : ∀ q ∈ L', q ∈ L) : lv_has ls nL (am_lv g L') := by
  refine ⟨h.1, h.2.1, fun q hq => h.2.2 q ?_⟩
  obtain ⟨z, hz, rfl⟩ := List.mem_map.mp hq
  exact List.mem_map.mpr ⟨z, hL z hz, rfl⟩
theorem am_up {p : Program} {l : Launch} {e : Env} {R : Room} {s : State} {m : MethodId} {args : Array Value} {below : List Frame} {meth : Method} {c : Code} {H : Heap} {locs : List Loc} {cells slots : Nat} {Q : State → Prop} {f : JFrame}
    (k : H.size ≤ s.heap.size + cells → W p l e R s m args below meth c H locs cells slots Q f) : W p l e R s m args below meth c H locs cells slots Q f := by
  intro T hT X
  exact k (by rw [← hT]; exact X.heapSize) T hT X
theorem am_S_tr {A : Nat → Prop} {H0 H H1 : Heap} {locs locs1 : List Loc} (h : va_S A H0 H locs) (h1 : va_S A H H1 locs1) : va_S A H0 H1 locs1 :=
  ⟨Nat.le_trans h.1 h1.1, fun q hq ha => by rw [h1.2.1 q (Nat.lt_of_lt_of_le hq h.1) ha]; exact h.2.1 q hq ha, h1.2.2⟩
theorem am_S_rf {A : Nat → Prop} {H0 H : Heap} {locs : List Loc} (h : va_S A H0 H locs) : va_S A H H locs := ⟨Nat.le_refl _, fun _ _ _ => rfl, h.2.2⟩
/-- the picture behind a write -/
theorem am_r_put {g : am_G} {s : State} {H H1 : Heap} {locs locs1 : List Loc} {k : Nat} {x : Bool} {h h' : am_H} (hr : am_r g s H locs k x h) (hlen : h'.length = h.length) (hP : va_P g.2.1 am_cls (am_w g h') H1) (hD : va_D (am_A g) (am_w g h')) (hS : va_S (am_A g) H H1 locs1) (hu : H1.size ≤ s.heap.size + k) : am_r g s H1 locs1 k x h' := by
  obtain ⟨h1, h2, h3, h4, h5, h6⟩ := hr
  refine ⟨h1, h2, hP, hD, am_S_tr h5 hS, fun hx => ?_⟩
  obtain ⟨a, b⟩ := h6 hx
  have := hS.1
  omega
theorem am_X_next {g : am_G} {s U : State} {H : Heap} {locs : List Loc} (h : am_X g s s.heap) (hS : va_S (am_A g) s.heap H locs) (hU : U.heap = H) (hv : s.vm.Alike U.vm) : am_X g U U.heap := by
  obtain ⟨h1, h2, h3, h4, h5⟩ := h
  have hb : ¬ am_A g g.2.2.2.1.1 := Nat.not_le.mpr h2
  have hbl : g.2.2.2.1.1 < s.heap.size := Nat.lt_of_lt_of_le h2 h5
  refine ⟨?_, h2, ?_, ?_, ?_⟩
  · rw [hU]
    exact (h1.kept (hS.2.1 _ hbl hb)).moved hv
  · rw [hU]
    exact (h3.kept (fun a ha hA => hS.2.1 a ha hA)).moved hv
  · rw [hU]
    exact (h4.kept (fun a ha hA => hS.2.1 a ha hA)).moved hv
  · rw [hU]
    exact Nat.le_trans h5 hS.1
/-- at a callee's entry -/
theorem am_r_enter {g : am_G} {s U : State} {H : Heap} {locs : List Loc} {k : Nat} {x : Bool} {h : am_H} (hr : am_r g s H locs k x h) (hU : U.heap = H) (hv : s.vm.Alike U.vm) : am_r g U U.heap [] 0 x h := by
  obtain ⟨h1, h2, h3, h4, h5, h6⟩ := hr
  exact ⟨va_K.moved hv h1, am_X_next h2 h5 hU hv, by rw [hU]; exact h3, h4, va_S.rf, fun hx => ⟨by rw [hU]; exact (h6 hx).1, by omega⟩⟩
end
section
section AMR
variable {l : Launch} {g : am_G} {M : am_M} {d : Nat} {kn : Nat × Nat × Bool} {pc : Nat} {L : List (Nat × Value)} {S : List Value} {h : am_H} {Q : Option Value → am_H → Prop}
theorem J_iconst {n : Int} {v : Int32} (hd : decode M.2.1 pc = .ok (.iconst n, 1)) (hv : Int32.ofInt n = v) (k : am_J l g M d kn (pc + 1) L (.int v :: S) h Q) : am_J l g M d kn pc L (S) h Q := by
  intro p e R s m args below meth c H locs ls Qm C hr hl f1 f2 f3
  exact lv_iconst C.1 C.2.1 hd hv (k p e R s m args below meth c H locs ls Qm C hr hl f1 f2 f3)
theorem J_bipush {n : Int} {v : Int32} (hd : decode M.2.1 pc = .ok (.bipush n, 2)) (hv : (Int8.ofInt n).toInt32 = v) (k : am_J l g M d kn (pc + 2) L (.int v :: S) h Q) : am_J l g M d kn pc L (S) h Q := by
  intro p e R s m args below meth c H locs ls Qm C hr hl f1 f2 f3
  exact lv_bipush C.1 C.2.1 hd hv (k p e R s m args below meth c H locs ls Qm C hr hl f1 f2 f3)
theorem J_sipush {n : Int} {v : Int32} (hd : decode M.2.1 pc = .ok (.sipush n, 3)) (hv : (Int16.ofInt n).toInt32 = v) (k : am_J l g M d kn (pc + 3) L (.int v :: S) h Q) : am_J l g M d kn pc L (S) h Q := by
  intro p e R s m args below meth c H locs ls Qm C hr hl f1 f2 f3
  exact lv_sipush C.1 C.2.1 hd hv (k p e R s m args below meth c H locs ls Qm C hr hl f1 f2 f3)
theorem J_lconst {n : Fin 2} {v : Int64} (hd : decode M.2.1 pc = .ok (.lconst n, 1)) (hv : Int64.ofNat (n : Nat) = v) (k : am_J l g M d kn (pc + 1) L (.long v :: S) h Q) : am_J l g M d kn pc L (S) h Q := by
  intro p e R s m args below meth c H locs ls Qm C hr hl f1 f2 f3
  exact lv_lconst C.1 C.2.1 hd hv (k p e R s m args below meth c H locs ls Qm C hr hl f1 f2 f3)
theorem J_iadd {x y : Int32} (hd : decode M.2.1 pc = .ok (.iadd, 1))  (k : am_J l g M d kn (pc + 1) L (.int (x + y) :: S) h Q) : am_J l g M d kn pc L (.int y :: .int x :: S) h Q := by
  intro p e R s m args below meth c H locs ls Qm C hr hl f1 f2 f3
  exact lv_iadd C.1 C.2.1 hd  (k p e R s m args below meth c H locs ls Qm C hr hl f1 f2 f3)
theorem J_isub {x y : Int32} (hd : decode M.2.1 pc = .ok (.isub, 1))  (k : am_J l g M d kn (pc + 1) L (.int (x - y) :: S) h Q) : am_J l g M d kn pc L (.int y :: .int x :: S) h Q := by
  intro p e R s m args below meth c H locs ls Qm C hr hl f1 f2 f3
  exact lv_isub C.1 C.2.1 hd  (k p e R s m args below meth c H locs ls Qm C hr hl f1 f2 f3)
theorem J_imul {x y : Int32} (hd : decode M.2.1 pc = .ok (.imul, 1))  (k : am_J l g M d kn (pc + 1) L (.int (x * y) :: S) h Q) : am_J l g M d kn pc L (.int y :: .int x :: S) h Q := by
  intro p e R s m args below meth c H locs ls Qm C hr hl f1 f2 f3
  exact lv_imul C.1 C.2.1 hd  (k p e R s m args below meth c H locs ls Qm C hr hl f1 f2 f3)
theorem J_iand {x y : Int32} (hd : decode M.2.1 pc = .ok (.iand, 1))  (k : am_J l g M d kn (pc + 1) L (.int (x &&& y) :: S) h Q) : am_J l g M d kn pc L (.int y :: .int x :: S) h Q := by
  intro p e R s m args below meth c H locs ls Qm C hr hl f1 f2 f3
  exact lv_iand C.1 C.2.1 hd  (k p e R s m args below meth c H locs ls Qm C hr hl f1 f2 f3)
theorem J_ior {x y : Int32} (hd : decode M.2.1 pc = .ok (.ior, 1))  (k : am_J l g M d kn (pc + 1) L (.int (x ||| y) :: S) h Q) : am_J l g M d kn pc L (.int y :: .int x :: S) h Q := by
  intro p e R s m args below meth c H locs ls Qm C hr hl f1 f2 f3
  exact lv_ior C.1 C.2.1 hd  (k p e R s m args below meth c H locs ls Qm C hr hl f1 f2 f3)
theorem J_ixor {x y : Int32} (hd : decode M.2.1 pc = .ok (.ixor, 1))  (k : am_J l g M d kn (pc + 1) L (.int (x ^^^ y) :: S) h Q) : am_J l g M d kn pc L (.int y :: .int x :: S) h Q := by
  intro p e R s m args below meth c H locs ls Qm C hr hl f1 f2 f3
  exact lv_ixor C.1 C.2.1 hd  (k p e R s m args below meth c H locs ls Qm C hr hl f1 f2 f3)
theorem J_ladd {x y : Int64} (hd : decode M.2.1 pc = .ok (.ladd, 1))  (k : am_J l g M d kn (pc + 1) L (.long (x + y) :: S) h Q) : am_J l g M d kn pc L (.long y :: .long x :: S) h Q := by
  intro p e R s m args below meth c H locs ls Qm C hr hl f1 f2 f3
  exact lv_ladd C.1 C.2.1 hd  (k p e R s m args below meth c H locs ls Qm C hr hl f1 f2 f3)
theorem J_lsub {x y : Int64} (hd : decode M.2.1 pc = .ok (.lsub, 1))  (k : am_J l g M d kn (pc + 1) L (.long (x - y) :: S) h Q) : am_J l g M d kn pc L (.long y :: .long x :: S) h Q := by
  intro p e R s m args below meth c H locs ls Qm C hr hl f1 f2 f3
  exact lv_lsub C.1 C.2.1 hd  (k p e R s m args below meth c H locs ls Qm C hr hl f1 f2 f3)
theorem J_lmul {x y : Int64} (hd : decode M.2.1 pc = .ok (.lmul, 1))  (k : am_J l g M d kn (pc + 1) L (.long (x * y) :: S) h Q) : am_J l g M d kn pc L (.long y :: .long x :: S) h Q := by
  intro p e R s m args below meth c H locs ls Qm C hr hl f1 f2 f3
  exact lv_lmul C.1 C.2.1 hd  (k p e R s m args below meth c H locs ls Qm C hr hl f1 f2 f3)
theorem J_land {x y : Int64} (hd : decode M.2.1 pc = .ok (.land, 1))  (k : am_J l g M d kn (pc + 1) L (.long (x &&& y) :: S) h Q) : am_J l g M d kn pc L (.long y :: .long x :: S) h Q := by
  intro p e R s m args below meth c H locs ls Qm C hr hl f1 f2 f3
  exact lv_land C.1 C.2.1 hd  (k p e R s m args below meth c H locs ls Qm C hr hl f1 f2 f3)
theorem J_lor {x y : Int64} (hd : decode M.2.1 pc = .ok (.lor, 1))  (k : am_J l g M d kn (pc + 1) L (.long (x ||| y) :: S) h Q) : am_J l g M d kn pc L (.long y :: .long x :: S) h Q := by
  intro p e R s m args below meth c H locs ls Qm C hr hl f1 f2 f3
  exact lv_lor C.1 C.2.1 hd  (k p e R s m args below meth c H locs ls Qm C hr hl f1 f2 f3)
theorem J_lxor {x y : Int64} (hd : decode M.2.1 pc = .ok (.lxor, 1))  (k : am_J l g M d kn (pc + 1) L (.long (x ^^^ y) :: S) h Q) : am_J l g M d kn pc L (.long y :: .long x :: S) h Q := by
  intro p e R s m args below meth c H locs ls Qm C hr hl f1 f2 f3
  exact lv_lxor C.1 C.2.1 hd  (k p e R s m args below meth c H locs ls Qm C hr hl f1 f2 f3)
theorem J_idiv {x y : Int32} (hd : decode M.2.1 pc = .ok (.idiv, 1)) (hne : ¬ y = 0) (k : am_J l g M d kn (pc + 1) L (.int (x / y) :: S) h Q) : am_J l g M d kn pc L (.int y :: .int x :: S) h Q := by
  intro p e R s m args below meth c H locs ls Qm C hr hl f1 f2 f3
  exact lv_idiv C.1 C.2.1 hd hne (k p e R s m args below meth c H locs ls Qm C hr hl f1 f2 f3)
theorem J_irem {x y : Int32} (hd : decode M.2.1 pc = .ok (.irem, 1)) (hne : ¬ y = 0) (k : am_J l g M d kn (pc + 1) L (.int (x - x / y * y) :: S) h Q) : am_J l g M d kn pc L (.int y :: .int x :: S) h Q := by
  intro p e R s m args below meth c H locs ls Qm C hr hl f1 f2 f3
  exact lv_irem C.1 C.2.1 hd hne (k p e R s m args below meth c H locs ls Qm C hr hl f1 f2 f3)
theorem J_ldiv {x y : Int64} (hd : decode M.2.1 pc = .ok (.ldiv, 1)) (hne : ¬ y = 0) (k : am_J l g M d kn (pc + 1) L (.long (x / y) :: S) h Q) : am_J l g M d kn pc L (.long y :: .long x :: S) h Q := by
  intro p e R s m args below meth c H locs ls Qm C hr hl f1 f2 f3
  exact lv_ldiv C.1 C.2.1 hd hne (k p e R s m args below meth c H locs ls Qm C hr hl f1 f2 f3)
theorem J_ineg {x : Int32} (hd : decode M.2.1 pc = .ok (.ineg, 1))  (k : am_J l g M d kn (pc + 1) L (.int (-x) :: S) h Q) : am_J l g M d kn pc L (.int x :: S) h Q := by
  intro p e R s m args below meth c H locs ls Qm C hr hl f1 f2 f3
  exact lv_ineg C.1 C.2.1 hd  (k p e R s m args below meth c H locs ls Qm C hr hl f1 f2 f3)
theorem J_lneg {x : Int64} (hd : decode M.2.1 pc = .ok (.lneg, 1))  (k : am_J l g M d kn (pc + 1) L (.long (-x) :: S) h Q) : am_J l g M d kn pc L (.long x :: S) h Q := by
  intro p e R s m args below meth c H locs ls Qm C hr hl f1 f2 f3
  exact lv_lneg C.1 C.2.1 hd  (k p e R s m args below meth c H locs ls Qm C hr hl f1 f2 f3)
theorem J_ishl {x y : Int32} (hd : decode M.2.1 pc = .ok (.ishl, 1))  (k : am_J l g M d kn (pc + 1) L (.int (x <<< (y &&& 31)) :: S) h Q) : am_J l g M d kn pc L (.int y :: .int x :: S) h Q := by
  intro p e R s m args below meth c H locs ls Qm C hr hl f1 f2 f3
  exact lv_ishl C.1 C.2.1 hd  (k p e R s m args below meth c H locs ls Qm C hr hl f1 f2 f3)
theorem J_ishr {x y : Int32} (hd : decode M.2.1 pc = .ok (.ishr, 1))  (k : am_J l g M d kn (pc + 1) L (.int (x >>> (y &&& 31)) :: S) h Q) : am_J l g M d kn pc L (.int y :: .int x :: S) h Q := by
  intro p e R s m args below meth c H locs ls Qm C hr hl f1 f2 f3
  exact lv_ishr C.1 C.2.1 hd  (k p e R s m args below meth c H locs ls Qm C hr hl f1 f2 f3)
theorem J_lshl {x : Int64} {y : Int32} (hd : decode M.2.1 pc = .ok (.lshl, 1))  (k : am_J l g M d kn (pc + 1) L (.long (x <<< (y.toInt64 &&& 63)) :: S) h Q) : am_J l g M d kn pc L (.int y :: .long x :: S) h Q := by
  intro p e R s m args below meth c H locs ls Qm C hr hl f1 f2 f3
  exact lv_lshl C.1 C.2.1 hd rfl (k p e R s m args below meth c H locs ls Qm C hr hl f1 f2 f3)
theorem J_lshr {x : Int64} {y : Int32} (hd : decode M.2.1 pc = .ok (.lshr, 1))  (k : am_J l g M d kn (pc + 1) L (.long (x >>> (y.toInt64 &&& 63)) :: S) h Q) : am_J l g M d kn pc L (.int y :: .long x :: S) h Q := by
  intro p e R s m args below meth c H locs ls Qm C hr hl f1 f2 f3
  exact lv_lshr C.1 C.2.1 hd rfl (k p e R s m args below meth c H locs ls Qm C hr hl f1 f2 f3)
theorem J_lushr {x : Int64} {y : Int32} (hd : decode M.2.1 pc = .ok (.lushr, 1))  (k : am_J l g M d kn (pc + 1) L (.long ((x.toUInt64 >>> (y.toInt64.toUInt64 &&& Int64.toUInt64 63)).toInt64) :: S) h Q) : am_J l g M d kn pc L (.int y :: .long x :: S) h Q := by
  intro p e R s m args below meth c H locs ls Qm C hr hl f1 f2 f3
  exact lv_lushr C.1 C.2.1 hd rfl (k p e R s m args below meth c H locs ls Qm C hr hl f1 f2 f3)
theorem J_i2l {x : Int32} (hd : decode M.2.1 pc = .ok (.i2l, 1))  (k : am_J l g M d kn (pc + 1) L (.long x.toInt64 :: S) h Q) : am_J l g M d kn pc L (.int x :: S) h Q := by
  intro p e R s m args below meth c H locs ls Qm C hr hl f1 f2 f3
  exact lv_i2l C.1 C.2.1 hd rfl (k p e R s m args below meth c H locs ls Qm C hr hl f1 f2 f3)
theorem J_l2i {x : Int64} (hd : decode M.2.1 pc = .ok (.l2i, 1))  (k : am_J l g M d kn (pc + 1) L (.int x.toInt32 :: S) h Q) : am_J l g M d kn pc L (.long x :: S) h Q := by
  intro p e R s m args below meth c H locs ls Qm C hr hl f1 f2 f3
  exact lv_l2i C.1 C.2.1 hd rfl (k p e R s m args below meth c H locs ls Qm C hr hl f1 f2 f3)
theorem J_i2c {x : Int32} (hd : decode M.2.1 pc = .ok (.i2c, 1))  (k : am_J l g M d kn (pc + 1) L (.int (x.toUInt32 % 65536).toInt32 :: S) h Q) : am_J l g M d kn pc L (.int x :: S) h Q := by
  intro p e R s m args below meth c H locs ls Qm C hr hl f1 f2 f3
  exact lv_i2c C.1 C.2.1 hd rfl (k p e R s m args below meth c H locs ls Qm C hr hl f1 f2 f3)
theorem J_lcmp {x y : Int64} (hd : decode M.2.1 pc = .ok (.lcmp, 1))  (k : am_J l g M d kn (pc + 1) L (.int (lg_cmp x y) :: S) h Q) : am_J l g M d kn pc L (.long y :: .long x :: S) h Q := by
  intro p e R s m args below meth c H locs ls Qm C hr hl f1 f2 f3
  exact W.lcmp C.1 C.2.1 hd  (k p e R s m args below meth c H locs ls Qm C hr hl f1 f2 f3)
theorem J_dup {v : Value} (hd : decode M.2.1 pc = .ok (.dup, 1)) (hv : v.category = 1) (k : am_J l g M d kn (pc + 1) L (v :: v :: S) h Q) : am_J l g M d kn pc L (v :: S) h Q := by
  intro p e R s m args below meth c H locs ls Qm C hr hl f1 f2 f3
  exact lv_dup C.1 C.2.1 hd ((am_t_cat g v).trans hv) (k p e R s m args below meth c H locs ls Qm C hr hl f1 f2 f3)
theorem J_pop {v : Value} (hd : decode M.2.1 pc = .ok (.pop, 1)) (hv : v.category = 1) (k : am_J l g M d kn (pc + 1) L (S) h Q) : am_J l g M d kn pc L (v :: S) h Q := by
  intro p e R s m args below meth c H locs ls Qm C hr hl f1 f2 f3
  exact lv_pop C.1 C.2.1 hd ((am_t_cat g v).trans hv) (k p e R s m args below meth c H locs ls Qm C hr hl f1 f2 f3)
theorem J_dup2 {v u : Value} (hd : decode M.2.1 pc = .ok (.dup2, 1)) (hv : v.category = 1) (hu : u.category = 1) (k : am_J l g M d kn (pc + 1) L (v :: u :: v :: u :: S) h Q) : am_J l g M d kn pc L (v :: u :: S) h Q := by
  intro p e R s m args below meth c H locs ls Qm C hr hl f1 f2 f3
  exact lv_dup2_11 C.1 C.2.1 hd ((am_t_cat g v).trans hv) ((am_t_cat g u).trans hu) (k p e R s m args below meth c H locs ls Qm C hr hl f1 f2 f3)
theorem J_dup2l {v : Value} (hd : decode M.2.1 pc = .ok (.dup2, 1)) (hv : v.category = 2) (k : am_J l g M d kn (pc + 1) L (v :: v :: S) h Q) : am_J l g M d kn pc L (v :: S) h Q := by
  intro p e R s m args below meth c H locs ls Qm C hr hl f1 f2 f3
  exact lv_dup2_2 C.1 C.2.1 hd ((am_t_cat g v).trans hv) (k p e R s m args below meth c H locs ls Qm C hr hl f1 f2 f3)
theorem J_iload_n {i : Fin 4} {x : Int32} (hd : decode M.2.1 pc = .ok (.iload_n i, 1)) (j : Nat) (hj : L[j]? = some ((i : Nat), .int x)) (k : am_J l g M d kn (pc + 1) L (.int x :: S) h Q) : am_J l g M d kn pc L S h Q := by
  intro p e R s m args below meth c H locs ls Qm C hr hl f1 f2 f3
  exact lv_iload_n C.1 C.2.1 hd rfl (lv_at hl j (am_lv_get hj)) (k p e R s m args below meth c H locs ls Qm C hr hl f1 f2 f3)
theorem J_iload {i : Nat} {x : Int32} (hd : decode M.2.1 pc = .ok (.iload i, 2)) (j : Nat) (hj : L[j]? = some (i, .int x)) (k : am_J l g M d kn (pc + 2) L (.int x :: S) h Q) : am_J l g M d kn pc L S h Q := by
  intro p e R s m args below meth c H locs ls Qm C hr hl f1 f2 f3
  exact lv_iload C.1 C.2.1 hd  (lv_at hl j (am_lv_get hj)) (k p e R s m args below meth c H locs ls Qm C hr hl f1 f2 f3)
theorem J_lload_n {i : Fin 4} {x : Int64} (hd : decode M.2.1 pc = .ok (.lload_n i, 1)) (j : Nat) (hj : L[j]? = some ((i : Nat), .long x)) (k : am_J l g M d kn (pc + 1) L (.long x :: S) h Q) : am_J l g M d kn pc L S h Q := by
  intro p e R s m args below meth c H locs ls Qm C hr hl f1 f2 f3
  exact lv_lload_n C.1 C.2.1 hd rfl (lv_at hl j (am_lv_get hj)) (k p e R s m args below meth c H locs ls Qm C hr hl f1 f2 f3)
theorem J_lload {i : Nat} {x : Int64} (hd : decode M.2.1 pc = .ok (.lload i, 2)) (j : Nat) (hj : L[j]? = some (i, .long x)) (k : am_J l g M d kn (pc + 2) L (.long x :: S) h Q) : am_J l g M d kn pc L S h Q := by
  intro p e R s m args below meth c H locs ls Qm C hr hl f1 f2 f3
  exact lv_lload C.1 C.2.1 hd  (lv_at hl j (am_lv_get hj)) (k p e R s m args below meth c H locs ls Qm C hr hl f1 f2 f3)
theorem J_aload_n {i : Fin 4} {x : Nat} (hd : decode M.2.1 pc = .ok (.aload_n i, 1)) (j : Nat) (hj : L[j]? = some ((i : Nat), .ref x)) (k : am_J l g M d kn (pc + 1) L (.ref x :: S) h Q) : am_J l g M d kn pc L S h Q := by
  intro p e R s m args below meth c H locs ls Qm C hr hl f1 f2 f3
  exact lv_aload_n C.1 C.2.1 hd rfl (lv_at hl j (am_lv_get hj)) (k p e R s m args below meth c H locs ls Qm C hr hl f1 f2 f3)
theorem J_aload {i : Nat} {x : Nat} (hd : decode M.2.1 pc = .ok (.aload i, 2)) (j : Nat) (hj : L[j]? = some (i, .ref x)) (k : am_J l g M d kn (pc + 2) L (.ref x :: S) h Q) : am_J l g M d kn pc L S h Q := by
  intro p e R s m args below meth c H locs ls Qm C hr hl f1 f2 f3
  exact lv_aload C.1 C.2.1 hd  (lv_at hl j (am_lv_get hj)) (k p e R s m args below meth c H locs ls Qm C hr hl f1 f2 f3)
theorem J_sload_n {i : Fin 4} {x : Nat} (hd : decode M.2.1 pc = .ok (.aload_n i, 1)) (j : Nat) (hj : L[j]? = some ((i : Nat), .retAddr x)) (k : am_J l g M d kn (pc + 1) L (.retAddr x :: S) h Q) : am_J l g M d kn pc L S h Q := by
  intro p e R s m args below meth c H locs ls Qm C hr hl f1 f2 f3
  exact lv_aload_n C.1 C.2.1 hd rfl (lv_at hl j (am_lv_get hj)) (k p e R s m args below meth c H locs ls Qm C hr hl f1 f2 f3)
theorem J_istore_n {i : Fin 4} {x : Int32} {L' : List (Nat × Value)} (hd : decode M.2.1 pc = .ok (.istore_n i, 1)) (hi : (i : Nat) < M.2.2.1) (hL : am_st1 L (i : Nat) (.int x) = L') (k : am_J l g M d kn (pc + 1) L' S h Q) : am_J l g M d kn pc L (.int x :: S) h Q := by
  intro p e R s m args below meth c H locs ls Qm C hr hl f1 f2 f3
  subst hL
  exact lv_istore_n C.1 C.2.1 hd rfl hl hi (am_lv_st1 (g := g) (L := L) (i := (i : Nat)) (v := .int x)) (fun ls' hl' => k p e R s m args below meth c H locs ls' Qm C hr hl' f1 f2 f3)
theorem J_istore {i : Nat} {x : Int32} {L' : List (Nat × Value)} (hd : decode M.2.1 pc = .ok (.istore i, 2)) (hi : i < M.2.2.1) (hL : am_st1 L i (.int x) = L') (k : am_J l g M d kn (pc + 2) L' S h Q) : am_J l g M d kn pc L (.int x :: S) h Q := by
  intro p e R s m args below meth c H locs ls Qm C hr hl f1 f2 f3
  subst hL
  exact lv_istore C.1 C.2.1 hd  hl hi (am_lv_st1 (g := g) (L := L) (i := i) (v := .int x)) (fun ls' hl' => k p e R s m args below meth c H locs ls' Qm C hr hl' f1 f2 f3)
theorem J_lstore_n {i : Fin 4} {x : Int64} {L' : List (Nat × Value)} (hd : decode M.2.1 pc = .ok (.lstore_n i, 1)) (hi : (i : Nat) + 1 < M.2.2.1) (hL : am_st2 L (i : Nat) (.long x) = L') (k : am_J l g M d kn (pc + 1) L' S h Q) : am_J l g M d kn pc L (.long x :: S) h Q := by
  intro p e R s m args below meth c H locs ls Qm C hr hl f1 f2 f3
  subst hL
  exact lv_lstore_n C.1 C.2.1 hd rfl hl hi (am_lv_st2 (g := g) (L := L) (i := (i : Nat)) (v := .long x)) (fun ls' hl' => k p e R s m args below meth c H locs ls' Qm C hr hl' f1 f2 f3)
theorem J_lstore {i : Nat} {x : Int64} {L' : List (Nat × Value)} (hd : decode M.2.1 pc = .ok (.lstore i, 2)) (hi : i + 1 < M.2.2.1) (hL : am_st2 L i (.long x) = L') (k : am_J l g M d kn (pc + 2) L' S h Q) : am_J l g M d kn pc L (.long x :: S) h Q := by
  intro p e R s m args below meth c H locs ls Qm C hr hl f1 f2 f3
  subst hL
  exact lv_lstore C.1 C.2.1 hd  hl hi (am_lv_st2 (g := g) (L := L) (i := i) (v := .long x)) (fun ls' hl' => k p e R s m args below meth c H locs ls' Qm C hr hl' f1 f2 f3)
theorem J_astore_n {i : Fin 4} {x : Nat} {L' : List (Nat × Value)} (hd : decode M.2.1 pc = .ok (.astore_n i, 1)) (hi : (i : Nat) < M.2.2.1) (hL : am_st1 L (i : Nat) (.ref x) = L') (k : am_J l g M d kn (pc + 1) L' S h Q) : am_J l g M d kn pc L (.ref x :: S) h Q := by
  intro p e R s m args below meth c H locs ls Qm C hr hl f1 f2 f3
  subst hL
  exact lv_astore_n C.1 C.2.1 hd rfl hl hi (am_lv_st1 (g := g) (L := L) (i := (i : Nat)) (v := .ref x)) (fun ls' hl' => k p e R s m args below meth c H locs ls' Qm C hr hl' f1 f2 f3)
theorem J_astore {i : Nat} {x : Nat} {L' : List (Nat × Value)} (hd : decode M.2.1 pc = .ok (.astore i, 2)) (hi : i < M.2.2.1) (hL : am_st1 L i (.ref x) = L') (k : am_J l g M d kn (pc + 2) L' S h Q) : am_J l g M d kn pc L (.ref x :: S) h Q := by
  intro p e R s m args below meth c H locs ls Qm C hr hl f1 f2 f3
  subst hL
  exact lv_astore C.1 C.2.1 hd  hl hi (am_lv_st1 (g := g) (L := L) (i := i) (v := .ref x)) (fun ls' hl' => k p e R s m args below meth c H locs ls' Qm C hr hl' f1 f2 f3)
theorem J_iinc {i : Nat} {n : Int} {x v : Int32} {L' : List (Nat × Value)} (hd : decode M.2.1 pc = .ok (.iinc i n, 3)) (j : Nat) (hj : L[j]? = some (i, .int x)) (hv : x + Int32.ofInt n = v) (hi : i < M.2.2.1) (hL : am_st1 L i (.int v) = L') (k : am_J l g M d kn (pc + 3) L' S h Q) : am_J l g M d kn pc L S h Q := by
  intro p e R s m args below meth c H locs ls Qm C hr hl f1 f2 f3
  subst hL
  exact lv_iinc C.1 C.2.1 hd hl (am_lv_get hj) hv hi (am_lv_st1 (g := g) (L := L) (i := i) (v := .int v)) (fun ls' hl' => k p e R s m args below meth c H locs ls' Qm C hr hl' f1 f2 f3)
theorem J_icmp_eq {x y : Int32} {off : Int} {tgt : Nat} (hd : decode M.2.1 pc = .ok (.if_icmp .eq off, 3)) (ht : (pc : Int) + off = (tgt : Int)) (kt : x = y → am_J l g M d kn tgt L S h Q) (kf : ¬ x = y → am_J l g M d kn (pc + 3) L S h Q) : am_J l g M d kn pc L (.int y :: .int x :: S) h Q := by
  intro p e R s m args below meth c H locs ls Qm C hr hl f1 f2 f3
  exact lv_icmp_eq C.1 C.2.1 hd ht (fun q => kt q p e R s m args below meth c H locs ls Qm C hr hl f1 f2 f3) (fun q => kf q p e R s m args below meth c H locs ls Qm C hr hl f1 f2 f3)
theorem J_icmp_ne {x y : Int32} {off : Int} {tgt : Nat} (hd : decode M.2.1 pc = .ok (.if_icmp .ne off, 3)) (ht : (pc : Int) + off = (tgt : Int)) (kt : ¬ x = y → am_J l g M d kn tgt L S h Q) (kf : x = y → am_J l g M d kn (pc + 3) L S h Q) : am_J l g M d kn pc L (.int y :: .int x :: S) h Q := by
  intro p e R s m args below meth c H locs ls Qm C hr hl f1 f2 f3
  exact lv_icmp_ne C.1 C.2.1 hd ht (fun q => kt q p e R s m args below meth c H locs ls Qm C hr hl f1 f2 f3) (fun q => kf q p e R s m args below meth c H locs ls Qm C hr hl f1 f2 f3)
theorem J_icmp_lt {x y : Int32} {off : Int} {tgt : Nat} (hd : decode M.2.1 pc = .ok (.if_icmp .lt off, 3)) (ht : (pc : Int) + off = (tgt : Int)) (kt : x < y → am_J l g M d kn tgt L S h Q) (kf : ¬ x < y → am_J l g M d kn (pc + 3) L S h Q) : am_J l g M d kn pc L (.int y :: .int x :: S) h Q := by
  intro p e R s m args below meth c H locs ls Qm C hr hl f1 f2 f3
  exact lv_icmp_lt C.1 C.2.1 hd ht (fun q => kt q p e R s m args below meth c H locs ls Qm C hr hl f1 f2 f3) (fun q => kf q p e R s m args below meth c H locs ls Qm C hr hl f1 f2 f3)
theorem J_icmp_ge {x y : Int32} {off : Int} {tgt : Nat} (hd : decode M.2.1 pc = .ok (.if_icmp .ge off, 3)) (ht : (pc : Int) + off = (tgt : Int)) (kt : y ≤ x → am_J l g M d kn tgt L S h Q) (kf : ¬ y ≤ x → am_J l g M d kn (pc + 3) L S h Q) : am_J l g M d kn pc L (.int y :: .int x :: S) h Q := by
  intro p e R s m args below meth c H locs ls Qm C hr hl f1 f2 f3
  exact lv_icmp_ge C.1 C.2.1 hd ht (fun q => kt q p e R s m args below meth c H locs ls Qm C hr hl f1 f2 f3) (fun q => kf q p e R s m args below meth c H locs ls Qm C hr hl f1 f2 f3)
theorem J_icmp_gt {x y : Int32} {off : Int} {tgt : Nat} (hd : decode M.2.1 pc = .ok (.if_icmp .gt off, 3)) (ht : (pc : Int) + off = (tgt : Int)) (kt : y < x → am_J l g M d kn tgt L S h Q) (kf : ¬ y < x → am_J l g M d kn (pc + 3) L S h Q) : am_J l g M d kn pc L (.int y :: .int x :: S) h Q := by
  intro p e R s m args below meth c H locs ls Qm C hr hl f1 f2 f3
  exact lv_icmp_gt C.1 C.2.1 hd ht (fun q => kt q p e R s m args below meth c H locs ls Qm C hr hl f1 f2 f3) (fun q => kf q p e R s m args below meth c H locs ls Qm C hr hl f1 f2 f3)
theorem J_icmp_le {x y : Int32} {off : Int} {tgt : Nat} (hd : decode M.2.1 pc = .ok (.if_icmp .le off, 3)) (ht : (pc : Int) + off = (tgt : Int)) (kt : x ≤ y → am_J l g M d kn tgt L S h Q) (kf : ¬ x ≤ y → am_J l g M d kn (pc + 3) L S h Q) : am_J l g M d kn pc L (.int y :: .int x :: S) h Q := by
  intro p e R s m args below meth c H locs ls Qm C hr hl f1 f2 f3
  exact lv_icmp_le C.1 C.2.1 hd ht (fun q => kt q p e R s m args below meth c H locs ls Qm C hr hl f1 f2 f3) (fun q => kf q p e R s m args below meth c H locs ls Qm C hr hl f1 f2 f3)
theorem J_if_eq {x : Int32} {off : Int} {tgt : Nat} (hd : decode M.2.1 pc = .ok (.ifCond .eq off, 3)) (ht : (pc : Int) + off = (tgt : Int)) (kt : x = 0 → am_J l g M d kn tgt L S h Q) (kf : ¬ x = 0 → am_J l g M d kn (pc + 3) L S h Q) : am_J l g M d kn pc L (.int x :: S) h Q := by
  intro p e R s m args below meth c H locs ls Qm C hr hl f1 f2 f3
  exact lv_if_eq C.1 C.2.1 hd ht (fun q => kt q p e R s m args below meth c H locs ls Qm C hr hl f1 f2 f3) (fun q => kf q p e R s m args below meth c H locs ls Qm C hr hl f1 f2 f3)
theorem J_if_ne {x : Int32} {off : Int} {tgt : Nat} (hd : decode M.2.1 pc = .ok (.ifCond .ne off, 3)) (ht : (pc : Int) + off = (tgt : Int)) (kt : ¬ x = 0 → am_J l g M d kn tgt L S h Q) (kf : x = 0 → am_J l g M d kn (pc + 3) L S h Q) : am_J l g M d kn pc L (.int x :: S) h Q := by
  intro p e R s m args below meth c H locs ls Qm C hr hl f1 f2 f3
  exact lv_if_ne C.1 C.2.1 hd ht (fun q => kt q p e R s m args below meth c H locs ls Qm C hr hl f1 f2 f3) (fun q => kf q p e R s m args below meth c H locs ls Qm C hr hl f1 f2 f3)
theorem J_if_lt {x : Int32} {off : Int} {tgt : Nat} (hd : decode M.2.1 pc = .ok (.ifCond .lt off, 3)) (ht : (pc : Int) + off = (tgt : Int)) (kt : x < 0 → am_J l g M d kn tgt L S h Q) (kf : ¬ x < 0 → am_J l g M d kn (pc + 3) L S h Q) : am_J l g M d kn pc L (.int x :: S) h Q := by
  intro p e R s m args below meth c H locs ls Qm C hr hl f1 f2 f3
  exact lv_if_lt C.1 C.2.1 hd ht (fun q => kt q p e R s m args below meth c H locs ls Qm C hr hl f1 f2 f3) (fun q => kf q p e R s m args below meth c H locs ls Qm C hr hl f1 f2 f3)
theorem J_if_ge {x : Int32} {off : Int} {tgt : Nat} (hd : decode M.2.1 pc = .ok (.ifCond .ge off, 3)) (ht : (pc : Int) + off = (tgt : Int)) (kt : 0 ≤ x → am_J l g M d kn tgt L S h Q) (kf : ¬ 0 ≤ x → am_J l g M d kn (pc + 3) L S h Q) : am_J l g M d kn pc L (.int x :: S) h Q := by
  intro p e R s m args below meth c H locs ls Qm C hr hl f1 f2 f3
  exact lv_if_ge C.1 C.2.1 hd ht (fun q => kt q p e R s m args below meth c H locs ls Qm C hr hl f1 f2 f3) (fun q => kf q p e R s m args below meth c H locs ls Qm C hr hl f1 f2 f3)
theorem J_if_gt {x : Int32} {off : Int} {tgt : Nat} (hd : decode M.2.1 pc = .ok (.ifCond .gt off, 3)) (ht : (pc : Int) + off = (tgt : Int)) (kt : 0 < x → am_J l g M d kn tgt L S h Q) (kf : ¬ 0 < x → am_J l g M d kn (pc + 3) L S h Q) : am_J l g M d kn pc L (.int x :: S) h Q := by
  intro p e R s m args below meth c H locs ls Qm C hr hl f1 f2 f3
  exact lv_if_gt C.1 C.2.1 hd ht (fun q => kt q p e R s m args below meth c H locs ls Qm C hr hl f1 f2 f3) (fun q => kf q p e R s m args below meth c H locs ls Qm C hr hl f1 f2 f3)
theorem J_if_le {x : Int32} {off : Int} {tgt : Nat} (hd : decode M.2.1 pc = .ok (.ifCond .le off, 3)) (ht : (pc : Int) + off = (tgt : Int)) (kt : x ≤ 0 → am_J l g M d kn tgt L S h Q) (kf : ¬ x ≤ 0 → am_J l g M d kn (pc + 3) L S h Q) : am_J l g M d kn pc L (.int x :: S) h Q := by
  intro p e R s m args below meth c H locs ls Qm C hr hl f1 f2 f3
  exact lv_if_le C.1 C.2.1 hd ht (fun q => kt q p e R s m args below meth c H locs ls Qm C hr hl f1 f2 f3) (fun q => kf q p e R s m args below meth c H locs ls Qm C hr hl f1 f2 f3)
theorem J_goto {off : Int} {tgt : Nat} (hd : decode M.2.1 pc = .ok (.goto off, 3)) (ht : (pc : Int) + off = (tgt : Int)) (k : am_J l g M d kn tgt L S h Q) : am_J l g M d kn pc L S h Q := by
  intro p e R s m args below meth c H locs ls Qm C hr hl f1 f2 f3
  exact lv_goto C.1 C.2.1 hd ht (k p e R s m args below meth c H locs ls Qm C hr hl f1 f2 f3)
theorem J_tableIn {dflt lo hi : Int} {offs : Array Int} {len : Nat} {x : Int32} {off : Int} {tgt : Nat} (hd : decode M.2.1 pc = .ok (.tableswitch dflt lo hi offs, len)) (h1 : ¬ x.toInt < lo) (h2 : ¬ hi < x.toInt) (ho : offs[(x.toInt - lo).toNat]? = some off) (ht : (pc : Int) + off = (tgt : Int)) (k : am_J l g M d kn tgt L S h Q) : am_J l g M d kn pc L (.int x :: S) h Q := by
  intro p e R s m args below meth c H locs ls Qm C hr hl f1 f2 f3
  exact lv_tableIn C.1 C.2.1 hd h1 h2 ho ht (k p e R s m args below meth c H locs ls Qm C hr hl f1 f2 f3)
theorem J_tableOut {dflt lo hi : Int} {offs : Array Int} {len : Nat} {x : Int32} {tgt : Nat} (hd : decode M.2.1 pc = .ok (.tableswitch dflt lo hi offs, len)) (h1 : x.toInt < lo ∨ hi < x.toInt) (ht : (pc : Int) + dflt = (tgt : Int)) (k : am_J l g M d kn tgt L S h Q) : am_J l g M d kn pc L (.int x :: S) h Q := by
  intro p e R s m args below meth c H locs ls Qm C hr hl f1 f2 f3
  exact lv_tableOut C.1 C.2.1 hd h1 ht (k p e R s m args below meth c H locs ls Qm C hr hl f1 f2 f3)
theorem J_ldc {idx : Nat} {v : Int32} (hd : decode M.2.1 pc = .ok (.ldc idx, 2)) (hc : Cond.constant M.1.cls idx v ∈ lw_gw) (k : am_J l g M d kn (pc + 2) L (.int v :: S) h Q) : am_J l g M d kn pc L S h Q := by
  intro p e R s m args below meth c H locs ls Qm C hr hl f1 f2 f3
  exact lv_ldc C.1 C.2.1 C.2.2.2.2.1 (C.2.2.2.2.2.1 _ hc) hd (k p e R s m args below meth c H locs ls Qm C hr hl f1 f2 f3)
theorem J_ldc2 {idx : Nat} {v : Int64} (hd : decode M.2.1 pc = .ok (.ldc2_w idx, 3)) (hc : Cond.constantLong M.1.cls idx v ∈ lw_gw) (k : am_J l g M d kn (pc + 3) L (.long v :: S) h Q) : am_J l g M d kn pc L S h Q := by
  intro p e R s m args below meth c H locs ls Qm C hr hl f1 f2 f3
  exact lv_ldc2 C.1 C.2.1 C.2.2.2.2.1 (C.2.2.2.2.2.1 _ hc) hd (k p e R s m args below meth c H locs ls Qm C hr hl f1 f2 f3)
theorem J_sub {L' : List (Nat × Value)} (hL : ∀ q ∈ L', q ∈ L) (k : am_J l g M d kn pc L' S h Q) : am_J l g M d kn pc L S h Q := by
  intro p e R s m args below meth c H locs ls Qm C hr hl f1 f2 f3
  exact k p e R s m args below meth c H locs ls Qm C hr (am_lv_sub hl hL) f1 f2 f3
theorem J_mono {P : Option Value → am_H → Prop} (k : am_J l g M d kn pc L S h P) (hPQ : ∀ r h', P r h' → Q r h') : am_J l g M d kn pc L S h Q := by
  intro p e R s m args below meth c H locs ls Qm C hr hl f1 f2 f3
  exact k p e R s m args below meth c H locs ls Qm C hr hl (fun h' H' locs' hq => f1 h' H' locs' (hPQ _ _ hq)) (fun v h' H' locs' hq => f2 v h' H' locs' (hPQ _ _ hq)) (fun v h' H' locs' a b hq => f3 v h' H' locs' a b (hPQ _ _ hq))
theorem J_vret (hd : decode M.2.1 pc = .ok (.return_, 1)) (hm : M.2.2.2.1 = none) (hk : kn.1 ≤ M.2.2.2.2.1 ∧ kn.2.1 ≤ M.2.2.2.2.2 ∧ (kn.2.2 = true → kn.1 = M.2.2.2.2.1)) (hq : Q none h) : am_J l g M d kn pc L [] h Q := by
  intro p e R s m args below meth c H locs ls Qm C hr hl f1 f2 f3
  refine W.widen hk.1 hk.2.1 (f1 h H locs hq hm ?_ pc ls hd)
  obtain ⟨h1, h2, h3, h4, h5, h6⟩ := hr
  exact ⟨h1, h2, h3, h4, h5, fun hx => by rw [← hk.2.2 hx]; exact h6 hx⟩
theorem J_iret {v : Int32} (hd : decode M.2.1 pc = .ok (.ireturn, 1)) (hm : am_nar M v) (hk : kn.1 ≤ M.2.2.2.2.1 ∧ kn.2.1 ≤ M.2.2.2.2.2 ∧ (kn.2.2 = true → kn.1 = M.2.2.2.2.1)) (hq : Q (some (.int v)) h) : am_J l g M d kn pc L [.int v] h Q := by
  intro p e R s m args below meth c H locs ls Qm C hr hl f1 f2 f3
  refine W.widen hk.1 hk.2.1 (f2 v h H locs hq hm ?_ pc ls hd)
  obtain ⟨h1, h2, h3, h4, h5, h6⟩ := hr
  exact ⟨h1, h2, h3, h4, h5, fun hx => by rw [← hk.2.2 hx]; exact h6 hx⟩
theorem J_throw (hq : Q (some (.retAddr pc)) h) : am_J l g M d kn pc L [] h Q := by
  intro p e R s m args below meth c H locs ls Qm C hr hl f1 f2 f3
  exact f3 pc h H locs _ _ hq hr ls hl.1
end AMR
end
section
section AMH
variable {l : Launch} {g : am_G} {M : am_M} {d : Nat} {kn : Nat × Nat × Bool} {pc : Nat} {L : List (Nat × Value)} {S : List Value} {h : am_H} {Q : Option Value → am_H → Prop}
theorem J_get {idx ci k a : Nat} {ty : FieldType} {fin : Bool} {fs : List Value} {v : Value} (hd : decode M.2.1 pc = .ok (.getfield idx, 3)) (hF : am_F M.1.cls idx ci k ty fin) (hh : h[a]? = some (am_O ci fs)) (hv : fs[k]? = some v) (kk : am_J l g M d kn (pc + 3) L (v :: S) h Q) : am_J l g M d kn pc L (.ref a :: S) h Q := by
  intro p e R s m args below meth c H locs ls Qm C hr hl f1 f2 f3
  obtain ⟨hx, hb, -, hml, hown, hts, -, -, -⟩ := id C
  obtain ⟨hK, hX, hP, hD, hS, hz⟩ := id hr
  obtain ⟨CC, T, N, ty0, hc, hin, hty, hnm, hk, hlk, hcl, hty', hfin⟩ := hF
  exact va_get (D := g.2.1) (Ts := lw_gw) hx hb hts hin hown hK hP a (am_w_get hh) hc k hk (hts _ hlk) (fun x hx => by rw [← hcl]; exact hx) (v := am_t g v) (by simp [hv]) hd (kk p e R s m args below meth c H locs ls Qm C hr hl f1 f2 f3)
theorem J_put {idx ci k a : Nat} {ty : FieldType} {fs : List Value} {v : Value} (hd : decode M.2.1 pc = .ok (.putfield idx, 3)) (hF : am_F M.1.cls idx ci k ty false) (hn : narrow ty (am_t g v) = am_t g v) (hfit : fits ty (am_t g v) = true) (hh : h[a]? = some (am_O ci fs)) (hkl : k < fs.length) (kk : am_J l g M d kn (pc + 3) L S (h.set a (am_O ci (fs.set k v))) Q) : am_J l g M d kn pc L (v :: .ref a :: S) h Q := by
  intro p e R s m args below meth c H locs ls Qm C hr hl f1 f2 f3
  obtain ⟨hx, hb, -, hml, hown, hts, -, -, -⟩ := id C
  obtain ⟨hK, hX, hP, hD, hS, hz⟩ := id hr
  obtain ⟨CC, T, N, ty0, hc, hin, hty, hnm, hk, hlk, hcl, hty', hfin⟩ := hF
  refine va_put (D := g.2.1) (A := am_A g) (H0 := H) (Ts := lw_gw) hx hb hts hin ty0 hty hnm hown hK hP hD (am_S_rf hS) a (am_w_get hh) hc k hk (hts _ hlk) (fun x hx => by rw [← hcl]; exact hx) hfin (v := am_t g v) (ty := ty) (by rw [hty k hk, hty']) hn hfit (by simpa using hkl) hd (fun H1 locs1 hP1 hD1 hS1 => am_up fun hu => ?_)
  have e1 : (am_w g h).set a (g.1 + a, Sum.inr (ci, (fs.map (am_t g)).set k (am_t g v))) = am_w g (h.set a (am_O ci (fs.set k v))) := by
    rw [← am_w_set]; simp [am_e, List.map_set]
  rw [e1] at hP1 hD1
  exact kk p e R s m args below meth c H1 locs1 ls Qm C (am_r_put hr (by simp) hP1 hD1 hS1 hu) hl f1 f2 f3
theorem J_putF {idx ci k a : Nat} {ty : FieldType} {fs : List Value} {v : Value} (hd : decode M.2.1 pc = .ok (.putfield idx, 3)) (hF : am_F M.1.cls idx ci k ty true) (hini : M.1.name = "<init>") (hown0 : (am_cls[ci]?.map (fun q => q.1)) = some M.1.cls) (hn : narrow ty (am_t g v) = am_t g v) (hfit : fits ty (am_t g v) = true) (hh : h[a]? = some (am_O ci fs)) (hkl : k < fs.length) (kk : am_J l g M d kn (pc + 3) L S (h.set a (am_O ci (fs.set k v))) Q) : am_J l g M d kn pc L (v :: .ref a :: S) h Q := by
  intro p e R s m args below meth c H locs ls Qm C hr hl f1 f2 f3
  obtain ⟨hx, hb, -, hml, hown, hts, -, hname, -⟩ := id C
  obtain ⟨hK, hX, hP, hD, hS, hz⟩ := id hr
  obtain ⟨CC, T, N, ty0, hc, hin, hty, hnm, hk, hlk, hcl, hty', hfin⟩ := hF
  have hCC : CC = M.1.cls := by
    rw [hc] at hown0
    exact Option.some.inj hown0
  refine va_putF (D := g.2.1) (A := am_A g) (H0 := H) (Ts := lw_gw) hx hb hts hin ty0 hty hnm hown hK hP hD (am_S_rf hS) a (am_w_get hh) hc k hk (hts _ hlk) (fun x hx => by rw [← hcl]; exact hx) hfin (hname.trans hini) (hcl.trans hCC) (v := am_t g v) (ty := ty) (by rw [hty k hk, hty']) hn hfit (by simpa using hkl) hd (fun H1 locs1 hP1 hD1 hS1 => am_up fun hu => ?_)
  have e1 : (am_w g h).set a (g.1 + a, Sum.inr (ci, (fs.map (am_t g)).set k (am_t g v))) = am_w g (h.set a (am_O ci (fs.set k v))) := by
    rw [← am_w_set]; simp [am_e, List.map_set]
  rw [e1] at hP1 hD1
  exact kk p e R s m args below meth c H1 locs1 ls Qm C (am_r_put hr (by simp) hP1 hD1 hS1 hu) hl f1 f2 f3
theorem J_iald {a n : Nat} {f : Nat → Int32} {i : Int32} (hd : decode M.2.1 pc = .ok (.iaload, 1)) (hh : h[a]? = some (am_I 0 n f)) (hin : vp_in i n) (kk : am_J l g M d kn (pc + 1) L (.int (f i.toNatClampNeg) :: S) h Q) : am_J l g M d kn pc L (.int i :: .ref a :: S) h Q := by
  intro p e R s m args below meth c H locs ls Qm C hr hl f1 f2 f3
  exact va_iald (D := g.2.1) C.1 C.2.1 hr.1 hr.2.2.1 a 0 (am_w_get hh) rfl hin hd (kk p e R s m args below meth c H locs ls Qm C hr hl f1 f2 f3)
theorem J_zald {a n : Nat} {f : Nat → Int32} {i : Int32} (hd : decode M.2.1 pc = .ok (.baload, 1)) (hh : h[a]? = some (am_I 2 n f)) (hin : vp_in i n) (kk : am_J l g M d kn (pc + 1) L (.int (f i.toNatClampNeg) :: S) h Q) : am_J l g M d kn pc L (.int i :: .ref a :: S) h Q := by
  intro p e R s m args below meth c H locs ls Qm C hr hl f1 f2 f3
  exact va_zald (D := g.2.1) C.1 C.2.1 hr.1 hr.2.2.1 a 2 (am_w_get hh) rfl hin hd (kk p e R s m args below meth c H locs ls Qm C hr hl f1 f2 f3)
theorem J_cald {a n : Nat} {f : Nat → Int32} {i : Int32} (hd : decode M.2.1 pc = .ok (.caload, 1)) (hh : h[a]? = some (am_I 3 n f)) (hin : vp_in i n) (kk : am_J l g M d kn (pc + 1) L (.int (f i.toNatClampNeg) :: S) h Q) : am_J l g M d kn pc L (.int i :: .ref a :: S) h Q := by
  intro p e R s m args below meth c H locs ls Qm C hr hl f1 f2 f3
  exact va_cald (D := g.2.1) C.1 C.2.1 hr.1 hr.2.2.1 a 3 (am_w_get hh) rfl hin hd (kk p e R s m args below meth c H locs ls Qm C hr hl f1 f2 f3)
theorem J_lald {a n : Nat} {f : Nat → Int64} {i : Int32} (hd : decode M.2.1 pc = .ok (.laload, 1)) (hh : h[a]? = some (am_L n f)) (hin : vp_in i n) (kk : am_J l g M d kn (pc + 1) L (.long (f i.toNatClampNeg) :: S) h Q) : am_J l g M d kn pc L (.int i :: .ref a :: S) h Q := by
  intro p e R s m args below meth c H locs ls Qm C hr hl f1 f2 f3
  exact va_lald (D := g.2.1) C.1 C.2.1 hr.1 hr.2.2.1 a 1 (am_w_get hh) rfl hin hd (kk p e R s m args below meth c H locs ls Qm C hr hl f1 f2 f3)
theorem J_sld {i : Int32} (hd : decode M.2.1 pc = .ok (.iaload, 1)) (hin : vp_in i g.2.2.2.1.2.1) (kk : am_J l g M d kn (pc + 1) L (.int (g.2.2.2.1.2.2 i.toNatClampNeg) :: S) h Q) : am_J l g M d kn pc L (.int i :: .retAddr 0 :: S) h Q := by
  intro p e R s m args below meth c H locs ls Qm C hr hl f1 f2 f3
  exact va_sld (A := am_A g) C.1 C.2.1 hr.2.1.1 (Nat.lt_of_lt_of_le hr.2.1.2.1 hr.2.1.2.2.2.2) (Nat.not_le.mpr hr.2.1.2.1) hr.2.2.2.2.1 hin hd (kk p e R s m args below meth c H locs ls Qm C hr hl f1 f2 f3)
theorem J_slen (hd : decode M.2.1 pc = .ok (.arraylength, 1)) (kk : am_J l g M d kn (pc + 1) L (.int (Int32.ofNat g.2.2.2.1.2.1) :: S) h Q) : am_J l g M d kn pc L (.retAddr 0 :: S) h Q := by
  intro p e R s m args below meth c H locs ls Qm C hr hl f1 f2 f3
  exact va_slen (A := am_A g) C.1 C.2.1 hr.2.1.1 (Nat.lt_of_lt_of_le hr.2.1.2.1 hr.2.1.2.2.2.2) (Nat.not_le.mpr hr.2.1.2.1) hr.2.2.2.2.1 hd (kk p e R s m args below meth c H locs ls Qm C hr hl f1 f2 f3)
theorem J_tld {i : Int32} (hd : decode M.2.1 pc = .ok (.iaload, 1)) (hin : vp_in i 9) (kk : am_J l g M d kn (pc + 1) L (.int (am_room i.toNatClampNeg) :: S) h Q) : am_J l g M d kn pc L (.int i :: .retAddr 1 :: S) h Q := by
  intro p e R s m args below meth c H locs ls Qm C hr hl f1 f2 f3
  exact va_ti (A := am_A g) C.1 C.2.1 hr.2.1.2.2.2.1 hr.2.2.2.2.1 hin rfl hd (kk p e R s m args below meth c H locs ls Qm C hr hl f1 f2 f3)
theorem J_tlen (hd : decode M.2.1 pc = .ok (.arraylength, 1)) (kk : am_J l g M d kn (pc + 1) L (.int 9 :: S) h Q) : am_J l g M d kn pc L (.retAddr 1 :: S) h Q := by
  intro p e R s m args below meth c H locs ls Qm C hr hl f1 f2 f3
  exact va_tlen (A := am_A g) C.1 C.2.1 hr.2.1.2.2.2.1 hr.2.2.2.2.1 (v := 9) rfl hd (kk p e R s m args below meth c H locs ls Qm C hr hl f1 f2 f3)
theorem J_gets {idx : Nat} (hd : decode M.2.1 pc = .ok (.getstatic idx, 3)) (hlk : Cond.fieldLink M.1.cls idx "RingWeaves" "ROOM" "[I" ∈ lw_gw) (kk : am_J l g M d kn (pc + 3) L (.retAddr 1 :: S) h Q) : am_J l g M d kn pc L S h Q := by
  intro p e R s m args below meth c H locs ls Qm C hr hl f1 f2 f3
  exact va_gets (A := am_A g) C.1 C.2.1 hr.2.1.2.2.1 hr.2.2.2.2.1 C.2.2.2.2.1 (C.2.2.2.2.2.1 _ hlk) (fun _ hx => hx) hd (kk p e R s m args below meth c H locs ls Qm C hr hl f1 f2 f3)
theorem J_alenI {a t n : Nat} {f : Nat → Int32} {v : Int32} (ht : t = 0 ∨ t = 2 ∨ t = 3) (hd : decode M.2.1 pc = .ok (.arraylength, 1)) (hh : h[a]? = some (am_I t n f)) (hv : Int32.ofNat n = v) (kk : am_J l g M d kn (pc + 1) L (.int v :: S) h Q) : am_J l g M d kn pc L (.ref a :: S) h Q := by
  intro p e R s m args below meth c H locs ls Qm C hr hl f1 f2 f3
  have k := kk p e R s m args below meth c H locs ls Qm C hr hl f1 f2 f3
  rcases ht with rfl | rfl | rfl
  · exact va_alen (D := g.2.1) C.1 C.2.1 hr.1 hr.2.2.1 a 0 (am_w_get hh) (ty := .int) rfl hv hd k
  · exact va_alen (D := g.2.1) C.1 C.2.1 hr.1 hr.2.2.1 a 2 (am_w_get hh) (ty := .boolean) rfl hv hd k
  · exact va_alen (D := g.2.1) C.1 C.2.1 hr.1 hr.2.2.1 a 3 (am_w_get hh) (ty := .char) rfl hv hd k
theorem J_alenL {a n : Nat} {f : Nat → Int64} {v : Int32} (hd : decode M.2.1 pc = .ok (.arraylength, 1)) (hh : h[a]? = some (am_L n f)) (hv : Int32.ofNat n = v) (kk : am_J l g M d kn (pc + 1) L (.int v :: S) h Q) : am_J l g M d kn pc L (.ref a :: S) h Q := by
  intro p e R s m args below meth c H locs ls Qm C hr hl f1 f2 f3
  exact va_alen (D := g.2.1) C.1 C.2.1 hr.1 hr.2.2.1 a 1 (am_w_get hh) (ty := .long) rfl hv hd (kk p e R s m args below meth c H locs ls Qm C hr hl f1 f2 f3)
theorem J_iast {a n : Nat} {f : Nat → Int32} {i x : Int32} (hd : decode M.2.1 pc = .ok (.iastore, 1)) (hh : h[a]? = some (am_I 0 n f)) (hin : vp_in i n) (kk : am_J l g M d kn (pc + 1) L S (h.set a (am_I 0 n (upd f i.toNatClampNeg x))) Q) : am_J l g M d kn pc L (.int x :: .int i :: .ref a :: S) h Q := by
  intro p e R s m args below meth c H locs ls Qm C hr hl f1 f2 f3
  refine va_iast (D := g.2.1) (A := am_A g) (H0 := H) C.1 C.2.1 hr.1 hr.2.2.1 hr.2.2.2.1 (am_S_rf hr.2.2.2.2.1) a 0 (am_w_get hh) rfl hin hd (fun H1 locs1 hP1 hD1 hS1 => am_up fun hu => ?_)
  have e1 := am_w_set (g := g) (h := h) (a := a) (c := am_I 0 n (upd f i.toNatClampNeg x))
  exact kk p e R s m args below meth c H1 locs1 ls Qm C (am_r_put hr (by simp) (by rw [← e1]; exact hP1) (by rw [← e1]; exact hD1) hS1 hu) hl f1 f2 f3
theorem J_zast {a n : Nat} {f : Nat → Int32} {i x : Int32} (hd : decode M.2.1 pc = .ok (.bastore, 1)) (hh : h[a]? = some (am_I 2 n f)) (hin : vp_in i n) (hx : vp_nar .boolean x = x) (kk : am_J l g M d kn (pc + 1) L S (h.set a (am_I 2 n (upd f i.toNatClampNeg x))) Q) : am_J l g M d kn pc L (.int x :: .int i :: .ref a :: S) h Q := by
  intro p e R s m args below meth c H locs ls Qm C hr hl f1 f2 f3
  refine va_zast (D := g.2.1) (A := am_A g) (H0 := H) C.1 C.2.1 hr.1 hr.2.2.1 hr.2.2.2.1 (am_S_rf hr.2.2.2.2.1) a 2 (am_w_get hh) rfl hin hd (fun H1 locs1 hP1 hD1 hS1 => am_up fun hu => ?_)
  rw [hx] at hP1 hD1
  have e1 := am_w_set (g := g) (h := h) (a := a) (c := am_I 2 n (upd f i.toNatClampNeg x))
  exact kk p e R s m args below meth c H1 locs1 ls Qm C (am_r_put hr (by simp) (by rw [← e1]; exact hP1) (by rw [← e1]; exact hD1) hS1 hu) hl f1 f2 f3
theorem J_cast {a n : Nat} {f : Nat → Int32} {i x : Int32} (hd : decode M.2.1 pc = .ok (.castore, 1)) (hh : h[a]? = some (am_I 3 n f)) (hin : vp_in i n) (hx : vp_nar .char x = x) (kk : am_J l g M d kn (pc + 1) L S (h.set a (am_I 3 n (upd f i.toNatClampNeg x))) Q) : am_J l g M d kn pc L (.int x :: .int i :: .ref a :: S) h Q := by
  intro p e R s m args below meth c H locs ls Qm C hr hl f1 f2 f3
  refine va_cast (D := g.2.1) (A := am_A g) (H0 := H) C.1 C.2.1 hr.1 hr.2.2.1 hr.2.2.2.1 (am_S_rf hr.2.2.2.2.1) a 3 (am_w_get hh) rfl hin hd (fun H1 locs1 hP1 hD1 hS1 => am_up fun hu => ?_)
  rw [hx] at hP1 hD1
  have e1 := am_w_set (g := g) (h := h) (a := a) (c := am_I 3 n (upd f i.toNatClampNeg x))
  exact kk p e R s m args below meth c H1 locs1 ls Qm C (am_r_put hr (by simp) (by rw [← e1]; exact hP1) (by rw [← e1]; exact hD1) hS1 hu) hl f1 f2 f3
theorem J_last {a n : Nat} {f : Nat → Int64} {i : Int32} {x : Int64} (hd : decode M.2.1 pc = .ok (.lastore, 1)) (hh : h[a]? = some (am_L n f)) (hin : vp_in i n) (kk : am_J l g M d kn (pc + 1) L S (h.set a (am_L n (vp_updL f i.toNatClampNeg x))) Q) : am_J l g M d kn pc L (.long x :: .int i :: .ref a :: S) h Q := by
  intro p e R s m args below meth c H locs ls Qm C hr hl f1 f2 f3
  refine va_last (D := g.2.1) (A := am_A g) (H0 := H) C.1 C.2.1 hr.1 hr.2.2.1 hr.2.2.2.1 (am_S_rf hr.2.2.2.2.1) a 1 (am_w_get hh) rfl hin hd (fun H1 locs1 hP1 hD1 hS1 => am_up fun hu => ?_)
  have e1 := am_w_set (g := g) (h := h) (a := a) (c := am_L n (vp_updL f i.toNatClampNeg x))
  exact kk p e R s m args below meth c H1 locs1 ls Qm C (am_r_put hr (by simp) (by rw [← e1]; exact hP1) (by rw [← e1]; exact hD1) hS1 hu) hl f1 f2 f3
/-- where a new cell lies -/
theorem am_at_new {H H1 : Heap} {s : State} {locs : List Loc} {k q : Nat} {c : va_E} (hr : am_r g s H locs k true h) (hP : va_P g.2.1 am_cls (am_w g h ++ [(q, c)]) H1) (hD : va_D (am_A g) (am_w g h ++ [(q, c)])) (hu : H1.size ≤ s.heap.size + (k + 1)) : q = g.1 + h.length := by
  obtain ⟨-, -, -, -, -, hz⟩ := hr
  obtain ⟨z1, z2⟩ := hz rfl
  have hq : (am_w g h ++ [(q, c)])[h.length]? = some (q, c) := by
    rw [List.getElem?_append_right (by rw [am_w_len]; omega), am_w_len]; simp
  have hlt : q < H1.size := (hP _ _ hq).lt
  have hA : g.1 ≤ q := hD.2 _ _ hq
  rcases Nat.lt_or_ge q (g.1 + h.length) with hc | hc
  · exfalso
    have hi : q - g.1 < h.length := by omega
    have h1 : (am_w g h ++ [(q, c)])[q - g.1]? = some (g.1 + (q - g.1), am_e g h[q - g.1]) := by
      rw [List.getElem?_append_left (by rw [am_w_len]; exact hi)]
      exact am_w_get (List.getElem?_eq_getElem hi)
    have := hD.1 _ _ _ _ h1 hq (by show g.1 + (q - g.1) = q; omega)
    omega
  · omega
theorem J_new {idx ci N k n : Nat} {CC : String} {T : u_T} {fs : List Value} (hd : decode M.2.1 pc = .ok (.new idx, 3)) (hc : am_cls[ci]? = some (CC, T, N)) (hin : ∀ w ∈ u_ws CC T N, w ∈ lw_gw) (ty : Nat → FieldType) (hty : ∀ k, k < N → parseFieldDescriptor (T k).2.2.1 = some (ty k)) (hcl : Cond.classLink M.1.cls idx CC ∈ lw_gw) (hinst : Cond.instantiable CC N ∈ lw_gw) (hini : Cond.initialized CC ∈ lw_gw) (hfs : ∀ j, j < N → defaultValue (ty j) = vp_V fs j) (hft : fs.map (am_t g) = fs) (hk : k + 1 ≤ M.2.2.2.2.1 ∧ n + N ≤ M.2.2.2.2.2) (kk : am_J l g M d (k + 1, n + N, true) (pc + 3) L (.ref h.length :: S) (h ++ [am_O ci fs]) Q) : am_J l g M d (k, n, true) pc L S h Q := by
  intro p e R s m args below meth c H locs ls Qm C hr hl f1 f2 f3
  obtain ⟨hx, hb, -, hml, hown, hts, -, -, -, -, hRc, hRs⟩ := id C
  obtain ⟨hK, hX, hP, hD, hS, hz⟩ := id hr
  have hg1 : g.1 ≤ H.size := Nat.le_trans hX.2.2.2.2 hS.1
  refine va_new (D := g.2.1) (A := am_A g) (H0 := H) (Ts := lw_gw) hx hb hts hin ty hty hown (hts _ hcl) (hts _ hinst) (hts _ hini) hK hP hD (am_S_rf hS) (fun q hq => Nat.le_trans hg1 hq) hc hfs (Nat.le_trans hk.1 hRc) (Nat.le_trans hk.2 hRs) hd (fun q H1 hP1 hD1 hS1 => am_up fun hu => ?_)
  have hq : q = g.1 + h.length := am_at_new hr hP1 hD1 hu
  subst hq
  have e1 : am_w g h ++ [(g.1 + h.length, Sum.inr (ci, fs))] = am_w g (h ++ [am_O ci fs]) := by
    rw [← am_w_push]; simp [am_e, hft]
  rw [e1] at hP1 hD1
  refine kk p e R s m args below meth c H1 locs ls Qm C ⟨hK, hX, hP1, hD1, am_S_tr hS hS1, fun _ => ?_⟩ hl f1 f2 f3
  obtain ⟨z1, z2⟩ := hz rfl
  have h2 : (am_w g (h ++ [am_O ci fs]))[h.length]? = some (g.1 + h.length, am_e g (am_O ci fs)) := am_w_get (by simp)
  have hlt : g.1 + h.length < H1.size := (hP1 _ _ h2).lt
  simp only [List.length_append, List.length_cons, List.length_nil]
  omega
theorem J_newaI {atype : ArrayType} {t k n N' : Nat} {nn : Int32} {ty : FieldType} (hd : decode M.2.1 pc = .ok (.newarray atype, 2)) (hty : newarray.typeOf atype = ty) (haw : Cond.arrayClass ty ∈ lw_gw) (htt : (t = 0 ∧ ty = .int) ∨ (t = 2 ∧ ty = .boolean) ∨ (t = 3 ∧ ty = .char)) (hn : ¬ nn < 0) (hN : nn.toNatClampNeg = N') (hbytes : N' * componentBytes ty ≤ 536870912) (hk : k + 1 ≤ M.2.2.2.2.1 ∧ n + N' ≤ M.2.2.2.2.2) (kk : am_J l g M d (k + 1, n + N', true) (pc + 2) L (.ref h.length :: S) (h ++ [am_I t N' (fun _ => 0)]) Q) : am_J l g M d (k, n, true) pc L (.int nn :: S) h Q := by
  intro p e R s m args below meth c H locs ls Qm C hr hl f1 f2 f3
  obtain ⟨hx, hb, -, hml, hown, hts, -, -, -, -, hRc, hRs⟩ := id C
  obtain ⟨hK, hX, hP, hD, hS, hz⟩ := id hr
  have hg1 : g.1 ≤ H.size := Nat.le_trans hX.2.2.2.2 hS.1
  refine va_newa (D := g.2.1) (A := am_A g) (H0 := H) (ty := ty) hx hb (by rw [hty]; exact hts _ haw) hty hK hP hD (am_S_rf hS) (fun q hq => Nat.le_trans hg1 hq) (a0 := (N', .inl (fun _ => 0))) (fun cA => by rcases htt with ⟨-, rfl⟩ | ⟨-, rfl⟩ | ⟨-, rfl⟩ <;> rfl) hn hN hbytes (Nat.le_trans hk.1 hRc) (Nat.le_trans hk.2 hRs) hd (fun q cA H1 hK1 hP1 hD1 hS1 => am_up fun hu => ?_)
  have hq : q = g.1 + h.length := am_at_new hr hP1 hD1 hu
  subst hq
  have hcA : cA = g.2.2.1 t := by
    have h4 := (hK1.2 4 (cA, ty) (by rfl)).2
    rcases htt with ⟨rfl, rfl⟩ | ⟨rfl, rfl⟩ | ⟨rfl, rfl⟩
    · exact Option.some.inj (h4.symm.trans (hK.2 0 (g.2.2.1 0, .int) rfl).2)
    · exact Option.some.inj (h4.symm.trans (hK.2 2 (g.2.2.1 2, .boolean) rfl).2)
    · exact Option.some.inj (h4.symm.trans (hK.2 3 (g.2.2.1 3, .char) rfl).2)
  subst hcA
  have e1 : am_w g h ++ [(g.1 + h.length, Sum.inl (g.2.2.1 t, N', Sum.inl (fun _ => 0)))] = am_w g (h ++ [am_I t N' (fun _ => 0)]) := am_w_push (c := am_I t N' (fun _ => 0))
  rw [e1] at hP1 hD1
  refine kk p e R s m args below meth c H1 locs ls Qm C ⟨hK, hX, hP1, hD1, am_S_tr hS hS1, fun _ => ?_⟩ hl f1 f2 f3
  obtain ⟨z1, z2⟩ := hz rfl
  have h2 : (am_w g (h ++ [am_I t N' (fun _ => 0)]))[h.length]? = some (g.1 + h.length, am_e g (am_I t N' (fun _ => 0))) := am_w_get (by simp)
  have hlt : g.1 + h.length < H1.size := (hP1 _ _ h2).lt
  simp only [List.length_append, List.length_cons, List.length_nil]
  omega
theorem J_newaL {atype : ArrayType} {k n N' : Nat} {nn : Int32} (hd : decode M.2.1 pc = .ok (.newarray atype, 2)) (hty : newarray.typeOf atype = .long) (haw : Cond.arrayClass .long ∈ lw_gw) (hn : ¬ nn < 0) (hN : nn.toNatClampNeg = N') (hbytes : N' * componentBytes .long ≤ 536870912) (hk : k + 1 ≤ M.2.2.2.2.1 ∧ n + N' ≤ M.2.2.2.2.2) (kk : am_J l g M d (k + 1, n + N', true) (pc + 2) L (.ref h.length :: S) (h ++ [am_L N' (fun _ => 0)]) Q) : am_J l g M d (k, n, true) pc L (.int nn :: S) h Q := by
  intro p e R s m args below meth c H locs ls Qm C hr hl f1 f2 f3
  obtain ⟨hx, hb, -, hml, hown, hts, -, -, -, -, hRc, hRs⟩ := id C
  obtain ⟨hK, hX, hP, hD, hS, hz⟩ := id hr
  have hg1 : g.1 ≤ H.size := Nat.le_trans hX.2.2.2.2 hS.1
  refine va_newa (D := g.2.1) (A := am_A g) (H0 := H) (ty := .long) hx hb (by rw [hty]; exact hts _ haw) hty hK hP hD (am_S_rf hS) (fun q hq => Nat.le_trans hg1 hq) (a0 := (N', .inr (.inl (fun _ => 0)))) (fun cA => rfl) hn hN hbytes (Nat.le_trans hk.1 hRc) (Nat.le_trans hk.2 hRs) hd (fun q cA H1 hK1 hP1 hD1 hS1 => am_up fun hu => ?_)
  have hq : q = g.1 + h.length := am_at_new hr hP1 hD1 hu
  subst hq
  have hcA : cA = g.2.2.1 1 := Option.some.inj ((hK1.2 4 (cA, .long) (by rfl)).2.symm.trans (hK.2 1 (g.2.2.1 1, .long) rfl).2)
  subst hcA
  have e1 : am_w g h ++ [(g.1 + h.length, Sum.inl (g.2.2.1 1, N', Sum.inr (Sum.inl (fun _ => 0))))] = am_w g (h ++ [am_L N' (fun _ => 0)]) := am_w_push (c := am_L N' (fun _ => 0))
  rw [e1] at hP1 hD1
  refine kk p e R s m args below meth c H1 locs ls Qm C ⟨hK, hX, hP1, hD1, am_S_tr hS hS1, fun _ => ?_⟩ hl f1 f2 f3
  obtain ⟨z1, z2⟩ := hz rfl
  have h2 : (am_w g (h ++ [am_L N' (fun _ => 0)]))[h.length]? = some (g.1 + h.length, am_e g (am_L N' (fun _ => 0))) := am_w_get (by simp)
  have hlt : g.1 + h.length < H1.size := (hP1 _ _ h2).lt
  simp only [List.length_append, List.length_cons, List.length_nil]
  omega
theorem J_min {idx : Nat} {x y : Int32} (hd : decode M.2.1 pc = .ok (.invokestatic idx, 3)) (hlk : Cond.methodLink M.1.cls idx yJ9_min_7cf53 ∈ lw_gw) (hst : Cond.static yJ9_min_7cf53 ∈ lw_gw) (hini : Cond.initialized "java/lang/Math" ∈ lw_gw) (hcode : Cond.code Lib.Math.min.name Lib.Math.min.code 2 (some .int) ∈ lw_gw) (hS : (S.map fun v => v.category).sum ≤ 8) (hk : kn.1 ≤ M.2.2.2.2.1 ∧ kn.2.1 ≤ M.2.2.2.2.2) (kk : am_J l g M (d + 1) kn (pc + 3) L (.int (if y < x then y else x) :: S) h Q) : am_J l g M (d + 1) kn pc L (.int y :: .int x :: S) h Q := by
  intro p e R s m args below meth c H locs ls Qm C hr hl f1 f2 f3
  obtain ⟨hx, hb, -, hml, hown, hts, -, -, hRf, hRl, hRc, hRs⟩ := id C
  have hS' : ((S.map (am_t g)).map fun v => v.category).sum = (S.map fun v => v.category).sum := by
    rw [List.map_map]; congr 1; apply List.map_congr_left; intro v _; exact am_t_cat g v
  exact va_mmin hx hb (hml.trans hl.1.symm) hown (hts _ hlk) (hts _ hst) (hts _ hini) (hts _ hcode) (by omega) (by rw [hS']; omega) (Nat.le_trans hk.1 hRc) (Nat.le_trans hk.2 hRs) hd (kk p e R s m args below meth c H locs ls Qm C hr hl f1 f2 f3)
theorem J_objInit {idx a : Nat} (hd : decode M.2.1 pc = .ok (.invokespecial idx, 3)) (hlk : Cond.methodLink M.1.cls idx objectInit ∈ lw_gw) (hS : (S.map fun v => v.category).sum ≤ 8) (kk : am_J l g M (d + 1) kn (pc + 3) L S h Q) : am_J l g M (d + 1) kn pc L (.ref a :: S) h Q := by
  intro p e R s m args below meth c H locs ls Qm C hr hl f1 f2 f3
  obtain ⟨hx, hb, -, hml, hown, hts, -, -, hRf, hRl, hRc, hRs⟩ := id C
  have hS' : ((S.map (am_t g)).map fun v => v.category).sum = (S.map fun v => v.category).sum := by
    rw [List.map_map]; congr 1; apply List.map_congr_left; intro v _; exact am_t_cat g v
  refine W.objInit hx hb hown (hts _ hlk) (hts _ am_oi) (hts _ am_oc) (g := F0 m pc ls ((Value.ref a :: S).map (am_t g))) rfl (by rw [hml]; exact hl.1) (a := g.1 + a) (rest := S.map (am_t g)) rfl hd (by omega) (by show 2 * 0 + _ + 12 ≤ _; rw [hS']; omega) ?_
  exact kk p e R s m args below meth c H locs ls Qm C hr hl f1 f2 f3
end AMH
end
section
section AMK
variable {l : Launch} {g : am_G} {M M' : am_M} {d : Nat} {kn : Nat × Nat × Bool} {pc : Nat} {L : List (Nat × Value)} {S : List Value} {h : am_H} {Q : Option Value → am_H → Prop}
theorem am_good {ws : List Cond} (h : ∀ w ∈ ws, w ∈ lw_gw) : GoodIn lw_gw ws := fun w hw => ⟨h w hw, good_of_word (am_gw (h w hw)).2⟩
abbrev am_ws (M : am_M) : List Cond := Cond.code M.1 M.2.1 M.2.2.1 M.2.2.2.1 :: lw_gw
abbrev am_rm (M : am_M) (d : Nat) : Room := { frames := d, cells := M.2.2.2.2.1, slots := M.2.2.2.2.2, locals := d * 41 }
def am_Pc (g : am_G) (x : Bool) (vs : List Value) (h : am_H) : Array Value → State → Prop := va_Pc (vs.map (am_t g)) (fun U => am_r g U U.heap [] 0 x h)
def am_Qc (g : am_G) (x : Bool) (mc : Nat) (P : Option Value → am_H → Prop) : Array Value → State → Outcome → State → Prop := fun _ st oc t =>
  ∃ (r : Option Value) (h' : am_H), oc = .returned (r.map (am_t g)) ∧ P r h' ∧ va_P g.2.1 am_cls (am_w g h') t.heap ∧ va_D (am_A g) (am_w g h') ∧ va_F (am_A g) st t ∧ (x = true → t.heap.size = g.1 + h'.length ∧ t.heap.size = st.heap.size + mc)
theorem am_ws_in {M : am_M} {n : Nat} (hM : am_mk M n) : ∀ w ∈ am_ws M, w ∈ lw_gw := fun w hw => by
  rcases List.mem_cons.mp hw with rfl | hw
  · exact hM.1
  · exact hw
/-- a method's contract out of its judgement at the entry -/
theorem am_met {n : Nat} {x : Bool} {vs : List Value} {P : Option Value → am_H → Prop} (hM : am_mk M n) (hv : (lg_sl vs).length ≤ M.2.2.1) (hJ : am_J l g M d (0, 0, x) 0 (lv_args 0 vs) [] h P) (hnt : ∀ k h', ¬ P (some (.retAddr k)) h') : Met l M.1 (am_ws M) (am_rm M d) (am_Pc g x vs h) (am_Qc g x M.2.2.2.2.1 P) M.2.2.2.2.1 M.2.2.2.2.2 (am_A g) := by
  refine Met.ofW (cc := M.2.1) (maxL := M.2.2.1) (ret := M.2.2.2.1) hM.2.1 rfl ?_
  intro p e s m args below meth c s₁ B hml hpre
  obtain ⟨rfl, hr⟩ := hpre
  have hts := atoms_spec (ws := am_ws M) B.pre
  have hsl : (lg_sl (vs.map (am_t g))).length = (lg_sl vs).length := by
    simp only [lg_sl, List.length_flatMap, List.map_map]
    congr 1
    apply List.map_congr_left
    intro v _
    simp only [Function.comp, am_t_cat]
    split <;> rfl
  have hl := lv_entry (vs.map (am_t g)) (n := M.2.2.1) (by rw [hsl]; exact hv)
  rw [am_lv_args] at hl
  rw [lg_entry_eq]
  refine hJ p e _ s m _ below meth c s.heap [] _ _ ⟨B.exec, B.bytes, B.returns, hml, findClass_of_methodNamed B.named, fun w hw => hts w (List.mem_cons_of_mem _ hw), B.notSynchronized, (name_of_methodNamed B.named B.method).1, Nat.le_refl _, Nat.le_refl _, Nat.le_refl _, Nat.le_refl _⟩ hr hl ?_ ?_ ?_
  · intro h' H' locs' hq hm hr' pc' ls' hd
    refine W.vret B.exec B.bytes (B.returns.trans hm) (fun t ht hW => ⟨none, h', rfl, hq, by rw [ht]; exact hr'.2.2.1, hr'.2.2.2.1, hr'.2.2.2.2.1.F ht, fun hx => by rw [ht]; exact hr'.2.2.2.2.2 hx⟩) hr'.2.2.2.2.1.2.2 hd (hlocks := B.notSynchronized)
  · intro v h' H' locs' hq hm hr' pc' ls' hd
    obtain ⟨ty, hty, hn⟩ := hm
    refine W.zret B.exec B.bytes (B.returns.trans hty) hn (fun t ht hW => ⟨some (.int v), h', rfl, hq, by rw [ht]; exact hr'.2.2.1, hr'.2.2.2.1, hr'.2.2.2.2.1.F ht, fun hx => by rw [ht]; exact hr'.2.2.2.2.2 hx⟩) hr'.2.2.2.2.1.2.2 hd (hlocks := B.notSynchronized)
  · intro k h' H' locs' k' n' hq
    exact absurd hq (hnt k h')
theorem am_blind {x : Bool} {vs : List Value} : FrameBlind (am_Pc g x vs h) := by
  intro a U f mk q
  obtain ⟨rfl, hr⟩ := q
  exact ⟨rfl, am_r_enter hr rfl (Vm.Alike.refl U.vm)⟩
/-- behind a call -/
theorem am_go {p : Program} {e : Env} {R : Room} {s : State} {m : MethodId} {args : Array Value} {below : List Frame} {meth : Method} {c : Code} {H : Heap} {locs : List Loc} {k n mc ms : Nat} {x : Bool} {Qm : State → Prop} {ls : Array Slot} {st0 rest : List Value} {a : Array Value} {P : Option Value → am_H → Prop}
    (hr : am_r g s H locs k x h) (hrun : va_Run p l e R s m args below meth c H locs k n mc ms (F0 m pc ls st0) rest (am_Qc g x mc P a) (am_A g))
    (kk : ∀ (r : Option Value) (h' : am_H) (H1 : Heap) (locs1 : List Loc), P r h' → am_r g s H1 locs1 (k + mc) x h' → W p l e R s m args below meth c H1 locs1 (k + mc) (n + ms) Qm (F0 m (pc + 3) ls ((r.map (am_t g)).toList ++ rest))) : W p l e R s m args below meth c H locs k n Qm (F0 m pc ls st0) := by
  intro T hT X
  obtain ⟨v, st₀, t, T', LL, h0, X', hL, e1, e2, ⟨r, h', hv, hp, hP, hD, hF, hz⟩, st⟩ := hrun T hT X
  cases hv
  obtain ⟨hK, hX, -, -, hS, hz0⟩ := hr
  have hr1 : am_r g s T'.heap (locs ++ LL) (k + mc) x h' := by
    refine ⟨hK, hX, by rw [e1]; exact hP, hD, ⟨?_, ?_, ?_⟩, fun hx => ?_⟩
    · rw [e1]; exact Nat.le_trans hS.1 (by rw [← h0]; exact hF.1)
    · intro q h1 h2
      rw [e1, hF.2 q (by rw [h0]; exact Nat.lt_of_lt_of_le h1 hS.1) h2, h0]
      exact hS.2.1 q h1 h2
    · intro q hq
      rcases List.mem_append.mp hq with hh | hh
      · exact hS.2.2 q hh
      · exact hL q hh
    · obtain ⟨z1, z2⟩ := hz hx
      obtain ⟨y1, y2⟩ := hz0 hx
      rw [h0] at z2
      rw [e1]
      omega
  obtain ⟨t2, a1, b1⟩ := kk r h' T'.heap (locs ++ LL) hp hr1 T' rfl X'
  exact ⟨t2, st t2 a1, b1⟩
theorem am_cat_sum (S : List Value) : ((S.map (am_t g)).map fun v => v.category).sum = (S.map fun v => v.category).sum := by
  rw [List.map_map]; congr 1; apply List.map_congr_left; intro v _; exact am_t_cat g v
theorem am_toList (r : Option Value) : (r.map (am_t g)).toList = r.toList.map (am_t g) := by cases r <;> rfl
theorem J_callV {idx n b ci : Nat} {As S0 : List Value} {fs : List Value} {P : Option Value → am_H → Prop} (hd : decode M.2.1 pc = .ok (.invokevirtual idx, 3)) (hM : am_mi M' n) (hlk : Cond.methodLink M.1.cls idx M'.1 ∈ lw_gw) (hn : As.length = n) (hv : (lg_sl (.ref b :: As)).length ≤ M'.2.2.1) (hh : h[b]? = some (am_O ci fs)) (hci : am_cls[ci]?.map (fun q => q.1) = some M'.1.cls) (hst : S0 = As.reverse ++ .ref b :: S) (hS : (S.map fun v => v.category).sum ≤ 8) (hk : kn.1 + M'.2.2.2.2.1 ≤ M.2.2.2.2.1 ∧ kn.2.1 + M'.2.2.2.2.2 ≤ M.2.2.2.2.2) (hnt : ∀ k h', ¬ P (some (.retAddr k)) h')
    (hJ : am_J l g M' d (0, 0, kn.2.2) 0 (lv_args 0 (.ref b :: As)) [] h P) (kk : ∀ r h', P r h' → am_J l g M (d + 1) (kn.1 + M'.2.2.2.2.1, kn.2.1 + M'.2.2.2.2.2, kn.2.2) (pc + 3) L (r.toList ++ S) h' Q) : am_J l g M (d + 1) kn pc L S0 h Q := by
  intro p e R s m args below meth c H locs ls Qm C hr hl f1 f2 f3
  subst hst
  obtain ⟨hx, hb, -, hml, hown, hts, -, -, hRf, hRl, hRc, hRs⟩ := id C
  obtain ⟨hmk, hmi, hms⟩ := hM
  obtain ⟨-, -, hmh, hmz, hmx, hmp⟩ := id hmk
  have hMet := am_met hmk hv hJ hnt
  have hrec : ∃ cell : Cell, H[g.1 + b]? = some cell ∧ cell.vm.isStatics = false ∧ s.vm.findClass M'.1.cls = some cell.cls := by
    cases hc : am_cls[ci]? with
    | none => rw [hc] at hci; cases hci
    | some q =>
      rw [hc] at hci
      rw [← Option.some.inj hci]
      exact va_recv hr.1 hr.2.2.1 hc (am_w_get hh)
  refine am_go (P := P) (rest := S.map (am_t g)) hr (va_runV (As := As.map (am_t g)) (b := g.1 + b) (C := M'.1.cls) (Ts := lw_gw) (y := M'.1) (bytes := M'.2.1) (maxL := M'.2.2.1) (ret := M'.2.2.2.1) (own := M.1.cls) ⟨hx, hb, hml, hown, hts⟩ hMet (cwV n hts (am_good ?_) rfl rfl rfl ⟨rfl, hmh.1, hmh.2, hmp⟩ ⟨?_, ?_⟩) ⟨am_blind, hrec, fun U hU hW => ⟨rfl, am_r_enter hr hU hW.alike⟩⟩ rfl (by simpa using hn) hl.1 (by simp [am_t]) (lv_room (by rw [am_cat_sum]; exact hS)) hd ⟨Nat.le_trans hk.1 hRc, Nat.le_trans hk.2 hRs⟩) ?_
  · intro w hw
    simp only [wsV, List.mem_append, List.mem_cons, List.not_mem_nil, or_false] at hw
    rcases hw with (rfl | rfl | rfl | rfl) | hw
    · exact hlk
    · exact hmi
    · exact hms
    · exact hmz
    · exact am_ws_in hmk w (by simpa using hw)
  · show d + 1 ≤ _; omega
  · show 8 + (M'.2.2.1 + 11) + d * 41 ≤ _; omega
  · intro r h' H1 locs1 hp hr1
    rw [am_toList, ← List.map_append]
    exact kk r h' hp p e R s m args below meth c H1 locs1 ls Qm C hr1 hl f1 f2 f3
theorem J_callS {idx n : Nat} {As S0 : List Value} {P : Option Value → am_H → Prop} (hd : decode M.2.1 pc = .ok (.invokestatic idx, 3)) (hM : am_ms M' n) (hlk : Cond.methodLink M.1.cls idx M'.1 ∈ lw_gw) (hn : As.length = n) (hv : (lg_sl As).length ≤ M'.2.2.1) (hst : S0 = As.reverse ++ S) (hS : (S.map fun v => v.category).sum ≤ 8) (hk : kn.1 + M'.2.2.2.2.1 ≤ M.2.2.2.2.1 ∧ kn.2.1 + M'.2.2.2.2.2 ≤ M.2.2.2.2.2) (hnt : ∀ k h', ¬ P (some (.retAddr k)) h')
    (hJ : am_J l g M' d (0, 0, kn.2.2) 0 (lv_args 0 As) [] h P) (kk : ∀ r h', P r h' → am_J l g M (d + 1) (kn.1 + M'.2.2.2.2.1, kn.2.1 + M'.2.2.2.2.2, kn.2.2) (pc + 3) L (r.toList ++ S) h' Q) : am_J l g M (d + 1) kn pc L S0 h Q := by
  intro p e R s m args below meth c H locs ls Qm C hr hl f1 f2 f3
  subst hst
  obtain ⟨hx, hb, -, hml, hown, hts, -, -, hRf, hRl, hRc, hRs⟩ := id C
  obtain ⟨hmk, hms⟩ := hM
  obtain ⟨-, -, hmh, hmz, hmx, hmp⟩ := id hmk
  have hMet := am_met hmk hv hJ hnt
  refine am_go (P := P) (rest := S.map (am_t g)) hr (va_runS (As := As.map (am_t g)) (Ts := lw_gw) (y := M'.1) (bytes := M'.2.1) (maxL := M'.2.2.1) (ret := M'.2.2.2.1) (own := M.1.cls) ⟨hx, hb, hml, hown, hts⟩ hMet (va_cwS n hts (am_good ?_) rfl rfl rfl ⟨hmh.1, hmh.2, hmp⟩ ⟨?_, ?_⟩) ⟨am_blind, fun U hU hW => ⟨rfl, am_r_enter hr hU hW.alike⟩⟩ rfl (by simpa using hn) hl.1 (by simp) (lv_room (by rw [am_cat_sum]; exact hS)) hd ⟨Nat.le_trans hk.1 hRc, Nat.le_trans hk.2 hRs⟩) ?_
  · intro w hw
    simp only [va_wsS, List.mem_append, List.mem_cons, List.not_mem_nil, or_false] at hw
    rcases hw with (rfl | rfl | rfl) | hw
    · exact hlk
    · exact hms
    · exact hmz
    · exact am_ws_in hmk w (by simpa using hw)
  · show d + 1 ≤ _; omega
  · show 8 + (M'.2.2.1 + 11) + d * 41 ≤ _; omega
  · intro r h' H1 locs1 hp hr1
    rw [am_toList, ← List.map_append]
    exact kk r h' hp p e R s m args below meth c H1 locs1 ls Qm C hr1 hl f1 f2 f3
theorem J_callI {idx n b : Nat} {As S0 : List Value} {P : Option Value → am_H → Prop} (hd : decode M.2.1 pc = .ok (.invokespecial idx, 3)) (hM : am_mc M' n) (hret : M'.2.2.2.1 = none) (hlk : Cond.methodLink M.1.cls idx M'.1 ∈ lw_gw) (hn : As.length = n) (hv : (lg_sl (.ref b :: As)).length ≤ M'.2.2.1) (hst : S0 = As.reverse ++ .ref b :: S) (hS : (S.map fun v => v.category).sum ≤ 8) (hk : kn.1 + M'.2.2.2.2.1 ≤ M.2.2.2.2.1 ∧ kn.2.1 + M'.2.2.2.2.2 ≤ M.2.2.2.2.2) (hnt : ∀ k h', ¬ P (some (.retAddr k)) h')
    (hJ : am_J l g M' d (0, 0, kn.2.2) 0 (lv_args 0 (.ref b :: As)) [] h P) (kk : ∀ r h', P r h' → am_J l g M (d + 1) (kn.1 + M'.2.2.2.2.1, kn.2.1 + M'.2.2.2.2.2, kn.2.2) (pc + 3) L (r.toList ++ S) h' Q) : am_J l g M (d + 1) kn pc L S0 h Q := by
  intro p e R s m args below meth c H locs ls Qm C hr hl f1 f2 f3
  subst hst
  obtain ⟨hx, hb, -, hml, hown, hts, -, -, hRf, hRl, hRc, hRs⟩ := id C
  obtain ⟨hmk, hmi, hname⟩ := hM
  obtain ⟨-, -, hmh, hmz, hmx, hmp⟩ := id hmk
  have hMet := am_met hmk hv hJ hnt
  refine am_go (P := P) (rest := S.map (am_t g)) hr (va_runI (As := As.map (am_t g)) (b := g.1 + b) (Ts := lw_gw) (y := M'.1) (bytes := M'.2.1) (maxL := M'.2.2.1) (own := M.1.cls) ⟨hx, hb, hml, hown, hts⟩ hMet (cwI n hts (am_good (am_ws_in hmk)) (by rw [← hret]) rfl rfl (hts _ hmz) (hts _ hlk) (hts _ hmi) hname ⟨hmh.1, hmh.2, hmp⟩ ⟨?_, ?_⟩) ⟨am_blind, fun U hU hW => ⟨rfl, am_r_enter hr hU hW.alike⟩⟩ rfl (by simpa using hn) hl.1 (by simp [am_t]) (lv_room (by rw [am_cat_sum]; exact hS)) hd ⟨Nat.le_trans hk.1 hRc, Nat.le_trans hk.2 hRs⟩) ?_
  · show d + 1 ≤ _; omega
  · show 8 + (M'.2.2.1 + 11) + d * 41 ≤ _; omega
  · intro r h' H1 locs1 hp hr1
    rw [am_toList, ← List.map_append]
    exact kk r h' hp p e R s m args below meth c H1 locs1 ls Qm C hr1 hl f1 f2 f3
end AMK
end
section
theorem dX0_init_0 : decode cX0_init 0 = .ok (.aload_n 0, 1) := by decide +kernel
theorem dX0_init_1 : decode cX0_init 1 = .ok (.invokespecial 3, 3) := by decide +kernel
theorem dX0_init_4 : decode cX0_init 4 = .ok (.aload_n 0, 1) := by decide +kernel
theorem dX0_init_5 : decode cX0_init 5 = .ok (.new 9, 3) := by decide +kernel
theorem dX0_init_8 : decode cX0_init 8 = .ok (.dup, 1) := by decide +kernel
theorem dX0_init_9 : decode cX0_init 9 = .ok (.invokespecial 11, 3) := by decide +kernel
theorem dX0_init_12 : decode cX0_init 12 = .ok (.putfield 12, 3) := by decide +kernel
theorem dX0_init_15 : decode cX0_init 15 = .ok (.aload_n 0, 1) := by decide +kernel
theorem dX0_init_16 : decode cX0_init 16 = .ok (.sipush 300, 3) := by decide +kernel
theorem dX0_init_19 : decode cX0_init 19 = .ok (.newarray .boolean, 2) := by decide +kernel
theorem dX0_init_21 : decode cX0_init 21 = .ok (.putfield 18, 3) := by decide +kernel
theorem dX0_init_24 : decode cX0_init 24 = .ok (.aload_n 0, 1) := by decide +kernel
theorem dX0_init_25 : decode cX0_init 25 = .ok (.new 22, 3) := by decide +kernel
theorem dX0_init_28 : decode cX0_init 28 = .ok (.dup, 1) := by decide +kernel
theorem dX0_init_29 : decode cX0_init 29 = .ok (.sipush 300, 3) := by decide +kernel
theorem dX0_init_32 : decode cX0_init 32 = .ok (.invokespecial 24, 3) := by decide +kernel
theorem dX0_init_35 : decode cX0_init 35 = .ok (.putfield 27, 3) := by decide +kernel
theorem dX0_init_38 : decode cX0_init 38 = .ok (.aload_n 0, 1) := by decide +kernel
theorem dX0_init_39 : decode cX0_init 39 = .ok (.new 22, 3) := by decide +kernel
theorem dX0_init_42 : decode cX0_init 42 = .ok (.dup, 1) := by decide +kernel
theorem dX0_init_43 : decode cX0_init 43 = .ok (.sipush 300, 3) := by decide +kernel
theorem dX0_init_46 : decode cX0_init 46 = .ok (.invokespecial 24, 3) := by decide +kernel
theorem dX0_init_49 : decode cX0_init 49 = .ok (.putfield 31, 3) := by decide +kernel
theorem dX0_init_52 : decode cX0_init 52 = .ok (.return_, 1) := by decide +kernel
theorem dX0_layOut_0 : decode cX0_layOut 0 = .ok (.aload_n 0, 1) := by decide +kernel
theorem dX0_layOut_1 : decode cX0_layOut 1 = .ok (.getfield 12, 3) := by decide +kernel
theorem dX0_layOut_4 : decode cX0_layOut 4 = .ok (.aload_n 1, 1) := by decide +kernel
theorem dX0_layOut_5 : decode cX0_layOut 5 = .ok (.invokevirtual 34, 3) := by decide +kernel
theorem dX0_layOut_8 : decode cX0_layOut 8 = .ok (.aload_n 0, 1) := by decide +kernel
theorem dX0_layOut_9 : decode cX0_layOut 9 = .ok (.iload_n 2, 1) := by decide +kernel
theorem dX0_layOut_10 : decode cX0_layOut 10 = .ok (.putfield 38, 3) := by decide +kernel
theorem dX0_layOut_13 : decode cX0_layOut 13 = .ok (.aload_n 0, 1) := by decide +kernel
theorem dX0_layOut_14 : decode cX0_layOut 14 = .ok (.iload_n 3, 1) := by decide +kernel
theorem dX0_layOut_15 : decode cX0_layOut 15 = .ok (.putfield 42, 3) := by decide +kernel
theorem dX0_layOut_18 : decode cX0_layOut 18 = .ok (.aload_n 0, 1) := by decide +kernel
theorem dX0_layOut_19 : decode cX0_layOut 19 = .ok (.aload_n 0, 1) := by decide +kernel
theorem dX0_layOut_20 : decode cX0_layOut 20 = .ok (.getfield 38, 3) := by decide +kernel
theorem dX0_layOut_23 : decode cX0_layOut 23 = .ok (.aload_n 0, 1) := by decide +kernel
theorem dX0_layOut_24 : decode cX0_layOut 24 = .ok (.getfield 42, 3) := by decide +kernel
theorem dX0_layOut_27 : decode cX0_layOut 27 = .ok (.imul, 1) := by decide +kernel
theorem dX0_layOut_28 : decode cX0_layOut 28 = .ok (.aload_n 0, 1) := by decide +kernel
theorem dX0_layOut_29 : decode cX0_layOut 29 = .ok (.getfield 12, 3) := by decide +kernel
theorem dX0_layOut_32 : decode cX0_layOut 32 = .ok (.getfield 45, 3) := by decide +kernel
theorem dX0_layOut_35 : decode cX0_layOut 35 = .ok (.imul, 1) := by decide +kernel
theorem dX0_layOut_36 : decode cX0_layOut 36 = .ok (.putfield 48, 3) := by decide +kernel
theorem dX0_layOut_39 : decode cX0_layOut 39 = .ok (.aload_n 0, 1) := by decide +kernel
theorem dX0_layOut_40 : decode cX0_layOut 40 = .ok (.aload_n 0, 1) := by decide +kernel
theorem dX0_layOut_41 : decode cX0_layOut 41 = .ok (.getfield 48, 3) := by decide +kernel
theorem dX0_layOut_44 : decode cX0_layOut 44 = .ok (.putfield 51, 3) := by decide +kernel
theorem dX0_layOut_47 : decode cX0_layOut 47 = .ok (.aload_n 0, 1) := by decide +kernel
theorem dX0_layOut_48 : decode cX0_layOut 48 = .ok (.dup, 1) := by decide +kernel
theorem dX0_layOut_49 : decode cX0_layOut 49 = .ok (.getfield 54, 3) := by decide +kernel
theorem dX0_layOut_52 : decode cX0_layOut 52 = .ok (.iconst 1, 1) := by decide +kernel
theorem dX0_layOut_53 : decode cX0_layOut 53 = .ok (.iadd, 1) := by decide +kernel
theorem dX0_layOut_54 : decode cX0_layOut 54 = .ok (.putfield 54, 3) := by decide +kernel
theorem dX0_layOut_57 : decode cX0_layOut 57 = .ok (.aload_n 0, 1) := by decide +kernel
theorem dX0_layOut_58 : decode cX0_layOut 58 = .ok (.getfield 27, 3) := by decide +kernel
theorem dX0_layOut_61 : decode cX0_layOut 61 = .ok (.invokevirtual 57, 3) := by decide +kernel
theorem dX0_layOut_64 : decode cX0_layOut 64 = .ok (.aload_n 0, 1) := by decide +kernel
theorem dX0_layOut_65 : decode cX0_layOut 65 = .ok (.getfield 31, 3) := by decide +kernel
theorem dX0_layOut_68 : decode cX0_layOut 68 = .ok (.invokevirtual 57, 3) := by decide +kernel
theorem dX0_layOut_71 : decode cX0_layOut 71 = .ok (.iconst 0, 1) := by decide +kernel
theorem dX0_layOut_72 : decode cX0_layOut 72 = .ok (.istore 4, 2) := by decide +kernel
theorem dX0_layOut_74 : decode cX0_layOut 74 = .ok (.iload 4, 2) := by decide +kernel
theorem dX0_layOut_76 : decode cX0_layOut 76 = .ok (.sipush 300, 3) := by decide +kernel
theorem dX0_layOut_79 : decode cX0_layOut 79 = .ok (.if_icmp .ge 30, 3) := by decide +kernel
theorem dX0_layOut_82 : decode cX0_layOut 82 = .ok (.aload_n 0, 1) := by decide +kernel
theorem dX0_layOut_83 : decode cX0_layOut 83 = .ok (.getfield 18, 3) := by decide +kernel
theorem dX0_layOut_86 : decode cX0_layOut 86 = .ok (.iload 4, 2) := by decide +kernel
theorem dX0_layOut_88 : decode cX0_layOut 88 = .ok (.iload 4, 2) := by decide +kernel
theorem dX0_layOut_90 : decode cX0_layOut 90 = .ok (.aload_n 0, 1) := by decide +kernel
theorem dX0_layOut_91 : decode cX0_layOut 91 = .ok (.getfield 48, 3) := by decide +kernel
theorem dX0_layOut_94 : decode cX0_layOut 94 = .ok (.if_icmp .ge 7, 3) := by decide +kernel
theorem dX0_layOut_97 : decode cX0_layOut 97 = .ok (.iconst 1, 1) := by decide +kernel
theorem dX0_layOut_98 : decode cX0_layOut 98 = .ok (.goto 4, 3) := by decide +kernel
theorem dX0_layOut_101 : decode cX0_layOut 101 = .ok (.iconst 0, 1) := by decide +kernel
theorem dX0_layOut_102 : decode cX0_layOut 102 = .ok (.bastore, 1) := by decide +kernel
theorem dX0_layOut_103 : decode cX0_layOut 103 = .ok (.iinc 4 1, 3) := by decide +kernel
theorem dX0_layOut_106 : decode cX0_layOut 106 = .ok (.goto (-32), 3) := by decide +kernel
theorem dX0_layOut_109 : decode cX0_layOut 109 = .ok (.iconst 0, 1) := by decide +kernel
theorem dX0_layOut_110 : decode cX0_layOut 110 = .ok (.istore 4, 2) := by decide +kernel
theorem dX0_layOut_112 : decode cX0_layOut 112 = .ok (.iload 4, 2) := by decide +kernel
theorem dX0_layOut_114 : decode cX0_layOut 114 = .ok (.aload_n 0, 1) := by decide +kernel
theorem dX0_layOut_115 : decode cX0_layOut 115 = .ok (.getfield 48, 3) := by decide +kernel
theorem dX0_layOut_118 : decode cX0_layOut 118 = .ok (.if_icmp .ge 15, 3) := by decide +kernel
theorem dX0_layOut_121 : decode cX0_layOut 121 = .ok (.aload_n 0, 1) := by decide +kernel
theorem dX0_layOut_122 : decode cX0_layOut 122 = .ok (.iload 4, 2) := by decide +kernel
theorem dX0_layOut_124 : decode cX0_layOut 124 = .ok (.invokevirtual 60, 3) := by decide +kernel
theorem dX0_layOut_127 : decode cX0_layOut 127 = .ok (.iinc 4 1, 3) := by decide +kernel
theorem dX0_layOut_130 : decode cX0_layOut 130 = .ok (.goto (-18), 3) := by decide +kernel
theorem dX0_layOut_133 : decode cX0_layOut 133 = .ok (.return_, 1) := by decide +kernel
theorem dX0_ringOfCell_0 : decode cX0_ringOfCell 0 = .ok (.iload_n 1, 1) := by decide +kernel
theorem dX0_ringOfCell_1 : decode cX0_ringOfCell 1 = .ok (.ifCond .lt 27, 3) := by decide +kernel
theorem dX0_ringOfCell_4 : decode cX0_ringOfCell 4 = .ok (.iload_n 1, 1) := by decide +kernel
theorem dX0_ringOfCell_5 : decode cX0_ringOfCell 5 = .ok (.aload_n 0, 1) := by decide +kernel
theorem dX0_ringOfCell_6 : decode cX0_ringOfCell 6 = .ok (.getfield 38, 3) := by decide +kernel
theorem dX0_ringOfCell_9 : decode cX0_ringOfCell 9 = .ok (.if_icmp .ge 19, 3) := by decide +kernel
theorem dX0_ringOfCell_12 : decode cX0_ringOfCell 12 = .ok (.iload_n 2, 1) := by decide +kernel
theorem dX0_ringOfCell_13 : decode cX0_ringOfCell 13 = .ok (.ifCond .lt 15, 3) := by decide +kernel
theorem dX0_ringOfCell_16 : decode cX0_ringOfCell 16 = .ok (.iload_n 2, 1) := by decide +kernel
theorem dX0_ringOfCell_17 : decode cX0_ringOfCell 17 = .ok (.aload_n 0, 1) := by decide +kernel
theorem dX0_ringOfCell_18 : decode cX0_ringOfCell 18 = .ok (.getfield 42, 3) := by decide +kernel
theorem dX0_ringOfCell_21 : decode cX0_ringOfCell 21 = .ok (.if_icmp .ge 7, 3) := by decide +kernel
theorem dX0_ringOfCell_24 : decode cX0_ringOfCell 24 = .ok (.iconst 1, 1) := by decide +kernel
theorem dX0_ringOfCell_25 : decode cX0_ringOfCell 25 = .ok (.goto 4, 3) := by decide +kernel
theorem dX0_ringOfCell_28 : decode cX0_ringOfCell 28 = .ok (.iconst 0, 1) := by decide +kernel
theorem dX0_ringOfCell_29 : decode cX0_ringOfCell 29 = .ok (.istore 4, 2) := by decide +kernel
theorem dX0_ringOfCell_31 : decode cX0_ringOfCell 31 = .ok (.iload 4, 2) := by decide +kernel
theorem dX0_ringOfCell_33 : decode cX0_ringOfCell 33 = .ok (.ifCond .eq 18, 3) := by decide +kernel
theorem dX0_ringOfCell_36 : decode cX0_ringOfCell 36 = .ok (.iload_n 3, 1) := by decide +kernel
theorem dX0_ringOfCell_37 : decode cX0_ringOfCell 37 = .ok (.ifCond .lt 14, 3) := by decide +kernel
theorem dX0_ringOfCell_40 : decode cX0_ringOfCell 40 = .ok (.iload_n 3, 1) := by decide +kernel
theorem dX0_ringOfCell_41 : decode cX0_ringOfCell 41 = .ok (.aload_n 0, 1) := by decide +kernel
theorem dX0_ringOfCell_42 : decode cX0_ringOfCell 42 = .ok (.getfield 12, 3) := by decide +kernel
theorem dX0_ringOfCell_45 : decode cX0_ringOfCell 45 = .ok (.getfield 45, 3) := by decide +kernel
theorem dX0_ringOfCell_48 : decode cX0_ringOfCell 48 = .ok (.if_icmp .lt 5, 3) := by decide +kernel
theorem dX0_ringOfCell_51 : decode cX0_ringOfCell 51 = .ok (.iconst (-1), 1) := by decide +kernel
theorem dX0_ringOfCell_52 : decode cX0_ringOfCell 52 = .ok (.ireturn, 1) := by decide +kernel
theorem dX0_ringOfCell_53 : decode cX0_ringOfCell 53 = .ok (.iload_n 2, 1) := by decide +kernel
theorem dX0_ringOfCell_54 : decode cX0_ringOfCell 54 = .ok (.aload_n 0, 1) := by decide +kernel
theorem dX0_ringOfCell_55 : decode cX0_ringOfCell 55 = .ok (.getfield 38, 3) := by decide +kernel
theorem dX0_ringOfCell_58 : decode cX0_ringOfCell 58 = .ok (.imul, 1) := by decide +kernel
theorem dX0_ringOfCell_59 : decode cX0_ringOfCell 59 = .ok (.iload_n 1, 1) := by decide +kernel
theorem dX0_ringOfCell_60 : decode cX0_ringOfCell 60 = .ok (.iadd, 1) := by decide +kernel
theorem dX0_ringOfCell_61 : decode cX0_ringOfCell 61 = .ok (.aload_n 0, 1) := by decide +kernel
theorem dX0_ringOfCell_62 : decode cX0_ringOfCell 62 = .ok (.getfield 12, 3) := by decide +kernel
theorem dX0_ringOfCell_65 : decode cX0_ringOfCell 65 = .ok (.getfield 45, 3) := by decide +kernel
theorem dX0_ringOfCell_68 : decode cX0_ringOfCell 68 = .ok (.imul, 1) := by decide +kernel
theorem dX0_ringOfCell_69 : decode cX0_ringOfCell 69 = .ok (.iload_n 3, 1) := by decide +kernel
theorem dX0_ringOfCell_70 : decode cX0_ringOfCell 70 = .ok (.iadd, 1) := by decide +kernel
theorem dX0_ringOfCell_71 : decode cX0_ringOfCell 71 = .ok (.ireturn, 1) := by decide +kernel
theorem dX0_isNumbered_0 : decode cX0_isNumbered 0 = .ok (.iload_n 1, 1) := by decide +kernel
theorem dX0_isNumbered_1 : decode cX0_isNumbered 1 = .ok (.ifCond .lt 15, 3) := by decide +kernel
theorem dX0_isNumbered_4 : decode cX0_isNumbered 4 = .ok (.iload_n 1, 1) := by decide +kernel
theorem dX0_isNumbered_5 : decode cX0_isNumbered 5 = .ok (.aload_n 0, 1) := by decide +kernel
theorem dX0_isNumbered_6 : decode cX0_isNumbered 6 = .ok (.getfield 51, 3) := by decide +kernel
theorem dX0_isNumbered_9 : decode cX0_isNumbered 9 = .ok (.if_icmp .ge 7, 3) := by decide +kernel
theorem dX0_isNumbered_12 : decode cX0_isNumbered 12 = .ok (.iconst 1, 1) := by decide +kernel
theorem dX0_isNumbered_13 : decode cX0_isNumbered 13 = .ok (.goto 4, 3) := by decide +kernel
theorem dX0_isNumbered_16 : decode cX0_isNumbered 16 = .ok (.iconst 0, 1) := by decide +kernel
theorem dX0_isNumbered_17 : decode cX0_isNumbered 17 = .ok (.ireturn, 1) := by decide +kernel
theorem dX0_isThere_0 : decode cX0_isThere 0 = .ok (.aload_n 0, 1) := by decide +kernel
theorem dX0_isThere_1 : decode cX0_isThere 1 = .ok (.iload_n 1, 1) := by decide +kernel
theorem dX0_isThere_2 : decode cX0_isThere 2 = .ok (.invokevirtual 63, 3) := by decide +kernel
theorem dX0_isThere_5 : decode cX0_isThere 5 = .ok (.ifCond .eq 16, 3) := by decide +kernel
theorem dX0_isThere_8 : decode cX0_isThere 8 = .ok (.aload_n 0, 1) := by decide +kernel
theorem dX0_isThere_9 : decode cX0_isThere 9 = .ok (.getfield 18, 3) := by decide +kernel
theorem dX0_isThere_12 : decode cX0_isThere 12 = .ok (.iload_n 1, 1) := by decide +kernel
theorem dX0_isThere_13 : decode cX0_isThere 13 = .ok (.baload, 1) := by decide +kernel
theorem dX0_isThere_14 : decode cX0_isThere 14 = .ok (.ifCond .eq 7, 3) := by decide +kernel
theorem dX0_isThere_17 : decode cX0_isThere 17 = .ok (.iconst 1, 1) := by decide +kernel
theorem dX0_isThere_18 : decode cX0_isThere 18 = .ok (.goto 4, 3) := by decide +kernel
theorem dX0_isThere_21 : decode cX0_isThere 21 = .ok (.iconst 0, 1) := by decide +kernel
theorem dX0_isThere_22 : decode cX0_isThere 22 = .ok (.ireturn, 1) := by decide +kernel
theorem dX0_putIn_0 : decode cX0_putIn 0 = .ok (.aload_n 0, 1) := by decide +kernel
theorem dX0_putIn_1 : decode cX0_putIn 1 = .ok (.getfield 51, 3) := by decide +kernel
theorem dX0_putIn_4 : decode cX0_putIn 4 = .ok (.sipush 300, 3) := by decide +kernel
theorem dX0_putIn_7 : decode cX0_putIn 7 = .ok (.if_icmp .lt 5, 3) := by decide +kernel
theorem dX0_putIn_10 : decode cX0_putIn 10 = .ok (.iconst (-1), 1) := by decide +kernel
theorem dX0_putIn_11 : decode cX0_putIn 11 = .ok (.ireturn, 1) := by decide +kernel
theorem dX0_putIn_12 : decode cX0_putIn 12 = .ok (.aload_n 0, 1) := by decide +kernel
theorem dX0_putIn_13 : decode cX0_putIn 13 = .ok (.getfield 51, 3) := by decide +kernel
theorem dX0_putIn_16 : decode cX0_putIn 16 = .ok (.istore_n 1, 1) := by decide +kernel
theorem dX0_putIn_17 : decode cX0_putIn 17 = .ok (.aload_n 0, 1) := by decide +kernel
theorem dX0_putIn_18 : decode cX0_putIn 18 = .ok (.getfield 18, 3) := by decide +kernel
theorem dX0_putIn_21 : decode cX0_putIn 21 = .ok (.iload_n 1, 1) := by decide +kernel
theorem dX0_putIn_22 : decode cX0_putIn 22 = .ok (.iconst 1, 1) := by decide +kernel
theorem dX0_putIn_23 : decode cX0_putIn 23 = .ok (.bastore, 1) := by decide +kernel
theorem dX0_putIn_24 : decode cX0_putIn 24 = .ok (.aload_n 0, 1) := by decide +kernel
theorem dX0_putIn_25 : decode cX0_putIn 25 = .ok (.dup, 1) := by decide +kernel
theorem dX0_putIn_26 : decode cX0_putIn 26 = .ok (.getfield 51, 3) := by decide +kernel
theorem dX0_putIn_29 : decode cX0_putIn 29 = .ok (.iconst 1, 1) := by decide +kernel
theorem dX0_putIn_30 : decode cX0_putIn 30 = .ok (.iadd, 1) := by decide +kernel
theorem dX0_putIn_31 : decode cX0_putIn 31 = .ok (.putfield 51, 3) := by decide +kernel
theorem dX0_putIn_34 : decode cX0_putIn 34 = .ok (.aload_n 0, 1) := by decide +kernel
theorem dX0_putIn_35 : decode cX0_putIn 35 = .ok (.dup, 1) := by decide +kernel
theorem dX0_putIn_36 : decode cX0_putIn 36 = .ok (.getfield 54, 3) := by decide +kernel
theorem dX0_putIn_39 : decode cX0_putIn 39 = .ok (.iconst 1, 1) := by decide +kernel
theorem dX0_putIn_40 : decode cX0_putIn 40 = .ok (.iadd, 1) := by decide +kernel
theorem dX0_putIn_41 : decode cX0_putIn 41 = .ok (.putfield 54, 3) := by decide +kernel
theorem dX0_putIn_44 : decode cX0_putIn 44 = .ok (.iload_n 1, 1) := by decide +kernel
theorem dX0_putIn_45 : decode cX0_putIn 45 = .ok (.ireturn, 1) := by decide +kernel
theorem dX0_takeAway_0 : decode cX0_takeAway 0 = .ok (.aload_n 0, 1) := by decide +kernel
theorem dX0_takeAway_1 : decode cX0_takeAway 1 = .ok (.iload_n 1, 1) := by decide +kernel
theorem dX0_takeAway_2 : decode cX0_takeAway 2 = .ok (.invokevirtual 67, 3) := by decide +kernel
theorem dX0_takeAway_5 : decode cX0_takeAway 5 = .ok (.istore_n 2, 1) := by decide +kernel
theorem dX0_takeAway_6 : decode cX0_takeAway 6 = .ok (.aload_n 0, 1) := by decide +kernel
theorem dX0_takeAway_7 : decode cX0_takeAway 7 = .ok (.getfield 31, 3) := by decide +kernel
theorem dX0_takeAway_10 : decode cX0_takeAway 10 = .ok (.iload_n 1, 1) := by decide +kernel
theorem dX0_takeAway_11 : decode cX0_takeAway 11 = .ok (.iconst 0, 1) := by decide +kernel
theorem dX0_takeAway_12 : decode cX0_takeAway 12 = .ok (.invokevirtual 71, 3) := by decide +kernel
theorem dX0_takeAway_15 : decode cX0_takeAway 15 = .ok (.istore_n 3, 1) := by decide +kernel
theorem dX0_takeAway_16 : decode cX0_takeAway 16 = .ok (.iconst 0, 1) := by decide +kernel
theorem dX0_takeAway_17 : decode cX0_takeAway 17 = .ok (.istore 4, 2) := by decide +kernel
theorem dX0_takeAway_19 : decode cX0_takeAway 19 = .ok (.iload 4, 2) := by decide +kernel
theorem dX0_takeAway_21 : decode cX0_takeAway 21 = .ok (.sipush 300, 3) := by decide +kernel
theorem dX0_takeAway_24 : decode cX0_takeAway 24 = .ok (.if_icmp .ge 32, 3) := by decide +kernel
theorem dX0_takeAway_27 : decode cX0_takeAway 27 = .ok (.iload_n 3, 1) := by decide +kernel
theorem dX0_takeAway_28 : decode cX0_takeAway 28 = .ok (.iconst (-1), 1) := by decide +kernel
theorem dX0_takeAway_29 : decode cX0_takeAway 29 = .ok (.if_icmp .eq 27, 3) := by decide +kernel
theorem dX0_takeAway_32 : decode cX0_takeAway 32 = .ok (.aload_n 0, 1) := by decide +kernel
theorem dX0_takeAway_33 : decode cX0_takeAway 33 = .ok (.iload_n 1, 1) := by decide +kernel
theorem dX0_takeAway_34 : decode cX0_takeAway 34 = .ok (.iload_n 3, 1) := by decide +kernel
theorem dX0_takeAway_35 : decode cX0_takeAway 35 = .ok (.invokevirtual 75, 3) := by decide +kernel
theorem dX0_takeAway_38 : decode cX0_takeAway 38 = .ok (.aload_n 0, 1) := by decide +kernel
theorem dX0_takeAway_39 : decode cX0_takeAway 39 = .ok (.getfield 31, 3) := by decide +kernel
theorem dX0_takeAway_42 : decode cX0_takeAway 42 = .ok (.iload_n 1, 1) := by decide +kernel
theorem dX0_takeAway_43 : decode cX0_takeAway 43 = .ok (.iload_n 3, 1) := by decide +kernel
theorem dX0_takeAway_44 : decode cX0_takeAway 44 = .ok (.iconst 1, 1) := by decide +kernel
theorem dX0_takeAway_45 : decode cX0_takeAway 45 = .ok (.iadd, 1) := by decide +kernel
theorem dX0_takeAway_46 : decode cX0_takeAway 46 = .ok (.invokevirtual 71, 3) := by decide +kernel
theorem dX0_takeAway_49 : decode cX0_takeAway 49 = .ok (.istore_n 3, 1) := by decide +kernel
theorem dX0_takeAway_50 : decode cX0_takeAway 50 = .ok (.iinc 4 1, 3) := by decide +kernel
theorem dX0_takeAway_53 : decode cX0_takeAway 53 = .ok (.goto (-34), 3) := by decide +kernel
theorem dX0_takeAway_56 : decode cX0_takeAway 56 = .ok (.aload_n 0, 1) := by decide +kernel
theorem dX0_takeAway_57 : decode cX0_takeAway 57 = .ok (.getfield 18, 3) := by decide +kernel
theorem dX0_takeAway_60 : decode cX0_takeAway 60 = .ok (.iload_n 1, 1) := by decide +kernel
theorem dX0_takeAway_61 : decode cX0_takeAway 61 = .ok (.iconst 0, 1) := by decide +kernel
theorem dX0_takeAway_62 : decode cX0_takeAway 62 = .ok (.bastore, 1) := by decide +kernel
theorem dX0_takeAway_63 : decode cX0_takeAway 63 = .ok (.aload_n 0, 1) := by decide +kernel
theorem dX0_takeAway_64 : decode cX0_takeAway 64 = .ok (.dup, 1) := by decide +kernel
theorem dX0_takeAway_65 : decode cX0_takeAway 65 = .ok (.getfield 54, 3) := by decide +kernel
theorem dX0_takeAway_68 : decode cX0_takeAway 68 = .ok (.iconst 1, 1) := by decide +kernel
theorem dX0_takeAway_69 : decode cX0_takeAway 69 = .ok (.iadd, 1) := by decide +kernel
theorem dX0_takeAway_70 : decode cX0_takeAway 70 = .ok (.putfield 54, 3) := by decide +kernel
theorem dX0_takeAway_73 : decode cX0_takeAway 73 = .ok (.iload_n 2, 1) := by decide +kernel
theorem dX0_takeAway_74 : decode cX0_takeAway 74 = .ok (.ireturn, 1) := by decide +kernel
theorem dX0_areLinked_0 : decode cX0_areLinked 0 = .ok (.aload_n 0, 1) := by decide +kernel
theorem dX0_areLinked_1 : decode cX0_areLinked 1 = .ok (.getfield 31, 3) := by decide +kernel
theorem dX0_areLinked_4 : decode cX0_areLinked 4 = .ok (.iload_n 1, 1) := by decide +kernel
theorem dX0_areLinked_5 : decode cX0_areLinked 5 = .ok (.iload_n 2, 1) := by decide +kernel
theorem dX0_areLinked_6 : decode cX0_areLinked 6 = .ok (.invokevirtual 79, 3) := by decide +kernel
theorem dX0_areLinked_9 : decode cX0_areLinked 9 = .ok (.ireturn, 1) := by decide +kernel
theorem dX0_goesOver_0 : decode cX0_goesOver 0 = .ok (.aload_n 0, 1) := by decide +kernel
theorem dX0_goesOver_1 : decode cX0_goesOver 1 = .ok (.getfield 27, 3) := by decide +kernel
theorem dX0_goesOver_4 : decode cX0_goesOver 4 = .ok (.iload_n 1, 1) := by decide +kernel
theorem dX0_goesOver_5 : decode cX0_goesOver 5 = .ok (.iload_n 2, 1) := by decide +kernel
theorem dX0_goesOver_6 : decode cX0_goesOver 6 = .ok (.invokevirtual 79, 3) := by decide +kernel
theorem dX0_goesOver_9 : decode cX0_goesOver 9 = .ok (.ireturn, 1) := by decide +kernel
theorem dX0_join_0 : decode cX0_join 0 = .ok (.aload_n 0, 1) := by decide +kernel
theorem dX0_join_1 : decode cX0_join 1 = .ok (.getfield 31, 3) := by decide +kernel
theorem dX0_join_4 : decode cX0_join 4 = .ok (.iload_n 1, 1) := by decide +kernel
theorem dX0_join_5 : decode cX0_join 5 = .ok (.iload_n 2, 1) := by decide +kernel
theorem dX0_join_6 : decode cX0_join 6 = .ok (.invokevirtual 83, 3) := by decide +kernel
theorem dX0_join_9 : decode cX0_join 9 = .ok (.aload_n 0, 1) := by decide +kernel
theorem dX0_join_10 : decode cX0_join 10 = .ok (.getfield 31, 3) := by decide +kernel
theorem dX0_join_13 : decode cX0_join 13 = .ok (.iload_n 2, 1) := by decide +kernel
theorem dX0_join_14 : decode cX0_join 14 = .ok (.iload_n 1, 1) := by decide +kernel
theorem dX0_join_15 : decode cX0_join 15 = .ok (.invokevirtual 83, 3) := by decide +kernel
theorem dX0_join_18 : decode cX0_join 18 = .ok (.aload_n 0, 1) := by decide +kernel
theorem dX0_join_19 : decode cX0_join 19 = .ok (.getfield 27, 3) := by decide +kernel
theorem dX0_join_22 : decode cX0_join 22 = .ok (.iload_n 1, 1) := by decide +kernel
theorem dX0_join_23 : decode cX0_join 23 = .ok (.iload_n 2, 1) := by decide +kernel
theorem dX0_join_24 : decode cX0_join 24 = .ok (.invokevirtual 83, 3) := by decide +kernel
theorem dX0_join_27 : decode cX0_join 27 = .ok (.aload_n 0, 1) := by decide +kernel
theorem dX0_join_28 : decode cX0_join 28 = .ok (.dup, 1) := by decide +kernel
theorem dX0_join_29 : decode cX0_join 29 = .ok (.getfield 54, 3) := by decide +kernel
theorem dX0_join_32 : decode cX0_join 32 = .ok (.iconst 1, 1) := by decide +kernel
theorem dX0_join_33 : decode cX0_join 33 = .ok (.iadd, 1) := by decide +kernel
theorem dX0_join_34 : decode cX0_join 34 = .ok (.putfield 54, 3) := by decide +kernel
theorem dX0_join_37 : decode cX0_join 37 = .ok (.return_, 1) := by decide +kernel
theorem dX0_part_0 : decode cX0_part 0 = .ok (.aload_n 0, 1) := by decide +kernel
theorem dX0_part_1 : decode cX0_part 1 = .ok (.getfield 31, 3) := by decide +kernel
theorem dX0_part_4 : decode cX0_part 4 = .ok (.iload_n 1, 1) := by decide +kernel
theorem dX0_part_5 : decode cX0_part 5 = .ok (.iload_n 2, 1) := by decide +kernel
theorem dX0_part_6 : decode cX0_part 6 = .ok (.invokevirtual 86, 3) := by decide +kernel
theorem dX0_part_9 : decode cX0_part 9 = .ok (.aload_n 0, 1) := by decide +kernel
theorem dX0_part_10 : decode cX0_part 10 = .ok (.getfield 31, 3) := by decide +kernel
theorem dX0_part_13 : decode cX0_part 13 = .ok (.iload_n 2, 1) := by decide +kernel
theorem dX0_part_14 : decode cX0_part 14 = .ok (.iload_n 1, 1) := by decide +kernel
theorem dX0_part_15 : decode cX0_part 15 = .ok (.invokevirtual 86, 3) := by decide +kernel
theorem dX0_part_18 : decode cX0_part 18 = .ok (.aload_n 0, 1) := by decide +kernel
theorem dX0_part_19 : decode cX0_part 19 = .ok (.getfield 27, 3) := by decide +kernel
theorem dX0_part_22 : decode cX0_part 22 = .ok (.iload_n 1, 1) := by decide +kernel
theorem dX0_part_23 : decode cX0_part 23 = .ok (.iload_n 2, 1) := by decide +kernel
theorem dX0_part_24 : decode cX0_part 24 = .ok (.invokevirtual 86, 3) := by decide +kernel
theorem dX0_part_27 : decode cX0_part 27 = .ok (.aload_n 0, 1) := by decide +kernel
theorem dX0_part_28 : decode cX0_part 28 = .ok (.getfield 27, 3) := by decide +kernel
theorem dX0_part_31 : decode cX0_part 31 = .ok (.iload_n 2, 1) := by decide +kernel
theorem dX0_part_32 : decode cX0_part 32 = .ok (.iload_n 1, 1) := by decide +kernel
theorem dX0_part_33 : decode cX0_part 33 = .ok (.invokevirtual 86, 3) := by decide +kernel
theorem dX0_part_36 : decode cX0_part 36 = .ok (.aload_n 0, 1) := by decide +kernel
theorem dX0_part_37 : decode cX0_part 37 = .ok (.dup, 1) := by decide +kernel
theorem dX0_part_38 : decode cX0_part 38 = .ok (.getfield 54, 3) := by decide +kernel
theorem dX0_part_41 : decode cX0_part 41 = .ok (.iconst 1, 1) := by decide +kernel
theorem dX0_part_42 : decode cX0_part 42 = .ok (.iadd, 1) := by decide +kernel
theorem dX0_part_43 : decode cX0_part 43 = .ok (.putfield 54, 3) := by decide +kernel
theorem dX0_part_46 : decode cX0_part 46 = .ok (.return_, 1) := by decide +kernel
theorem dX0_mendWorn_0 : decode cX0_mendWorn 0 = .ok (.iconst 0, 1) := by decide +kernel
theorem dX0_mendWorn_1 : decode cX0_mendWorn 1 = .ok (.istore_n 1, 1) := by decide +kernel
theorem dX0_mendWorn_2 : decode cX0_mendWorn 2 = .ok (.iconst 0, 1) := by decide +kernel
theorem dX0_mendWorn_3 : decode cX0_mendWorn 3 = .ok (.istore_n 2, 1) := by decide +kernel
theorem dX0_mendWorn_4 : decode cX0_mendWorn 4 = .ok (.iload_n 2, 1) := by decide +kernel
theorem dX0_mendWorn_5 : decode cX0_mendWorn 5 = .ok (.aload_n 0, 1) := by decide +kernel
theorem dX0_mendWorn_6 : decode cX0_mendWorn 6 = .ok (.getfield 48, 3) := by decide +kernel
theorem dX0_mendWorn_9 : decode cX0_mendWorn 9 = .ok (.if_icmp .ge 43, 3) := by decide +kernel
theorem dX0_mendWorn_12 : decode cX0_mendWorn 12 = .ok (.aload_n 0, 1) := by decide +kernel
theorem dX0_mendWorn_13 : decode cX0_mendWorn 13 = .ok (.getfield 18, 3) := by decide +kernel
theorem dX0_mendWorn_16 : decode cX0_mendWorn 16 = .ok (.iload_n 2, 1) := by decide +kernel
theorem dX0_mendWorn_17 : decode cX0_mendWorn 17 = .ok (.baload, 1) := by decide +kernel
theorem dX0_mendWorn_18 : decode cX0_mendWorn 18 = .ok (.ifCond .ne 28, 3) := by decide +kernel
theorem dX0_mendWorn_21 : decode cX0_mendWorn 21 = .ok (.aload_n 0, 1) := by decide +kernel
theorem dX0_mendWorn_22 : decode cX0_mendWorn 22 = .ok (.getfield 18, 3) := by decide +kernel
theorem dX0_mendWorn_25 : decode cX0_mendWorn 25 = .ok (.iload_n 2, 1) := by decide +kernel
theorem dX0_mendWorn_26 : decode cX0_mendWorn 26 = .ok (.iconst 1, 1) := by decide +kernel
theorem dX0_mendWorn_27 : decode cX0_mendWorn 27 = .ok (.bastore, 1) := by decide +kernel
theorem dX0_mendWorn_28 : decode cX0_mendWorn 28 = .ok (.aload_n 0, 1) := by decide +kernel
theorem dX0_mendWorn_29 : decode cX0_mendWorn 29 = .ok (.iload_n 2, 1) := by decide +kernel
theorem dX0_mendWorn_30 : decode cX0_mendWorn 30 = .ok (.invokevirtual 60, 3) := by decide +kernel
theorem dX0_mendWorn_33 : decode cX0_mendWorn 33 = .ok (.iinc 1 1, 3) := by decide +kernel
theorem dX0_mendWorn_36 : decode cX0_mendWorn 36 = .ok (.aload_n 0, 1) := by decide +kernel
theorem dX0_mendWorn_37 : decode cX0_mendWorn 37 = .ok (.dup, 1) := by decide +kernel
theorem dX0_mendWorn_38 : decode cX0_mendWorn 38 = .ok (.getfield 54, 3) := by decide +kernel
theorem dX0_mendWorn_41 : decode cX0_mendWorn 41 = .ok (.iconst 1, 1) := by decide +kernel
theorem dX0_mendWorn_42 : decode cX0_mendWorn 42 = .ok (.iadd, 1) := by decide +kernel
theorem dX0_mendWorn_43 : decode cX0_mendWorn 43 = .ok (.putfield 54, 3) := by decide +kernel
theorem dX0_mendWorn_46 : decode cX0_mendWorn 46 = .ok (.iinc 2 1, 3) := by decide +kernel
theorem dX0_mendWorn_49 : decode cX0_mendWorn 49 = .ok (.goto (-45), 3) := by decide +kernel
theorem dX0_mendWorn_52 : decode cX0_mendWorn 52 = .ok (.iload_n 1, 1) := by decide +kernel
theorem dX0_mendWorn_53 : decode cX0_mendWorn 53 = .ok (.ireturn, 1) := by decide +kernel
theorem dX0_linksOf_0 : decode cX0_linksOf 0 = .ok (.aload_n 0, 1) := by decide +kernel
theorem dX0_linksOf_1 : decode cX0_linksOf 1 = .ok (.getfield 31, 3) := by decide +kernel
theorem dX0_linksOf_4 : decode cX0_linksOf 4 = .ok (.iload_n 1, 1) := by decide +kernel
theorem dX0_linksOf_5 : decode cX0_linksOf 5 = .ok (.invokevirtual 89, 3) := by decide +kernel
theorem dX0_linksOf_8 : decode cX0_linksOf 8 = .ok (.ireturn, 1) := by decide +kernel
theorem dX0_linkedAtPlace_0 : decode cX0_linkedAtPlace 0 = .ok (.aload_n 0, 1) := by decide +kernel
theorem dX0_linkedAtPlace_1 : decode cX0_linkedAtPlace 1 = .ok (.getfield 31, 3) := by decide +kernel
theorem dX0_linkedAtPlace_4 : decode cX0_linkedAtPlace 4 = .ok (.iload_n 1, 1) := by decide +kernel
theorem dX0_linkedAtPlace_5 : decode cX0_linkedAtPlace 5 = .ok (.iconst 0, 1) := by decide +kernel
theorem dX0_linkedAtPlace_6 : decode cX0_linkedAtPlace 6 = .ok (.invokevirtual 71, 3) := by decide +kernel
theorem dX0_linkedAtPlace_9 : decode cX0_linkedAtPlace 9 = .ok (.istore_n 3, 1) := by decide +kernel
theorem dX0_linkedAtPlace_10 : decode cX0_linkedAtPlace 10 = .ok (.iconst 0, 1) := by decide +kernel
theorem dX0_linkedAtPlace_11 : decode cX0_linkedAtPlace 11 = .ok (.istore 4, 2) := by decide +kernel
theorem dX0_linkedAtPlace_13 : decode cX0_linkedAtPlace 13 = .ok (.iload 4, 2) := by decide +kernel
theorem dX0_linkedAtPlace_15 : decode cX0_linkedAtPlace 15 = .ok (.iload_n 2, 1) := by decide +kernel
theorem dX0_linkedAtPlace_16 : decode cX0_linkedAtPlace 16 = .ok (.if_icmp .ge 26, 3) := by decide +kernel
theorem dX0_linkedAtPlace_19 : decode cX0_linkedAtPlace 19 = .ok (.iload_n 3, 1) := by decide +kernel
theorem dX0_linkedAtPlace_20 : decode cX0_linkedAtPlace 20 = .ok (.iconst (-1), 1) := by decide +kernel
theorem dX0_linkedAtPlace_21 : decode cX0_linkedAtPlace 21 = .ok (.if_icmp .eq 21, 3) := by decide +kernel
theorem dX0_linkedAtPlace_24 : decode cX0_linkedAtPlace 24 = .ok (.aload_n 0, 1) := by decide +kernel
theorem dX0_linkedAtPlace_25 : decode cX0_linkedAtPlace 25 = .ok (.getfield 31, 3) := by decide +kernel
theorem dX0_linkedAtPlace_28 : decode cX0_linkedAtPlace 28 = .ok (.iload_n 1, 1) := by decide +kernel
theorem dX0_linkedAtPlace_29 : decode cX0_linkedAtPlace 29 = .ok (.iload_n 3, 1) := by decide +kernel
theorem dX0_linkedAtPlace_30 : decode cX0_linkedAtPlace 30 = .ok (.iconst 1, 1) := by decide +kernel
theorem dX0_linkedAtPlace_31 : decode cX0_linkedAtPlace 31 = .ok (.iadd, 1) := by decide +kernel
theorem dX0_linkedAtPlace_32 : decode cX0_linkedAtPlace 32 = .ok (.invokevirtual 71, 3) := by decide +kernel
theorem dX0_linkedAtPlace_35 : decode cX0_linkedAtPlace 35 = .ok (.istore_n 3, 1) := by decide +kernel
theorem dX0_linkedAtPlace_36 : decode cX0_linkedAtPlace 36 = .ok (.iinc 4 1, 3) := by decide +kernel
theorem dX0_linkedAtPlace_39 : decode cX0_linkedAtPlace 39 = .ok (.goto (-26), 3) := by decide +kernel
theorem dX0_linkedAtPlace_42 : decode cX0_linkedAtPlace 42 = .ok (.iload_n 2, 1) := by decide +kernel
theorem dX0_linkedAtPlace_43 : decode cX0_linkedAtPlace 43 = .ok (.ifCond .ge 7, 3) := by decide +kernel
theorem dX0_linkedAtPlace_46 : decode cX0_linkedAtPlace 46 = .ok (.iconst (-1), 1) := by decide +kernel
theorem dX0_linkedAtPlace_47 : decode cX0_linkedAtPlace 47 = .ok (.goto 4, 3) := by decide +kernel
theorem dX0_linkedAtPlace_50 : decode cX0_linkedAtPlace 50 = .ok (.iload_n 3, 1) := by decide +kernel
theorem dX0_linkedAtPlace_51 : decode cX0_linkedAtPlace 51 = .ok (.ireturn, 1) := by decide +kernel
theorem dX0_isFull_0 : decode cX0_isFull 0 = .ok (.aload_n 0, 1) := by decide +kernel
theorem dX0_isFull_1 : decode cX0_isFull 1 = .ok (.iload_n 1, 1) := by decide +kernel
theorem dX0_isFull_2 : decode cX0_isFull 2 = .ok (.invokevirtual 92, 3) := by decide +kernel
theorem dX0_isFull_5 : decode cX0_isFull 5 = .ok (.ifCond .eq 11, 3) := by decide +kernel
theorem dX0_isFull_8 : decode cX0_isFull 8 = .ok (.iload_n 1, 1) := by decide +kernel
theorem dX0_isFull_9 : decode cX0_isFull 9 = .ok (.aload_n 0, 1) := by decide +kernel
theorem dX0_isFull_10 : decode cX0_isFull 10 = .ok (.getfield 48, 3) := by decide +kernel
theorem dX0_isFull_13 : decode cX0_isFull 13 = .ok (.if_icmp .lt 5, 3) := by decide +kernel
theorem dX0_isFull_16 : decode cX0_isFull 16 = .ok (.iconst 0, 1) := by decide +kernel
theorem dX0_isFull_17 : decode cX0_isFull 17 = .ok (.ireturn, 1) := by decide +kernel
theorem dX0_isFull_18 : decode cX0_isFull 18 = .ok (.iconst 0, 1) := by decide +kernel
theorem dX0_isFull_19 : decode cX0_isFull 19 = .ok (.istore_n 2, 1) := by decide +kernel
theorem dX0_isFull_20 : decode cX0_isFull 20 = .ok (.iload_n 2, 1) := by decide +kernel
theorem dX0_isFull_21 : decode cX0_isFull 21 = .ok (.aload_n 0, 1) := by decide +kernel
theorem dX0_isFull_22 : decode cX0_isFull 22 = .ok (.getfield 12, 3) := by decide +kernel
theorem dX0_isFull_25 : decode cX0_isFull 25 = .ok (.getfield 95, 3) := by decide +kernel
theorem dX0_isFull_28 : decode cX0_isFull 28 = .ok (.if_icmp .ge 31, 3) := by decide +kernel
theorem dX0_isFull_31 : decode cX0_isFull 31 = .ok (.aload_n 0, 1) := by decide +kernel
theorem dX0_isFull_32 : decode cX0_isFull 32 = .ok (.iload_n 1, 1) := by decide +kernel
theorem dX0_isFull_33 : decode cX0_isFull 33 = .ok (.iload_n 2, 1) := by decide +kernel
theorem dX0_isFull_34 : decode cX0_isFull 34 = .ok (.iconst 1, 1) := by decide +kernel
theorem dX0_isFull_35 : decode cX0_isFull 35 = .ok (.invokevirtual 98, 3) := by decide +kernel
theorem dX0_isFull_38 : decode cX0_isFull 38 = .ok (.ifCond .eq 13, 3) := by decide +kernel
theorem dX0_isFull_41 : decode cX0_isFull 41 = .ok (.aload_n 0, 1) := by decide +kernel
theorem dX0_isFull_42 : decode cX0_isFull 42 = .ok (.iload_n 1, 1) := by decide +kernel
theorem dX0_isFull_43 : decode cX0_isFull 43 = .ok (.iload_n 2, 1) := by decide +kernel
theorem dX0_isFull_44 : decode cX0_isFull 44 = .ok (.iconst 0, 1) := by decide +kernel
theorem dX0_isFull_45 : decode cX0_isFull 45 = .ok (.invokevirtual 98, 3) := by decide +kernel
theorem dX0_isFull_48 : decode cX0_isFull 48 = .ok (.ifCond .ne 5, 3) := by decide +kernel
theorem dX0_isFull_51 : decode cX0_isFull 51 = .ok (.iconst 0, 1) := by decide +kernel
theorem dX0_isFull_52 : decode cX0_isFull 52 = .ok (.ireturn, 1) := by decide +kernel
theorem dX0_isFull_53 : decode cX0_isFull 53 = .ok (.iinc 2 1, 3) := by decide +kernel
theorem dX0_isFull_56 : decode cX0_isFull 56 = .ok (.goto (-36), 3) := by decide +kernel
theorem dX0_isFull_59 : decode cX0_isFull 59 = .ok (.iconst 1, 1) := by decide +kernel
theorem dX0_isFull_60 : decode cX0_isFull 60 = .ok (.ireturn, 1) := by decide +kernel
theorem dX0_ringsThere_0 : decode cX0_ringsThere 0 = .ok (.iconst 0, 1) := by decide +kernel
theorem dX0_ringsThere_1 : decode cX0_ringsThere 1 = .ok (.istore_n 1, 1) := by decide +kernel
theorem dX0_ringsThere_2 : decode cX0_ringsThere 2 = .ok (.iconst 0, 1) := by decide +kernel
theorem dX0_ringsThere_3 : decode cX0_ringsThere 3 = .ok (.istore_n 2, 1) := by decide +kernel
theorem dX0_ringsThere_4 : decode cX0_ringsThere 4 = .ok (.iload_n 2, 1) := by decide +kernel
theorem dX0_ringsThere_5 : decode cX0_ringsThere 5 = .ok (.aload_n 0, 1) := by decide +kernel
theorem dX0_ringsThere_6 : decode cX0_ringsThere 6 = .ok (.getfield 51, 3) := by decide +kernel
theorem dX0_ringsThere_9 : decode cX0_ringsThere 9 = .ok (.if_icmp .ge 21, 3) := by decide +kernel
theorem dX0_ringsThere_12 : decode cX0_ringsThere 12 = .ok (.aload_n 0, 1) := by decide +kernel
theorem dX0_ringsThere_13 : decode cX0_ringsThere 13 = .ok (.getfield 18, 3) := by decide +kernel
theorem dX0_ringsThere_16 : decode cX0_ringsThere 16 = .ok (.iload_n 2, 1) := by decide +kernel
theorem dX0_ringsThere_17 : decode cX0_ringsThere 17 = .ok (.baload, 1) := by decide +kernel
theorem dX0_ringsThere_18 : decode cX0_ringsThere 18 = .ok (.ifCond .eq 6, 3) := by decide +kernel
theorem dX0_ringsThere_21 : decode cX0_ringsThere 21 = .ok (.iinc 1 1, 3) := by decide +kernel
theorem dX0_ringsThere_24 : decode cX0_ringsThere 24 = .ok (.iinc 2 1, 3) := by decide +kernel
theorem dX0_ringsThere_27 : decode cX0_ringsThere 27 = .ok (.goto (-23), 3) := by decide +kernel
theorem dX0_ringsThere_30 : decode cX0_ringsThere 30 = .ok (.iload_n 1, 1) := by decide +kernel
theorem dX0_ringsThere_31 : decode cX0_ringsThere 31 = .ok (.ireturn, 1) := by decide +kernel
theorem dX0_allLinks_0 : decode cX0_allLinks 0 = .ok (.iconst 0, 1) := by decide +kernel
theorem dX0_allLinks_1 : decode cX0_allLinks 1 = .ok (.istore_n 1, 1) := by decide +kernel
theorem dX0_allLinks_2 : decode cX0_allLinks 2 = .ok (.iconst 0, 1) := by decide +kernel
theorem dX0_allLinks_3 : decode cX0_allLinks 3 = .ok (.istore_n 2, 1) := by decide +kernel
theorem dX0_allLinks_4 : decode cX0_allLinks 4 = .ok (.iload_n 2, 1) := by decide +kernel
theorem dX0_allLinks_5 : decode cX0_allLinks 5 = .ok (.aload_n 0, 1) := by decide +kernel
theorem dX0_allLinks_6 : decode cX0_allLinks 6 = .ok (.getfield 51, 3) := by decide +kernel
theorem dX0_allLinks_9 : decode cX0_allLinks 9 = .ok (.if_icmp .ge 20, 3) := by decide +kernel
theorem dX0_allLinks_12 : decode cX0_allLinks 12 = .ok (.iload_n 1, 1) := by decide +kernel
theorem dX0_allLinks_13 : decode cX0_allLinks 13 = .ok (.aload_n 0, 1) := by decide +kernel
theorem dX0_allLinks_14 : decode cX0_allLinks 14 = .ok (.getfield 27, 3) := by decide +kernel
theorem dX0_allLinks_17 : decode cX0_allLinks 17 = .ok (.iload_n 2, 1) := by decide +kernel
theorem dX0_allLinks_18 : decode cX0_allLinks 18 = .ok (.invokevirtual 89, 3) := by decide +kernel
theorem dX0_allLinks_21 : decode cX0_allLinks 21 = .ok (.iadd, 1) := by decide +kernel
theorem dX0_allLinks_22 : decode cX0_allLinks 22 = .ok (.istore_n 1, 1) := by decide +kernel
theorem dX0_allLinks_23 : decode cX0_allLinks 23 = .ok (.iinc 2 1, 3) := by decide +kernel
theorem dX0_allLinks_26 : decode cX0_allLinks 26 = .ok (.goto (-22), 3) := by decide +kernel
theorem dX0_allLinks_29 : decode cX0_allLinks 29 = .ok (.iload_n 1, 1) := by decide +kernel
theorem dX0_allLinks_30 : decode cX0_allLinks 30 = .ok (.ireturn, 1) := by decide +kernel
theorem dX0_fullRings_0 : decode cX0_fullRings 0 = .ok (.iconst 0, 1) := by decide +kernel
theorem dX0_fullRings_1 : decode cX0_fullRings 1 = .ok (.istore_n 1, 1) := by decide +kernel
theorem dX0_fullRings_2 : decode cX0_fullRings 2 = .ok (.iconst 0, 1) := by decide +kernel
theorem dX0_fullRings_3 : decode cX0_fullRings 3 = .ok (.istore_n 2, 1) := by decide +kernel
theorem dX0_fullRings_4 : decode cX0_fullRings 4 = .ok (.iload_n 2, 1) := by decide +kernel
theorem dX0_fullRings_5 : decode cX0_fullRings 5 = .ok (.aload_n 0, 1) := by decide +kernel
theorem dX0_fullRings_6 : decode cX0_fullRings 6 = .ok (.getfield 48, 3) := by decide +kernel
theorem dX0_fullRings_9 : decode cX0_fullRings 9 = .ok (.if_icmp .ge 20, 3) := by decide +kernel
theorem dX0_fullRings_12 : decode cX0_fullRings 12 = .ok (.aload_n 0, 1) := by decide +kernel
theorem dX0_fullRings_13 : decode cX0_fullRings 13 = .ok (.iload_n 2, 1) := by decide +kernel
theorem dX0_fullRings_14 : decode cX0_fullRings 14 = .ok (.invokevirtual 102, 3) := by decide +kernel
theorem dX0_fullRings_17 : decode cX0_fullRings 17 = .ok (.ifCond .eq 6, 3) := by decide +kernel
theorem dX0_fullRings_20 : decode cX0_fullRings 20 = .ok (.iinc 1 1, 3) := by decide +kernel
theorem dX0_fullRings_23 : decode cX0_fullRings 23 = .ok (.iinc 2 1, 3) := by decide +kernel
theorem dX0_fullRings_26 : decode cX0_fullRings 26 = .ok (.goto (-22), 3) := by decide +kernel
theorem dX0_fullRings_29 : decode cX0_fullRings 29 = .ok (.iload_n 1, 1) := by decide +kernel
theorem dX0_fullRings_30 : decode cX0_fullRings 30 = .ok (.ireturn, 1) := by decide +kernel
theorem dX0_wornRings_0 : decode cX0_wornRings 0 = .ok (.iconst 0, 1) := by decide +kernel
theorem dX0_wornRings_1 : decode cX0_wornRings 1 = .ok (.istore_n 1, 1) := by decide +kernel
theorem dX0_wornRings_2 : decode cX0_wornRings 2 = .ok (.iconst 0, 1) := by decide +kernel
theorem dX0_wornRings_3 : decode cX0_wornRings 3 = .ok (.istore_n 2, 1) := by decide +kernel
theorem dX0_wornRings_4 : decode cX0_wornRings 4 = .ok (.iload_n 2, 1) := by decide +kernel
theorem dX0_wornRings_5 : decode cX0_wornRings 5 = .ok (.aload_n 0, 1) := by decide +kernel
theorem dX0_wornRings_6 : decode cX0_wornRings 6 = .ok (.getfield 48, 3) := by decide +kernel
theorem dX0_wornRings_9 : decode cX0_wornRings 9 = .ok (.if_icmp .ge 21, 3) := by decide +kernel
theorem dX0_wornRings_12 : decode cX0_wornRings 12 = .ok (.aload_n 0, 1) := by decide +kernel
theorem dX0_wornRings_13 : decode cX0_wornRings 13 = .ok (.getfield 18, 3) := by decide +kernel
theorem dX0_wornRings_16 : decode cX0_wornRings 16 = .ok (.iload_n 2, 1) := by decide +kernel
theorem dX0_wornRings_17 : decode cX0_wornRings 17 = .ok (.baload, 1) := by decide +kernel
theorem dX0_wornRings_18 : decode cX0_wornRings 18 = .ok (.ifCond .ne 6, 3) := by decide +kernel
theorem dX0_wornRings_21 : decode cX0_wornRings 21 = .ok (.iinc 1 1, 3) := by decide +kernel
theorem dX0_wornRings_24 : decode cX0_wornRings 24 = .ok (.iinc 2 1, 3) := by decide +kernel
theorem dX0_wornRings_27 : decode cX0_wornRings 27 = .ok (.goto (-23), 3) := by decide +kernel
theorem dX0_wornRings_30 : decode cX0_wornRings 30 = .ok (.iload_n 1, 1) := by decide +kernel
theorem dX0_wornRings_31 : decode cX0_wornRings 31 = .ok (.ireturn, 1) := by decide +kernel
theorem dX0_joinAsTold_0 : decode cX0_joinAsTold 0 = .ok (.iconst 0, 1) := by decide +kernel
theorem dX0_joinAsTold_1 : decode cX0_joinAsTold 1 = .ok (.istore_n 2, 1) := by decide +kernel
theorem dX0_joinAsTold_2 : decode cX0_joinAsTold 2 = .ok (.iload_n 2, 1) := by decide +kernel
theorem dX0_joinAsTold_3 : decode cX0_joinAsTold 3 = .ok (.aload_n 0, 1) := by decide +kernel
theorem dX0_joinAsTold_4 : decode cX0_joinAsTold 4 = .ok (.getfield 12, 3) := by decide +kernel
theorem dX0_joinAsTold_7 : decode cX0_joinAsTold 7 = .ok (.getfield 95, 3) := by decide +kernel
theorem dX0_joinAsTold_10 : decode cX0_joinAsTold 10 = .ok (.if_icmp .ge 23, 3) := by decide +kernel
theorem dX0_joinAsTold_13 : decode cX0_joinAsTold 13 = .ok (.aload_n 0, 1) := by decide +kernel
theorem dX0_joinAsTold_14 : decode cX0_joinAsTold 14 = .ok (.iload_n 1, 1) := by decide +kernel
theorem dX0_joinAsTold_15 : decode cX0_joinAsTold 15 = .ok (.iload_n 2, 1) := by decide +kernel
theorem dX0_joinAsTold_16 : decode cX0_joinAsTold 16 = .ok (.iconst 1, 1) := by decide +kernel
theorem dX0_joinAsTold_17 : decode cX0_joinAsTold 17 = .ok (.invokevirtual 105, 3) := by decide +kernel
theorem dX0_joinAsTold_20 : decode cX0_joinAsTold 20 = .ok (.aload_n 0, 1) := by decide +kernel
theorem dX0_joinAsTold_21 : decode cX0_joinAsTold 21 = .ok (.iload_n 1, 1) := by decide +kernel
theorem dX0_joinAsTold_22 : decode cX0_joinAsTold 22 = .ok (.iload_n 2, 1) := by decide +kernel
theorem dX0_joinAsTold_23 : decode cX0_joinAsTold 23 = .ok (.iconst 0, 1) := by decide +kernel
theorem dX0_joinAsTold_24 : decode cX0_joinAsTold 24 = .ok (.invokevirtual 105, 3) := by decide +kernel
theorem dX0_joinAsTold_27 : decode cX0_joinAsTold 27 = .ok (.iinc 2 1, 3) := by decide +kernel
theorem dX0_joinAsTold_30 : decode cX0_joinAsTold 30 = .ok (.goto (-28), 3) := by decide +kernel
theorem dX0_joinAsTold_33 : decode cX0_joinAsTold 33 = .ok (.return_, 1) := by decide +kernel
theorem dX0_joinOneAsTold_0 : decode cX0_joinOneAsTold 0 = .ok (.aload_n 0, 1) := by decide +kernel
theorem dX0_joinOneAsTold_1 : decode cX0_joinOneAsTold 1 = .ok (.iload_n 1, 1) := by decide +kernel
theorem dX0_joinOneAsTold_2 : decode cX0_joinOneAsTold 2 = .ok (.iload_n 2, 1) := by decide +kernel
theorem dX0_joinOneAsTold_3 : decode cX0_joinOneAsTold 3 = .ok (.iload_n 3, 1) := by decide +kernel
theorem dX0_joinOneAsTold_4 : decode cX0_joinOneAsTold 4 = .ok (.invokevirtual 109, 3) := by decide +kernel
theorem dX0_joinOneAsTold_7 : decode cX0_joinOneAsTold 7 = .ok (.ifCond .ne 4, 3) := by decide +kernel
theorem dX0_joinOneAsTold_10 : decode cX0_joinOneAsTold 10 = .ok (.return_, 1) := by decide +kernel
theorem dX0_joinOneAsTold_11 : decode cX0_joinOneAsTold 11 = .ok (.aload_n 0, 1) := by decide +kernel
theorem dX0_joinOneAsTold_12 : decode cX0_joinOneAsTold 12 = .ok (.iload_n 1, 1) := by decide +kernel
theorem dX0_joinOneAsTold_13 : decode cX0_joinOneAsTold 13 = .ok (.iload_n 2, 1) := by decide +kernel
theorem dX0_joinOneAsTold_14 : decode cX0_joinOneAsTold 14 = .ok (.iload_n 3, 1) := by decide +kernel
theorem dX0_joinOneAsTold_15 : decode cX0_joinOneAsTold 15 = .ok (.invokevirtual 112, 3) := by decide +kernel
theorem dX0_joinOneAsTold_18 : decode cX0_joinOneAsTold 18 = .ok (.istore 4, 2) := by decide +kernel
theorem dX0_joinOneAsTold_20 : decode cX0_joinOneAsTold 20 = .ok (.aload_n 0, 1) := by decide +kernel
theorem dX0_joinOneAsTold_21 : decode cX0_joinOneAsTold 21 = .ok (.iload 4, 2) := by decide +kernel
theorem dX0_joinOneAsTold_23 : decode cX0_joinOneAsTold 23 = .ok (.invokevirtual 92, 3) := by decide +kernel
theorem dX0_joinOneAsTold_26 : decode cX0_joinOneAsTold 26 = .ok (.ifCond .ne 4, 3) := by decide +kernel
theorem dX0_joinOneAsTold_29 : decode cX0_joinOneAsTold 29 = .ok (.return_, 1) := by decide +kernel
theorem dX0_joinOneAsTold_30 : decode cX0_joinOneAsTold 30 = .ok (.aload_n 0, 1) := by decide +kernel
theorem dX0_joinOneAsTold_31 : decode cX0_joinOneAsTold 31 = .ok (.getfield 12, 3) := by decide +kernel
theorem dX0_joinOneAsTold_34 : decode cX0_joinOneAsTold 34 = .ok (.getfield 116, 3) := by decide +kernel
theorem dX0_joinOneAsTold_37 : decode cX0_joinOneAsTold 37 = .ok (.iload_n 2, 1) := by decide +kernel
theorem dX0_joinOneAsTold_38 : decode cX0_joinOneAsTold 38 = .ok (.baload, 1) := by decide +kernel
theorem dX0_joinOneAsTold_39 : decode cX0_joinOneAsTold 39 = .ok (.iload_n 3, 1) := by decide +kernel
theorem dX0_joinOneAsTold_40 : decode cX0_joinOneAsTold 40 = .ok (.if_icmp .ne 13, 3) := by decide +kernel
theorem dX0_joinOneAsTold_43 : decode cX0_joinOneAsTold 43 = .ok (.aload_n 0, 1) := by decide +kernel
theorem dX0_joinOneAsTold_44 : decode cX0_joinOneAsTold 44 = .ok (.iload_n 1, 1) := by decide +kernel
theorem dX0_joinOneAsTold_45 : decode cX0_joinOneAsTold 45 = .ok (.iload 4, 2) := by decide +kernel
theorem dX0_joinOneAsTold_47 : decode cX0_joinOneAsTold 47 = .ok (.invokevirtual 119, 3) := by decide +kernel
theorem dX0_joinOneAsTold_50 : decode cX0_joinOneAsTold 50 = .ok (.goto 10, 3) := by decide +kernel
theorem dX0_joinOneAsTold_53 : decode cX0_joinOneAsTold 53 = .ok (.aload_n 0, 1) := by decide +kernel
theorem dX0_joinOneAsTold_54 : decode cX0_joinOneAsTold 54 = .ok (.iload 4, 2) := by decide +kernel
theorem dX0_joinOneAsTold_56 : decode cX0_joinOneAsTold 56 = .ok (.iload_n 1, 1) := by decide +kernel
theorem dX0_joinOneAsTold_57 : decode cX0_joinOneAsTold 57 = .ok (.invokevirtual 119, 3) := by decide +kernel
theorem dX0_joinOneAsTold_60 : decode cX0_joinOneAsTold 60 = .ok (.return_, 1) := by decide +kernel
theorem dX0_standsAsTold_0 : decode cX0_standsAsTold 0 = .ok (.aload_n 0, 1) := by decide +kernel
theorem dX0_standsAsTold_1 : decode cX0_standsAsTold 1 = .ok (.iload_n 1, 1) := by decide +kernel
theorem dX0_standsAsTold_2 : decode cX0_standsAsTold 2 = .ok (.iload_n 2, 1) := by decide +kernel
theorem dX0_standsAsTold_3 : decode cX0_standsAsTold 3 = .ok (.iload_n 3, 1) := by decide +kernel
theorem dX0_standsAsTold_4 : decode cX0_standsAsTold 4 = .ok (.invokevirtual 109, 3) := by decide +kernel
theorem dX0_standsAsTold_7 : decode cX0_standsAsTold 7 = .ok (.ifCond .ne 5, 3) := by decide +kernel
theorem dX0_standsAsTold_10 : decode cX0_standsAsTold 10 = .ok (.iconst 1, 1) := by decide +kernel
theorem dX0_standsAsTold_11 : decode cX0_standsAsTold 11 = .ok (.ireturn, 1) := by decide +kernel
theorem dX0_standsAsTold_12 : decode cX0_standsAsTold 12 = .ok (.aload_n 0, 1) := by decide +kernel
theorem dX0_standsAsTold_13 : decode cX0_standsAsTold 13 = .ok (.iload_n 1, 1) := by decide +kernel
theorem dX0_standsAsTold_14 : decode cX0_standsAsTold 14 = .ok (.iload_n 2, 1) := by decide +kernel
theorem dX0_standsAsTold_15 : decode cX0_standsAsTold 15 = .ok (.iload_n 3, 1) := by decide +kernel
theorem dX0_standsAsTold_16 : decode cX0_standsAsTold 16 = .ok (.invokevirtual 112, 3) := by decide +kernel
theorem dX0_standsAsTold_19 : decode cX0_standsAsTold 19 = .ok (.istore 4, 2) := by decide +kernel
theorem dX0_standsAsTold_21 : decode cX0_standsAsTold 21 = .ok (.iload 4, 2) := by decide +kernel
theorem dX0_standsAsTold_23 : decode cX0_standsAsTold 23 = .ok (.iconst (-1), 1) := by decide +kernel
theorem dX0_standsAsTold_24 : decode cX0_standsAsTold 24 = .ok (.if_icmp .ne 5, 3) := by decide +kernel
theorem dX0_standsAsTold_27 : decode cX0_standsAsTold 27 = .ok (.iconst 0, 1) := by decide +kernel
theorem dX0_standsAsTold_28 : decode cX0_standsAsTold 28 = .ok (.ireturn, 1) := by decide +kernel
theorem dX0_standsAsTold_29 : decode cX0_standsAsTold 29 = .ok (.aload_n 0, 1) := by decide +kernel
theorem dX0_standsAsTold_30 : decode cX0_standsAsTold 30 = .ok (.getfield 12, 3) := by decide +kernel
theorem dX0_standsAsTold_33 : decode cX0_standsAsTold 33 = .ok (.getfield 116, 3) := by decide +kernel
theorem dX0_standsAsTold_36 : decode cX0_standsAsTold 36 = .ok (.iload_n 2, 1) := by decide +kernel
theorem dX0_standsAsTold_37 : decode cX0_standsAsTold 37 = .ok (.baload, 1) := by decide +kernel
theorem dX0_standsAsTold_38 : decode cX0_standsAsTold 38 = .ok (.iload_n 3, 1) := by decide +kernel
theorem dX0_standsAsTold_39 : decode cX0_standsAsTold 39 = .ok (.if_icmp .ne 16, 3) := by decide +kernel
theorem dX0_standsAsTold_42 : decode cX0_standsAsTold 42 = .ok (.aload_n 0, 1) := by decide +kernel
theorem dX0_standsAsTold_43 : decode cX0_standsAsTold 43 = .ok (.getfield 27, 3) := by decide +kernel
theorem dX0_standsAsTold_46 : decode cX0_standsAsTold 46 = .ok (.iload_n 1, 1) := by decide +kernel
theorem dX0_standsAsTold_47 : decode cX0_standsAsTold 47 = .ok (.iload 4, 2) := by decide +kernel
theorem dX0_standsAsTold_49 : decode cX0_standsAsTold 49 = .ok (.invokevirtual 79, 3) := by decide +kernel
theorem dX0_standsAsTold_52 : decode cX0_standsAsTold 52 = .ok (.goto 13, 3) := by decide +kernel
theorem dX0_standsAsTold_55 : decode cX0_standsAsTold 55 = .ok (.aload_n 0, 1) := by decide +kernel
theorem dX0_standsAsTold_56 : decode cX0_standsAsTold 56 = .ok (.getfield 27, 3) := by decide +kernel
theorem dX0_standsAsTold_59 : decode cX0_standsAsTold 59 = .ok (.iload 4, 2) := by decide +kernel
theorem dX0_standsAsTold_61 : decode cX0_standsAsTold 61 = .ok (.iload_n 1, 1) := by decide +kernel
theorem dX0_standsAsTold_62 : decode cX0_standsAsTold 62 = .ok (.invokevirtual 79, 3) := by decide +kernel
theorem dX0_standsAsTold_65 : decode cX0_standsAsTold 65 = .ok (.ireturn, 1) := by decide +kernel
theorem dX0_isOfLink_0 : decode cX0_isOfLink 0 = .ok (.aload_n 0, 1) := by decide +kernel
theorem dX0_isOfLink_1 : decode cX0_isOfLink 1 = .ok (.getfield 12, 3) := by decide +kernel
theorem dX0_isOfLink_4 : decode cX0_isOfLink 4 = .ok (.getfield 45, 3) := by decide +kernel
theorem dX0_isOfLink_7 : decode cX0_isOfLink 7 = .ok (.iconst 1, 1) := by decide +kernel
theorem dX0_isOfLink_8 : decode cX0_isOfLink 8 = .ok (.if_icmp .ge 5, 3) := by decide +kernel
theorem dX0_isOfLink_11 : decode cX0_isOfLink 11 = .ok (.iconst 0, 1) := by decide +kernel
theorem dX0_isOfLink_12 : decode cX0_isOfLink 12 = .ok (.ireturn, 1) := by decide +kernel
theorem dX0_isOfLink_13 : decode cX0_isOfLink 13 = .ok (.iload_n 1, 1) := by decide +kernel
theorem dX0_isOfLink_14 : decode cX0_isOfLink 14 = .ok (.aload_n 0, 1) := by decide +kernel
theorem dX0_isOfLink_15 : decode cX0_isOfLink 15 = .ok (.getfield 12, 3) := by decide +kernel
theorem dX0_isOfLink_18 : decode cX0_isOfLink 18 = .ok (.getfield 45, 3) := by decide +kernel
theorem dX0_isOfLink_21 : decode cX0_isOfLink 21 = .ok (.irem, 1) := by decide +kernel
theorem dX0_isOfLink_22 : decode cX0_isOfLink 22 = .ok (.iload_n 3, 1) := by decide +kernel
theorem dX0_isOfLink_23 : decode cX0_isOfLink 23 = .ok (.ifCond .eq 15, 3) := by decide +kernel
theorem dX0_isOfLink_26 : decode cX0_isOfLink 26 = .ok (.aload_n 0, 1) := by decide +kernel
theorem dX0_isOfLink_27 : decode cX0_isOfLink 27 = .ok (.getfield 12, 3) := by decide +kernel
theorem dX0_isOfLink_30 : decode cX0_isOfLink 30 = .ok (.getfield 122, 3) := by decide +kernel
theorem dX0_isOfLink_33 : decode cX0_isOfLink 33 = .ok (.iload_n 2, 1) := by decide +kernel
theorem dX0_isOfLink_34 : decode cX0_isOfLink 34 = .ok (.iaload, 1) := by decide +kernel
theorem dX0_isOfLink_35 : decode cX0_isOfLink 35 = .ok (.goto 12, 3) := by decide +kernel
theorem dX0_isOfLink_38 : decode cX0_isOfLink 38 = .ok (.aload_n 0, 1) := by decide +kernel
theorem dX0_isOfLink_39 : decode cX0_isOfLink 39 = .ok (.getfield 12, 3) := by decide +kernel
theorem dX0_isOfLink_42 : decode cX0_isOfLink 42 = .ok (.getfield 126, 3) := by decide +kernel
theorem dX0_isOfLink_45 : decode cX0_isOfLink 45 = .ok (.iload_n 2, 1) := by decide +kernel
theorem dX0_isOfLink_46 : decode cX0_isOfLink 46 = .ok (.iaload, 1) := by decide +kernel
theorem dX0_isOfLink_47 : decode cX0_isOfLink 47 = .ok (.if_icmp .ne 7, 3) := by decide +kernel
theorem dX0_isOfLink_50 : decode cX0_isOfLink 50 = .ok (.iconst 1, 1) := by decide +kernel
theorem dX0_isOfLink_51 : decode cX0_isOfLink 51 = .ok (.goto 4, 3) := by decide +kernel
theorem dX0_isOfLink_54 : decode cX0_isOfLink 54 = .ok (.iconst 0, 1) := by decide +kernel
theorem dX0_isOfLink_55 : decode cX0_isOfLink 55 = .ok (.ireturn, 1) := by decide +kernel
theorem dX0_otherAsTold_0 : decode cX0_otherAsTold 0 = .ok (.aload_n 0, 1) := by decide +kernel
theorem dX0_otherAsTold_1 : decode cX0_otherAsTold 1 = .ok (.getfield 12, 3) := by decide +kernel
theorem dX0_otherAsTold_4 : decode cX0_otherAsTold 4 = .ok (.getfield 45, 3) := by decide +kernel
theorem dX0_otherAsTold_7 : decode cX0_otherAsTold 7 = .ok (.iconst 1, 1) := by decide +kernel
theorem dX0_otherAsTold_8 : decode cX0_otherAsTold 8 = .ok (.if_icmp .lt 11, 3) := by decide +kernel
theorem dX0_otherAsTold_11 : decode cX0_otherAsTold 11 = .ok (.aload_n 0, 1) := by decide +kernel
theorem dX0_otherAsTold_12 : decode cX0_otherAsTold 12 = .ok (.getfield 38, 3) := by decide +kernel
theorem dX0_otherAsTold_15 : decode cX0_otherAsTold 15 = .ok (.iconst 1, 1) := by decide +kernel
theorem dX0_otherAsTold_16 : decode cX0_otherAsTold 16 = .ok (.if_icmp .ge 5, 3) := by decide +kernel
theorem dX0_otherAsTold_19 : decode cX0_otherAsTold 19 = .ok (.iconst (-1), 1) := by decide +kernel
theorem dX0_otherAsTold_20 : decode cX0_otherAsTold 20 = .ok (.ireturn, 1) := by decide +kernel
theorem dX0_otherAsTold_21 : decode cX0_otherAsTold 21 = .ok (.iload_n 1, 1) := by decide +kernel
theorem dX0_otherAsTold_22 : decode cX0_otherAsTold 22 = .ok (.aload_n 0, 1) := by decide +kernel
theorem dX0_otherAsTold_23 : decode cX0_otherAsTold 23 = .ok (.getfield 12, 3) := by decide +kernel
theorem dX0_otherAsTold_26 : decode cX0_otherAsTold 26 = .ok (.getfield 45, 3) := by decide +kernel
theorem dX0_otherAsTold_29 : decode cX0_otherAsTold 29 = .ok (.idiv, 1) := by decide +kernel
theorem dX0_otherAsTold_30 : decode cX0_otherAsTold 30 = .ok (.istore 4, 2) := by decide +kernel
theorem dX0_otherAsTold_32 : decode cX0_otherAsTold 32 = .ok (.iload 4, 2) := by decide +kernel
theorem dX0_otherAsTold_34 : decode cX0_otherAsTold 34 = .ok (.aload_n 0, 1) := by decide +kernel
theorem dX0_otherAsTold_35 : decode cX0_otherAsTold 35 = .ok (.getfield 38, 3) := by decide +kernel
theorem dX0_otherAsTold_38 : decode cX0_otherAsTold 38 = .ok (.irem, 1) := by decide +kernel
theorem dX0_otherAsTold_39 : decode cX0_otherAsTold 39 = .ok (.istore 5, 2) := by decide +kernel
theorem dX0_otherAsTold_41 : decode cX0_otherAsTold 41 = .ok (.iload 4, 2) := by decide +kernel
theorem dX0_otherAsTold_43 : decode cX0_otherAsTold 43 = .ok (.aload_n 0, 1) := by decide +kernel
theorem dX0_otherAsTold_44 : decode cX0_otherAsTold 44 = .ok (.getfield 38, 3) := by decide +kernel
theorem dX0_otherAsTold_47 : decode cX0_otherAsTold 47 = .ok (.idiv, 1) := by decide +kernel
theorem dX0_otherAsTold_48 : decode cX0_otherAsTold 48 = .ok (.istore 6, 2) := by decide +kernel
theorem dX0_otherAsTold_50 : decode cX0_otherAsTold 50 = .ok (.iload_n 3, 1) := by decide +kernel
theorem dX0_otherAsTold_51 : decode cX0_otherAsTold 51 = .ok (.ifCond .eq 41, 3) := by decide +kernel
theorem dX0_otherAsTold_54 : decode cX0_otherAsTold 54 = .ok (.aload_n 0, 1) := by decide +kernel
theorem dX0_otherAsTold_55 : decode cX0_otherAsTold 55 = .ok (.iload 5, 2) := by decide +kernel
theorem dX0_otherAsTold_57 : decode cX0_otherAsTold 57 = .ok (.aload_n 0, 1) := by decide +kernel
theorem dX0_otherAsTold_58 : decode cX0_otherAsTold 58 = .ok (.getfield 12, 3) := by decide +kernel
theorem dX0_otherAsTold_61 : decode cX0_otherAsTold 61 = .ok (.getfield 129, 3) := by decide +kernel
theorem dX0_otherAsTold_64 : decode cX0_otherAsTold 64 = .ok (.iload_n 2, 1) := by decide +kernel
theorem dX0_otherAsTold_65 : decode cX0_otherAsTold 65 = .ok (.iaload, 1) := by decide +kernel
theorem dX0_otherAsTold_66 : decode cX0_otherAsTold 66 = .ok (.iadd, 1) := by decide +kernel
theorem dX0_otherAsTold_67 : decode cX0_otherAsTold 67 = .ok (.iload 6, 2) := by decide +kernel
theorem dX0_otherAsTold_69 : decode cX0_otherAsTold 69 = .ok (.aload_n 0, 1) := by decide +kernel
theorem dX0_otherAsTold_70 : decode cX0_otherAsTold 70 = .ok (.getfield 12, 3) := by decide +kernel
theorem dX0_otherAsTold_73 : decode cX0_otherAsTold 73 = .ok (.getfield 132, 3) := by decide +kernel
theorem dX0_otherAsTold_76 : decode cX0_otherAsTold 76 = .ok (.iload_n 2, 1) := by decide +kernel
theorem dX0_otherAsTold_77 : decode cX0_otherAsTold 77 = .ok (.iaload, 1) := by decide +kernel
theorem dX0_otherAsTold_78 : decode cX0_otherAsTold 78 = .ok (.iadd, 1) := by decide +kernel
theorem dX0_otherAsTold_79 : decode cX0_otherAsTold 79 = .ok (.aload_n 0, 1) := by decide +kernel
theorem dX0_otherAsTold_80 : decode cX0_otherAsTold 80 = .ok (.getfield 12, 3) := by decide +kernel
theorem dX0_otherAsTold_83 : decode cX0_otherAsTold 83 = .ok (.getfield 126, 3) := by decide +kernel
theorem dX0_otherAsTold_86 : decode cX0_otherAsTold 86 = .ok (.iload_n 2, 1) := by decide +kernel
theorem dX0_otherAsTold_87 : decode cX0_otherAsTold 87 = .ok (.iaload, 1) := by decide +kernel
theorem dX0_otherAsTold_88 : decode cX0_otherAsTold 88 = .ok (.invokevirtual 135, 3) := by decide +kernel
theorem dX0_otherAsTold_91 : decode cX0_otherAsTold 91 = .ok (.ireturn, 1) := by decide +kernel
theorem dX0_otherAsTold_92 : decode cX0_otherAsTold 92 = .ok (.aload_n 0, 1) := by decide +kernel
theorem dX0_otherAsTold_93 : decode cX0_otherAsTold 93 = .ok (.iload 5, 2) := by decide +kernel
theorem dX0_otherAsTold_95 : decode cX0_otherAsTold 95 = .ok (.aload_n 0, 1) := by decide +kernel
theorem dX0_otherAsTold_96 : decode cX0_otherAsTold 96 = .ok (.getfield 12, 3) := by decide +kernel
theorem dX0_otherAsTold_99 : decode cX0_otherAsTold 99 = .ok (.getfield 129, 3) := by decide +kernel
theorem dX0_otherAsTold_102 : decode cX0_otherAsTold 102 = .ok (.iload_n 2, 1) := by decide +kernel
theorem dX0_otherAsTold_103 : decode cX0_otherAsTold 103 = .ok (.iaload, 1) := by decide +kernel
theorem dX0_otherAsTold_104 : decode cX0_otherAsTold 104 = .ok (.isub, 1) := by decide +kernel
theorem dX0_otherAsTold_105 : decode cX0_otherAsTold 105 = .ok (.iload 6, 2) := by decide +kernel
theorem dX0_otherAsTold_107 : decode cX0_otherAsTold 107 = .ok (.aload_n 0, 1) := by decide +kernel
theorem dX0_otherAsTold_108 : decode cX0_otherAsTold 108 = .ok (.getfield 12, 3) := by decide +kernel
theorem dX0_otherAsTold_111 : decode cX0_otherAsTold 111 = .ok (.getfield 132, 3) := by decide +kernel
theorem dX0_otherAsTold_114 : decode cX0_otherAsTold 114 = .ok (.iload_n 2, 1) := by decide +kernel
theorem dX0_otherAsTold_115 : decode cX0_otherAsTold 115 = .ok (.iaload, 1) := by decide +kernel
theorem dX0_otherAsTold_116 : decode cX0_otherAsTold 116 = .ok (.isub, 1) := by decide +kernel
theorem dX0_otherAsTold_117 : decode cX0_otherAsTold 117 = .ok (.aload_n 0, 1) := by decide +kernel
theorem dX0_otherAsTold_118 : decode cX0_otherAsTold 118 = .ok (.getfield 12, 3) := by decide +kernel
theorem dX0_otherAsTold_121 : decode cX0_otherAsTold 121 = .ok (.getfield 122, 3) := by decide +kernel
theorem dX0_otherAsTold_124 : decode cX0_otherAsTold 124 = .ok (.iload_n 2, 1) := by decide +kernel
theorem dX0_otherAsTold_125 : decode cX0_otherAsTold 125 = .ok (.iaload, 1) := by decide +kernel
theorem dX0_otherAsTold_126 : decode cX0_otherAsTold 126 = .ok (.invokevirtual 135, 3) := by decide +kernel
theorem dX0_otherAsTold_129 : decode cX0_otherAsTold 129 = .ok (.ireturn, 1) := by decide +kernel
theorem dX1_init_0 : decode cX1_init 0 = .ok (.aload_n 0, 1) := by decide +kernel
theorem dX1_init_1 : decode cX1_init 1 = .ok (.invokespecial 3, 3) := by decide +kernel
theorem dX1_init_4 : decode cX1_init 4 = .ok (.aload_n 0, 1) := by decide +kernel
theorem dX1_init_5 : decode cX1_init 5 = .ok (.aload_n 1, 1) := by decide +kernel
theorem dX1_init_6 : decode cX1_init 6 = .ok (.putfield 9, 3) := by decide +kernel
theorem dX1_init_9 : decode cX1_init 9 = .ok (.aload_n 0, 1) := by decide +kernel
theorem dX1_init_10 : decode cX1_init 10 = .ok (.aload_n 2, 1) := by decide +kernel
theorem dX1_init_11 : decode cX1_init 11 = .ok (.putfield 15, 3) := by decide +kernel
theorem dX1_init_14 : decode cX1_init 14 = .ok (.aload_n 0, 1) := by decide +kernel
theorem dX1_init_15 : decode cX1_init 15 = .ok (.new 19, 3) := by decide +kernel
theorem dX1_init_18 : decode cX1_init 18 = .ok (.dup, 1) := by decide +kernel
theorem dX1_init_19 : decode cX1_init 19 = .ok (.iconst 4, 1) := by decide +kernel
theorem dX1_init_20 : decode cX1_init 20 = .ok (.invokespecial 21, 3) := by decide +kernel
theorem dX1_init_23 : decode cX1_init 23 = .ok (.putfield 24, 3) := by decide +kernel
theorem dX1_init_26 : decode cX1_init 26 = .ok (.aload_n 0, 1) := by decide +kernel
theorem dX1_init_27 : decode cX1_init 27 = .ok (.sipush 300, 3) := by decide +kernel
theorem dX1_init_30 : decode cX1_init 30 = .ok (.newarray .int, 2) := by decide +kernel
theorem dX1_init_32 : decode cX1_init 32 = .ok (.putfield 28, 3) := by decide +kernel
theorem dX1_init_35 : decode cX1_init 35 = .ok (.aload_n 0, 1) := by decide +kernel
theorem dX1_init_36 : decode cX1_init 36 = .ok (.sipush 300, 3) := by decide +kernel
theorem dX1_init_39 : decode cX1_init 39 = .ok (.newarray .int, 2) := by decide +kernel
theorem dX1_init_41 : decode cX1_init 41 = .ok (.putfield 32, 3) := by decide +kernel
theorem dX1_init_44 : decode cX1_init 44 = .ok (.aload_n 0, 1) := by decide +kernel
theorem dX1_init_45 : decode cX1_init 45 = .ok (.sipush 300, 3) := by decide +kernel
theorem dX1_init_48 : decode cX1_init 48 = .ok (.newarray .int, 2) := by decide +kernel
theorem dX1_init_50 : decode cX1_init 50 = .ok (.putfield 35, 3) := by decide +kernel
theorem dX1_init_53 : decode cX1_init 53 = .ok (.aload_n 0, 1) := by decide +kernel
theorem dX1_init_54 : decode cX1_init 54 = .ok (.sipush 300, 3) := by decide +kernel
theorem dX1_init_57 : decode cX1_init 57 = .ok (.newarray .boolean, 2) := by decide +kernel
theorem dX1_init_59 : decode cX1_init 59 = .ok (.putfield 38, 3) := by decide +kernel
theorem dX1_init_62 : decode cX1_init 62 = .ok (.aload_n 0, 1) := by decide +kernel
theorem dX1_init_63 : decode cX1_init 63 = .ok (.sipush 300, 3) := by decide +kernel
theorem dX1_init_66 : decode cX1_init 66 = .ok (.newarray .int, 2) := by decide +kernel
theorem dX1_init_68 : decode cX1_init 68 = .ok (.putfield 42, 3) := by decide +kernel
theorem dX1_init_71 : decode cX1_init 71 = .ok (.aload_n 0, 1) := by decide +kernel
theorem dX1_init_72 : decode cX1_init 72 = .ok (.iconst (-1), 1) := by decide +kernel
theorem dX1_init_73 : decode cX1_init 73 = .ok (.putfield 45, 3) := by decide +kernel
theorem dX1_init_76 : decode cX1_init 76 = .ok (.return_, 1) := by decide +kernel
theorem dX1_refresh_0 : decode cX1_refresh 0 = .ok (.aload_n 0, 1) := by decide +kernel
theorem dX1_refresh_1 : decode cX1_refresh 1 = .ok (.getfield 45, 3) := by decide +kernel
theorem dX1_refresh_4 : decode cX1_refresh 4 = .ok (.aload_n 0, 1) := by decide +kernel
theorem dX1_refresh_5 : decode cX1_refresh 5 = .ok (.getfield 9, 3) := by decide +kernel
theorem dX1_refresh_8 : decode cX1_refresh 8 = .ok (.getfield 49, 3) := by decide +kernel
theorem dX1_refresh_11 : decode cX1_refresh 11 = .ok (.if_icmp .ne 4, 3) := by decide +kernel
theorem dX1_refresh_14 : decode cX1_refresh 14 = .ok (.return_, 1) := by decide +kernel
theorem dX1_refresh_15 : decode cX1_refresh 15 = .ok (.aload_n 0, 1) := by decide +kernel
theorem dX1_refresh_16 : decode cX1_refresh 16 = .ok (.aload_n 0, 1) := by decide +kernel
theorem dX1_refresh_17 : decode cX1_refresh 17 = .ok (.getfield 9, 3) := by decide +kernel
theorem dX1_refresh_20 : decode cX1_refresh 20 = .ok (.getfield 49, 3) := by decide +kernel
theorem dX1_refresh_23 : decode cX1_refresh 23 = .ok (.putfield 45, 3) := by decide +kernel
theorem dX1_refresh_26 : decode cX1_refresh 26 = .ok (.aload_n 0, 1) := by decide +kernel
theorem dX1_refresh_27 : decode cX1_refresh 27 = .ok (.getfield 15, 3) := by decide +kernel
theorem dX1_refresh_30 : decode cX1_refresh 30 = .ok (.invokevirtual 54, 3) := by decide +kernel
theorem dX1_refresh_33 : decode cX1_refresh 33 = .ok (.aload_n 0, 1) := by decide +kernel
theorem dX1_refresh_34 : decode cX1_refresh 34 = .ok (.iconst 0, 1) := by decide +kernel
theorem dX1_refresh_35 : decode cX1_refresh 35 = .ok (.putfield 59, 3) := by decide +kernel
theorem dX1_refresh_38 : decode cX1_refresh 38 = .ok (.aload_n 0, 1) := by decide +kernel
theorem dX1_refresh_39 : decode cX1_refresh 39 = .ok (.getfield 24, 3) := by decide +kernel
theorem dX1_refresh_42 : decode cX1_refresh 42 = .ok (.invokevirtual 62, 3) := by decide +kernel
theorem dX1_refresh_45 : decode cX1_refresh 45 = .ok (.aload_n 0, 1) := by decide +kernel
theorem dX1_refresh_46 : decode cX1_refresh 46 = .ok (.getfield 15, 3) := by decide +kernel
theorem dX1_refresh_49 : decode cX1_refresh 49 = .ok (.getfield 65, 3) := by decide +kernel
theorem dX1_refresh_52 : decode cX1_refresh 52 = .ok (.ifCond .eq 19, 3) := by decide +kernel
theorem dX1_refresh_55 : decode cX1_refresh 55 = .ok (.aload_n 0, 1) := by decide +kernel
theorem dX1_refresh_56 : decode cX1_refresh 56 = .ok (.invokevirtual 69, 3) := by decide +kernel
theorem dX1_refresh_59 : decode cX1_refresh 59 = .ok (.aload_n 0, 1) := by decide +kernel
theorem dX1_refresh_60 : decode cX1_refresh 60 = .ok (.invokevirtual 72, 3) := by decide +kernel
theorem dX1_refresh_63 : decode cX1_refresh 63 = .ok (.aload_n 0, 1) := by decide +kernel
theorem dX1_refresh_64 : decode cX1_refresh 64 = .ok (.invokevirtual 75, 3) := by decide +kernel
theorem dX1_refresh_67 : decode cX1_refresh 67 = .ok (.aload_n 0, 1) := by decide +kernel
theorem dX1_refresh_68 : decode cX1_refresh 68 = .ok (.invokevirtual 78, 3) := by decide +kernel
theorem dX1_refresh_71 : decode cX1_refresh 71 = .ok (.return_, 1) := by decide +kernel
theorem dX1_isOpened_0 : decode cX1_isOpened 0 = .ok (.aload_n 0, 1) := by decide +kernel
theorem dX1_isOpened_1 : decode cX1_isOpened 1 = .ok (.getfield 24, 3) := by decide +kernel
theorem dX1_isOpened_4 : decode cX1_isOpened 4 = .ok (.iconst 0, 1) := by decide +kernel
theorem dX1_isOpened_5 : decode cX1_isOpened 5 = .ok (.iload_n 1, 1) := by decide +kernel
theorem dX1_isOpened_6 : decode cX1_isOpened 6 = .ok (.invokevirtual 81, 3) := by decide +kernel
theorem dX1_isOpened_9 : decode cX1_isOpened 9 = .ok (.ireturn, 1) := by decide +kernel
theorem dX1_pairWhatIsFree_0 : decode cX1_pairWhatIsFree 0 = .ok (.aload_n 0, 1) := by decide +kernel
theorem dX1_pairWhatIsFree_1 : decode cX1_pairWhatIsFree 1 = .ok (.getfield 28, 3) := by decide +kernel
theorem dX1_pairWhatIsFree_4 : decode cX1_pairWhatIsFree 4 = .ok (.iconst (-1), 1) := by decide +kernel
theorem dX1_pairWhatIsFree_5 : decode cX1_pairWhatIsFree 5 = .ok (.invokestatic 85, 3) := by decide +kernel
theorem dX1_pairWhatIsFree_8 : decode cX1_pairWhatIsFree 8 = .ok (.iconst 0, 1) := by decide +kernel
theorem dX1_pairWhatIsFree_9 : decode cX1_pairWhatIsFree 9 = .ok (.istore_n 1, 1) := by decide +kernel
theorem dX1_pairWhatIsFree_10 : decode cX1_pairWhatIsFree 10 = .ok (.iload_n 1, 1) := by decide +kernel
theorem dX1_pairWhatIsFree_11 : decode cX1_pairWhatIsFree 11 = .ok (.aload_n 0, 1) := by decide +kernel
theorem dX1_pairWhatIsFree_12 : decode cX1_pairWhatIsFree 12 = .ok (.getfield 9, 3) := by decide +kernel
theorem dX1_pairWhatIsFree_15 : decode cX1_pairWhatIsFree 15 = .ok (.getfield 91, 3) := by decide +kernel
theorem dX1_pairWhatIsFree_18 : decode cX1_pairWhatIsFree 18 = .ok (.if_icmp .ge 22, 3) := by decide +kernel
theorem dX1_pairWhatIsFree_21 : decode cX1_pairWhatIsFree 21 = .ok (.aload_n 0, 1) := by decide +kernel
theorem dX1_pairWhatIsFree_22 : decode cX1_pairWhatIsFree 22 = .ok (.iload_n 1, 1) := by decide +kernel
theorem dX1_pairWhatIsFree_23 : decode cX1_pairWhatIsFree 23 = .ok (.invokevirtual 94, 3) := by decide +kernel
theorem dX1_pairWhatIsFree_26 : decode cX1_pairWhatIsFree 26 = .ok (.ifCond .eq 8, 3) := by decide +kernel
theorem dX1_pairWhatIsFree_29 : decode cX1_pairWhatIsFree 29 = .ok (.aload_n 0, 1) := by decide +kernel
theorem dX1_pairWhatIsFree_30 : decode cX1_pairWhatIsFree 30 = .ok (.iload_n 1, 1) := by decide +kernel
theorem dX1_pairWhatIsFree_31 : decode cX1_pairWhatIsFree 31 = .ok (.invokevirtual 98, 3) := by decide +kernel
theorem dX1_pairWhatIsFree_34 : decode cX1_pairWhatIsFree 34 = .ok (.iinc 1 1, 3) := by decide +kernel
theorem dX1_pairWhatIsFree_37 : decode cX1_pairWhatIsFree 37 = .ok (.goto (-27), 3) := by decide +kernel
theorem dX1_pairWhatIsFree_40 : decode cX1_pairWhatIsFree 40 = .ok (.return_, 1) := by decide +kernel
theorem dX1_pairWithFree_0 : decode cX1_pairWithFree 0 = .ok (.aload_n 0, 1) := by decide +kernel
theorem dX1_pairWithFree_1 : decode cX1_pairWithFree 1 = .ok (.getfield 9, 3) := by decide +kernel
theorem dX1_pairWithFree_4 : decode cX1_pairWithFree 4 = .ok (.getfield 101, 3) := by decide +kernel
theorem dX1_pairWithFree_7 : decode cX1_pairWithFree 7 = .ok (.iload_n 1, 1) := by decide +kernel
theorem dX1_pairWithFree_8 : decode cX1_pairWithFree 8 = .ok (.iconst 0, 1) := by decide +kernel
theorem dX1_pairWithFree_9 : decode cX1_pairWithFree 9 = .ok (.invokevirtual 104, 3) := by decide +kernel
theorem dX1_pairWithFree_12 : decode cX1_pairWithFree 12 = .ok (.istore_n 2, 1) := by decide +kernel
theorem dX1_pairWithFree_13 : decode cX1_pairWithFree 13 = .ok (.iconst 0, 1) := by decide +kernel
theorem dX1_pairWithFree_14 : decode cX1_pairWithFree 14 = .ok (.istore_n 3, 1) := by decide +kernel
theorem dX1_pairWithFree_15 : decode cX1_pairWithFree 15 = .ok (.iload_n 3, 1) := by decide +kernel
theorem dX1_pairWithFree_16 : decode cX1_pairWithFree 16 = .ok (.sipush 300, 3) := by decide +kernel
theorem dX1_pairWithFree_19 : decode cX1_pairWithFree 19 = .ok (.if_icmp .ge 54, 3) := by decide +kernel
theorem dX1_pairWithFree_22 : decode cX1_pairWithFree 22 = .ok (.iload_n 2, 1) := by decide +kernel
theorem dX1_pairWithFree_23 : decode cX1_pairWithFree 23 = .ok (.iconst (-1), 1) := by decide +kernel
theorem dX1_pairWithFree_24 : decode cX1_pairWithFree 24 = .ok (.if_icmp .eq 49, 3) := by decide +kernel
theorem dX1_pairWithFree_27 : decode cX1_pairWithFree 27 = .ok (.aload_n 0, 1) := by decide +kernel
theorem dX1_pairWithFree_28 : decode cX1_pairWithFree 28 = .ok (.getfield 28, 3) := by decide +kernel
theorem dX1_pairWithFree_31 : decode cX1_pairWithFree 31 = .ok (.iload_n 2, 1) := by decide +kernel
theorem dX1_pairWithFree_32 : decode cX1_pairWithFree 32 = .ok (.iaload, 1) := by decide +kernel
theorem dX1_pairWithFree_33 : decode cX1_pairWithFree 33 = .ok (.iconst (-1), 1) := by decide +kernel
theorem dX1_pairWithFree_34 : decode cX1_pairWithFree 34 = .ok (.if_icmp .ne 18, 3) := by decide +kernel
theorem dX1_pairWithFree_37 : decode cX1_pairWithFree 37 = .ok (.aload_n 0, 1) := by decide +kernel
theorem dX1_pairWithFree_38 : decode cX1_pairWithFree 38 = .ok (.getfield 28, 3) := by decide +kernel
theorem dX1_pairWithFree_41 : decode cX1_pairWithFree 41 = .ok (.iload_n 1, 1) := by decide +kernel
theorem dX1_pairWithFree_42 : decode cX1_pairWithFree 42 = .ok (.iload_n 2, 1) := by decide +kernel
theorem dX1_pairWithFree_43 : decode cX1_pairWithFree 43 = .ok (.iastore, 1) := by decide +kernel
theorem dX1_pairWithFree_44 : decode cX1_pairWithFree 44 = .ok (.aload_n 0, 1) := by decide +kernel
theorem dX1_pairWithFree_45 : decode cX1_pairWithFree 45 = .ok (.getfield 28, 3) := by decide +kernel
theorem dX1_pairWithFree_48 : decode cX1_pairWithFree 48 = .ok (.iload_n 2, 1) := by decide +kernel
theorem dX1_pairWithFree_49 : decode cX1_pairWithFree 49 = .ok (.iload_n 1, 1) := by decide +kernel
theorem dX1_pairWithFree_50 : decode cX1_pairWithFree 50 = .ok (.iastore, 1) := by decide +kernel
theorem dX1_pairWithFree_51 : decode cX1_pairWithFree 51 = .ok (.return_, 1) := by decide +kernel
theorem dX1_pairWithFree_52 : decode cX1_pairWithFree 52 = .ok (.aload_n 0, 1) := by decide +kernel
theorem dX1_pairWithFree_53 : decode cX1_pairWithFree 53 = .ok (.getfield 9, 3) := by decide +kernel
theorem dX1_pairWithFree_56 : decode cX1_pairWithFree 56 = .ok (.getfield 101, 3) := by decide +kernel
theorem dX1_pairWithFree_59 : decode cX1_pairWithFree 59 = .ok (.iload_n 1, 1) := by decide +kernel
theorem dX1_pairWithFree_60 : decode cX1_pairWithFree 60 = .ok (.iload_n 2, 1) := by decide +kernel
theorem dX1_pairWithFree_61 : decode cX1_pairWithFree 61 = .ok (.iconst 1, 1) := by decide +kernel
theorem dX1_pairWithFree_62 : decode cX1_pairWithFree 62 = .ok (.iadd, 1) := by decide +kernel
theorem dX1_pairWithFree_63 : decode cX1_pairWithFree 63 = .ok (.invokevirtual 104, 3) := by decide +kernel
theorem dX1_pairWithFree_66 : decode cX1_pairWithFree 66 = .ok (.istore_n 2, 1) := by decide +kernel
theorem dX1_pairWithFree_67 : decode cX1_pairWithFree 67 = .ok (.iinc 3 1, 3) := by decide +kernel
theorem dX1_pairWithFree_70 : decode cX1_pairWithFree 70 = .ok (.goto (-55), 3) := by decide +kernel
theorem dX1_pairWithFree_73 : decode cX1_pairWithFree 73 = .ok (.return_, 1) := by decide +kernel
theorem dX1_pairAsManyAsCanBe_0 : decode cX1_pairAsManyAsCanBe 0 = .ok (.iconst 0, 1) := by decide +kernel
theorem dX1_pairAsManyAsCanBe_1 : decode cX1_pairAsManyAsCanBe 1 = .ok (.istore_n 1, 1) := by decide +kernel
theorem dX1_pairAsManyAsCanBe_2 : decode cX1_pairAsManyAsCanBe 2 = .ok (.iload_n 1, 1) := by decide +kernel
theorem dX1_pairAsManyAsCanBe_3 : decode cX1_pairAsManyAsCanBe 3 = .ok (.sipush 300, 3) := by decide +kernel
theorem dX1_pairAsManyAsCanBe_6 : decode cX1_pairAsManyAsCanBe 6 = .ok (.if_icmp .gt 25, 3) := by decide +kernel
theorem dX1_pairAsManyAsCanBe_9 : decode cX1_pairAsManyAsCanBe 9 = .ok (.aload_n 0, 1) := by decide +kernel
theorem dX1_pairAsManyAsCanBe_10 : decode cX1_pairAsManyAsCanBe 10 = .ok (.invokevirtual 108, 3) := by decide +kernel
theorem dX1_pairAsManyAsCanBe_13 : decode cX1_pairAsManyAsCanBe 13 = .ok (.istore_n 2, 1) := by decide +kernel
theorem dX1_pairAsManyAsCanBe_14 : decode cX1_pairAsManyAsCanBe 14 = .ok (.iload_n 2, 1) := by decide +kernel
theorem dX1_pairAsManyAsCanBe_15 : decode cX1_pairAsManyAsCanBe 15 = .ok (.iconst (-1), 1) := by decide +kernel
theorem dX1_pairAsManyAsCanBe_16 : decode cX1_pairAsManyAsCanBe 16 = .ok (.if_icmp .ne 4, 3) := by decide +kernel
theorem dX1_pairAsManyAsCanBe_19 : decode cX1_pairAsManyAsCanBe 19 = .ok (.return_, 1) := by decide +kernel
theorem dX1_pairAsManyAsCanBe_20 : decode cX1_pairAsManyAsCanBe 20 = .ok (.aload_n 0, 1) := by decide +kernel
theorem dX1_pairAsManyAsCanBe_21 : decode cX1_pairAsManyAsCanBe 21 = .ok (.iload_n 2, 1) := by decide +kernel
theorem dX1_pairAsManyAsCanBe_22 : decode cX1_pairAsManyAsCanBe 22 = .ok (.invokevirtual 112, 3) := by decide +kernel
theorem dX1_pairAsManyAsCanBe_25 : decode cX1_pairAsManyAsCanBe 25 = .ok (.iinc 1 1, 3) := by decide +kernel
theorem dX1_pairAsManyAsCanBe_28 : decode cX1_pairAsManyAsCanBe 28 = .ok (.goto (-26), 3) := by decide +kernel
theorem dX1_pairAsManyAsCanBe_31 : decode cX1_pairAsManyAsCanBe 31 = .ok (.return_, 1) := by decide +kernel
theorem dX1_reachFromUnpaired_0 : decode cX1_reachFromUnpaired 0 = .ok (.aload_n 0, 1) := by decide +kernel
theorem dX1_reachFromUnpaired_1 : decode cX1_reachFromUnpaired 1 = .ok (.invokevirtual 115, 3) := by decide +kernel
theorem dX1_reachFromUnpaired_4 : decode cX1_reachFromUnpaired 4 = .ok (.iconst 0, 1) := by decide +kernel
theorem dX1_reachFromUnpaired_5 : decode cX1_reachFromUnpaired 5 = .ok (.istore_n 1, 1) := by decide +kernel
theorem dX1_reachFromUnpaired_6 : decode cX1_reachFromUnpaired 6 = .ok (.iload_n 1, 1) := by decide +kernel
theorem dX1_reachFromUnpaired_7 : decode cX1_reachFromUnpaired 7 = .ok (.aload_n 0, 1) := by decide +kernel
theorem dX1_reachFromUnpaired_8 : decode cX1_reachFromUnpaired 8 = .ok (.getfield 118, 3) := by decide +kernel
theorem dX1_reachFromUnpaired_11 : decode cX1_reachFromUnpaired 11 = .ok (.if_icmp .ge 27, 3) := by decide +kernel
theorem dX1_reachFromUnpaired_14 : decode cX1_reachFromUnpaired 14 = .ok (.aload_n 0, 1) := by decide +kernel
theorem dX1_reachFromUnpaired_15 : decode cX1_reachFromUnpaired 15 = .ok (.aload_n 0, 1) := by decide +kernel
theorem dX1_reachFromUnpaired_16 : decode cX1_reachFromUnpaired 16 = .ok (.getfield 35, 3) := by decide +kernel
theorem dX1_reachFromUnpaired_19 : decode cX1_reachFromUnpaired 19 = .ok (.iload_n 1, 1) := by decide +kernel
theorem dX1_reachFromUnpaired_20 : decode cX1_reachFromUnpaired 20 = .ok (.iaload, 1) := by decide +kernel
theorem dX1_reachFromUnpaired_21 : decode cX1_reachFromUnpaired 21 = .ok (.invokevirtual 121, 3) := by decide +kernel
theorem dX1_reachFromUnpaired_24 : decode cX1_reachFromUnpaired 24 = .ok (.istore_n 2, 1) := by decide +kernel
theorem dX1_reachFromUnpaired_25 : decode cX1_reachFromUnpaired 25 = .ok (.iload_n 2, 1) := by decide +kernel
theorem dX1_reachFromUnpaired_26 : decode cX1_reachFromUnpaired 26 = .ok (.iconst (-1), 1) := by decide +kernel
theorem dX1_reachFromUnpaired_27 : decode cX1_reachFromUnpaired 27 = .ok (.if_icmp .eq 5, 3) := by decide +kernel
theorem dX1_reachFromUnpaired_30 : decode cX1_reachFromUnpaired 30 = .ok (.iload_n 2, 1) := by decide +kernel
theorem dX1_reachFromUnpaired_31 : decode cX1_reachFromUnpaired 31 = .ok (.ireturn, 1) := by decide +kernel
theorem dX1_reachFromUnpaired_32 : decode cX1_reachFromUnpaired 32 = .ok (.iinc 1 1, 3) := by decide +kernel
theorem dX1_reachFromUnpaired_35 : decode cX1_reachFromUnpaired 35 = .ok (.goto (-29), 3) := by decide +kernel
theorem dX1_reachFromUnpaired_38 : decode cX1_reachFromUnpaired 38 = .ok (.iconst (-1), 1) := by decide +kernel
theorem dX1_reachFromUnpaired_39 : decode cX1_reachFromUnpaired 39 = .ok (.ireturn, 1) := by decide +kernel
theorem dX1_queueUnpaired_0 : decode cX1_queueUnpaired 0 = .ok (.aload_n 0, 1) := by decide +kernel
theorem dX1_queueUnpaired_1 : decode cX1_queueUnpaired 1 = .ok (.getfield 32, 3) := by decide +kernel
theorem dX1_queueUnpaired_4 : decode cX1_queueUnpaired 4 = .ok (.iconst (-1), 1) := by decide +kernel
theorem dX1_queueUnpaired_5 : decode cX1_queueUnpaired 5 = .ok (.invokestatic 85, 3) := by decide +kernel
theorem dX1_queueUnpaired_8 : decode cX1_queueUnpaired 8 = .ok (.aload_n 0, 1) := by decide +kernel
theorem dX1_queueUnpaired_9 : decode cX1_queueUnpaired 9 = .ok (.iconst 0, 1) := by decide +kernel
theorem dX1_queueUnpaired_10 : decode cX1_queueUnpaired 10 = .ok (.putfield 118, 3) := by decide +kernel
theorem dX1_queueUnpaired_13 : decode cX1_queueUnpaired 13 = .ok (.iconst 0, 1) := by decide +kernel
theorem dX1_queueUnpaired_14 : decode cX1_queueUnpaired 14 = .ok (.istore_n 1, 1) := by decide +kernel
theorem dX1_queueUnpaired_15 : decode cX1_queueUnpaired 15 = .ok (.iload_n 1, 1) := by decide +kernel
theorem dX1_queueUnpaired_16 : decode cX1_queueUnpaired 16 = .ok (.aload_n 0, 1) := by decide +kernel
theorem dX1_queueUnpaired_17 : decode cX1_queueUnpaired 17 = .ok (.getfield 9, 3) := by decide +kernel
theorem dX1_queueUnpaired_20 : decode cX1_queueUnpaired 20 = .ok (.getfield 91, 3) := by decide +kernel
theorem dX1_queueUnpaired_23 : decode cX1_queueUnpaired 23 = .ok (.if_icmp .ge 39, 3) := by decide +kernel
theorem dX1_queueUnpaired_26 : decode cX1_queueUnpaired 26 = .ok (.aload_n 0, 1) := by decide +kernel
theorem dX1_queueUnpaired_27 : decode cX1_queueUnpaired 27 = .ok (.getfield 38, 3) := by decide +kernel
theorem dX1_queueUnpaired_30 : decode cX1_queueUnpaired 30 = .ok (.iload_n 1, 1) := by decide +kernel
theorem dX1_queueUnpaired_31 : decode cX1_queueUnpaired 31 = .ok (.iconst 0, 1) := by decide +kernel
theorem dX1_queueUnpaired_32 : decode cX1_queueUnpaired 32 = .ok (.bastore, 1) := by decide +kernel
theorem dX1_queueUnpaired_33 : decode cX1_queueUnpaired 33 = .ok (.aload_n 0, 1) := by decide +kernel
theorem dX1_queueUnpaired_34 : decode cX1_queueUnpaired 34 = .ok (.iload_n 1, 1) := by decide +kernel
theorem dX1_queueUnpaired_35 : decode cX1_queueUnpaired 35 = .ok (.invokevirtual 94, 3) := by decide +kernel
theorem dX1_queueUnpaired_38 : decode cX1_queueUnpaired 38 = .ok (.ifCond .eq 18, 3) := by decide +kernel
theorem dX1_queueUnpaired_41 : decode cX1_queueUnpaired 41 = .ok (.aload_n 0, 1) := by decide +kernel
theorem dX1_queueUnpaired_42 : decode cX1_queueUnpaired 42 = .ok (.getfield 28, 3) := by decide +kernel
theorem dX1_queueUnpaired_45 : decode cX1_queueUnpaired 45 = .ok (.iload_n 1, 1) := by decide +kernel
theorem dX1_queueUnpaired_46 : decode cX1_queueUnpaired 46 = .ok (.iaload, 1) := by decide +kernel
theorem dX1_queueUnpaired_47 : decode cX1_queueUnpaired 47 = .ok (.iconst (-1), 1) := by decide +kernel
theorem dX1_queueUnpaired_48 : decode cX1_queueUnpaired 48 = .ok (.if_icmp .ne 8, 3) := by decide +kernel
theorem dX1_queueUnpaired_51 : decode cX1_queueUnpaired 51 = .ok (.aload_n 0, 1) := by decide +kernel
theorem dX1_queueUnpaired_52 : decode cX1_queueUnpaired 52 = .ok (.iload_n 1, 1) := by decide +kernel
theorem dX1_queueUnpaired_53 : decode cX1_queueUnpaired 53 = .ok (.invokevirtual 125, 3) := by decide +kernel
theorem dX1_queueUnpaired_56 : decode cX1_queueUnpaired 56 = .ok (.iinc 1 1, 3) := by decide +kernel
theorem dX1_queueUnpaired_59 : decode cX1_queueUnpaired 59 = .ok (.goto (-44), 3) := by decide +kernel
theorem dX1_queueUnpaired_62 : decode cX1_queueUnpaired 62 = .ok (.return_, 1) := by decide +kernel
theorem dX1_reachFrom_0 : decode cX1_reachFrom 0 = .ok (.aload_n 0, 1) := by decide +kernel
theorem dX1_reachFrom_1 : decode cX1_reachFrom 1 = .ok (.getfield 9, 3) := by decide +kernel
theorem dX1_reachFrom_4 : decode cX1_reachFrom 4 = .ok (.getfield 101, 3) := by decide +kernel
theorem dX1_reachFrom_7 : decode cX1_reachFrom 7 = .ok (.iload_n 1, 1) := by decide +kernel
theorem dX1_reachFrom_8 : decode cX1_reachFrom 8 = .ok (.iconst 0, 1) := by decide +kernel
theorem dX1_reachFrom_9 : decode cX1_reachFrom 9 = .ok (.invokevirtual 104, 3) := by decide +kernel
theorem dX1_reachFrom_12 : decode cX1_reachFrom 12 = .ok (.istore_n 2, 1) := by decide +kernel
theorem dX1_reachFrom_13 : decode cX1_reachFrom 13 = .ok (.iconst 0, 1) := by decide +kernel
theorem dX1_reachFrom_14 : decode cX1_reachFrom 14 = .ok (.istore_n 3, 1) := by decide +kernel
theorem dX1_reachFrom_15 : decode cX1_reachFrom 15 = .ok (.iload_n 3, 1) := by decide +kernel
theorem dX1_reachFrom_16 : decode cX1_reachFrom 16 = .ok (.sipush 300, 3) := by decide +kernel
theorem dX1_reachFrom_19 : decode cX1_reachFrom 19 = .ok (.if_icmp .ge 68, 3) := by decide +kernel
theorem dX1_reachFrom_22 : decode cX1_reachFrom 22 = .ok (.iload_n 2, 1) := by decide +kernel
theorem dX1_reachFrom_23 : decode cX1_reachFrom 23 = .ok (.iconst (-1), 1) := by decide +kernel
theorem dX1_reachFrom_24 : decode cX1_reachFrom 24 = .ok (.if_icmp .eq 63, 3) := by decide +kernel
theorem dX1_reachFrom_27 : decode cX1_reachFrom 27 = .ok (.aload_n 0, 1) := by decide +kernel
theorem dX1_reachFrom_28 : decode cX1_reachFrom 28 = .ok (.getfield 32, 3) := by decide +kernel
theorem dX1_reachFrom_31 : decode cX1_reachFrom 31 = .ok (.iload_n 2, 1) := by decide +kernel
theorem dX1_reachFrom_32 : decode cX1_reachFrom 32 = .ok (.iaload, 1) := by decide +kernel
theorem dX1_reachFrom_33 : decode cX1_reachFrom 33 = .ok (.iconst (-1), 1) := by decide +kernel
theorem dX1_reachFrom_34 : decode cX1_reachFrom 34 = .ok (.if_icmp .ne 32, 3) := by decide +kernel
theorem dX1_reachFrom_37 : decode cX1_reachFrom 37 = .ok (.aload_n 0, 1) := by decide +kernel
theorem dX1_reachFrom_38 : decode cX1_reachFrom 38 = .ok (.getfield 32, 3) := by decide +kernel
theorem dX1_reachFrom_41 : decode cX1_reachFrom 41 = .ok (.iload_n 2, 1) := by decide +kernel
theorem dX1_reachFrom_42 : decode cX1_reachFrom 42 = .ok (.iload_n 1, 1) := by decide +kernel
theorem dX1_reachFrom_43 : decode cX1_reachFrom 43 = .ok (.iastore, 1) := by decide +kernel
theorem dX1_reachFrom_44 : decode cX1_reachFrom 44 = .ok (.aload_n 0, 1) := by decide +kernel
theorem dX1_reachFrom_45 : decode cX1_reachFrom 45 = .ok (.getfield 28, 3) := by decide +kernel
theorem dX1_reachFrom_48 : decode cX1_reachFrom 48 = .ok (.iload_n 2, 1) := by decide +kernel
theorem dX1_reachFrom_49 : decode cX1_reachFrom 49 = .ok (.iaload, 1) := by decide +kernel
theorem dX1_reachFrom_50 : decode cX1_reachFrom 50 = .ok (.iconst (-1), 1) := by decide +kernel
theorem dX1_reachFrom_51 : decode cX1_reachFrom 51 = .ok (.if_icmp .ne 5, 3) := by decide +kernel
theorem dX1_reachFrom_54 : decode cX1_reachFrom 54 = .ok (.iload_n 2, 1) := by decide +kernel
theorem dX1_reachFrom_55 : decode cX1_reachFrom 55 = .ok (.ireturn, 1) := by decide +kernel
theorem dX1_reachFrom_56 : decode cX1_reachFrom 56 = .ok (.aload_n 0, 1) := by decide +kernel
theorem dX1_reachFrom_57 : decode cX1_reachFrom 57 = .ok (.aload_n 0, 1) := by decide +kernel
theorem dX1_reachFrom_58 : decode cX1_reachFrom 58 = .ok (.getfield 28, 3) := by decide +kernel
theorem dX1_reachFrom_61 : decode cX1_reachFrom 61 = .ok (.iload_n 2, 1) := by decide +kernel
theorem dX1_reachFrom_62 : decode cX1_reachFrom 62 = .ok (.iaload, 1) := by decide +kernel
theorem dX1_reachFrom_63 : decode cX1_reachFrom 63 = .ok (.invokevirtual 125, 3) := by decide +kernel
theorem dX1_reachFrom_66 : decode cX1_reachFrom 66 = .ok (.aload_n 0, 1) := by decide +kernel
theorem dX1_reachFrom_67 : decode cX1_reachFrom 67 = .ok (.getfield 9, 3) := by decide +kernel
theorem dX1_reachFrom_70 : decode cX1_reachFrom 70 = .ok (.getfield 101, 3) := by decide +kernel
theorem dX1_reachFrom_73 : decode cX1_reachFrom 73 = .ok (.iload_n 1, 1) := by decide +kernel
theorem dX1_reachFrom_74 : decode cX1_reachFrom 74 = .ok (.iload_n 2, 1) := by decide +kernel
theorem dX1_reachFrom_75 : decode cX1_reachFrom 75 = .ok (.iconst 1, 1) := by decide +kernel
theorem dX1_reachFrom_76 : decode cX1_reachFrom 76 = .ok (.iadd, 1) := by decide +kernel
theorem dX1_reachFrom_77 : decode cX1_reachFrom 77 = .ok (.invokevirtual 104, 3) := by decide +kernel
theorem dX1_reachFrom_80 : decode cX1_reachFrom 80 = .ok (.istore_n 2, 1) := by decide +kernel
theorem dX1_reachFrom_81 : decode cX1_reachFrom 81 = .ok (.iinc 3 1, 3) := by decide +kernel
theorem dX1_reachFrom_84 : decode cX1_reachFrom 84 = .ok (.goto (-69), 3) := by decide +kernel
theorem dX1_reachFrom_87 : decode cX1_reachFrom 87 = .ok (.iconst (-1), 1) := by decide +kernel
theorem dX1_reachFrom_88 : decode cX1_reachFrom 88 = .ok (.ireturn, 1) := by decide +kernel
theorem dX1_putInQueue_0 : decode cX1_putInQueue 0 = .ok (.aload_n 0, 1) := by decide +kernel
theorem dX1_putInQueue_1 : decode cX1_putInQueue 1 = .ok (.getfield 38, 3) := by decide +kernel
theorem dX1_putInQueue_4 : decode cX1_putInQueue 4 = .ok (.iload_n 1, 1) := by decide +kernel
theorem dX1_putInQueue_5 : decode cX1_putInQueue 5 = .ok (.baload, 1) := by decide +kernel
theorem dX1_putInQueue_6 : decode cX1_putInQueue 6 = .ok (.ifCond .ne 40, 3) := by decide +kernel
theorem dX1_putInQueue_9 : decode cX1_putInQueue 9 = .ok (.aload_n 0, 1) := by decide +kernel
theorem dX1_putInQueue_10 : decode cX1_putInQueue 10 = .ok (.getfield 118, 3) := by decide +kernel
theorem dX1_putInQueue_13 : decode cX1_putInQueue 13 = .ok (.sipush 300, 3) := by decide +kernel
theorem dX1_putInQueue_16 : decode cX1_putInQueue 16 = .ok (.if_icmp .ge 30, 3) := by decide +kernel
theorem dX1_putInQueue_19 : decode cX1_putInQueue 19 = .ok (.aload_n 0, 1) := by decide +kernel
theorem dX1_putInQueue_20 : decode cX1_putInQueue 20 = .ok (.getfield 38, 3) := by decide +kernel
theorem dX1_putInQueue_23 : decode cX1_putInQueue 23 = .ok (.iload_n 1, 1) := by decide +kernel
theorem dX1_putInQueue_24 : decode cX1_putInQueue 24 = .ok (.iconst 1, 1) := by decide +kernel
theorem dX1_putInQueue_25 : decode cX1_putInQueue 25 = .ok (.bastore, 1) := by decide +kernel
theorem dX1_putInQueue_26 : decode cX1_putInQueue 26 = .ok (.aload_n 0, 1) := by decide +kernel
theorem dX1_putInQueue_27 : decode cX1_putInQueue 27 = .ok (.getfield 35, 3) := by decide +kernel
theorem dX1_putInQueue_30 : decode cX1_putInQueue 30 = .ok (.aload_n 0, 1) := by decide +kernel
theorem dX1_putInQueue_31 : decode cX1_putInQueue 31 = .ok (.getfield 118, 3) := by decide +kernel
theorem dX1_putInQueue_34 : decode cX1_putInQueue 34 = .ok (.iload_n 1, 1) := by decide +kernel
theorem dX1_putInQueue_35 : decode cX1_putInQueue 35 = .ok (.iastore, 1) := by decide +kernel
theorem dX1_putInQueue_36 : decode cX1_putInQueue 36 = .ok (.aload_n 0, 1) := by decide +kernel
theorem dX1_putInQueue_37 : decode cX1_putInQueue 37 = .ok (.dup, 1) := by decide +kernel
theorem dX1_putInQueue_38 : decode cX1_putInQueue 38 = .ok (.getfield 118, 3) := by decide +kernel
theorem dX1_putInQueue_41 : decode cX1_putInQueue 41 = .ok (.iconst 1, 1) := by decide +kernel
theorem dX1_putInQueue_42 : decode cX1_putInQueue 42 = .ok (.iadd, 1) := by decide +kernel
theorem dX1_putInQueue_43 : decode cX1_putInQueue 43 = .ok (.putfield 118, 3) := by decide +kernel
theorem dX1_putInQueue_46 : decode cX1_putInQueue 46 = .ok (.return_, 1) := by decide +kernel
theorem dX1_turnPairsUpTo_0 : decode cX1_turnPairsUpTo 0 = .ok (.iload_n 1, 1) := by decide +kernel
theorem dX1_turnPairsUpTo_1 : decode cX1_turnPairsUpTo 1 = .ok (.istore_n 2, 1) := by decide +kernel
theorem dX1_turnPairsUpTo_2 : decode cX1_turnPairsUpTo 2 = .ok (.iconst 0, 1) := by decide +kernel
theorem dX1_turnPairsUpTo_3 : decode cX1_turnPairsUpTo 3 = .ok (.istore_n 3, 1) := by decide +kernel
theorem dX1_turnPairsUpTo_4 : decode cX1_turnPairsUpTo 4 = .ok (.iload_n 3, 1) := by decide +kernel
theorem dX1_turnPairsUpTo_5 : decode cX1_turnPairsUpTo 5 = .ok (.sipush 300, 3) := by decide +kernel
theorem dX1_turnPairsUpTo_8 : decode cX1_turnPairsUpTo 8 = .ok (.if_icmp .ge 57, 3) := by decide +kernel
theorem dX1_turnPairsUpTo_11 : decode cX1_turnPairsUpTo 11 = .ok (.iload_n 2, 1) := by decide +kernel
theorem dX1_turnPairsUpTo_12 : decode cX1_turnPairsUpTo 12 = .ok (.iconst (-1), 1) := by decide +kernel
theorem dX1_turnPairsUpTo_13 : decode cX1_turnPairsUpTo 13 = .ok (.if_icmp .eq 52, 3) := by decide +kernel
theorem dX1_turnPairsUpTo_16 : decode cX1_turnPairsUpTo 16 = .ok (.aload_n 0, 1) := by decide +kernel
theorem dX1_turnPairsUpTo_17 : decode cX1_turnPairsUpTo 17 = .ok (.getfield 32, 3) := by decide +kernel
theorem dX1_turnPairsUpTo_20 : decode cX1_turnPairsUpTo 20 = .ok (.iload_n 2, 1) := by decide +kernel
theorem dX1_turnPairsUpTo_21 : decode cX1_turnPairsUpTo 21 = .ok (.iaload, 1) := by decide +kernel
theorem dX1_turnPairsUpTo_22 : decode cX1_turnPairsUpTo 22 = .ok (.istore 4, 2) := by decide +kernel
theorem dX1_turnPairsUpTo_24 : decode cX1_turnPairsUpTo 24 = .ok (.iload 4, 2) := by decide +kernel
theorem dX1_turnPairsUpTo_26 : decode cX1_turnPairsUpTo 26 = .ok (.iconst (-1), 1) := by decide +kernel
theorem dX1_turnPairsUpTo_27 : decode cX1_turnPairsUpTo 27 = .ok (.if_icmp .ne 4, 3) := by decide +kernel
theorem dX1_turnPairsUpTo_30 : decode cX1_turnPairsUpTo 30 = .ok (.return_, 1) := by decide +kernel
theorem dX1_turnPairsUpTo_31 : decode cX1_turnPairsUpTo 31 = .ok (.aload_n 0, 1) := by decide +kernel
theorem dX1_turnPairsUpTo_32 : decode cX1_turnPairsUpTo 32 = .ok (.getfield 28, 3) := by decide +kernel
theorem dX1_turnPairsUpTo_35 : decode cX1_turnPairsUpTo 35 = .ok (.iload 4, 2) := by decide +kernel
theorem dX1_turnPairsUpTo_37 : decode cX1_turnPairsUpTo 37 = .ok (.iaload, 1) := by decide +kernel
theorem dX1_turnPairsUpTo_38 : decode cX1_turnPairsUpTo 38 = .ok (.istore 5, 2) := by decide +kernel
theorem dX1_turnPairsUpTo_40 : decode cX1_turnPairsUpTo 40 = .ok (.aload_n 0, 1) := by decide +kernel
theorem dX1_turnPairsUpTo_41 : decode cX1_turnPairsUpTo 41 = .ok (.getfield 28, 3) := by decide +kernel
theorem dX1_turnPairsUpTo_44 : decode cX1_turnPairsUpTo 44 = .ok (.iload 4, 2) := by decide +kernel
theorem dX1_turnPairsUpTo_46 : decode cX1_turnPairsUpTo 46 = .ok (.iload_n 2, 1) := by decide +kernel
theorem dX1_turnPairsUpTo_47 : decode cX1_turnPairsUpTo 47 = .ok (.iastore, 1) := by decide +kernel
theorem dX1_turnPairsUpTo_48 : decode cX1_turnPairsUpTo 48 = .ok (.aload_n 0, 1) := by decide +kernel
theorem dX1_turnPairsUpTo_49 : decode cX1_turnPairsUpTo 49 = .ok (.getfield 28, 3) := by decide +kernel
theorem dX1_turnPairsUpTo_52 : decode cX1_turnPairsUpTo 52 = .ok (.iload_n 2, 1) := by decide +kernel
theorem dX1_turnPairsUpTo_53 : decode cX1_turnPairsUpTo 53 = .ok (.iload 4, 2) := by decide +kernel
theorem dX1_turnPairsUpTo_55 : decode cX1_turnPairsUpTo 55 = .ok (.iastore, 1) := by decide +kernel
theorem dX1_turnPairsUpTo_56 : decode cX1_turnPairsUpTo 56 = .ok (.iload 5, 2) := by decide +kernel
theorem dX1_turnPairsUpTo_58 : decode cX1_turnPairsUpTo 58 = .ok (.istore_n 2, 1) := by decide +kernel
theorem dX1_turnPairsUpTo_59 : decode cX1_turnPairsUpTo 59 = .ok (.iinc 3 1, 3) := by decide +kernel
theorem dX1_turnPairsUpTo_62 : decode cX1_turnPairsUpTo 62 = .ok (.goto (-58), 3) := by decide +kernel
theorem dX1_turnPairsUpTo_65 : decode cX1_turnPairsUpTo 65 = .ok (.return_, 1) := by decide +kernel
theorem dX1_markOpened_0 : decode cX1_markOpened 0 = .ok (.iconst 0, 1) := by decide +kernel
theorem dX1_markOpened_1 : decode cX1_markOpened 1 = .ok (.istore_n 1, 1) := by decide +kernel
theorem dX1_markOpened_2 : decode cX1_markOpened 2 = .ok (.iload_n 1, 1) := by decide +kernel
theorem dX1_markOpened_3 : decode cX1_markOpened 3 = .ok (.aload_n 0, 1) := by decide +kernel
theorem dX1_markOpened_4 : decode cX1_markOpened 4 = .ok (.getfield 9, 3) := by decide +kernel
theorem dX1_markOpened_7 : decode cX1_markOpened 7 = .ok (.getfield 91, 3) := by decide +kernel
theorem dX1_markOpened_10 : decode cX1_markOpened 10 = .ok (.if_icmp .ge 47, 3) := by decide +kernel
theorem dX1_markOpened_13 : decode cX1_markOpened 13 = .ok (.aload_n 0, 1) := by decide +kernel
theorem dX1_markOpened_14 : decode cX1_markOpened 14 = .ok (.getfield 9, 3) := by decide +kernel
theorem dX1_markOpened_17 : decode cX1_markOpened 17 = .ok (.iload_n 1, 1) := by decide +kernel
theorem dX1_markOpened_18 : decode cX1_markOpened 18 = .ok (.invokevirtual 128, 3) := by decide +kernel
theorem dX1_markOpened_21 : decode cX1_markOpened 21 = .ok (.ifCond .eq 30, 3) := by decide +kernel
theorem dX1_markOpened_24 : decode cX1_markOpened 24 = .ok (.aload_n 0, 1) := by decide +kernel
theorem dX1_markOpened_25 : decode cX1_markOpened 25 = .ok (.iload_n 1, 1) := by decide +kernel
theorem dX1_markOpened_26 : decode cX1_markOpened 26 = .ok (.invokevirtual 131, 3) := by decide +kernel
theorem dX1_markOpened_29 : decode cX1_markOpened 29 = .ok (.ifCond .eq 22, 3) := by decide +kernel
theorem dX1_markOpened_32 : decode cX1_markOpened 32 = .ok (.aload_n 0, 1) := by decide +kernel
theorem dX1_markOpened_33 : decode cX1_markOpened 33 = .ok (.getfield 24, 3) := by decide +kernel
theorem dX1_markOpened_36 : decode cX1_markOpened 36 = .ok (.iconst 0, 1) := by decide +kernel
theorem dX1_markOpened_37 : decode cX1_markOpened 37 = .ok (.iload_n 1, 1) := by decide +kernel
theorem dX1_markOpened_38 : decode cX1_markOpened 38 = .ok (.invokevirtual 134, 3) := by decide +kernel
theorem dX1_markOpened_41 : decode cX1_markOpened 41 = .ok (.aload_n 0, 1) := by decide +kernel
theorem dX1_markOpened_42 : decode cX1_markOpened 42 = .ok (.dup, 1) := by decide +kernel
theorem dX1_markOpened_43 : decode cX1_markOpened 43 = .ok (.getfield 59, 3) := by decide +kernel
theorem dX1_markOpened_46 : decode cX1_markOpened 46 = .ok (.iconst 1, 1) := by decide +kernel
theorem dX1_markOpened_47 : decode cX1_markOpened 47 = .ok (.iadd, 1) := by decide +kernel
theorem dX1_markOpened_48 : decode cX1_markOpened 48 = .ok (.putfield 59, 3) := by decide +kernel
theorem dX1_markOpened_51 : decode cX1_markOpened 51 = .ok (.iinc 1 1, 3) := by decide +kernel
theorem dX1_markOpened_54 : decode cX1_markOpened 54 = .ok (.goto (-52), 3) := by decide +kernel
theorem dX1_markOpened_57 : decode cX1_markOpened 57 = .ok (.return_, 1) := by decide +kernel
theorem dX1_needsOpening_0 : decode cX1_needsOpening 0 = .ok (.aload_n 0, 1) := by decide +kernel
theorem dX1_needsOpening_1 : decode cX1_needsOpening 1 = .ok (.getfield 15, 3) := by decide +kernel
theorem dX1_needsOpening_4 : decode cX1_needsOpening 4 = .ok (.getfield 138, 3) := by decide +kernel
theorem dX1_needsOpening_7 : decode cX1_needsOpening 7 = .ok (.iload_n 1, 1) := by decide +kernel
theorem dX1_needsOpening_8 : decode cX1_needsOpening 8 = .ok (.baload, 1) := by decide +kernel
theorem dX1_needsOpening_9 : decode cX1_needsOpening 9 = .ok (.ifCond .eq 29, 3) := by decide +kernel
theorem dX1_needsOpening_12 : decode cX1_needsOpening 12 = .ok (.aload_n 0, 1) := by decide +kernel
theorem dX1_needsOpening_13 : decode cX1_needsOpening 13 = .ok (.getfield 38, 3) := by decide +kernel
theorem dX1_needsOpening_16 : decode cX1_needsOpening 16 = .ok (.iload_n 1, 1) := by decide +kernel
theorem dX1_needsOpening_17 : decode cX1_needsOpening 17 = .ok (.baload, 1) := by decide +kernel
theorem dX1_needsOpening_18 : decode cX1_needsOpening 18 = .ok (.ifCond .ne 18, 3) := by decide +kernel
theorem dX1_needsOpening_21 : decode cX1_needsOpening 21 = .ok (.aload_n 0, 1) := by decide +kernel
theorem dX1_needsOpening_22 : decode cX1_needsOpening 22 = .ok (.getfield 9, 3) := by decide +kernel
theorem dX1_needsOpening_25 : decode cX1_needsOpening 25 = .ok (.iload_n 1, 1) := by decide +kernel
theorem dX1_needsOpening_26 : decode cX1_needsOpening 26 = .ok (.invokevirtual 141, 3) := by decide +kernel
theorem dX1_needsOpening_29 : decode cX1_needsOpening 29 = .ok (.ifCond .le 7, 3) := by decide +kernel
theorem dX1_needsOpening_32 : decode cX1_needsOpening 32 = .ok (.iconst 1, 1) := by decide +kernel
theorem dX1_needsOpening_33 : decode cX1_needsOpening 33 = .ok (.goto 4, 3) := by decide +kernel
theorem dX1_needsOpening_36 : decode cX1_needsOpening 36 = .ok (.iconst 0, 1) := by decide +kernel
theorem dX1_needsOpening_37 : decode cX1_needsOpening 37 = .ok (.ireturn, 1) := by decide +kernel
theorem dX1_needsOpening_38 : decode cX1_needsOpening 38 = .ok (.aload_n 0, 1) := by decide +kernel
theorem dX1_needsOpening_39 : decode cX1_needsOpening 39 = .ok (.getfield 32, 3) := by decide +kernel
theorem dX1_needsOpening_42 : decode cX1_needsOpening 42 = .ok (.iload_n 1, 1) := by decide +kernel
theorem dX1_needsOpening_43 : decode cX1_needsOpening 43 = .ok (.iaload, 1) := by decide +kernel
theorem dX1_needsOpening_44 : decode cX1_needsOpening 44 = .ok (.iconst (-1), 1) := by decide +kernel
theorem dX1_needsOpening_45 : decode cX1_needsOpening 45 = .ok (.if_icmp .eq 7, 3) := by decide +kernel
theorem dX1_needsOpening_48 : decode cX1_needsOpening 48 = .ok (.iconst 1, 1) := by decide +kernel
theorem dX1_needsOpening_49 : decode cX1_needsOpening 49 = .ok (.goto 4, 3) := by decide +kernel
theorem dX1_needsOpening_52 : decode cX1_needsOpening 52 = .ok (.iconst 0, 1) := by decide +kernel
theorem dX1_needsOpening_53 : decode cX1_needsOpening 53 = .ok (.ireturn, 1) := by decide +kernel
theorem dX1_putInOrder_0 : decode cX1_putInOrder 0 = .ok (.aload_n 0, 1) := by decide +kernel
theorem dX1_putInOrder_1 : decode cX1_putInOrder 1 = .ok (.getfield 24, 3) := by decide +kernel
theorem dX1_putInOrder_4 : decode cX1_putInOrder 4 = .ok (.iconst 1, 1) := by decide +kernel
theorem dX1_putInOrder_5 : decode cX1_putInOrder 5 = .ok (.aload_n 0, 1) := by decide +kernel
theorem dX1_putInOrder_6 : decode cX1_putInOrder 6 = .ok (.getfield 24, 3) := by decide +kernel
theorem dX1_putInOrder_9 : decode cX1_putInOrder 9 = .ok (.iconst 0, 1) := by decide +kernel
theorem dX1_putInOrder_10 : decode cX1_putInOrder 10 = .ok (.invokevirtual 144, 3) := by decide +kernel
theorem dX1_putInOrder_13 : decode cX1_putInOrder 13 = .ok (.iconst 0, 1) := by decide +kernel
theorem dX1_putInOrder_14 : decode cX1_putInOrder 14 = .ok (.istore_n 1, 1) := by decide +kernel
theorem dX1_putInOrder_15 : decode cX1_putInOrder 15 = .ok (.iload_n 1, 1) := by decide +kernel
theorem dX1_putInOrder_16 : decode cX1_putInOrder 16 = .ok (.aload_n 0, 1) := by decide +kernel
theorem dX1_putInOrder_17 : decode cX1_putInOrder 17 = .ok (.getfield 59, 3) := by decide +kernel
theorem dX1_putInOrder_20 : decode cX1_putInOrder 20 = .ok (.if_icmp .ge 46, 3) := by decide +kernel
theorem dX1_putInOrder_23 : decode cX1_putInOrder 23 = .ok (.aload_n 0, 1) := by decide +kernel
theorem dX1_putInOrder_24 : decode cX1_putInOrder 24 = .ok (.invokevirtual 148, 3) := by decide +kernel
theorem dX1_putInOrder_27 : decode cX1_putInOrder 27 = .ok (.istore_n 2, 1) := by decide +kernel
theorem dX1_putInOrder_28 : decode cX1_putInOrder 28 = .ok (.aload_n 0, 1) := by decide +kernel
theorem dX1_putInOrder_29 : decode cX1_putInOrder 29 = .ok (.getfield 42, 3) := by decide +kernel
theorem dX1_putInOrder_32 : decode cX1_putInOrder 32 = .ok (.iload_n 1, 1) := by decide +kernel
theorem dX1_putInOrder_33 : decode cX1_putInOrder 33 = .ok (.iload_n 2, 1) := by decide +kernel
theorem dX1_putInOrder_34 : decode cX1_putInOrder 34 = .ok (.iastore, 1) := by decide +kernel
theorem dX1_putInOrder_35 : decode cX1_putInOrder 35 = .ok (.iload_n 2, 1) := by decide +kernel
theorem dX1_putInOrder_36 : decode cX1_putInOrder 36 = .ok (.iconst (-1), 1) := by decide +kernel
theorem dX1_putInOrder_37 : decode cX1_putInOrder 37 = .ok (.if_icmp .ne 4, 3) := by decide +kernel
theorem dX1_putInOrder_40 : decode cX1_putInOrder 40 = .ok (.return_, 1) := by decide +kernel
theorem dX1_putInOrder_41 : decode cX1_putInOrder 41 = .ok (.aload_n 0, 1) := by decide +kernel
theorem dX1_putInOrder_42 : decode cX1_putInOrder 42 = .ok (.getfield 24, 3) := by decide +kernel
theorem dX1_putInOrder_45 : decode cX1_putInOrder 45 = .ok (.iconst 1, 1) := by decide +kernel
theorem dX1_putInOrder_46 : decode cX1_putInOrder 46 = .ok (.iload_n 2, 1) := by decide +kernel
theorem dX1_putInOrder_47 : decode cX1_putInOrder 47 = .ok (.invokevirtual 151, 3) := by decide +kernel
theorem dX1_putInOrder_50 : decode cX1_putInOrder 50 = .ok (.aload_n 0, 1) := by decide +kernel
theorem dX1_putInOrder_51 : decode cX1_putInOrder 51 = .ok (.iload_n 2, 1) := by decide +kernel
theorem dX1_putInOrder_52 : decode cX1_putInOrder 52 = .ok (.invokevirtual 154, 3) := by decide +kernel
theorem dX1_putInOrder_55 : decode cX1_putInOrder 55 = .ok (.aload_n 0, 1) := by decide +kernel
theorem dX1_putInOrder_56 : decode cX1_putInOrder 56 = .ok (.iload_n 2, 1) := by decide +kernel
theorem dX1_putInOrder_57 : decode cX1_putInOrder 57 = .ok (.invokevirtual 157, 3) := by decide +kernel
theorem dX1_putInOrder_60 : decode cX1_putInOrder 60 = .ok (.iinc 1 1, 3) := by decide +kernel
theorem dX1_putInOrder_63 : decode cX1_putInOrder 63 = .ok (.goto (-48), 3) := by decide +kernel
theorem dX1_putInOrder_66 : decode cX1_putInOrder 66 = .ok (.return_, 1) := by decide +kernel
theorem dX1_nextToOpen_0 : decode cX1_nextToOpen 0 = .ok (.aload_n 0, 1) := by decide +kernel
theorem dX1_nextToOpen_1 : decode cX1_nextToOpen 1 = .ok (.getfield 24, 3) := by decide +kernel
theorem dX1_nextToOpen_4 : decode cX1_nextToOpen 4 = .ok (.iconst 1, 1) := by decide +kernel
theorem dX1_nextToOpen_5 : decode cX1_nextToOpen 5 = .ok (.iconst 0, 1) := by decide +kernel
end
section
theorem dX1_nextToOpen_6 : decode cX1_nextToOpen 6 = .ok (.invokevirtual 104, 3) := by decide +kernel
theorem dX1_nextToOpen_9 : decode cX1_nextToOpen 9 = .ok (.istore_n 1, 1) := by decide +kernel
theorem dX1_nextToOpen_10 : decode cX1_nextToOpen 10 = .ok (.iload_n 1, 1) := by decide +kernel
theorem dX1_nextToOpen_11 : decode cX1_nextToOpen 11 = .ok (.istore_n 2, 1) := by decide +kernel
theorem dX1_nextToOpen_12 : decode cX1_nextToOpen 12 = .ok (.iconst 0, 1) := by decide +kernel
theorem dX1_nextToOpen_13 : decode cX1_nextToOpen 13 = .ok (.istore_n 3, 1) := by decide +kernel
theorem dX1_nextToOpen_14 : decode cX1_nextToOpen 14 = .ok (.iload_n 3, 1) := by decide +kernel
theorem dX1_nextToOpen_15 : decode cX1_nextToOpen 15 = .ok (.sipush 300, 3) := by decide +kernel
theorem dX1_nextToOpen_18 : decode cX1_nextToOpen 18 = .ok (.if_icmp .ge 40, 3) := by decide +kernel
theorem dX1_nextToOpen_21 : decode cX1_nextToOpen 21 = .ok (.iload_n 2, 1) := by decide +kernel
theorem dX1_nextToOpen_22 : decode cX1_nextToOpen 22 = .ok (.iconst (-1), 1) := by decide +kernel
theorem dX1_nextToOpen_23 : decode cX1_nextToOpen 23 = .ok (.if_icmp .eq 35, 3) := by decide +kernel
theorem dX1_nextToOpen_26 : decode cX1_nextToOpen 26 = .ok (.aload_n 0, 1) := by decide +kernel
theorem dX1_nextToOpen_27 : decode cX1_nextToOpen 27 = .ok (.getfield 24, 3) := by decide +kernel
theorem dX1_nextToOpen_30 : decode cX1_nextToOpen 30 = .ok (.iconst 3, 1) := by decide +kernel
theorem dX1_nextToOpen_31 : decode cX1_nextToOpen 31 = .ok (.iload_n 2, 1) := by decide +kernel
theorem dX1_nextToOpen_32 : decode cX1_nextToOpen 32 = .ok (.invokevirtual 81, 3) := by decide +kernel
theorem dX1_nextToOpen_35 : decode cX1_nextToOpen 35 = .ok (.ifCond .eq 5, 3) := by decide +kernel
theorem dX1_nextToOpen_38 : decode cX1_nextToOpen 38 = .ok (.iload_n 2, 1) := by decide +kernel
theorem dX1_nextToOpen_39 : decode cX1_nextToOpen 39 = .ok (.ireturn, 1) := by decide +kernel
theorem dX1_nextToOpen_40 : decode cX1_nextToOpen 40 = .ok (.aload_n 0, 1) := by decide +kernel
theorem dX1_nextToOpen_41 : decode cX1_nextToOpen 41 = .ok (.getfield 24, 3) := by decide +kernel
theorem dX1_nextToOpen_44 : decode cX1_nextToOpen 44 = .ok (.iconst 1, 1) := by decide +kernel
theorem dX1_nextToOpen_45 : decode cX1_nextToOpen 45 = .ok (.iload_n 2, 1) := by decide +kernel
theorem dX1_nextToOpen_46 : decode cX1_nextToOpen 46 = .ok (.iconst 1, 1) := by decide +kernel
theorem dX1_nextToOpen_47 : decode cX1_nextToOpen 47 = .ok (.iadd, 1) := by decide +kernel
theorem dX1_nextToOpen_48 : decode cX1_nextToOpen 48 = .ok (.invokevirtual 104, 3) := by decide +kernel
theorem dX1_nextToOpen_51 : decode cX1_nextToOpen 51 = .ok (.istore_n 2, 1) := by decide +kernel
theorem dX1_nextToOpen_52 : decode cX1_nextToOpen 52 = .ok (.iinc 3 1, 3) := by decide +kernel
theorem dX1_nextToOpen_55 : decode cX1_nextToOpen 55 = .ok (.goto (-41), 3) := by decide +kernel
theorem dX1_nextToOpen_58 : decode cX1_nextToOpen 58 = .ok (.iload_n 1, 1) := by decide +kernel
theorem dX1_nextToOpen_59 : decode cX1_nextToOpen 59 = .ok (.ireturn, 1) := by decide +kernel
theorem dX1_takeLinkedInHand_0 : decode cX1_takeLinkedInHand 0 = .ok (.aload_n 0, 1) := by decide +kernel
theorem dX1_takeLinkedInHand_1 : decode cX1_takeLinkedInHand 1 = .ok (.getfield 9, 3) := by decide +kernel
theorem dX1_takeLinkedInHand_4 : decode cX1_takeLinkedInHand 4 = .ok (.getfield 101, 3) := by decide +kernel
theorem dX1_takeLinkedInHand_7 : decode cX1_takeLinkedInHand 7 = .ok (.iload_n 1, 1) := by decide +kernel
theorem dX1_takeLinkedInHand_8 : decode cX1_takeLinkedInHand 8 = .ok (.iconst 0, 1) := by decide +kernel
theorem dX1_takeLinkedInHand_9 : decode cX1_takeLinkedInHand 9 = .ok (.invokevirtual 104, 3) := by decide +kernel
theorem dX1_takeLinkedInHand_12 : decode cX1_takeLinkedInHand 12 = .ok (.istore_n 2, 1) := by decide +kernel
theorem dX1_takeLinkedInHand_13 : decode cX1_takeLinkedInHand 13 = .ok (.iconst 0, 1) := by decide +kernel
theorem dX1_takeLinkedInHand_14 : decode cX1_takeLinkedInHand 14 = .ok (.istore_n 3, 1) := by decide +kernel
theorem dX1_takeLinkedInHand_15 : decode cX1_takeLinkedInHand 15 = .ok (.iload_n 3, 1) := by decide +kernel
theorem dX1_takeLinkedInHand_16 : decode cX1_takeLinkedInHand 16 = .ok (.sipush 300, 3) := by decide +kernel
theorem dX1_takeLinkedInHand_19 : decode cX1_takeLinkedInHand 19 = .ok (.if_icmp .ge 34, 3) := by decide +kernel
theorem dX1_takeLinkedInHand_22 : decode cX1_takeLinkedInHand 22 = .ok (.iload_n 2, 1) := by decide +kernel
theorem dX1_takeLinkedInHand_23 : decode cX1_takeLinkedInHand 23 = .ok (.iconst (-1), 1) := by decide +kernel
theorem dX1_takeLinkedInHand_24 : decode cX1_takeLinkedInHand 24 = .ok (.if_icmp .eq 29, 3) := by decide +kernel
theorem dX1_takeLinkedInHand_27 : decode cX1_takeLinkedInHand 27 = .ok (.aload_n 0, 1) := by decide +kernel
theorem dX1_takeLinkedInHand_28 : decode cX1_takeLinkedInHand 28 = .ok (.iload_n 2, 1) := by decide +kernel
theorem dX1_takeLinkedInHand_29 : decode cX1_takeLinkedInHand 29 = .ok (.invokevirtual 154, 3) := by decide +kernel
theorem dX1_takeLinkedInHand_32 : decode cX1_takeLinkedInHand 32 = .ok (.aload_n 0, 1) := by decide +kernel
theorem dX1_takeLinkedInHand_33 : decode cX1_takeLinkedInHand 33 = .ok (.getfield 9, 3) := by decide +kernel
theorem dX1_takeLinkedInHand_36 : decode cX1_takeLinkedInHand 36 = .ok (.getfield 101, 3) := by decide +kernel
theorem dX1_takeLinkedInHand_39 : decode cX1_takeLinkedInHand 39 = .ok (.iload_n 1, 1) := by decide +kernel
theorem dX1_takeLinkedInHand_40 : decode cX1_takeLinkedInHand 40 = .ok (.iload_n 2, 1) := by decide +kernel
theorem dX1_takeLinkedInHand_41 : decode cX1_takeLinkedInHand 41 = .ok (.iconst 1, 1) := by decide +kernel
theorem dX1_takeLinkedInHand_42 : decode cX1_takeLinkedInHand 42 = .ok (.iadd, 1) := by decide +kernel
theorem dX1_takeLinkedInHand_43 : decode cX1_takeLinkedInHand 43 = .ok (.invokevirtual 104, 3) := by decide +kernel
theorem dX1_takeLinkedInHand_46 : decode cX1_takeLinkedInHand 46 = .ok (.istore_n 2, 1) := by decide +kernel
theorem dX1_takeLinkedInHand_47 : decode cX1_takeLinkedInHand 47 = .ok (.iinc 3 1, 3) := by decide +kernel
theorem dX1_takeLinkedInHand_50 : decode cX1_takeLinkedInHand 50 = .ok (.goto (-35), 3) := by decide +kernel
theorem dX1_takeLinkedInHand_53 : decode cX1_takeLinkedInHand 53 = .ok (.return_, 1) := by decide +kernel
theorem dX1_takeInHand_0 : decode cX1_takeInHand 0 = .ok (.aload_n 0, 1) := by decide +kernel
theorem dX1_takeInHand_1 : decode cX1_takeInHand 1 = .ok (.getfield 24, 3) := by decide +kernel
theorem dX1_takeInHand_4 : decode cX1_takeInHand 4 = .ok (.iconst 2, 1) := by decide +kernel
theorem dX1_takeInHand_5 : decode cX1_takeInHand 5 = .ok (.iload_n 1, 1) := by decide +kernel
theorem dX1_takeInHand_6 : decode cX1_takeInHand 6 = .ok (.invokevirtual 81, 3) := by decide +kernel
theorem dX1_takeInHand_9 : decode cX1_takeInHand 9 = .ok (.ifCond .ne 28, 3) := by decide +kernel
theorem dX1_takeInHand_12 : decode cX1_takeInHand 12 = .ok (.aload_n 0, 1) := by decide +kernel
theorem dX1_takeInHand_13 : decode cX1_takeInHand 13 = .ok (.getfield 24, 3) := by decide +kernel
theorem dX1_takeInHand_16 : decode cX1_takeInHand 16 = .ok (.iconst 2, 1) := by decide +kernel
theorem dX1_takeInHand_17 : decode cX1_takeInHand 17 = .ok (.iload_n 1, 1) := by decide +kernel
theorem dX1_takeInHand_18 : decode cX1_takeInHand 18 = .ok (.invokevirtual 134, 3) := by decide +kernel
theorem dX1_takeInHand_21 : decode cX1_takeInHand 21 = .ok (.aload_n 0, 1) := by decide +kernel
theorem dX1_takeInHand_22 : decode cX1_takeInHand 22 = .ok (.getfield 24, 3) := by decide +kernel
theorem dX1_takeInHand_25 : decode cX1_takeInHand 25 = .ok (.iconst 3, 1) := by decide +kernel
theorem dX1_takeInHand_26 : decode cX1_takeInHand 26 = .ok (.aload_n 0, 1) := by decide +kernel
theorem dX1_takeInHand_27 : decode cX1_takeInHand 27 = .ok (.getfield 9, 3) := by decide +kernel
theorem dX1_takeInHand_30 : decode cX1_takeInHand 30 = .ok (.getfield 101, 3) := by decide +kernel
theorem dX1_takeInHand_33 : decode cX1_takeInHand 33 = .ok (.iload_n 1, 1) := by decide +kernel
theorem dX1_takeInHand_34 : decode cX1_takeInHand 34 = .ok (.invokevirtual 144, 3) := by decide +kernel
theorem dX1_takeInHand_37 : decode cX1_takeInHand 37 = .ok (.return_, 1) := by decide +kernel
theorem dX1_isOfFirstSide_0 : decode cX1_isOfFirstSide 0 = .ok (.aload_n 0, 1) := by decide +kernel
theorem dX1_isOfFirstSide_1 : decode cX1_isOfFirstSide 1 = .ok (.getfield 9, 3) := by decide +kernel
theorem dX1_isOfFirstSide_4 : decode cX1_isOfFirstSide 4 = .ok (.iload_n 1, 1) := by decide +kernel
theorem dX1_isOfFirstSide_5 : decode cX1_isOfFirstSide 5 = .ok (.invokevirtual 128, 3) := by decide +kernel
theorem dX1_isOfFirstSide_8 : decode cX1_isOfFirstSide 8 = .ok (.ifCond .eq 19, 3) := by decide +kernel
theorem dX1_isOfFirstSide_11 : decode cX1_isOfFirstSide 11 = .ok (.aload_n 0, 1) := by decide +kernel
theorem dX1_isOfFirstSide_12 : decode cX1_isOfFirstSide 12 = .ok (.getfield 15, 3) := by decide +kernel
theorem dX1_isOfFirstSide_15 : decode cX1_isOfFirstSide 15 = .ok (.getfield 138, 3) := by decide +kernel
theorem dX1_isOfFirstSide_18 : decode cX1_isOfFirstSide 18 = .ok (.iload_n 1, 1) := by decide +kernel
theorem dX1_isOfFirstSide_19 : decode cX1_isOfFirstSide 19 = .ok (.baload, 1) := by decide +kernel
theorem dX1_isOfFirstSide_20 : decode cX1_isOfFirstSide 20 = .ok (.ifCond .eq 7, 3) := by decide +kernel
theorem dX1_isOfFirstSide_23 : decode cX1_isOfFirstSide 23 = .ok (.iconst 1, 1) := by decide +kernel
theorem dX1_isOfFirstSide_24 : decode cX1_isOfFirstSide 24 = .ok (.goto 4, 3) := by decide +kernel
theorem dX1_isOfFirstSide_27 : decode cX1_isOfFirstSide 27 = .ok (.iconst 0, 1) := by decide +kernel
theorem dX1_isOfFirstSide_28 : decode cX1_isOfFirstSide 28 = .ok (.ireturn, 1) := by decide +kernel
theorem dX2_init_0 : decode cX2_init 0 = .ok (.aload_n 0, 1) := by decide +kernel
theorem dX2_init_1 : decode cX2_init 1 = .ok (.invokespecial 3, 3) := by decide +kernel
theorem dX2_init_4 : decode cX2_init 4 = .ok (.aload_n 0, 1) := by decide +kernel
theorem dX2_init_5 : decode cX2_init 5 = .ok (.iload_n 1, 1) := by decide +kernel
theorem dX2_init_6 : decode cX2_init 6 = .ok (.iconst 5, 1) := by decide +kernel
theorem dX2_init_7 : decode cX2_init 7 = .ok (.imul, 1) := by decide +kernel
theorem dX2_init_8 : decode cX2_init 8 = .ok (.newarray .long, 2) := by decide +kernel
theorem dX2_init_10 : decode cX2_init 10 = .ok (.putfield 11, 3) := by decide +kernel
theorem dX2_init_13 : decode cX2_init 13 = .ok (.return_, 1) := by decide +kernel
theorem dX2_has_0 : decode cX2_has 0 = .ok (.aload_n 0, 1) := by decide +kernel
theorem dX2_has_1 : decode cX2_has 1 = .ok (.getfield 11, 3) := by decide +kernel
theorem dX2_has_4 : decode cX2_has 4 = .ok (.iload_n 1, 1) := by decide +kernel
theorem dX2_has_5 : decode cX2_has 5 = .ok (.iconst 5, 1) := by decide +kernel
theorem dX2_has_6 : decode cX2_has 6 = .ok (.imul, 1) := by decide +kernel
theorem dX2_has_7 : decode cX2_has 7 = .ok (.iload_n 2, 1) := by decide +kernel
theorem dX2_has_8 : decode cX2_has 8 = .ok (.bipush 6, 2) := by decide +kernel
theorem dX2_has_10 : decode cX2_has 10 = .ok (.ishr, 1) := by decide +kernel
theorem dX2_has_11 : decode cX2_has 11 = .ok (.iadd, 1) := by decide +kernel
theorem dX2_has_12 : decode cX2_has 12 = .ok (.laload, 1) := by decide +kernel
theorem dX2_has_13 : decode cX2_has 13 = .ok (.iload_n 2, 1) := by decide +kernel
theorem dX2_has_14 : decode cX2_has 14 = .ok (.bipush 63, 2) := by decide +kernel
theorem dX2_has_16 : decode cX2_has 16 = .ok (.iand, 1) := by decide +kernel
theorem dX2_has_17 : decode cX2_has 17 = .ok (.lushr, 1) := by decide +kernel
theorem dX2_has_18 : decode cX2_has 18 = .ok (.lconst 1, 1) := by decide +kernel
theorem dX2_has_19 : decode cX2_has 19 = .ok (.land, 1) := by decide +kernel
theorem dX2_has_20 : decode cX2_has 20 = .ok (.lconst 0, 1) := by decide +kernel
theorem dX2_has_21 : decode cX2_has 21 = .ok (.lcmp, 1) := by decide +kernel
theorem dX2_has_22 : decode cX2_has 22 = .ok (.ifCond .eq 7, 3) := by decide +kernel
theorem dX2_has_25 : decode cX2_has 25 = .ok (.iconst 1, 1) := by decide +kernel
theorem dX2_has_26 : decode cX2_has 26 = .ok (.goto 4, 3) := by decide +kernel
theorem dX2_has_29 : decode cX2_has 29 = .ok (.iconst 0, 1) := by decide +kernel
theorem dX2_has_30 : decode cX2_has 30 = .ok (.ireturn, 1) := by decide +kernel
theorem dX2_put_0 : decode cX2_put 0 = .ok (.aload_n 0, 1) := by decide +kernel
theorem dX2_put_1 : decode cX2_put 1 = .ok (.getfield 11, 3) := by decide +kernel
theorem dX2_put_4 : decode cX2_put 4 = .ok (.iload_n 1, 1) := by decide +kernel
theorem dX2_put_5 : decode cX2_put 5 = .ok (.iconst 5, 1) := by decide +kernel
theorem dX2_put_6 : decode cX2_put 6 = .ok (.imul, 1) := by decide +kernel
theorem dX2_put_7 : decode cX2_put 7 = .ok (.iload_n 2, 1) := by decide +kernel
theorem dX2_put_8 : decode cX2_put 8 = .ok (.bipush 6, 2) := by decide +kernel
theorem dX2_put_10 : decode cX2_put 10 = .ok (.ishr, 1) := by decide +kernel
theorem dX2_put_11 : decode cX2_put 11 = .ok (.iadd, 1) := by decide +kernel
theorem dX2_put_12 : decode cX2_put 12 = .ok (.dup2, 1) := by decide +kernel
theorem dX2_put_13 : decode cX2_put 13 = .ok (.laload, 1) := by decide +kernel
theorem dX2_put_14 : decode cX2_put 14 = .ok (.lconst 1, 1) := by decide +kernel
theorem dX2_put_15 : decode cX2_put 15 = .ok (.iload_n 2, 1) := by decide +kernel
theorem dX2_put_16 : decode cX2_put 16 = .ok (.bipush 63, 2) := by decide +kernel
theorem dX2_put_18 : decode cX2_put 18 = .ok (.iand, 1) := by decide +kernel
theorem dX2_put_19 : decode cX2_put 19 = .ok (.lshl, 1) := by decide +kernel
theorem dX2_put_20 : decode cX2_put 20 = .ok (.lor, 1) := by decide +kernel
theorem dX2_put_21 : decode cX2_put 21 = .ok (.lastore, 1) := by decide +kernel
theorem dX2_put_22 : decode cX2_put 22 = .ok (.return_, 1) := by decide +kernel
theorem dX2_drop_0 : decode cX2_drop 0 = .ok (.aload_n 0, 1) := by decide +kernel
theorem dX2_drop_1 : decode cX2_drop 1 = .ok (.getfield 11, 3) := by decide +kernel
theorem dX2_drop_4 : decode cX2_drop 4 = .ok (.iload_n 1, 1) := by decide +kernel
theorem dX2_drop_5 : decode cX2_drop 5 = .ok (.iconst 5, 1) := by decide +kernel
theorem dX2_drop_6 : decode cX2_drop 6 = .ok (.imul, 1) := by decide +kernel
theorem dX2_drop_7 : decode cX2_drop 7 = .ok (.iload_n 2, 1) := by decide +kernel
theorem dX2_drop_8 : decode cX2_drop 8 = .ok (.bipush 6, 2) := by decide +kernel
theorem dX2_drop_10 : decode cX2_drop 10 = .ok (.ishr, 1) := by decide +kernel
theorem dX2_drop_11 : decode cX2_drop 11 = .ok (.iadd, 1) := by decide +kernel
theorem dX2_drop_12 : decode cX2_drop 12 = .ok (.dup2, 1) := by decide +kernel
theorem dX2_drop_13 : decode cX2_drop 13 = .ok (.laload, 1) := by decide +kernel
theorem dX2_drop_14 : decode cX2_drop 14 = .ok (.lconst 1, 1) := by decide +kernel
theorem dX2_drop_15 : decode cX2_drop 15 = .ok (.iload_n 2, 1) := by decide +kernel
theorem dX2_drop_16 : decode cX2_drop 16 = .ok (.bipush 63, 2) := by decide +kernel
theorem dX2_drop_18 : decode cX2_drop 18 = .ok (.iand, 1) := by decide +kernel
theorem dX2_drop_19 : decode cX2_drop 19 = .ok (.lshl, 1) := by decide +kernel
theorem dX2_drop_20 : decode cX2_drop 20 = .ok (.ldc2_w 15, 3) := by decide +kernel
theorem dX2_drop_23 : decode cX2_drop 23 = .ok (.lxor, 1) := by decide +kernel
theorem dX2_drop_24 : decode cX2_drop 24 = .ok (.land, 1) := by decide +kernel
theorem dX2_drop_25 : decode cX2_drop 25 = .ok (.lastore, 1) := by decide +kernel
theorem dX2_drop_26 : decode cX2_drop 26 = .ok (.return_, 1) := by decide +kernel
theorem dX2_dropAll_0 : decode cX2_dropAll 0 = .ok (.aload_n 0, 1) := by decide +kernel
theorem dX2_dropAll_1 : decode cX2_dropAll 1 = .ok (.getfield 11, 3) := by decide +kernel
theorem dX2_dropAll_4 : decode cX2_dropAll 4 = .ok (.lconst 0, 1) := by decide +kernel
theorem dX2_dropAll_5 : decode cX2_dropAll 5 = .ok (.invokestatic 17, 3) := by decide +kernel
theorem dX2_dropAll_8 : decode cX2_dropAll 8 = .ok (.return_, 1) := by decide +kernel
theorem dX2_next_0 : decode cX2_next 0 = .ok (.ldc2_w 15, 3) := by decide +kernel
theorem dX2_next_3 : decode cX2_next 3 = .ok (.iload_n 2, 1) := by decide +kernel
theorem dX2_next_4 : decode cX2_next 4 = .ok (.bipush 63, 2) := by decide +kernel
theorem dX2_next_6 : decode cX2_next 6 = .ok (.iand, 1) := by decide +kernel
theorem dX2_next_7 : decode cX2_next 7 = .ok (.lshl, 1) := by decide +kernel
theorem dX2_next_8 : decode cX2_next 8 = .ok (.lstore_n 3, 1) := by decide +kernel
theorem dX2_next_9 : decode cX2_next 9 = .ok (.iload_n 2, 1) := by decide +kernel
theorem dX2_next_10 : decode cX2_next 10 = .ok (.bipush 6, 2) := by decide +kernel
theorem dX2_next_12 : decode cX2_next 12 = .ok (.ishr, 1) := by decide +kernel
theorem dX2_next_13 : decode cX2_next 13 = .ok (.istore 5, 2) := by decide +kernel
theorem dX2_next_15 : decode cX2_next 15 = .ok (.iload 5, 2) := by decide +kernel
theorem dX2_next_17 : decode cX2_next 17 = .ok (.iconst 5, 1) := by decide +kernel
theorem dX2_next_18 : decode cX2_next 18 = .ok (.if_icmp .ge 57, 3) := by decide +kernel
theorem dX2_next_21 : decode cX2_next 21 = .ok (.aload_n 0, 1) := by decide +kernel
theorem dX2_next_22 : decode cX2_next 22 = .ok (.getfield 11, 3) := by decide +kernel
theorem dX2_next_25 : decode cX2_next 25 = .ok (.iload_n 1, 1) := by decide +kernel
theorem dX2_next_26 : decode cX2_next 26 = .ok (.iconst 5, 1) := by decide +kernel
theorem dX2_next_27 : decode cX2_next 27 = .ok (.imul, 1) := by decide +kernel
theorem dX2_next_28 : decode cX2_next 28 = .ok (.iload 5, 2) := by decide +kernel
theorem dX2_next_30 : decode cX2_next 30 = .ok (.iadd, 1) := by decide +kernel
theorem dX2_next_31 : decode cX2_next 31 = .ok (.laload, 1) := by decide +kernel
theorem dX2_next_32 : decode cX2_next 32 = .ok (.lload_n 3, 1) := by decide +kernel
theorem dX2_next_33 : decode cX2_next 33 = .ok (.land, 1) := by decide +kernel
theorem dX2_next_34 : decode cX2_next 34 = .ok (.lstore 6, 2) := by decide +kernel
theorem dX2_next_36 : decode cX2_next 36 = .ok (.lload 6, 2) := by decide +kernel
theorem dX2_next_38 : decode cX2_next 38 = .ok (.lconst 0, 1) := by decide +kernel
theorem dX2_next_39 : decode cX2_next 39 = .ok (.lcmp, 1) := by decide +kernel
theorem dX2_next_40 : decode cX2_next 40 = .ok (.ifCond .eq 25, 3) := by decide +kernel
theorem dX2_next_43 : decode cX2_next 43 = .ok (.lload 6, 2) := by decide +kernel
theorem dX2_next_45 : decode cX2_next 45 = .ok (.lload 6, 2) := by decide +kernel
theorem dX2_next_47 : decode cX2_next 47 = .ok (.lneg, 1) := by decide +kernel
theorem dX2_next_48 : decode cX2_next 48 = .ok (.land, 1) := by decide +kernel
theorem dX2_next_49 : decode cX2_next 49 = .ok (.lconst 1, 1) := by decide +kernel
theorem dX2_next_50 : decode cX2_next 50 = .ok (.lsub, 1) := by decide +kernel
theorem dX2_next_51 : decode cX2_next 51 = .ok (.lstore 8, 2) := by decide +kernel
theorem dX2_next_53 : decode cX2_next 53 = .ok (.iload 5, 2) := by decide +kernel
theorem dX2_next_55 : decode cX2_next 55 = .ok (.bipush 64, 2) := by decide +kernel
theorem dX2_next_57 : decode cX2_next 57 = .ok (.imul, 1) := by decide +kernel
theorem dX2_next_58 : decode cX2_next 58 = .ok (.lload 8, 2) := by decide +kernel
theorem dX2_next_60 : decode cX2_next 60 = .ok (.invokestatic 23, 3) := by decide +kernel
theorem dX2_next_63 : decode cX2_next 63 = .ok (.iadd, 1) := by decide +kernel
theorem dX2_next_64 : decode cX2_next 64 = .ok (.ireturn, 1) := by decide +kernel
theorem dX2_next_65 : decode cX2_next 65 = .ok (.ldc2_w 15, 3) := by decide +kernel
theorem dX2_next_68 : decode cX2_next 68 = .ok (.lstore_n 3, 1) := by decide +kernel
theorem dX2_next_69 : decode cX2_next 69 = .ok (.iinc 5 1, 3) := by decide +kernel
theorem dX2_next_72 : decode cX2_next 72 = .ok (.goto (-57), 3) := by decide +kernel
theorem dX2_next_75 : decode cX2_next 75 = .ok (.iconst (-1), 1) := by decide +kernel
theorem dX2_next_76 : decode cX2_next 76 = .ok (.ireturn, 1) := by decide +kernel
theorem dX2_size_0 : decode cX2_size 0 = .ok (.iconst 0, 1) := by decide +kernel
theorem dX2_size_1 : decode cX2_size 1 = .ok (.istore_n 2, 1) := by decide +kernel
theorem dX2_size_2 : decode cX2_size 2 = .ok (.iconst 0, 1) := by decide +kernel
theorem dX2_size_3 : decode cX2_size 3 = .ok (.istore_n 3, 1) := by decide +kernel
theorem dX2_size_4 : decode cX2_size 4 = .ok (.iload_n 3, 1) := by decide +kernel
theorem dX2_size_5 : decode cX2_size 5 = .ok (.iconst 5, 1) := by decide +kernel
theorem dX2_size_6 : decode cX2_size 6 = .ok (.if_icmp .ge 25, 3) := by decide +kernel
theorem dX2_size_9 : decode cX2_size 9 = .ok (.iload_n 2, 1) := by decide +kernel
theorem dX2_size_10 : decode cX2_size 10 = .ok (.aload_n 0, 1) := by decide +kernel
theorem dX2_size_11 : decode cX2_size 11 = .ok (.getfield 11, 3) := by decide +kernel
theorem dX2_size_14 : decode cX2_size 14 = .ok (.iload_n 1, 1) := by decide +kernel
theorem dX2_size_15 : decode cX2_size 15 = .ok (.iconst 5, 1) := by decide +kernel
theorem dX2_size_16 : decode cX2_size 16 = .ok (.imul, 1) := by decide +kernel
theorem dX2_size_17 : decode cX2_size 17 = .ok (.iload_n 3, 1) := by decide +kernel
theorem dX2_size_18 : decode cX2_size 18 = .ok (.iadd, 1) := by decide +kernel
theorem dX2_size_19 : decode cX2_size 19 = .ok (.laload, 1) := by decide +kernel
theorem dX2_size_20 : decode cX2_size 20 = .ok (.invokestatic 23, 3) := by decide +kernel
theorem dX2_size_23 : decode cX2_size 23 = .ok (.iadd, 1) := by decide +kernel
theorem dX2_size_24 : decode cX2_size 24 = .ok (.istore_n 2, 1) := by decide +kernel
theorem dX2_size_25 : decode cX2_size 25 = .ok (.iinc 3 1, 3) := by decide +kernel
theorem dX2_size_28 : decode cX2_size 28 = .ok (.goto (-24), 3) := by decide +kernel
theorem dX2_size_31 : decode cX2_size 31 = .ok (.iload_n 2, 1) := by decide +kernel
theorem dX2_size_32 : decode cX2_size 32 = .ok (.ireturn, 1) := by decide +kernel
theorem dX2_putAllOf_0 : decode cX2_putAllOf 0 = .ok (.iconst 0, 1) := by decide +kernel
theorem dX2_putAllOf_1 : decode cX2_putAllOf 1 = .ok (.istore 4, 2) := by decide +kernel
theorem dX2_putAllOf_3 : decode cX2_putAllOf 3 = .ok (.iload 4, 2) := by decide +kernel
theorem dX2_putAllOf_5 : decode cX2_putAllOf 5 = .ok (.iconst 5, 1) := by decide +kernel
theorem dX2_putAllOf_6 : decode cX2_putAllOf 6 = .ok (.if_icmp .ge 34, 3) := by decide +kernel
theorem dX2_putAllOf_9 : decode cX2_putAllOf 9 = .ok (.aload_n 0, 1) := by decide +kernel
theorem dX2_putAllOf_10 : decode cX2_putAllOf 10 = .ok (.getfield 11, 3) := by decide +kernel
theorem dX2_putAllOf_13 : decode cX2_putAllOf 13 = .ok (.iload_n 1, 1) := by decide +kernel
theorem dX2_putAllOf_14 : decode cX2_putAllOf 14 = .ok (.iconst 5, 1) := by decide +kernel
theorem dX2_putAllOf_15 : decode cX2_putAllOf 15 = .ok (.imul, 1) := by decide +kernel
theorem dX2_putAllOf_16 : decode cX2_putAllOf 16 = .ok (.iload 4, 2) := by decide +kernel
theorem dX2_putAllOf_18 : decode cX2_putAllOf 18 = .ok (.iadd, 1) := by decide +kernel
theorem dX2_putAllOf_19 : decode cX2_putAllOf 19 = .ok (.dup2, 1) := by decide +kernel
theorem dX2_putAllOf_20 : decode cX2_putAllOf 20 = .ok (.laload, 1) := by decide +kernel
theorem dX2_putAllOf_21 : decode cX2_putAllOf 21 = .ok (.aload_n 2, 1) := by decide +kernel
theorem dX2_putAllOf_22 : decode cX2_putAllOf 22 = .ok (.getfield 11, 3) := by decide +kernel
theorem dX2_putAllOf_25 : decode cX2_putAllOf 25 = .ok (.iload_n 3, 1) := by decide +kernel
theorem dX2_putAllOf_26 : decode cX2_putAllOf 26 = .ok (.iconst 5, 1) := by decide +kernel
theorem dX2_putAllOf_27 : decode cX2_putAllOf 27 = .ok (.imul, 1) := by decide +kernel
theorem dX2_putAllOf_28 : decode cX2_putAllOf 28 = .ok (.iload 4, 2) := by decide +kernel
theorem dX2_putAllOf_30 : decode cX2_putAllOf 30 = .ok (.iadd, 1) := by decide +kernel
theorem dX2_putAllOf_31 : decode cX2_putAllOf 31 = .ok (.laload, 1) := by decide +kernel
theorem dX2_putAllOf_32 : decode cX2_putAllOf 32 = .ok (.lor, 1) := by decide +kernel
theorem dX2_putAllOf_33 : decode cX2_putAllOf 33 = .ok (.lastore, 1) := by decide +kernel
theorem dX2_putAllOf_34 : decode cX2_putAllOf 34 = .ok (.iinc 4 1, 3) := by decide +kernel
theorem dX2_putAllOf_37 : decode cX2_putAllOf 37 = .ok (.goto (-34), 3) := by decide +kernel
theorem dX2_putAllOf_40 : decode cX2_putAllOf 40 = .ok (.return_, 1) := by decide +kernel
theorem dX3_init_0 : decode cX3_init 0 = .ok (.aload_n 0, 1) := by decide +kernel
theorem dX3_init_1 : decode cX3_init 1 = .ok (.invokespecial 3, 3) := by decide +kernel
theorem dX3_init_4 : decode cX3_init 4 = .ok (.aload_n 0, 1) := by decide +kernel
theorem dX3_init_5 : decode cX3_init 5 = .ok (.aload_n 1, 1) := by decide +kernel
theorem dX3_init_6 : decode cX3_init 6 = .ok (.putfield 9, 3) := by decide +kernel
theorem dX3_init_9 : decode cX3_init 9 = .ok (.aload_n 0, 1) := by decide +kernel
theorem dX3_init_10 : decode cX3_init 10 = .ok (.sipush 300, 3) := by decide +kernel
theorem dX3_init_13 : decode cX3_init 13 = .ok (.newarray .int, 2) := by decide +kernel
theorem dX3_init_15 : decode cX3_init 15 = .ok (.putfield 15, 3) := by decide +kernel
theorem dX3_init_18 : decode cX3_init 18 = .ok (.aload_n 0, 1) := by decide +kernel
theorem dX3_init_19 : decode cX3_init 19 = .ok (.sipush 300, 3) := by decide +kernel
theorem dX3_init_22 : decode cX3_init 22 = .ok (.newarray .int, 2) := by decide +kernel
theorem dX3_init_24 : decode cX3_init 24 = .ok (.putfield 19, 3) := by decide +kernel
theorem dX3_init_27 : decode cX3_init 27 = .ok (.aload_n 0, 1) := by decide +kernel
theorem dX3_init_28 : decode cX3_init 28 = .ok (.sipush 300, 3) := by decide +kernel
theorem dX3_init_31 : decode cX3_init 31 = .ok (.newarray .int, 2) := by decide +kernel
theorem dX3_init_33 : decode cX3_init 33 = .ok (.putfield 22, 3) := by decide +kernel
theorem dX3_init_36 : decode cX3_init 36 = .ok (.aload_n 0, 1) := by decide +kernel
theorem dX3_init_37 : decode cX3_init 37 = .ok (.sipush 300, 3) := by decide +kernel
theorem dX3_init_40 : decode cX3_init 40 = .ok (.newarray .int, 2) := by decide +kernel
theorem dX3_init_42 : decode cX3_init 42 = .ok (.putfield 25, 3) := by decide +kernel
theorem dX3_init_45 : decode cX3_init 45 = .ok (.aload_n 0, 1) := by decide +kernel
theorem dX3_init_46 : decode cX3_init 46 = .ok (.sipush 300, 3) := by decide +kernel
theorem dX3_init_49 : decode cX3_init 49 = .ok (.newarray .int, 2) := by decide +kernel
theorem dX3_init_51 : decode cX3_init 51 = .ok (.putfield 28, 3) := by decide +kernel
theorem dX3_init_54 : decode cX3_init 54 = .ok (.aload_n 0, 1) := by decide +kernel
theorem dX3_init_55 : decode cX3_init 55 = .ok (.sipush 300, 3) := by decide +kernel
theorem dX3_init_58 : decode cX3_init 58 = .ok (.newarray .boolean, 2) := by decide +kernel
theorem dX3_init_60 : decode cX3_init 60 = .ok (.putfield 31, 3) := by decide +kernel
theorem dX3_init_63 : decode cX3_init 63 = .ok (.aload_n 0, 1) := by decide +kernel
theorem dX3_init_64 : decode cX3_init 64 = .ok (.sipush 300, 3) := by decide +kernel
theorem dX3_init_67 : decode cX3_init 67 = .ok (.newarray .boolean, 2) := by decide +kernel
theorem dX3_init_69 : decode cX3_init 69 = .ok (.putfield 35, 3) := by decide +kernel
theorem dX3_init_72 : decode cX3_init 72 = .ok (.aload_n 0, 1) := by decide +kernel
theorem dX3_init_73 : decode cX3_init 73 = .ok (.iconst (-1), 1) := by decide +kernel
theorem dX3_init_74 : decode cX3_init 74 = .ok (.putfield 38, 3) := by decide +kernel
theorem dX3_init_77 : decode cX3_init 77 = .ok (.return_, 1) := by decide +kernel
theorem dX3_refresh_0 : decode cX3_refresh 0 = .ok (.aload_n 0, 1) := by decide +kernel
theorem dX3_refresh_1 : decode cX3_refresh 1 = .ok (.getfield 38, 3) := by decide +kernel
theorem dX3_refresh_4 : decode cX3_refresh 4 = .ok (.aload_n 0, 1) := by decide +kernel
theorem dX3_refresh_5 : decode cX3_refresh 5 = .ok (.getfield 9, 3) := by decide +kernel
theorem dX3_refresh_8 : decode cX3_refresh 8 = .ok (.getfield 42, 3) := by decide +kernel
theorem dX3_refresh_11 : decode cX3_refresh 11 = .ok (.if_icmp .ne 4, 3) := by decide +kernel
theorem dX3_refresh_14 : decode cX3_refresh 14 = .ok (.return_, 1) := by decide +kernel
theorem dX3_refresh_15 : decode cX3_refresh 15 = .ok (.aload_n 0, 1) := by decide +kernel
theorem dX3_refresh_16 : decode cX3_refresh 16 = .ok (.aload_n 0, 1) := by decide +kernel
theorem dX3_refresh_17 : decode cX3_refresh 17 = .ok (.getfield 9, 3) := by decide +kernel
theorem dX3_refresh_20 : decode cX3_refresh 20 = .ok (.getfield 42, 3) := by decide +kernel
theorem dX3_refresh_23 : decode cX3_refresh 23 = .ok (.putfield 38, 3) := by decide +kernel
theorem dX3_refresh_26 : decode cX3_refresh 26 = .ok (.aload_n 0, 1) := by decide +kernel
theorem dX3_refresh_27 : decode cX3_refresh 27 = .ok (.iconst 0, 1) := by decide +kernel
theorem dX3_refresh_28 : decode cX3_refresh 28 = .ok (.putfield 47, 3) := by decide +kernel
theorem dX3_refresh_31 : decode cX3_refresh 31 = .ok (.aload_n 0, 1) := by decide +kernel
theorem dX3_refresh_32 : decode cX3_refresh 32 = .ok (.iconst 0, 1) := by decide +kernel
theorem dX3_refresh_33 : decode cX3_refresh 33 = .ok (.putfield 50, 3) := by decide +kernel
theorem dX3_refresh_36 : decode cX3_refresh 36 = .ok (.aload_n 0, 1) := by decide +kernel
theorem dX3_refresh_37 : decode cX3_refresh 37 = .ok (.iconst 1, 1) := by decide +kernel
theorem dX3_refresh_38 : decode cX3_refresh 38 = .ok (.putfield 53, 3) := by decide +kernel
theorem dX3_refresh_41 : decode cX3_refresh 41 = .ok (.aload_n 0, 1) := by decide +kernel
theorem dX3_refresh_42 : decode cX3_refresh 42 = .ok (.iconst 0, 1) := by decide +kernel
theorem dX3_refresh_43 : decode cX3_refresh 43 = .ok (.putfield 57, 3) := by decide +kernel
theorem dX3_refresh_46 : decode cX3_refresh 46 = .ok (.iconst 0, 1) := by decide +kernel
theorem dX3_refresh_47 : decode cX3_refresh 47 = .ok (.istore_n 1, 1) := by decide +kernel
theorem dX3_refresh_48 : decode cX3_refresh 48 = .ok (.iload_n 1, 1) := by decide +kernel
theorem dX3_refresh_49 : decode cX3_refresh 49 = .ok (.sipush 300, 3) := by decide +kernel
theorem dX3_refresh_52 : decode cX3_refresh 52 = .ok (.if_icmp .ge 23, 3) := by decide +kernel
theorem dX3_refresh_55 : decode cX3_refresh 55 = .ok (.aload_n 0, 1) := by decide +kernel
theorem dX3_refresh_56 : decode cX3_refresh 56 = .ok (.getfield 15, 3) := by decide +kernel
theorem dX3_refresh_59 : decode cX3_refresh 59 = .ok (.iload_n 1, 1) := by decide +kernel
theorem dX3_refresh_60 : decode cX3_refresh 60 = .ok (.iconst (-1), 1) := by decide +kernel
theorem dX3_refresh_61 : decode cX3_refresh 61 = .ok (.iastore, 1) := by decide +kernel
theorem dX3_refresh_62 : decode cX3_refresh 62 = .ok (.aload_n 0, 1) := by decide +kernel
theorem dX3_refresh_63 : decode cX3_refresh 63 = .ok (.getfield 35, 3) := by decide +kernel
theorem dX3_refresh_66 : decode cX3_refresh 66 = .ok (.iload_n 1, 1) := by decide +kernel
theorem dX3_refresh_67 : decode cX3_refresh 67 = .ok (.iconst 0, 1) := by decide +kernel
theorem dX3_refresh_68 : decode cX3_refresh 68 = .ok (.bastore, 1) := by decide +kernel
theorem dX3_refresh_69 : decode cX3_refresh 69 = .ok (.iinc 1 1, 3) := by decide +kernel
theorem dX3_refresh_72 : decode cX3_refresh 72 = .ok (.goto (-24), 3) := by decide +kernel
theorem dX3_refresh_75 : decode cX3_refresh 75 = .ok (.iconst 0, 1) := by decide +kernel
theorem dX3_refresh_76 : decode cX3_refresh 76 = .ok (.istore_n 1, 1) := by decide +kernel
theorem dX3_refresh_77 : decode cX3_refresh 77 = .ok (.iload_n 1, 1) := by decide +kernel
theorem dX3_refresh_78 : decode cX3_refresh 78 = .ok (.aload_n 0, 1) := by decide +kernel
theorem dX3_refresh_79 : decode cX3_refresh 79 = .ok (.getfield 9, 3) := by decide +kernel
theorem dX3_refresh_82 : decode cX3_refresh 82 = .ok (.getfield 60, 3) := by decide +kernel
theorem dX3_refresh_85 : decode cX3_refresh 85 = .ok (.if_icmp .ge 45, 3) := by decide +kernel
theorem dX3_refresh_88 : decode cX3_refresh 88 = .ok (.aload_n 0, 1) := by decide +kernel
theorem dX3_refresh_89 : decode cX3_refresh 89 = .ok (.getfield 9, 3) := by decide +kernel
theorem dX3_refresh_92 : decode cX3_refresh 92 = .ok (.iload_n 1, 1) := by decide +kernel
theorem dX3_refresh_93 : decode cX3_refresh 93 = .ok (.invokevirtual 63, 3) := by decide +kernel
theorem dX3_refresh_96 : decode cX3_refresh 96 = .ok (.ifCond .eq 28, 3) := by decide +kernel
theorem dX3_refresh_99 : decode cX3_refresh 99 = .ok (.aload_n 0, 1) := by decide +kernel
theorem dX3_refresh_100 : decode cX3_refresh 100 = .ok (.getfield 15, 3) := by decide +kernel
theorem dX3_refresh_103 : decode cX3_refresh 103 = .ok (.iload_n 1, 1) := by decide +kernel
theorem dX3_refresh_104 : decode cX3_refresh 104 = .ok (.iaload, 1) := by decide +kernel
theorem dX3_refresh_105 : decode cX3_refresh 105 = .ok (.iconst (-1), 1) := by decide +kernel
theorem dX3_refresh_106 : decode cX3_refresh 106 = .ok (.if_icmp .ne 18, 3) := by decide +kernel
theorem dX3_refresh_109 : decode cX3_refresh 109 = .ok (.aload_n 0, 1) := by decide +kernel
theorem dX3_refresh_110 : decode cX3_refresh 110 = .ok (.dup, 1) := by decide +kernel
theorem dX3_refresh_111 : decode cX3_refresh 111 = .ok (.getfield 47, 3) := by decide +kernel
theorem dX3_refresh_114 : decode cX3_refresh 114 = .ok (.iconst 1, 1) := by decide +kernel
theorem dX3_refresh_115 : decode cX3_refresh 115 = .ok (.iadd, 1) := by decide +kernel
theorem dX3_refresh_116 : decode cX3_refresh 116 = .ok (.putfield 47, 3) := by decide +kernel
theorem dX3_refresh_119 : decode cX3_refresh 119 = .ok (.aload_n 0, 1) := by decide +kernel
theorem dX3_refresh_120 : decode cX3_refresh 120 = .ok (.iload_n 1, 1) := by decide +kernel
theorem dX3_refresh_121 : decode cX3_refresh 121 = .ok (.invokevirtual 67, 3) := by decide +kernel
theorem dX3_refresh_124 : decode cX3_refresh 124 = .ok (.iinc 1 1, 3) := by decide +kernel
theorem dX3_refresh_127 : decode cX3_refresh 127 = .ok (.goto (-50), 3) := by decide +kernel
theorem dX3_refresh_130 : decode cX3_refresh 130 = .ok (.return_, 1) := by decide +kernel
theorem dX3_walkPiece_0 : decode cX3_walkPiece 0 = .ok (.aload_n 0, 1) := by decide +kernel
theorem dX3_walkPiece_1 : decode cX3_walkPiece 1 = .ok (.iconst 0, 1) := by decide +kernel
theorem dX3_walkPiece_2 : decode cX3_walkPiece 2 = .ok (.putfield 71, 3) := by decide +kernel
theorem dX3_walkPiece_5 : decode cX3_walkPiece 5 = .ok (.aload_n 0, 1) := by decide +kernel
theorem dX3_walkPiece_6 : decode cX3_walkPiece 6 = .ok (.getfield 28, 3) := by decide +kernel
theorem dX3_walkPiece_9 : decode cX3_walkPiece 9 = .ok (.iload_n 1, 1) := by decide +kernel
theorem dX3_walkPiece_10 : decode cX3_walkPiece 10 = .ok (.iload_n 1, 1) := by decide +kernel
theorem dX3_walkPiece_11 : decode cX3_walkPiece 11 = .ok (.iastore, 1) := by decide +kernel
theorem dX3_walkPiece_12 : decode cX3_walkPiece 12 = .ok (.aload_n 0, 1) := by decide +kernel
theorem dX3_walkPiece_13 : decode cX3_walkPiece 13 = .ok (.getfield 31, 3) := by decide +kernel
theorem dX3_walkPiece_16 : decode cX3_walkPiece 16 = .ok (.iload_n 1, 1) := by decide +kernel
theorem dX3_walkPiece_17 : decode cX3_walkPiece 17 = .ok (.iconst 1, 1) := by decide +kernel
theorem dX3_walkPiece_18 : decode cX3_walkPiece 18 = .ok (.bastore, 1) := by decide +kernel
theorem dX3_walkPiece_19 : decode cX3_walkPiece 19 = .ok (.aload_n 0, 1) := by decide +kernel
theorem dX3_walkPiece_20 : decode cX3_walkPiece 20 = .ok (.iload_n 1, 1) := by decide +kernel
theorem dX3_walkPiece_21 : decode cX3_walkPiece 21 = .ok (.iconst (-1), 1) := by decide +kernel
theorem dX3_walkPiece_22 : decode cX3_walkPiece 22 = .ok (.invokevirtual 74, 3) := by decide +kernel
theorem dX3_walkPiece_25 : decode cX3_walkPiece 25 = .ok (.iload_n 1, 1) := by decide +kernel
theorem dX3_walkPiece_26 : decode cX3_walkPiece 26 = .ok (.istore_n 2, 1) := by decide +kernel
theorem dX3_walkPiece_27 : decode cX3_walkPiece 27 = .ok (.iconst 0, 1) := by decide +kernel
theorem dX3_walkPiece_28 : decode cX3_walkPiece 28 = .ok (.istore_n 3, 1) := by decide +kernel
theorem dX3_walkPiece_29 : decode cX3_walkPiece 29 = .ok (.iload_n 3, 1) := by decide +kernel
theorem dX3_walkPiece_30 : decode cX3_walkPiece 30 = .ok (.ldc 78, 2) := by decide +kernel
theorem dX3_walkPiece_32 : decode cX3_walkPiece 32 = .ok (.if_icmp .ge 72, 3) := by decide +kernel
theorem dX3_walkPiece_35 : decode cX3_walkPiece 35 = .ok (.iload_n 2, 1) := by decide +kernel
theorem dX3_walkPiece_36 : decode cX3_walkPiece 36 = .ok (.iconst (-1), 1) := by decide +kernel
theorem dX3_walkPiece_37 : decode cX3_walkPiece 37 = .ok (.if_icmp .eq 67, 3) := by decide +kernel
theorem dX3_walkPiece_40 : decode cX3_walkPiece 40 = .ok (.aload_n 0, 1) := by decide +kernel
theorem dX3_walkPiece_41 : decode cX3_walkPiece 41 = .ok (.getfield 9, 3) := by decide +kernel
theorem dX3_walkPiece_44 : decode cX3_walkPiece 44 = .ok (.getfield 79, 3) := by decide +kernel
theorem dX3_walkPiece_47 : decode cX3_walkPiece 47 = .ok (.iload_n 2, 1) := by decide +kernel
theorem dX3_walkPiece_48 : decode cX3_walkPiece 48 = .ok (.aload_n 0, 1) := by decide +kernel
theorem dX3_walkPiece_49 : decode cX3_walkPiece 49 = .ok (.getfield 25, 3) := by decide +kernel
theorem dX3_walkPiece_52 : decode cX3_walkPiece 52 = .ok (.iload_n 2, 1) := by decide +kernel
theorem dX3_walkPiece_53 : decode cX3_walkPiece 53 = .ok (.iaload, 1) := by decide +kernel
theorem dX3_walkPiece_54 : decode cX3_walkPiece 54 = .ok (.invokevirtual 83, 3) := by decide +kernel
theorem dX3_walkPiece_57 : decode cX3_walkPiece 57 = .ok (.istore 4, 2) := by decide +kernel
theorem dX3_walkPiece_59 : decode cX3_walkPiece 59 = .ok (.iload 4, 2) := by decide +kernel
theorem dX3_walkPiece_61 : decode cX3_walkPiece 61 = .ok (.iconst (-1), 1) := by decide +kernel
theorem dX3_walkPiece_62 : decode cX3_walkPiece 62 = .ok (.if_icmp .ne 18, 3) := by decide +kernel
theorem dX3_walkPiece_65 : decode cX3_walkPiece 65 = .ok (.aload_n 0, 1) := by decide +kernel
theorem dX3_walkPiece_66 : decode cX3_walkPiece 66 = .ok (.iload_n 2, 1) := by decide +kernel
theorem dX3_walkPiece_67 : decode cX3_walkPiece 67 = .ok (.invokevirtual 89, 3) := by decide +kernel
theorem dX3_walkPiece_70 : decode cX3_walkPiece 70 = .ok (.aload_n 0, 1) := by decide +kernel
theorem dX3_walkPiece_71 : decode cX3_walkPiece 71 = .ok (.getfield 22, 3) := by decide +kernel
theorem dX3_walkPiece_74 : decode cX3_walkPiece 74 = .ok (.iload_n 2, 1) := by decide +kernel
theorem dX3_walkPiece_75 : decode cX3_walkPiece 75 = .ok (.iaload, 1) := by decide +kernel
theorem dX3_walkPiece_76 : decode cX3_walkPiece 76 = .ok (.istore_n 2, 1) := by decide +kernel
theorem dX3_walkPiece_77 : decode cX3_walkPiece 77 = .ok (.goto 21, 3) := by decide +kernel
theorem dX3_walkPiece_80 : decode cX3_walkPiece 80 = .ok (.aload_n 0, 1) := by decide +kernel
theorem dX3_walkPiece_81 : decode cX3_walkPiece 81 = .ok (.getfield 25, 3) := by decide +kernel
theorem dX3_walkPiece_84 : decode cX3_walkPiece 84 = .ok (.iload_n 2, 1) := by decide +kernel
theorem dX3_walkPiece_85 : decode cX3_walkPiece 85 = .ok (.iload 4, 2) := by decide +kernel
theorem dX3_walkPiece_87 : decode cX3_walkPiece 87 = .ok (.iconst 1, 1) := by decide +kernel
theorem dX3_walkPiece_88 : decode cX3_walkPiece 88 = .ok (.iadd, 1) := by decide +kernel
theorem dX3_walkPiece_89 : decode cX3_walkPiece 89 = .ok (.iastore, 1) := by decide +kernel
theorem dX3_walkPiece_90 : decode cX3_walkPiece 90 = .ok (.aload_n 0, 1) := by decide +kernel
theorem dX3_walkPiece_91 : decode cX3_walkPiece 91 = .ok (.iload_n 2, 1) := by decide +kernel
theorem dX3_walkPiece_92 : decode cX3_walkPiece 92 = .ok (.iload 4, 2) := by decide +kernel
theorem dX3_walkPiece_94 : decode cX3_walkPiece 94 = .ok (.invokevirtual 92, 3) := by decide +kernel
theorem dX3_walkPiece_97 : decode cX3_walkPiece 97 = .ok (.istore_n 2, 1) := by decide +kernel
theorem dX3_walkPiece_98 : decode cX3_walkPiece 98 = .ok (.iinc 3 1, 3) := by decide +kernel
theorem dX3_walkPiece_101 : decode cX3_walkPiece 101 = .ok (.goto (-72), 3) := by decide +kernel
theorem dX3_walkPiece_104 : decode cX3_walkPiece 104 = .ok (.return_, 1) := by decide +kernel
theorem dX3_tryLink_0 : decode cX3_tryLink 0 = .ok (.aload_n 0, 1) := by decide +kernel
theorem dX3_tryLink_1 : decode cX3_tryLink 1 = .ok (.getfield 15, 3) := by decide +kernel
theorem dX3_tryLink_4 : decode cX3_tryLink 4 = .ok (.iload_n 2, 1) := by decide +kernel
theorem dX3_tryLink_5 : decode cX3_tryLink 5 = .ok (.iaload, 1) := by decide +kernel
theorem dX3_tryLink_6 : decode cX3_tryLink 6 = .ok (.iconst (-1), 1) := by decide +kernel
theorem dX3_tryLink_7 : decode cX3_tryLink 7 = .ok (.if_icmp .ne 43, 3) := by decide +kernel
theorem dX3_tryLink_10 : decode cX3_tryLink 10 = .ok (.aload_n 0, 1) := by decide +kernel
theorem dX3_tryLink_11 : decode cX3_tryLink 11 = .ok (.getfield 28, 3) := by decide +kernel
theorem dX3_tryLink_14 : decode cX3_tryLink 14 = .ok (.iload_n 2, 1) := by decide +kernel
theorem dX3_tryLink_15 : decode cX3_tryLink 15 = .ok (.aload_n 0, 1) := by decide +kernel
theorem dX3_tryLink_16 : decode cX3_tryLink 16 = .ok (.getfield 28, 3) := by decide +kernel
theorem dX3_tryLink_19 : decode cX3_tryLink 19 = .ok (.iload_n 1, 1) := by decide +kernel
theorem dX3_tryLink_20 : decode cX3_tryLink 20 = .ok (.iaload, 1) := by decide +kernel
theorem dX3_tryLink_21 : decode cX3_tryLink 21 = .ok (.iastore, 1) := by decide +kernel
theorem dX3_tryLink_22 : decode cX3_tryLink 22 = .ok (.aload_n 0, 1) := by decide +kernel
theorem dX3_tryLink_23 : decode cX3_tryLink 23 = .ok (.getfield 31, 3) := by decide +kernel
theorem dX3_tryLink_26 : decode cX3_tryLink 26 = .ok (.iload_n 2, 1) := by decide +kernel
theorem dX3_tryLink_27 : decode cX3_tryLink 27 = .ok (.aload_n 0, 1) := by decide +kernel
theorem dX3_tryLink_28 : decode cX3_tryLink 28 = .ok (.getfield 31, 3) := by decide +kernel
theorem dX3_tryLink_31 : decode cX3_tryLink 31 = .ok (.iload_n 1, 1) := by decide +kernel
theorem dX3_tryLink_32 : decode cX3_tryLink 32 = .ok (.baload, 1) := by decide +kernel
theorem dX3_tryLink_33 : decode cX3_tryLink 33 = .ok (.ifCond .ne 7, 3) := by decide +kernel
theorem dX3_tryLink_36 : decode cX3_tryLink 36 = .ok (.iconst 1, 1) := by decide +kernel
theorem dX3_tryLink_37 : decode cX3_tryLink 37 = .ok (.goto 4, 3) := by decide +kernel
theorem dX3_tryLink_40 : decode cX3_tryLink 40 = .ok (.iconst 0, 1) := by decide +kernel
theorem dX3_tryLink_41 : decode cX3_tryLink 41 = .ok (.bastore, 1) := by decide +kernel
theorem dX3_tryLink_42 : decode cX3_tryLink 42 = .ok (.aload_n 0, 1) := by decide +kernel
theorem dX3_tryLink_43 : decode cX3_tryLink 43 = .ok (.iload_n 2, 1) := by decide +kernel
theorem dX3_tryLink_44 : decode cX3_tryLink 44 = .ok (.iload_n 1, 1) := by decide +kernel
theorem dX3_tryLink_45 : decode cX3_tryLink 45 = .ok (.invokevirtual 74, 3) := by decide +kernel
theorem dX3_tryLink_48 : decode cX3_tryLink 48 = .ok (.iload_n 2, 1) := by decide +kernel
theorem dX3_tryLink_49 : decode cX3_tryLink 49 = .ok (.ireturn, 1) := by decide +kernel
theorem dX3_tryLink_50 : decode cX3_tryLink 50 = .ok (.aload_n 0, 1) := by decide +kernel
theorem dX3_tryLink_51 : decode cX3_tryLink 51 = .ok (.getfield 31, 3) := by decide +kernel
theorem dX3_tryLink_54 : decode cX3_tryLink 54 = .ok (.iload_n 2, 1) := by decide +kernel
theorem dX3_tryLink_55 : decode cX3_tryLink 55 = .ok (.baload, 1) := by decide +kernel
theorem dX3_tryLink_56 : decode cX3_tryLink 56 = .ok (.aload_n 0, 1) := by decide +kernel
theorem dX3_tryLink_57 : decode cX3_tryLink 57 = .ok (.getfield 31, 3) := by decide +kernel
theorem dX3_tryLink_60 : decode cX3_tryLink 60 = .ok (.iload_n 1, 1) := by decide +kernel
theorem dX3_tryLink_61 : decode cX3_tryLink 61 = .ok (.baload, 1) := by decide +kernel
theorem dX3_tryLink_62 : decode cX3_tryLink 62 = .ok (.if_icmp .ne 8, 3) := by decide +kernel
theorem dX3_tryLink_65 : decode cX3_tryLink 65 = .ok (.aload_n 0, 1) := by decide +kernel
theorem dX3_tryLink_66 : decode cX3_tryLink 66 = .ok (.iconst 0, 1) := by decide +kernel
theorem dX3_tryLink_67 : decode cX3_tryLink 67 = .ok (.putfield 53, 3) := by decide +kernel
theorem dX3_tryLink_70 : decode cX3_tryLink 70 = .ok (.aload_n 0, 1) := by decide +kernel
theorem dX3_tryLink_71 : decode cX3_tryLink 71 = .ok (.getfield 19, 3) := by decide +kernel
theorem dX3_tryLink_74 : decode cX3_tryLink 74 = .ok (.iload_n 1, 1) := by decide +kernel
theorem dX3_tryLink_75 : decode cX3_tryLink 75 = .ok (.aload_n 0, 1) := by decide +kernel
theorem dX3_tryLink_76 : decode cX3_tryLink 76 = .ok (.getfield 19, 3) := by decide +kernel
theorem dX3_tryLink_79 : decode cX3_tryLink 79 = .ok (.iload_n 1, 1) := by decide +kernel
theorem dX3_tryLink_80 : decode cX3_tryLink 80 = .ok (.iaload, 1) := by decide +kernel
theorem dX3_tryLink_81 : decode cX3_tryLink 81 = .ok (.aload_n 0, 1) := by decide +kernel
theorem dX3_tryLink_82 : decode cX3_tryLink 82 = .ok (.getfield 15, 3) := by decide +kernel
theorem dX3_tryLink_85 : decode cX3_tryLink 85 = .ok (.iload_n 2, 1) := by decide +kernel
theorem dX3_tryLink_86 : decode cX3_tryLink 86 = .ok (.iaload, 1) := by decide +kernel
theorem dX3_tryLink_87 : decode cX3_tryLink 87 = .ok (.invokestatic 95, 3) := by decide +kernel
theorem dX3_tryLink_90 : decode cX3_tryLink 90 = .ok (.iastore, 1) := by decide +kernel
theorem dX3_tryLink_91 : decode cX3_tryLink 91 = .ok (.iload_n 1, 1) := by decide +kernel
theorem dX3_tryLink_92 : decode cX3_tryLink 92 = .ok (.ireturn, 1) := by decide +kernel
theorem dX3_enter_0 : decode cX3_enter 0 = .ok (.aload_n 0, 1) := by decide +kernel
theorem dX3_enter_1 : decode cX3_enter 1 = .ok (.getfield 15, 3) := by decide +kernel
theorem dX3_enter_4 : decode cX3_enter 4 = .ok (.iload_n 1, 1) := by decide +kernel
theorem dX3_enter_5 : decode cX3_enter 5 = .ok (.aload_n 0, 1) := by decide +kernel
theorem dX3_enter_6 : decode cX3_enter 6 = .ok (.getfield 57, 3) := by decide +kernel
theorem dX3_enter_9 : decode cX3_enter 9 = .ok (.iastore, 1) := by decide +kernel
theorem dX3_enter_10 : decode cX3_enter 10 = .ok (.aload_n 0, 1) := by decide +kernel
theorem dX3_enter_11 : decode cX3_enter 11 = .ok (.getfield 19, 3) := by decide +kernel
theorem dX3_enter_14 : decode cX3_enter 14 = .ok (.iload_n 1, 1) := by decide +kernel
theorem dX3_enter_15 : decode cX3_enter 15 = .ok (.aload_n 0, 1) := by decide +kernel
theorem dX3_enter_16 : decode cX3_enter 16 = .ok (.getfield 57, 3) := by decide +kernel
theorem dX3_enter_19 : decode cX3_enter 19 = .ok (.iastore, 1) := by decide +kernel
theorem dX3_enter_20 : decode cX3_enter 20 = .ok (.aload_n 0, 1) := by decide +kernel
theorem dX3_enter_21 : decode cX3_enter 21 = .ok (.dup, 1) := by decide +kernel
theorem dX3_enter_22 : decode cX3_enter 22 = .ok (.getfield 57, 3) := by decide +kernel
theorem dX3_enter_25 : decode cX3_enter 25 = .ok (.iconst 1, 1) := by decide +kernel
theorem dX3_enter_26 : decode cX3_enter 26 = .ok (.iadd, 1) := by decide +kernel
theorem dX3_enter_27 : decode cX3_enter 27 = .ok (.putfield 57, 3) := by decide +kernel
theorem dX3_enter_30 : decode cX3_enter 30 = .ok (.aload_n 0, 1) := by decide +kernel
theorem dX3_enter_31 : decode cX3_enter 31 = .ok (.getfield 22, 3) := by decide +kernel
theorem dX3_enter_34 : decode cX3_enter 34 = .ok (.iload_n 1, 1) := by decide +kernel
theorem dX3_enter_35 : decode cX3_enter 35 = .ok (.iload_n 2, 1) := by decide +kernel
theorem dX3_enter_36 : decode cX3_enter 36 = .ok (.iastore, 1) := by decide +kernel
theorem dX3_enter_37 : decode cX3_enter 37 = .ok (.aload_n 0, 1) := by decide +kernel
theorem dX3_enter_38 : decode cX3_enter 38 = .ok (.getfield 25, 3) := by decide +kernel
theorem dX3_enter_41 : decode cX3_enter 41 = .ok (.iload_n 1, 1) := by decide +kernel
theorem dX3_enter_42 : decode cX3_enter 42 = .ok (.iconst 0, 1) := by decide +kernel
theorem dX3_enter_43 : decode cX3_enter 43 = .ok (.iastore, 1) := by decide +kernel
theorem dX3_enter_44 : decode cX3_enter 44 = .ok (.return_, 1) := by decide +kernel
theorem dX3_leave_0 : decode cX3_leave 0 = .ok (.aload_n 0, 1) := by decide +kernel
theorem dX3_leave_1 : decode cX3_leave 1 = .ok (.getfield 22, 3) := by decide +kernel
theorem dX3_leave_4 : decode cX3_leave 4 = .ok (.iload_n 1, 1) := by decide +kernel
theorem dX3_leave_5 : decode cX3_leave 5 = .ok (.iaload, 1) := by decide +kernel
theorem dX3_leave_6 : decode cX3_leave 6 = .ok (.istore_n 2, 1) := by decide +kernel
theorem dX3_leave_7 : decode cX3_leave 7 = .ok (.iload_n 2, 1) := by decide +kernel
theorem dX3_leave_8 : decode cX3_leave 8 = .ok (.iconst (-1), 1) := by decide +kernel
theorem dX3_leave_9 : decode cX3_leave 9 = .ok (.if_icmp .ne 4, 3) := by decide +kernel
theorem dX3_leave_12 : decode cX3_leave 12 = .ok (.return_, 1) := by decide +kernel
theorem dX3_leave_13 : decode cX3_leave 13 = .ok (.aload_n 0, 1) := by decide +kernel
theorem dX3_leave_14 : decode cX3_leave 14 = .ok (.getfield 19, 3) := by decide +kernel
theorem dX3_leave_17 : decode cX3_leave 17 = .ok (.iload_n 2, 1) := by decide +kernel
theorem dX3_leave_18 : decode cX3_leave 18 = .ok (.aload_n 0, 1) := by decide +kernel
theorem dX3_leave_19 : decode cX3_leave 19 = .ok (.getfield 19, 3) := by decide +kernel
theorem dX3_leave_22 : decode cX3_leave 22 = .ok (.iload_n 2, 1) := by decide +kernel
theorem dX3_leave_23 : decode cX3_leave 23 = .ok (.iaload, 1) := by decide +kernel
theorem dX3_leave_24 : decode cX3_leave 24 = .ok (.aload_n 0, 1) := by decide +kernel
theorem dX3_leave_25 : decode cX3_leave 25 = .ok (.getfield 19, 3) := by decide +kernel
theorem dX3_leave_28 : decode cX3_leave 28 = .ok (.iload_n 1, 1) := by decide +kernel
theorem dX3_leave_29 : decode cX3_leave 29 = .ok (.iaload, 1) := by decide +kernel
theorem dX3_leave_30 : decode cX3_leave 30 = .ok (.invokestatic 95, 3) := by decide +kernel
theorem dX3_leave_33 : decode cX3_leave 33 = .ok (.iastore, 1) := by decide +kernel
theorem dX3_leave_34 : decode cX3_leave 34 = .ok (.aload_n 0, 1) := by decide +kernel
theorem dX3_leave_35 : decode cX3_leave 35 = .ok (.getfield 22, 3) := by decide +kernel
theorem dX3_leave_38 : decode cX3_leave 38 = .ok (.iload_n 2, 1) := by decide +kernel
theorem dX3_leave_39 : decode cX3_leave 39 = .ok (.iaload, 1) := by decide +kernel
theorem dX3_leave_40 : decode cX3_leave 40 = .ok (.iconst (-1), 1) := by decide +kernel
theorem dX3_leave_41 : decode cX3_leave 41 = .ok (.if_icmp .eq 24, 3) := by decide +kernel
theorem dX3_leave_44 : decode cX3_leave 44 = .ok (.aload_n 0, 1) := by decide +kernel
theorem dX3_leave_45 : decode cX3_leave 45 = .ok (.getfield 19, 3) := by decide +kernel
theorem dX3_leave_48 : decode cX3_leave 48 = .ok (.iload_n 1, 1) := by decide +kernel
theorem dX3_leave_49 : decode cX3_leave 49 = .ok (.iaload, 1) := by decide +kernel
theorem dX3_leave_50 : decode cX3_leave 50 = .ok (.aload_n 0, 1) := by decide +kernel
theorem dX3_leave_51 : decode cX3_leave 51 = .ok (.getfield 15, 3) := by decide +kernel
theorem dX3_leave_54 : decode cX3_leave 54 = .ok (.iload_n 2, 1) := by decide +kernel
theorem dX3_leave_55 : decode cX3_leave 55 = .ok (.iaload, 1) := by decide +kernel
theorem dX3_leave_56 : decode cX3_leave 56 = .ok (.if_icmp .lt 8, 3) := by decide +kernel
theorem dX3_leave_59 : decode cX3_leave 59 = .ok (.aload_n 0, 1) := by decide +kernel
theorem dX3_leave_60 : decode cX3_leave 60 = .ok (.iload_n 2, 1) := by decide +kernel
theorem dX3_leave_61 : decode cX3_leave 61 = .ok (.invokevirtual 100, 3) := by decide +kernel
theorem dX3_leave_64 : decode cX3_leave 64 = .ok (.return_, 1) := by decide +kernel
theorem dX3_leave_65 : decode cX3_leave 65 = .ok (.aload_n 0, 1) := by decide +kernel
theorem dX3_leave_66 : decode cX3_leave 66 = .ok (.dup, 1) := by decide +kernel
theorem dX3_leave_67 : decode cX3_leave 67 = .ok (.getfield 71, 3) := by decide +kernel
theorem dX3_leave_70 : decode cX3_leave 70 = .ok (.iconst 1, 1) := by decide +kernel
theorem dX3_leave_71 : decode cX3_leave 71 = .ok (.iadd, 1) := by decide +kernel
theorem dX3_leave_72 : decode cX3_leave 72 = .ok (.putfield 71, 3) := by decide +kernel
theorem dX3_leave_75 : decode cX3_leave 75 = .ok (.aload_n 0, 1) := by decide +kernel
theorem dX3_leave_76 : decode cX3_leave 76 = .ok (.getfield 71, 3) := by decide +kernel
theorem dX3_leave_79 : decode cX3_leave 79 = .ok (.iconst 1, 1) := by decide +kernel
theorem dX3_leave_80 : decode cX3_leave 80 = .ok (.if_icmp .le 8, 3) := by decide +kernel
theorem dX3_leave_83 : decode cX3_leave 83 = .ok (.aload_n 0, 1) := by decide +kernel
theorem dX3_leave_84 : decode cX3_leave 84 = .ok (.iload_n 2, 1) := by decide +kernel
theorem dX3_leave_85 : decode cX3_leave 85 = .ok (.invokevirtual 100, 3) := by decide +kernel
theorem dX3_leave_88 : decode cX3_leave 88 = .ok (.return_, 1) := by decide +kernel
theorem dX3_markCut_0 : decode cX3_markCut 0 = .ok (.aload_n 0, 1) := by decide +kernel
theorem dX3_markCut_1 : decode cX3_markCut 1 = .ok (.getfield 35, 3) := by decide +kernel
theorem dX3_markCut_4 : decode cX3_markCut 4 = .ok (.iload_n 1, 1) := by decide +kernel
theorem dX3_markCut_5 : decode cX3_markCut 5 = .ok (.baload, 1) := by decide +kernel
theorem dX3_markCut_6 : decode cX3_markCut 6 = .ok (.ifCond .ne 20, 3) := by decide +kernel
theorem dX3_markCut_9 : decode cX3_markCut 9 = .ok (.aload_n 0, 1) := by decide +kernel
theorem dX3_markCut_10 : decode cX3_markCut 10 = .ok (.getfield 35, 3) := by decide +kernel
theorem dX3_markCut_13 : decode cX3_markCut 13 = .ok (.iload_n 1, 1) := by decide +kernel
theorem dX3_markCut_14 : decode cX3_markCut 14 = .ok (.iconst 1, 1) := by decide +kernel
theorem dX3_markCut_15 : decode cX3_markCut 15 = .ok (.bastore, 1) := by decide +kernel
theorem dX3_markCut_16 : decode cX3_markCut 16 = .ok (.aload_n 0, 1) := by decide +kernel
theorem dX3_markCut_17 : decode cX3_markCut 17 = .ok (.dup, 1) := by decide +kernel
theorem dX3_markCut_18 : decode cX3_markCut 18 = .ok (.getfield 50, 3) := by decide +kernel
theorem dX3_markCut_21 : decode cX3_markCut 21 = .ok (.iconst 1, 1) := by decide +kernel
theorem dX3_markCut_22 : decode cX3_markCut 22 = .ok (.iadd, 1) := by decide +kernel
theorem dX3_markCut_23 : decode cX3_markCut 23 = .ok (.putfield 50, 3) := by decide +kernel
theorem dX3_markCut_26 : decode cX3_markCut 26 = .ok (.return_, 1) := by decide +kernel
theorem dX4_init_0 : decode cX4_init 0 = .ok (.aload_n 0, 1) := by decide +kernel
theorem dX4_init_1 : decode cX4_init 1 = .ok (.invokespecial 3, 3) := by decide +kernel
theorem dX4_init_4 : decode cX4_init 4 = .ok (.aload_n 0, 1) := by decide +kernel
theorem dX4_init_5 : decode cX4_init 5 = .ok (.aload_n 1, 1) := by decide +kernel
theorem dX4_init_6 : decode cX4_init 6 = .ok (.putfield 9, 3) := by decide +kernel
theorem dX4_init_9 : decode cX4_init 9 = .ok (.aload_n 0, 1) := by decide +kernel
theorem dX4_init_10 : decode cX4_init 10 = .ok (.iconst 4, 1) := by decide +kernel
theorem dX4_init_11 : decode cX4_init 11 = .ok (.newarray .long, 2) := by decide +kernel
theorem dX4_init_13 : decode cX4_init 13 = .ok (.putfield 15, 3) := by decide +kernel
theorem dX4_init_16 : decode cX4_init 16 = .ok (.return_, 1) := by decide +kernel
theorem dX4_read_0 : decode cX4_read 0 = .ok (.aload_n 1, 1) := by decide +kernel
theorem dX4_read_1 : decode cX4_read 1 = .ok (.invokevirtual 19, 3) := by decide +kernel
theorem dX4_read_4 : decode cX4_read 4 = .ok (.aload_n 0, 1) := by decide +kernel
theorem dX4_read_5 : decode cX4_read 5 = .ok (.iconst 0, 1) := by decide +kernel
theorem dX4_read_6 : decode cX4_read 6 = .ok (.putfield 24, 3) := by decide +kernel
theorem dX4_read_9 : decode cX4_read 9 = .ok (.aload_n 0, 1) := by decide +kernel
theorem dX4_read_10 : decode cX4_read 10 = .ok (.getfield 9, 3) := by decide +kernel
theorem dX4_read_13 : decode cX4_read 13 = .ok (.invokevirtual 28, 3) := by decide +kernel
theorem dX4_read_16 : decode cX4_read 16 = .ok (.aload_n 0, 1) := by decide +kernel
theorem dX4_read_17 : decode cX4_read 17 = .ok (.ldc2_w 33, 3) := by decide +kernel
theorem dX4_read_20 : decode cX4_read 20 = .ok (.invokevirtual 35, 3) := by decide +kernel
theorem dX4_read_23 : decode cX4_read 23 = .ok (.ifCond .ne 13, 3) := by decide +kernel
theorem dX4_read_26 : decode cX4_read 26 = .ok (.aload_n 0, 1) := by decide +kernel
theorem dX4_read_27 : decode cX4_read 27 = .ok (.iconst 1, 1) := by decide +kernel
theorem dX4_read_28 : decode cX4_read 28 = .ok (.invokevirtual 39, 3) := by decide +kernel
theorem dX4_read_31 : decode cX4_read 31 = .ok (.aload_n 0, 1) := by decide +kernel
theorem dX4_read_32 : decode cX4_read 32 = .ok (.getfield 24, 3) := by decide +kernel
theorem dX4_read_35 : decode cX4_read 35 = .ok (.ireturn, 1) := by decide +kernel
theorem dX4_read_36 : decode cX4_read 36 = .ok (.iconst 0, 1) := by decide +kernel
theorem dX4_read_37 : decode cX4_read 37 = .ok (.istore_n 2, 1) := by decide +kernel
theorem dX4_read_38 : decode cX4_read 38 = .ok (.iload_n 2, 1) := by decide +kernel
theorem dX4_read_39 : decode cX4_read 39 = .ok (.iconst 4, 1) := by decide +kernel
theorem dX4_read_40 : decode cX4_read 40 = .ok (.if_icmp .gt 31, 3) := by decide +kernel
theorem dX4_read_43 : decode cX4_read 43 = .ok (.aload_n 0, 1) := by decide +kernel
theorem dX4_read_44 : decode cX4_read 44 = .ok (.getfield 24, 3) := by decide +kernel
theorem dX4_read_47 : decode cX4_read 47 = .ok (.ifCond .ne 24, 3) := by decide +kernel
theorem dX4_read_50 : decode cX4_read 50 = .ok (.aload_n 0, 1) := by decide +kernel
theorem dX4_read_51 : decode cX4_read 51 = .ok (.ldc2_w 33, 3) := by decide +kernel
theorem dX4_read_54 : decode cX4_read 54 = .ok (.invokevirtual 35, 3) := by decide +kernel
theorem dX4_read_57 : decode cX4_read 57 = .ok (.ifCond .eq 14, 3) := by decide +kernel
theorem dX4_read_60 : decode cX4_read 60 = .ok (.aload_n 0, 1) := by decide +kernel
theorem dX4_read_61 : decode cX4_read 61 = .ok (.aload_n 1, 1) := by decide +kernel
theorem dX4_read_62 : decode cX4_read 62 = .ok (.invokevirtual 43, 3) := by decide +kernel
theorem dX4_read_65 : decode cX4_read 65 = .ok (.iinc 2 1, 3) := by decide +kernel
theorem dX4_read_68 : decode cX4_read 68 = .ok (.goto (-30), 3) := by decide +kernel
theorem dX4_read_71 : decode cX4_read 71 = .ok (.iconst 0, 1) := by decide +kernel
theorem dX4_read_72 : decode cX4_read 72 = .ok (.istore_n 2, 1) := by decide +kernel
theorem dX4_read_73 : decode cX4_read 73 = .ok (.iload_n 2, 1) := by decide +kernel
theorem dX4_read_74 : decode cX4_read 74 = .ok (.bipush 24, 2) := by decide +kernel
theorem dX4_read_76 : decode cX4_read 76 = .ok (.if_icmp .gt 31, 3) := by decide +kernel
theorem dX4_read_79 : decode cX4_read 79 = .ok (.aload_n 0, 1) := by decide +kernel
theorem dX4_read_80 : decode cX4_read 80 = .ok (.getfield 24, 3) := by decide +kernel
theorem dX4_read_83 : decode cX4_read 83 = .ok (.ifCond .ne 24, 3) := by decide +kernel
theorem dX4_read_86 : decode cX4_read 86 = .ok (.aload_n 0, 1) := by decide +kernel
theorem dX4_read_87 : decode cX4_read 87 = .ok (.ldc2_w 47, 3) := by decide +kernel
theorem dX4_read_90 : decode cX4_read 90 = .ok (.invokevirtual 35, 3) := by decide +kernel
theorem dX4_read_93 : decode cX4_read 93 = .ok (.ifCond .eq 14, 3) := by decide +kernel
theorem dX4_read_96 : decode cX4_read 96 = .ok (.aload_n 0, 1) := by decide +kernel
theorem dX4_read_97 : decode cX4_read 97 = .ok (.aload_n 1, 1) := by decide +kernel
theorem dX4_read_98 : decode cX4_read 98 = .ok (.invokevirtual 49, 3) := by decide +kernel
theorem dX4_read_101 : decode cX4_read 101 = .ok (.iinc 2 1, 3) := by decide +kernel
theorem dX4_read_104 : decode cX4_read 104 = .ok (.goto (-31), 3) := by decide +kernel
theorem dX4_read_107 : decode cX4_read 107 = .ok (.aload_n 0, 1) := by decide +kernel
theorem dX4_read_108 : decode cX4_read 108 = .ok (.getfield 24, 3) := by decide +kernel
theorem dX4_read_111 : decode cX4_read 111 = .ok (.ifCond .ne 18, 3) := by decide +kernel
theorem dX4_read_114 : decode cX4_read 114 = .ok (.aload_n 0, 1) := by decide +kernel
theorem dX4_read_115 : decode cX4_read 115 = .ok (.getfield 9, 3) := by decide +kernel
theorem dX4_read_118 : decode cX4_read 118 = .ok (.getfield 52, 3) := by decide +kernel
theorem dX4_read_121 : decode cX4_read 121 = .ok (.ifCond .eq 8, 3) := by decide +kernel
theorem dX4_read_124 : decode cX4_read 124 = .ok (.aload_n 0, 1) := by decide +kernel
theorem dX4_read_125 : decode cX4_read 125 = .ok (.iconst 1, 1) := by decide +kernel
theorem dX4_read_126 : decode cX4_read 126 = .ok (.invokevirtual 39, 3) := by decide +kernel
theorem dX4_read_129 : decode cX4_read 129 = .ok (.aload_n 0, 1) := by decide +kernel
theorem dX4_read_130 : decode cX4_read 130 = .ok (.getfield 24, 3) := by decide +kernel
theorem dX4_read_133 : decode cX4_read 133 = .ok (.ireturn, 1) := by decide +kernel
theorem dX4_readRing_0 : decode cX4_readRing 0 = .ok (.aload_n 1, 1) := by decide +kernel
theorem dX4_readRing_1 : decode cX4_readRing 1 = .ok (.getfield 55, 3) := by decide +kernel
theorem dX4_readRing_4 : decode cX4_readRing 4 = .ok (.iconst 4, 1) := by decide +kernel
theorem dX4_readRing_5 : decode cX4_readRing 5 = .ok (.if_icmp .lt 9, 3) := by decide +kernel
theorem dX4_readRing_8 : decode cX4_readRing 8 = .ok (.aload_n 0, 1) := by decide +kernel
theorem dX4_readRing_9 : decode cX4_readRing 9 = .ok (.iconst 5, 1) := by decide +kernel
theorem dX4_readRing_10 : decode cX4_readRing 10 = .ok (.invokevirtual 39, 3) := by decide +kernel
theorem dX4_readRing_13 : decode cX4_readRing 13 = .ok (.return_, 1) := by decide +kernel
theorem dX4_readRing_14 : decode cX4_readRing 14 = .ok (.aload_n 0, 1) := by decide +kernel
theorem dX4_readRing_15 : decode cX4_readRing 15 = .ok (.getfield 9, 3) := by decide +kernel
theorem dX4_readRing_18 : decode cX4_readRing 18 = .ok (.invokevirtual 58, 3) := by decide +kernel
theorem dX4_readRing_21 : decode cX4_readRing 21 = .ok (.aload_n 0, 1) := by decide +kernel
theorem dX4_readRing_22 : decode cX4_readRing 22 = .ok (.invokevirtual 61, 3) := by decide +kernel
theorem dX4_readRing_25 : decode cX4_readRing 25 = .ok (.ifCond .ne 11, 3) := by decide +kernel
theorem dX4_readRing_28 : decode cX4_readRing 28 = .ok (.aload_n 0, 1) := by decide +kernel
theorem dX4_readRing_29 : decode cX4_readRing 29 = .ok (.iconst 1, 1) := by decide +kernel
theorem dX4_readRing_30 : decode cX4_readRing 30 = .ok (.invokevirtual 39, 3) := by decide +kernel
theorem dX4_readRing_33 : decode cX4_readRing 33 = .ok (.goto 57, 3) := by decide +kernel
theorem dX4_readRing_36 : decode cX4_readRing 36 = .ok (.aload_n 0, 1) := by decide +kernel
theorem dX4_readRing_37 : decode cX4_readRing 37 = .ok (.aload_n 1, 1) := by decide +kernel
theorem dX4_readRing_38 : decode cX4_readRing 38 = .ok (.invokevirtual 65, 3) := by decide +kernel
theorem dX4_readRing_41 : decode cX4_readRing 41 = .ok (.iconst (-1), 1) := by decide +kernel
theorem dX4_readRing_42 : decode cX4_readRing 42 = .ok (.if_icmp .eq 11, 3) := by decide +kernel
theorem dX4_readRing_45 : decode cX4_readRing 45 = .ok (.aload_n 0, 1) := by decide +kernel
theorem dX4_readRing_46 : decode cX4_readRing 46 = .ok (.iconst 3, 1) := by decide +kernel
theorem dX4_readRing_47 : decode cX4_readRing 47 = .ok (.invokevirtual 39, 3) := by decide +kernel
theorem dX4_readRing_50 : decode cX4_readRing 50 = .ok (.goto 40, 3) := by decide +kernel
theorem dX4_readRing_53 : decode cX4_readRing 53 = .ok (.aload_n 0, 1) := by decide +kernel
theorem dX4_readRing_54 : decode cX4_readRing 54 = .ok (.getfield 15, 3) := by decide +kernel
theorem dX4_readRing_57 : decode cX4_readRing 57 = .ok (.aload_n 1, 1) := by decide +kernel
theorem dX4_readRing_58 : decode cX4_readRing 58 = .ok (.getfield 55, 3) := by decide +kernel
theorem dX4_readRing_61 : decode cX4_readRing 61 = .ok (.aload_n 0, 1) := by decide +kernel
theorem dX4_readRing_62 : decode cX4_readRing 62 = .ok (.getfield 9, 3) := by decide +kernel
theorem dX4_readRing_65 : decode cX4_readRing 65 = .ok (.getfield 69, 3) := by decide +kernel
theorem dX4_readRing_68 : decode cX4_readRing 68 = .ok (.lastore, 1) := by decide +kernel
theorem dX4_readRing_69 : decode cX4_readRing 69 = .ok (.aload_n 1, 1) := by decide +kernel
theorem dX4_readRing_70 : decode cX4_readRing 70 = .ok (.dup, 1) := by decide +kernel
theorem dX4_readRing_71 : decode cX4_readRing 71 = .ok (.getfield 55, 3) := by decide +kernel
theorem dX4_readRing_74 : decode cX4_readRing 74 = .ok (.iconst 1, 1) := by decide +kernel
theorem dX4_readRing_75 : decode cX4_readRing 75 = .ok (.iadd, 1) := by decide +kernel
theorem dX4_readRing_76 : decode cX4_readRing 76 = .ok (.putfield 55, 3) := by decide +kernel
theorem dX4_readRing_79 : decode cX4_readRing 79 = .ok (.aload_n 0, 1) := by decide +kernel
theorem dX4_readRing_80 : decode cX4_readRing 80 = .ok (.getfield 9, 3) := by decide +kernel
theorem dX4_readRing_83 : decode cX4_readRing 83 = .ok (.invokevirtual 58, 3) := by decide +kernel
theorem dX4_readRing_86 : decode cX4_readRing 86 = .ok (.aload_n 0, 1) := by decide +kernel
theorem dX4_readRing_87 : decode cX4_readRing 87 = .ok (.invokevirtual 73, 3) := by decide +kernel
theorem dX4_readRing_90 : decode cX4_readRing 90 = .ok (.return_, 1) := by decide +kernel
theorem dX4_readLink_0 : decode cX4_readLink 0 = .ok (.aload_n 1, 1) := by decide +kernel
theorem dX4_readLink_1 : decode cX4_readLink 1 = .ok (.getfield 76, 3) := by decide +kernel
theorem dX4_readLink_4 : decode cX4_readLink 4 = .ok (.istore_n 2, 1) := by decide +kernel
theorem dX4_readLink_5 : decode cX4_readLink 5 = .ok (.iload_n 2, 1) := by decide +kernel
theorem dX4_readLink_6 : decode cX4_readLink 6 = .ok (.bipush 24, 2) := by decide +kernel
theorem dX4_readLink_8 : decode cX4_readLink 8 = .ok (.if_icmp .lt 9, 3) := by decide +kernel
theorem dX4_readLink_11 : decode cX4_readLink 11 = .ok (.aload_n 0, 1) := by decide +kernel
theorem dX4_readLink_12 : decode cX4_readLink 12 = .ok (.iconst 5, 1) := by decide +kernel
theorem dX4_readLink_13 : decode cX4_readLink 13 = .ok (.invokevirtual 39, 3) := by decide +kernel
theorem dX4_readLink_16 : decode cX4_readLink 16 = .ok (.return_, 1) := by decide +kernel
theorem dX4_readLink_17 : decode cX4_readLink 17 = .ok (.aload_n 0, 1) := by decide +kernel
theorem dX4_readLink_18 : decode cX4_readLink 18 = .ok (.getfield 9, 3) := by decide +kernel
theorem dX4_readLink_21 : decode cX4_readLink 21 = .ok (.invokevirtual 58, 3) := by decide +kernel
theorem dX4_readLink_24 : decode cX4_readLink 24 = .ok (.aload_n 1, 1) := by decide +kernel
theorem dX4_readLink_25 : decode cX4_readLink 25 = .ok (.getfield 79, 3) := by decide +kernel
theorem dX4_readLink_28 : decode cX4_readLink 28 = .ok (.iload_n 2, 1) := by decide +kernel
theorem dX4_readLink_29 : decode cX4_readLink 29 = .ok (.aload_n 0, 1) := by decide +kernel
theorem dX4_readLink_30 : decode cX4_readLink 30 = .ok (.aload_n 1, 1) := by decide +kernel
theorem dX4_readLink_31 : decode cX4_readLink 31 = .ok (.invokevirtual 83, 3) := by decide +kernel
theorem dX4_readLink_34 : decode cX4_readLink 34 = .ok (.iastore, 1) := by decide +kernel
theorem dX4_readLink_35 : decode cX4_readLink 35 = .ok (.aload_n 1, 1) := by decide +kernel
theorem dX4_readLink_36 : decode cX4_readLink 36 = .ok (.getfield 86, 3) := by decide +kernel
theorem dX4_readLink_39 : decode cX4_readLink 39 = .ok (.iload_n 2, 1) := by decide +kernel
theorem dX4_readLink_40 : decode cX4_readLink 40 = .ok (.aload_n 0, 1) := by decide +kernel
theorem dX4_readLink_41 : decode cX4_readLink 41 = .ok (.aload_n 1, 1) := by decide +kernel
theorem dX4_readLink_42 : decode cX4_readLink 42 = .ok (.invokevirtual 83, 3) := by decide +kernel
theorem dX4_readLink_45 : decode cX4_readLink 45 = .ok (.iastore, 1) := by decide +kernel
theorem dX4_readLink_46 : decode cX4_readLink 46 = .ok (.aload_n 1, 1) := by decide +kernel
theorem dX4_readLink_47 : decode cX4_readLink 47 = .ok (.getfield 89, 3) := by decide +kernel
theorem dX4_readLink_50 : decode cX4_readLink 50 = .ok (.iload_n 2, 1) := by decide +kernel
theorem dX4_readLink_51 : decode cX4_readLink 51 = .ok (.aload_n 0, 1) := by decide +kernel
theorem dX4_readLink_52 : decode cX4_readLink 52 = .ok (.invokevirtual 92, 3) := by decide +kernel
theorem dX4_readLink_55 : decode cX4_readLink 55 = .ok (.iastore, 1) := by decide +kernel
theorem dX4_readLink_56 : decode cX4_readLink 56 = .ok (.aload_n 1, 1) := by decide +kernel
theorem dX4_readLink_57 : decode cX4_readLink 57 = .ok (.getfield 96, 3) := by decide +kernel
theorem dX4_readLink_60 : decode cX4_readLink 60 = .ok (.iload_n 2, 1) := by decide +kernel
theorem dX4_readLink_61 : decode cX4_readLink 61 = .ok (.aload_n 0, 1) := by decide +kernel
theorem dX4_readLink_62 : decode cX4_readLink 62 = .ok (.invokevirtual 92, 3) := by decide +kernel
theorem dX4_readLink_65 : decode cX4_readLink 65 = .ok (.iastore, 1) := by decide +kernel
theorem dX4_readLink_66 : decode cX4_readLink 66 = .ok (.aload_n 1, 1) := by decide +kernel
theorem dX4_readLink_67 : decode cX4_readLink 67 = .ok (.getfield 99, 3) := by decide +kernel
theorem dX4_readLink_70 : decode cX4_readLink 70 = .ok (.iload_n 2, 1) := by decide +kernel
theorem dX4_readLink_71 : decode cX4_readLink 71 = .ok (.aload_n 0, 1) := by decide +kernel
theorem dX4_readLink_72 : decode cX4_readLink 72 = .ok (.aload_n 1, 1) := by decide +kernel
theorem dX4_readLink_73 : decode cX4_readLink 73 = .ok (.invokevirtual 103, 3) := by decide +kernel
theorem dX4_readLink_76 : decode cX4_readLink 76 = .ok (.bastore, 1) := by decide +kernel
theorem dX4_readLink_77 : decode cX4_readLink 77 = .ok (.aload_n 0, 1) := by decide +kernel
theorem dX4_readLink_78 : decode cX4_readLink 78 = .ok (.invokevirtual 73, 3) := by decide +kernel
theorem dX4_readLink_81 : decode cX4_readLink 81 = .ok (.aload_n 0, 1) := by decide +kernel
theorem dX4_readLink_82 : decode cX4_readLink 82 = .ok (.getfield 24, 3) := by decide +kernel
theorem dX4_readLink_85 : decode cX4_readLink 85 = .ok (.ifCond .ne 13, 3) := by decide +kernel
theorem dX4_readLink_88 : decode cX4_readLink 88 = .ok (.aload_n 1, 1) := by decide +kernel
theorem dX4_readLink_89 : decode cX4_readLink 89 = .ok (.dup, 1) := by decide +kernel
theorem dX4_readLink_90 : decode cX4_readLink 90 = .ok (.getfield 76, 3) := by decide +kernel
theorem dX4_readLink_93 : decode cX4_readLink 93 = .ok (.iconst 1, 1) := by decide +kernel
theorem dX4_readLink_94 : decode cX4_readLink 94 = .ok (.iadd, 1) := by decide +kernel
theorem dX4_readLink_95 : decode cX4_readLink 95 = .ok (.putfield 76, 3) := by decide +kernel
theorem dX4_readLink_98 : decode cX4_readLink 98 = .ok (.return_, 1) := by decide +kernel
theorem dX4_readToldName_0 : decode cX4_readToldName 0 = .ok (.aload_n 0, 1) := by decide +kernel
theorem dX4_readToldName_1 : decode cX4_readToldName 1 = .ok (.getfield 24, 3) := by decide +kernel
theorem dX4_readToldName_4 : decode cX4_readToldName 4 = .ok (.ifCond .eq 5, 3) := by decide +kernel
theorem dX4_readToldName_7 : decode cX4_readToldName 7 = .ok (.iconst (-1), 1) := by decide +kernel
theorem dX4_readToldName_8 : decode cX4_readToldName 8 = .ok (.ireturn, 1) := by decide +kernel
theorem dX4_readToldName_9 : decode cX4_readToldName 9 = .ok (.iconst (-1), 1) := by decide +kernel
theorem dX4_readToldName_10 : decode cX4_readToldName 10 = .ok (.istore_n 2, 1) := by decide +kernel
theorem dX4_readToldName_11 : decode cX4_readToldName 11 = .ok (.aload_n 0, 1) := by decide +kernel
theorem dX4_readToldName_12 : decode cX4_readToldName 12 = .ok (.invokevirtual 61, 3) := by decide +kernel
theorem dX4_readToldName_15 : decode cX4_readToldName 15 = .ok (.ifCond .ne 11, 3) := by decide +kernel
theorem dX4_readToldName_18 : decode cX4_readToldName 18 = .ok (.aload_n 0, 1) := by decide +kernel
theorem dX4_readToldName_19 : decode cX4_readToldName 19 = .ok (.iconst 1, 1) := by decide +kernel
theorem dX4_readToldName_20 : decode cX4_readToldName 20 = .ok (.invokevirtual 39, 3) := by decide +kernel
theorem dX4_readToldName_23 : decode cX4_readToldName 23 = .ok (.goto 19, 3) := by decide +kernel
theorem dX4_readToldName_26 : decode cX4_readToldName 26 = .ok (.aload_n 0, 1) := by decide +kernel
theorem dX4_readToldName_27 : decode cX4_readToldName 27 = .ok (.aload_n 1, 1) := by decide +kernel
theorem dX4_readToldName_28 : decode cX4_readToldName 28 = .ok (.invokevirtual 65, 3) := by decide +kernel
theorem dX4_readToldName_31 : decode cX4_readToldName 31 = .ok (.istore_n 2, 1) := by decide +kernel
theorem dX4_readToldName_32 : decode cX4_readToldName 32 = .ok (.iload_n 2, 1) := by decide +kernel
theorem dX4_readToldName_33 : decode cX4_readToldName 33 = .ok (.iconst (-1), 1) := by decide +kernel
theorem dX4_readToldName_34 : decode cX4_readToldName 34 = .ok (.if_icmp .ne 8, 3) := by decide +kernel
theorem dX4_readToldName_37 : decode cX4_readToldName 37 = .ok (.aload_n 0, 1) := by decide +kernel
theorem dX4_readToldName_38 : decode cX4_readToldName 38 = .ok (.iconst 2, 1) := by decide +kernel
theorem dX4_readToldName_39 : decode cX4_readToldName 39 = .ok (.invokevirtual 39, 3) := by decide +kernel
theorem dX4_readToldName_42 : decode cX4_readToldName 42 = .ok (.aload_n 0, 1) := by decide +kernel
theorem dX4_readToldName_43 : decode cX4_readToldName 43 = .ok (.getfield 9, 3) := by decide +kernel
theorem dX4_readToldName_46 : decode cX4_readToldName 46 = .ok (.invokevirtual 58, 3) := by decide +kernel
theorem dX4_readToldName_49 : decode cX4_readToldName 49 = .ok (.iload_n 2, 1) := by decide +kernel
theorem dX4_readToldName_50 : decode cX4_readToldName 50 = .ok (.ireturn, 1) := by decide +kernel
theorem dX4_readAway_0 : decode cX4_readAway 0 = .ok (.aload_n 0, 1) := by decide +kernel
theorem dX4_readAway_1 : decode cX4_readAway 1 = .ok (.getfield 24, 3) := by decide +kernel
theorem dX4_readAway_4 : decode cX4_readAway 4 = .ok (.ifCond .eq 5, 3) := by decide +kernel
theorem dX4_readAway_7 : decode cX4_readAway 7 = .ok (.iconst 0, 1) := by decide +kernel
theorem dX4_readAway_8 : decode cX4_readAway 8 = .ok (.ireturn, 1) := by decide +kernel
theorem dX4_readAway_9 : decode cX4_readAway 9 = .ok (.aload_n 0, 1) := by decide +kernel
theorem dX4_readAway_10 : decode cX4_readAway 10 = .ok (.getfield 9, 3) := by decide +kernel
theorem dX4_readAway_13 : decode cX4_readAway 13 = .ok (.iconst 3, 1) := by decide +kernel
theorem dX4_readAway_14 : decode cX4_readAway 14 = .ok (.ldc2_w 107, 3) := by decide +kernel
theorem dX4_readAway_17 : decode cX4_readAway 17 = .ok (.invokevirtual 109, 3) := by decide +kernel
theorem dX4_readAway_20 : decode cX4_readAway 20 = .ok (.istore_n 1, 1) := by decide +kernel
theorem dX4_readAway_21 : decode cX4_readAway 21 = .ok (.iload_n 1, 1) := by decide +kernel
theorem dX4_readAway_22 : decode cX4_readAway 22 = .ok (.ifCond .ne 17, 3) := by decide +kernel
theorem dX4_readAway_25 : decode cX4_readAway 25 = .ok (.aload_n 0, 1) := by decide +kernel
theorem dX4_readAway_26 : decode cX4_readAway 26 = .ok (.getfield 9, 3) := by decide +kernel
theorem dX4_readAway_29 : decode cX4_readAway 29 = .ok (.iconst 3, 1) := by decide +kernel
theorem dX4_readAway_30 : decode cX4_readAway 30 = .ok (.ldc2_w 113, 3) := by decide +kernel
theorem dX4_readAway_33 : decode cX4_readAway 33 = .ok (.invokevirtual 109, 3) := by decide +kernel
theorem dX4_readAway_36 : decode cX4_readAway 36 = .ok (.ifCond .eq 10, 3) := by decide +kernel
theorem dX4_readAway_39 : decode cX4_readAway 39 = .ok (.aload_n 0, 1) := by decide +kernel
theorem dX4_readAway_40 : decode cX4_readAway 40 = .ok (.getfield 9, 3) := by decide +kernel
theorem dX4_readAway_43 : decode cX4_readAway 43 = .ok (.invokevirtual 58, 3) := by decide +kernel
theorem dX4_readAway_46 : decode cX4_readAway 46 = .ok (.aload_n 0, 1) := by decide +kernel
theorem dX4_readAway_47 : decode cX4_readAway 47 = .ok (.getfield 9, 3) := by decide +kernel
theorem dX4_readAway_50 : decode cX4_readAway 50 = .ok (.getfield 52, 3) := by decide +kernel
theorem dX4_readAway_53 : decode cX4_readAway 53 = .ok (.iconst 2, 1) := by decide +kernel
theorem dX4_readAway_54 : decode cX4_readAway 54 = .ok (.if_icmp .eq 11, 3) := by decide +kernel
theorem dX4_readAway_57 : decode cX4_readAway 57 = .ok (.aload_n 0, 1) := by decide +kernel
theorem dX4_readAway_58 : decode cX4_readAway 58 = .ok (.iconst 1, 1) := by decide +kernel
theorem dX4_readAway_59 : decode cX4_readAway 59 = .ok (.invokevirtual 39, 3) := by decide +kernel
theorem dX4_readAway_62 : decode cX4_readAway 62 = .ok (.goto 22, 3) := by decide +kernel
theorem dX4_readAway_65 : decode cX4_readAway 65 = .ok (.aload_n 0, 1) := by decide +kernel
theorem dX4_readAway_66 : decode cX4_readAway 66 = .ok (.getfield 9, 3) := by decide +kernel
theorem dX4_readAway_69 : decode cX4_readAway 69 = .ok (.getfield 69, 3) := by decide +kernel
theorem dX4_readAway_72 : decode cX4_readAway 72 = .ok (.ldc2_w 115, 3) := by decide +kernel
theorem dX4_readAway_75 : decode cX4_readAway 75 = .ok (.lcmp, 1) := by decide +kernel
theorem dX4_readAway_76 : decode cX4_readAway 76 = .ok (.ifCond .le 8, 3) := by decide +kernel
theorem dX4_readAway_79 : decode cX4_readAway 79 = .ok (.aload_n 0, 1) := by decide +kernel
theorem dX4_readAway_80 : decode cX4_readAway 80 = .ok (.iconst 4, 1) := by decide +kernel
theorem dX4_readAway_81 : decode cX4_readAway 81 = .ok (.invokevirtual 39, 3) := by decide +kernel
theorem dX4_readAway_84 : decode cX4_readAway 84 = .ok (.aload_n 0, 1) := by decide +kernel
theorem dX4_readAway_85 : decode cX4_readAway 85 = .ok (.getfield 9, 3) := by decide +kernel
theorem dX4_readAway_88 : decode cX4_readAway 88 = .ok (.getfield 69, 3) := by decide +kernel
theorem dX4_readAway_91 : decode cX4_readAway 91 = .ok (.l2i, 1) := by decide +kernel
theorem dX4_readAway_92 : decode cX4_readAway 92 = .ok (.istore_n 2, 1) := by decide +kernel
theorem dX4_readAway_93 : decode cX4_readAway 93 = .ok (.aload_n 0, 1) := by decide +kernel
theorem dX4_readAway_94 : decode cX4_readAway 94 = .ok (.getfield 9, 3) := by decide +kernel
theorem dX4_readAway_97 : decode cX4_readAway 97 = .ok (.invokevirtual 58, 3) := by decide +kernel
theorem dX4_readAway_100 : decode cX4_readAway 100 = .ok (.iload_n 1, 1) := by decide +kernel
theorem dX4_readAway_101 : decode cX4_readAway 101 = .ok (.ifCond .eq 8, 3) := by decide +kernel
theorem dX4_readAway_104 : decode cX4_readAway 104 = .ok (.iload_n 2, 1) := by decide +kernel
theorem dX4_readAway_105 : decode cX4_readAway 105 = .ok (.ineg, 1) := by decide +kernel
theorem dX4_readAway_106 : decode cX4_readAway 106 = .ok (.goto 4, 3) := by decide +kernel
theorem dX4_readAway_109 : decode cX4_readAway 109 = .ok (.iload_n 2, 1) := by decide +kernel
theorem dX4_readAway_110 : decode cX4_readAway 110 = .ok (.ireturn, 1) := by decide +kernel
theorem dX4_readOver_0 : decode cX4_readOver 0 = .ok (.aload_n 0, 1) := by decide +kernel
theorem dX4_readOver_1 : decode cX4_readOver 1 = .ok (.getfield 24, 3) := by decide +kernel
theorem dX4_readOver_4 : decode cX4_readOver 4 = .ok (.ifCond .eq 5, 3) := by decide +kernel
theorem dX4_readOver_7 : decode cX4_readOver 7 = .ok (.iconst 0, 1) := by decide +kernel
theorem dX4_readOver_8 : decode cX4_readOver 8 = .ok (.ireturn, 1) := by decide +kernel
theorem dX4_readOver_9 : decode cX4_readOver 9 = .ok (.aload_n 0, 1) := by decide +kernel
theorem dX4_readOver_10 : decode cX4_readOver 10 = .ok (.ldc2_w 117, 3) := by decide +kernel
theorem dX4_readOver_13 : decode cX4_readOver 13 = .ok (.invokevirtual 35, 3) := by decide +kernel
theorem dX4_readOver_16 : decode cX4_readOver 16 = .ok (.istore_n 2, 1) := by decide +kernel
theorem dX4_readOver_17 : decode cX4_readOver 17 = .ok (.iload_n 2, 1) := by decide +kernel
theorem dX4_readOver_18 : decode cX4_readOver 18 = .ok (.ifCond .ne 21, 3) := by decide +kernel
theorem dX4_readOver_21 : decode cX4_readOver 21 = .ok (.aload_n 0, 1) := by decide +kernel
theorem dX4_readOver_22 : decode cX4_readOver 22 = .ok (.ldc2_w 119, 3) := by decide +kernel
theorem dX4_readOver_25 : decode cX4_readOver 25 = .ok (.invokevirtual 35, 3) := by decide +kernel
theorem dX4_readOver_28 : decode cX4_readOver 28 = .ok (.ifCond .ne 11, 3) := by decide +kernel
theorem dX4_readOver_31 : decode cX4_readOver 31 = .ok (.aload_n 0, 1) := by decide +kernel
theorem dX4_readOver_32 : decode cX4_readOver 32 = .ok (.iconst 1, 1) := by decide +kernel
theorem dX4_readOver_33 : decode cX4_readOver 33 = .ok (.invokevirtual 39, 3) := by decide +kernel
theorem dX4_readOver_36 : decode cX4_readOver 36 = .ok (.goto 16, 3) := by decide +kernel
theorem dX4_readOver_39 : decode cX4_readOver 39 = .ok (.aload_n 1, 1) := by decide +kernel
theorem dX4_readOver_40 : decode cX4_readOver 40 = .ok (.invokevirtual 121, 3) := by decide +kernel
theorem dX4_readOver_43 : decode cX4_readOver 43 = .ok (.ifCond .ne 9, 3) := by decide +kernel
theorem dX4_readOver_46 : decode cX4_readOver 46 = .ok (.aload_n 0, 1) := by decide +kernel
theorem dX4_readOver_47 : decode cX4_readOver 47 = .ok (.bipush 6, 2) := by decide +kernel
theorem dX4_readOver_49 : decode cX4_readOver 49 = .ok (.invokevirtual 39, 3) := by decide +kernel
theorem dX4_readOver_52 : decode cX4_readOver 52 = .ok (.aload_n 0, 1) := by decide +kernel
theorem dX4_readOver_53 : decode cX4_readOver 53 = .ok (.getfield 9, 3) := by decide +kernel
theorem dX4_readOver_56 : decode cX4_readOver 56 = .ok (.invokevirtual 58, 3) := by decide +kernel
theorem dX4_readOver_59 : decode cX4_readOver 59 = .ok (.iload_n 2, 1) := by decide +kernel
theorem dX4_readOver_60 : decode cX4_readOver 60 = .ok (.ireturn, 1) := by decide +kernel
theorem dX4_passSemicolon_0 : decode cX4_passSemicolon 0 = .ok (.aload_n 0, 1) := by decide +kernel
theorem dX4_passSemicolon_1 : decode cX4_passSemicolon 1 = .ok (.getfield 24, 3) := by decide +kernel
theorem dX4_passSemicolon_4 : decode cX4_passSemicolon 4 = .ok (.ifCond .eq 4, 3) := by decide +kernel
theorem dX4_passSemicolon_7 : decode cX4_passSemicolon 7 = .ok (.return_, 1) := by decide +kernel
theorem dX4_passSemicolon_8 : decode cX4_passSemicolon 8 = .ok (.aload_n 0, 1) := by decide +kernel
theorem dX4_passSemicolon_9 : decode cX4_passSemicolon 9 = .ok (.getfield 9, 3) := by decide +kernel
theorem dX4_passSemicolon_12 : decode cX4_passSemicolon 12 = .ok (.iconst 3, 1) := by decide +kernel
theorem dX4_passSemicolon_13 : decode cX4_passSemicolon 13 = .ok (.ldc2_w 124, 3) := by decide +kernel
theorem dX4_passSemicolon_16 : decode cX4_passSemicolon 16 = .ok (.invokevirtual 109, 3) := by decide +kernel
theorem dX4_passSemicolon_19 : decode cX4_passSemicolon 19 = .ok (.ifCond .ne 8, 3) := by decide +kernel
theorem dX4_passSemicolon_22 : decode cX4_passSemicolon 22 = .ok (.aload_n 0, 1) := by decide +kernel
theorem dX4_passSemicolon_23 : decode cX4_passSemicolon 23 = .ok (.iconst 1, 1) := by decide +kernel
theorem dX4_passSemicolon_24 : decode cX4_passSemicolon 24 = .ok (.invokevirtual 39, 3) := by decide +kernel
theorem dX4_passSemicolon_27 : decode cX4_passSemicolon 27 = .ok (.aload_n 0, 1) := by decide +kernel
theorem dX4_passSemicolon_28 : decode cX4_passSemicolon 28 = .ok (.getfield 9, 3) := by decide +kernel
theorem dX4_passSemicolon_31 : decode cX4_passSemicolon 31 = .ok (.invokevirtual 58, 3) := by decide +kernel
theorem dX4_passSemicolon_34 : decode cX4_passSemicolon 34 = .ok (.return_, 1) := by decide +kernel
theorem dX4_isWord_0 : decode cX4_isWord 0 = .ok (.aload_n 0, 1) := by decide +kernel
theorem dX4_isWord_1 : decode cX4_isWord 1 = .ok (.getfield 9, 3) := by decide +kernel
theorem dX4_isWord_4 : decode cX4_isWord 4 = .ok (.iconst 1, 1) := by decide +kernel
theorem dX4_isWord_5 : decode cX4_isWord 5 = .ok (.lload_n 1, 1) := by decide +kernel
theorem dX4_isWord_6 : decode cX4_isWord 6 = .ok (.invokevirtual 109, 3) := by decide +kernel
theorem dX4_isWord_9 : decode cX4_isWord 9 = .ok (.ireturn, 1) := by decide +kernel
theorem dX4_isName_0 : decode cX4_isName 0 = .ok (.aload_n 0, 1) := by decide +kernel
theorem dX4_isName_1 : decode cX4_isName 1 = .ok (.getfield 9, 3) := by decide +kernel
theorem dX4_isName_4 : decode cX4_isName 4 = .ok (.getfield 52, 3) := by decide +kernel
theorem dX4_isName_7 : decode cX4_isName 7 = .ok (.iconst 1, 1) := by decide +kernel
theorem dX4_isName_8 : decode cX4_isName 8 = .ok (.if_icmp .ne 47, 3) := by decide +kernel
theorem dX4_isName_11 : decode cX4_isName 11 = .ok (.aload_n 0, 1) := by decide +kernel
theorem dX4_isName_12 : decode cX4_isName 12 = .ok (.ldc2_w 33, 3) := by decide +kernel
theorem dX4_isName_15 : decode cX4_isName 15 = .ok (.invokevirtual 35, 3) := by decide +kernel
theorem dX4_isName_18 : decode cX4_isName 18 = .ok (.ifCond .ne 37, 3) := by decide +kernel
theorem dX4_isName_21 : decode cX4_isName 21 = .ok (.aload_n 0, 1) := by decide +kernel
theorem dX4_isName_22 : decode cX4_isName 22 = .ok (.ldc2_w 47, 3) := by decide +kernel
theorem dX4_isName_25 : decode cX4_isName 25 = .ok (.invokevirtual 35, 3) := by decide +kernel
theorem dX4_isName_28 : decode cX4_isName 28 = .ok (.ifCond .ne 27, 3) := by decide +kernel
theorem dX4_isName_31 : decode cX4_isName 31 = .ok (.aload_n 0, 1) := by decide +kernel
theorem dX4_isName_32 : decode cX4_isName 32 = .ok (.ldc2_w 117, 3) := by decide +kernel
theorem dX4_isName_35 : decode cX4_isName 35 = .ok (.invokevirtual 35, 3) := by decide +kernel
theorem dX4_isName_38 : decode cX4_isName 38 = .ok (.ifCond .ne 17, 3) := by decide +kernel
theorem dX4_isName_41 : decode cX4_isName 41 = .ok (.aload_n 0, 1) := by decide +kernel
theorem dX4_isName_42 : decode cX4_isName 42 = .ok (.ldc2_w 119, 3) := by decide +kernel
theorem dX4_isName_45 : decode cX4_isName 45 = .ok (.invokevirtual 35, 3) := by decide +kernel
theorem dX4_isName_48 : decode cX4_isName 48 = .ok (.ifCond .ne 7, 3) := by decide +kernel
theorem dX4_isName_51 : decode cX4_isName 51 = .ok (.iconst 1, 1) := by decide +kernel
theorem dX4_isName_52 : decode cX4_isName 52 = .ok (.goto 4, 3) := by decide +kernel
theorem dX4_isName_55 : decode cX4_isName 55 = .ok (.iconst 0, 1) := by decide +kernel
theorem dX4_isName_56 : decode cX4_isName 56 = .ok (.ireturn, 1) := by decide +kernel
theorem dX4_ringOfName_0 : decode cX4_ringOfName 0 = .ok (.iconst 0, 1) := by decide +kernel
theorem dX4_ringOfName_1 : decode cX4_ringOfName 1 = .ok (.istore_n 2, 1) := by decide +kernel
theorem dX4_ringOfName_2 : decode cX4_ringOfName 2 = .ok (.iload_n 2, 1) := by decide +kernel
theorem dX4_ringOfName_3 : decode cX4_ringOfName 3 = .ok (.aload_n 1, 1) := by decide +kernel
theorem dX4_ringOfName_4 : decode cX4_ringOfName 4 = .ok (.getfield 55, 3) := by decide +kernel
theorem dX4_ringOfName_7 : decode cX4_ringOfName 7 = .ok (.if_icmp .ge 28, 3) := by decide +kernel
theorem dX4_ringOfName_10 : decode cX4_ringOfName 10 = .ok (.aload_n 0, 1) := by decide +kernel
theorem dX4_ringOfName_11 : decode cX4_ringOfName 11 = .ok (.getfield 15, 3) := by decide +kernel
theorem dX4_ringOfName_14 : decode cX4_ringOfName 14 = .ok (.iload_n 2, 1) := by decide +kernel
theorem dX4_ringOfName_15 : decode cX4_ringOfName 15 = .ok (.laload, 1) := by decide +kernel
theorem dX4_ringOfName_16 : decode cX4_ringOfName 16 = .ok (.aload_n 0, 1) := by decide +kernel
theorem dX4_ringOfName_17 : decode cX4_ringOfName 17 = .ok (.getfield 9, 3) := by decide +kernel
theorem dX4_ringOfName_20 : decode cX4_ringOfName 20 = .ok (.getfield 69, 3) := by decide +kernel
theorem dX4_ringOfName_23 : decode cX4_ringOfName 23 = .ok (.lcmp, 1) := by decide +kernel
theorem dX4_ringOfName_24 : decode cX4_ringOfName 24 = .ok (.ifCond .ne 5, 3) := by decide +kernel
theorem dX4_ringOfName_27 : decode cX4_ringOfName 27 = .ok (.iload_n 2, 1) := by decide +kernel
theorem dX4_ringOfName_28 : decode cX4_ringOfName 28 = .ok (.ireturn, 1) := by decide +kernel
theorem dX4_ringOfName_29 : decode cX4_ringOfName 29 = .ok (.iinc 2 1, 3) := by decide +kernel
theorem dX4_ringOfName_32 : decode cX4_ringOfName 32 = .ok (.goto (-30), 3) := by decide +kernel
theorem dX4_ringOfName_35 : decode cX4_ringOfName 35 = .ok (.iconst (-1), 1) := by decide +kernel
theorem dX4_ringOfName_36 : decode cX4_ringOfName 36 = .ok (.ireturn, 1) := by decide +kernel
theorem dX4_failWith_0 : decode cX4_failWith 0 = .ok (.aload_n 0, 1) := by decide +kernel
theorem dX4_failWith_1 : decode cX4_failWith 1 = .ok (.iload_n 1, 1) := by decide +kernel
theorem dX4_failWith_2 : decode cX4_failWith 2 = .ok (.bipush 16, 2) := by decide +kernel
theorem dX4_failWith_4 : decode cX4_failWith 4 = .ok (.aload_n 0, 1) := by decide +kernel
theorem dX4_failWith_5 : decode cX4_failWith 5 = .ok (.getfield 9, 3) := by decide +kernel
theorem dX4_failWith_8 : decode cX4_failWith 8 = .ok (.getfield 126, 3) := by decide +kernel
theorem dX4_failWith_11 : decode cX4_failWith 11 = .ok (.imul, 1) := by decide +kernel
theorem dX4_failWith_12 : decode cX4_failWith 12 = .ok (.iadd, 1) := by decide +kernel
theorem dX4_failWith_13 : decode cX4_failWith 13 = .ok (.putfield 24, 3) := by decide +kernel
theorem dX4_failWith_16 : decode cX4_failWith 16 = .ok (.return_, 1) := by decide +kernel
theorem dX5_init_0 : decode cX5_init 0 = .ok (.aload_n 0, 1) := by decide +kernel
theorem dX5_init_1 : decode cX5_init 1 = .ok (.invokespecial 3, 3) := by decide +kernel
theorem dX5_init_4 : decode cX5_init 4 = .ok (.aload_n 0, 1) := by decide +kernel
theorem dX5_init_5 : decode cX5_init 5 = .ok (.sipush 1000, 3) := by decide +kernel
theorem dX5_init_8 : decode cX5_init 8 = .ok (.newarray .char, 2) := by decide +kernel
theorem dX5_init_10 : decode cX5_init 10 = .ok (.putfield 9, 3) := by decide +kernel
theorem dX5_init_13 : decode cX5_init 13 = .ok (.return_, 1) := by decide +kernel
theorem dX5_putBytes_0 : decode cX5_putBytes 0 = .ok (.bipush 56, 2) := by decide +kernel
theorem dX5_putBytes_2 : decode cX5_putBytes 2 = .ok (.istore_n 3, 1) := by decide +kernel
theorem dX5_putBytes_3 : decode cX5_putBytes 3 = .ok (.iload_n 3, 1) := by decide +kernel
theorem dX5_putBytes_4 : decode cX5_putBytes 4 = .ok (.ifCond .lt 21, 3) := by decide +kernel
theorem dX5_putBytes_7 : decode cX5_putBytes 7 = .ok (.aload_n 0, 1) := by decide +kernel
theorem dX5_putBytes_8 : decode cX5_putBytes 8 = .ok (.lload_n 1, 1) := by decide +kernel
theorem dX5_putBytes_9 : decode cX5_putBytes 9 = .ok (.iload_n 3, 1) := by decide +kernel
theorem dX5_putBytes_10 : decode cX5_putBytes 10 = .ok (.lushr, 1) := by decide +kernel
theorem dX5_putBytes_11 : decode cX5_putBytes 11 = .ok (.l2i, 1) := by decide +kernel
theorem dX5_putBytes_12 : decode cX5_putBytes 12 = .ok (.sipush 255, 3) := by decide +kernel
theorem dX5_putBytes_15 : decode cX5_putBytes 15 = .ok (.iand, 1) := by decide +kernel
theorem dX5_putBytes_16 : decode cX5_putBytes 16 = .ok (.invokevirtual 15, 3) := by decide +kernel
theorem dX5_putBytes_19 : decode cX5_putBytes 19 = .ok (.iinc 3 (-8), 3) := by decide +kernel
theorem dX5_putBytes_22 : decode cX5_putBytes 22 = .ok (.goto (-19), 3) := by decide +kernel
theorem dX5_putBytes_25 : decode cX5_putBytes 25 = .ok (.return_, 1) := by decide +kernel
theorem dX5_empty_0 : decode cX5_empty 0 = .ok (.aload_n 0, 1) := by decide +kernel
theorem dX5_empty_1 : decode cX5_empty 1 = .ok (.iconst 0, 1) := by decide +kernel
theorem dX5_empty_2 : decode cX5_empty 2 = .ok (.putfield 19, 3) := by decide +kernel
theorem dX5_empty_5 : decode cX5_empty 5 = .ok (.return_, 1) := by decide +kernel
theorem dX5_putSign_0 : decode cX5_putSign 0 = .ok (.iload_n 1, 1) := by decide +kernel
theorem dX5_putSign_1 : decode cX5_putSign 1 = .ok (.bipush 10, 2) := by decide +kernel
theorem dX5_putSign_3 : decode cX5_putSign 3 = .ok (.if_icmp .eq 15, 3) := by decide +kernel
theorem dX5_putSign_6 : decode cX5_putSign 6 = .ok (.iload_n 1, 1) := by decide +kernel
theorem dX5_putSign_7 : decode cX5_putSign 7 = .ok (.bipush 32, 2) := by decide +kernel
theorem dX5_putSign_9 : decode cX5_putSign 9 = .ok (.if_icmp .lt 13, 3) := by decide +kernel
theorem dX5_putSign_12 : decode cX5_putSign 12 = .ok (.iload_n 1, 1) := by decide +kernel
theorem dX5_putSign_13 : decode cX5_putSign 13 = .ok (.bipush 126, 2) := by decide +kernel
theorem dX5_putSign_15 : decode cX5_putSign 15 = .ok (.if_icmp .gt 7, 3) := by decide +kernel
theorem dX5_putSign_18 : decode cX5_putSign 18 = .ok (.iconst 1, 1) := by decide +kernel
theorem dX5_putSign_19 : decode cX5_putSign 19 = .ok (.goto 4, 3) := by decide +kernel
theorem dX5_putSign_22 : decode cX5_putSign 22 = .ok (.iconst 0, 1) := by decide +kernel
theorem dX5_putSign_23 : decode cX5_putSign 23 = .ok (.istore_n 2, 1) := by decide +kernel
theorem dX5_putSign_24 : decode cX5_putSign 24 = .ok (.iload_n 2, 1) := by decide +kernel
theorem dX5_putSign_25 : decode cX5_putSign 25 = .ok (.ifCond .eq 34, 3) := by decide +kernel
theorem dX5_putSign_28 : decode cX5_putSign 28 = .ok (.aload_n 0, 1) := by decide +kernel
theorem dX5_putSign_29 : decode cX5_putSign 29 = .ok (.getfield 19, 3) := by decide +kernel
theorem dX5_putSign_32 : decode cX5_putSign 32 = .ok (.sipush 1000, 3) := by decide +kernel
theorem dX5_putSign_35 : decode cX5_putSign 35 = .ok (.if_icmp .ge 24, 3) := by decide +kernel
theorem dX5_putSign_38 : decode cX5_putSign 38 = .ok (.aload_n 0, 1) := by decide +kernel
theorem dX5_putSign_39 : decode cX5_putSign 39 = .ok (.getfield 9, 3) := by decide +kernel
theorem dX5_putSign_42 : decode cX5_putSign 42 = .ok (.aload_n 0, 1) := by decide +kernel
theorem dX5_putSign_43 : decode cX5_putSign 43 = .ok (.getfield 19, 3) := by decide +kernel
theorem dX5_putSign_46 : decode cX5_putSign 46 = .ok (.iload_n 1, 1) := by decide +kernel
theorem dX5_putSign_47 : decode cX5_putSign 47 = .ok (.i2c, 1) := by decide +kernel
theorem dX5_putSign_48 : decode cX5_putSign 48 = .ok (.castore, 1) := by decide +kernel
theorem dX5_putSign_49 : decode cX5_putSign 49 = .ok (.aload_n 0, 1) := by decide +kernel
theorem dX5_putSign_50 : decode cX5_putSign 50 = .ok (.dup, 1) := by decide +kernel
theorem dX5_putSign_51 : decode cX5_putSign 51 = .ok (.getfield 19, 3) := by decide +kernel
theorem dX5_putSign_54 : decode cX5_putSign 54 = .ok (.iconst 1, 1) := by decide +kernel
theorem dX5_putSign_55 : decode cX5_putSign 55 = .ok (.iadd, 1) := by decide +kernel
theorem dX5_putSign_56 : decode cX5_putSign 56 = .ok (.putfield 19, 3) := by decide +kernel
theorem dX5_putSign_59 : decode cX5_putSign 59 = .ok (.return_, 1) := by decide +kernel
theorem dX6_init_0 : decode cX6_init 0 = .ok (.aload_n 0, 1) := by decide +kernel
theorem dX6_init_1 : decode cX6_init 1 = .ok (.invokespecial 1, 3) := by decide +kernel
theorem dX6_init_4 : decode cX6_init 4 = .ok (.aload_n 0, 1) := by decide +kernel
theorem dX6_init_5 : decode cX6_init 5 = .ok (.aload_n 1, 1) := by decide +kernel
theorem dX6_init_6 : decode cX6_init 6 = .ok (.putfield 7, 3) := by decide +kernel
theorem dX6_init_9 : decode cX6_init 9 = .ok (.return_, 1) := by decide +kernel
theorem dX6_start_0 : decode cX6_start 0 = .ok (.aload_n 0, 1) := by decide +kernel
theorem dX6_start_1 : decode cX6_start 1 = .ok (.iconst 0, 1) := by decide +kernel
theorem dX6_start_2 : decode cX6_start 2 = .ok (.putfield 13, 3) := by decide +kernel
theorem dX6_start_5 : decode cX6_start 5 = .ok (.aload_n 0, 1) := by decide +kernel
theorem dX6_start_6 : decode cX6_start 6 = .ok (.invokevirtual 17, 3) := by decide +kernel
theorem dX6_start_9 : decode cX6_start 9 = .ok (.return_, 1) := by decide +kernel
theorem dX6_step_0 : decode cX6_step 0 = .ok (.aload_n 0, 1) := by decide +kernel
theorem dX6_step_1 : decode cX6_step 1 = .ok (.aload_n 0, 1) := by decide +kernel
theorem dX6_step_2 : decode cX6_step 2 = .ok (.aload_n 0, 1) := by decide +kernel
theorem dX6_step_3 : decode cX6_step 3 = .ok (.getfield 13, 3) := by decide +kernel
theorem dX6_step_6 : decode cX6_step 6 = .ok (.invokevirtual 20, 3) := by decide +kernel
theorem dX6_step_9 : decode cX6_step 9 = .ok (.putfield 24, 3) := by decide +kernel
theorem dX6_step_12 : decode cX6_step 12 = .ok (.aload_n 0, 1) := by decide +kernel
theorem dX6_step_13 : decode cX6_step 13 = .ok (.aload_n 0, 1) := by decide +kernel
theorem dX6_step_14 : decode cX6_step 14 = .ok (.getfield 24, 3) := by decide +kernel
theorem dX6_step_17 : decode cX6_step 17 = .ok (.putfield 13, 3) := by decide +kernel
theorem dX6_step_20 : decode cX6_step 20 = .ok (.aload_n 0, 1) := by decide +kernel
theorem dX6_step_21 : decode cX6_step 21 = .ok (.lconst 0, 1) := by decide +kernel
theorem dX6_step_22 : decode cX6_step 22 = .ok (.putfield 27, 3) := by decide +kernel
theorem dX6_step_25 : decode cX6_step 25 = .ok (.aload_n 0, 1) := by decide +kernel
theorem dX6_step_26 : decode cX6_step 26 = .ok (.getfield 24, 3) := by decide +kernel
theorem dX6_step_29 : decode cX6_step 29 = .ok (.aload_n 0, 1) := by decide +kernel
theorem dX6_step_30 : decode cX6_step 30 = .ok (.getfield 7, 3) := by decide +kernel
theorem dX6_step_33 : decode cX6_step 33 = .ok (.getfield 31, 3) := by decide +kernel
theorem dX6_step_36 : decode cX6_step 36 = .ok (.if_icmp .lt 11, 3) := by decide +kernel
theorem dX6_step_39 : decode cX6_step 39 = .ok (.aload_n 0, 1) := by decide +kernel
theorem dX6_step_40 : decode cX6_step 40 = .ok (.iconst 0, 1) := by decide +kernel
theorem dX6_step_41 : decode cX6_step 41 = .ok (.putfield 36, 3) := by decide +kernel
theorem dX6_step_44 : decode cX6_step 44 = .ok (.goto 57, 3) := by decide +kernel
theorem dX6_step_47 : decode cX6_step 47 = .ok (.aload_n 0, 1) := by decide +kernel
theorem dX6_step_48 : decode cX6_step 48 = .ok (.getfield 7, 3) := by decide +kernel
theorem dX6_step_51 : decode cX6_step 51 = .ok (.getfield 39, 3) := by decide +kernel
theorem dX6_step_54 : decode cX6_step 54 = .ok (.aload_n 0, 1) := by decide +kernel
theorem dX6_step_55 : decode cX6_step 55 = .ok (.getfield 24, 3) := by decide +kernel
theorem dX6_step_58 : decode cX6_step 58 = .ok (.caload, 1) := by decide +kernel
theorem dX6_step_59 : decode cX6_step 59 = .ok (.invokestatic 43, 3) := by decide +kernel
theorem dX6_step_62 : decode cX6_step 62 = .ok (.ifCond .eq 10, 3) := by decide +kernel
theorem dX6_step_65 : decode cX6_step 65 = .ok (.aload_n 0, 1) := by decide +kernel
theorem dX6_step_66 : decode cX6_step 66 = .ok (.invokevirtual 47, 3) := by decide +kernel
theorem dX6_step_69 : decode cX6_step 69 = .ok (.goto 32, 3) := by decide +kernel
theorem dX6_step_72 : decode cX6_step 72 = .ok (.aload_n 0, 1) := by decide +kernel
theorem dX6_step_73 : decode cX6_step 73 = .ok (.getfield 7, 3) := by decide +kernel
theorem dX6_step_76 : decode cX6_step 76 = .ok (.getfield 39, 3) := by decide +kernel
theorem dX6_step_79 : decode cX6_step 79 = .ok (.aload_n 0, 1) := by decide +kernel
theorem dX6_step_80 : decode cX6_step 80 = .ok (.getfield 24, 3) := by decide +kernel
theorem dX6_step_83 : decode cX6_step 83 = .ok (.caload, 1) := by decide +kernel
theorem dX6_step_84 : decode cX6_step 84 = .ok (.invokestatic 50, 3) := by decide +kernel
theorem dX6_step_87 : decode cX6_step 87 = .ok (.ifCond .eq 10, 3) := by decide +kernel
theorem dX6_step_90 : decode cX6_step 90 = .ok (.aload_n 0, 1) := by decide +kernel
theorem dX6_step_91 : decode cX6_step 91 = .ok (.invokevirtual 53, 3) := by decide +kernel
theorem dX6_step_94 : decode cX6_step 94 = .ok (.goto 7, 3) := by decide +kernel
theorem dX6_step_97 : decode cX6_step 97 = .ok (.aload_n 0, 1) := by decide +kernel
theorem dX6_step_98 : decode cX6_step 98 = .ok (.invokevirtual 56, 3) := by decide +kernel
theorem dX6_step_101 : decode cX6_step 101 = .ok (.return_, 1) := by decide +kernel
theorem dX6_is_0 : decode cX6_is 0 = .ok (.aload_n 0, 1) := by decide +kernel
theorem dX6_is_1 : decode cX6_is 1 = .ok (.getfield 36, 3) := by decide +kernel
theorem dX6_is_4 : decode cX6_is 4 = .ok (.iload_n 1, 1) := by decide +kernel
theorem dX6_is_5 : decode cX6_is 5 = .ok (.if_icmp .ne 16, 3) := by decide +kernel
end
section
theorem dX6_is_8 : decode cX6_is 8 = .ok (.aload_n 0, 1) := by decide +kernel
theorem dX6_is_9 : decode cX6_is 9 = .ok (.getfield 27, 3) := by decide +kernel
theorem dX6_is_12 : decode cX6_is 12 = .ok (.lload_n 2, 1) := by decide +kernel
theorem dX6_is_13 : decode cX6_is 13 = .ok (.lcmp, 1) := by decide +kernel
theorem dX6_is_14 : decode cX6_is 14 = .ok (.ifCond .ne 7, 3) := by decide +kernel
theorem dX6_is_17 : decode cX6_is 17 = .ok (.iconst 1, 1) := by decide +kernel
theorem dX6_is_18 : decode cX6_is 18 = .ok (.goto 4, 3) := by decide +kernel
theorem dX6_is_21 : decode cX6_is 21 = .ok (.iconst 0, 1) := by decide +kernel
theorem dX6_is_22 : decode cX6_is 22 = .ok (.ireturn, 1) := by decide +kernel
theorem dX6_behindBlanks_0 : decode cX6_behindBlanks 0 = .ok (.iload_n 1, 1) := by decide +kernel
theorem dX6_behindBlanks_1 : decode cX6_behindBlanks 1 = .ok (.istore_n 2, 1) := by decide +kernel
theorem dX6_behindBlanks_2 : decode cX6_behindBlanks 2 = .ok (.iload_n 2, 1) := by decide +kernel
theorem dX6_behindBlanks_3 : decode cX6_behindBlanks 3 = .ok (.aload_n 0, 1) := by decide +kernel
theorem dX6_behindBlanks_4 : decode cX6_behindBlanks 4 = .ok (.getfield 7, 3) := by decide +kernel
theorem dX6_behindBlanks_7 : decode cX6_behindBlanks 7 = .ok (.getfield 31, 3) := by decide +kernel
theorem dX6_behindBlanks_10 : decode cX6_behindBlanks 10 = .ok (.if_icmp .ge 37, 3) := by decide +kernel
theorem dX6_behindBlanks_13 : decode cX6_behindBlanks 13 = .ok (.aload_n 0, 1) := by decide +kernel
theorem dX6_behindBlanks_14 : decode cX6_behindBlanks 14 = .ok (.getfield 7, 3) := by decide +kernel
theorem dX6_behindBlanks_17 : decode cX6_behindBlanks 17 = .ok (.getfield 39, 3) := by decide +kernel
theorem dX6_behindBlanks_20 : decode cX6_behindBlanks 20 = .ok (.iload_n 2, 1) := by decide +kernel
theorem dX6_behindBlanks_21 : decode cX6_behindBlanks 21 = .ok (.caload, 1) := by decide +kernel
theorem dX6_behindBlanks_22 : decode cX6_behindBlanks 22 = .ok (.bipush 10, 2) := by decide +kernel
theorem dX6_behindBlanks_24 : decode cX6_behindBlanks 24 = .ok (.if_icmp .eq 17, 3) := by decide +kernel
theorem dX6_behindBlanks_27 : decode cX6_behindBlanks 27 = .ok (.aload_n 0, 1) := by decide +kernel
theorem dX6_behindBlanks_28 : decode cX6_behindBlanks 28 = .ok (.getfield 7, 3) := by decide +kernel
theorem dX6_behindBlanks_31 : decode cX6_behindBlanks 31 = .ok (.getfield 39, 3) := by decide +kernel
theorem dX6_behindBlanks_34 : decode cX6_behindBlanks 34 = .ok (.iload_n 2, 1) := by decide +kernel
theorem dX6_behindBlanks_35 : decode cX6_behindBlanks 35 = .ok (.caload, 1) := by decide +kernel
theorem dX6_behindBlanks_36 : decode cX6_behindBlanks 36 = .ok (.bipush 32, 2) := by decide +kernel
theorem dX6_behindBlanks_38 : decode cX6_behindBlanks 38 = .ok (.if_icmp .ne 9, 3) := by decide +kernel
theorem dX6_behindBlanks_41 : decode cX6_behindBlanks 41 = .ok (.iinc 2 1, 3) := by decide +kernel
theorem dX6_behindBlanks_44 : decode cX6_behindBlanks 44 = .ok (.goto (-42), 3) := by decide +kernel
theorem dX6_behindBlanks_47 : decode cX6_behindBlanks 47 = .ok (.iload_n 2, 1) := by decide +kernel
theorem dX6_behindBlanks_48 : decode cX6_behindBlanks 48 = .ok (.ireturn, 1) := by decide +kernel
theorem dX6_readWord_0 : decode cX6_readWord 0 = .ok (.aload_n 0, 1) := by decide +kernel
theorem dX6_readWord_1 : decode cX6_readWord 1 = .ok (.getfield 13, 3) := by decide +kernel
theorem dX6_readWord_4 : decode cX6_readWord 4 = .ok (.aload_n 0, 1) := by decide +kernel
theorem dX6_readWord_5 : decode cX6_readWord 5 = .ok (.getfield 7, 3) := by decide +kernel
theorem dX6_readWord_8 : decode cX6_readWord 8 = .ok (.getfield 31, 3) := by decide +kernel
theorem dX6_readWord_11 : decode cX6_readWord 11 = .ok (.if_icmp .ge 59, 3) := by decide +kernel
theorem dX6_readWord_14 : decode cX6_readWord 14 = .ok (.aload_n 0, 1) := by decide +kernel
theorem dX6_readWord_15 : decode cX6_readWord 15 = .ok (.getfield 7, 3) := by decide +kernel
theorem dX6_readWord_18 : decode cX6_readWord 18 = .ok (.getfield 39, 3) := by decide +kernel
theorem dX6_readWord_21 : decode cX6_readWord 21 = .ok (.aload_n 0, 1) := by decide +kernel
theorem dX6_readWord_22 : decode cX6_readWord 22 = .ok (.getfield 13, 3) := by decide +kernel
theorem dX6_readWord_25 : decode cX6_readWord 25 = .ok (.caload, 1) := by decide +kernel
theorem dX6_readWord_26 : decode cX6_readWord 26 = .ok (.invokestatic 43, 3) := by decide +kernel
theorem dX6_readWord_29 : decode cX6_readWord 29 = .ok (.ifCond .eq 41, 3) := by decide +kernel
theorem dX6_readWord_32 : decode cX6_readWord 32 = .ok (.aload_n 0, 1) := by decide +kernel
theorem dX6_readWord_33 : decode cX6_readWord 33 = .ok (.aload_n 0, 1) := by decide +kernel
theorem dX6_readWord_34 : decode cX6_readWord 34 = .ok (.getfield 27, 3) := by decide +kernel
theorem dX6_readWord_37 : decode cX6_readWord 37 = .ok (.bipush 8, 2) := by decide +kernel
theorem dX6_readWord_39 : decode cX6_readWord 39 = .ok (.lshl, 1) := by decide +kernel
theorem dX6_readWord_40 : decode cX6_readWord 40 = .ok (.aload_n 0, 1) := by decide +kernel
theorem dX6_readWord_41 : decode cX6_readWord 41 = .ok (.getfield 7, 3) := by decide +kernel
theorem dX6_readWord_44 : decode cX6_readWord 44 = .ok (.getfield 39, 3) := by decide +kernel
theorem dX6_readWord_47 : decode cX6_readWord 47 = .ok (.aload_n 0, 1) := by decide +kernel
theorem dX6_readWord_48 : decode cX6_readWord 48 = .ok (.getfield 13, 3) := by decide +kernel
theorem dX6_readWord_51 : decode cX6_readWord 51 = .ok (.caload, 1) := by decide +kernel
theorem dX6_readWord_52 : decode cX6_readWord 52 = .ok (.i2l, 1) := by decide +kernel
theorem dX6_readWord_53 : decode cX6_readWord 53 = .ok (.lor, 1) := by decide +kernel
theorem dX6_readWord_54 : decode cX6_readWord 54 = .ok (.putfield 27, 3) := by decide +kernel
theorem dX6_readWord_57 : decode cX6_readWord 57 = .ok (.aload_n 0, 1) := by decide +kernel
theorem dX6_readWord_58 : decode cX6_readWord 58 = .ok (.dup, 1) := by decide +kernel
theorem dX6_readWord_59 : decode cX6_readWord 59 = .ok (.getfield 13, 3) := by decide +kernel
theorem dX6_readWord_62 : decode cX6_readWord 62 = .ok (.iconst 1, 1) := by decide +kernel
theorem dX6_readWord_63 : decode cX6_readWord 63 = .ok (.iadd, 1) := by decide +kernel
theorem dX6_readWord_64 : decode cX6_readWord 64 = .ok (.putfield 13, 3) := by decide +kernel
theorem dX6_readWord_67 : decode cX6_readWord 67 = .ok (.goto (-67), 3) := by decide +kernel
theorem dX6_readWord_70 : decode cX6_readWord 70 = .ok (.aload_n 0, 1) := by decide +kernel
theorem dX6_readWord_71 : decode cX6_readWord 71 = .ok (.aload_n 0, 1) := by decide +kernel
theorem dX6_readWord_72 : decode cX6_readWord 72 = .ok (.getfield 13, 3) := by decide +kernel
theorem dX6_readWord_75 : decode cX6_readWord 75 = .ok (.aload_n 0, 1) := by decide +kernel
theorem dX6_readWord_76 : decode cX6_readWord 76 = .ok (.getfield 24, 3) := by decide +kernel
theorem dX6_readWord_79 : decode cX6_readWord 79 = .ok (.isub, 1) := by decide +kernel
theorem dX6_readWord_80 : decode cX6_readWord 80 = .ok (.bipush 8, 2) := by decide +kernel
theorem dX6_readWord_82 : decode cX6_readWord 82 = .ok (.if_icmp .gt 7, 3) := by decide +kernel
theorem dX6_readWord_85 : decode cX6_readWord 85 = .ok (.iconst 1, 1) := by decide +kernel
theorem dX6_readWord_86 : decode cX6_readWord 86 = .ok (.goto 4, 3) := by decide +kernel
theorem dX6_readWord_89 : decode cX6_readWord 89 = .ok (.iconst 4, 1) := by decide +kernel
theorem dX6_readWord_90 : decode cX6_readWord 90 = .ok (.putfield 36, 3) := by decide +kernel
theorem dX6_readWord_93 : decode cX6_readWord 93 = .ok (.return_, 1) := by decide +kernel
theorem dX6_readNumber_0 : decode cX6_readNumber 0 = .ok (.aload_n 0, 1) := by decide +kernel
theorem dX6_readNumber_1 : decode cX6_readNumber 1 = .ok (.getfield 13, 3) := by decide +kernel
theorem dX6_readNumber_4 : decode cX6_readNumber 4 = .ok (.aload_n 0, 1) := by decide +kernel
theorem dX6_readNumber_5 : decode cX6_readNumber 5 = .ok (.getfield 7, 3) := by decide +kernel
theorem dX6_readNumber_8 : decode cX6_readNumber 8 = .ok (.getfield 31, 3) := by decide +kernel
theorem dX6_readNumber_11 : decode cX6_readNumber 11 = .ok (.if_icmp .ge 63, 3) := by decide +kernel
theorem dX6_readNumber_14 : decode cX6_readNumber 14 = .ok (.aload_n 0, 1) := by decide +kernel
theorem dX6_readNumber_15 : decode cX6_readNumber 15 = .ok (.getfield 7, 3) := by decide +kernel
theorem dX6_readNumber_18 : decode cX6_readNumber 18 = .ok (.getfield 39, 3) := by decide +kernel
theorem dX6_readNumber_21 : decode cX6_readNumber 21 = .ok (.aload_n 0, 1) := by decide +kernel
theorem dX6_readNumber_22 : decode cX6_readNumber 22 = .ok (.getfield 13, 3) := by decide +kernel
theorem dX6_readNumber_25 : decode cX6_readNumber 25 = .ok (.caload, 1) := by decide +kernel
theorem dX6_readNumber_26 : decode cX6_readNumber 26 = .ok (.invokestatic 50, 3) := by decide +kernel
theorem dX6_readNumber_29 : decode cX6_readNumber 29 = .ok (.ifCond .eq 45, 3) := by decide +kernel
theorem dX6_readNumber_32 : decode cX6_readNumber 32 = .ok (.aload_n 0, 1) := by decide +kernel
theorem dX6_readNumber_33 : decode cX6_readNumber 33 = .ok (.aload_n 0, 1) := by decide +kernel
theorem dX6_readNumber_34 : decode cX6_readNumber 34 = .ok (.getfield 27, 3) := by decide +kernel
theorem dX6_readNumber_37 : decode cX6_readNumber 37 = .ok (.ldc2_w 59, 3) := by decide +kernel
theorem dX6_readNumber_40 : decode cX6_readNumber 40 = .ok (.lmul, 1) := by decide +kernel
theorem dX6_readNumber_41 : decode cX6_readNumber 41 = .ok (.aload_n 0, 1) := by decide +kernel
theorem dX6_readNumber_42 : decode cX6_readNumber 42 = .ok (.getfield 7, 3) := by decide +kernel
theorem dX6_readNumber_45 : decode cX6_readNumber 45 = .ok (.getfield 39, 3) := by decide +kernel
theorem dX6_readNumber_48 : decode cX6_readNumber 48 = .ok (.aload_n 0, 1) := by decide +kernel
theorem dX6_readNumber_49 : decode cX6_readNumber 49 = .ok (.getfield 13, 3) := by decide +kernel
theorem dX6_readNumber_52 : decode cX6_readNumber 52 = .ok (.caload, 1) := by decide +kernel
theorem dX6_readNumber_53 : decode cX6_readNumber 53 = .ok (.bipush 48, 2) := by decide +kernel
theorem dX6_readNumber_55 : decode cX6_readNumber 55 = .ok (.isub, 1) := by decide +kernel
theorem dX6_readNumber_56 : decode cX6_readNumber 56 = .ok (.i2l, 1) := by decide +kernel
theorem dX6_readNumber_57 : decode cX6_readNumber 57 = .ok (.ladd, 1) := by decide +kernel
theorem dX6_readNumber_58 : decode cX6_readNumber 58 = .ok (.putfield 27, 3) := by decide +kernel
theorem dX6_readNumber_61 : decode cX6_readNumber 61 = .ok (.aload_n 0, 1) := by decide +kernel
theorem dX6_readNumber_62 : decode cX6_readNumber 62 = .ok (.dup, 1) := by decide +kernel
theorem dX6_readNumber_63 : decode cX6_readNumber 63 = .ok (.getfield 13, 3) := by decide +kernel
theorem dX6_readNumber_66 : decode cX6_readNumber 66 = .ok (.iconst 1, 1) := by decide +kernel
theorem dX6_readNumber_67 : decode cX6_readNumber 67 = .ok (.iadd, 1) := by decide +kernel
theorem dX6_readNumber_68 : decode cX6_readNumber 68 = .ok (.putfield 13, 3) := by decide +kernel
theorem dX6_readNumber_71 : decode cX6_readNumber 71 = .ok (.goto (-71), 3) := by decide +kernel
theorem dX6_readNumber_74 : decode cX6_readNumber 74 = .ok (.aload_n 0, 1) := by decide +kernel
theorem dX6_readNumber_75 : decode cX6_readNumber 75 = .ok (.aload_n 0, 1) := by decide +kernel
theorem dX6_readNumber_76 : decode cX6_readNumber 76 = .ok (.getfield 13, 3) := by decide +kernel
theorem dX6_readNumber_79 : decode cX6_readNumber 79 = .ok (.aload_n 0, 1) := by decide +kernel
theorem dX6_readNumber_80 : decode cX6_readNumber 80 = .ok (.getfield 24, 3) := by decide +kernel
theorem dX6_readNumber_83 : decode cX6_readNumber 83 = .ok (.isub, 1) := by decide +kernel
theorem dX6_readNumber_84 : decode cX6_readNumber 84 = .ok (.iconst 4, 1) := by decide +kernel
theorem dX6_readNumber_85 : decode cX6_readNumber 85 = .ok (.if_icmp .gt 7, 3) := by decide +kernel
theorem dX6_readNumber_88 : decode cX6_readNumber 88 = .ok (.iconst 2, 1) := by decide +kernel
theorem dX6_readNumber_89 : decode cX6_readNumber 89 = .ok (.goto 4, 3) := by decide +kernel
theorem dX6_readNumber_92 : decode cX6_readNumber 92 = .ok (.iconst 4, 1) := by decide +kernel
theorem dX6_readNumber_93 : decode cX6_readNumber 93 = .ok (.putfield 36, 3) := by decide +kernel
theorem dX6_readNumber_96 : decode cX6_readNumber 96 = .ok (.return_, 1) := by decide +kernel
theorem dX6_readSign_0 : decode cX6_readSign 0 = .ok (.aload_n 0, 1) := by decide +kernel
theorem dX6_readSign_1 : decode cX6_readSign 1 = .ok (.getfield 7, 3) := by decide +kernel
theorem dX6_readSign_4 : decode cX6_readSign 4 = .ok (.getfield 39, 3) := by decide +kernel
theorem dX6_readSign_7 : decode cX6_readSign 7 = .ok (.aload_n 0, 1) := by decide +kernel
theorem dX6_readSign_8 : decode cX6_readSign 8 = .ok (.getfield 24, 3) := by decide +kernel
theorem dX6_readSign_11 : decode cX6_readSign 11 = .ok (.caload, 1) := by decide +kernel
theorem dX6_readSign_12 : decode cX6_readSign 12 = .ok (.istore_n 1, 1) := by decide +kernel
theorem dX6_readSign_13 : decode cX6_readSign 13 = .ok (.aload_n 0, 1) := by decide +kernel
theorem dX6_readSign_14 : decode cX6_readSign 14 = .ok (.iload_n 1, 1) := by decide +kernel
theorem dX6_readSign_15 : decode cX6_readSign 15 = .ok (.bipush 43, 2) := by decide +kernel
theorem dX6_readSign_17 : decode cX6_readSign 17 = .ok (.if_icmp .eq 15, 3) := by decide +kernel
theorem dX6_readSign_20 : decode cX6_readSign 20 = .ok (.iload_n 1, 1) := by decide +kernel
theorem dX6_readSign_21 : decode cX6_readSign 21 = .ok (.bipush 45, 2) := by decide +kernel
theorem dX6_readSign_23 : decode cX6_readSign 23 = .ok (.if_icmp .eq 9, 3) := by decide +kernel
theorem dX6_readSign_26 : decode cX6_readSign 26 = .ok (.iload_n 1, 1) := by decide +kernel
theorem dX6_readSign_27 : decode cX6_readSign 27 = .ok (.bipush 59, 2) := by decide +kernel
theorem dX6_readSign_29 : decode cX6_readSign 29 = .ok (.if_icmp .ne 7, 3) := by decide +kernel
theorem dX6_readSign_32 : decode cX6_readSign 32 = .ok (.iconst 3, 1) := by decide +kernel
theorem dX6_readSign_33 : decode cX6_readSign 33 = .ok (.goto 4, 3) := by decide +kernel
theorem dX6_readSign_36 : decode cX6_readSign 36 = .ok (.iconst 4, 1) := by decide +kernel
theorem dX6_readSign_37 : decode cX6_readSign 37 = .ok (.putfield 36, 3) := by decide +kernel
theorem dX6_readSign_40 : decode cX6_readSign 40 = .ok (.aload_n 0, 1) := by decide +kernel
theorem dX6_readSign_41 : decode cX6_readSign 41 = .ok (.iload_n 1, 1) := by decide +kernel
theorem dX6_readSign_42 : decode cX6_readSign 42 = .ok (.i2l, 1) := by decide +kernel
theorem dX6_readSign_43 : decode cX6_readSign 43 = .ok (.putfield 27, 3) := by decide +kernel
theorem dX6_readSign_46 : decode cX6_readSign 46 = .ok (.aload_n 0, 1) := by decide +kernel
theorem dX6_readSign_47 : decode cX6_readSign 47 = .ok (.aload_n 0, 1) := by decide +kernel
theorem dX6_readSign_48 : decode cX6_readSign 48 = .ok (.getfield 24, 3) := by decide +kernel
theorem dX6_readSign_51 : decode cX6_readSign 51 = .ok (.iconst 1, 1) := by decide +kernel
theorem dX6_readSign_52 : decode cX6_readSign 52 = .ok (.iadd, 1) := by decide +kernel
theorem dX6_readSign_53 : decode cX6_readSign 53 = .ok (.putfield 13, 3) := by decide +kernel
theorem dX6_readSign_56 : decode cX6_readSign 56 = .ok (.return_, 1) := by decide +kernel
theorem dX6_isLetter_0 : decode cX6_isLetter 0 = .ok (.iload_n 0, 1) := by decide +kernel
theorem dX6_isLetter_1 : decode cX6_isLetter 1 = .ok (.bipush 97, 2) := by decide +kernel
theorem dX6_isLetter_3 : decode cX6_isLetter 3 = .ok (.if_icmp .lt 13, 3) := by decide +kernel
theorem dX6_isLetter_6 : decode cX6_isLetter 6 = .ok (.iload_n 0, 1) := by decide +kernel
theorem dX6_isLetter_7 : decode cX6_isLetter 7 = .ok (.bipush 122, 2) := by decide +kernel
theorem dX6_isLetter_9 : decode cX6_isLetter 9 = .ok (.if_icmp .gt 7, 3) := by decide +kernel
theorem dX6_isLetter_12 : decode cX6_isLetter 12 = .ok (.iconst 1, 1) := by decide +kernel
theorem dX6_isLetter_13 : decode cX6_isLetter 13 = .ok (.goto 4, 3) := by decide +kernel
theorem dX6_isLetter_16 : decode cX6_isLetter 16 = .ok (.iconst 0, 1) := by decide +kernel
theorem dX6_isLetter_17 : decode cX6_isLetter 17 = .ok (.ireturn, 1) := by decide +kernel
theorem dX6_isDigit_0 : decode cX6_isDigit 0 = .ok (.iload_n 0, 1) := by decide +kernel
theorem dX6_isDigit_1 : decode cX6_isDigit 1 = .ok (.bipush 48, 2) := by decide +kernel
theorem dX6_isDigit_3 : decode cX6_isDigit 3 = .ok (.if_icmp .lt 13, 3) := by decide +kernel
theorem dX6_isDigit_6 : decode cX6_isDigit 6 = .ok (.iload_n 0, 1) := by decide +kernel
theorem dX6_isDigit_7 : decode cX6_isDigit 7 = .ok (.bipush 57, 2) := by decide +kernel
theorem dX6_isDigit_9 : decode cX6_isDigit 9 = .ok (.if_icmp .gt 7, 3) := by decide +kernel
theorem dX6_isDigit_12 : decode cX6_isDigit 12 = .ok (.iconst 1, 1) := by decide +kernel
theorem dX6_isDigit_13 : decode cX6_isDigit 13 = .ok (.goto 4, 3) := by decide +kernel
theorem dX6_isDigit_16 : decode cX6_isDigit 16 = .ok (.iconst 0, 1) := by decide +kernel
theorem dX6_isDigit_17 : decode cX6_isDigit 17 = .ok (.ireturn, 1) := by decide +kernel
theorem dX7_init_0 : decode cX7_init 0 = .ok (.aload_n 0, 1) := by decide +kernel
theorem dX7_init_1 : decode cX7_init 1 = .ok (.invokespecial 3, 3) := by decide +kernel
theorem dX7_init_4 : decode cX7_init 4 = .ok (.aload_n 0, 1) := by decide +kernel
theorem dX7_init_5 : decode cX7_init 5 = .ok (.bipush 24, 2) := by decide +kernel
theorem dX7_init_7 : decode cX7_init 7 = .ok (.newarray .int, 2) := by decide +kernel
theorem dX7_init_9 : decode cX7_init 9 = .ok (.putfield 9, 3) := by decide +kernel
theorem dX7_init_12 : decode cX7_init 12 = .ok (.aload_n 0, 1) := by decide +kernel
theorem dX7_init_13 : decode cX7_init 13 = .ok (.bipush 24, 2) := by decide +kernel
theorem dX7_init_15 : decode cX7_init 15 = .ok (.newarray .int, 2) := by decide +kernel
theorem dX7_init_17 : decode cX7_init 17 = .ok (.putfield 15, 3) := by decide +kernel
theorem dX7_init_20 : decode cX7_init 20 = .ok (.aload_n 0, 1) := by decide +kernel
theorem dX7_init_21 : decode cX7_init 21 = .ok (.bipush 24, 2) := by decide +kernel
theorem dX7_init_23 : decode cX7_init 23 = .ok (.newarray .int, 2) := by decide +kernel
theorem dX7_init_25 : decode cX7_init 25 = .ok (.putfield 18, 3) := by decide +kernel
theorem dX7_init_28 : decode cX7_init 28 = .ok (.aload_n 0, 1) := by decide +kernel
theorem dX7_init_29 : decode cX7_init 29 = .ok (.bipush 24, 2) := by decide +kernel
theorem dX7_init_31 : decode cX7_init 31 = .ok (.newarray .int, 2) := by decide +kernel
theorem dX7_init_33 : decode cX7_init 33 = .ok (.putfield 21, 3) := by decide +kernel
theorem dX7_init_36 : decode cX7_init 36 = .ok (.aload_n 0, 1) := by decide +kernel
theorem dX7_init_37 : decode cX7_init 37 = .ok (.bipush 24, 2) := by decide +kernel
theorem dX7_init_39 : decode cX7_init 39 = .ok (.newarray .boolean, 2) := by decide +kernel
theorem dX7_init_41 : decode cX7_init 41 = .ok (.putfield 24, 3) := by decide +kernel
theorem dX7_init_44 : decode cX7_init 44 = .ok (.return_, 1) := by decide +kernel
theorem dX7_empty_0 : decode cX7_empty 0 = .ok (.aload_n 0, 1) := by decide +kernel
theorem dX7_empty_1 : decode cX7_empty 1 = .ok (.iconst 0, 1) := by decide +kernel
theorem dX7_empty_2 : decode cX7_empty 2 = .ok (.putfield 28, 3) := by decide +kernel
theorem dX7_empty_5 : decode cX7_empty 5 = .ok (.aload_n 0, 1) := by decide +kernel
theorem dX7_empty_6 : decode cX7_empty 6 = .ok (.iconst 0, 1) := by decide +kernel
theorem dX7_empty_7 : decode cX7_empty 7 = .ok (.putfield 32, 3) := by decide +kernel
theorem dX7_empty_10 : decode cX7_empty 10 = .ok (.return_, 1) := by decide +kernel
theorem dX7_copyFrom_0 : decode cX7_copyFrom 0 = .ok (.aload_n 0, 1) := by decide +kernel
theorem dX7_copyFrom_1 : decode cX7_copyFrom 1 = .ok (.aload_n 1, 1) := by decide +kernel
theorem dX7_copyFrom_2 : decode cX7_copyFrom 2 = .ok (.getfield 28, 3) := by decide +kernel
theorem dX7_copyFrom_5 : decode cX7_copyFrom 5 = .ok (.putfield 28, 3) := by decide +kernel
theorem dX7_copyFrom_8 : decode cX7_copyFrom 8 = .ok (.aload_n 0, 1) := by decide +kernel
theorem dX7_copyFrom_9 : decode cX7_copyFrom 9 = .ok (.aload_n 1, 1) := by decide +kernel
theorem dX7_copyFrom_10 : decode cX7_copyFrom 10 = .ok (.getfield 32, 3) := by decide +kernel
theorem dX7_copyFrom_13 : decode cX7_copyFrom 13 = .ok (.putfield 32, 3) := by decide +kernel
theorem dX7_copyFrom_16 : decode cX7_copyFrom 16 = .ok (.iconst 0, 1) := by decide +kernel
theorem dX7_copyFrom_17 : decode cX7_copyFrom 17 = .ok (.istore_n 2, 1) := by decide +kernel
theorem dX7_copyFrom_18 : decode cX7_copyFrom 18 = .ok (.iload_n 2, 1) := by decide +kernel
theorem dX7_copyFrom_19 : decode cX7_copyFrom 19 = .ok (.aload_n 0, 1) := by decide +kernel
theorem dX7_copyFrom_20 : decode cX7_copyFrom 20 = .ok (.getfield 32, 3) := by decide +kernel
theorem dX7_copyFrom_23 : decode cX7_copyFrom 23 = .ok (.if_icmp .ge 69, 3) := by decide +kernel
theorem dX7_copyFrom_26 : decode cX7_copyFrom 26 = .ok (.aload_n 0, 1) := by decide +kernel
theorem dX7_copyFrom_27 : decode cX7_copyFrom 27 = .ok (.getfield 9, 3) := by decide +kernel
theorem dX7_copyFrom_30 : decode cX7_copyFrom 30 = .ok (.iload_n 2, 1) := by decide +kernel
theorem dX7_copyFrom_31 : decode cX7_copyFrom 31 = .ok (.aload_n 1, 1) := by decide +kernel
theorem dX7_copyFrom_32 : decode cX7_copyFrom 32 = .ok (.getfield 9, 3) := by decide +kernel
theorem dX7_copyFrom_35 : decode cX7_copyFrom 35 = .ok (.iload_n 2, 1) := by decide +kernel
theorem dX7_copyFrom_36 : decode cX7_copyFrom 36 = .ok (.iaload, 1) := by decide +kernel
theorem dX7_copyFrom_37 : decode cX7_copyFrom 37 = .ok (.iastore, 1) := by decide +kernel
theorem dX7_copyFrom_38 : decode cX7_copyFrom 38 = .ok (.aload_n 0, 1) := by decide +kernel
theorem dX7_copyFrom_39 : decode cX7_copyFrom 39 = .ok (.getfield 15, 3) := by decide +kernel
theorem dX7_copyFrom_42 : decode cX7_copyFrom 42 = .ok (.iload_n 2, 1) := by decide +kernel
theorem dX7_copyFrom_43 : decode cX7_copyFrom 43 = .ok (.aload_n 1, 1) := by decide +kernel
theorem dX7_copyFrom_44 : decode cX7_copyFrom 44 = .ok (.getfield 15, 3) := by decide +kernel
theorem dX7_copyFrom_47 : decode cX7_copyFrom 47 = .ok (.iload_n 2, 1) := by decide +kernel
theorem dX7_copyFrom_48 : decode cX7_copyFrom 48 = .ok (.iaload, 1) := by decide +kernel
theorem dX7_copyFrom_49 : decode cX7_copyFrom 49 = .ok (.iastore, 1) := by decide +kernel
theorem dX7_copyFrom_50 : decode cX7_copyFrom 50 = .ok (.aload_n 0, 1) := by decide +kernel
theorem dX7_copyFrom_51 : decode cX7_copyFrom 51 = .ok (.getfield 18, 3) := by decide +kernel
theorem dX7_copyFrom_54 : decode cX7_copyFrom 54 = .ok (.iload_n 2, 1) := by decide +kernel
theorem dX7_copyFrom_55 : decode cX7_copyFrom 55 = .ok (.aload_n 1, 1) := by decide +kernel
theorem dX7_copyFrom_56 : decode cX7_copyFrom 56 = .ok (.getfield 18, 3) := by decide +kernel
theorem dX7_copyFrom_59 : decode cX7_copyFrom 59 = .ok (.iload_n 2, 1) := by decide +kernel
theorem dX7_copyFrom_60 : decode cX7_copyFrom 60 = .ok (.iaload, 1) := by decide +kernel
theorem dX7_copyFrom_61 : decode cX7_copyFrom 61 = .ok (.iastore, 1) := by decide +kernel
theorem dX7_copyFrom_62 : decode cX7_copyFrom 62 = .ok (.aload_n 0, 1) := by decide +kernel
theorem dX7_copyFrom_63 : decode cX7_copyFrom 63 = .ok (.getfield 21, 3) := by decide +kernel
theorem dX7_copyFrom_66 : decode cX7_copyFrom 66 = .ok (.iload_n 2, 1) := by decide +kernel
theorem dX7_copyFrom_67 : decode cX7_copyFrom 67 = .ok (.aload_n 1, 1) := by decide +kernel
theorem dX7_copyFrom_68 : decode cX7_copyFrom 68 = .ok (.getfield 21, 3) := by decide +kernel
theorem dX7_copyFrom_71 : decode cX7_copyFrom 71 = .ok (.iload_n 2, 1) := by decide +kernel
theorem dX7_copyFrom_72 : decode cX7_copyFrom 72 = .ok (.iaload, 1) := by decide +kernel
theorem dX7_copyFrom_73 : decode cX7_copyFrom 73 = .ok (.iastore, 1) := by decide +kernel
theorem dX7_copyFrom_74 : decode cX7_copyFrom 74 = .ok (.aload_n 0, 1) := by decide +kernel
theorem dX7_copyFrom_75 : decode cX7_copyFrom 75 = .ok (.getfield 24, 3) := by decide +kernel
theorem dX7_copyFrom_78 : decode cX7_copyFrom 78 = .ok (.iload_n 2, 1) := by decide +kernel
theorem dX7_copyFrom_79 : decode cX7_copyFrom 79 = .ok (.aload_n 1, 1) := by decide +kernel
theorem dX7_copyFrom_80 : decode cX7_copyFrom 80 = .ok (.getfield 24, 3) := by decide +kernel
theorem dX7_copyFrom_83 : decode cX7_copyFrom 83 = .ok (.iload_n 2, 1) := by decide +kernel
theorem dX7_copyFrom_84 : decode cX7_copyFrom 84 = .ok (.baload, 1) := by decide +kernel
theorem dX7_copyFrom_85 : decode cX7_copyFrom 85 = .ok (.bastore, 1) := by decide +kernel
theorem dX7_copyFrom_86 : decode cX7_copyFrom 86 = .ok (.iinc 2 1, 3) := by decide +kernel
theorem dX7_copyFrom_89 : decode cX7_copyFrom 89 = .ok (.goto (-71), 3) := by decide +kernel
theorem dX7_copyFrom_92 : decode cX7_copyFrom 92 = .ok (.return_, 1) := by decide +kernel
theorem dX7_takesNewLink_0 : decode cX7_takesNewLink 0 = .ok (.aload_n 0, 1) := by decide +kernel
theorem dX7_takesNewLink_1 : decode cX7_takesNewLink 1 = .ok (.getfield 32, 3) := by decide +kernel
theorem dX7_takesNewLink_4 : decode cX7_takesNewLink 4 = .ok (.istore_n 1, 1) := by decide +kernel
theorem dX7_takesNewLink_5 : decode cX7_takesNewLink 5 = .ok (.aload_n 0, 1) := by decide +kernel
theorem dX7_takesNewLink_6 : decode cX7_takesNewLink 6 = .ok (.getfield 9, 3) := by decide +kernel
theorem dX7_takesNewLink_9 : decode cX7_takesNewLink 9 = .ok (.iload_n 1, 1) := by decide +kernel
theorem dX7_takesNewLink_10 : decode cX7_takesNewLink 10 = .ok (.iaload, 1) := by decide +kernel
theorem dX7_takesNewLink_11 : decode cX7_takesNewLink 11 = .ok (.aload_n 0, 1) := by decide +kernel
theorem dX7_takesNewLink_12 : decode cX7_takesNewLink 12 = .ok (.getfield 15, 3) := by decide +kernel
theorem dX7_takesNewLink_15 : decode cX7_takesNewLink 15 = .ok (.iload_n 1, 1) := by decide +kernel
theorem dX7_takesNewLink_16 : decode cX7_takesNewLink 16 = .ok (.iaload, 1) := by decide +kernel
theorem dX7_takesNewLink_17 : decode cX7_takesNewLink 17 = .ok (.if_icmp .ne 23, 3) := by decide +kernel
theorem dX7_takesNewLink_20 : decode cX7_takesNewLink 20 = .ok (.aload_n 0, 1) := by decide +kernel
theorem dX7_takesNewLink_21 : decode cX7_takesNewLink 21 = .ok (.getfield 18, 3) := by decide +kernel
theorem dX7_takesNewLink_24 : decode cX7_takesNewLink 24 = .ok (.iload_n 1, 1) := by decide +kernel
theorem dX7_takesNewLink_25 : decode cX7_takesNewLink 25 = .ok (.iaload, 1) := by decide +kernel
theorem dX7_takesNewLink_26 : decode cX7_takesNewLink 26 = .ok (.ifCond .ne 14, 3) := by decide +kernel
theorem dX7_takesNewLink_29 : decode cX7_takesNewLink 29 = .ok (.aload_n 0, 1) := by decide +kernel
theorem dX7_takesNewLink_30 : decode cX7_takesNewLink 30 = .ok (.getfield 21, 3) := by decide +kernel
theorem dX7_takesNewLink_33 : decode cX7_takesNewLink 33 = .ok (.iload_n 1, 1) := by decide +kernel
theorem dX7_takesNewLink_34 : decode cX7_takesNewLink 34 = .ok (.iaload, 1) := by decide +kernel
theorem dX7_takesNewLink_35 : decode cX7_takesNewLink 35 = .ok (.ifCond .ne 5, 3) := by decide +kernel
theorem dX7_takesNewLink_38 : decode cX7_takesNewLink 38 = .ok (.iconst 0, 1) := by decide +kernel
theorem dX7_takesNewLink_39 : decode cX7_takesNewLink 39 = .ok (.ireturn, 1) := by decide +kernel
theorem dX7_takesNewLink_40 : decode cX7_takesNewLink 40 = .ok (.iconst 0, 1) := by decide +kernel
theorem dX7_takesNewLink_41 : decode cX7_takesNewLink 41 = .ok (.istore_n 2, 1) := by decide +kernel
theorem dX7_takesNewLink_42 : decode cX7_takesNewLink 42 = .ok (.iload_n 2, 1) := by decide +kernel
theorem dX7_takesNewLink_43 : decode cX7_takesNewLink 43 = .ok (.iload_n 1, 1) := by decide +kernel
theorem dX7_takesNewLink_44 : decode cX7_takesNewLink 44 = .ok (.if_icmp .ge 29, 3) := by decide +kernel
theorem dX7_takesNewLink_47 : decode cX7_takesNewLink 47 = .ok (.aload_n 0, 1) := by decide +kernel
theorem dX7_takesNewLink_48 : decode cX7_takesNewLink 48 = .ok (.iload_n 2, 1) := by decide +kernel
theorem dX7_takesNewLink_49 : decode cX7_takesNewLink 49 = .ok (.iload_n 1, 1) := by decide +kernel
theorem dX7_takesNewLink_50 : decode cX7_takesNewLink 50 = .ok (.invokevirtual 35, 3) := by decide +kernel
theorem dX7_takesNewLink_53 : decode cX7_takesNewLink 53 = .ok (.ifCond .ne 12, 3) := by decide +kernel
theorem dX7_takesNewLink_56 : decode cX7_takesNewLink 56 = .ok (.aload_n 0, 1) := by decide +kernel
theorem dX7_takesNewLink_57 : decode cX7_takesNewLink 57 = .ok (.iload_n 2, 1) := by decide +kernel
theorem dX7_takesNewLink_58 : decode cX7_takesNewLink 58 = .ok (.iload_n 1, 1) := by decide +kernel
theorem dX7_takesNewLink_59 : decode cX7_takesNewLink 59 = .ok (.invokevirtual 39, 3) := by decide +kernel
theorem dX7_takesNewLink_62 : decode cX7_takesNewLink 62 = .ok (.ifCond .eq 5, 3) := by decide +kernel
theorem dX7_takesNewLink_65 : decode cX7_takesNewLink 65 = .ok (.iconst 0, 1) := by decide +kernel
theorem dX7_takesNewLink_66 : decode cX7_takesNewLink 66 = .ok (.ireturn, 1) := by decide +kernel
theorem dX7_takesNewLink_67 : decode cX7_takesNewLink 67 = .ok (.iinc 2 1, 3) := by decide +kernel
theorem dX7_takesNewLink_70 : decode cX7_takesNewLink 70 = .ok (.goto (-28), 3) := by decide +kernel
theorem dX7_takesNewLink_73 : decode cX7_takesNewLink 73 = .ok (.iconst 1, 1) := by decide +kernel
theorem dX7_takesNewLink_74 : decode cX7_takesNewLink 74 = .ok (.ireturn, 1) := by decide +kernel
theorem dX7_isSameToldAlike_0 : decode cX7_isSameToldAlike 0 = .ok (.aload_n 0, 1) := by decide +kernel
theorem dX7_isSameToldAlike_1 : decode cX7_isSameToldAlike 1 = .ok (.getfield 9, 3) := by decide +kernel
theorem dX7_isSameToldAlike_4 : decode cX7_isSameToldAlike 4 = .ok (.iload_n 1, 1) := by decide +kernel
theorem dX7_isSameToldAlike_5 : decode cX7_isSameToldAlike 5 = .ok (.iaload, 1) := by decide +kernel
theorem dX7_isSameToldAlike_6 : decode cX7_isSameToldAlike 6 = .ok (.aload_n 0, 1) := by decide +kernel
theorem dX7_isSameToldAlike_7 : decode cX7_isSameToldAlike 7 = .ok (.getfield 9, 3) := by decide +kernel
theorem dX7_isSameToldAlike_10 : decode cX7_isSameToldAlike 10 = .ok (.iload_n 2, 1) := by decide +kernel
theorem dX7_isSameToldAlike_11 : decode cX7_isSameToldAlike 11 = .ok (.iaload, 1) := by decide +kernel
theorem dX7_isSameToldAlike_12 : decode cX7_isSameToldAlike 12 = .ok (.if_icmp .ne 52, 3) := by decide +kernel
theorem dX7_isSameToldAlike_15 : decode cX7_isSameToldAlike 15 = .ok (.aload_n 0, 1) := by decide +kernel
theorem dX7_isSameToldAlike_16 : decode cX7_isSameToldAlike 16 = .ok (.getfield 15, 3) := by decide +kernel
theorem dX7_isSameToldAlike_19 : decode cX7_isSameToldAlike 19 = .ok (.iload_n 1, 1) := by decide +kernel
theorem dX7_isSameToldAlike_20 : decode cX7_isSameToldAlike 20 = .ok (.iaload, 1) := by decide +kernel
theorem dX7_isSameToldAlike_21 : decode cX7_isSameToldAlike 21 = .ok (.aload_n 0, 1) := by decide +kernel
theorem dX7_isSameToldAlike_22 : decode cX7_isSameToldAlike 22 = .ok (.getfield 15, 3) := by decide +kernel
theorem dX7_isSameToldAlike_25 : decode cX7_isSameToldAlike 25 = .ok (.iload_n 2, 1) := by decide +kernel
theorem dX7_isSameToldAlike_26 : decode cX7_isSameToldAlike 26 = .ok (.iaload, 1) := by decide +kernel
theorem dX7_isSameToldAlike_27 : decode cX7_isSameToldAlike 27 = .ok (.if_icmp .ne 37, 3) := by decide +kernel
theorem dX7_isSameToldAlike_30 : decode cX7_isSameToldAlike 30 = .ok (.aload_n 0, 1) := by decide +kernel
theorem dX7_isSameToldAlike_31 : decode cX7_isSameToldAlike 31 = .ok (.getfield 18, 3) := by decide +kernel
theorem dX7_isSameToldAlike_34 : decode cX7_isSameToldAlike 34 = .ok (.iload_n 1, 1) := by decide +kernel
theorem dX7_isSameToldAlike_35 : decode cX7_isSameToldAlike 35 = .ok (.iaload, 1) := by decide +kernel
theorem dX7_isSameToldAlike_36 : decode cX7_isSameToldAlike 36 = .ok (.aload_n 0, 1) := by decide +kernel
theorem dX7_isSameToldAlike_37 : decode cX7_isSameToldAlike 37 = .ok (.getfield 18, 3) := by decide +kernel
theorem dX7_isSameToldAlike_40 : decode cX7_isSameToldAlike 40 = .ok (.iload_n 2, 1) := by decide +kernel
theorem dX7_isSameToldAlike_41 : decode cX7_isSameToldAlike 41 = .ok (.iaload, 1) := by decide +kernel
theorem dX7_isSameToldAlike_42 : decode cX7_isSameToldAlike 42 = .ok (.if_icmp .ne 22, 3) := by decide +kernel
theorem dX7_isSameToldAlike_45 : decode cX7_isSameToldAlike 45 = .ok (.aload_n 0, 1) := by decide +kernel
theorem dX7_isSameToldAlike_46 : decode cX7_isSameToldAlike 46 = .ok (.getfield 21, 3) := by decide +kernel
theorem dX7_isSameToldAlike_49 : decode cX7_isSameToldAlike 49 = .ok (.iload_n 1, 1) := by decide +kernel
theorem dX7_isSameToldAlike_50 : decode cX7_isSameToldAlike 50 = .ok (.iaload, 1) := by decide +kernel
theorem dX7_isSameToldAlike_51 : decode cX7_isSameToldAlike 51 = .ok (.aload_n 0, 1) := by decide +kernel
theorem dX7_isSameToldAlike_52 : decode cX7_isSameToldAlike 52 = .ok (.getfield 21, 3) := by decide +kernel
theorem dX7_isSameToldAlike_55 : decode cX7_isSameToldAlike 55 = .ok (.iload_n 2, 1) := by decide +kernel
theorem dX7_isSameToldAlike_56 : decode cX7_isSameToldAlike 56 = .ok (.iaload, 1) := by decide +kernel
theorem dX7_isSameToldAlike_57 : decode cX7_isSameToldAlike 57 = .ok (.if_icmp .ne 7, 3) := by decide +kernel
theorem dX7_isSameToldAlike_60 : decode cX7_isSameToldAlike 60 = .ok (.iconst 1, 1) := by decide +kernel
theorem dX7_isSameToldAlike_61 : decode cX7_isSameToldAlike 61 = .ok (.goto 4, 3) := by decide +kernel
theorem dX7_isSameToldAlike_64 : decode cX7_isSameToldAlike 64 = .ok (.iconst 0, 1) := by decide +kernel
theorem dX7_isSameToldAlike_65 : decode cX7_isSameToldAlike 65 = .ok (.ireturn, 1) := by decide +kernel
theorem dX7_isSameToldBack_0 : decode cX7_isSameToldBack 0 = .ok (.aload_n 0, 1) := by decide +kernel
theorem dX7_isSameToldBack_1 : decode cX7_isSameToldBack 1 = .ok (.getfield 9, 3) := by decide +kernel
theorem dX7_isSameToldBack_4 : decode cX7_isSameToldBack 4 = .ok (.iload_n 1, 1) := by decide +kernel
theorem dX7_isSameToldBack_5 : decode cX7_isSameToldBack 5 = .ok (.iaload, 1) := by decide +kernel
theorem dX7_isSameToldBack_6 : decode cX7_isSameToldBack 6 = .ok (.aload_n 0, 1) := by decide +kernel
theorem dX7_isSameToldBack_7 : decode cX7_isSameToldBack 7 = .ok (.getfield 15, 3) := by decide +kernel
theorem dX7_isSameToldBack_10 : decode cX7_isSameToldBack 10 = .ok (.iload_n 2, 1) := by decide +kernel
theorem dX7_isSameToldBack_11 : decode cX7_isSameToldBack 11 = .ok (.iaload, 1) := by decide +kernel
theorem dX7_isSameToldBack_12 : decode cX7_isSameToldBack 12 = .ok (.if_icmp .ne 54, 3) := by decide +kernel
theorem dX7_isSameToldBack_15 : decode cX7_isSameToldBack 15 = .ok (.aload_n 0, 1) := by decide +kernel
theorem dX7_isSameToldBack_16 : decode cX7_isSameToldBack 16 = .ok (.getfield 15, 3) := by decide +kernel
theorem dX7_isSameToldBack_19 : decode cX7_isSameToldBack 19 = .ok (.iload_n 1, 1) := by decide +kernel
theorem dX7_isSameToldBack_20 : decode cX7_isSameToldBack 20 = .ok (.iaload, 1) := by decide +kernel
theorem dX7_isSameToldBack_21 : decode cX7_isSameToldBack 21 = .ok (.aload_n 0, 1) := by decide +kernel
theorem dX7_isSameToldBack_22 : decode cX7_isSameToldBack 22 = .ok (.getfield 9, 3) := by decide +kernel
theorem dX7_isSameToldBack_25 : decode cX7_isSameToldBack 25 = .ok (.iload_n 2, 1) := by decide +kernel
theorem dX7_isSameToldBack_26 : decode cX7_isSameToldBack 26 = .ok (.iaload, 1) := by decide +kernel
theorem dX7_isSameToldBack_27 : decode cX7_isSameToldBack 27 = .ok (.if_icmp .ne 39, 3) := by decide +kernel
theorem dX7_isSameToldBack_30 : decode cX7_isSameToldBack 30 = .ok (.aload_n 0, 1) := by decide +kernel
theorem dX7_isSameToldBack_31 : decode cX7_isSameToldBack 31 = .ok (.getfield 18, 3) := by decide +kernel
theorem dX7_isSameToldBack_34 : decode cX7_isSameToldBack 34 = .ok (.iload_n 1, 1) := by decide +kernel
theorem dX7_isSameToldBack_35 : decode cX7_isSameToldBack 35 = .ok (.iaload, 1) := by decide +kernel
theorem dX7_isSameToldBack_36 : decode cX7_isSameToldBack 36 = .ok (.aload_n 0, 1) := by decide +kernel
theorem dX7_isSameToldBack_37 : decode cX7_isSameToldBack 37 = .ok (.getfield 18, 3) := by decide +kernel
theorem dX7_isSameToldBack_40 : decode cX7_isSameToldBack 40 = .ok (.iload_n 2, 1) := by decide +kernel
theorem dX7_isSameToldBack_41 : decode cX7_isSameToldBack 41 = .ok (.iaload, 1) := by decide +kernel
theorem dX7_isSameToldBack_42 : decode cX7_isSameToldBack 42 = .ok (.ineg, 1) := by decide +kernel
theorem dX7_isSameToldBack_43 : decode cX7_isSameToldBack 43 = .ok (.if_icmp .ne 23, 3) := by decide +kernel
theorem dX7_isSameToldBack_46 : decode cX7_isSameToldBack 46 = .ok (.aload_n 0, 1) := by decide +kernel
theorem dX7_isSameToldBack_47 : decode cX7_isSameToldBack 47 = .ok (.getfield 21, 3) := by decide +kernel
theorem dX7_isSameToldBack_50 : decode cX7_isSameToldBack 50 = .ok (.iload_n 1, 1) := by decide +kernel
theorem dX7_isSameToldBack_51 : decode cX7_isSameToldBack 51 = .ok (.iaload, 1) := by decide +kernel
theorem dX7_isSameToldBack_52 : decode cX7_isSameToldBack 52 = .ok (.aload_n 0, 1) := by decide +kernel
theorem dX7_isSameToldBack_53 : decode cX7_isSameToldBack 53 = .ok (.getfield 21, 3) := by decide +kernel
theorem dX7_isSameToldBack_56 : decode cX7_isSameToldBack 56 = .ok (.iload_n 2, 1) := by decide +kernel
theorem dX7_isSameToldBack_57 : decode cX7_isSameToldBack 57 = .ok (.iaload, 1) := by decide +kernel
theorem dX7_isSameToldBack_58 : decode cX7_isSameToldBack 58 = .ok (.ineg, 1) := by decide +kernel
theorem dX7_isSameToldBack_59 : decode cX7_isSameToldBack 59 = .ok (.if_icmp .ne 7, 3) := by decide +kernel
theorem dX7_isSameToldBack_62 : decode cX7_isSameToldBack 62 = .ok (.iconst 1, 1) := by decide +kernel
theorem dX7_isSameToldBack_63 : decode cX7_isSameToldBack 63 = .ok (.goto 4, 3) := by decide +kernel
theorem dX7_isSameToldBack_66 : decode cX7_isSameToldBack 66 = .ok (.iconst 0, 1) := by decide +kernel
theorem dX7_isSameToldBack_67 : decode cX7_isSameToldBack 67 = .ok (.ireturn, 1) := by decide +kernel
theorem dX8_init_0 : decode cX8_init 0 = .ok (.aload_n 0, 1) := by decide +kernel
theorem dX8_init_1 : decode cX8_init 1 = .ok (.invokespecial 1, 3) := by decide +kernel
theorem dX8_init_4 : decode cX8_init 4 = .ok (.aload_n 0, 1) := by decide +kernel
theorem dX8_init_5 : decode cX8_init 5 = .ok (.new 7, 3) := by decide +kernel
theorem dX8_init_8 : decode cX8_init 8 = .ok (.dup, 1) := by decide +kernel
theorem dX8_init_9 : decode cX8_init 9 = .ok (.invokespecial 9, 3) := by decide +kernel
theorem dX8_init_12 : decode cX8_init 12 = .ok (.putfield 10, 3) := by decide +kernel
theorem dX8_init_15 : decode cX8_init 15 = .ok (.aload_n 0, 1) := by decide +kernel
theorem dX8_init_16 : decode cX8_init 16 = .ok (.new 16, 3) := by decide +kernel
theorem dX8_init_19 : decode cX8_init 19 = .ok (.dup, 1) := by decide +kernel
theorem dX8_init_20 : decode cX8_init 20 = .ok (.new 18, 3) := by decide +kernel
theorem dX8_init_23 : decode cX8_init 23 = .ok (.dup, 1) := by decide +kernel
theorem dX8_init_24 : decode cX8_init 24 = .ok (.aload_n 0, 1) := by decide +kernel
theorem dX8_init_25 : decode cX8_init 25 = .ok (.getfield 10, 3) := by decide +kernel
theorem dX8_init_28 : decode cX8_init 28 = .ok (.invokespecial 20, 3) := by decide +kernel
theorem dX8_init_31 : decode cX8_init 31 = .ok (.invokespecial 23, 3) := by decide +kernel
theorem dX8_init_34 : decode cX8_init 34 = .ok (.putfield 26, 3) := by decide +kernel
theorem dX8_init_37 : decode cX8_init 37 = .ok (.aload_n 0, 1) := by decide +kernel
theorem dX8_init_38 : decode cX8_init 38 = .ok (.new 30, 3) := by decide +kernel
theorem dX8_init_41 : decode cX8_init 41 = .ok (.dup, 1) := by decide +kernel
theorem dX8_init_42 : decode cX8_init 42 = .ok (.invokespecial 32, 3) := by decide +kernel
theorem dX8_init_45 : decode cX8_init 45 = .ok (.putfield 33, 3) := by decide +kernel
theorem dX8_init_48 : decode cX8_init 48 = .ok (.aload_n 0, 1) := by decide +kernel
theorem dX8_init_49 : decode cX8_init 49 = .ok (.new 37, 3) := by decide +kernel
theorem dX8_init_52 : decode cX8_init 52 = .ok (.dup, 1) := by decide +kernel
theorem dX8_init_53 : decode cX8_init 53 = .ok (.aload_n 0, 1) := by decide +kernel
theorem dX8_init_54 : decode cX8_init 54 = .ok (.getfield 33, 3) := by decide +kernel
theorem dX8_init_57 : decode cX8_init 57 = .ok (.invokespecial 39, 3) := by decide +kernel
theorem dX8_init_60 : decode cX8_init 60 = .ok (.putfield 42, 3) := by decide +kernel
theorem dX8_init_63 : decode cX8_init 63 = .ok (.aload_n 0, 1) := by decide +kernel
theorem dX8_init_64 : decode cX8_init 64 = .ok (.new 46, 3) := by decide +kernel
theorem dX8_init_67 : decode cX8_init 67 = .ok (.dup, 1) := by decide +kernel
theorem dX8_init_68 : decode cX8_init 68 = .ok (.aload_n 0, 1) := by decide +kernel
theorem dX8_init_69 : decode cX8_init 69 = .ok (.getfield 33, 3) := by decide +kernel
theorem dX8_init_72 : decode cX8_init 72 = .ok (.aload_n 0, 1) := by decide +kernel
theorem dX8_init_73 : decode cX8_init 73 = .ok (.getfield 42, 3) := by decide +kernel
theorem dX8_init_76 : decode cX8_init 76 = .ok (.invokespecial 48, 3) := by decide +kernel
theorem dX8_init_79 : decode cX8_init 79 = .ok (.putfield 51, 3) := by decide +kernel
theorem dX8_init_82 : decode cX8_init 82 = .ok (.aload_n 0, 1) := by decide +kernel
theorem dX8_init_83 : decode cX8_init 83 = .ok (.new 55, 3) := by decide +kernel
theorem dX8_init_86 : decode cX8_init 86 = .ok (.dup, 1) := by decide +kernel
theorem dX8_init_87 : decode cX8_init 87 = .ok (.invokespecial 57, 3) := by decide +kernel
theorem dX8_init_90 : decode cX8_init 90 = .ok (.putfield 58, 3) := by decide +kernel
theorem dX8_init_93 : decode cX8_init 93 = .ok (.aload_n 0, 1) := by decide +kernel
theorem dX8_init_94 : decode cX8_init 94 = .ok (.new 55, 3) := by decide +kernel
theorem dX8_init_97 : decode cX8_init 97 = .ok (.dup, 1) := by decide +kernel
theorem dX8_init_98 : decode cX8_init 98 = .ok (.invokespecial 57, 3) := by decide +kernel
theorem dX8_init_101 : decode cX8_init 101 = .ok (.putfield 62, 3) := by decide +kernel
theorem dX8_init_104 : decode cX8_init 104 = .ok (.aload_n 0, 1) := by decide +kernel
theorem dX8_init_105 : decode cX8_init 105 = .ok (.bipush 100, 2) := by decide +kernel
theorem dX8_init_107 : decode cX8_init 107 = .ok (.putfield 65, 3) := by decide +kernel
theorem dX8_init_110 : decode cX8_init 110 = .ok (.aload_n 0, 1) := by decide +kernel
theorem dX8_init_111 : decode cX8_init 111 = .ok (.sipush 400, 3) := by decide +kernel
theorem dX8_init_114 : decode cX8_init 114 = .ok (.putfield 69, 3) := by decide +kernel
theorem dX8_init_117 : decode cX8_init 117 = .ok (.aload_n 0, 1) := by decide +kernel
theorem dX8_init_118 : decode cX8_init 118 = .ok (.bipush 8, 2) := by decide +kernel
theorem dX8_init_120 : decode cX8_init 120 = .ok (.putfield 72, 3) := by decide +kernel
theorem dX8_init_123 : decode cX8_init 123 = .ok (.return_, 1) := by decide +kernel
theorem dX8_feed_0 : decode cX8_feed 0 = .ok (.aload_n 0, 1) := by decide +kernel
theorem dX8_feed_1 : decode cX8_feed 1 = .ok (.getfield 10, 3) := by decide +kernel
theorem dX8_feed_4 : decode cX8_feed 4 = .ok (.lload_n 1, 1) := by decide +kernel
theorem dX8_feed_5 : decode cX8_feed 5 = .ok (.invokevirtual 75, 3) := by decide +kernel
theorem dX8_feed_8 : decode cX8_feed 8 = .ok (.aload_n 0, 1) := by decide +kernel
theorem dX8_feed_9 : decode cX8_feed 9 = .ok (.getfield 10, 3) := by decide +kernel
theorem dX8_feed_12 : decode cX8_feed 12 = .ok (.lload_n 3, 1) := by decide +kernel
theorem dX8_feed_13 : decode cX8_feed 13 = .ok (.invokevirtual 75, 3) := by decide +kernel
theorem dX8_feed_16 : decode cX8_feed 16 = .ok (.aload_n 0, 1) := by decide +kernel
theorem dX8_feed_17 : decode cX8_feed 17 = .ok (.getfield 10, 3) := by decide +kernel
theorem dX8_feed_20 : decode cX8_feed 20 = .ok (.lload 5, 2) := by decide +kernel
theorem dX8_feed_22 : decode cX8_feed 22 = .ok (.invokevirtual 75, 3) := by decide +kernel
theorem dX8_feed_25 : decode cX8_feed 25 = .ok (.aload_n 0, 1) := by decide +kernel
theorem dX8_feed_26 : decode cX8_feed 26 = .ok (.getfield 10, 3) := by decide +kernel
theorem dX8_feed_29 : decode cX8_feed 29 = .ok (.getfield 79, 3) := by decide +kernel
theorem dX8_feed_32 : decode cX8_feed 32 = .ok (.ireturn, 1) := by decide +kernel
theorem dX8_weave_0 : decode cX8_weave 0 = .ok (.aload_n 0, 1) := by decide +kernel
theorem dX8_weave_1 : decode cX8_weave 1 = .ok (.getfield 26, 3) := by decide +kernel
theorem dX8_weave_4 : decode cX8_weave 4 = .ok (.aload_n 0, 1) := by decide +kernel
theorem dX8_weave_5 : decode cX8_weave 5 = .ok (.getfield 62, 3) := by decide +kernel
theorem dX8_weave_8 : decode cX8_weave 8 = .ok (.invokevirtual 82, 3) := by decide +kernel
theorem dX8_weave_11 : decode cX8_weave 11 = .ok (.istore_n 1, 1) := by decide +kernel
theorem dX8_weave_12 : decode cX8_weave 12 = .ok (.aload_n 0, 1) := by decide +kernel
theorem dX8_weave_13 : decode cX8_weave 13 = .ok (.getfield 10, 3) := by decide +kernel
theorem dX8_weave_16 : decode cX8_weave 16 = .ok (.invokevirtual 86, 3) := by decide +kernel
theorem dX8_weave_19 : decode cX8_weave 19 = .ok (.iload_n 1, 1) := by decide +kernel
theorem dX8_weave_20 : decode cX8_weave 20 = .ok (.ifCond .ne 21, 3) := by decide +kernel
theorem dX8_weave_23 : decode cX8_weave 23 = .ok (.aload_n 0, 1) := by decide +kernel
theorem dX8_weave_24 : decode cX8_weave 24 = .ok (.getfield 58, 3) := by decide +kernel
theorem dX8_weave_27 : decode cX8_weave 27 = .ok (.astore_n 2, 1) := by decide +kernel
theorem dX8_weave_28 : decode cX8_weave 28 = .ok (.aload_n 0, 1) := by decide +kernel
theorem dX8_weave_29 : decode cX8_weave 29 = .ok (.aload_n 0, 1) := by decide +kernel
theorem dX8_weave_30 : decode cX8_weave 30 = .ok (.getfield 62, 3) := by decide +kernel
theorem dX8_weave_33 : decode cX8_weave 33 = .ok (.putfield 58, 3) := by decide +kernel
theorem dX8_weave_36 : decode cX8_weave 36 = .ok (.aload_n 0, 1) := by decide +kernel
theorem dX8_weave_37 : decode cX8_weave 37 = .ok (.aload_n 2, 1) := by decide +kernel
theorem dX8_weave_38 : decode cX8_weave 38 = .ok (.putfield 62, 3) := by decide +kernel
theorem dX8_weave_41 : decode cX8_weave 41 = .ok (.iload_n 1, 1) := by decide +kernel
theorem dX8_weave_42 : decode cX8_weave 42 = .ok (.ireturn, 1) := by decide +kernel
theorem dX8_lay_0 : decode cX8_lay 0 = .ok (.aload_n 0, 1) := by decide +kernel
theorem dX8_lay_1 : decode cX8_lay 1 = .ok (.getfield 58, 3) := by decide +kernel
theorem dX8_lay_4 : decode cX8_lay 4 = .ok (.getfield 89, 3) := by decide +kernel
theorem dX8_lay_7 : decode cX8_lay 7 = .ok (.ifCond .eq 17, 3) := by decide +kernel
theorem dX8_lay_10 : decode cX8_lay 10 = .ok (.iload_n 1, 1) := by decide +kernel
theorem dX8_lay_11 : decode cX8_lay 11 = .ok (.invokestatic 92, 3) := by decide +kernel
theorem dX8_lay_14 : decode cX8_lay 14 = .ok (.ifCond .eq 10, 3) := by decide +kernel
theorem dX8_lay_17 : decode cX8_lay 17 = .ok (.iload_n 2, 1) := by decide +kernel
theorem dX8_lay_18 : decode cX8_lay 18 = .ok (.invokestatic 92, 3) := by decide +kernel
theorem dX8_lay_21 : decode cX8_lay 21 = .ok (.ifCond .ne 5, 3) := by decide +kernel
theorem dX8_lay_24 : decode cX8_lay 24 = .ok (.iconst (-1), 1) := by decide +kernel
theorem dX8_lay_25 : decode cX8_lay 25 = .ok (.ireturn, 1) := by decide +kernel
theorem dX8_lay_26 : decode cX8_lay 26 = .ok (.iload_n 1, 1) := by decide +kernel
theorem dX8_lay_27 : decode cX8_lay 27 = .ok (.iload_n 2, 1) := by decide +kernel
theorem dX8_lay_28 : decode cX8_lay 28 = .ok (.imul, 1) := by decide +kernel
theorem dX8_lay_29 : decode cX8_lay 29 = .ok (.aload_n 0, 1) := by decide +kernel
theorem dX8_lay_30 : decode cX8_lay 30 = .ok (.getfield 58, 3) := by decide +kernel
theorem dX8_lay_33 : decode cX8_lay 33 = .ok (.getfield 89, 3) := by decide +kernel
theorem dX8_lay_36 : decode cX8_lay 36 = .ok (.imul, 1) := by decide +kernel
theorem dX8_lay_37 : decode cX8_lay 37 = .ok (.sipush 240, 3) := by decide +kernel
theorem dX8_lay_40 : decode cX8_lay 40 = .ok (.if_icmp .le 5, 3) := by decide +kernel
theorem dX8_lay_43 : decode cX8_lay 43 = .ok (.iconst (-1), 1) := by decide +kernel
theorem dX8_lay_44 : decode cX8_lay 44 = .ok (.ireturn, 1) := by decide +kernel
theorem dX8_lay_45 : decode cX8_lay 45 = .ok (.aload_n 0, 1) := by decide +kernel
theorem dX8_lay_46 : decode cX8_lay 46 = .ok (.getfield 33, 3) := by decide +kernel
theorem dX8_lay_49 : decode cX8_lay 49 = .ok (.aload_n 0, 1) := by decide +kernel
theorem dX8_lay_50 : decode cX8_lay 50 = .ok (.getfield 58, 3) := by decide +kernel
theorem dX8_lay_53 : decode cX8_lay 53 = .ok (.iload_n 1, 1) := by decide +kernel
theorem dX8_lay_54 : decode cX8_lay 54 = .ok (.iload_n 2, 1) := by decide +kernel
theorem dX8_lay_55 : decode cX8_lay 55 = .ok (.invokevirtual 96, 3) := by decide +kernel
theorem dX8_lay_58 : decode cX8_lay 58 = .ok (.aload_n 0, 1) := by decide +kernel
theorem dX8_lay_59 : decode cX8_lay 59 = .ok (.getfield 33, 3) := by decide +kernel
theorem dX8_lay_62 : decode cX8_lay 62 = .ok (.getfield 100, 3) := by decide +kernel
theorem dX8_lay_65 : decode cX8_lay 65 = .ok (.ireturn, 1) := by decide +kernel
theorem dX8_at_0 : decode cX8_at 0 = .ok (.aload_n 0, 1) := by decide +kernel
theorem dX8_at_1 : decode cX8_at 1 = .ok (.getfield 33, 3) := by decide +kernel
theorem dX8_at_4 : decode cX8_at 4 = .ok (.iload_n 1, 1) := by decide +kernel
theorem dX8_at_5 : decode cX8_at 5 = .ok (.iload_n 2, 1) := by decide +kernel
theorem dX8_at_6 : decode cX8_at 6 = .ok (.iload_n 3, 1) := by decide +kernel
theorem dX8_at_7 : decode cX8_at 7 = .ok (.invokevirtual 103, 3) := by decide +kernel
theorem dX8_at_10 : decode cX8_at 10 = .ok (.ireturn, 1) := by decide +kernel
theorem dX8_add_0 : decode cX8_add 0 = .ok (.aload_n 0, 1) := by decide +kernel
theorem dX8_add_1 : decode cX8_add 1 = .ok (.getfield 33, 3) := by decide +kernel
theorem dX8_add_4 : decode cX8_add 4 = .ok (.invokevirtual 107, 3) := by decide +kernel
theorem dX8_add_7 : decode cX8_add 7 = .ok (.ireturn, 1) := by decide +kernel
theorem dX8_take_0 : decode cX8_take 0 = .ok (.aload_n 0, 1) := by decide +kernel
theorem dX8_take_1 : decode cX8_take 1 = .ok (.getfield 33, 3) := by decide +kernel
theorem dX8_take_4 : decode cX8_take 4 = .ok (.iload_n 1, 1) := by decide +kernel
theorem dX8_take_5 : decode cX8_take 5 = .ok (.invokevirtual 111, 3) := by decide +kernel
theorem dX8_take_8 : decode cX8_take 8 = .ok (.ifCond .eq 14, 3) := by decide +kernel
theorem dX8_take_11 : decode cX8_take 11 = .ok (.aload_n 0, 1) := by decide +kernel
theorem dX8_take_12 : decode cX8_take 12 = .ok (.getfield 33, 3) := by decide +kernel
theorem dX8_take_15 : decode cX8_take 15 = .ok (.iload_n 1, 1) := by decide +kernel
theorem dX8_take_16 : decode cX8_take 16 = .ok (.invokevirtual 114, 3) := by decide +kernel
theorem dX8_take_19 : decode cX8_take 19 = .ok (.goto 4, 3) := by decide +kernel
theorem dX8_take_22 : decode cX8_take 22 = .ok (.iconst (-1), 1) := by decide +kernel
theorem dX8_take_23 : decode cX8_take 23 = .ok (.ireturn, 1) := by decide +kernel
theorem dX8_link_0 : decode cX8_link 0 = .ok (.iload_n 1, 1) := by decide +kernel
theorem dX8_link_1 : decode cX8_link 1 = .ok (.iload_n 2, 1) := by decide +kernel
theorem dX8_link_2 : decode cX8_link 2 = .ok (.if_icmp .eq 37, 3) := by decide +kernel
theorem dX8_link_5 : decode cX8_link 5 = .ok (.aload_n 0, 1) := by decide +kernel
theorem dX8_link_6 : decode cX8_link 6 = .ok (.getfield 33, 3) := by decide +kernel
theorem dX8_link_9 : decode cX8_link 9 = .ok (.iload_n 1, 1) := by decide +kernel
theorem dX8_link_10 : decode cX8_link 10 = .ok (.invokevirtual 111, 3) := by decide +kernel
theorem dX8_link_13 : decode cX8_link 13 = .ok (.ifCond .eq 26, 3) := by decide +kernel
theorem dX8_link_16 : decode cX8_link 16 = .ok (.aload_n 0, 1) := by decide +kernel
theorem dX8_link_17 : decode cX8_link 17 = .ok (.getfield 33, 3) := by decide +kernel
theorem dX8_link_20 : decode cX8_link 20 = .ok (.iload_n 2, 1) := by decide +kernel
theorem dX8_link_21 : decode cX8_link 21 = .ok (.invokevirtual 111, 3) := by decide +kernel
theorem dX8_link_24 : decode cX8_link 24 = .ok (.ifCond .eq 15, 3) := by decide +kernel
theorem dX8_link_27 : decode cX8_link 27 = .ok (.aload_n 0, 1) := by decide +kernel
theorem dX8_link_28 : decode cX8_link 28 = .ok (.getfield 33, 3) := by decide +kernel
theorem dX8_link_31 : decode cX8_link 31 = .ok (.iload_n 1, 1) := by decide +kernel
theorem dX8_link_32 : decode cX8_link 32 = .ok (.iload_n 2, 1) := by decide +kernel
theorem dX8_link_33 : decode cX8_link 33 = .ok (.invokevirtual 118, 3) := by decide +kernel
theorem dX8_link_36 : decode cX8_link 36 = .ok (.ifCond .eq 5, 3) := by decide +kernel
theorem dX8_link_39 : decode cX8_link 39 = .ok (.iconst 0, 1) := by decide +kernel
theorem dX8_link_40 : decode cX8_link 40 = .ok (.ireturn, 1) := by decide +kernel
theorem dX8_link_41 : decode cX8_link 41 = .ok (.aload_n 0, 1) := by decide +kernel
theorem dX8_link_42 : decode cX8_link 42 = .ok (.getfield 33, 3) := by decide +kernel
theorem dX8_link_45 : decode cX8_link 45 = .ok (.iload_n 1, 1) := by decide +kernel
theorem dX8_link_46 : decode cX8_link 46 = .ok (.iload_n 2, 1) := by decide +kernel
theorem dX8_link_47 : decode cX8_link 47 = .ok (.invokevirtual 122, 3) := by decide +kernel
theorem dX8_link_50 : decode cX8_link 50 = .ok (.iconst 1, 1) := by decide +kernel
theorem dX8_link_51 : decode cX8_link 51 = .ok (.ireturn, 1) := by decide +kernel
theorem dX8_unlink_0 : decode cX8_unlink 0 = .ok (.aload_n 0, 1) := by decide +kernel
theorem dX8_unlink_1 : decode cX8_unlink 1 = .ok (.getfield 33, 3) := by decide +kernel
theorem dX8_unlink_4 : decode cX8_unlink 4 = .ok (.iload_n 1, 1) := by decide +kernel
theorem dX8_unlink_5 : decode cX8_unlink 5 = .ok (.invokevirtual 111, 3) := by decide +kernel
theorem dX8_unlink_8 : decode cX8_unlink 8 = .ok (.ifCond .eq 26, 3) := by decide +kernel
theorem dX8_unlink_11 : decode cX8_unlink 11 = .ok (.aload_n 0, 1) := by decide +kernel
theorem dX8_unlink_12 : decode cX8_unlink 12 = .ok (.getfield 33, 3) := by decide +kernel
theorem dX8_unlink_15 : decode cX8_unlink 15 = .ok (.iload_n 2, 1) := by decide +kernel
theorem dX8_unlink_16 : decode cX8_unlink 16 = .ok (.invokevirtual 111, 3) := by decide +kernel
theorem dX8_unlink_19 : decode cX8_unlink 19 = .ok (.ifCond .eq 15, 3) := by decide +kernel
theorem dX8_unlink_22 : decode cX8_unlink 22 = .ok (.aload_n 0, 1) := by decide +kernel
theorem dX8_unlink_23 : decode cX8_unlink 23 = .ok (.getfield 33, 3) := by decide +kernel
theorem dX8_unlink_26 : decode cX8_unlink 26 = .ok (.iload_n 1, 1) := by decide +kernel
theorem dX8_unlink_27 : decode cX8_unlink 27 = .ok (.iload_n 2, 1) := by decide +kernel
theorem dX8_unlink_28 : decode cX8_unlink 28 = .ok (.invokevirtual 118, 3) := by decide +kernel
theorem dX8_unlink_31 : decode cX8_unlink 31 = .ok (.ifCond .ne 5, 3) := by decide +kernel
theorem dX8_unlink_34 : decode cX8_unlink 34 = .ok (.iconst 0, 1) := by decide +kernel
theorem dX8_unlink_35 : decode cX8_unlink 35 = .ok (.ireturn, 1) := by decide +kernel
theorem dX8_unlink_36 : decode cX8_unlink 36 = .ok (.aload_n 0, 1) := by decide +kernel
theorem dX8_unlink_37 : decode cX8_unlink 37 = .ok (.getfield 33, 3) := by decide +kernel
theorem dX8_unlink_40 : decode cX8_unlink 40 = .ok (.iload_n 1, 1) := by decide +kernel
theorem dX8_unlink_41 : decode cX8_unlink 41 = .ok (.iload_n 2, 1) := by decide +kernel
theorem dX8_unlink_42 : decode cX8_unlink 42 = .ok (.invokevirtual 126, 3) := by decide +kernel
theorem dX8_unlink_45 : decode cX8_unlink 45 = .ok (.iconst 1, 1) := by decide +kernel
theorem dX8_unlink_46 : decode cX8_unlink 46 = .ok (.ireturn, 1) := by decide +kernel
theorem dX8_mend_0 : decode cX8_mend 0 = .ok (.aload_n 0, 1) := by decide +kernel
theorem dX8_mend_1 : decode cX8_mend 1 = .ok (.getfield 33, 3) := by decide +kernel
theorem dX8_mend_4 : decode cX8_mend 4 = .ok (.invokevirtual 129, 3) := by decide +kernel
theorem dX8_mend_7 : decode cX8_mend 7 = .ok (.ireturn, 1) := by decide +kernel
theorem dX8_look_0 : decode cX8_look 0 = .ok (.aload_n 0, 1) := by decide +kernel
theorem dX8_look_1 : decode cX8_look 1 = .ok (.getfield 33, 3) := by decide +kernel
theorem dX8_look_4 : decode cX8_look 4 = .ok (.iload_n 1, 1) := by decide +kernel
theorem dX8_look_5 : decode cX8_look 5 = .ok (.invokevirtual 132, 3) := by decide +kernel
theorem dX8_look_8 : decode cX8_look 8 = .ok (.ifCond .eq 13, 3) := by decide +kernel
theorem dX8_look_11 : decode cX8_look 11 = .ok (.iload_n 2, 1) := by decide +kernel
theorem dX8_look_12 : decode cX8_look 12 = .ok (.ifCond .lt 9, 3) := by decide +kernel
theorem dX8_look_15 : decode cX8_look 15 = .ok (.iload_n 2, 1) := by decide +kernel
theorem dX8_look_16 : decode cX8_look 16 = .ok (.bipush 6, 2) := by decide +kernel
theorem dX8_look_18 : decode cX8_look 18 = .ok (.if_icmp .le 13, 3) := by decide +kernel
theorem dX8_look_21 : decode cX8_look 21 = .ok (.new 135, 3) := by decide +kernel
theorem dX8_look_24 : decode cX8_look 24 = .ok (.dup, 1) := by decide +kernel
theorem dX8_look_25 : decode cX8_look 25 = .ok (.ldc 137, 2) := by decide +kernel
theorem dX8_look_27 : decode cX8_look 27 = .ok (.invokespecial 139, 3) := by decide +kernel
theorem dX8_look_30 : decode cX8_look 30 = .ok (.athrow, 1) := by decide +kernel
theorem dX8_look_31 : decode cX8_look 31 = .ok (.iload_n 2, 1) := by decide +kernel
theorem dX8_look_32 : decode cX8_look 32 = .ok (.ifCond .ne 15, 3) := by decide +kernel
theorem dX8_look_35 : decode cX8_look 35 = .ok (.aload_n 0, 1) := by decide +kernel
theorem dX8_look_36 : decode cX8_look 36 = .ok (.getfield 33, 3) := by decide +kernel
theorem dX8_look_39 : decode cX8_look 39 = .ok (.iload_n 1, 1) := by decide +kernel
theorem dX8_look_40 : decode cX8_look 40 = .ok (.invokevirtual 111, 3) := by decide +kernel
theorem dX8_look_43 : decode cX8_look 43 = .ok (.invokestatic 142, 3) := by decide +kernel
theorem dX8_look_46 : decode cX8_look 46 = .ok (.ireturn, 1) := by decide +kernel
theorem dX8_look_47 : decode cX8_look 47 = .ok (.aload_n 0, 1) := by decide +kernel
theorem dX8_look_48 : decode cX8_look 48 = .ok (.getfield 33, 3) := by decide +kernel
theorem dX8_look_51 : decode cX8_look 51 = .ok (.iload_n 1, 1) := by decide +kernel
theorem dX8_look_52 : decode cX8_look 52 = .ok (.invokevirtual 111, 3) := by decide +kernel
theorem dX8_look_55 : decode cX8_look 55 = .ok (.ifCond .ne 13, 3) := by decide +kernel
theorem dX8_look_58 : decode cX8_look 58 = .ok (.new 135, 3) := by decide +kernel
theorem dX8_look_61 : decode cX8_look 61 = .ok (.dup, 1) := by decide +kernel
theorem dX8_look_62 : decode cX8_look 62 = .ok (.ldc 146, 2) := by decide +kernel
theorem dX8_look_64 : decode cX8_look 64 = .ok (.invokespecial 139, 3) := by decide +kernel
theorem dX8_look_67 : decode cX8_look 67 = .ok (.athrow, 1) := by decide +kernel
theorem dX8_look_68 : decode cX8_look 68 = .ok (.aload_n 0, 1) := by decide +kernel
theorem dX8_look_69 : decode cX8_look 69 = .ok (.iload_n 1, 1) := by decide +kernel
theorem dX8_look_70 : decode cX8_look 70 = .ok (.iload_n 2, 1) := by decide +kernel
theorem dX8_look_71 : decode cX8_look 71 = .ok (.invokevirtual 148, 3) := by decide +kernel
theorem dX8_look_74 : decode cX8_look 74 = .ok (.ireturn, 1) := by decide +kernel
theorem dX8_over_0 : decode cX8_over 0 = .ok (.aload_n 0, 1) := by decide +kernel
theorem dX8_over_1 : decode cX8_over 1 = .ok (.getfield 33, 3) := by decide +kernel
theorem dX8_over_4 : decode cX8_over 4 = .ok (.iload_n 1, 1) := by decide +kernel
theorem dX8_over_5 : decode cX8_over 5 = .ok (.invokevirtual 111, 3) := by decide +kernel
theorem dX8_over_8 : decode cX8_over 8 = .ok (.ifCond .eq 14, 3) := by decide +kernel
theorem dX8_over_11 : decode cX8_over 11 = .ok (.aload_n 0, 1) := by decide +kernel
theorem dX8_over_12 : decode cX8_over 12 = .ok (.getfield 33, 3) := by decide +kernel
theorem dX8_over_15 : decode cX8_over 15 = .ok (.iload_n 2, 1) := by decide +kernel
theorem dX8_over_16 : decode cX8_over 16 = .ok (.invokevirtual 111, 3) := by decide +kernel
theorem dX8_over_19 : decode cX8_over 19 = .ok (.ifCond .ne 6, 3) := by decide +kernel
theorem dX8_over_22 : decode cX8_over 22 = .ok (.bipush (-2), 2) := by decide +kernel
theorem dX8_over_24 : decode cX8_over 24 = .ok (.ireturn, 1) := by decide +kernel
theorem dX8_over_25 : decode cX8_over 25 = .ok (.aload_n 0, 1) := by decide +kernel
theorem dX8_over_26 : decode cX8_over 26 = .ok (.getfield 33, 3) := by decide +kernel
theorem dX8_over_29 : decode cX8_over 29 = .ok (.iload_n 1, 1) := by decide +kernel
theorem dX8_over_30 : decode cX8_over 30 = .ok (.iload_n 2, 1) := by decide +kernel
theorem dX8_over_31 : decode cX8_over 31 = .ok (.invokevirtual 118, 3) := by decide +kernel
theorem dX8_over_34 : decode cX8_over 34 = .ok (.ifCond .ne 5, 3) := by decide +kernel
theorem dX8_over_37 : decode cX8_over 37 = .ok (.iconst 0, 1) := by decide +kernel
theorem dX8_over_38 : decode cX8_over 38 = .ok (.ireturn, 1) := by decide +kernel
theorem dX8_over_39 : decode cX8_over 39 = .ok (.aload_n 0, 1) := by decide +kernel
theorem dX8_over_40 : decode cX8_over 40 = .ok (.getfield 33, 3) := by decide +kernel
theorem dX8_over_43 : decode cX8_over 43 = .ok (.iload_n 1, 1) := by decide +kernel
theorem dX8_over_44 : decode cX8_over 44 = .ok (.iload_n 2, 1) := by decide +kernel
theorem dX8_over_45 : decode cX8_over 45 = .ok (.invokevirtual 152, 3) := by decide +kernel
theorem dX8_over_48 : decode cX8_over 48 = .ok (.ifCond .eq 7, 3) := by decide +kernel
theorem dX8_over_51 : decode cX8_over 51 = .ok (.iconst 1, 1) := by decide +kernel
theorem dX8_over_52 : decode cX8_over 52 = .ok (.goto 4, 3) := by decide +kernel
theorem dX8_over_55 : decode cX8_over 55 = .ok (.iconst (-1), 1) := by decide +kernel
theorem dX8_over_56 : decode cX8_over 56 = .ok (.ireturn, 1) := by decide +kernel
theorem dX8_linked_0 : decode cX8_linked 0 = .ok (.aload_n 0, 1) := by decide +kernel
theorem dX8_linked_1 : decode cX8_linked 1 = .ok (.getfield 33, 3) := by decide +kernel
theorem dX8_linked_4 : decode cX8_linked 4 = .ok (.iload_n 1, 1) := by decide +kernel
theorem dX8_linked_5 : decode cX8_linked 5 = .ok (.invokevirtual 111, 3) := by decide +kernel
theorem dX8_linked_8 : decode cX8_linked 8 = .ok (.ifCond .eq 15, 3) := by decide +kernel
theorem dX8_linked_11 : decode cX8_linked 11 = .ok (.aload_n 0, 1) := by decide +kernel
theorem dX8_linked_12 : decode cX8_linked 12 = .ok (.getfield 33, 3) := by decide +kernel
theorem dX8_linked_15 : decode cX8_linked 15 = .ok (.iload_n 1, 1) := by decide +kernel
theorem dX8_linked_16 : decode cX8_linked 16 = .ok (.iload_n 2, 1) := by decide +kernel
theorem dX8_linked_17 : decode cX8_linked 17 = .ok (.invokevirtual 155, 3) := by decide +kernel
theorem dX8_linked_20 : decode cX8_linked 20 = .ok (.goto 4, 3) := by decide +kernel
theorem dX8_linked_23 : decode cX8_linked 23 = .ok (.iconst (-1), 1) := by decide +kernel
theorem dX8_linked_24 : decode cX8_linked 24 = .ok (.ireturn, 1) := by decide +kernel
theorem dX8_fewest_0 : decode cX8_fewest 0 = .ok (.aload_n 0, 1) := by decide +kernel
theorem dX8_fewest_1 : decode cX8_fewest 1 = .ok (.getfield 51, 3) := by decide +kernel
theorem dX8_fewest_4 : decode cX8_fewest 4 = .ok (.invokevirtual 158, 3) := by decide +kernel
theorem dX8_fewest_7 : decode cX8_fewest 7 = .ok (.aload_n 0, 1) := by decide +kernel
theorem dX8_fewest_8 : decode cX8_fewest 8 = .ok (.getfield 42, 3) := by decide +kernel
theorem dX8_fewest_11 : decode cX8_fewest 11 = .ok (.getfield 161, 3) := by decide +kernel
theorem dX8_fewest_14 : decode cX8_fewest 14 = .ok (.ifCond .eq 13, 3) := by decide +kernel
theorem dX8_fewest_17 : decode cX8_fewest 17 = .ok (.aload_n 0, 1) := by decide +kernel
theorem dX8_fewest_18 : decode cX8_fewest 18 = .ok (.getfield 51, 3) := by decide +kernel
theorem dX8_fewest_21 : decode cX8_fewest 21 = .ok (.getfield 165, 3) := by decide +kernel
theorem dX8_fewest_24 : decode cX8_fewest 24 = .ok (.goto 4, 3) := by decide +kernel
theorem dX8_fewest_27 : decode cX8_fewest 27 = .ok (.iconst (-1), 1) := by decide +kernel
theorem dX8_fewest_28 : decode cX8_fewest 28 = .ok (.ireturn, 1) := by decide +kernel
theorem dX8_order_0 : decode cX8_order 0 = .ok (.aload_n 0, 1) := by decide +kernel
theorem dX8_order_1 : decode cX8_order 1 = .ok (.getfield 51, 3) := by decide +kernel
theorem dX8_order_4 : decode cX8_order 4 = .ok (.invokevirtual 158, 3) := by decide +kernel
theorem dX8_order_7 : decode cX8_order 7 = .ok (.iload_n 1, 1) := by decide +kernel
theorem dX8_order_8 : decode cX8_order 8 = .ok (.ifCond .lt 26, 3) := by decide +kernel
theorem dX8_order_11 : decode cX8_order 11 = .ok (.iload_n 1, 1) := by decide +kernel
theorem dX8_order_12 : decode cX8_order 12 = .ok (.aload_n 0, 1) := by decide +kernel
theorem dX8_order_13 : decode cX8_order 13 = .ok (.getfield 51, 3) := by decide +kernel
theorem dX8_order_16 : decode cX8_order 16 = .ok (.getfield 165, 3) := by decide +kernel
theorem dX8_order_19 : decode cX8_order 19 = .ok (.if_icmp .ge 15, 3) := by decide +kernel
theorem dX8_order_22 : decode cX8_order 22 = .ok (.aload_n 0, 1) := by decide +kernel
theorem dX8_order_23 : decode cX8_order 23 = .ok (.getfield 51, 3) := by decide +kernel
theorem dX8_order_26 : decode cX8_order 26 = .ok (.getfield 168, 3) := by decide +kernel
theorem dX8_order_29 : decode cX8_order 29 = .ok (.iload_n 1, 1) := by decide +kernel
theorem dX8_order_30 : decode cX8_order 30 = .ok (.iaload, 1) := by decide +kernel
theorem dX8_order_31 : decode cX8_order 31 = .ok (.goto 4, 3) := by decide +kernel
theorem dX8_order_34 : decode cX8_order 34 = .ok (.iconst (-1), 1) := by decide +kernel
theorem dX8_order_35 : decode cX8_order 35 = .ok (.ireturn, 1) := by decide +kernel
theorem dX8_sizes_0 : decode cX8_sizes 0 = .ok (.iload_n 1, 1) := by decide +kernel
theorem dX8_sizes_1 : decode cX8_sizes 1 = .ok (.sipush 999, 3) := by decide +kernel
theorem dX8_sizes_4 : decode cX8_sizes 4 = .ok (.invokestatic 172, 3) := by decide +kernel
theorem dX8_sizes_7 : decode cX8_sizes 7 = .ok (.ifCond .eq 22, 3) := by decide +kernel
theorem dX8_sizes_10 : decode cX8_sizes 10 = .ok (.iload_n 2, 1) := by decide +kernel
theorem dX8_sizes_11 : decode cX8_sizes 11 = .ok (.sipush 9999, 3) := by decide +kernel
theorem dX8_sizes_14 : decode cX8_sizes 14 = .ok (.invokestatic 172, 3) := by decide +kernel
theorem dX8_sizes_17 : decode cX8_sizes 17 = .ok (.ifCond .eq 12, 3) := by decide +kernel
theorem dX8_sizes_20 : decode cX8_sizes 20 = .ok (.iload_n 3, 1) := by decide +kernel
theorem dX8_sizes_21 : decode cX8_sizes 21 = .ok (.bipush 99, 2) := by decide +kernel
theorem dX8_sizes_23 : decode cX8_sizes 23 = .ok (.invokestatic 172, 3) := by decide +kernel
theorem dX8_sizes_26 : decode cX8_sizes 26 = .ok (.ifCond .ne 5, 3) := by decide +kernel
theorem dX8_sizes_29 : decode cX8_sizes 29 = .ok (.iconst 0, 1) := by decide +kernel
theorem dX8_sizes_30 : decode cX8_sizes 30 = .ok (.ireturn, 1) := by decide +kernel
theorem dX8_sizes_31 : decode cX8_sizes 31 = .ok (.aload_n 0, 1) := by decide +kernel
theorem dX8_sizes_32 : decode cX8_sizes 32 = .ok (.iload_n 1, 1) := by decide +kernel
theorem dX8_sizes_33 : decode cX8_sizes 33 = .ok (.putfield 65, 3) := by decide +kernel
theorem dX8_sizes_36 : decode cX8_sizes 36 = .ok (.aload_n 0, 1) := by decide +kernel
theorem dX8_sizes_37 : decode cX8_sizes 37 = .ok (.iload_n 2, 1) := by decide +kernel
theorem dX8_sizes_38 : decode cX8_sizes 38 = .ok (.putfield 69, 3) := by decide +kernel
theorem dX8_sizes_41 : decode cX8_sizes 41 = .ok (.aload_n 0, 1) := by decide +kernel
theorem dX8_sizes_42 : decode cX8_sizes 42 = .ok (.iload_n 3, 1) := by decide +kernel
theorem dX8_sizes_43 : decode cX8_sizes 43 = .ok (.putfield 72, 3) := by decide +kernel
theorem dX8_sizes_46 : decode cX8_sizes 46 = .ok (.iconst 1, 1) := by decide +kernel
theorem dX8_sizes_47 : decode cX8_sizes 47 = .ok (.ireturn, 1) := by decide +kernel
theorem dX8_count_0 : decode cX8_count 0 = .ok (.iload_n 1, 1) := by decide +kernel
theorem dX8_count_1 : decode cX8_count 1 = .ok (.tableswitch 176 0 12 #[67, 75, 83, 98, 106, 111, 126, 131, 136, 144, 152, 160, 168], 67) := by decide +kernel
theorem dX8_count_68 : decode cX8_count 68 = .ok (.aload_n 0, 1) := by decide +kernel
theorem dX8_count_69 : decode cX8_count 69 = .ok (.getfield 33, 3) := by decide +kernel
theorem dX8_count_72 : decode cX8_count 72 = .ok (.invokevirtual 175, 3) := by decide +kernel
theorem dX8_count_75 : decode cX8_count 75 = .ok (.ireturn, 1) := by decide +kernel
theorem dX8_count_76 : decode cX8_count 76 = .ok (.aload_n 0, 1) := by decide +kernel
theorem dX8_count_77 : decode cX8_count 77 = .ok (.getfield 33, 3) := by decide +kernel
theorem dX8_count_80 : decode cX8_count 80 = .ok (.invokevirtual 178, 3) := by decide +kernel
theorem dX8_count_83 : decode cX8_count 83 = .ok (.ireturn, 1) := by decide +kernel
theorem dX8_count_84 : decode cX8_count 84 = .ok (.aload_n 0, 1) := by decide +kernel
theorem dX8_count_85 : decode cX8_count 85 = .ok (.getfield 42, 3) := by decide +kernel
theorem dX8_count_88 : decode cX8_count 88 = .ok (.invokevirtual 181, 3) := by decide +kernel
theorem dX8_count_91 : decode cX8_count 91 = .ok (.aload_n 0, 1) := by decide +kernel
theorem dX8_count_92 : decode cX8_count 92 = .ok (.getfield 42, 3) := by decide +kernel
theorem dX8_count_95 : decode cX8_count 95 = .ok (.getfield 182, 3) := by decide +kernel
theorem dX8_count_98 : decode cX8_count 98 = .ok (.ireturn, 1) := by decide +kernel
theorem dX8_count_99 : decode cX8_count 99 = .ok (.aload_n 0, 1) := by decide +kernel
theorem dX8_count_100 : decode cX8_count 100 = .ok (.getfield 33, 3) := by decide +kernel
theorem dX8_count_103 : decode cX8_count 103 = .ok (.invokevirtual 185, 3) := by decide +kernel
theorem dX8_count_106 : decode cX8_count 106 = .ok (.ireturn, 1) := by decide +kernel
theorem dX8_count_107 : decode cX8_count 107 = .ok (.aload_n 0, 1) := by decide +kernel
theorem dX8_count_108 : decode cX8_count 108 = .ok (.invokevirtual 188, 3) := by decide +kernel
theorem dX8_count_111 : decode cX8_count 111 = .ok (.ireturn, 1) := by decide +kernel
theorem dX8_count_112 : decode cX8_count 112 = .ok (.aload_n 0, 1) := by decide +kernel
theorem dX8_count_113 : decode cX8_count 113 = .ok (.getfield 42, 3) := by decide +kernel
theorem dX8_count_116 : decode cX8_count 116 = .ok (.invokevirtual 181, 3) := by decide +kernel
theorem dX8_count_119 : decode cX8_count 119 = .ok (.aload_n 0, 1) := by decide +kernel
theorem dX8_count_120 : decode cX8_count 120 = .ok (.getfield 42, 3) := by decide +kernel
theorem dX8_count_123 : decode cX8_count 123 = .ok (.getfield 191, 3) := by decide +kernel
theorem dX8_count_126 : decode cX8_count 126 = .ok (.ireturn, 1) := by decide +kernel
theorem dX8_count_127 : decode cX8_count 127 = .ok (.aload_n 0, 1) := by decide +kernel
theorem dX8_count_128 : decode cX8_count 128 = .ok (.invokevirtual 194, 3) := by decide +kernel
theorem dX8_count_131 : decode cX8_count 131 = .ok (.ireturn, 1) := by decide +kernel
theorem dX8_count_132 : decode cX8_count 132 = .ok (.aload_n 0, 1) := by decide +kernel
theorem dX8_count_133 : decode cX8_count 133 = .ok (.invokevirtual 197, 3) := by decide +kernel
theorem dX8_count_136 : decode cX8_count 136 = .ok (.ireturn, 1) := by decide +kernel
theorem dX8_count_137 : decode cX8_count 137 = .ok (.aload_n 0, 1) := by decide +kernel
theorem dX8_count_138 : decode cX8_count 138 = .ok (.getfield 33, 3) := by decide +kernel
theorem dX8_count_141 : decode cX8_count 141 = .ok (.getfield 100, 3) := by decide +kernel
theorem dX8_count_144 : decode cX8_count 144 = .ok (.ireturn, 1) := by decide +kernel
theorem dX8_count_145 : decode cX8_count 145 = .ok (.aload_n 0, 1) := by decide +kernel
theorem dX8_count_146 : decode cX8_count 146 = .ok (.getfield 58, 3) := by decide +kernel
theorem dX8_count_149 : decode cX8_count 149 = .ok (.getfield 89, 3) := by decide +kernel
theorem dX8_count_152 : decode cX8_count 152 = .ok (.ireturn, 1) := by decide +kernel
theorem dX8_count_153 : decode cX8_count 153 = .ok (.aload_n 0, 1) := by decide +kernel
theorem dX8_count_154 : decode cX8_count 154 = .ok (.getfield 58, 3) := by decide +kernel
theorem dX8_count_157 : decode cX8_count 157 = .ok (.getfield 200, 3) := by decide +kernel
theorem dX8_count_160 : decode cX8_count 160 = .ok (.ireturn, 1) := by decide +kernel
theorem dX8_count_161 : decode cX8_count 161 = .ok (.aload_n 0, 1) := by decide +kernel
theorem dX8_count_162 : decode cX8_count 162 = .ok (.getfield 10, 3) := by decide +kernel
theorem dX8_count_165 : decode cX8_count 165 = .ok (.getfield 79, 3) := by decide +kernel
theorem dX8_count_168 : decode cX8_count 168 = .ok (.ireturn, 1) := by decide +kernel
theorem dX8_count_169 : decode cX8_count 169 = .ok (.aload_n 0, 1) := by decide +kernel
theorem dX8_count_170 : decode cX8_count 170 = .ok (.getfield 33, 3) := by decide +kernel
theorem dX8_count_173 : decode cX8_count 173 = .ok (.invokevirtual 203, 3) := by decide +kernel
theorem dX8_count_176 : decode cX8_count 176 = .ok (.ireturn, 1) := by decide +kernel
theorem dX8_count_177 : decode cX8_count 177 = .ok (.iconst (-1), 1) := by decide +kernel
theorem dX8_count_178 : decode cX8_count 178 = .ok (.ireturn, 1) := by decide +kernel
theorem dX8_lookAtOneThere_0 : decode cX8_lookAtOneThere 0 = .ok (.iload_n 2, 1) := by decide +kernel
theorem dX8_lookAtOneThere_1 : decode cX8_lookAtOneThere 1 = .ok (.tableswitch 104 1 5 #[35, 44, 56, 65, 85], 35) := by decide +kernel
theorem dX8_lookAtOneThere_36 : decode cX8_lookAtOneThere 36 = .ok (.aload_n 0, 1) := by decide +kernel
theorem dX8_lookAtOneThere_37 : decode cX8_lookAtOneThere 37 = .ok (.getfield 33, 3) := by decide +kernel
theorem dX8_lookAtOneThere_40 : decode cX8_lookAtOneThere 40 = .ok (.iload_n 1, 1) := by decide +kernel
theorem dX8_lookAtOneThere_41 : decode cX8_lookAtOneThere 41 = .ok (.invokevirtual 206, 3) := by decide +kernel
theorem dX8_lookAtOneThere_44 : decode cX8_lookAtOneThere 44 = .ok (.ireturn, 1) := by decide +kernel
theorem dX8_lookAtOneThere_45 : decode cX8_lookAtOneThere 45 = .ok (.aload_n 0, 1) := by decide +kernel
theorem dX8_lookAtOneThere_46 : decode cX8_lookAtOneThere 46 = .ok (.getfield 33, 3) := by decide +kernel
theorem dX8_lookAtOneThere_49 : decode cX8_lookAtOneThere 49 = .ok (.iload_n 1, 1) := by decide +kernel
theorem dX8_lookAtOneThere_50 : decode cX8_lookAtOneThere 50 = .ok (.invokevirtual 209, 3) := by decide +kernel
theorem dX8_lookAtOneThere_53 : decode cX8_lookAtOneThere 53 = .ok (.invokestatic 142, 3) := by decide +kernel
theorem dX8_lookAtOneThere_56 : decode cX8_lookAtOneThere 56 = .ok (.ireturn, 1) := by decide +kernel
theorem dX8_lookAtOneThere_57 : decode cX8_lookAtOneThere 57 = .ok (.aload_n 0, 1) := by decide +kernel
theorem dX8_lookAtOneThere_58 : decode cX8_lookAtOneThere 58 = .ok (.iload_n 1, 1) := by decide +kernel
theorem dX8_lookAtOneThere_59 : decode cX8_lookAtOneThere 59 = .ok (.invokevirtual 212, 3) := by decide +kernel
theorem dX8_lookAtOneThere_62 : decode cX8_lookAtOneThere 62 = .ok (.invokestatic 142, 3) := by decide +kernel
theorem dX8_lookAtOneThere_65 : decode cX8_lookAtOneThere 65 = .ok (.ireturn, 1) := by decide +kernel
theorem dX8_lookAtOneThere_66 : decode cX8_lookAtOneThere 66 = .ok (.aload_n 0, 1) := by decide +kernel
theorem dX8_lookAtOneThere_67 : decode cX8_lookAtOneThere 67 = .ok (.getfield 42, 3) := by decide +kernel
theorem dX8_lookAtOneThere_70 : decode cX8_lookAtOneThere 70 = .ok (.invokevirtual 181, 3) := by decide +kernel
theorem dX8_lookAtOneThere_73 : decode cX8_lookAtOneThere 73 = .ok (.aload_n 0, 1) := by decide +kernel
theorem dX8_lookAtOneThere_74 : decode cX8_lookAtOneThere 74 = .ok (.getfield 42, 3) := by decide +kernel
theorem dX8_lookAtOneThere_77 : decode cX8_lookAtOneThere 77 = .ok (.getfield 215, 3) := by decide +kernel
theorem dX8_lookAtOneThere_80 : decode cX8_lookAtOneThere 80 = .ok (.iload_n 1, 1) := by decide +kernel
theorem dX8_lookAtOneThere_81 : decode cX8_lookAtOneThere 81 = .ok (.baload, 1) := by decide +kernel
theorem dX8_lookAtOneThere_82 : decode cX8_lookAtOneThere 82 = .ok (.invokestatic 142, 3) := by decide +kernel
theorem dX8_lookAtOneThere_85 : decode cX8_lookAtOneThere 85 = .ok (.ireturn, 1) := by decide +kernel
theorem dX8_lookAtOneThere_86 : decode cX8_lookAtOneThere 86 = .ok (.aload_n 0, 1) := by decide +kernel
theorem dX8_lookAtOneThere_87 : decode cX8_lookAtOneThere 87 = .ok (.getfield 51, 3) := by decide +kernel
theorem dX8_lookAtOneThere_90 : decode cX8_lookAtOneThere 90 = .ok (.invokevirtual 158, 3) := by decide +kernel
theorem dX8_lookAtOneThere_93 : decode cX8_lookAtOneThere 93 = .ok (.aload_n 0, 1) := by decide +kernel
theorem dX8_lookAtOneThere_94 : decode cX8_lookAtOneThere 94 = .ok (.getfield 51, 3) := by decide +kernel
theorem dX8_lookAtOneThere_97 : decode cX8_lookAtOneThere 97 = .ok (.iload_n 1, 1) := by decide +kernel
theorem dX8_lookAtOneThere_98 : decode cX8_lookAtOneThere 98 = .ok (.invokevirtual 219, 3) := by decide +kernel
theorem dX8_lookAtOneThere_101 : decode cX8_lookAtOneThere 101 = .ok (.invokestatic 142, 3) := by decide +kernel
theorem dX8_lookAtOneThere_104 : decode cX8_lookAtOneThere 104 = .ok (.ireturn, 1) := by decide +kernel
theorem dX8_lookAtOneThere_105 : decode cX8_lookAtOneThere 105 = .ok (.aload_n 0, 1) := by decide +kernel
theorem dX8_lookAtOneThere_106 : decode cX8_lookAtOneThere 106 = .ok (.getfield 42, 3) := by decide +kernel
theorem dX8_lookAtOneThere_109 : decode cX8_lookAtOneThere 109 = .ok (.invokevirtual 181, 3) := by decide +kernel
theorem dX8_lookAtOneThere_112 : decode cX8_lookAtOneThere 112 = .ok (.aload_n 0, 1) := by decide +kernel
theorem dX8_lookAtOneThere_113 : decode cX8_lookAtOneThere 113 = .ok (.getfield 42, 3) := by decide +kernel
theorem dX8_lookAtOneThere_116 : decode cX8_lookAtOneThere 116 = .ok (.getfield 222, 3) := by decide +kernel
theorem dX8_lookAtOneThere_119 : decode cX8_lookAtOneThere 119 = .ok (.iload_n 1, 1) := by decide +kernel
theorem dX8_lookAtOneThere_120 : decode cX8_lookAtOneThere 120 = .ok (.iaload, 1) := by decide +kernel
theorem dX8_lookAtOneThere_121 : decode cX8_lookAtOneThere 121 = .ok (.ireturn, 1) := by decide +kernel
theorem dX8_binds_0 : decode cX8_binds 0 = .ok (.aload_n 0, 1) := by decide +kernel
theorem dX8_binds_1 : decode cX8_binds 1 = .ok (.getfield 33, 3) := by decide +kernel
theorem dX8_binds_4 : decode cX8_binds 4 = .ok (.iload_n 1, 1) := by decide +kernel
theorem dX8_binds_5 : decode cX8_binds 5 = .ok (.invokevirtual 206, 3) := by decide +kernel
theorem dX8_binds_8 : decode cX8_binds 8 = .ok (.istore_n 2, 1) := by decide +kernel
theorem dX8_binds_9 : decode cX8_binds 9 = .ok (.iload_n 2, 1) := by decide +kernel
theorem dX8_binds_10 : decode cX8_binds 10 = .ok (.ifCond .le 27, 3) := by decide +kernel
theorem dX8_binds_13 : decode cX8_binds 13 = .ok (.sipush 1000, 3) := by decide +kernel
theorem dX8_binds_16 : decode cX8_binds 16 = .ok (.aload_n 0, 1) := by decide +kernel
theorem dX8_binds_17 : decode cX8_binds 17 = .ok (.getfield 69, 3) := by decide +kernel
theorem dX8_binds_20 : decode cX8_binds 20 = .ok (.imul, 1) := by decide +kernel
theorem dX8_binds_21 : decode cX8_binds 21 = .ok (.aload_n 0, 1) := by decide +kernel
theorem dX8_binds_22 : decode cX8_binds 22 = .ok (.getfield 65, 3) := by decide +kernel
theorem dX8_binds_25 : decode cX8_binds 25 = .ok (.iload_n 2, 1) := by decide +kernel
theorem dX8_binds_26 : decode cX8_binds 26 = .ok (.invokestatic 225, 3) := by decide +kernel
theorem dX8_binds_29 : decode cX8_binds 29 = .ok (.imul, 1) := by decide +kernel
theorem dX8_binds_30 : decode cX8_binds 30 = .ok (.if_icmp .ge 7, 3) := by decide +kernel
theorem dX8_binds_33 : decode cX8_binds 33 = .ok (.iconst 1, 1) := by decide +kernel
theorem dX8_binds_34 : decode cX8_binds 34 = .ok (.goto 4, 3) := by decide +kernel
theorem dX8_binds_37 : decode cX8_binds 37 = .ok (.iconst 0, 1) := by decide +kernel
theorem dX8_binds_38 : decode cX8_binds 38 = .ok (.ireturn, 1) := by decide +kernel
theorem dX8_roomFor_0 : decode cX8_roomFor 0 = .ok (.getstatic 228, 3) := by decide +kernel
theorem dX8_roomFor_3 : decode cX8_roomFor 3 = .ok (.arraylength, 1) := by decide +kernel
theorem dX8_roomFor_4 : decode cX8_roomFor 4 = .ok (.iconst 1, 1) := by decide +kernel
theorem dX8_roomFor_5 : decode cX8_roomFor 5 = .ok (.isub, 1) := by decide +kernel
theorem dX8_roomFor_6 : decode cX8_roomFor 6 = .ok (.istore_n 1, 1) := by decide +kernel
theorem dX8_roomFor_7 : decode cX8_roomFor 7 = .ok (.iload_n 0, 1) := by decide +kernel
theorem dX8_roomFor_8 : decode cX8_roomFor 8 = .ok (.iload_n 1, 1) := by decide +kernel
theorem dX8_roomFor_9 : decode cX8_roomFor 9 = .ok (.if_icmp .gt 9, 3) := by decide +kernel
theorem dX8_roomFor_12 : decode cX8_roomFor 12 = .ok (.getstatic 228, 3) := by decide +kernel
theorem dX8_roomFor_15 : decode cX8_roomFor 15 = .ok (.iload_n 0, 1) := by decide +kernel
theorem dX8_roomFor_16 : decode cX8_roomFor 16 = .ok (.iaload, 1) := by decide +kernel
theorem dX8_roomFor_17 : decode cX8_roomFor 17 = .ok (.ireturn, 1) := by decide +kernel
theorem dX8_roomFor_18 : decode cX8_roomFor 18 = .ok (.getstatic 228, 3) := by decide +kernel
theorem dX8_roomFor_21 : decode cX8_roomFor 21 = .ok (.iload_n 1, 1) := by decide +kernel
theorem dX8_roomFor_22 : decode cX8_roomFor 22 = .ok (.iaload, 1) := by decide +kernel
theorem dX8_roomFor_23 : decode cX8_roomFor 23 = .ok (.sipush 400, 3) := by decide +kernel
theorem dX8_roomFor_26 : decode cX8_roomFor 26 = .ok (.iload_n 0, 1) := by decide +kernel
theorem dX8_roomFor_27 : decode cX8_roomFor 27 = .ok (.iload_n 1, 1) := by decide +kernel
theorem dX8_roomFor_28 : decode cX8_roomFor 28 = .ok (.isub, 1) := by decide +kernel
theorem dX8_roomFor_29 : decode cX8_roomFor 29 = .ok (.imul, 1) := by decide +kernel
theorem dX8_roomFor_30 : decode cX8_roomFor 30 = .ok (.iadd, 1) := by decide +kernel
theorem dX8_roomFor_31 : decode cX8_roomFor 31 = .ok (.ireturn, 1) := by decide +kernel
theorem dX8_bindingRings_0 : decode cX8_bindingRings 0 = .ok (.iconst 0, 1) := by decide +kernel
theorem dX8_bindingRings_1 : decode cX8_bindingRings 1 = .ok (.istore_n 1, 1) := by decide +kernel
theorem dX8_bindingRings_2 : decode cX8_bindingRings 2 = .ok (.iconst 0, 1) := by decide +kernel
theorem dX8_bindingRings_3 : decode cX8_bindingRings 3 = .ok (.istore_n 2, 1) := by decide +kernel
theorem dX8_bindingRings_4 : decode cX8_bindingRings 4 = .ok (.iload_n 2, 1) := by decide +kernel
theorem dX8_bindingRings_5 : decode cX8_bindingRings 5 = .ok (.aload_n 0, 1) := by decide +kernel
theorem dX8_bindingRings_6 : decode cX8_bindingRings 6 = .ok (.getfield 33, 3) := by decide +kernel
theorem dX8_bindingRings_9 : decode cX8_bindingRings 9 = .ok (.getfield 100, 3) := by decide +kernel
theorem dX8_bindingRings_12 : decode cX8_bindingRings 12 = .ok (.if_icmp .ge 31, 3) := by decide +kernel
theorem dX8_bindingRings_15 : decode cX8_bindingRings 15 = .ok (.aload_n 0, 1) := by decide +kernel
theorem dX8_bindingRings_16 : decode cX8_bindingRings 16 = .ok (.getfield 33, 3) := by decide +kernel
theorem dX8_bindingRings_19 : decode cX8_bindingRings 19 = .ok (.iload_n 2, 1) := by decide +kernel
theorem dX8_bindingRings_20 : decode cX8_bindingRings 20 = .ok (.invokevirtual 111, 3) := by decide +kernel
theorem dX8_bindingRings_23 : decode cX8_bindingRings 23 = .ok (.ifCond .eq 14, 3) := by decide +kernel
theorem dX8_bindingRings_26 : decode cX8_bindingRings 26 = .ok (.aload_n 0, 1) := by decide +kernel
theorem dX8_bindingRings_27 : decode cX8_bindingRings 27 = .ok (.iload_n 2, 1) := by decide +kernel
theorem dX8_bindingRings_28 : decode cX8_bindingRings 28 = .ok (.invokevirtual 212, 3) := by decide +kernel
theorem dX8_bindingRings_31 : decode cX8_bindingRings 31 = .ok (.ifCond .eq 6, 3) := by decide +kernel
theorem dX8_bindingRings_34 : decode cX8_bindingRings 34 = .ok (.iinc 1 1, 3) := by decide +kernel
theorem dX8_bindingRings_37 : decode cX8_bindingRings 37 = .ok (.iinc 2 1, 3) := by decide +kernel
theorem dX8_bindingRings_40 : decode cX8_bindingRings 40 = .ok (.goto (-36), 3) := by decide +kernel
theorem dX8_bindingRings_43 : decode cX8_bindingRings 43 = .ok (.iload_n 1, 1) := by decide +kernel
theorem dX8_bindingRings_44 : decode cX8_bindingRings 44 = .ok (.ireturn, 1) := by decide +kernel
theorem dX8_wireOfAll_0 : decode cX8_wireOfAll 0 = .ok (.aload_n 0, 1) := by decide +kernel
theorem dX8_wireOfAll_1 : decode cX8_wireOfAll 1 = .ok (.getfield 69, 3) := by decide +kernel
theorem dX8_wireOfAll_4 : decode cX8_wireOfAll 4 = .ok (.aload_n 0, 1) := by decide +kernel
theorem dX8_wireOfAll_5 : decode cX8_wireOfAll 5 = .ok (.getfield 65, 3) := by decide +kernel
theorem dX8_wireOfAll_8 : decode cX8_wireOfAll 8 = .ok (.iadd, 1) := by decide +kernel
theorem dX8_wireOfAll_9 : decode cX8_wireOfAll 9 = .ok (.sipush 355, 3) := by decide +kernel
theorem dX8_wireOfAll_12 : decode cX8_wireOfAll 12 = .ok (.imul, 1) := by decide +kernel
theorem dX8_wireOfAll_13 : decode cX8_wireOfAll 13 = .ok (.bipush 113, 2) := by decide +kernel
theorem dX8_wireOfAll_15 : decode cX8_wireOfAll 15 = .ok (.idiv, 1) := by decide +kernel
theorem dX8_wireOfAll_16 : decode cX8_wireOfAll 16 = .ok (.aload_n 0, 1) := by decide +kernel
theorem dX8_wireOfAll_17 : decode cX8_wireOfAll 17 = .ok (.getfield 33, 3) := by decide +kernel
theorem dX8_wireOfAll_20 : decode cX8_wireOfAll 20 = .ok (.invokevirtual 175, 3) := by decide +kernel
theorem dX8_wireOfAll_23 : decode cX8_wireOfAll 23 = .ok (.imul, 1) := by decide +kernel
theorem dX8_wireOfAll_24 : decode cX8_wireOfAll 24 = .ok (.ireturn, 1) := by decide +kernel
theorem dX8_weightOfAll_0 : decode cX8_weightOfAll 0 = .ok (.aload_n 0, 1) := by decide +kernel
theorem dX8_weightOfAll_1 : decode cX8_weightOfAll 1 = .ok (.invokevirtual 194, 3) := by decide +kernel
theorem dX8_weightOfAll_4 : decode cX8_weightOfAll 4 = .ok (.i2l, 1) := by decide +kernel
theorem dX8_weightOfAll_5 : decode cX8_weightOfAll 5 = .ok (.aload_n 0, 1) := by decide +kernel
theorem dX8_weightOfAll_6 : decode cX8_weightOfAll 6 = .ok (.getfield 65, 3) := by decide +kernel
theorem dX8_weightOfAll_9 : decode cX8_weightOfAll 9 = .ok (.i2l, 1) := by decide +kernel
theorem dX8_weightOfAll_10 : decode cX8_weightOfAll 10 = .ok (.lmul, 1) := by decide +kernel
theorem dX8_weightOfAll_11 : decode cX8_weightOfAll 11 = .ok (.aload_n 0, 1) := by decide +kernel
theorem dX8_weightOfAll_12 : decode cX8_weightOfAll 12 = .ok (.getfield 65, 3) := by decide +kernel
theorem dX8_weightOfAll_15 : decode cX8_weightOfAll 15 = .ok (.i2l, 1) := by decide +kernel
theorem dX8_weightOfAll_16 : decode cX8_weightOfAll 16 = .ok (.lmul, 1) := by decide +kernel
theorem dX8_weightOfAll_17 : decode cX8_weightOfAll 17 = .ok (.aload_n 0, 1) := by decide +kernel
theorem dX8_weightOfAll_18 : decode cX8_weightOfAll 18 = .ok (.getfield 72, 3) := by decide +kernel
theorem dX8_weightOfAll_21 : decode cX8_weightOfAll 21 = .ok (.i2l, 1) := by decide +kernel
theorem dX8_weightOfAll_22 : decode cX8_weightOfAll 22 = .ok (.lmul, 1) := by decide +kernel
theorem dX8_weightOfAll_23 : decode cX8_weightOfAll 23 = .ok (.ldc2_w 231, 3) := by decide +kernel
theorem dX8_weightOfAll_26 : decode cX8_weightOfAll 26 = .ok (.ldiv, 1) := by decide +kernel
theorem dX8_weightOfAll_27 : decode cX8_weightOfAll 27 = .ok (.l2i, 1) := by decide +kernel
theorem dX8_weightOfAll_28 : decode cX8_weightOfAll 28 = .ok (.ireturn, 1) := by decide +kernel
theorem dX8_isSide_0 : decode cX8_isSide 0 = .ok (.iload_n 0, 1) := by decide +kernel
theorem dX8_isSide_1 : decode cX8_isSide 1 = .ok (.bipush 12, 2) := by decide +kernel
theorem dX8_isSide_3 : decode cX8_isSide 3 = .ok (.invokestatic 172, 3) := by decide +kernel
theorem dX8_isSide_6 : decode cX8_isSide 6 = .ok (.ireturn, 1) := by decide +kernel
theorem dX8_isWithin_0 : decode cX8_isWithin 0 = .ok (.iload_n 0, 1) := by decide +kernel
theorem dX8_isWithin_1 : decode cX8_isWithin 1 = .ok (.iconst 1, 1) := by decide +kernel
theorem dX8_isWithin_2 : decode cX8_isWithin 2 = .ok (.if_icmp .lt 12, 3) := by decide +kernel
theorem dX8_isWithin_5 : decode cX8_isWithin 5 = .ok (.iload_n 0, 1) := by decide +kernel
theorem dX8_isWithin_6 : decode cX8_isWithin 6 = .ok (.iload_n 1, 1) := by decide +kernel
theorem dX8_isWithin_7 : decode cX8_isWithin 7 = .ok (.if_icmp .gt 7, 3) := by decide +kernel
theorem dX8_isWithin_10 : decode cX8_isWithin 10 = .ok (.iconst 1, 1) := by decide +kernel
theorem dX8_isWithin_11 : decode cX8_isWithin 11 = .ok (.goto 4, 3) := by decide +kernel
theorem dX8_isWithin_14 : decode cX8_isWithin 14 = .ok (.iconst 0, 1) := by decide +kernel
theorem dX8_isWithin_15 : decode cX8_isWithin 15 = .ok (.ireturn, 1) := by decide +kernel
theorem dX8_asNumber_0 : decode cX8_asNumber 0 = .ok (.iload_n 0, 1) := by decide +kernel
theorem dX8_asNumber_1 : decode cX8_asNumber 1 = .ok (.ifCond .eq 7, 3) := by decide +kernel
theorem dX8_asNumber_4 : decode cX8_asNumber 4 = .ok (.iconst 1, 1) := by decide +kernel
theorem dX8_asNumber_5 : decode cX8_asNumber 5 = .ok (.goto 4, 3) := by decide +kernel
theorem dX8_asNumber_8 : decode cX8_asNumber 8 = .ok (.iconst 0, 1) := by decide +kernel
theorem dX8_asNumber_9 : decode cX8_asNumber 9 = .ok (.ireturn, 1) := by decide +kernel
theorem dX9_thrown_0 : decode cX9_thrown 0 = .ok (.aload_n 0, 1) := by decide +kernel
theorem dX9_thrown_1 : decode cX9_thrown 1 = .ok (.getfield 1, 3) := by decide +kernel
theorem dX9_thrown_4 : decode cX9_thrown 4 = .ok (.ireturn, 1) := by decide +kernel
theorem dX9_feed_0 : decode cX9_feed 0 = .ok (.aload_n 0, 1) := by decide +kernel
theorem dX9_feed_1 : decode cX9_feed 1 = .ok (.iconst 0, 1) := by decide +kernel
theorem dX9_feed_2 : decode cX9_feed 2 = .ok (.putfield 1, 3) := by decide +kernel
theorem dX9_feed_5 : decode cX9_feed 5 = .ok (.aload_n 0, 1) := by decide +kernel
theorem dX9_feed_6 : decode cX9_feed 6 = .ok (.lload_n 1, 1) := by decide +kernel
theorem dX9_feed_7 : decode cX9_feed 7 = .ok (.invokevirtual 7, 3) := by decide +kernel
theorem dX9_feed_10 : decode cX9_feed 10 = .ok (.aload_n 0, 1) := by decide +kernel
theorem dX9_feed_11 : decode cX9_feed 11 = .ok (.lload_n 3, 1) := by decide +kernel
theorem dX9_feed_12 : decode cX9_feed 12 = .ok (.invokevirtual 7, 3) := by decide +kernel
theorem dX9_feed_15 : decode cX9_feed 15 = .ok (.aload_n 0, 1) := by decide +kernel
theorem dX9_feed_16 : decode cX9_feed 16 = .ok (.lload 5, 2) := by decide +kernel
theorem dX9_feed_18 : decode cX9_feed 18 = .ok (.invokevirtual 7, 3) := by decide +kernel
theorem dX9_feed_21 : decode cX9_feed 21 = .ok (.aload_n 0, 1) := by decide +kernel
theorem dX9_feed_22 : decode cX9_feed 22 = .ok (.getfield 11, 3) := by decide +kernel
theorem dX9_feed_25 : decode cX9_feed 25 = .ok (.ireturn, 1) := by decide +kernel
theorem dX9_lay_0 : decode cX9_lay 0 = .ok (.bipush 56, 2) := by decide +kernel
theorem dX9_lay_2 : decode cX9_lay 2 = .ok (.istore_n 3, 1) := by decide +kernel
theorem dX9_lay_3 : decode cX9_lay 3 = .ok (.iload_n 3, 1) := by decide +kernel
theorem dX9_lay_4 : decode cX9_lay 4 = .ok (.ifCond .lt 71, 3) := by decide +kernel
theorem dX9_lay_7 : decode cX9_lay 7 = .ok (.lload_n 1, 1) := by decide +kernel
theorem dX9_lay_8 : decode cX9_lay 8 = .ok (.iload_n 3, 1) := by decide +kernel
theorem dX9_lay_9 : decode cX9_lay 9 = .ok (.lshr, 1) := by decide +kernel
theorem dX9_lay_10 : decode cX9_lay 10 = .ok (.l2i, 1) := by decide +kernel
theorem dX9_lay_11 : decode cX9_lay 11 = .ok (.sipush 255, 3) := by decide +kernel
theorem dX9_lay_14 : decode cX9_lay 14 = .ok (.iand, 1) := by decide +kernel
theorem dX9_lay_15 : decode cX9_lay 15 = .ok (.istore 4, 2) := by decide +kernel
theorem dX9_lay_17 : decode cX9_lay 17 = .ok (.iload 4, 2) := by decide +kernel
theorem dX9_lay_19 : decode cX9_lay 19 = .ok (.bipush 10, 2) := by decide +kernel
theorem dX9_lay_21 : decode cX9_lay 21 = .ok (.if_icmp .eq 17, 3) := by decide +kernel
theorem dX9_lay_24 : decode cX9_lay 24 = .ok (.iload 4, 2) := by decide +kernel
theorem dX9_lay_26 : decode cX9_lay 26 = .ok (.bipush 32, 2) := by decide +kernel
theorem dX9_lay_28 : decode cX9_lay 28 = .ok (.if_icmp .lt 41, 3) := by decide +kernel
theorem dX9_lay_31 : decode cX9_lay 31 = .ok (.iload 4, 2) := by decide +kernel
theorem dX9_lay_33 : decode cX9_lay 33 = .ok (.bipush 126, 2) := by decide +kernel
theorem dX9_lay_35 : decode cX9_lay 35 = .ok (.if_icmp .gt 34, 3) := by decide +kernel
theorem dX9_lay_38 : decode cX9_lay 38 = .ok (.aload_n 0, 1) := by decide +kernel
theorem dX9_lay_39 : decode cX9_lay 39 = .ok (.getfield 11, 3) := by decide +kernel
theorem dX9_lay_42 : decode cX9_lay 42 = .ok (.sipush 1000, 3) := by decide +kernel
theorem dX9_lay_45 : decode cX9_lay 45 = .ok (.if_icmp .ge 24, 3) := by decide +kernel
theorem dX9_lay_48 : decode cX9_lay 48 = .ok (.aload_n 0, 1) := by decide +kernel
theorem dX9_lay_49 : decode cX9_lay 49 = .ok (.getfield 14, 3) := by decide +kernel
theorem dX9_lay_52 : decode cX9_lay 52 = .ok (.aload_n 0, 1) := by decide +kernel
theorem dX9_lay_53 : decode cX9_lay 53 = .ok (.getfield 11, 3) := by decide +kernel
theorem dX9_lay_56 : decode cX9_lay 56 = .ok (.iload 4, 2) := by decide +kernel
theorem dX9_lay_58 : decode cX9_lay 58 = .ok (.iastore, 1) := by decide +kernel
theorem dX9_lay_59 : decode cX9_lay 59 = .ok (.aload_n 0, 1) := by decide +kernel
theorem dX9_lay_60 : decode cX9_lay 60 = .ok (.dup, 1) := by decide +kernel
theorem dX9_lay_61 : decode cX9_lay 61 = .ok (.getfield 11, 3) := by decide +kernel
theorem dX9_lay_64 : decode cX9_lay 64 = .ok (.iconst 1, 1) := by decide +kernel
theorem dX9_lay_65 : decode cX9_lay 65 = .ok (.iadd, 1) := by decide +kernel
theorem dX9_lay_66 : decode cX9_lay 66 = .ok (.putfield 11, 3) := by decide +kernel
theorem dX9_lay_69 : decode cX9_lay 69 = .ok (.iinc 3 (-8), 3) := by decide +kernel
theorem dX9_lay_72 : decode cX9_lay 72 = .ok (.goto (-69), 3) := by decide +kernel
theorem dX9_lay_75 : decode cX9_lay 75 = .ok (.return_, 1) := by decide +kernel
theorem dX9_init_0 : decode cX9_init 0 = .ok (.aload_n 0, 1) := by decide +kernel
theorem dX9_init_1 : decode cX9_init 1 = .ok (.invokespecial 18, 3) := by decide +kernel
theorem dX9_init_4 : decode cX9_init 4 = .ok (.aload_n 0, 1) := by decide +kernel
theorem dX9_init_5 : decode cX9_init 5 = .ok (.sipush 1000, 3) := by decide +kernel
theorem dX9_init_8 : decode cX9_init 8 = .ok (.newarray .int, 2) := by decide +kernel
theorem dX9_init_10 : decode cX9_init 10 = .ok (.putfield 14, 3) := by decide +kernel
theorem dX9_init_13 : decode cX9_init 13 = .ok (.aload_n 0, 1) := by decide +kernel
theorem dX9_init_14 : decode cX9_init 14 = .ok (.sipush 1002, 3) := by decide +kernel
theorem dX9_init_17 : decode cX9_init 17 = .ok (.newarray .int, 2) := by decide +kernel
theorem dX9_init_19 : decode cX9_init 19 = .ok (.putfield 24, 3) := by decide +kernel
theorem dX9_init_22 : decode cX9_init 22 = .ok (.aload_n 0, 1) := by decide +kernel
theorem dX9_init_23 : decode cX9_init 23 = .ok (.sipush 1002, 3) := by decide +kernel
theorem dX9_init_26 : decode cX9_init 26 = .ok (.newarray .int, 2) := by decide +kernel
theorem dX9_init_28 : decode cX9_init 28 = .ok (.putfield 27, 3) := by decide +kernel
theorem dX9_init_31 : decode cX9_init 31 = .ok (.aload_n 0, 1) := by decide +kernel
theorem dX9_init_32 : decode cX9_init 32 = .ok (.sipush 1002, 3) := by decide +kernel
theorem dX9_init_35 : decode cX9_init 35 = .ok (.newarray .long, 2) := by decide +kernel
theorem dX9_init_37 : decode cX9_init 37 = .ok (.putfield 30, 3) := by decide +kernel
theorem dX9_init_40 : decode cX9_init 40 = .ok (.aload_n 0, 1) := by decide +kernel
theorem dX9_init_41 : decode cX9_init 41 = .ok (.iconst 4, 1) := by decide +kernel
theorem dX9_init_42 : decode cX9_init 42 = .ok (.newarray .long, 2) := by decide +kernel
theorem dX9_init_44 : decode cX9_init 44 = .ok (.dup, 1) := by decide +kernel
theorem dX9_init_45 : decode cX9_init 45 = .ok (.iconst 0, 1) := by decide +kernel
theorem dX9_init_46 : decode cX9_init 46 = .ok (.ldc2_w 34, 3) := by decide +kernel
theorem dX9_init_49 : decode cX9_init 49 = .ok (.lastore, 1) := by decide +kernel
theorem dX9_init_50 : decode cX9_init 50 = .ok (.dup, 1) := by decide +kernel
theorem dX9_init_51 : decode cX9_init 51 = .ok (.iconst 1, 1) := by decide +kernel
theorem dX9_init_52 : decode cX9_init 52 = .ok (.ldc2_w 36, 3) := by decide +kernel
theorem dX9_init_55 : decode cX9_init 55 = .ok (.lastore, 1) := by decide +kernel
theorem dX9_init_56 : decode cX9_init 56 = .ok (.dup, 1) := by decide +kernel
theorem dX9_init_57 : decode cX9_init 57 = .ok (.iconst 2, 1) := by decide +kernel
theorem dX9_init_58 : decode cX9_init 58 = .ok (.ldc2_w 38, 3) := by decide +kernel
theorem dX9_init_61 : decode cX9_init 61 = .ok (.lastore, 1) := by decide +kernel
theorem dX9_init_62 : decode cX9_init 62 = .ok (.dup, 1) := by decide +kernel
theorem dX9_init_63 : decode cX9_init 63 = .ok (.iconst 3, 1) := by decide +kernel
theorem dX9_init_64 : decode cX9_init 64 = .ok (.ldc2_w 40, 3) := by decide +kernel
theorem dX9_init_67 : decode cX9_init 67 = .ok (.lastore, 1) := by decide +kernel
theorem dX9_init_68 : decode cX9_init 68 = .ok (.putfield 42, 3) := by decide +kernel
theorem dX9_init_71 : decode cX9_init 71 = .ok (.aload_n 0, 1) := by decide +kernel
theorem dX9_init_72 : decode cX9_init 72 = .ok (.iconst 3, 1) := by decide +kernel
theorem dX9_init_73 : decode cX9_init 73 = .ok (.newarray .int, 2) := by decide +kernel
theorem dX9_init_75 : decode cX9_init 75 = .ok (.putfield 45, 3) := by decide +kernel
theorem dX9_init_78 : decode cX9_init 78 = .ok (.aload_n 0, 1) := by decide +kernel
theorem dX9_init_79 : decode cX9_init 79 = .ok (.bipush 12, 2) := by decide +kernel
theorem dX9_init_81 : decode cX9_init 81 = .ok (.newarray .long, 2) := by decide +kernel
theorem dX9_init_83 : decode cX9_init 83 = .ok (.putfield 48, 3) := by decide +kernel
theorem dX9_init_86 : decode cX9_init 86 = .ok (.aload_n 0, 1) := by decide +kernel
theorem dX9_init_87 : decode cX9_init 87 = .ok (.iconst 3, 1) := by decide +kernel
theorem dX9_init_88 : decode cX9_init 88 = .ok (.newarray .int, 2) := by decide +kernel
theorem dX9_init_90 : decode cX9_init 90 = .ok (.putfield 51, 3) := by decide +kernel
theorem dX9_init_93 : decode cX9_init 93 = .ok (.aload_n 0, 1) := by decide +kernel
theorem dX9_init_94 : decode cX9_init 94 = .ok (.bipush 72, 2) := by decide +kernel
theorem dX9_init_96 : decode cX9_init 96 = .ok (.newarray .int, 2) := by decide +kernel
theorem dX9_init_98 : decode cX9_init 98 = .ok (.putfield 54, 3) := by decide +kernel
theorem dX9_init_101 : decode cX9_init 101 = .ok (.aload_n 0, 1) := by decide +kernel
theorem dX9_init_102 : decode cX9_init 102 = .ok (.bipush 72, 2) := by decide +kernel
theorem dX9_init_104 : decode cX9_init 104 = .ok (.newarray .int, 2) := by decide +kernel
theorem dX9_init_106 : decode cX9_init 106 = .ok (.putfield 57, 3) := by decide +kernel
theorem dX9_init_109 : decode cX9_init 109 = .ok (.aload_n 0, 1) := by decide +kernel
theorem dX9_init_110 : decode cX9_init 110 = .ok (.bipush 72, 2) := by decide +kernel
theorem dX9_init_112 : decode cX9_init 112 = .ok (.newarray .int, 2) := by decide +kernel
theorem dX9_init_114 : decode cX9_init 114 = .ok (.putfield 60, 3) := by decide +kernel
theorem dX9_init_117 : decode cX9_init 117 = .ok (.aload_n 0, 1) := by decide +kernel
theorem dX9_init_118 : decode cX9_init 118 = .ok (.bipush 72, 2) := by decide +kernel
theorem dX9_init_120 : decode cX9_init 120 = .ok (.newarray .int, 2) := by decide +kernel
theorem dX9_init_122 : decode cX9_init 122 = .ok (.putfield 63, 3) := by decide +kernel
theorem dX9_init_125 : decode cX9_init 125 = .ok (.aload_n 0, 1) := by decide +kernel
theorem dX9_init_126 : decode cX9_init 126 = .ok (.bipush 72, 2) := by decide +kernel
theorem dX9_init_128 : decode cX9_init 128 = .ok (.newarray .boolean, 2) := by decide +kernel
theorem dX9_init_130 : decode cX9_init 130 = .ok (.putfield 66, 3) := by decide +kernel
theorem dX9_init_133 : decode cX9_init 133 = .ok (.aload_n 0, 1) := by decide +kernel
theorem dX9_init_134 : decode cX9_init 134 = .ok (.sipush 300, 3) := by decide +kernel
theorem dX9_init_137 : decode cX9_init 137 = .ok (.newarray .boolean, 2) := by decide +kernel
end
section
theorem dX9_init_139 : decode cX9_init 139 = .ok (.putfield 70, 3) := by decide +kernel
theorem dX9_init_142 : decode cX9_init 142 = .ok (.aload_n 0, 1) := by decide +kernel
theorem dX9_init_143 : decode cX9_init 143 = .ok (.ldc 73, 2) := by decide +kernel
theorem dX9_init_145 : decode cX9_init 145 = .ok (.newarray .int, 2) := by decide +kernel
theorem dX9_init_147 : decode cX9_init 147 = .ok (.putfield 74, 3) := by decide +kernel
theorem dX9_init_150 : decode cX9_init 150 = .ok (.aload_n 0, 1) := by decide +kernel
theorem dX9_init_151 : decode cX9_init 151 = .ok (.sipush 300, 3) := by decide +kernel
theorem dX9_init_154 : decode cX9_init 154 = .ok (.newarray .boolean, 2) := by decide +kernel
theorem dX9_init_156 : decode cX9_init 156 = .ok (.putfield 77, 3) := by decide +kernel
theorem dX9_init_159 : decode cX9_init 159 = .ok (.aload_n 0, 1) := by decide +kernel
theorem dX9_init_160 : decode cX9_init 160 = .ok (.sipush 300, 3) := by decide +kernel
theorem dX9_init_163 : decode cX9_init 163 = .ok (.newarray .int, 2) := by decide +kernel
theorem dX9_init_165 : decode cX9_init 165 = .ok (.putfield 80, 3) := by decide +kernel
theorem dX9_init_168 : decode cX9_init 168 = .ok (.aload_n 0, 1) := by decide +kernel
theorem dX9_init_169 : decode cX9_init 169 = .ok (.ldc 73, 2) := by decide +kernel
theorem dX9_init_171 : decode cX9_init 171 = .ok (.newarray .int, 2) := by decide +kernel
theorem dX9_init_173 : decode cX9_init 173 = .ok (.putfield 83, 3) := by decide +kernel
theorem dX9_init_176 : decode cX9_init 176 = .ok (.aload_n 0, 1) := by decide +kernel
theorem dX9_init_177 : decode cX9_init 177 = .ok (.sipush 300, 3) := by decide +kernel
theorem dX9_init_180 : decode cX9_init 180 = .ok (.newarray .int, 2) := by decide +kernel
theorem dX9_init_182 : decode cX9_init 182 = .ok (.putfield 86, 3) := by decide +kernel
theorem dX9_init_185 : decode cX9_init 185 = .ok (.aload_n 0, 1) := by decide +kernel
theorem dX9_init_186 : decode cX9_init 186 = .ok (.sipush 300, 3) := by decide +kernel
theorem dX9_init_189 : decode cX9_init 189 = .ok (.newarray .int, 2) := by decide +kernel
theorem dX9_init_191 : decode cX9_init 191 = .ok (.putfield 89, 3) := by decide +kernel
theorem dX9_init_194 : decode cX9_init 194 = .ok (.aload_n 0, 1) := by decide +kernel
theorem dX9_init_195 : decode cX9_init 195 = .ok (.sipush 300, 3) := by decide +kernel
theorem dX9_init_198 : decode cX9_init 198 = .ok (.newarray .int, 2) := by decide +kernel
theorem dX9_init_200 : decode cX9_init 200 = .ok (.putfield 92, 3) := by decide +kernel
theorem dX9_init_203 : decode cX9_init 203 = .ok (.aload_n 0, 1) := by decide +kernel
theorem dX9_init_204 : decode cX9_init 204 = .ok (.sipush 300, 3) := by decide +kernel
theorem dX9_init_207 : decode cX9_init 207 = .ok (.newarray .int, 2) := by decide +kernel
theorem dX9_init_209 : decode cX9_init 209 = .ok (.putfield 95, 3) := by decide +kernel
theorem dX9_init_212 : decode cX9_init 212 = .ok (.aload_n 0, 1) := by decide +kernel
theorem dX9_init_213 : decode cX9_init 213 = .ok (.sipush 300, 3) := by decide +kernel
theorem dX9_init_216 : decode cX9_init 216 = .ok (.newarray .boolean, 2) := by decide +kernel
theorem dX9_init_218 : decode cX9_init 218 = .ok (.putfield 98, 3) := by decide +kernel
theorem dX9_init_221 : decode cX9_init 221 = .ok (.aload_n 0, 1) := by decide +kernel
theorem dX9_init_222 : decode cX9_init 222 = .ok (.sipush 300, 3) := by decide +kernel
theorem dX9_init_225 : decode cX9_init 225 = .ok (.newarray .boolean, 2) := by decide +kernel
theorem dX9_init_227 : decode cX9_init 227 = .ok (.putfield 101, 3) := by decide +kernel
theorem dX9_init_230 : decode cX9_init 230 = .ok (.aload_n 0, 1) := by decide +kernel
theorem dX9_init_231 : decode cX9_init 231 = .ok (.sipush 300, 3) := by decide +kernel
theorem dX9_init_234 : decode cX9_init 234 = .ok (.newarray .boolean, 2) := by decide +kernel
theorem dX9_init_236 : decode cX9_init 236 = .ok (.putfield 104, 3) := by decide +kernel
theorem dX9_init_239 : decode cX9_init 239 = .ok (.aload_n 0, 1) := by decide +kernel
theorem dX9_init_240 : decode cX9_init 240 = .ok (.sipush 300, 3) := by decide +kernel
theorem dX9_init_243 : decode cX9_init 243 = .ok (.newarray .boolean, 2) := by decide +kernel
theorem dX9_init_245 : decode cX9_init 245 = .ok (.putfield 107, 3) := by decide +kernel
theorem dX9_init_248 : decode cX9_init 248 = .ok (.aload_n 0, 1) := by decide +kernel
theorem dX9_init_249 : decode cX9_init 249 = .ok (.bipush 100, 2) := by decide +kernel
theorem dX9_init_251 : decode cX9_init 251 = .ok (.putfield 110, 3) := by decide +kernel
theorem dX9_init_254 : decode cX9_init 254 = .ok (.aload_n 0, 1) := by decide +kernel
theorem dX9_init_255 : decode cX9_init 255 = .ok (.sipush 400, 3) := by decide +kernel
theorem dX9_init_258 : decode cX9_init 258 = .ok (.putfield 113, 3) := by decide +kernel
theorem dX9_init_261 : decode cX9_init 261 = .ok (.aload_n 0, 1) := by decide +kernel
theorem dX9_init_262 : decode cX9_init 262 = .ok (.bipush 8, 2) := by decide +kernel
theorem dX9_init_264 : decode cX9_init 264 = .ok (.putfield 116, 3) := by decide +kernel
theorem dX9_init_267 : decode cX9_init 267 = .ok (.return_, 1) := by decide +kernel
theorem dX9_isLetter_0 : decode cX9_isLetter 0 = .ok (.iload_n 0, 1) := by decide +kernel
theorem dX9_isLetter_1 : decode cX9_isLetter 1 = .ok (.bipush 97, 2) := by decide +kernel
theorem dX9_isLetter_3 : decode cX9_isLetter 3 = .ok (.if_icmp .lt 13, 3) := by decide +kernel
theorem dX9_isLetter_6 : decode cX9_isLetter 6 = .ok (.iload_n 0, 1) := by decide +kernel
theorem dX9_isLetter_7 : decode cX9_isLetter 7 = .ok (.bipush 122, 2) := by decide +kernel
theorem dX9_isLetter_9 : decode cX9_isLetter 9 = .ok (.if_icmp .gt 7, 3) := by decide +kernel
theorem dX9_isLetter_12 : decode cX9_isLetter 12 = .ok (.iconst 1, 1) := by decide +kernel
theorem dX9_isLetter_13 : decode cX9_isLetter 13 = .ok (.goto 4, 3) := by decide +kernel
theorem dX9_isLetter_16 : decode cX9_isLetter 16 = .ok (.iconst 0, 1) := by decide +kernel
theorem dX9_isLetter_17 : decode cX9_isLetter 17 = .ok (.ireturn, 1) := by decide +kernel
theorem dX9_isDigit_0 : decode cX9_isDigit 0 = .ok (.iload_n 0, 1) := by decide +kernel
theorem dX9_isDigit_1 : decode cX9_isDigit 1 = .ok (.bipush 48, 2) := by decide +kernel
theorem dX9_isDigit_3 : decode cX9_isDigit 3 = .ok (.if_icmp .lt 13, 3) := by decide +kernel
theorem dX9_isDigit_6 : decode cX9_isDigit 6 = .ok (.iload_n 0, 1) := by decide +kernel
theorem dX9_isDigit_7 : decode cX9_isDigit 7 = .ok (.bipush 57, 2) := by decide +kernel
theorem dX9_isDigit_9 : decode cX9_isDigit 9 = .ok (.if_icmp .gt 7, 3) := by decide +kernel
theorem dX9_isDigit_12 : decode cX9_isDigit 12 = .ok (.iconst 1, 1) := by decide +kernel
theorem dX9_isDigit_13 : decode cX9_isDigit 13 = .ok (.goto 4, 3) := by decide +kernel
theorem dX9_isDigit_16 : decode cX9_isDigit 16 = .ok (.iconst 0, 1) := by decide +kernel
theorem dX9_isDigit_17 : decode cX9_isDigit 17 = .ok (.ireturn, 1) := by decide +kernel
theorem dX9_rank_0 : decode cX9_rank 0 = .ok (.iload_n 0, 1) := by decide +kernel
theorem dX9_rank_1 : decode cX9_rank 1 = .ok (.invokestatic 119, 3) := by decide +kernel
theorem dX9_rank_4 : decode cX9_rank 4 = .ok (.ifCond .eq 10, 3) := by decide +kernel
theorem dX9_rank_7 : decode cX9_rank 7 = .ok (.iload_n 0, 1) := by decide +kernel
theorem dX9_rank_8 : decode cX9_rank 8 = .ok (.bipush 96, 2) := by decide +kernel
theorem dX9_rank_10 : decode cX9_rank 10 = .ok (.isub, 1) := by decide +kernel
theorem dX9_rank_11 : decode cX9_rank 11 = .ok (.goto 7, 3) := by decide +kernel
theorem dX9_rank_14 : decode cX9_rank 14 = .ok (.iload_n 0, 1) := by decide +kernel
theorem dX9_rank_15 : decode cX9_rank 15 = .ok (.bipush 21, 2) := by decide +kernel
theorem dX9_rank_17 : decode cX9_rank 17 = .ok (.isub, 1) := by decide +kernel
theorem dX9_rank_18 : decode cX9_rank 18 = .ok (.ireturn, 1) := by decide +kernel
theorem dX9_isSignOf_0 : decode cX9_isSignOf 0 = .ok (.iload_n 0, 1) := by decide +kernel
theorem dX9_isSignOf_1 : decode cX9_isSignOf 1 = .ok (.bipush 59, 2) := by decide +kernel
theorem dX9_isSignOf_3 : decode cX9_isSignOf 3 = .ok (.if_icmp .eq 15, 3) := by decide +kernel
theorem dX9_isSignOf_6 : decode cX9_isSignOf 6 = .ok (.iload_n 0, 1) := by decide +kernel
theorem dX9_isSignOf_7 : decode cX9_isSignOf 7 = .ok (.bipush 43, 2) := by decide +kernel
theorem dX9_isSignOf_9 : decode cX9_isSignOf 9 = .ok (.if_icmp .eq 9, 3) := by decide +kernel
theorem dX9_isSignOf_12 : decode cX9_isSignOf 12 = .ok (.iload_n 0, 1) := by decide +kernel
theorem dX9_isSignOf_13 : decode cX9_isSignOf 13 = .ok (.bipush 45, 2) := by decide +kernel
theorem dX9_isSignOf_15 : decode cX9_isSignOf 15 = .ok (.if_icmp .ne 7, 3) := by decide +kernel
theorem dX9_isSignOf_18 : decode cX9_isSignOf 18 = .ok (.iconst 1, 1) := by decide +kernel
theorem dX9_isSignOf_19 : decode cX9_isSignOf 19 = .ok (.goto 4, 3) := by decide +kernel
theorem dX9_isSignOf_22 : decode cX9_isSignOf 22 = .ok (.iconst 0, 1) := by decide +kernel
theorem dX9_isSignOf_23 : decode cX9_isSignOf 23 = .ok (.ireturn, 1) := by decide +kernel
theorem dX9_cutAll_0 : decode cX9_cutAll 0 = .ok (.aload_n 0, 1) := by decide +kernel
theorem dX9_cutAll_1 : decode cX9_cutAll 1 = .ok (.aload_n 0, 1) := by decide +kernel
theorem dX9_cutAll_2 : decode cX9_cutAll 2 = .ok (.getfield 11, 3) := by decide +kernel
theorem dX9_cutAll_5 : decode cX9_cutAll 5 = .ok (.putfield 123, 3) := by decide +kernel
theorem dX9_cutAll_8 : decode cX9_cutAll 8 = .ok (.aload_n 0, 1) := by decide +kernel
theorem dX9_cutAll_9 : decode cX9_cutAll 9 = .ok (.iconst 0, 1) := by decide +kernel
theorem dX9_cutAll_10 : decode cX9_cutAll 10 = .ok (.putfield 11, 3) := by decide +kernel
theorem dX9_cutAll_13 : decode cX9_cutAll 13 = .ok (.iconst 0, 1) := by decide +kernel
theorem dX9_cutAll_14 : decode cX9_cutAll 14 = .ok (.istore_n 1, 1) := by decide +kernel
theorem dX9_cutAll_15 : decode cX9_cutAll 15 = .ok (.iconst 0, 1) := by decide +kernel
theorem dX9_cutAll_16 : decode cX9_cutAll 16 = .ok (.istore_n 2, 1) := by decide +kernel
theorem dX9_cutAll_17 : decode cX9_cutAll 17 = .ok (.iload_n 2, 1) := by decide +kernel
theorem dX9_cutAll_18 : decode cX9_cutAll 18 = .ok (.aload_n 0, 1) := by decide +kernel
theorem dX9_cutAll_19 : decode cX9_cutAll 19 = .ok (.getfield 123, 3) := by decide +kernel
theorem dX9_cutAll_22 : decode cX9_cutAll 22 = .ok (.if_icmp .ge 257, 3) := by decide +kernel
theorem dX9_cutAll_25 : decode cX9_cutAll 25 = .ok (.aload_n 0, 1) := by decide +kernel
theorem dX9_cutAll_26 : decode cX9_cutAll 26 = .ok (.getfield 14, 3) := by decide +kernel
theorem dX9_cutAll_29 : decode cX9_cutAll 29 = .ok (.iload_n 2, 1) := by decide +kernel
theorem dX9_cutAll_30 : decode cX9_cutAll 30 = .ok (.iaload, 1) := by decide +kernel
theorem dX9_cutAll_31 : decode cX9_cutAll 31 = .ok (.istore_n 3, 1) := by decide +kernel
theorem dX9_cutAll_32 : decode cX9_cutAll 32 = .ok (.iload_n 3, 1) := by decide +kernel
theorem dX9_cutAll_33 : decode cX9_cutAll 33 = .ok (.bipush 10, 2) := by decide +kernel
theorem dX9_cutAll_35 : decode cX9_cutAll 35 = .ok (.if_icmp .eq 9, 3) := by decide +kernel
theorem dX9_cutAll_38 : decode cX9_cutAll 38 = .ok (.iload_n 3, 1) := by decide +kernel
theorem dX9_cutAll_39 : decode cX9_cutAll 39 = .ok (.bipush 32, 2) := by decide +kernel
theorem dX9_cutAll_41 : decode cX9_cutAll 41 = .ok (.if_icmp .ne 9, 3) := by decide +kernel
theorem dX9_cutAll_44 : decode cX9_cutAll 44 = .ok (.iinc 2 1, 3) := by decide +kernel
theorem dX9_cutAll_47 : decode cX9_cutAll 47 = .ok (.goto (-30), 3) := by decide +kernel
theorem dX9_cutAll_50 : decode cX9_cutAll 50 = .ok (.iload_n 2, 1) := by decide +kernel
theorem dX9_cutAll_51 : decode cX9_cutAll 51 = .ok (.istore 4, 2) := by decide +kernel
theorem dX9_cutAll_53 : decode cX9_cutAll 53 = .ok (.lconst 0, 1) := by decide +kernel
theorem dX9_cutAll_54 : decode cX9_cutAll 54 = .ok (.lstore 5, 2) := by decide +kernel
theorem dX9_cutAll_56 : decode cX9_cutAll 56 = .ok (.aload_n 0, 1) := by decide +kernel
theorem dX9_cutAll_57 : decode cX9_cutAll 57 = .ok (.getfield 27, 3) := by decide +kernel
theorem dX9_cutAll_60 : decode cX9_cutAll 60 = .ok (.iload_n 1, 1) := by decide +kernel
theorem dX9_cutAll_61 : decode cX9_cutAll 61 = .ok (.iload_n 2, 1) := by decide +kernel
theorem dX9_cutAll_62 : decode cX9_cutAll 62 = .ok (.iastore, 1) := by decide +kernel
theorem dX9_cutAll_63 : decode cX9_cutAll 63 = .ok (.iload_n 3, 1) := by decide +kernel
theorem dX9_cutAll_64 : decode cX9_cutAll 64 = .ok (.invokestatic 119, 3) := by decide +kernel
theorem dX9_cutAll_67 : decode cX9_cutAll 67 = .ok (.ifCond .eq 85, 3) := by decide +kernel
theorem dX9_cutAll_70 : decode cX9_cutAll 70 = .ok (.iload_n 2, 1) := by decide +kernel
theorem dX9_cutAll_71 : decode cX9_cutAll 71 = .ok (.aload_n 0, 1) := by decide +kernel
theorem dX9_cutAll_72 : decode cX9_cutAll 72 = .ok (.getfield 123, 3) := by decide +kernel
theorem dX9_cutAll_75 : decode cX9_cutAll 75 = .ok (.if_icmp .ge 54, 3) := by decide +kernel
theorem dX9_cutAll_78 : decode cX9_cutAll 78 = .ok (.aload_n 0, 1) := by decide +kernel
theorem dX9_cutAll_79 : decode cX9_cutAll 79 = .ok (.getfield 14, 3) := by decide +kernel
theorem dX9_cutAll_82 : decode cX9_cutAll 82 = .ok (.iload_n 2, 1) := by decide +kernel
theorem dX9_cutAll_83 : decode cX9_cutAll 83 = .ok (.iaload, 1) := by decide +kernel
theorem dX9_cutAll_84 : decode cX9_cutAll 84 = .ok (.invokestatic 119, 3) := by decide +kernel
theorem dX9_cutAll_87 : decode cX9_cutAll 87 = .ok (.ifCond .eq 42, 3) := by decide +kernel
theorem dX9_cutAll_90 : decode cX9_cutAll 90 = .ok (.iload_n 2, 1) := by decide +kernel
theorem dX9_cutAll_91 : decode cX9_cutAll 91 = .ok (.iload 4, 2) := by decide +kernel
theorem dX9_cutAll_93 : decode cX9_cutAll 93 = .ok (.isub, 1) := by decide +kernel
theorem dX9_cutAll_94 : decode cX9_cutAll 94 = .ok (.bipush 8, 2) := by decide +kernel
theorem dX9_cutAll_96 : decode cX9_cutAll 96 = .ok (.if_icmp .ge 23, 3) := by decide +kernel
theorem dX9_cutAll_99 : decode cX9_cutAll 99 = .ok (.ldc2_w 126, 3) := by decide +kernel
theorem dX9_cutAll_102 : decode cX9_cutAll 102 = .ok (.lload 5, 2) := by decide +kernel
theorem dX9_cutAll_104 : decode cX9_cutAll 104 = .ok (.lmul, 1) := by decide +kernel
theorem dX9_cutAll_105 : decode cX9_cutAll 105 = .ok (.aload_n 0, 1) := by decide +kernel
theorem dX9_cutAll_106 : decode cX9_cutAll 106 = .ok (.getfield 14, 3) := by decide +kernel
theorem dX9_cutAll_109 : decode cX9_cutAll 109 = .ok (.iload_n 2, 1) := by decide +kernel
theorem dX9_cutAll_110 : decode cX9_cutAll 110 = .ok (.iaload, 1) := by decide +kernel
theorem dX9_cutAll_111 : decode cX9_cutAll 111 = .ok (.invokestatic 128, 3) := by decide +kernel
theorem dX9_cutAll_114 : decode cX9_cutAll 114 = .ok (.i2l, 1) := by decide +kernel
theorem dX9_cutAll_115 : decode cX9_cutAll 115 = .ok (.ladd, 1) := by decide +kernel
theorem dX9_cutAll_116 : decode cX9_cutAll 116 = .ok (.goto 5, 3) := by decide +kernel
theorem dX9_cutAll_119 : decode cX9_cutAll 119 = .ok (.lload 5, 2) := by decide +kernel
theorem dX9_cutAll_121 : decode cX9_cutAll 121 = .ok (.lstore 5, 2) := by decide +kernel
theorem dX9_cutAll_123 : decode cX9_cutAll 123 = .ok (.iinc 2 1, 3) := by decide +kernel
theorem dX9_cutAll_126 : decode cX9_cutAll 126 = .ok (.goto (-56), 3) := by decide +kernel
theorem dX9_cutAll_129 : decode cX9_cutAll 129 = .ok (.aload_n 0, 1) := by decide +kernel
theorem dX9_cutAll_130 : decode cX9_cutAll 130 = .ok (.getfield 24, 3) := by decide +kernel
theorem dX9_cutAll_133 : decode cX9_cutAll 133 = .ok (.iload_n 1, 1) := by decide +kernel
theorem dX9_cutAll_134 : decode cX9_cutAll 134 = .ok (.iload_n 2, 1) := by decide +kernel
theorem dX9_cutAll_135 : decode cX9_cutAll 135 = .ok (.iload 4, 2) := by decide +kernel
theorem dX9_cutAll_137 : decode cX9_cutAll 137 = .ok (.isub, 1) := by decide +kernel
theorem dX9_cutAll_138 : decode cX9_cutAll 138 = .ok (.bipush 8, 2) := by decide +kernel
theorem dX9_cutAll_140 : decode cX9_cutAll 140 = .ok (.if_icmp .le 7, 3) := by decide +kernel
theorem dX9_cutAll_143 : decode cX9_cutAll 143 = .ok (.iconst 4, 1) := by decide +kernel
theorem dX9_cutAll_144 : decode cX9_cutAll 144 = .ok (.goto 4, 3) := by decide +kernel
theorem dX9_cutAll_147 : decode cX9_cutAll 147 = .ok (.iconst 1, 1) := by decide +kernel
theorem dX9_cutAll_148 : decode cX9_cutAll 148 = .ok (.iastore, 1) := by decide +kernel
theorem dX9_cutAll_149 : decode cX9_cutAll 149 = .ok (.goto 116, 3) := by decide +kernel
theorem dX9_cutAll_152 : decode cX9_cutAll 152 = .ok (.iload_n 3, 1) := by decide +kernel
theorem dX9_cutAll_153 : decode cX9_cutAll 153 = .ok (.invokestatic 132, 3) := by decide +kernel
theorem dX9_cutAll_156 : decode cX9_cutAll 156 = .ok (.ifCond .eq 84, 3) := by decide +kernel
theorem dX9_cutAll_159 : decode cX9_cutAll 159 = .ok (.iload_n 2, 1) := by decide +kernel
theorem dX9_cutAll_160 : decode cX9_cutAll 160 = .ok (.aload_n 0, 1) := by decide +kernel
theorem dX9_cutAll_161 : decode cX9_cutAll 161 = .ok (.getfield 123, 3) := by decide +kernel
theorem dX9_cutAll_164 : decode cX9_cutAll 164 = .ok (.if_icmp .ge 54, 3) := by decide +kernel
theorem dX9_cutAll_167 : decode cX9_cutAll 167 = .ok (.aload_n 0, 1) := by decide +kernel
theorem dX9_cutAll_168 : decode cX9_cutAll 168 = .ok (.getfield 14, 3) := by decide +kernel
theorem dX9_cutAll_171 : decode cX9_cutAll 171 = .ok (.iload_n 2, 1) := by decide +kernel
theorem dX9_cutAll_172 : decode cX9_cutAll 172 = .ok (.iaload, 1) := by decide +kernel
theorem dX9_cutAll_173 : decode cX9_cutAll 173 = .ok (.invokestatic 132, 3) := by decide +kernel
theorem dX9_cutAll_176 : decode cX9_cutAll 176 = .ok (.ifCond .eq 42, 3) := by decide +kernel
theorem dX9_cutAll_179 : decode cX9_cutAll 179 = .ok (.iload_n 2, 1) := by decide +kernel
theorem dX9_cutAll_180 : decode cX9_cutAll 180 = .ok (.iload 4, 2) := by decide +kernel
theorem dX9_cutAll_182 : decode cX9_cutAll 182 = .ok (.isub, 1) := by decide +kernel
theorem dX9_cutAll_183 : decode cX9_cutAll 183 = .ok (.iconst 4, 1) := by decide +kernel
theorem dX9_cutAll_184 : decode cX9_cutAll 184 = .ok (.if_icmp .ge 24, 3) := by decide +kernel
theorem dX9_cutAll_187 : decode cX9_cutAll 187 = .ok (.ldc2_w 135, 3) := by decide +kernel
theorem dX9_cutAll_190 : decode cX9_cutAll 190 = .ok (.lload 5, 2) := by decide +kernel
theorem dX9_cutAll_192 : decode cX9_cutAll 192 = .ok (.lmul, 1) := by decide +kernel
theorem dX9_cutAll_193 : decode cX9_cutAll 193 = .ok (.aload_n 0, 1) := by decide +kernel
theorem dX9_cutAll_194 : decode cX9_cutAll 194 = .ok (.getfield 14, 3) := by decide +kernel
theorem dX9_cutAll_197 : decode cX9_cutAll 197 = .ok (.iload_n 2, 1) := by decide +kernel
theorem dX9_cutAll_198 : decode cX9_cutAll 198 = .ok (.iaload, 1) := by decide +kernel
theorem dX9_cutAll_199 : decode cX9_cutAll 199 = .ok (.i2l, 1) := by decide +kernel
theorem dX9_cutAll_200 : decode cX9_cutAll 200 = .ok (.ladd, 1) := by decide +kernel
theorem dX9_cutAll_201 : decode cX9_cutAll 201 = .ok (.ldc2_w 137, 3) := by decide +kernel
theorem dX9_cutAll_204 : decode cX9_cutAll 204 = .ok (.lsub, 1) := by decide +kernel
theorem dX9_cutAll_205 : decode cX9_cutAll 205 = .ok (.goto 5, 3) := by decide +kernel
theorem dX9_cutAll_208 : decode cX9_cutAll 208 = .ok (.lload 5, 2) := by decide +kernel
theorem dX9_cutAll_210 : decode cX9_cutAll 210 = .ok (.lstore 5, 2) := by decide +kernel
theorem dX9_cutAll_212 : decode cX9_cutAll 212 = .ok (.iinc 2 1, 3) := by decide +kernel
theorem dX9_cutAll_215 : decode cX9_cutAll 215 = .ok (.goto (-56), 3) := by decide +kernel
theorem dX9_cutAll_218 : decode cX9_cutAll 218 = .ok (.aload_n 0, 1) := by decide +kernel
theorem dX9_cutAll_219 : decode cX9_cutAll 219 = .ok (.getfield 24, 3) := by decide +kernel
theorem dX9_cutAll_222 : decode cX9_cutAll 222 = .ok (.iload_n 1, 1) := by decide +kernel
theorem dX9_cutAll_223 : decode cX9_cutAll 223 = .ok (.iload_n 2, 1) := by decide +kernel
theorem dX9_cutAll_224 : decode cX9_cutAll 224 = .ok (.iload 4, 2) := by decide +kernel
theorem dX9_cutAll_226 : decode cX9_cutAll 226 = .ok (.isub, 1) := by decide +kernel
theorem dX9_cutAll_227 : decode cX9_cutAll 227 = .ok (.iconst 4, 1) := by decide +kernel
theorem dX9_cutAll_228 : decode cX9_cutAll 228 = .ok (.if_icmp .le 7, 3) := by decide +kernel
theorem dX9_cutAll_231 : decode cX9_cutAll 231 = .ok (.iconst 4, 1) := by decide +kernel
theorem dX9_cutAll_232 : decode cX9_cutAll 232 = .ok (.goto 4, 3) := by decide +kernel
theorem dX9_cutAll_235 : decode cX9_cutAll 235 = .ok (.iconst 2, 1) := by decide +kernel
theorem dX9_cutAll_236 : decode cX9_cutAll 236 = .ok (.iastore, 1) := by decide +kernel
theorem dX9_cutAll_237 : decode cX9_cutAll 237 = .ok (.goto 28, 3) := by decide +kernel
theorem dX9_cutAll_240 : decode cX9_cutAll 240 = .ok (.iload_n 3, 1) := by decide +kernel
theorem dX9_cutAll_241 : decode cX9_cutAll 241 = .ok (.i2l, 1) := by decide +kernel
theorem dX9_cutAll_242 : decode cX9_cutAll 242 = .ok (.lstore 5, 2) := by decide +kernel
theorem dX9_cutAll_244 : decode cX9_cutAll 244 = .ok (.aload_n 0, 1) := by decide +kernel
theorem dX9_cutAll_245 : decode cX9_cutAll 245 = .ok (.getfield 24, 3) := by decide +kernel
theorem dX9_cutAll_248 : decode cX9_cutAll 248 = .ok (.iload_n 1, 1) := by decide +kernel
theorem dX9_cutAll_249 : decode cX9_cutAll 249 = .ok (.iload_n 3, 1) := by decide +kernel
theorem dX9_cutAll_250 : decode cX9_cutAll 250 = .ok (.invokestatic 139, 3) := by decide +kernel
theorem dX9_cutAll_253 : decode cX9_cutAll 253 = .ok (.ifCond .eq 7, 3) := by decide +kernel
theorem dX9_cutAll_256 : decode cX9_cutAll 256 = .ok (.iconst 3, 1) := by decide +kernel
theorem dX9_cutAll_257 : decode cX9_cutAll 257 = .ok (.goto 4, 3) := by decide +kernel
theorem dX9_cutAll_260 : decode cX9_cutAll 260 = .ok (.iconst 4, 1) := by decide +kernel
theorem dX9_cutAll_261 : decode cX9_cutAll 261 = .ok (.iastore, 1) := by decide +kernel
theorem dX9_cutAll_262 : decode cX9_cutAll 262 = .ok (.iinc 2 1, 3) := by decide +kernel
theorem dX9_cutAll_265 : decode cX9_cutAll 265 = .ok (.aload_n 0, 1) := by decide +kernel
theorem dX9_cutAll_266 : decode cX9_cutAll 266 = .ok (.getfield 30, 3) := by decide +kernel
theorem dX9_cutAll_269 : decode cX9_cutAll 269 = .ok (.iload_n 1, 1) := by decide +kernel
theorem dX9_cutAll_270 : decode cX9_cutAll 270 = .ok (.lload 5, 2) := by decide +kernel
theorem dX9_cutAll_272 : decode cX9_cutAll 272 = .ok (.lastore, 1) := by decide +kernel
theorem dX9_cutAll_273 : decode cX9_cutAll 273 = .ok (.iinc 1 1, 3) := by decide +kernel
theorem dX9_cutAll_276 : decode cX9_cutAll 276 = .ok (.goto (-259), 3) := by decide +kernel
theorem dX9_cutAll_279 : decode cX9_cutAll 279 = .ok (.aload_n 0, 1) := by decide +kernel
theorem dX9_cutAll_280 : decode cX9_cutAll 280 = .ok (.getfield 24, 3) := by decide +kernel
theorem dX9_cutAll_283 : decode cX9_cutAll 283 = .ok (.iload_n 1, 1) := by decide +kernel
theorem dX9_cutAll_284 : decode cX9_cutAll 284 = .ok (.iconst 0, 1) := by decide +kernel
theorem dX9_cutAll_285 : decode cX9_cutAll 285 = .ok (.iastore, 1) := by decide +kernel
theorem dX9_cutAll_286 : decode cX9_cutAll 286 = .ok (.aload_n 0, 1) := by decide +kernel
theorem dX9_cutAll_287 : decode cX9_cutAll 287 = .ok (.getfield 27, 3) := by decide +kernel
theorem dX9_cutAll_290 : decode cX9_cutAll 290 = .ok (.iload_n 1, 1) := by decide +kernel
theorem dX9_cutAll_291 : decode cX9_cutAll 291 = .ok (.aload_n 0, 1) := by decide +kernel
theorem dX9_cutAll_292 : decode cX9_cutAll 292 = .ok (.getfield 123, 3) := by decide +kernel
theorem dX9_cutAll_295 : decode cX9_cutAll 295 = .ok (.iastore, 1) := by decide +kernel
theorem dX9_cutAll_296 : decode cX9_cutAll 296 = .ok (.aload_n 0, 1) := by decide +kernel
theorem dX9_cutAll_297 : decode cX9_cutAll 297 = .ok (.iconst 0, 1) := by decide +kernel
theorem dX9_cutAll_298 : decode cX9_cutAll 298 = .ok (.putfield 142, 3) := by decide +kernel
theorem dX9_cutAll_301 : decode cX9_cutAll 301 = .ok (.aload_n 0, 1) := by decide +kernel
theorem dX9_cutAll_302 : decode cX9_cutAll 302 = .ok (.iconst 0, 1) := by decide +kernel
theorem dX9_cutAll_303 : decode cX9_cutAll 303 = .ok (.putfield 145, 3) := by decide +kernel
theorem dX9_cutAll_306 : decode cX9_cutAll 306 = .ok (.return_, 1) := by decide +kernel
theorem dX9_wrong_0 : decode cX9_wrong 0 = .ok (.aload_n 0, 1) := by decide +kernel
theorem dX9_wrong_1 : decode cX9_wrong 1 = .ok (.getfield 145, 3) := by decide +kernel
theorem dX9_wrong_4 : decode cX9_wrong 4 = .ok (.ifCond .ne 21, 3) := by decide +kernel
theorem dX9_wrong_7 : decode cX9_wrong 7 = .ok (.aload_n 0, 1) := by decide +kernel
theorem dX9_wrong_8 : decode cX9_wrong 8 = .ok (.iload_n 1, 1) := by decide +kernel
theorem dX9_wrong_9 : decode cX9_wrong 9 = .ok (.bipush 16, 2) := by decide +kernel
theorem dX9_wrong_11 : decode cX9_wrong 11 = .ok (.aload_n 0, 1) := by decide +kernel
theorem dX9_wrong_12 : decode cX9_wrong 12 = .ok (.getfield 27, 3) := by decide +kernel
theorem dX9_wrong_15 : decode cX9_wrong 15 = .ok (.aload_n 0, 1) := by decide +kernel
theorem dX9_wrong_16 : decode cX9_wrong 16 = .ok (.getfield 142, 3) := by decide +kernel
theorem dX9_wrong_19 : decode cX9_wrong 19 = .ok (.iaload, 1) := by decide +kernel
theorem dX9_wrong_20 : decode cX9_wrong 20 = .ok (.imul, 1) := by decide +kernel
theorem dX9_wrong_21 : decode cX9_wrong 21 = .ok (.iadd, 1) := by decide +kernel
theorem dX9_wrong_22 : decode cX9_wrong 22 = .ok (.putfield 145, 3) := by decide +kernel
theorem dX9_wrong_25 : decode cX9_wrong 25 = .ok (.return_, 1) := by decide +kernel
theorem dX9_isSign_0 : decode cX9_isSign 0 = .ok (.aload_n 0, 1) := by decide +kernel
theorem dX9_isSign_1 : decode cX9_isSign 1 = .ok (.getfield 145, 3) := by decide +kernel
theorem dX9_isSign_4 : decode cX9_isSign 4 = .ok (.ifCond .ne 35, 3) := by decide +kernel
theorem dX9_isSign_7 : decode cX9_isSign 7 = .ok (.aload_n 0, 1) := by decide +kernel
theorem dX9_isSign_8 : decode cX9_isSign 8 = .ok (.getfield 24, 3) := by decide +kernel
theorem dX9_isSign_11 : decode cX9_isSign 11 = .ok (.aload_n 0, 1) := by decide +kernel
theorem dX9_isSign_12 : decode cX9_isSign 12 = .ok (.getfield 142, 3) := by decide +kernel
theorem dX9_isSign_15 : decode cX9_isSign 15 = .ok (.iaload, 1) := by decide +kernel
theorem dX9_isSign_16 : decode cX9_isSign 16 = .ok (.iconst 3, 1) := by decide +kernel
theorem dX9_isSign_17 : decode cX9_isSign 17 = .ok (.if_icmp .ne 22, 3) := by decide +kernel
theorem dX9_isSign_20 : decode cX9_isSign 20 = .ok (.aload_n 0, 1) := by decide +kernel
theorem dX9_isSign_21 : decode cX9_isSign 21 = .ok (.getfield 30, 3) := by decide +kernel
theorem dX9_isSign_24 : decode cX9_isSign 24 = .ok (.aload_n 0, 1) := by decide +kernel
theorem dX9_isSign_25 : decode cX9_isSign 25 = .ok (.getfield 142, 3) := by decide +kernel
theorem dX9_isSign_28 : decode cX9_isSign 28 = .ok (.laload, 1) := by decide +kernel
theorem dX9_isSign_29 : decode cX9_isSign 29 = .ok (.iload_n 1, 1) := by decide +kernel
theorem dX9_isSign_30 : decode cX9_isSign 30 = .ok (.i2l, 1) := by decide +kernel
theorem dX9_isSign_31 : decode cX9_isSign 31 = .ok (.lcmp, 1) := by decide +kernel
theorem dX9_isSign_32 : decode cX9_isSign 32 = .ok (.ifCond .ne 7, 3) := by decide +kernel
theorem dX9_isSign_35 : decode cX9_isSign 35 = .ok (.iconst 1, 1) := by decide +kernel
theorem dX9_isSign_36 : decode cX9_isSign 36 = .ok (.goto 4, 3) := by decide +kernel
theorem dX9_isSign_39 : decode cX9_isSign 39 = .ok (.iconst 0, 1) := by decide +kernel
theorem dX9_isSign_40 : decode cX9_isSign 40 = .ok (.ireturn, 1) := by decide +kernel
theorem dX9_isWord_0 : decode cX9_isWord 0 = .ok (.aload_n 0, 1) := by decide +kernel
theorem dX9_isWord_1 : decode cX9_isWord 1 = .ok (.getfield 145, 3) := by decide +kernel
theorem dX9_isWord_4 : decode cX9_isWord 4 = .ok (.ifCond .ne 39, 3) := by decide +kernel
theorem dX9_isWord_7 : decode cX9_isWord 7 = .ok (.aload_n 0, 1) := by decide +kernel
theorem dX9_isWord_8 : decode cX9_isWord 8 = .ok (.getfield 24, 3) := by decide +kernel
theorem dX9_isWord_11 : decode cX9_isWord 11 = .ok (.aload_n 0, 1) := by decide +kernel
theorem dX9_isWord_12 : decode cX9_isWord 12 = .ok (.getfield 142, 3) := by decide +kernel
theorem dX9_isWord_15 : decode cX9_isWord 15 = .ok (.iaload, 1) := by decide +kernel
theorem dX9_isWord_16 : decode cX9_isWord 16 = .ok (.iconst 1, 1) := by decide +kernel
theorem dX9_isWord_17 : decode cX9_isWord 17 = .ok (.if_icmp .ne 26, 3) := by decide +kernel
theorem dX9_isWord_20 : decode cX9_isWord 20 = .ok (.aload_n 0, 1) := by decide +kernel
theorem dX9_isWord_21 : decode cX9_isWord 21 = .ok (.getfield 30, 3) := by decide +kernel
theorem dX9_isWord_24 : decode cX9_isWord 24 = .ok (.aload_n 0, 1) := by decide +kernel
theorem dX9_isWord_25 : decode cX9_isWord 25 = .ok (.getfield 142, 3) := by decide +kernel
theorem dX9_isWord_28 : decode cX9_isWord 28 = .ok (.laload, 1) := by decide +kernel
theorem dX9_isWord_29 : decode cX9_isWord 29 = .ok (.aload_n 0, 1) := by decide +kernel
theorem dX9_isWord_30 : decode cX9_isWord 30 = .ok (.getfield 42, 3) := by decide +kernel
theorem dX9_isWord_33 : decode cX9_isWord 33 = .ok (.iload_n 1, 1) := by decide +kernel
theorem dX9_isWord_34 : decode cX9_isWord 34 = .ok (.laload, 1) := by decide +kernel
theorem dX9_isWord_35 : decode cX9_isWord 35 = .ok (.lcmp, 1) := by decide +kernel
theorem dX9_isWord_36 : decode cX9_isWord 36 = .ok (.ifCond .ne 7, 3) := by decide +kernel
theorem dX9_isWord_39 : decode cX9_isWord 39 = .ok (.iconst 1, 1) := by decide +kernel
theorem dX9_isWord_40 : decode cX9_isWord 40 = .ok (.goto 4, 3) := by decide +kernel
theorem dX9_isWord_43 : decode cX9_isWord 43 = .ok (.iconst 0, 1) := by decide +kernel
theorem dX9_isWord_44 : decode cX9_isWord 44 = .ok (.ireturn, 1) := by decide +kernel
theorem dX9_takeSign_0 : decode cX9_takeSign 0 = .ok (.aload_n 0, 1) := by decide +kernel
theorem dX9_takeSign_1 : decode cX9_takeSign 1 = .ok (.iload_n 1, 1) := by decide +kernel
theorem dX9_takeSign_2 : decode cX9_takeSign 2 = .ok (.invokevirtual 148, 3) := by decide +kernel
theorem dX9_takeSign_5 : decode cX9_takeSign 5 = .ok (.ifCond .eq 16, 3) := by decide +kernel
theorem dX9_takeSign_8 : decode cX9_takeSign 8 = .ok (.aload_n 0, 1) := by decide +kernel
theorem dX9_takeSign_9 : decode cX9_takeSign 9 = .ok (.dup, 1) := by decide +kernel
theorem dX9_takeSign_10 : decode cX9_takeSign 10 = .ok (.getfield 142, 3) := by decide +kernel
theorem dX9_takeSign_13 : decode cX9_takeSign 13 = .ok (.iconst 1, 1) := by decide +kernel
theorem dX9_takeSign_14 : decode cX9_takeSign 14 = .ok (.iadd, 1) := by decide +kernel
theorem dX9_takeSign_15 : decode cX9_takeSign 15 = .ok (.putfield 142, 3) := by decide +kernel
theorem dX9_takeSign_18 : decode cX9_takeSign 18 = .ok (.goto 8, 3) := by decide +kernel
theorem dX9_takeSign_21 : decode cX9_takeSign 21 = .ok (.aload_n 0, 1) := by decide +kernel
theorem dX9_takeSign_22 : decode cX9_takeSign 22 = .ok (.iconst 1, 1) := by decide +kernel
theorem dX9_takeSign_23 : decode cX9_takeSign 23 = .ok (.invokevirtual 151, 3) := by decide +kernel
theorem dX9_takeSign_26 : decode cX9_takeSign 26 = .ok (.return_, 1) := by decide +kernel
theorem dX9_hasSign_0 : decode cX9_hasSign 0 = .ok (.aload_n 0, 1) := by decide +kernel
theorem dX9_hasSign_1 : decode cX9_hasSign 1 = .ok (.iload_n 1, 1) := by decide +kernel
theorem dX9_hasSign_2 : decode cX9_hasSign 2 = .ok (.invokevirtual 148, 3) := by decide +kernel
theorem dX9_hasSign_5 : decode cX9_hasSign 5 = .ok (.istore_n 2, 1) := by decide +kernel
theorem dX9_hasSign_6 : decode cX9_hasSign 6 = .ok (.aload_n 0, 1) := by decide +kernel
theorem dX9_hasSign_7 : decode cX9_hasSign 7 = .ok (.dup, 1) := by decide +kernel
theorem dX9_hasSign_8 : decode cX9_hasSign 8 = .ok (.getfield 142, 3) := by decide +kernel
theorem dX9_hasSign_11 : decode cX9_hasSign 11 = .ok (.iload_n 2, 1) := by decide +kernel
theorem dX9_hasSign_12 : decode cX9_hasSign 12 = .ok (.ifCond .eq 7, 3) := by decide +kernel
theorem dX9_hasSign_15 : decode cX9_hasSign 15 = .ok (.iconst 1, 1) := by decide +kernel
theorem dX9_hasSign_16 : decode cX9_hasSign 16 = .ok (.goto 4, 3) := by decide +kernel
theorem dX9_hasSign_19 : decode cX9_hasSign 19 = .ok (.iconst 0, 1) := by decide +kernel
theorem dX9_hasSign_20 : decode cX9_hasSign 20 = .ok (.iadd, 1) := by decide +kernel
theorem dX9_hasSign_21 : decode cX9_hasSign 21 = .ok (.putfield 142, 3) := by decide +kernel
theorem dX9_hasSign_24 : decode cX9_hasSign 24 = .ok (.iload_n 2, 1) := by decide +kernel
theorem dX9_hasSign_25 : decode cX9_hasSign 25 = .ok (.ireturn, 1) := by decide +kernel
theorem dX9_isName_0 : decode cX9_isName 0 = .ok (.aload_n 0, 1) := by decide +kernel
theorem dX9_isName_1 : decode cX9_isName 1 = .ok (.getfield 145, 3) := by decide +kernel
theorem dX9_isName_4 : decode cX9_isName 4 = .ok (.ifCond .ne 20, 3) := by decide +kernel
theorem dX9_isName_7 : decode cX9_isName 7 = .ok (.aload_n 0, 1) := by decide +kernel
theorem dX9_isName_8 : decode cX9_isName 8 = .ok (.getfield 24, 3) := by decide +kernel
theorem dX9_isName_11 : decode cX9_isName 11 = .ok (.aload_n 0, 1) := by decide +kernel
theorem dX9_isName_12 : decode cX9_isName 12 = .ok (.getfield 142, 3) := by decide +kernel
theorem dX9_isName_15 : decode cX9_isName 15 = .ok (.iaload, 1) := by decide +kernel
theorem dX9_isName_16 : decode cX9_isName 16 = .ok (.iconst 1, 1) := by decide +kernel
theorem dX9_isName_17 : decode cX9_isName 17 = .ok (.if_icmp .ne 7, 3) := by decide +kernel
theorem dX9_isName_20 : decode cX9_isName 20 = .ok (.iconst 1, 1) := by decide +kernel
theorem dX9_isName_21 : decode cX9_isName 21 = .ok (.goto 4, 3) := by decide +kernel
theorem dX9_isName_24 : decode cX9_isName 24 = .ok (.iconst 0, 1) := by decide +kernel
theorem dX9_isName_25 : decode cX9_isName 25 = .ok (.istore_n 1, 1) := by decide +kernel
theorem dX9_isName_26 : decode cX9_isName 26 = .ok (.iconst 0, 1) := by decide +kernel
theorem dX9_isName_27 : decode cX9_isName 27 = .ok (.istore_n 2, 1) := by decide +kernel
theorem dX9_isName_28 : decode cX9_isName 28 = .ok (.iload_n 2, 1) := by decide +kernel
theorem dX9_isName_29 : decode cX9_isName 29 = .ok (.iconst 4, 1) := by decide +kernel
theorem dX9_isName_30 : decode cX9_isName 30 = .ok (.if_icmp .ge 38, 3) := by decide +kernel
theorem dX9_isName_33 : decode cX9_isName 33 = .ok (.iload_n 1, 1) := by decide +kernel
theorem dX9_isName_34 : decode cX9_isName 34 = .ok (.ifCond .eq 26, 3) := by decide +kernel
theorem dX9_isName_37 : decode cX9_isName 37 = .ok (.aload_n 0, 1) := by decide +kernel
theorem dX9_isName_38 : decode cX9_isName 38 = .ok (.getfield 30, 3) := by decide +kernel
theorem dX9_isName_41 : decode cX9_isName 41 = .ok (.aload_n 0, 1) := by decide +kernel
theorem dX9_isName_42 : decode cX9_isName 42 = .ok (.getfield 142, 3) := by decide +kernel
theorem dX9_isName_45 : decode cX9_isName 45 = .ok (.laload, 1) := by decide +kernel
theorem dX9_isName_46 : decode cX9_isName 46 = .ok (.aload_n 0, 1) := by decide +kernel
theorem dX9_isName_47 : decode cX9_isName 47 = .ok (.getfield 42, 3) := by decide +kernel
theorem dX9_isName_50 : decode cX9_isName 50 = .ok (.iload_n 2, 1) := by decide +kernel
theorem dX9_isName_51 : decode cX9_isName 51 = .ok (.laload, 1) := by decide +kernel
theorem dX9_isName_52 : decode cX9_isName 52 = .ok (.lcmp, 1) := by decide +kernel
theorem dX9_isName_53 : decode cX9_isName 53 = .ok (.ifCond .eq 7, 3) := by decide +kernel
theorem dX9_isName_56 : decode cX9_isName 56 = .ok (.iconst 1, 1) := by decide +kernel
theorem dX9_isName_57 : decode cX9_isName 57 = .ok (.goto 4, 3) := by decide +kernel
theorem dX9_isName_60 : decode cX9_isName 60 = .ok (.iconst 0, 1) := by decide +kernel
theorem dX9_isName_61 : decode cX9_isName 61 = .ok (.istore_n 1, 1) := by decide +kernel
theorem dX9_isName_62 : decode cX9_isName 62 = .ok (.iinc 2 1, 3) := by decide +kernel
theorem dX9_isName_65 : decode cX9_isName 65 = .ok (.goto (-37), 3) := by decide +kernel
theorem dX9_isName_68 : decode cX9_isName 68 = .ok (.iload_n 1, 1) := by decide +kernel
theorem dX9_isName_69 : decode cX9_isName 69 = .ok (.ireturn, 1) := by decide +kernel
theorem dX9_findRing_0 : decode cX9_findRing 0 = .ok (.iconst (-1), 1) := by decide +kernel
theorem dX9_findRing_1 : decode cX9_findRing 1 = .ok (.istore_n 3, 1) := by decide +kernel
theorem dX9_findRing_2 : decode cX9_findRing 2 = .ok (.iconst 0, 1) := by decide +kernel
theorem dX9_findRing_3 : decode cX9_findRing 3 = .ok (.istore 4, 2) := by decide +kernel
theorem dX9_findRing_5 : decode cX9_findRing 5 = .ok (.iload 4, 2) := by decide +kernel
theorem dX9_findRing_7 : decode cX9_findRing 7 = .ok (.aload_n 0, 1) := by decide +kernel
theorem dX9_findRing_8 : decode cX9_findRing 8 = .ok (.getfield 45, 3) := by decide +kernel
theorem dX9_findRing_11 : decode cX9_findRing 11 = .ok (.iconst 1, 1) := by decide +kernel
theorem dX9_findRing_12 : decode cX9_findRing 12 = .ok (.iaload, 1) := by decide +kernel
theorem dX9_findRing_13 : decode cX9_findRing 13 = .ok (.if_icmp .ge 30, 3) := by decide +kernel
theorem dX9_findRing_16 : decode cX9_findRing 16 = .ok (.aload_n 0, 1) := by decide +kernel
theorem dX9_findRing_17 : decode cX9_findRing 17 = .ok (.getfield 48, 3) := by decide +kernel
theorem dX9_findRing_20 : decode cX9_findRing 20 = .ok (.iconst 4, 1) := by decide +kernel
theorem dX9_findRing_21 : decode cX9_findRing 21 = .ok (.iload 4, 2) := by decide +kernel
theorem dX9_findRing_23 : decode cX9_findRing 23 = .ok (.iadd, 1) := by decide +kernel
theorem dX9_findRing_24 : decode cX9_findRing 24 = .ok (.laload, 1) := by decide +kernel
theorem dX9_findRing_25 : decode cX9_findRing 25 = .ok (.lload_n 1, 1) := by decide +kernel
theorem dX9_findRing_26 : decode cX9_findRing 26 = .ok (.lcmp, 1) := by decide +kernel
theorem dX9_findRing_27 : decode cX9_findRing 27 = .ok (.ifCond .ne 8, 3) := by decide +kernel
theorem dX9_findRing_30 : decode cX9_findRing 30 = .ok (.iload 4, 2) := by decide +kernel
theorem dX9_findRing_32 : decode cX9_findRing 32 = .ok (.goto 4, 3) := by decide +kernel
theorem dX9_findRing_35 : decode cX9_findRing 35 = .ok (.iload_n 3, 1) := by decide +kernel
theorem dX9_findRing_36 : decode cX9_findRing 36 = .ok (.istore_n 3, 1) := by decide +kernel
theorem dX9_findRing_37 : decode cX9_findRing 37 = .ok (.iinc 4 1, 3) := by decide +kernel
theorem dX9_findRing_40 : decode cX9_findRing 40 = .ok (.goto (-35), 3) := by decide +kernel
theorem dX9_findRing_43 : decode cX9_findRing 43 = .ok (.iload_n 3, 1) := by decide +kernel
theorem dX9_findRing_44 : decode cX9_findRing 44 = .ok (.ireturn, 1) := by decide +kernel
theorem dX9_weave_0 : decode cX9_weave 0 = .ok (.aload_n 0, 1) := by decide +kernel
theorem dX9_weave_1 : decode cX9_weave 1 = .ok (.iconst 0, 1) := by decide +kernel
theorem dX9_weave_2 : decode cX9_weave 2 = .ok (.putfield 1, 3) := by decide +kernel
theorem dX9_weave_5 : decode cX9_weave 5 = .ok (.aload_n 0, 1) := by decide +kernel
theorem dX9_weave_6 : decode cX9_weave 6 = .ok (.invokevirtual 161, 3) := by decide +kernel
theorem dX9_weave_9 : decode cX9_weave 9 = .ok (.aload_n 0, 1) := by decide +kernel
theorem dX9_weave_10 : decode cX9_weave 10 = .ok (.getfield 45, 3) := by decide +kernel
theorem dX9_weave_13 : decode cX9_weave 13 = .ok (.iconst 1, 1) := by decide +kernel
theorem dX9_weave_14 : decode cX9_weave 14 = .ok (.iconst 0, 1) := by decide +kernel
theorem dX9_weave_15 : decode cX9_weave 15 = .ok (.iastore, 1) := by decide +kernel
theorem dX9_weave_16 : decode cX9_weave 16 = .ok (.aload_n 0, 1) := by decide +kernel
theorem dX9_weave_17 : decode cX9_weave 17 = .ok (.getfield 51, 3) := by decide +kernel
theorem dX9_weave_20 : decode cX9_weave 20 = .ok (.iconst 1, 1) := by decide +kernel
theorem dX9_weave_21 : decode cX9_weave 21 = .ok (.iconst 0, 1) := by decide +kernel
theorem dX9_weave_22 : decode cX9_weave 22 = .ok (.iastore, 1) := by decide +kernel
theorem dX9_weave_23 : decode cX9_weave 23 = .ok (.aload_n 0, 1) := by decide +kernel
theorem dX9_weave_24 : decode cX9_weave 24 = .ok (.iconst 0, 1) := by decide +kernel
theorem dX9_weave_25 : decode cX9_weave 25 = .ok (.invokevirtual 155, 3) := by decide +kernel
theorem dX9_weave_28 : decode cX9_weave 28 = .ok (.ifCond .ne 8, 3) := by decide +kernel
theorem dX9_weave_31 : decode cX9_weave 31 = .ok (.aload_n 0, 1) := by decide +kernel
theorem dX9_weave_32 : decode cX9_weave 32 = .ok (.iconst 1, 1) := by decide +kernel
theorem dX9_weave_33 : decode cX9_weave 33 = .ok (.invokevirtual 151, 3) := by decide +kernel
theorem dX9_weave_36 : decode cX9_weave 36 = .ok (.aload_n 0, 1) := by decide +kernel
theorem dX9_weave_37 : decode cX9_weave 37 = .ok (.iconst 0, 1) := by decide +kernel
theorem dX9_weave_38 : decode cX9_weave 38 = .ok (.invokevirtual 155, 3) := by decide +kernel
theorem dX9_weave_41 : decode cX9_weave 41 = .ok (.ifCond .eq 10, 3) := by decide +kernel
theorem dX9_weave_44 : decode cX9_weave 44 = .ok (.aload_n 0, 1) := by decide +kernel
theorem dX9_weave_45 : decode cX9_weave 45 = .ok (.invokevirtual 164, 3) := by decide +kernel
theorem dX9_weave_48 : decode cX9_weave 48 = .ok (.goto (-12), 3) := by decide +kernel
theorem dX9_weave_51 : decode cX9_weave 51 = .ok (.aload_n 0, 1) := by decide +kernel
theorem dX9_weave_52 : decode cX9_weave 52 = .ok (.iconst 1, 1) := by decide +kernel
theorem dX9_weave_53 : decode cX9_weave 53 = .ok (.invokevirtual 155, 3) := by decide +kernel
theorem dX9_weave_56 : decode cX9_weave 56 = .ok (.ifCond .eq 10, 3) := by decide +kernel
theorem dX9_weave_59 : decode cX9_weave 59 = .ok (.aload_n 0, 1) := by decide +kernel
theorem dX9_weave_60 : decode cX9_weave 60 = .ok (.invokevirtual 167, 3) := by decide +kernel
theorem dX9_weave_63 : decode cX9_weave 63 = .ok (.goto (-12), 3) := by decide +kernel
theorem dX9_weave_66 : decode cX9_weave 66 = .ok (.aload_n 0, 1) := by decide +kernel
theorem dX9_weave_67 : decode cX9_weave 67 = .ok (.getfield 145, 3) := by decide +kernel
theorem dX9_weave_70 : decode cX9_weave 70 = .ok (.ifCond .ne 20, 3) := by decide +kernel
theorem dX9_weave_73 : decode cX9_weave 73 = .ok (.aload_n 0, 1) := by decide +kernel
theorem dX9_weave_74 : decode cX9_weave 74 = .ok (.getfield 24, 3) := by decide +kernel
theorem dX9_weave_77 : decode cX9_weave 77 = .ok (.aload_n 0, 1) := by decide +kernel
theorem dX9_weave_78 : decode cX9_weave 78 = .ok (.getfield 142, 3) := by decide +kernel
theorem dX9_weave_81 : decode cX9_weave 81 = .ok (.iaload, 1) := by decide +kernel
theorem dX9_weave_82 : decode cX9_weave 82 = .ok (.ifCond .eq 8, 3) := by decide +kernel
theorem dX9_weave_85 : decode cX9_weave 85 = .ok (.aload_n 0, 1) := by decide +kernel
theorem dX9_weave_86 : decode cX9_weave 86 = .ok (.iconst 1, 1) := by decide +kernel
theorem dX9_weave_87 : decode cX9_weave 87 = .ok (.invokevirtual 151, 3) := by decide +kernel
theorem dX9_weave_90 : decode cX9_weave 90 = .ok (.aload_n 0, 1) := by decide +kernel
theorem dX9_weave_91 : decode cX9_weave 91 = .ok (.getfield 145, 3) := by decide +kernel
theorem dX9_weave_94 : decode cX9_weave 94 = .ok (.ifCond .ne 9, 3) := by decide +kernel
theorem dX9_weave_97 : decode cX9_weave 97 = .ok (.aload_n 0, 1) := by decide +kernel
theorem dX9_weave_98 : decode cX9_weave 98 = .ok (.iconst 1, 1) := by decide +kernel
theorem dX9_weave_99 : decode cX9_weave 99 = .ok (.iconst 0, 1) := by decide +kernel
theorem dX9_weave_100 : decode cX9_weave 100 = .ok (.invokevirtual 170, 3) := by decide +kernel
theorem dX9_weave_103 : decode cX9_weave 103 = .ok (.aload_n 0, 1) := by decide +kernel
theorem dX9_weave_104 : decode cX9_weave 104 = .ok (.getfield 145, 3) := by decide +kernel
theorem dX9_weave_107 : decode cX9_weave 107 = .ok (.ireturn, 1) := by decide +kernel
theorem dX9_copies_0 : decode cX9_copies 0 = .ok (.aload_n 0, 1) := by decide +kernel
theorem dX9_copies_1 : decode cX9_copies 1 = .ok (.getfield 45, 3) := by decide +kernel
theorem dX9_copies_4 : decode cX9_copies 4 = .ok (.iload_n 2, 1) := by decide +kernel
theorem dX9_copies_5 : decode cX9_copies 5 = .ok (.aload_n 0, 1) := by decide +kernel
theorem dX9_copies_6 : decode cX9_copies 6 = .ok (.getfield 45, 3) := by decide +kernel
theorem dX9_copies_9 : decode cX9_copies 9 = .ok (.iload_n 1, 1) := by decide +kernel
theorem dX9_copies_10 : decode cX9_copies 10 = .ok (.iaload, 1) := by decide +kernel
theorem dX9_copies_11 : decode cX9_copies 11 = .ok (.iastore, 1) := by decide +kernel
theorem dX9_copies_12 : decode cX9_copies 12 = .ok (.aload_n 0, 1) := by decide +kernel
theorem dX9_copies_13 : decode cX9_copies 13 = .ok (.getfield 51, 3) := by decide +kernel
theorem dX9_copies_16 : decode cX9_copies 16 = .ok (.iload_n 2, 1) := by decide +kernel
theorem dX9_copies_17 : decode cX9_copies 17 = .ok (.aload_n 0, 1) := by decide +kernel
theorem dX9_copies_18 : decode cX9_copies 18 = .ok (.getfield 51, 3) := by decide +kernel
theorem dX9_copies_21 : decode cX9_copies 21 = .ok (.iload_n 1, 1) := by decide +kernel
theorem dX9_copies_22 : decode cX9_copies 22 = .ok (.iaload, 1) := by decide +kernel
theorem dX9_copies_23 : decode cX9_copies 23 = .ok (.iastore, 1) := by decide +kernel
theorem dX9_copies_24 : decode cX9_copies 24 = .ok (.iconst 0, 1) := by decide +kernel
theorem dX9_copies_25 : decode cX9_copies 25 = .ok (.istore_n 3, 1) := by decide +kernel
theorem dX9_copies_26 : decode cX9_copies 26 = .ok (.iload_n 3, 1) := by decide +kernel
theorem dX9_copies_27 : decode cX9_copies 27 = .ok (.aload_n 0, 1) := by decide +kernel
theorem dX9_copies_28 : decode cX9_copies 28 = .ok (.getfield 51, 3) := by decide +kernel
theorem dX9_copies_31 : decode cX9_copies 31 = .ok (.iload_n 1, 1) := by decide +kernel
theorem dX9_copies_32 : decode cX9_copies 32 = .ok (.iaload, 1) := by decide +kernel
theorem dX9_copies_33 : decode cX9_copies 33 = .ok (.if_icmp .ge 119, 3) := by decide +kernel
theorem dX9_copies_36 : decode cX9_copies 36 = .ok (.aload_n 0, 1) := by decide +kernel
theorem dX9_copies_37 : decode cX9_copies 37 = .ok (.getfield 54, 3) := by decide +kernel
theorem dX9_copies_40 : decode cX9_copies 40 = .ok (.bipush 24, 2) := by decide +kernel
theorem dX9_copies_42 : decode cX9_copies 42 = .ok (.iload_n 2, 1) := by decide +kernel
theorem dX9_copies_43 : decode cX9_copies 43 = .ok (.imul, 1) := by decide +kernel
theorem dX9_copies_44 : decode cX9_copies 44 = .ok (.iload_n 3, 1) := by decide +kernel
theorem dX9_copies_45 : decode cX9_copies 45 = .ok (.iadd, 1) := by decide +kernel
theorem dX9_copies_46 : decode cX9_copies 46 = .ok (.aload_n 0, 1) := by decide +kernel
theorem dX9_copies_47 : decode cX9_copies 47 = .ok (.getfield 54, 3) := by decide +kernel
theorem dX9_copies_50 : decode cX9_copies 50 = .ok (.bipush 24, 2) := by decide +kernel
theorem dX9_copies_52 : decode cX9_copies 52 = .ok (.iload_n 1, 1) := by decide +kernel
theorem dX9_copies_53 : decode cX9_copies 53 = .ok (.imul, 1) := by decide +kernel
theorem dX9_copies_54 : decode cX9_copies 54 = .ok (.iload_n 3, 1) := by decide +kernel
theorem dX9_copies_55 : decode cX9_copies 55 = .ok (.iadd, 1) := by decide +kernel
theorem dX9_copies_56 : decode cX9_copies 56 = .ok (.iaload, 1) := by decide +kernel
theorem dX9_copies_57 : decode cX9_copies 57 = .ok (.iastore, 1) := by decide +kernel
theorem dX9_copies_58 : decode cX9_copies 58 = .ok (.aload_n 0, 1) := by decide +kernel
theorem dX9_copies_59 : decode cX9_copies 59 = .ok (.getfield 57, 3) := by decide +kernel
theorem dX9_copies_62 : decode cX9_copies 62 = .ok (.bipush 24, 2) := by decide +kernel
theorem dX9_copies_64 : decode cX9_copies 64 = .ok (.iload_n 2, 1) := by decide +kernel
theorem dX9_copies_65 : decode cX9_copies 65 = .ok (.imul, 1) := by decide +kernel
theorem dX9_copies_66 : decode cX9_copies 66 = .ok (.iload_n 3, 1) := by decide +kernel
theorem dX9_copies_67 : decode cX9_copies 67 = .ok (.iadd, 1) := by decide +kernel
theorem dX9_copies_68 : decode cX9_copies 68 = .ok (.aload_n 0, 1) := by decide +kernel
theorem dX9_copies_69 : decode cX9_copies 69 = .ok (.getfield 57, 3) := by decide +kernel
theorem dX9_copies_72 : decode cX9_copies 72 = .ok (.bipush 24, 2) := by decide +kernel
theorem dX9_copies_74 : decode cX9_copies 74 = .ok (.iload_n 1, 1) := by decide +kernel
theorem dX9_copies_75 : decode cX9_copies 75 = .ok (.imul, 1) := by decide +kernel
theorem dX9_copies_76 : decode cX9_copies 76 = .ok (.iload_n 3, 1) := by decide +kernel
theorem dX9_copies_77 : decode cX9_copies 77 = .ok (.iadd, 1) := by decide +kernel
theorem dX9_copies_78 : decode cX9_copies 78 = .ok (.iaload, 1) := by decide +kernel
theorem dX9_copies_79 : decode cX9_copies 79 = .ok (.iastore, 1) := by decide +kernel
theorem dX9_copies_80 : decode cX9_copies 80 = .ok (.aload_n 0, 1) := by decide +kernel
theorem dX9_copies_81 : decode cX9_copies 81 = .ok (.getfield 60, 3) := by decide +kernel
theorem dX9_copies_84 : decode cX9_copies 84 = .ok (.bipush 24, 2) := by decide +kernel
theorem dX9_copies_86 : decode cX9_copies 86 = .ok (.iload_n 2, 1) := by decide +kernel
theorem dX9_copies_87 : decode cX9_copies 87 = .ok (.imul, 1) := by decide +kernel
theorem dX9_copies_88 : decode cX9_copies 88 = .ok (.iload_n 3, 1) := by decide +kernel
theorem dX9_copies_89 : decode cX9_copies 89 = .ok (.iadd, 1) := by decide +kernel
theorem dX9_copies_90 : decode cX9_copies 90 = .ok (.aload_n 0, 1) := by decide +kernel
theorem dX9_copies_91 : decode cX9_copies 91 = .ok (.getfield 60, 3) := by decide +kernel
theorem dX9_copies_94 : decode cX9_copies 94 = .ok (.bipush 24, 2) := by decide +kernel
theorem dX9_copies_96 : decode cX9_copies 96 = .ok (.iload_n 1, 1) := by decide +kernel
theorem dX9_copies_97 : decode cX9_copies 97 = .ok (.imul, 1) := by decide +kernel
theorem dX9_copies_98 : decode cX9_copies 98 = .ok (.iload_n 3, 1) := by decide +kernel
theorem dX9_copies_99 : decode cX9_copies 99 = .ok (.iadd, 1) := by decide +kernel
theorem dX9_copies_100 : decode cX9_copies 100 = .ok (.iaload, 1) := by decide +kernel
theorem dX9_copies_101 : decode cX9_copies 101 = .ok (.iastore, 1) := by decide +kernel
theorem dX9_copies_102 : decode cX9_copies 102 = .ok (.aload_n 0, 1) := by decide +kernel
theorem dX9_copies_103 : decode cX9_copies 103 = .ok (.getfield 63, 3) := by decide +kernel
theorem dX9_copies_106 : decode cX9_copies 106 = .ok (.bipush 24, 2) := by decide +kernel
theorem dX9_copies_108 : decode cX9_copies 108 = .ok (.iload_n 2, 1) := by decide +kernel
theorem dX9_copies_109 : decode cX9_copies 109 = .ok (.imul, 1) := by decide +kernel
theorem dX9_copies_110 : decode cX9_copies 110 = .ok (.iload_n 3, 1) := by decide +kernel
theorem dX9_copies_111 : decode cX9_copies 111 = .ok (.iadd, 1) := by decide +kernel
theorem dX9_copies_112 : decode cX9_copies 112 = .ok (.aload_n 0, 1) := by decide +kernel
theorem dX9_copies_113 : decode cX9_copies 113 = .ok (.getfield 63, 3) := by decide +kernel
theorem dX9_copies_116 : decode cX9_copies 116 = .ok (.bipush 24, 2) := by decide +kernel
theorem dX9_copies_118 : decode cX9_copies 118 = .ok (.iload_n 1, 1) := by decide +kernel
theorem dX9_copies_119 : decode cX9_copies 119 = .ok (.imul, 1) := by decide +kernel
theorem dX9_copies_120 : decode cX9_copies 120 = .ok (.iload_n 3, 1) := by decide +kernel
theorem dX9_copies_121 : decode cX9_copies 121 = .ok (.iadd, 1) := by decide +kernel
theorem dX9_copies_122 : decode cX9_copies 122 = .ok (.iaload, 1) := by decide +kernel
theorem dX9_copies_123 : decode cX9_copies 123 = .ok (.iastore, 1) := by decide +kernel
theorem dX9_copies_124 : decode cX9_copies 124 = .ok (.aload_n 0, 1) := by decide +kernel
theorem dX9_copies_125 : decode cX9_copies 125 = .ok (.getfield 66, 3) := by decide +kernel
theorem dX9_copies_128 : decode cX9_copies 128 = .ok (.bipush 24, 2) := by decide +kernel
theorem dX9_copies_130 : decode cX9_copies 130 = .ok (.iload_n 2, 1) := by decide +kernel
theorem dX9_copies_131 : decode cX9_copies 131 = .ok (.imul, 1) := by decide +kernel
theorem dX9_copies_132 : decode cX9_copies 132 = .ok (.iload_n 3, 1) := by decide +kernel
theorem dX9_copies_133 : decode cX9_copies 133 = .ok (.iadd, 1) := by decide +kernel
theorem dX9_copies_134 : decode cX9_copies 134 = .ok (.aload_n 0, 1) := by decide +kernel
theorem dX9_copies_135 : decode cX9_copies 135 = .ok (.getfield 66, 3) := by decide +kernel
theorem dX9_copies_138 : decode cX9_copies 138 = .ok (.bipush 24, 2) := by decide +kernel
theorem dX9_copies_140 : decode cX9_copies 140 = .ok (.iload_n 1, 1) := by decide +kernel
theorem dX9_copies_141 : decode cX9_copies 141 = .ok (.imul, 1) := by decide +kernel
theorem dX9_copies_142 : decode cX9_copies 142 = .ok (.iload_n 3, 1) := by decide +kernel
theorem dX9_copies_143 : decode cX9_copies 143 = .ok (.iadd, 1) := by decide +kernel
theorem dX9_copies_144 : decode cX9_copies 144 = .ok (.baload, 1) := by decide +kernel
theorem dX9_copies_145 : decode cX9_copies 145 = .ok (.bastore, 1) := by decide +kernel
theorem dX9_copies_146 : decode cX9_copies 146 = .ok (.iinc 3 1, 3) := by decide +kernel
theorem dX9_copies_149 : decode cX9_copies 149 = .ok (.goto (-123), 3) := by decide +kernel
theorem dX9_copies_152 : decode cX9_copies 152 = .ok (.return_, 1) := by decide +kernel
theorem dX9_readRing_0 : decode cX9_readRing 0 = .ok (.aload_n 0, 1) := by decide +kernel
theorem dX9_readRing_1 : decode cX9_readRing 1 = .ok (.getfield 45, 3) := by decide +kernel
theorem dX9_readRing_4 : decode cX9_readRing 4 = .ok (.iconst 1, 1) := by decide +kernel
theorem dX9_readRing_5 : decode cX9_readRing 5 = .ok (.iaload, 1) := by decide +kernel
theorem dX9_readRing_6 : decode cX9_readRing 6 = .ok (.iconst 4, 1) := by decide +kernel
theorem dX9_readRing_7 : decode cX9_readRing 7 = .ok (.if_icmp .ne 9, 3) := by decide +kernel
theorem dX9_readRing_10 : decode cX9_readRing 10 = .ok (.aload_n 0, 1) := by decide +kernel
theorem dX9_readRing_11 : decode cX9_readRing 11 = .ok (.iconst 5, 1) := by decide +kernel
theorem dX9_readRing_12 : decode cX9_readRing 12 = .ok (.invokevirtual 151, 3) := by decide +kernel
theorem dX9_readRing_15 : decode cX9_readRing 15 = .ok (.return_, 1) := by decide +kernel
theorem dX9_readRing_16 : decode cX9_readRing 16 = .ok (.aload_n 0, 1) := by decide +kernel
theorem dX9_readRing_17 : decode cX9_readRing 17 = .ok (.dup, 1) := by decide +kernel
theorem dX9_readRing_18 : decode cX9_readRing 18 = .ok (.getfield 142, 3) := by decide +kernel
theorem dX9_readRing_21 : decode cX9_readRing 21 = .ok (.iconst 1, 1) := by decide +kernel
theorem dX9_readRing_22 : decode cX9_readRing 22 = .ok (.iadd, 1) := by decide +kernel
theorem dX9_readRing_23 : decode cX9_readRing 23 = .ok (.putfield 142, 3) := by decide +kernel
theorem dX9_readRing_26 : decode cX9_readRing 26 = .ok (.aload_n 0, 1) := by decide +kernel
theorem dX9_readRing_27 : decode cX9_readRing 27 = .ok (.invokevirtual 174, 3) := by decide +kernel
theorem dX9_readRing_30 : decode cX9_readRing 30 = .ok (.ifCond .ne 11, 3) := by decide +kernel
theorem dX9_readRing_33 : decode cX9_readRing 33 = .ok (.aload_n 0, 1) := by decide +kernel
theorem dX9_readRing_34 : decode cX9_readRing 34 = .ok (.iconst 1, 1) := by decide +kernel
theorem dX9_readRing_35 : decode cX9_readRing 35 = .ok (.invokevirtual 151, 3) := by decide +kernel
theorem dX9_readRing_38 : decode cX9_readRing 38 = .ok (.goto 24, 3) := by decide +kernel
theorem dX9_readRing_41 : decode cX9_readRing 41 = .ok (.aload_n 0, 1) := by decide +kernel
theorem dX9_readRing_42 : decode cX9_readRing 42 = .ok (.aload_n 0, 1) := by decide +kernel
theorem dX9_readRing_43 : decode cX9_readRing 43 = .ok (.getfield 30, 3) := by decide +kernel
theorem dX9_readRing_46 : decode cX9_readRing 46 = .ok (.aload_n 0, 1) := by decide +kernel
theorem dX9_readRing_47 : decode cX9_readRing 47 = .ok (.getfield 142, 3) := by decide +kernel
theorem dX9_readRing_50 : decode cX9_readRing 50 = .ok (.laload, 1) := by decide +kernel
theorem dX9_readRing_51 : decode cX9_readRing 51 = .ok (.invokevirtual 178, 3) := by decide +kernel
theorem dX9_readRing_54 : decode cX9_readRing 54 = .ok (.ifCond .lt 8, 3) := by decide +kernel
theorem dX9_readRing_57 : decode cX9_readRing 57 = .ok (.aload_n 0, 1) := by decide +kernel
theorem dX9_readRing_58 : decode cX9_readRing 58 = .ok (.iconst 3, 1) := by decide +kernel
theorem dX9_readRing_59 : decode cX9_readRing 59 = .ok (.invokevirtual 151, 3) := by decide +kernel
theorem dX9_readRing_62 : decode cX9_readRing 62 = .ok (.aload_n 0, 1) := by decide +kernel
theorem dX9_readRing_63 : decode cX9_readRing 63 = .ok (.getfield 145, 3) := by decide +kernel
theorem dX9_readRing_66 : decode cX9_readRing 66 = .ok (.ifCond .le 4, 3) := by decide +kernel
theorem dX9_readRing_69 : decode cX9_readRing 69 = .ok (.return_, 1) := by decide +kernel
theorem dX9_readRing_70 : decode cX9_readRing 70 = .ok (.aload_n 0, 1) := by decide +kernel
theorem dX9_readRing_71 : decode cX9_readRing 71 = .ok (.getfield 48, 3) := by decide +kernel
theorem dX9_readRing_74 : decode cX9_readRing 74 = .ok (.iconst 4, 1) := by decide +kernel
theorem dX9_readRing_75 : decode cX9_readRing 75 = .ok (.aload_n 0, 1) := by decide +kernel
theorem dX9_readRing_76 : decode cX9_readRing 76 = .ok (.getfield 45, 3) := by decide +kernel
theorem dX9_readRing_79 : decode cX9_readRing 79 = .ok (.iconst 1, 1) := by decide +kernel
theorem dX9_readRing_80 : decode cX9_readRing 80 = .ok (.iaload, 1) := by decide +kernel
theorem dX9_readRing_81 : decode cX9_readRing 81 = .ok (.iadd, 1) := by decide +kernel
theorem dX9_readRing_82 : decode cX9_readRing 82 = .ok (.aload_n 0, 1) := by decide +kernel
theorem dX9_readRing_83 : decode cX9_readRing 83 = .ok (.getfield 30, 3) := by decide +kernel
theorem dX9_readRing_86 : decode cX9_readRing 86 = .ok (.aload_n 0, 1) := by decide +kernel
theorem dX9_readRing_87 : decode cX9_readRing 87 = .ok (.getfield 142, 3) := by decide +kernel
theorem dX9_readRing_90 : decode cX9_readRing 90 = .ok (.laload, 1) := by decide +kernel
theorem dX9_readRing_91 : decode cX9_readRing 91 = .ok (.lastore, 1) := by decide +kernel
theorem dX9_readRing_92 : decode cX9_readRing 92 = .ok (.aload_n 0, 1) := by decide +kernel
theorem dX9_readRing_93 : decode cX9_readRing 93 = .ok (.dup, 1) := by decide +kernel
theorem dX9_readRing_94 : decode cX9_readRing 94 = .ok (.getfield 142, 3) := by decide +kernel
theorem dX9_readRing_97 : decode cX9_readRing 97 = .ok (.iconst 1, 1) := by decide +kernel
theorem dX9_readRing_98 : decode cX9_readRing 98 = .ok (.iadd, 1) := by decide +kernel
theorem dX9_readRing_99 : decode cX9_readRing 99 = .ok (.putfield 142, 3) := by decide +kernel
theorem dX9_readRing_102 : decode cX9_readRing 102 = .ok (.aload_n 0, 1) := by decide +kernel
theorem dX9_readRing_103 : decode cX9_readRing 103 = .ok (.bipush 59, 2) := by decide +kernel
theorem dX9_readRing_105 : decode cX9_readRing 105 = .ok (.invokevirtual 182, 3) := by decide +kernel
theorem dX9_readRing_108 : decode cX9_readRing 108 = .ok (.aload_n 0, 1) := by decide +kernel
theorem dX9_readRing_109 : decode cX9_readRing 109 = .ok (.getfield 45, 3) := by decide +kernel
theorem dX9_readRing_112 : decode cX9_readRing 112 = .ok (.iconst 1, 1) := by decide +kernel
theorem dX9_readRing_113 : decode cX9_readRing 113 = .ok (.dup2, 1) := by decide +kernel
theorem dX9_readRing_114 : decode cX9_readRing 114 = .ok (.iaload, 1) := by decide +kernel
theorem dX9_readRing_115 : decode cX9_readRing 115 = .ok (.iconst 1, 1) := by decide +kernel
theorem dX9_readRing_116 : decode cX9_readRing 116 = .ok (.iadd, 1) := by decide +kernel
theorem dX9_readRing_117 : decode cX9_readRing 117 = .ok (.iastore, 1) := by decide +kernel
theorem dX9_readRing_118 : decode cX9_readRing 118 = .ok (.return_, 1) := by decide +kernel
theorem dX9_takeRing_0 : decode cX9_takeRing 0 = .ok (.aload_n 0, 1) := by decide +kernel
theorem dX9_takeRing_1 : decode cX9_takeRing 1 = .ok (.invokevirtual 174, 3) := by decide +kernel
theorem dX9_takeRing_4 : decode cX9_takeRing 4 = .ok (.ifCond .eq 19, 3) := by decide +kernel
theorem dX9_takeRing_7 : decode cX9_takeRing 7 = .ok (.aload_n 0, 1) := by decide +kernel
theorem dX9_takeRing_8 : decode cX9_takeRing 8 = .ok (.aload_n 0, 1) := by decide +kernel
theorem dX9_takeRing_9 : decode cX9_takeRing 9 = .ok (.getfield 30, 3) := by decide +kernel
theorem dX9_takeRing_12 : decode cX9_takeRing 12 = .ok (.aload_n 0, 1) := by decide +kernel
theorem dX9_takeRing_13 : decode cX9_takeRing 13 = .ok (.getfield 142, 3) := by decide +kernel
theorem dX9_takeRing_16 : decode cX9_takeRing 16 = .ok (.laload, 1) := by decide +kernel
theorem dX9_takeRing_17 : decode cX9_takeRing 17 = .ok (.invokevirtual 178, 3) := by decide +kernel
theorem dX9_takeRing_20 : decode cX9_takeRing 20 = .ok (.goto 4, 3) := by decide +kernel
theorem dX9_takeRing_23 : decode cX9_takeRing 23 = .ok (.iconst (-1), 1) := by decide +kernel
theorem dX9_takeRing_24 : decode cX9_takeRing 24 = .ok (.istore_n 1, 1) := by decide +kernel
theorem dX9_takeRing_25 : decode cX9_takeRing 25 = .ok (.aload_n 0, 1) := by decide +kernel
theorem dX9_takeRing_26 : decode cX9_takeRing 26 = .ok (.invokevirtual 174, 3) := by decide +kernel
theorem dX9_takeRing_29 : decode cX9_takeRing 29 = .ok (.ifCond .ne 11, 3) := by decide +kernel
theorem dX9_takeRing_32 : decode cX9_takeRing 32 = .ok (.aload_n 0, 1) := by decide +kernel
theorem dX9_takeRing_33 : decode cX9_takeRing 33 = .ok (.iconst 1, 1) := by decide +kernel
theorem dX9_takeRing_34 : decode cX9_takeRing 34 = .ok (.invokevirtual 151, 3) := by decide +kernel
theorem dX9_takeRing_37 : decode cX9_takeRing 37 = .ok (.goto 12, 3) := by decide +kernel
theorem dX9_takeRing_40 : decode cX9_takeRing 40 = .ok (.iload_n 1, 1) := by decide +kernel
theorem dX9_takeRing_41 : decode cX9_takeRing 41 = .ok (.ifCond .ge 8, 3) := by decide +kernel
theorem dX9_takeRing_44 : decode cX9_takeRing 44 = .ok (.aload_n 0, 1) := by decide +kernel
theorem dX9_takeRing_45 : decode cX9_takeRing 45 = .ok (.iconst 2, 1) := by decide +kernel
theorem dX9_takeRing_46 : decode cX9_takeRing 46 = .ok (.invokevirtual 151, 3) := by decide +kernel
theorem dX9_takeRing_49 : decode cX9_takeRing 49 = .ok (.aload_n 0, 1) := by decide +kernel
theorem dX9_takeRing_50 : decode cX9_takeRing 50 = .ok (.dup, 1) := by decide +kernel
theorem dX9_takeRing_51 : decode cX9_takeRing 51 = .ok (.getfield 142, 3) := by decide +kernel
theorem dX9_takeRing_54 : decode cX9_takeRing 54 = .ok (.aload_n 0, 1) := by decide +kernel
theorem dX9_takeRing_55 : decode cX9_takeRing 55 = .ok (.getfield 145, 3) := by decide +kernel
theorem dX9_takeRing_58 : decode cX9_takeRing 58 = .ok (.ifCond .ne 7, 3) := by decide +kernel
theorem dX9_takeRing_61 : decode cX9_takeRing 61 = .ok (.iconst 1, 1) := by decide +kernel
theorem dX9_takeRing_62 : decode cX9_takeRing 62 = .ok (.goto 4, 3) := by decide +kernel
theorem dX9_takeRing_65 : decode cX9_takeRing 65 = .ok (.iconst 0, 1) := by decide +kernel
theorem dX9_takeRing_66 : decode cX9_takeRing 66 = .ok (.iadd, 1) := by decide +kernel
theorem dX9_takeRing_67 : decode cX9_takeRing 67 = .ok (.putfield 142, 3) := by decide +kernel
theorem dX9_takeRing_70 : decode cX9_takeRing 70 = .ok (.aload_n 0, 1) := by decide +kernel
theorem dX9_takeRing_71 : decode cX9_takeRing 71 = .ok (.getfield 145, 3) := by decide +kernel
theorem dX9_takeRing_74 : decode cX9_takeRing 74 = .ok (.ifCond .le 7, 3) := by decide +kernel
theorem dX9_takeRing_77 : decode cX9_takeRing 77 = .ok (.iconst 0, 1) := by decide +kernel
theorem dX9_takeRing_78 : decode cX9_takeRing 78 = .ok (.goto 4, 3) := by decide +kernel
theorem dX9_takeRing_81 : decode cX9_takeRing 81 = .ok (.iload_n 1, 1) := by decide +kernel
theorem dX9_takeRing_82 : decode cX9_takeRing 82 = .ok (.ireturn, 1) := by decide +kernel
theorem dX9_takeAway_0 : decode cX9_takeAway 0 = .ok (.aload_n 0, 1) := by decide +kernel
theorem dX9_takeAway_1 : decode cX9_takeAway 1 = .ok (.bipush 45, 2) := by decide +kernel
theorem dX9_takeAway_3 : decode cX9_takeAway 3 = .ok (.invokevirtual 148, 3) := by decide +kernel
theorem dX9_takeAway_6 : decode cX9_takeAway 6 = .ok (.istore_n 1, 1) := by decide +kernel
theorem dX9_takeAway_7 : decode cX9_takeAway 7 = .ok (.aload_n 0, 1) := by decide +kernel
theorem dX9_takeAway_8 : decode cX9_takeAway 8 = .ok (.bipush 45, 2) := by decide +kernel
theorem dX9_takeAway_10 : decode cX9_takeAway 10 = .ok (.invokevirtual 185, 3) := by decide +kernel
theorem dX9_takeAway_13 : decode cX9_takeAway 13 = .ok (.ifCond .ne 10, 3) := by decide +kernel
theorem dX9_takeAway_16 : decode cX9_takeAway 16 = .ok (.aload_n 0, 1) := by decide +kernel
theorem dX9_takeAway_17 : decode cX9_takeAway 17 = .ok (.bipush 43, 2) := by decide +kernel
theorem dX9_takeAway_19 : decode cX9_takeAway 19 = .ok (.invokevirtual 185, 3) := by decide +kernel
theorem dX9_takeAway_22 : decode cX9_takeAway 22 = .ok (.istore_n 2, 1) := by decide +kernel
theorem dX9_takeAway_23 : decode cX9_takeAway 23 = .ok (.aload_n 0, 1) := by decide +kernel
theorem dX9_takeAway_24 : decode cX9_takeAway 24 = .ok (.getfield 145, 3) := by decide +kernel
theorem dX9_takeAway_27 : decode cX9_takeAway 27 = .ok (.ifCond .ne 24, 3) := by decide +kernel
theorem dX9_takeAway_30 : decode cX9_takeAway 30 = .ok (.aload_n 0, 1) := by decide +kernel
theorem dX9_takeAway_31 : decode cX9_takeAway 31 = .ok (.getfield 24, 3) := by decide +kernel
theorem dX9_takeAway_34 : decode cX9_takeAway 34 = .ok (.aload_n 0, 1) := by decide +kernel
theorem dX9_takeAway_35 : decode cX9_takeAway 35 = .ok (.getfield 142, 3) := by decide +kernel
theorem dX9_takeAway_38 : decode cX9_takeAway 38 = .ok (.iaload, 1) := by decide +kernel
theorem dX9_takeAway_39 : decode cX9_takeAway 39 = .ok (.iconst 2, 1) := by decide +kernel
theorem dX9_takeAway_40 : decode cX9_takeAway 40 = .ok (.if_icmp .eq 11, 3) := by decide +kernel
theorem dX9_takeAway_43 : decode cX9_takeAway 43 = .ok (.aload_n 0, 1) := by decide +kernel
theorem dX9_takeAway_44 : decode cX9_takeAway 44 = .ok (.iconst 1, 1) := by decide +kernel
theorem dX9_takeAway_45 : decode cX9_takeAway 45 = .ok (.invokevirtual 151, 3) := by decide +kernel
theorem dX9_takeAway_48 : decode cX9_takeAway 48 = .ok (.goto 31, 3) := by decide +kernel
theorem dX9_takeAway_51 : decode cX9_takeAway 51 = .ok (.aload_n 0, 1) := by decide +kernel
theorem dX9_takeAway_52 : decode cX9_takeAway 52 = .ok (.getfield 145, 3) := by decide +kernel
theorem dX9_takeAway_55 : decode cX9_takeAway 55 = .ok (.ifCond .ne 24, 3) := by decide +kernel
theorem dX9_takeAway_58 : decode cX9_takeAway 58 = .ok (.aload_n 0, 1) := by decide +kernel
theorem dX9_takeAway_59 : decode cX9_takeAway 59 = .ok (.getfield 30, 3) := by decide +kernel
theorem dX9_takeAway_62 : decode cX9_takeAway 62 = .ok (.aload_n 0, 1) := by decide +kernel
theorem dX9_takeAway_63 : decode cX9_takeAway 63 = .ok (.getfield 142, 3) := by decide +kernel
theorem dX9_takeAway_66 : decode cX9_takeAway 66 = .ok (.laload, 1) := by decide +kernel
theorem dX9_takeAway_67 : decode cX9_takeAway 67 = .ok (.ldc2_w 188, 3) := by decide +kernel
theorem dX9_takeAway_70 : decode cX9_takeAway 70 = .ok (.lcmp, 1) := by decide +kernel
theorem dX9_takeAway_71 : decode cX9_takeAway 71 = .ok (.ifCond .le 8, 3) := by decide +kernel
theorem dX9_takeAway_74 : decode cX9_takeAway 74 = .ok (.aload_n 0, 1) := by decide +kernel
theorem dX9_takeAway_75 : decode cX9_takeAway 75 = .ok (.iconst 4, 1) := by decide +kernel
theorem dX9_takeAway_76 : decode cX9_takeAway 76 = .ok (.invokevirtual 151, 3) := by decide +kernel
theorem dX9_takeAway_79 : decode cX9_takeAway 79 = .ok (.aload_n 0, 1) := by decide +kernel
theorem dX9_takeAway_80 : decode cX9_takeAway 80 = .ok (.getfield 145, 3) := by decide +kernel
theorem dX9_takeAway_83 : decode cX9_takeAway 83 = .ok (.ifCond .le 5, 3) := by decide +kernel
theorem dX9_takeAway_86 : decode cX9_takeAway 86 = .ok (.iconst 0, 1) := by decide +kernel
theorem dX9_takeAway_87 : decode cX9_takeAway 87 = .ok (.ireturn, 1) := by decide +kernel
theorem dX9_takeAway_88 : decode cX9_takeAway 88 = .ok (.aload_n 0, 1) := by decide +kernel
theorem dX9_takeAway_89 : decode cX9_takeAway 89 = .ok (.dup, 1) := by decide +kernel
theorem dX9_takeAway_90 : decode cX9_takeAway 90 = .ok (.getfield 142, 3) := by decide +kernel
theorem dX9_takeAway_93 : decode cX9_takeAway 93 = .ok (.iconst 1, 1) := by decide +kernel
theorem dX9_takeAway_94 : decode cX9_takeAway 94 = .ok (.iadd, 1) := by decide +kernel
theorem dX9_takeAway_95 : decode cX9_takeAway 95 = .ok (.putfield 142, 3) := by decide +kernel
theorem dX9_takeAway_98 : decode cX9_takeAway 98 = .ok (.iload_n 1, 1) := by decide +kernel
theorem dX9_takeAway_99 : decode cX9_takeAway 99 = .ok (.ifCond .eq 18, 3) := by decide +kernel
theorem dX9_takeAway_102 : decode cX9_takeAway 102 = .ok (.aload_n 0, 1) := by decide +kernel
theorem dX9_takeAway_103 : decode cX9_takeAway 103 = .ok (.getfield 30, 3) := by decide +kernel
theorem dX9_takeAway_106 : decode cX9_takeAway 106 = .ok (.aload_n 0, 1) := by decide +kernel
theorem dX9_takeAway_107 : decode cX9_takeAway 107 = .ok (.getfield 142, 3) := by decide +kernel
theorem dX9_takeAway_110 : decode cX9_takeAway 110 = .ok (.iconst 1, 1) := by decide +kernel
theorem dX9_takeAway_111 : decode cX9_takeAway 111 = .ok (.isub, 1) := by decide +kernel
theorem dX9_takeAway_112 : decode cX9_takeAway 112 = .ok (.laload, 1) := by decide +kernel
theorem dX9_takeAway_113 : decode cX9_takeAway 113 = .ok (.lneg, 1) := by decide +kernel
theorem dX9_takeAway_114 : decode cX9_takeAway 114 = .ok (.goto 14, 3) := by decide +kernel
theorem dX9_takeAway_117 : decode cX9_takeAway 117 = .ok (.aload_n 0, 1) := by decide +kernel
theorem dX9_takeAway_118 : decode cX9_takeAway 118 = .ok (.getfield 30, 3) := by decide +kernel
theorem dX9_takeAway_121 : decode cX9_takeAway 121 = .ok (.aload_n 0, 1) := by decide +kernel
theorem dX9_takeAway_122 : decode cX9_takeAway 122 = .ok (.getfield 142, 3) := by decide +kernel
theorem dX9_takeAway_125 : decode cX9_takeAway 125 = .ok (.iconst 1, 1) := by decide +kernel
theorem dX9_takeAway_126 : decode cX9_takeAway 126 = .ok (.isub, 1) := by decide +kernel
theorem dX9_takeAway_127 : decode cX9_takeAway 127 = .ok (.laload, 1) := by decide +kernel
theorem dX9_takeAway_128 : decode cX9_takeAway 128 = .ok (.l2i, 1) := by decide +kernel
theorem dX9_takeAway_129 : decode cX9_takeAway 129 = .ok (.ireturn, 1) := by decide +kernel
theorem dX9_isLinkTold_0 : decode cX9_isLinkTold 0 = .ok (.iconst 0, 1) := by decide +kernel
theorem dX9_isLinkTold_1 : decode cX9_isLinkTold 1 = .ok (.istore 5, 2) := by decide +kernel
theorem dX9_isLinkTold_3 : decode cX9_isLinkTold 3 = .ok (.bipush 24, 2) := by decide +kernel
theorem dX9_isLinkTold_5 : decode cX9_isLinkTold 5 = .ok (.istore 6, 2) := by decide +kernel
theorem dX9_isLinkTold_7 : decode cX9_isLinkTold 7 = .ok (.iload 6, 2) := by decide +kernel
theorem dX9_isLinkTold_9 : decode cX9_isLinkTold 9 = .ok (.bipush 24, 2) := by decide +kernel
theorem dX9_isLinkTold_11 : decode cX9_isLinkTold 11 = .ok (.aload_n 0, 1) := by decide +kernel
theorem dX9_isLinkTold_12 : decode cX9_isLinkTold 12 = .ok (.getfield 51, 3) := by decide +kernel
theorem dX9_isLinkTold_15 : decode cX9_isLinkTold 15 = .ok (.iconst 1, 1) := by decide +kernel
theorem dX9_isLinkTold_16 : decode cX9_isLinkTold 16 = .ok (.iaload, 1) := by decide +kernel
theorem dX9_isLinkTold_17 : decode cX9_isLinkTold 17 = .ok (.iadd, 1) := by decide +kernel
theorem dX9_isLinkTold_18 : decode cX9_isLinkTold 18 = .ok (.if_icmp .ge 113, 3) := by decide +kernel
theorem dX9_isLinkTold_21 : decode cX9_isLinkTold 21 = .ok (.iload 5, 2) := by decide +kernel
theorem dX9_isLinkTold_23 : decode cX9_isLinkTold 23 = .ok (.ifCond .ne 95, 3) := by decide +kernel
theorem dX9_isLinkTold_26 : decode cX9_isLinkTold 26 = .ok (.aload_n 0, 1) := by decide +kernel
theorem dX9_isLinkTold_27 : decode cX9_isLinkTold 27 = .ok (.getfield 54, 3) := by decide +kernel
theorem dX9_isLinkTold_30 : decode cX9_isLinkTold 30 = .ok (.iload 6, 2) := by decide +kernel
theorem dX9_isLinkTold_32 : decode cX9_isLinkTold 32 = .ok (.iaload, 1) := by decide +kernel
theorem dX9_isLinkTold_33 : decode cX9_isLinkTold 33 = .ok (.iload_n 1, 1) := by decide +kernel
theorem dX9_isLinkTold_34 : decode cX9_isLinkTold 34 = .ok (.if_icmp .ne 37, 3) := by decide +kernel
theorem dX9_isLinkTold_37 : decode cX9_isLinkTold 37 = .ok (.aload_n 0, 1) := by decide +kernel
theorem dX9_isLinkTold_38 : decode cX9_isLinkTold 38 = .ok (.getfield 57, 3) := by decide +kernel
theorem dX9_isLinkTold_41 : decode cX9_isLinkTold 41 = .ok (.iload 6, 2) := by decide +kernel
theorem dX9_isLinkTold_43 : decode cX9_isLinkTold 43 = .ok (.iaload, 1) := by decide +kernel
theorem dX9_isLinkTold_44 : decode cX9_isLinkTold 44 = .ok (.iload_n 2, 1) := by decide +kernel
theorem dX9_isLinkTold_45 : decode cX9_isLinkTold 45 = .ok (.if_icmp .ne 26, 3) := by decide +kernel
theorem dX9_isLinkTold_48 : decode cX9_isLinkTold 48 = .ok (.aload_n 0, 1) := by decide +kernel
theorem dX9_isLinkTold_49 : decode cX9_isLinkTold 49 = .ok (.getfield 60, 3) := by decide +kernel
theorem dX9_isLinkTold_52 : decode cX9_isLinkTold 52 = .ok (.iload 6, 2) := by decide +kernel
theorem dX9_isLinkTold_54 : decode cX9_isLinkTold 54 = .ok (.iaload, 1) := by decide +kernel
theorem dX9_isLinkTold_55 : decode cX9_isLinkTold 55 = .ok (.iload_n 3, 1) := by decide +kernel
theorem dX9_isLinkTold_56 : decode cX9_isLinkTold 56 = .ok (.if_icmp .ne 15, 3) := by decide +kernel
theorem dX9_isLinkTold_59 : decode cX9_isLinkTold 59 = .ok (.aload_n 0, 1) := by decide +kernel
theorem dX9_isLinkTold_60 : decode cX9_isLinkTold 60 = .ok (.getfield 63, 3) := by decide +kernel
theorem dX9_isLinkTold_63 : decode cX9_isLinkTold 63 = .ok (.iload 6, 2) := by decide +kernel
theorem dX9_isLinkTold_65 : decode cX9_isLinkTold 65 = .ok (.iaload, 1) := by decide +kernel
theorem dX9_isLinkTold_66 : decode cX9_isLinkTold 66 = .ok (.iload 4, 2) := by decide +kernel
theorem dX9_isLinkTold_68 : decode cX9_isLinkTold 68 = .ok (.if_icmp .eq 50, 3) := by decide +kernel
theorem dX9_isLinkTold_71 : decode cX9_isLinkTold 71 = .ok (.aload_n 0, 1) := by decide +kernel
theorem dX9_isLinkTold_72 : decode cX9_isLinkTold 72 = .ok (.getfield 54, 3) := by decide +kernel
theorem dX9_isLinkTold_75 : decode cX9_isLinkTold 75 = .ok (.iload 6, 2) := by decide +kernel
theorem dX9_isLinkTold_77 : decode cX9_isLinkTold 77 = .ok (.iaload, 1) := by decide +kernel
theorem dX9_isLinkTold_78 : decode cX9_isLinkTold 78 = .ok (.iload_n 2, 1) := by decide +kernel
theorem dX9_isLinkTold_79 : decode cX9_isLinkTold 79 = .ok (.if_icmp .ne 43, 3) := by decide +kernel
theorem dX9_isLinkTold_82 : decode cX9_isLinkTold 82 = .ok (.aload_n 0, 1) := by decide +kernel
theorem dX9_isLinkTold_83 : decode cX9_isLinkTold 83 = .ok (.getfield 57, 3) := by decide +kernel
theorem dX9_isLinkTold_86 : decode cX9_isLinkTold 86 = .ok (.iload 6, 2) := by decide +kernel
theorem dX9_isLinkTold_88 : decode cX9_isLinkTold 88 = .ok (.iaload, 1) := by decide +kernel
theorem dX9_isLinkTold_89 : decode cX9_isLinkTold 89 = .ok (.iload_n 1, 1) := by decide +kernel
theorem dX9_isLinkTold_90 : decode cX9_isLinkTold 90 = .ok (.if_icmp .ne 32, 3) := by decide +kernel
theorem dX9_isLinkTold_93 : decode cX9_isLinkTold 93 = .ok (.aload_n 0, 1) := by decide +kernel
theorem dX9_isLinkTold_94 : decode cX9_isLinkTold 94 = .ok (.getfield 60, 3) := by decide +kernel
theorem dX9_isLinkTold_97 : decode cX9_isLinkTold 97 = .ok (.iload 6, 2) := by decide +kernel
theorem dX9_isLinkTold_99 : decode cX9_isLinkTold 99 = .ok (.iaload, 1) := by decide +kernel
theorem dX9_isLinkTold_100 : decode cX9_isLinkTold 100 = .ok (.iload_n 3, 1) := by decide +kernel
theorem dX9_isLinkTold_101 : decode cX9_isLinkTold 101 = .ok (.ineg, 1) := by decide +kernel
theorem dX9_isLinkTold_102 : decode cX9_isLinkTold 102 = .ok (.if_icmp .ne 20, 3) := by decide +kernel
theorem dX9_isLinkTold_105 : decode cX9_isLinkTold 105 = .ok (.aload_n 0, 1) := by decide +kernel
theorem dX9_isLinkTold_106 : decode cX9_isLinkTold 106 = .ok (.getfield 63, 3) := by decide +kernel
theorem dX9_isLinkTold_109 : decode cX9_isLinkTold 109 = .ok (.iload 6, 2) := by decide +kernel
theorem dX9_isLinkTold_111 : decode cX9_isLinkTold 111 = .ok (.iaload, 1) := by decide +kernel
theorem dX9_isLinkTold_112 : decode cX9_isLinkTold 112 = .ok (.iload 4, 2) := by decide +kernel
theorem dX9_isLinkTold_114 : decode cX9_isLinkTold 114 = .ok (.ineg, 1) := by decide +kernel
theorem dX9_isLinkTold_115 : decode cX9_isLinkTold 115 = .ok (.if_icmp .ne 7, 3) := by decide +kernel
theorem dX9_isLinkTold_118 : decode cX9_isLinkTold 118 = .ok (.iconst 1, 1) := by decide +kernel
theorem dX9_isLinkTold_119 : decode cX9_isLinkTold 119 = .ok (.goto 4, 3) := by decide +kernel
theorem dX9_isLinkTold_122 : decode cX9_isLinkTold 122 = .ok (.iconst 0, 1) := by decide +kernel
theorem dX9_isLinkTold_123 : decode cX9_isLinkTold 123 = .ok (.istore 5, 2) := by decide +kernel
theorem dX9_isLinkTold_125 : decode cX9_isLinkTold 125 = .ok (.iinc 6 1, 3) := by decide +kernel
theorem dX9_isLinkTold_128 : decode cX9_isLinkTold 128 = .ok (.goto (-121), 3) := by decide +kernel
theorem dX9_isLinkTold_131 : decode cX9_isLinkTold 131 = .ok (.iload 5, 2) := by decide +kernel
theorem dX9_isLinkTold_133 : decode cX9_isLinkTold 133 = .ok (.ireturn, 1) := by decide +kernel
theorem dX9_readLink_0 : decode cX9_readLink 0 = .ok (.aload_n 0, 1) := by decide +kernel
theorem dX9_readLink_1 : decode cX9_readLink 1 = .ok (.getfield 51, 3) := by decide +kernel
theorem dX9_readLink_4 : decode cX9_readLink 4 = .ok (.iconst 1, 1) := by decide +kernel
theorem dX9_readLink_5 : decode cX9_readLink 5 = .ok (.iaload, 1) := by decide +kernel
theorem dX9_readLink_6 : decode cX9_readLink 6 = .ok (.bipush 24, 2) := by decide +kernel
theorem dX9_readLink_8 : decode cX9_readLink 8 = .ok (.if_icmp .ne 9, 3) := by decide +kernel
theorem dX9_readLink_11 : decode cX9_readLink 11 = .ok (.aload_n 0, 1) := by decide +kernel
theorem dX9_readLink_12 : decode cX9_readLink 12 = .ok (.iconst 5, 1) := by decide +kernel
theorem dX9_readLink_13 : decode cX9_readLink 13 = .ok (.invokevirtual 151, 3) := by decide +kernel
theorem dX9_readLink_16 : decode cX9_readLink 16 = .ok (.return_, 1) := by decide +kernel
theorem dX9_readLink_17 : decode cX9_readLink 17 = .ok (.aload_n 0, 1) := by decide +kernel
theorem dX9_readLink_18 : decode cX9_readLink 18 = .ok (.dup, 1) := by decide +kernel
theorem dX9_readLink_19 : decode cX9_readLink 19 = .ok (.getfield 142, 3) := by decide +kernel
theorem dX9_readLink_22 : decode cX9_readLink 22 = .ok (.iconst 1, 1) := by decide +kernel
theorem dX9_readLink_23 : decode cX9_readLink 23 = .ok (.iadd, 1) := by decide +kernel
theorem dX9_readLink_24 : decode cX9_readLink 24 = .ok (.putfield 142, 3) := by decide +kernel
theorem dX9_readLink_27 : decode cX9_readLink 27 = .ok (.aload_n 0, 1) := by decide +kernel
theorem dX9_readLink_28 : decode cX9_readLink 28 = .ok (.invokevirtual 190, 3) := by decide +kernel
theorem dX9_readLink_31 : decode cX9_readLink 31 = .ok (.istore_n 1, 1) := by decide +kernel
theorem dX9_readLink_32 : decode cX9_readLink 32 = .ok (.aload_n 0, 1) := by decide +kernel
theorem dX9_readLink_33 : decode cX9_readLink 33 = .ok (.invokevirtual 190, 3) := by decide +kernel
theorem dX9_readLink_36 : decode cX9_readLink 36 = .ok (.istore_n 2, 1) := by decide +kernel
theorem dX9_readLink_37 : decode cX9_readLink 37 = .ok (.aload_n 0, 1) := by decide +kernel
theorem dX9_readLink_38 : decode cX9_readLink 38 = .ok (.invokevirtual 194, 3) := by decide +kernel
theorem dX9_readLink_41 : decode cX9_readLink 41 = .ok (.istore_n 3, 1) := by decide +kernel
theorem dX9_readLink_42 : decode cX9_readLink 42 = .ok (.aload_n 0, 1) := by decide +kernel
theorem dX9_readLink_43 : decode cX9_readLink 43 = .ok (.invokevirtual 194, 3) := by decide +kernel
theorem dX9_readLink_46 : decode cX9_readLink 46 = .ok (.istore 4, 2) := by decide +kernel
theorem dX9_readLink_48 : decode cX9_readLink 48 = .ok (.aload_n 0, 1) := by decide +kernel
theorem dX9_readLink_49 : decode cX9_readLink 49 = .ok (.iconst 2, 1) := by decide +kernel
theorem dX9_readLink_50 : decode cX9_readLink 50 = .ok (.invokevirtual 155, 3) := by decide +kernel
theorem dX9_readLink_53 : decode cX9_readLink 53 = .ok (.istore 5, 2) := by decide +kernel
theorem dX9_readLink_55 : decode cX9_readLink 55 = .ok (.iload 5, 2) := by decide +kernel
theorem dX9_readLink_57 : decode cX9_readLink 57 = .ok (.ifCond .ne 19, 3) := by decide +kernel
theorem dX9_readLink_60 : decode cX9_readLink 60 = .ok (.aload_n 0, 1) := by decide +kernel
theorem dX9_readLink_61 : decode cX9_readLink 61 = .ok (.iconst 3, 1) := by decide +kernel
theorem dX9_readLink_62 : decode cX9_readLink 62 = .ok (.invokevirtual 155, 3) := by decide +kernel
theorem dX9_readLink_65 : decode cX9_readLink 65 = .ok (.ifCond .ne 11, 3) := by decide +kernel
theorem dX9_readLink_68 : decode cX9_readLink 68 = .ok (.aload_n 0, 1) := by decide +kernel
theorem dX9_readLink_69 : decode cX9_readLink 69 = .ok (.iconst 1, 1) := by decide +kernel
theorem dX9_readLink_70 : decode cX9_readLink 70 = .ok (.invokevirtual 151, 3) := by decide +kernel
theorem dX9_readLink_73 : decode cX9_readLink 73 = .ok (.goto 35, 3) := by decide +kernel
theorem dX9_readLink_76 : decode cX9_readLink 76 = .ok (.iload_n 1, 1) := by decide +kernel
theorem dX9_readLink_77 : decode cX9_readLink 77 = .ok (.iload_n 2, 1) := by decide +kernel
theorem dX9_readLink_78 : decode cX9_readLink 78 = .ok (.if_icmp .ne 12, 3) := by decide +kernel
theorem dX9_readLink_81 : decode cX9_readLink 81 = .ok (.iload_n 3, 1) := by decide +kernel
theorem dX9_readLink_82 : decode cX9_readLink 82 = .ok (.ifCond .ne 8, 3) := by decide +kernel
theorem dX9_readLink_85 : decode cX9_readLink 85 = .ok (.iload 4, 2) := by decide +kernel
theorem dX9_readLink_87 : decode cX9_readLink 87 = .ok (.ifCond .eq 15, 3) := by decide +kernel
theorem dX9_readLink_90 : decode cX9_readLink 90 = .ok (.aload_n 0, 1) := by decide +kernel
theorem dX9_readLink_91 : decode cX9_readLink 91 = .ok (.iload_n 1, 1) := by decide +kernel
theorem dX9_readLink_92 : decode cX9_readLink 92 = .ok (.iload_n 2, 1) := by decide +kernel
theorem dX9_readLink_93 : decode cX9_readLink 93 = .ok (.iload_n 3, 1) := by decide +kernel
theorem dX9_readLink_94 : decode cX9_readLink 94 = .ok (.iload 4, 2) := by decide +kernel
theorem dX9_readLink_96 : decode cX9_readLink 96 = .ok (.invokevirtual 197, 3) := by decide +kernel
theorem dX9_readLink_99 : decode cX9_readLink 99 = .ok (.ifCond .eq 9, 3) := by decide +kernel
theorem dX9_readLink_102 : decode cX9_readLink 102 = .ok (.aload_n 0, 1) := by decide +kernel
theorem dX9_readLink_103 : decode cX9_readLink 103 = .ok (.bipush 6, 2) := by decide +kernel
theorem dX9_readLink_105 : decode cX9_readLink 105 = .ok (.invokevirtual 151, 3) := by decide +kernel
theorem dX9_readLink_108 : decode cX9_readLink 108 = .ok (.aload_n 0, 1) := by decide +kernel
theorem dX9_readLink_109 : decode cX9_readLink 109 = .ok (.getfield 145, 3) := by decide +kernel
theorem dX9_readLink_112 : decode cX9_readLink 112 = .ok (.ifCond .le 4, 3) := by decide +kernel
theorem dX9_readLink_115 : decode cX9_readLink 115 = .ok (.return_, 1) := by decide +kernel
theorem dX9_readLink_116 : decode cX9_readLink 116 = .ok (.aload_n 0, 1) := by decide +kernel
theorem dX9_readLink_117 : decode cX9_readLink 117 = .ok (.dup, 1) := by decide +kernel
theorem dX9_readLink_118 : decode cX9_readLink 118 = .ok (.getfield 142, 3) := by decide +kernel
theorem dX9_readLink_121 : decode cX9_readLink 121 = .ok (.iconst 1, 1) := by decide +kernel
theorem dX9_readLink_122 : decode cX9_readLink 122 = .ok (.iadd, 1) := by decide +kernel
theorem dX9_readLink_123 : decode cX9_readLink 123 = .ok (.putfield 142, 3) := by decide +kernel
theorem dX9_readLink_126 : decode cX9_readLink 126 = .ok (.aload_n 0, 1) := by decide +kernel
theorem dX9_readLink_127 : decode cX9_readLink 127 = .ok (.bipush 59, 2) := by decide +kernel
theorem dX9_readLink_129 : decode cX9_readLink 129 = .ok (.invokevirtual 182, 3) := by decide +kernel
theorem dX9_readLink_132 : decode cX9_readLink 132 = .ok (.bipush 24, 2) := by decide +kernel
theorem dX9_readLink_134 : decode cX9_readLink 134 = .ok (.aload_n 0, 1) := by decide +kernel
theorem dX9_readLink_135 : decode cX9_readLink 135 = .ok (.getfield 51, 3) := by decide +kernel
theorem dX9_readLink_138 : decode cX9_readLink 138 = .ok (.iconst 1, 1) := by decide +kernel
theorem dX9_readLink_139 : decode cX9_readLink 139 = .ok (.iaload, 1) := by decide +kernel
theorem dX9_readLink_140 : decode cX9_readLink 140 = .ok (.iadd, 1) := by decide +kernel
theorem dX9_readLink_141 : decode cX9_readLink 141 = .ok (.istore 6, 2) := by decide +kernel
theorem dX9_readLink_143 : decode cX9_readLink 143 = .ok (.aload_n 0, 1) := by decide +kernel
theorem dX9_readLink_144 : decode cX9_readLink 144 = .ok (.getfield 54, 3) := by decide +kernel
theorem dX9_readLink_147 : decode cX9_readLink 147 = .ok (.iload 6, 2) := by decide +kernel
theorem dX9_readLink_149 : decode cX9_readLink 149 = .ok (.iload_n 1, 1) := by decide +kernel
theorem dX9_readLink_150 : decode cX9_readLink 150 = .ok (.iastore, 1) := by decide +kernel
theorem dX9_readLink_151 : decode cX9_readLink 151 = .ok (.aload_n 0, 1) := by decide +kernel
theorem dX9_readLink_152 : decode cX9_readLink 152 = .ok (.getfield 57, 3) := by decide +kernel
theorem dX9_readLink_155 : decode cX9_readLink 155 = .ok (.iload 6, 2) := by decide +kernel
theorem dX9_readLink_157 : decode cX9_readLink 157 = .ok (.iload_n 2, 1) := by decide +kernel
theorem dX9_readLink_158 : decode cX9_readLink 158 = .ok (.iastore, 1) := by decide +kernel
theorem dX9_readLink_159 : decode cX9_readLink 159 = .ok (.aload_n 0, 1) := by decide +kernel
theorem dX9_readLink_160 : decode cX9_readLink 160 = .ok (.getfield 60, 3) := by decide +kernel
theorem dX9_readLink_163 : decode cX9_readLink 163 = .ok (.iload 6, 2) := by decide +kernel
theorem dX9_readLink_165 : decode cX9_readLink 165 = .ok (.iload_n 3, 1) := by decide +kernel
theorem dX9_readLink_166 : decode cX9_readLink 166 = .ok (.iastore, 1) := by decide +kernel
theorem dX9_readLink_167 : decode cX9_readLink 167 = .ok (.aload_n 0, 1) := by decide +kernel
theorem dX9_readLink_168 : decode cX9_readLink 168 = .ok (.getfield 63, 3) := by decide +kernel
theorem dX9_readLink_171 : decode cX9_readLink 171 = .ok (.iload 6, 2) := by decide +kernel
theorem dX9_readLink_173 : decode cX9_readLink 173 = .ok (.iload 4, 2) := by decide +kernel
theorem dX9_readLink_175 : decode cX9_readLink 175 = .ok (.iastore, 1) := by decide +kernel
theorem dX9_readLink_176 : decode cX9_readLink 176 = .ok (.aload_n 0, 1) := by decide +kernel
theorem dX9_readLink_177 : decode cX9_readLink 177 = .ok (.getfield 66, 3) := by decide +kernel
theorem dX9_readLink_180 : decode cX9_readLink 180 = .ok (.iload 6, 2) := by decide +kernel
theorem dX9_readLink_182 : decode cX9_readLink 182 = .ok (.iload 5, 2) := by decide +kernel
theorem dX9_readLink_184 : decode cX9_readLink 184 = .ok (.bastore, 1) := by decide +kernel
theorem dX9_readLink_185 : decode cX9_readLink 185 = .ok (.aload_n 0, 1) := by decide +kernel
theorem dX9_readLink_186 : decode cX9_readLink 186 = .ok (.getfield 51, 3) := by decide +kernel
theorem dX9_readLink_189 : decode cX9_readLink 189 = .ok (.iconst 1, 1) := by decide +kernel
theorem dX9_readLink_190 : decode cX9_readLink 190 = .ok (.dup2, 1) := by decide +kernel
theorem dX9_readLink_191 : decode cX9_readLink 191 = .ok (.iaload, 1) := by decide +kernel
theorem dX9_readLink_192 : decode cX9_readLink 192 = .ok (.iconst 1, 1) := by decide +kernel
theorem dX9_readLink_193 : decode cX9_readLink 193 = .ok (.iadd, 1) := by decide +kernel
theorem dX9_readLink_194 : decode cX9_readLink 194 = .ok (.iastore, 1) := by decide +kernel
theorem dX9_readLink_195 : decode cX9_readLink 195 = .ok (.return_, 1) := by decide +kernel
theorem dX9_isRing_0 : decode cX9_isRing 0 = .ok (.iload_n 1, 1) := by decide +kernel
theorem dX9_isRing_1 : decode cX9_isRing 1 = .ok (.ifCond .lt 24, 3) := by decide +kernel
theorem dX9_isRing_4 : decode cX9_isRing 4 = .ok (.iload_n 1, 1) := by decide +kernel
theorem dX9_isRing_5 : decode cX9_isRing 5 = .ok (.aload_n 0, 1) := by decide +kernel
theorem dX9_isRing_6 : decode cX9_isRing 6 = .ok (.getfield 201, 3) := by decide +kernel
theorem dX9_isRing_9 : decode cX9_isRing 9 = .ok (.if_icmp .ge 16, 3) := by decide +kernel
theorem dX9_isRing_12 : decode cX9_isRing 12 = .ok (.aload_n 0, 1) := by decide +kernel
theorem dX9_isRing_13 : decode cX9_isRing 13 = .ok (.getfield 70, 3) := by decide +kernel
theorem dX9_isRing_16 : decode cX9_isRing 16 = .ok (.iload_n 1, 1) := by decide +kernel
theorem dX9_isRing_17 : decode cX9_isRing 17 = .ok (.baload, 1) := by decide +kernel
theorem dX9_isRing_18 : decode cX9_isRing 18 = .ok (.ifCond .eq 7, 3) := by decide +kernel
theorem dX9_isRing_21 : decode cX9_isRing 21 = .ok (.iconst 1, 1) := by decide +kernel
theorem dX9_isRing_22 : decode cX9_isRing 22 = .ok (.goto 4, 3) := by decide +kernel
theorem dX9_isRing_25 : decode cX9_isRing 25 = .ok (.iconst 0, 1) := by decide +kernel
theorem dX9_isRing_26 : decode cX9_isRing 26 = .ok (.ireturn, 1) := by decide +kernel
theorem dX9_sets_0 : decode cX9_sets 0 = .ok (.aload_n 0, 1) := by decide +kernel
theorem dX9_sets_1 : decode cX9_sets 1 = .ok (.getfield 74, 3) := by decide +kernel
theorem dX9_sets_4 : decode cX9_sets 4 = .ok (.sipush 300, 3) := by decide +kernel
theorem dX9_sets_7 : decode cX9_sets 7 = .ok (.iload_n 1, 1) := by decide +kernel
theorem dX9_sets_8 : decode cX9_sets 8 = .ok (.imul, 1) := by decide +kernel
theorem dX9_sets_9 : decode cX9_sets 9 = .ok (.iload_n 2, 1) := by decide +kernel
theorem dX9_sets_10 : decode cX9_sets 10 = .ok (.iadd, 1) := by decide +kernel
theorem dX9_sets_11 : decode cX9_sets 11 = .ok (.iload_n 3, 1) := by decide +kernel
theorem dX9_sets_12 : decode cX9_sets 12 = .ok (.iastore, 1) := by decide +kernel
theorem dX9_sets_13 : decode cX9_sets 13 = .ok (.aload_n 0, 1) := by decide +kernel
theorem dX9_sets_14 : decode cX9_sets 14 = .ok (.getfield 74, 3) := by decide +kernel
theorem dX9_sets_17 : decode cX9_sets 17 = .ok (.sipush 300, 3) := by decide +kernel
theorem dX9_sets_20 : decode cX9_sets 20 = .ok (.iload_n 2, 1) := by decide +kernel
theorem dX9_sets_21 : decode cX9_sets 21 = .ok (.imul, 1) := by decide +kernel
theorem dX9_sets_22 : decode cX9_sets 22 = .ok (.iload_n 1, 1) := by decide +kernel
theorem dX9_sets_23 : decode cX9_sets 23 = .ok (.iadd, 1) := by decide +kernel
theorem dX9_sets_24 : decode cX9_sets 24 = .ok (.iload_n 3, 1) := by decide +kernel
theorem dX9_sets_25 : decode cX9_sets 25 = .ok (.ineg, 1) := by decide +kernel
theorem dX9_sets_26 : decode cX9_sets 26 = .ok (.iastore, 1) := by decide +kernel
theorem dX9_sets_27 : decode cX9_sets 27 = .ok (.return_, 1) := by decide +kernel
theorem dX9_partner_0 : decode cX9_partner 0 = .ok (.bipush 48, 2) := by decide +kernel
theorem dX9_partner_2 : decode cX9_partner 2 = .ok (.iload_n 2, 1) := by decide +kernel
theorem dX9_partner_3 : decode cX9_partner 3 = .ok (.iadd, 1) := by decide +kernel
theorem dX9_partner_4 : decode cX9_partner 4 = .ok (.istore 4, 2) := by decide +kernel
theorem dX9_partner_6 : decode cX9_partner 6 = .ok (.aload_n 0, 1) := by decide +kernel
theorem dX9_partner_7 : decode cX9_partner 7 = .ok (.getfield 45, 3) := by decide +kernel
theorem dX9_partner_10 : decode cX9_partner 10 = .ok (.iconst 2, 1) := by decide +kernel
theorem dX9_partner_11 : decode cX9_partner 11 = .ok (.iaload, 1) := by decide +kernel
theorem dX9_partner_12 : decode cX9_partner 12 = .ok (.istore 5, 2) := by decide +kernel
theorem dX9_partner_14 : decode cX9_partner 14 = .ok (.iload_n 1, 1) := by decide +kernel
theorem dX9_partner_15 : decode cX9_partner 15 = .ok (.iload 5, 2) := by decide +kernel
theorem dX9_partner_17 : decode cX9_partner 17 = .ok (.irem, 1) := by decide +kernel
theorem dX9_partner_18 : decode cX9_partner 18 = .ok (.iload_n 3, 1) := by decide +kernel
theorem dX9_partner_19 : decode cX9_partner 19 = .ok (.ifCond .eq 13, 3) := by decide +kernel
theorem dX9_partner_22 : decode cX9_partner 22 = .ok (.aload_n 0, 1) := by decide +kernel
theorem dX9_partner_23 : decode cX9_partner 23 = .ok (.getfield 54, 3) := by decide +kernel
theorem dX9_partner_26 : decode cX9_partner 26 = .ok (.iload 4, 2) := by decide +kernel
theorem dX9_partner_28 : decode cX9_partner 28 = .ok (.iaload, 1) := by decide +kernel
theorem dX9_partner_29 : decode cX9_partner 29 = .ok (.goto 10, 3) := by decide +kernel
theorem dX9_partner_32 : decode cX9_partner 32 = .ok (.aload_n 0, 1) := by decide +kernel
theorem dX9_partner_33 : decode cX9_partner 33 = .ok (.getfield 57, 3) := by decide +kernel
theorem dX9_partner_36 : decode cX9_partner 36 = .ok (.iload 4, 2) := by decide +kernel
theorem dX9_partner_38 : decode cX9_partner 38 = .ok (.iaload, 1) := by decide +kernel
theorem dX9_partner_39 : decode cX9_partner 39 = .ok (.if_icmp .eq 5, 3) := by decide +kernel
theorem dX9_partner_42 : decode cX9_partner 42 = .ok (.iconst (-1), 1) := by decide +kernel
theorem dX9_partner_43 : decode cX9_partner 43 = .ok (.ireturn, 1) := by decide +kernel
theorem dX9_partner_44 : decode cX9_partner 44 = .ok (.iload_n 1, 1) := by decide +kernel
theorem dX9_partner_45 : decode cX9_partner 45 = .ok (.iload 5, 2) := by decide +kernel
theorem dX9_partner_47 : decode cX9_partner 47 = .ok (.idiv, 1) := by decide +kernel
theorem dX9_partner_48 : decode cX9_partner 48 = .ok (.aload_n 0, 1) := by decide +kernel
theorem dX9_partner_49 : decode cX9_partner 49 = .ok (.getfield 204, 3) := by decide +kernel
theorem dX9_partner_52 : decode cX9_partner 52 = .ok (.irem, 1) := by decide +kernel
theorem dX9_partner_53 : decode cX9_partner 53 = .ok (.iload_n 3, 1) := by decide +kernel
theorem dX9_partner_54 : decode cX9_partner 54 = .ok (.ifCond .eq 13, 3) := by decide +kernel
theorem dX9_partner_57 : decode cX9_partner 57 = .ok (.aload_n 0, 1) := by decide +kernel
theorem dX9_partner_58 : decode cX9_partner 58 = .ok (.getfield 60, 3) := by decide +kernel
theorem dX9_partner_61 : decode cX9_partner 61 = .ok (.iload 4, 2) := by decide +kernel
theorem dX9_partner_63 : decode cX9_partner 63 = .ok (.iaload, 1) := by decide +kernel
theorem dX9_partner_64 : decode cX9_partner 64 = .ok (.goto 11, 3) := by decide +kernel
theorem dX9_partner_67 : decode cX9_partner 67 = .ok (.aload_n 0, 1) := by decide +kernel
theorem dX9_partner_68 : decode cX9_partner 68 = .ok (.getfield 60, 3) := by decide +kernel
theorem dX9_partner_71 : decode cX9_partner 71 = .ok (.iload 4, 2) := by decide +kernel
theorem dX9_partner_73 : decode cX9_partner 73 = .ok (.iaload, 1) := by decide +kernel
theorem dX9_partner_74 : decode cX9_partner 74 = .ok (.ineg, 1) := by decide +kernel
theorem dX9_partner_75 : decode cX9_partner 75 = .ok (.iadd, 1) := by decide +kernel
theorem dX9_partner_76 : decode cX9_partner 76 = .ok (.istore 6, 2) := by decide +kernel
theorem dX9_partner_78 : decode cX9_partner 78 = .ok (.iload_n 1, 1) := by decide +kernel
theorem dX9_partner_79 : decode cX9_partner 79 = .ok (.iload 5, 2) := by decide +kernel
theorem dX9_partner_81 : decode cX9_partner 81 = .ok (.idiv, 1) := by decide +kernel
theorem dX9_partner_82 : decode cX9_partner 82 = .ok (.aload_n 0, 1) := by decide +kernel
theorem dX9_partner_83 : decode cX9_partner 83 = .ok (.getfield 204, 3) := by decide +kernel
theorem dX9_partner_86 : decode cX9_partner 86 = .ok (.idiv, 1) := by decide +kernel
theorem dX9_partner_87 : decode cX9_partner 87 = .ok (.iload_n 3, 1) := by decide +kernel
theorem dX9_partner_88 : decode cX9_partner 88 = .ok (.ifCond .eq 13, 3) := by decide +kernel
theorem dX9_partner_91 : decode cX9_partner 91 = .ok (.aload_n 0, 1) := by decide +kernel
theorem dX9_partner_92 : decode cX9_partner 92 = .ok (.getfield 63, 3) := by decide +kernel
theorem dX9_partner_95 : decode cX9_partner 95 = .ok (.iload 4, 2) := by decide +kernel
theorem dX9_partner_97 : decode cX9_partner 97 = .ok (.iaload, 1) := by decide +kernel
theorem dX9_partner_98 : decode cX9_partner 98 = .ok (.goto 11, 3) := by decide +kernel
theorem dX9_partner_101 : decode cX9_partner 101 = .ok (.aload_n 0, 1) := by decide +kernel
theorem dX9_partner_102 : decode cX9_partner 102 = .ok (.getfield 63, 3) := by decide +kernel
theorem dX9_partner_105 : decode cX9_partner 105 = .ok (.iload 4, 2) := by decide +kernel
theorem dX9_partner_107 : decode cX9_partner 107 = .ok (.iaload, 1) := by decide +kernel
theorem dX9_partner_108 : decode cX9_partner 108 = .ok (.ineg, 1) := by decide +kernel
theorem dX9_partner_109 : decode cX9_partner 109 = .ok (.iadd, 1) := by decide +kernel
theorem dX9_partner_110 : decode cX9_partner 110 = .ok (.istore 7, 2) := by decide +kernel
theorem dX9_partner_112 : decode cX9_partner 112 = .ok (.iload 6, 2) := by decide +kernel
theorem dX9_partner_114 : decode cX9_partner 114 = .ok (.ifCond .lt 26, 3) := by decide +kernel
theorem dX9_partner_117 : decode cX9_partner 117 = .ok (.iload 7, 2) := by decide +kernel
theorem dX9_partner_119 : decode cX9_partner 119 = .ok (.ifCond .lt 21, 3) := by decide +kernel
theorem dX9_partner_122 : decode cX9_partner 122 = .ok (.iload 6, 2) := by decide +kernel
theorem dX9_partner_124 : decode cX9_partner 124 = .ok (.aload_n 0, 1) := by decide +kernel
theorem dX9_partner_125 : decode cX9_partner 125 = .ok (.getfield 204, 3) := by decide +kernel
theorem dX9_partner_128 : decode cX9_partner 128 = .ok (.if_icmp .ge 12, 3) := by decide +kernel
theorem dX9_partner_131 : decode cX9_partner 131 = .ok (.iload 7, 2) := by decide +kernel
theorem dX9_partner_133 : decode cX9_partner 133 = .ok (.aload_n 0, 1) := by decide +kernel
theorem dX9_partner_134 : decode cX9_partner 134 = .ok (.getfield 207, 3) := by decide +kernel
theorem dX9_partner_137 : decode cX9_partner 137 = .ok (.if_icmp .lt 7, 3) := by decide +kernel
theorem dX9_partner_140 : decode cX9_partner 140 = .ok (.iconst (-1), 1) := by decide +kernel
theorem dX9_partner_141 : decode cX9_partner 141 = .ok (.goto 38, 3) := by decide +kernel
theorem dX9_partner_144 : decode cX9_partner 144 = .ok (.iload 7, 2) := by decide +kernel
theorem dX9_partner_146 : decode cX9_partner 146 = .ok (.aload_n 0, 1) := by decide +kernel
theorem dX9_partner_147 : decode cX9_partner 147 = .ok (.getfield 204, 3) := by decide +kernel
theorem dX9_partner_150 : decode cX9_partner 150 = .ok (.imul, 1) := by decide +kernel
theorem dX9_partner_151 : decode cX9_partner 151 = .ok (.iload 6, 2) := by decide +kernel
theorem dX9_partner_153 : decode cX9_partner 153 = .ok (.iadd, 1) := by decide +kernel
theorem dX9_partner_154 : decode cX9_partner 154 = .ok (.iload 5, 2) := by decide +kernel
theorem dX9_partner_156 : decode cX9_partner 156 = .ok (.imul, 1) := by decide +kernel
theorem dX9_partner_157 : decode cX9_partner 157 = .ok (.iload_n 3, 1) := by decide +kernel
theorem dX9_partner_158 : decode cX9_partner 158 = .ok (.ifCond .eq 13, 3) := by decide +kernel
theorem dX9_partner_161 : decode cX9_partner 161 = .ok (.aload_n 0, 1) := by decide +kernel
theorem dX9_partner_162 : decode cX9_partner 162 = .ok (.getfield 57, 3) := by decide +kernel
theorem dX9_partner_165 : decode cX9_partner 165 = .ok (.iload 4, 2) := by decide +kernel
theorem dX9_partner_167 : decode cX9_partner 167 = .ok (.iaload, 1) := by decide +kernel
theorem dX9_partner_168 : decode cX9_partner 168 = .ok (.goto 10, 3) := by decide +kernel
theorem dX9_partner_171 : decode cX9_partner 171 = .ok (.aload_n 0, 1) := by decide +kernel
theorem dX9_partner_172 : decode cX9_partner 172 = .ok (.getfield 54, 3) := by decide +kernel
theorem dX9_partner_175 : decode cX9_partner 175 = .ok (.iload 4, 2) := by decide +kernel
end
section
theorem dX9_partner_177 : decode cX9_partner 177 = .ok (.iaload, 1) := by decide +kernel
theorem dX9_partner_178 : decode cX9_partner 178 = .ok (.iadd, 1) := by decide +kernel
theorem dX9_partner_179 : decode cX9_partner 179 = .ok (.ireturn, 1) := by decide +kernel
theorem dX9_links_0 : decode cX9_links 0 = .ok (.iconst 0, 1) := by decide +kernel
theorem dX9_links_1 : decode cX9_links 1 = .ok (.istore_n 2, 1) := by decide +kernel
theorem dX9_links_2 : decode cX9_links 2 = .ok (.iload_n 2, 1) := by decide +kernel
theorem dX9_links_3 : decode cX9_links 3 = .ok (.aload_n 0, 1) := by decide +kernel
theorem dX9_links_4 : decode cX9_links 4 = .ok (.getfield 51, 3) := by decide +kernel
theorem dX9_links_7 : decode cX9_links 7 = .ok (.iconst 2, 1) := by decide +kernel
theorem dX9_links_8 : decode cX9_links 8 = .ok (.iaload, 1) := by decide +kernel
theorem dX9_links_9 : decode cX9_links 9 = .ok (.if_icmp .ge 92, 3) := by decide +kernel
theorem dX9_links_12 : decode cX9_links 12 = .ok (.aload_n 0, 1) := by decide +kernel
theorem dX9_links_13 : decode cX9_links 13 = .ok (.getfield 66, 3) := by decide +kernel
theorem dX9_links_16 : decode cX9_links 16 = .ok (.bipush 48, 2) := by decide +kernel
theorem dX9_links_18 : decode cX9_links 18 = .ok (.iload_n 2, 1) := by decide +kernel
theorem dX9_links_19 : decode cX9_links 19 = .ok (.iadd, 1) := by decide +kernel
theorem dX9_links_20 : decode cX9_links 20 = .ok (.baload, 1) := by decide +kernel
theorem dX9_links_21 : decode cX9_links 21 = .ok (.ifCond .eq 7, 3) := by decide +kernel
theorem dX9_links_24 : decode cX9_links 24 = .ok (.iconst 1, 1) := by decide +kernel
theorem dX9_links_25 : decode cX9_links 25 = .ok (.goto 4, 3) := by decide +kernel
theorem dX9_links_28 : decode cX9_links 28 = .ok (.iconst (-1), 1) := by decide +kernel
theorem dX9_links_29 : decode cX9_links 29 = .ok (.istore_n 3, 1) := by decide +kernel
theorem dX9_links_30 : decode cX9_links 30 = .ok (.aload_n 0, 1) := by decide +kernel
theorem dX9_links_31 : decode cX9_links 31 = .ok (.iload_n 1, 1) := by decide +kernel
theorem dX9_links_32 : decode cX9_links 32 = .ok (.iload_n 2, 1) := by decide +kernel
theorem dX9_links_33 : decode cX9_links 33 = .ok (.iconst 1, 1) := by decide +kernel
theorem dX9_links_34 : decode cX9_links 34 = .ok (.invokevirtual 210, 3) := by decide +kernel
theorem dX9_links_37 : decode cX9_links 37 = .ok (.istore 4, 2) := by decide +kernel
theorem dX9_links_39 : decode cX9_links 39 = .ok (.aload_n 0, 1) := by decide +kernel
theorem dX9_links_40 : decode cX9_links 40 = .ok (.iload_n 1, 1) := by decide +kernel
theorem dX9_links_41 : decode cX9_links 41 = .ok (.iload_n 2, 1) := by decide +kernel
theorem dX9_links_42 : decode cX9_links 42 = .ok (.iconst 0, 1) := by decide +kernel
theorem dX9_links_43 : decode cX9_links 43 = .ok (.invokevirtual 210, 3) := by decide +kernel
theorem dX9_links_46 : decode cX9_links 46 = .ok (.istore 5, 2) := by decide +kernel
theorem dX9_links_48 : decode cX9_links 48 = .ok (.iload 4, 2) := by decide +kernel
theorem dX9_links_50 : decode cX9_links 50 = .ok (.ifCond .lt 21, 3) := by decide +kernel
theorem dX9_links_53 : decode cX9_links 53 = .ok (.aload_n 0, 1) := by decide +kernel
theorem dX9_links_54 : decode cX9_links 54 = .ok (.getfield 70, 3) := by decide +kernel
theorem dX9_links_57 : decode cX9_links 57 = .ok (.iload 4, 2) := by decide +kernel
theorem dX9_links_59 : decode cX9_links 59 = .ok (.baload, 1) := by decide +kernel
theorem dX9_links_60 : decode cX9_links 60 = .ok (.ifCond .eq 11, 3) := by decide +kernel
theorem dX9_links_63 : decode cX9_links 63 = .ok (.aload_n 0, 1) := by decide +kernel
theorem dX9_links_64 : decode cX9_links 64 = .ok (.iload_n 1, 1) := by decide +kernel
theorem dX9_links_65 : decode cX9_links 65 = .ok (.iload 4, 2) := by decide +kernel
theorem dX9_links_67 : decode cX9_links 67 = .ok (.iload_n 3, 1) := by decide +kernel
theorem dX9_links_68 : decode cX9_links 68 = .ok (.invokevirtual 214, 3) := by decide +kernel
theorem dX9_links_71 : decode cX9_links 71 = .ok (.iload 5, 2) := by decide +kernel
theorem dX9_links_73 : decode cX9_links 73 = .ok (.ifCond .lt 22, 3) := by decide +kernel
theorem dX9_links_76 : decode cX9_links 76 = .ok (.aload_n 0, 1) := by decide +kernel
theorem dX9_links_77 : decode cX9_links 77 = .ok (.getfield 70, 3) := by decide +kernel
theorem dX9_links_80 : decode cX9_links 80 = .ok (.iload 5, 2) := by decide +kernel
theorem dX9_links_82 : decode cX9_links 82 = .ok (.baload, 1) := by decide +kernel
theorem dX9_links_83 : decode cX9_links 83 = .ok (.ifCond .eq 12, 3) := by decide +kernel
theorem dX9_links_86 : decode cX9_links 86 = .ok (.aload_n 0, 1) := by decide +kernel
theorem dX9_links_87 : decode cX9_links 87 = .ok (.iload_n 1, 1) := by decide +kernel
theorem dX9_links_88 : decode cX9_links 88 = .ok (.iload 5, 2) := by decide +kernel
theorem dX9_links_90 : decode cX9_links 90 = .ok (.iload_n 3, 1) := by decide +kernel
theorem dX9_links_91 : decode cX9_links 91 = .ok (.ineg, 1) := by decide +kernel
theorem dX9_links_92 : decode cX9_links 92 = .ok (.invokevirtual 214, 3) := by decide +kernel
theorem dX9_links_95 : decode cX9_links 95 = .ok (.iinc 2 1, 3) := by decide +kernel
theorem dX9_links_98 : decode cX9_links 98 = .ok (.goto (-96), 3) := by decide +kernel
theorem dX9_links_101 : decode cX9_links 101 = .ok (.return_, 1) := by decide +kernel
theorem dX9_lay__0 : decode cX9_lay_ 0 = .ok (.aload_n 0, 1) := by decide +kernel
theorem dX9_lay__1 : decode cX9_lay_ 1 = .ok (.iconst 0, 1) := by decide +kernel
theorem dX9_lay__2 : decode cX9_lay_ 2 = .ok (.putfield 1, 3) := by decide +kernel
theorem dX9_lay__5 : decode cX9_lay_ 5 = .ok (.aload_n 0, 1) := by decide +kernel
theorem dX9_lay__6 : decode cX9_lay_ 6 = .ok (.getfield 45, 3) := by decide +kernel
theorem dX9_lay__9 : decode cX9_lay_ 9 = .ok (.iconst 0, 1) := by decide +kernel
theorem dX9_lay__10 : decode cX9_lay_ 10 = .ok (.iaload, 1) := by decide +kernel
theorem dX9_lay__11 : decode cX9_lay_ 11 = .ok (.ifCond .eq 41, 3) := by decide +kernel
theorem dX9_lay__14 : decode cX9_lay_ 14 = .ok (.iload_n 1, 1) := by decide +kernel
theorem dX9_lay__15 : decode cX9_lay_ 15 = .ok (.iconst 1, 1) := by decide +kernel
theorem dX9_lay__16 : decode cX9_lay_ 16 = .ok (.if_icmp .lt 36, 3) := by decide +kernel
theorem dX9_lay__19 : decode cX9_lay_ 19 = .ok (.iload_n 1, 1) := by decide +kernel
theorem dX9_lay__20 : decode cX9_lay_ 20 = .ok (.bipush 12, 2) := by decide +kernel
theorem dX9_lay__22 : decode cX9_lay_ 22 = .ok (.if_icmp .gt 30, 3) := by decide +kernel
theorem dX9_lay__25 : decode cX9_lay_ 25 = .ok (.iload_n 2, 1) := by decide +kernel
theorem dX9_lay__26 : decode cX9_lay_ 26 = .ok (.iconst 1, 1) := by decide +kernel
theorem dX9_lay__27 : decode cX9_lay_ 27 = .ok (.if_icmp .lt 25, 3) := by decide +kernel
theorem dX9_lay__30 : decode cX9_lay_ 30 = .ok (.iload_n 2, 1) := by decide +kernel
theorem dX9_lay__31 : decode cX9_lay_ 31 = .ok (.bipush 12, 2) := by decide +kernel
theorem dX9_lay__33 : decode cX9_lay_ 33 = .ok (.if_icmp .gt 19, 3) := by decide +kernel
theorem dX9_lay__36 : decode cX9_lay_ 36 = .ok (.iload_n 1, 1) := by decide +kernel
theorem dX9_lay__37 : decode cX9_lay_ 37 = .ok (.iload_n 2, 1) := by decide +kernel
theorem dX9_lay__38 : decode cX9_lay_ 38 = .ok (.imul, 1) := by decide +kernel
theorem dX9_lay__39 : decode cX9_lay_ 39 = .ok (.aload_n 0, 1) := by decide +kernel
theorem dX9_lay__40 : decode cX9_lay_ 40 = .ok (.getfield 45, 3) := by decide +kernel
theorem dX9_lay__43 : decode cX9_lay_ 43 = .ok (.iconst 0, 1) := by decide +kernel
theorem dX9_lay__44 : decode cX9_lay_ 44 = .ok (.iaload, 1) := by decide +kernel
theorem dX9_lay__45 : decode cX9_lay_ 45 = .ok (.imul, 1) := by decide +kernel
theorem dX9_lay__46 : decode cX9_lay_ 46 = .ok (.sipush 240, 3) := by decide +kernel
theorem dX9_lay__49 : decode cX9_lay_ 49 = .ok (.if_icmp .le 5, 3) := by decide +kernel
theorem dX9_lay__52 : decode cX9_lay_ 52 = .ok (.iconst (-1), 1) := by decide +kernel
theorem dX9_lay__53 : decode cX9_lay_ 53 = .ok (.ireturn, 1) := by decide +kernel
theorem dX9_lay__54 : decode cX9_lay_ 54 = .ok (.aload_n 0, 1) := by decide +kernel
theorem dX9_lay__55 : decode cX9_lay_ 55 = .ok (.iconst 0, 1) := by decide +kernel
theorem dX9_lay__56 : decode cX9_lay_ 56 = .ok (.iconst 2, 1) := by decide +kernel
theorem dX9_lay__57 : decode cX9_lay_ 57 = .ok (.invokevirtual 170, 3) := by decide +kernel
theorem dX9_lay__60 : decode cX9_lay_ 60 = .ok (.aload_n 0, 1) := by decide +kernel
theorem dX9_lay__61 : decode cX9_lay_ 61 = .ok (.iload_n 1, 1) := by decide +kernel
theorem dX9_lay__62 : decode cX9_lay_ 62 = .ok (.putfield 204, 3) := by decide +kernel
theorem dX9_lay__65 : decode cX9_lay_ 65 = .ok (.aload_n 0, 1) := by decide +kernel
theorem dX9_lay__66 : decode cX9_lay_ 66 = .ok (.iload_n 2, 1) := by decide +kernel
theorem dX9_lay__67 : decode cX9_lay_ 67 = .ok (.putfield 207, 3) := by decide +kernel
theorem dX9_lay__70 : decode cX9_lay_ 70 = .ok (.aload_n 0, 1) := by decide +kernel
theorem dX9_lay__71 : decode cX9_lay_ 71 = .ok (.iload_n 1, 1) := by decide +kernel
theorem dX9_lay__72 : decode cX9_lay_ 72 = .ok (.iload_n 2, 1) := by decide +kernel
theorem dX9_lay__73 : decode cX9_lay_ 73 = .ok (.imul, 1) := by decide +kernel
theorem dX9_lay__74 : decode cX9_lay_ 74 = .ok (.aload_n 0, 1) := by decide +kernel
theorem dX9_lay__75 : decode cX9_lay_ 75 = .ok (.getfield 45, 3) := by decide +kernel
theorem dX9_lay__78 : decode cX9_lay_ 78 = .ok (.iconst 2, 1) := by decide +kernel
theorem dX9_lay__79 : decode cX9_lay_ 79 = .ok (.iaload, 1) := by decide +kernel
theorem dX9_lay__80 : decode cX9_lay_ 80 = .ok (.imul, 1) := by decide +kernel
theorem dX9_lay__81 : decode cX9_lay_ 81 = .ok (.putfield 218, 3) := by decide +kernel
theorem dX9_lay__84 : decode cX9_lay_ 84 = .ok (.aload_n 0, 1) := by decide +kernel
theorem dX9_lay__85 : decode cX9_lay_ 85 = .ok (.aload_n 0, 1) := by decide +kernel
theorem dX9_lay__86 : decode cX9_lay_ 86 = .ok (.getfield 218, 3) := by decide +kernel
theorem dX9_lay__89 : decode cX9_lay_ 89 = .ok (.putfield 201, 3) := by decide +kernel
theorem dX9_lay__92 : decode cX9_lay_ 92 = .ok (.iconst 0, 1) := by decide +kernel
theorem dX9_lay__93 : decode cX9_lay_ 93 = .ok (.istore_n 3, 1) := by decide +kernel
theorem dX9_lay__94 : decode cX9_lay_ 94 = .ok (.iload_n 3, 1) := by decide +kernel
theorem dX9_lay__95 : decode cX9_lay_ 95 = .ok (.ldc 73, 2) := by decide +kernel
theorem dX9_lay__97 : decode cX9_lay_ 97 = .ok (.if_icmp .ge 16, 3) := by decide +kernel
theorem dX9_lay__100 : decode cX9_lay_ 100 = .ok (.aload_n 0, 1) := by decide +kernel
theorem dX9_lay__101 : decode cX9_lay_ 101 = .ok (.getfield 74, 3) := by decide +kernel
theorem dX9_lay__104 : decode cX9_lay_ 104 = .ok (.iload_n 3, 1) := by decide +kernel
theorem dX9_lay__105 : decode cX9_lay_ 105 = .ok (.iconst 0, 1) := by decide +kernel
theorem dX9_lay__106 : decode cX9_lay_ 106 = .ok (.iastore, 1) := by decide +kernel
theorem dX9_lay__107 : decode cX9_lay_ 107 = .ok (.iinc 3 1, 3) := by decide +kernel
theorem dX9_lay__110 : decode cX9_lay_ 110 = .ok (.goto (-16), 3) := by decide +kernel
theorem dX9_lay__113 : decode cX9_lay_ 113 = .ok (.iconst 0, 1) := by decide +kernel
theorem dX9_lay__114 : decode cX9_lay_ 114 = .ok (.istore_n 3, 1) := by decide +kernel
theorem dX9_lay__115 : decode cX9_lay_ 115 = .ok (.iload_n 3, 1) := by decide +kernel
theorem dX9_lay__116 : decode cX9_lay_ 116 = .ok (.sipush 300, 3) := by decide +kernel
theorem dX9_lay__119 : decode cX9_lay_ 119 = .ok (.if_icmp .ge 28, 3) := by decide +kernel
theorem dX9_lay__122 : decode cX9_lay_ 122 = .ok (.aload_n 0, 1) := by decide +kernel
theorem dX9_lay__123 : decode cX9_lay_ 123 = .ok (.getfield 70, 3) := by decide +kernel
theorem dX9_lay__126 : decode cX9_lay_ 126 = .ok (.iload_n 3, 1) := by decide +kernel
theorem dX9_lay__127 : decode cX9_lay_ 127 = .ok (.iload_n 3, 1) := by decide +kernel
theorem dX9_lay__128 : decode cX9_lay_ 128 = .ok (.aload_n 0, 1) := by decide +kernel
theorem dX9_lay__129 : decode cX9_lay_ 129 = .ok (.getfield 201, 3) := by decide +kernel
theorem dX9_lay__132 : decode cX9_lay_ 132 = .ok (.if_icmp .ge 7, 3) := by decide +kernel
theorem dX9_lay__135 : decode cX9_lay_ 135 = .ok (.iconst 1, 1) := by decide +kernel
theorem dX9_lay__136 : decode cX9_lay_ 136 = .ok (.goto 4, 3) := by decide +kernel
theorem dX9_lay__139 : decode cX9_lay_ 139 = .ok (.iconst 0, 1) := by decide +kernel
theorem dX9_lay__140 : decode cX9_lay_ 140 = .ok (.bastore, 1) := by decide +kernel
theorem dX9_lay__141 : decode cX9_lay_ 141 = .ok (.iinc 3 1, 3) := by decide +kernel
theorem dX9_lay__144 : decode cX9_lay_ 144 = .ok (.goto (-29), 3) := by decide +kernel
theorem dX9_lay__147 : decode cX9_lay_ 147 = .ok (.iconst 0, 1) := by decide +kernel
theorem dX9_lay__148 : decode cX9_lay_ 148 = .ok (.istore_n 3, 1) := by decide +kernel
theorem dX9_lay__149 : decode cX9_lay_ 149 = .ok (.iload_n 3, 1) := by decide +kernel
theorem dX9_lay__150 : decode cX9_lay_ 150 = .ok (.aload_n 0, 1) := by decide +kernel
theorem dX9_lay__151 : decode cX9_lay_ 151 = .ok (.getfield 201, 3) := by decide +kernel
theorem dX9_lay__154 : decode cX9_lay_ 154 = .ok (.if_icmp .ge 14, 3) := by decide +kernel
theorem dX9_lay__157 : decode cX9_lay_ 157 = .ok (.aload_n 0, 1) := by decide +kernel
theorem dX9_lay__158 : decode cX9_lay_ 158 = .ok (.iload_n 3, 1) := by decide +kernel
theorem dX9_lay__159 : decode cX9_lay_ 159 = .ok (.invokevirtual 221, 3) := by decide +kernel
theorem dX9_lay__162 : decode cX9_lay_ 162 = .ok (.iinc 3 1, 3) := by decide +kernel
theorem dX9_lay__165 : decode cX9_lay_ 165 = .ok (.goto (-16), 3) := by decide +kernel
theorem dX9_lay__168 : decode cX9_lay_ 168 = .ok (.aload_n 0, 1) := by decide +kernel
theorem dX9_lay__169 : decode cX9_lay_ 169 = .ok (.getfield 201, 3) := by decide +kernel
theorem dX9_lay__172 : decode cX9_lay_ 172 = .ok (.ireturn, 1) := by decide +kernel
theorem dX9_at_0 : decode cX9_at 0 = .ok (.aload_n 0, 1) := by decide +kernel
theorem dX9_at_1 : decode cX9_at 1 = .ok (.iconst 0, 1) := by decide +kernel
theorem dX9_at_2 : decode cX9_at 2 = .ok (.putfield 1, 3) := by decide +kernel
theorem dX9_at_5 : decode cX9_at 5 = .ok (.iload_n 1, 1) := by decide +kernel
theorem dX9_at_6 : decode cX9_at 6 = .ok (.ifCond .lt 41, 3) := by decide +kernel
theorem dX9_at_9 : decode cX9_at 9 = .ok (.iload_n 1, 1) := by decide +kernel
theorem dX9_at_10 : decode cX9_at 10 = .ok (.aload_n 0, 1) := by decide +kernel
theorem dX9_at_11 : decode cX9_at 11 = .ok (.getfield 204, 3) := by decide +kernel
theorem dX9_at_14 : decode cX9_at 14 = .ok (.if_icmp .ge 33, 3) := by decide +kernel
theorem dX9_at_17 : decode cX9_at 17 = .ok (.iload_n 2, 1) := by decide +kernel
theorem dX9_at_18 : decode cX9_at 18 = .ok (.ifCond .lt 29, 3) := by decide +kernel
theorem dX9_at_21 : decode cX9_at 21 = .ok (.iload_n 2, 1) := by decide +kernel
theorem dX9_at_22 : decode cX9_at 22 = .ok (.aload_n 0, 1) := by decide +kernel
theorem dX9_at_23 : decode cX9_at 23 = .ok (.getfield 207, 3) := by decide +kernel
theorem dX9_at_26 : decode cX9_at 26 = .ok (.if_icmp .ge 21, 3) := by decide +kernel
theorem dX9_at_29 : decode cX9_at 29 = .ok (.iload_n 3, 1) := by decide +kernel
theorem dX9_at_30 : decode cX9_at 30 = .ok (.ifCond .lt 17, 3) := by decide +kernel
theorem dX9_at_33 : decode cX9_at 33 = .ok (.iload_n 3, 1) := by decide +kernel
theorem dX9_at_34 : decode cX9_at 34 = .ok (.aload_n 0, 1) := by decide +kernel
theorem dX9_at_35 : decode cX9_at 35 = .ok (.getfield 45, 3) := by decide +kernel
theorem dX9_at_38 : decode cX9_at 38 = .ok (.iconst 2, 1) := by decide +kernel
theorem dX9_at_39 : decode cX9_at 39 = .ok (.iaload, 1) := by decide +kernel
theorem dX9_at_40 : decode cX9_at 40 = .ok (.if_icmp .ge 7, 3) := by decide +kernel
theorem dX9_at_43 : decode cX9_at 43 = .ok (.iconst 1, 1) := by decide +kernel
theorem dX9_at_44 : decode cX9_at 44 = .ok (.goto 4, 3) := by decide +kernel
theorem dX9_at_47 : decode cX9_at 47 = .ok (.iconst 0, 1) := by decide +kernel
theorem dX9_at_48 : decode cX9_at 48 = .ok (.istore 4, 2) := by decide +kernel
theorem dX9_at_50 : decode cX9_at 50 = .ok (.iload 4, 2) := by decide +kernel
theorem dX9_at_52 : decode cX9_at 52 = .ok (.ifCond .eq 23, 3) := by decide +kernel
theorem dX9_at_55 : decode cX9_at 55 = .ok (.iload_n 2, 1) := by decide +kernel
theorem dX9_at_56 : decode cX9_at 56 = .ok (.aload_n 0, 1) := by decide +kernel
theorem dX9_at_57 : decode cX9_at 57 = .ok (.getfield 204, 3) := by decide +kernel
theorem dX9_at_60 : decode cX9_at 60 = .ok (.imul, 1) := by decide +kernel
theorem dX9_at_61 : decode cX9_at 61 = .ok (.iload_n 1, 1) := by decide +kernel
theorem dX9_at_62 : decode cX9_at 62 = .ok (.iadd, 1) := by decide +kernel
theorem dX9_at_63 : decode cX9_at 63 = .ok (.aload_n 0, 1) := by decide +kernel
theorem dX9_at_64 : decode cX9_at 64 = .ok (.getfield 45, 3) := by decide +kernel
theorem dX9_at_67 : decode cX9_at 67 = .ok (.iconst 2, 1) := by decide +kernel
theorem dX9_at_68 : decode cX9_at 68 = .ok (.iaload, 1) := by decide +kernel
theorem dX9_at_69 : decode cX9_at 69 = .ok (.imul, 1) := by decide +kernel
theorem dX9_at_70 : decode cX9_at 70 = .ok (.iload_n 3, 1) := by decide +kernel
theorem dX9_at_71 : decode cX9_at 71 = .ok (.iadd, 1) := by decide +kernel
theorem dX9_at_72 : decode cX9_at 72 = .ok (.goto 4, 3) := by decide +kernel
theorem dX9_at_75 : decode cX9_at 75 = .ok (.iconst (-1), 1) := by decide +kernel
theorem dX9_at_76 : decode cX9_at 76 = .ok (.ireturn, 1) := by decide +kernel
theorem dX9_add_0 : decode cX9_add 0 = .ok (.aload_n 0, 1) := by decide +kernel
theorem dX9_add_1 : decode cX9_add 1 = .ok (.iconst 0, 1) := by decide +kernel
theorem dX9_add_2 : decode cX9_add 2 = .ok (.putfield 1, 3) := by decide +kernel
theorem dX9_add_5 : decode cX9_add 5 = .ok (.aload_n 0, 1) := by decide +kernel
theorem dX9_add_6 : decode cX9_add 6 = .ok (.getfield 201, 3) := by decide +kernel
theorem dX9_add_9 : decode cX9_add 9 = .ok (.sipush 300, 3) := by decide +kernel
theorem dX9_add_12 : decode cX9_add 12 = .ok (.if_icmp .ne 5, 3) := by decide +kernel
theorem dX9_add_15 : decode cX9_add 15 = .ok (.iconst (-1), 1) := by decide +kernel
theorem dX9_add_16 : decode cX9_add 16 = .ok (.ireturn, 1) := by decide +kernel
theorem dX9_add_17 : decode cX9_add 17 = .ok (.aload_n 0, 1) := by decide +kernel
theorem dX9_add_18 : decode cX9_add 18 = .ok (.getfield 70, 3) := by decide +kernel
theorem dX9_add_21 : decode cX9_add 21 = .ok (.aload_n 0, 1) := by decide +kernel
theorem dX9_add_22 : decode cX9_add 22 = .ok (.getfield 201, 3) := by decide +kernel
theorem dX9_add_25 : decode cX9_add 25 = .ok (.iconst 1, 1) := by decide +kernel
theorem dX9_add_26 : decode cX9_add 26 = .ok (.bastore, 1) := by decide +kernel
theorem dX9_add_27 : decode cX9_add 27 = .ok (.aload_n 0, 1) := by decide +kernel
theorem dX9_add_28 : decode cX9_add 28 = .ok (.dup, 1) := by decide +kernel
theorem dX9_add_29 : decode cX9_add 29 = .ok (.getfield 201, 3) := by decide +kernel
theorem dX9_add_32 : decode cX9_add 32 = .ok (.iconst 1, 1) := by decide +kernel
theorem dX9_add_33 : decode cX9_add 33 = .ok (.iadd, 1) := by decide +kernel
theorem dX9_add_34 : decode cX9_add 34 = .ok (.putfield 201, 3) := by decide +kernel
theorem dX9_add_37 : decode cX9_add 37 = .ok (.aload_n 0, 1) := by decide +kernel
theorem dX9_add_38 : decode cX9_add 38 = .ok (.getfield 201, 3) := by decide +kernel
theorem dX9_add_41 : decode cX9_add 41 = .ok (.iconst 1, 1) := by decide +kernel
theorem dX9_add_42 : decode cX9_add 42 = .ok (.isub, 1) := by decide +kernel
theorem dX9_add_43 : decode cX9_add 43 = .ok (.ireturn, 1) := by decide +kernel
theorem dX9_linksOf_0 : decode cX9_linksOf 0 = .ok (.iconst 0, 1) := by decide +kernel
theorem dX9_linksOf_1 : decode cX9_linksOf 1 = .ok (.istore_n 2, 1) := by decide +kernel
theorem dX9_linksOf_2 : decode cX9_linksOf 2 = .ok (.iconst 0, 1) := by decide +kernel
theorem dX9_linksOf_3 : decode cX9_linksOf 3 = .ok (.istore_n 3, 1) := by decide +kernel
theorem dX9_linksOf_4 : decode cX9_linksOf 4 = .ok (.iload_n 3, 1) := by decide +kernel
theorem dX9_linksOf_5 : decode cX9_linksOf 5 = .ok (.aload_n 0, 1) := by decide +kernel
theorem dX9_linksOf_6 : decode cX9_linksOf 6 = .ok (.getfield 201, 3) := by decide +kernel
theorem dX9_linksOf_9 : decode cX9_linksOf 9 = .ok (.if_icmp .ge 32, 3) := by decide +kernel
theorem dX9_linksOf_12 : decode cX9_linksOf 12 = .ok (.iload_n 2, 1) := by decide +kernel
theorem dX9_linksOf_13 : decode cX9_linksOf 13 = .ok (.aload_n 0, 1) := by decide +kernel
theorem dX9_linksOf_14 : decode cX9_linksOf 14 = .ok (.getfield 74, 3) := by decide +kernel
theorem dX9_linksOf_17 : decode cX9_linksOf 17 = .ok (.sipush 300, 3) := by decide +kernel
theorem dX9_linksOf_20 : decode cX9_linksOf 20 = .ok (.iload_n 1, 1) := by decide +kernel
theorem dX9_linksOf_21 : decode cX9_linksOf 21 = .ok (.imul, 1) := by decide +kernel
theorem dX9_linksOf_22 : decode cX9_linksOf 22 = .ok (.iload_n 3, 1) := by decide +kernel
theorem dX9_linksOf_23 : decode cX9_linksOf 23 = .ok (.iadd, 1) := by decide +kernel
theorem dX9_linksOf_24 : decode cX9_linksOf 24 = .ok (.iaload, 1) := by decide +kernel
theorem dX9_linksOf_25 : decode cX9_linksOf 25 = .ok (.ifCond .eq 7, 3) := by decide +kernel
theorem dX9_linksOf_28 : decode cX9_linksOf 28 = .ok (.iconst 1, 1) := by decide +kernel
theorem dX9_linksOf_29 : decode cX9_linksOf 29 = .ok (.goto 4, 3) := by decide +kernel
theorem dX9_linksOf_32 : decode cX9_linksOf 32 = .ok (.iconst 0, 1) := by decide +kernel
theorem dX9_linksOf_33 : decode cX9_linksOf 33 = .ok (.iadd, 1) := by decide +kernel
theorem dX9_linksOf_34 : decode cX9_linksOf 34 = .ok (.istore_n 2, 1) := by decide +kernel
theorem dX9_linksOf_35 : decode cX9_linksOf 35 = .ok (.iinc 3 1, 3) := by decide +kernel
theorem dX9_linksOf_38 : decode cX9_linksOf 38 = .ok (.goto (-34), 3) := by decide +kernel
theorem dX9_linksOf_41 : decode cX9_linksOf 41 = .ok (.iload_n 2, 1) := by decide +kernel
theorem dX9_linksOf_42 : decode cX9_linksOf 42 = .ok (.ireturn, 1) := by decide +kernel
theorem dX9_take_0 : decode cX9_take 0 = .ok (.aload_n 0, 1) := by decide +kernel
theorem dX9_take_1 : decode cX9_take 1 = .ok (.iconst 0, 1) := by decide +kernel
theorem dX9_take_2 : decode cX9_take 2 = .ok (.putfield 1, 3) := by decide +kernel
theorem dX9_take_5 : decode cX9_take 5 = .ok (.aload_n 0, 1) := by decide +kernel
theorem dX9_take_6 : decode cX9_take 6 = .ok (.iload_n 1, 1) := by decide +kernel
theorem dX9_take_7 : decode cX9_take 7 = .ok (.invokevirtual 223, 3) := by decide +kernel
theorem dX9_take_10 : decode cX9_take 10 = .ok (.ifCond .ne 5, 3) := by decide +kernel
theorem dX9_take_13 : decode cX9_take 13 = .ok (.iconst (-1), 1) := by decide +kernel
theorem dX9_take_14 : decode cX9_take 14 = .ok (.ireturn, 1) := by decide +kernel
theorem dX9_take_15 : decode cX9_take 15 = .ok (.aload_n 0, 1) := by decide +kernel
theorem dX9_take_16 : decode cX9_take 16 = .ok (.iload_n 1, 1) := by decide +kernel
theorem dX9_take_17 : decode cX9_take 17 = .ok (.invokevirtual 226, 3) := by decide +kernel
theorem dX9_take_20 : decode cX9_take 20 = .ok (.istore_n 2, 1) := by decide +kernel
theorem dX9_take_21 : decode cX9_take 21 = .ok (.iconst 0, 1) := by decide +kernel
theorem dX9_take_22 : decode cX9_take 22 = .ok (.istore_n 3, 1) := by decide +kernel
theorem dX9_take_23 : decode cX9_take 23 = .ok (.iload_n 3, 1) := by decide +kernel
theorem dX9_take_24 : decode cX9_take 24 = .ok (.aload_n 0, 1) := by decide +kernel
theorem dX9_take_25 : decode cX9_take 25 = .ok (.getfield 201, 3) := by decide +kernel
theorem dX9_take_28 : decode cX9_take 28 = .ok (.if_icmp .ge 16, 3) := by decide +kernel
theorem dX9_take_31 : decode cX9_take 31 = .ok (.aload_n 0, 1) := by decide +kernel
theorem dX9_take_32 : decode cX9_take 32 = .ok (.iload_n 1, 1) := by decide +kernel
theorem dX9_take_33 : decode cX9_take 33 = .ok (.iload_n 3, 1) := by decide +kernel
theorem dX9_take_34 : decode cX9_take 34 = .ok (.iconst 0, 1) := by decide +kernel
theorem dX9_take_35 : decode cX9_take 35 = .ok (.invokevirtual 214, 3) := by decide +kernel
theorem dX9_take_38 : decode cX9_take 38 = .ok (.iinc 3 1, 3) := by decide +kernel
theorem dX9_take_41 : decode cX9_take 41 = .ok (.goto (-18), 3) := by decide +kernel
theorem dX9_take_44 : decode cX9_take 44 = .ok (.aload_n 0, 1) := by decide +kernel
theorem dX9_take_45 : decode cX9_take 45 = .ok (.getfield 70, 3) := by decide +kernel
theorem dX9_take_48 : decode cX9_take 48 = .ok (.iload_n 1, 1) := by decide +kernel
theorem dX9_take_49 : decode cX9_take 49 = .ok (.iconst 0, 1) := by decide +kernel
theorem dX9_take_50 : decode cX9_take 50 = .ok (.bastore, 1) := by decide +kernel
theorem dX9_take_51 : decode cX9_take 51 = .ok (.iload_n 2, 1) := by decide +kernel
theorem dX9_take_52 : decode cX9_take 52 = .ok (.ireturn, 1) := by decide +kernel
theorem dX9_areLinked_0 : decode cX9_areLinked 0 = .ok (.aload_n 0, 1) := by decide +kernel
theorem dX9_areLinked_1 : decode cX9_areLinked 1 = .ok (.getfield 74, 3) := by decide +kernel
theorem dX9_areLinked_4 : decode cX9_areLinked 4 = .ok (.sipush 300, 3) := by decide +kernel
theorem dX9_areLinked_7 : decode cX9_areLinked 7 = .ok (.iload_n 1, 1) := by decide +kernel
theorem dX9_areLinked_8 : decode cX9_areLinked 8 = .ok (.imul, 1) := by decide +kernel
theorem dX9_areLinked_9 : decode cX9_areLinked 9 = .ok (.iload_n 2, 1) := by decide +kernel
theorem dX9_areLinked_10 : decode cX9_areLinked 10 = .ok (.iadd, 1) := by decide +kernel
theorem dX9_areLinked_11 : decode cX9_areLinked 11 = .ok (.iaload, 1) := by decide +kernel
theorem dX9_areLinked_12 : decode cX9_areLinked 12 = .ok (.ifCond .eq 7, 3) := by decide +kernel
theorem dX9_areLinked_15 : decode cX9_areLinked 15 = .ok (.iconst 1, 1) := by decide +kernel
theorem dX9_areLinked_16 : decode cX9_areLinked 16 = .ok (.goto 4, 3) := by decide +kernel
theorem dX9_areLinked_19 : decode cX9_areLinked 19 = .ok (.iconst 0, 1) := by decide +kernel
theorem dX9_areLinked_20 : decode cX9_areLinked 20 = .ok (.ireturn, 1) := by decide +kernel
theorem dX9_link_0 : decode cX9_link 0 = .ok (.aload_n 0, 1) := by decide +kernel
theorem dX9_link_1 : decode cX9_link 1 = .ok (.iconst 0, 1) := by decide +kernel
theorem dX9_link_2 : decode cX9_link 2 = .ok (.putfield 1, 3) := by decide +kernel
theorem dX9_link_5 : decode cX9_link 5 = .ok (.aload_n 0, 1) := by decide +kernel
theorem dX9_link_6 : decode cX9_link 6 = .ok (.iload_n 1, 1) := by decide +kernel
theorem dX9_link_7 : decode cX9_link 7 = .ok (.invokevirtual 223, 3) := by decide +kernel
theorem dX9_link_10 : decode cX9_link 10 = .ok (.ifCond .eq 25, 3) := by decide +kernel
theorem dX9_link_13 : decode cX9_link 13 = .ok (.aload_n 0, 1) := by decide +kernel
theorem dX9_link_14 : decode cX9_link 14 = .ok (.iload_n 2, 1) := by decide +kernel
theorem dX9_link_15 : decode cX9_link 15 = .ok (.invokevirtual 223, 3) := by decide +kernel
theorem dX9_link_18 : decode cX9_link 18 = .ok (.ifCond .eq 17, 3) := by decide +kernel
theorem dX9_link_21 : decode cX9_link 21 = .ok (.iload_n 1, 1) := by decide +kernel
theorem dX9_link_22 : decode cX9_link 22 = .ok (.iload_n 2, 1) := by decide +kernel
theorem dX9_link_23 : decode cX9_link 23 = .ok (.if_icmp .eq 12, 3) := by decide +kernel
theorem dX9_link_26 : decode cX9_link 26 = .ok (.aload_n 0, 1) := by decide +kernel
theorem dX9_link_27 : decode cX9_link 27 = .ok (.iload_n 1, 1) := by decide +kernel
theorem dX9_link_28 : decode cX9_link 28 = .ok (.iload_n 2, 1) := by decide +kernel
theorem dX9_link_29 : decode cX9_link 29 = .ok (.invokevirtual 229, 3) := by decide +kernel
theorem dX9_link_32 : decode cX9_link 32 = .ok (.ifCond .eq 5, 3) := by decide +kernel
theorem dX9_link_35 : decode cX9_link 35 = .ok (.iconst 0, 1) := by decide +kernel
theorem dX9_link_36 : decode cX9_link 36 = .ok (.ireturn, 1) := by decide +kernel
theorem dX9_link_37 : decode cX9_link 37 = .ok (.aload_n 0, 1) := by decide +kernel
theorem dX9_link_38 : decode cX9_link 38 = .ok (.iload_n 1, 1) := by decide +kernel
theorem dX9_link_39 : decode cX9_link 39 = .ok (.iload_n 2, 1) := by decide +kernel
theorem dX9_link_40 : decode cX9_link 40 = .ok (.iconst 1, 1) := by decide +kernel
theorem dX9_link_41 : decode cX9_link 41 = .ok (.invokevirtual 214, 3) := by decide +kernel
theorem dX9_link_44 : decode cX9_link 44 = .ok (.iconst 1, 1) := by decide +kernel
theorem dX9_link_45 : decode cX9_link 45 = .ok (.ireturn, 1) := by decide +kernel
theorem dX9_unlink_0 : decode cX9_unlink 0 = .ok (.aload_n 0, 1) := by decide +kernel
theorem dX9_unlink_1 : decode cX9_unlink 1 = .ok (.iconst 0, 1) := by decide +kernel
theorem dX9_unlink_2 : decode cX9_unlink 2 = .ok (.putfield 1, 3) := by decide +kernel
theorem dX9_unlink_5 : decode cX9_unlink 5 = .ok (.aload_n 0, 1) := by decide +kernel
theorem dX9_unlink_6 : decode cX9_unlink 6 = .ok (.iload_n 1, 1) := by decide +kernel
theorem dX9_unlink_7 : decode cX9_unlink 7 = .ok (.invokevirtual 223, 3) := by decide +kernel
theorem dX9_unlink_10 : decode cX9_unlink 10 = .ok (.ifCond .eq 20, 3) := by decide +kernel
theorem dX9_unlink_13 : decode cX9_unlink 13 = .ok (.aload_n 0, 1) := by decide +kernel
theorem dX9_unlink_14 : decode cX9_unlink 14 = .ok (.iload_n 2, 1) := by decide +kernel
theorem dX9_unlink_15 : decode cX9_unlink 15 = .ok (.invokevirtual 223, 3) := by decide +kernel
theorem dX9_unlink_18 : decode cX9_unlink 18 = .ok (.ifCond .eq 12, 3) := by decide +kernel
theorem dX9_unlink_21 : decode cX9_unlink 21 = .ok (.aload_n 0, 1) := by decide +kernel
theorem dX9_unlink_22 : decode cX9_unlink 22 = .ok (.iload_n 1, 1) := by decide +kernel
theorem dX9_unlink_23 : decode cX9_unlink 23 = .ok (.iload_n 2, 1) := by decide +kernel
theorem dX9_unlink_24 : decode cX9_unlink 24 = .ok (.invokevirtual 229, 3) := by decide +kernel
theorem dX9_unlink_27 : decode cX9_unlink 27 = .ok (.ifCond .ne 5, 3) := by decide +kernel
theorem dX9_unlink_30 : decode cX9_unlink 30 = .ok (.iconst 0, 1) := by decide +kernel
theorem dX9_unlink_31 : decode cX9_unlink 31 = .ok (.ireturn, 1) := by decide +kernel
theorem dX9_unlink_32 : decode cX9_unlink 32 = .ok (.aload_n 0, 1) := by decide +kernel
theorem dX9_unlink_33 : decode cX9_unlink 33 = .ok (.iload_n 1, 1) := by decide +kernel
theorem dX9_unlink_34 : decode cX9_unlink 34 = .ok (.iload_n 2, 1) := by decide +kernel
theorem dX9_unlink_35 : decode cX9_unlink 35 = .ok (.iconst 0, 1) := by decide +kernel
theorem dX9_unlink_36 : decode cX9_unlink 36 = .ok (.invokevirtual 214, 3) := by decide +kernel
theorem dX9_unlink_39 : decode cX9_unlink 39 = .ok (.iconst 1, 1) := by decide +kernel
theorem dX9_unlink_40 : decode cX9_unlink 40 = .ok (.ireturn, 1) := by decide +kernel
theorem dX9_mend_0 : decode cX9_mend 0 = .ok (.aload_n 0, 1) := by decide +kernel
theorem dX9_mend_1 : decode cX9_mend 1 = .ok (.iconst 0, 1) := by decide +kernel
theorem dX9_mend_2 : decode cX9_mend 2 = .ok (.putfield 1, 3) := by decide +kernel
theorem dX9_mend_5 : decode cX9_mend 5 = .ok (.iconst 0, 1) := by decide +kernel
theorem dX9_mend_6 : decode cX9_mend 6 = .ok (.istore_n 1, 1) := by decide +kernel
theorem dX9_mend_7 : decode cX9_mend 7 = .ok (.iconst 0, 1) := by decide +kernel
theorem dX9_mend_8 : decode cX9_mend 8 = .ok (.istore_n 2, 1) := by decide +kernel
theorem dX9_mend_9 : decode cX9_mend 9 = .ok (.iload_n 2, 1) := by decide +kernel
theorem dX9_mend_10 : decode cX9_mend 10 = .ok (.aload_n 0, 1) := by decide +kernel
theorem dX9_mend_11 : decode cX9_mend 11 = .ok (.getfield 218, 3) := by decide +kernel
theorem dX9_mend_14 : decode cX9_mend 14 = .ok (.if_icmp .ge 46, 3) := by decide +kernel
theorem dX9_mend_17 : decode cX9_mend 17 = .ok (.aload_n 0, 1) := by decide +kernel
theorem dX9_mend_18 : decode cX9_mend 18 = .ok (.getfield 77, 3) := by decide +kernel
theorem dX9_mend_21 : decode cX9_mend 21 = .ok (.iload_n 2, 1) := by decide +kernel
theorem dX9_mend_22 : decode cX9_mend 22 = .ok (.aload_n 0, 1) := by decide +kernel
theorem dX9_mend_23 : decode cX9_mend 23 = .ok (.getfield 70, 3) := by decide +kernel
theorem dX9_mend_26 : decode cX9_mend 26 = .ok (.iload_n 2, 1) := by decide +kernel
theorem dX9_mend_27 : decode cX9_mend 27 = .ok (.baload, 1) := by decide +kernel
theorem dX9_mend_28 : decode cX9_mend 28 = .ok (.ifCond .ne 7, 3) := by decide +kernel
theorem dX9_mend_31 : decode cX9_mend 31 = .ok (.iconst 1, 1) := by decide +kernel
theorem dX9_mend_32 : decode cX9_mend 32 = .ok (.goto 4, 3) := by decide +kernel
theorem dX9_mend_35 : decode cX9_mend 35 = .ok (.iconst 0, 1) := by decide +kernel
theorem dX9_mend_36 : decode cX9_mend 36 = .ok (.bastore, 1) := by decide +kernel
theorem dX9_mend_37 : decode cX9_mend 37 = .ok (.iload_n 1, 1) := by decide +kernel
theorem dX9_mend_38 : decode cX9_mend 38 = .ok (.aload_n 0, 1) := by decide +kernel
theorem dX9_mend_39 : decode cX9_mend 39 = .ok (.getfield 77, 3) := by decide +kernel
theorem dX9_mend_42 : decode cX9_mend 42 = .ok (.iload_n 2, 1) := by decide +kernel
theorem dX9_mend_43 : decode cX9_mend 43 = .ok (.baload, 1) := by decide +kernel
theorem dX9_mend_44 : decode cX9_mend 44 = .ok (.ifCond .eq 7, 3) := by decide +kernel
theorem dX9_mend_47 : decode cX9_mend 47 = .ok (.iconst 1, 1) := by decide +kernel
theorem dX9_mend_48 : decode cX9_mend 48 = .ok (.goto 4, 3) := by decide +kernel
theorem dX9_mend_51 : decode cX9_mend 51 = .ok (.iconst 0, 1) := by decide +kernel
theorem dX9_mend_52 : decode cX9_mend 52 = .ok (.iadd, 1) := by decide +kernel
theorem dX9_mend_53 : decode cX9_mend 53 = .ok (.istore_n 1, 1) := by decide +kernel
theorem dX9_mend_54 : decode cX9_mend 54 = .ok (.iinc 2 1, 3) := by decide +kernel
theorem dX9_mend_57 : decode cX9_mend 57 = .ok (.goto (-48), 3) := by decide +kernel
theorem dX9_mend_60 : decode cX9_mend 60 = .ok (.iconst 0, 1) := by decide +kernel
theorem dX9_mend_61 : decode cX9_mend 61 = .ok (.istore_n 2, 1) := by decide +kernel
theorem dX9_mend_62 : decode cX9_mend 62 = .ok (.iload_n 2, 1) := by decide +kernel
theorem dX9_mend_63 : decode cX9_mend 63 = .ok (.aload_n 0, 1) := by decide +kernel
theorem dX9_mend_64 : decode cX9_mend 64 = .ok (.getfield 218, 3) := by decide +kernel
theorem dX9_mend_67 : decode cX9_mend 67 = .ok (.if_icmp .ge 16, 3) := by decide +kernel
theorem dX9_mend_70 : decode cX9_mend 70 = .ok (.aload_n 0, 1) := by decide +kernel
theorem dX9_mend_71 : decode cX9_mend 71 = .ok (.getfield 70, 3) := by decide +kernel
theorem dX9_mend_74 : decode cX9_mend 74 = .ok (.iload_n 2, 1) := by decide +kernel
theorem dX9_mend_75 : decode cX9_mend 75 = .ok (.iconst 1, 1) := by decide +kernel
theorem dX9_mend_76 : decode cX9_mend 76 = .ok (.bastore, 1) := by decide +kernel
theorem dX9_mend_77 : decode cX9_mend 77 = .ok (.iinc 2 1, 3) := by decide +kernel
theorem dX9_mend_80 : decode cX9_mend 80 = .ok (.goto (-18), 3) := by decide +kernel
theorem dX9_mend_83 : decode cX9_mend 83 = .ok (.iconst 0, 1) := by decide +kernel
theorem dX9_mend_84 : decode cX9_mend 84 = .ok (.istore_n 2, 1) := by decide +kernel
theorem dX9_mend_85 : decode cX9_mend 85 = .ok (.iload_n 2, 1) := by decide +kernel
theorem dX9_mend_86 : decode cX9_mend 86 = .ok (.aload_n 0, 1) := by decide +kernel
theorem dX9_mend_87 : decode cX9_mend 87 = .ok (.getfield 218, 3) := by decide +kernel
theorem dX9_mend_90 : decode cX9_mend 90 = .ok (.if_icmp .ge 23, 3) := by decide +kernel
theorem dX9_mend_93 : decode cX9_mend 93 = .ok (.aload_n 0, 1) := by decide +kernel
theorem dX9_mend_94 : decode cX9_mend 94 = .ok (.getfield 77, 3) := by decide +kernel
theorem dX9_mend_97 : decode cX9_mend 97 = .ok (.iload_n 2, 1) := by decide +kernel
theorem dX9_mend_98 : decode cX9_mend 98 = .ok (.baload, 1) := by decide +kernel
theorem dX9_mend_99 : decode cX9_mend 99 = .ok (.ifCond .eq 8, 3) := by decide +kernel
theorem dX9_mend_102 : decode cX9_mend 102 = .ok (.aload_n 0, 1) := by decide +kernel
theorem dX9_mend_103 : decode cX9_mend 103 = .ok (.iload_n 2, 1) := by decide +kernel
theorem dX9_mend_104 : decode cX9_mend 104 = .ok (.invokevirtual 221, 3) := by decide +kernel
theorem dX9_mend_107 : decode cX9_mend 107 = .ok (.iinc 2 1, 3) := by decide +kernel
theorem dX9_mend_110 : decode cX9_mend 110 = .ok (.goto (-25), 3) := by decide +kernel
theorem dX9_mend_113 : decode cX9_mend 113 = .ok (.iload_n 1, 1) := by decide +kernel
theorem dX9_mend_114 : decode cX9_mend 114 = .ok (.ireturn, 1) := by decide +kernel
theorem dX9_isFull_0 : decode cX9_isFull 0 = .ok (.iload_n 1, 1) := by decide +kernel
theorem dX9_isFull_1 : decode cX9_isFull 1 = .ok (.aload_n 0, 1) := by decide +kernel
theorem dX9_isFull_2 : decode cX9_isFull 2 = .ok (.getfield 218, 3) := by decide +kernel
theorem dX9_isFull_5 : decode cX9_isFull 5 = .ok (.if_icmp .ge 7, 3) := by decide +kernel
theorem dX9_isFull_8 : decode cX9_isFull 8 = .ok (.iconst 1, 1) := by decide +kernel
theorem dX9_isFull_9 : decode cX9_isFull 9 = .ok (.goto 4, 3) := by decide +kernel
theorem dX9_isFull_12 : decode cX9_isFull 12 = .ok (.iconst 0, 1) := by decide +kernel
theorem dX9_isFull_13 : decode cX9_isFull 13 = .ok (.istore_n 2, 1) := by decide +kernel
theorem dX9_isFull_14 : decode cX9_isFull 14 = .ok (.iconst 0, 1) := by decide +kernel
theorem dX9_isFull_15 : decode cX9_isFull 15 = .ok (.istore_n 3, 1) := by decide +kernel
theorem dX9_isFull_16 : decode cX9_isFull 16 = .ok (.iload_n 3, 1) := by decide +kernel
theorem dX9_isFull_17 : decode cX9_isFull 17 = .ok (.aload_n 0, 1) := by decide +kernel
theorem dX9_isFull_18 : decode cX9_isFull 18 = .ok (.getfield 51, 3) := by decide +kernel
theorem dX9_isFull_21 : decode cX9_isFull 21 = .ok (.iconst 2, 1) := by decide +kernel
theorem dX9_isFull_22 : decode cX9_isFull 22 = .ok (.iaload, 1) := by decide +kernel
theorem dX9_isFull_23 : decode cX9_isFull 23 = .ok (.if_icmp .ge 143, 3) := by decide +kernel
theorem dX9_isFull_26 : decode cX9_isFull 26 = .ok (.iload_n 2, 1) := by decide +kernel
theorem dX9_isFull_27 : decode cX9_isFull 27 = .ok (.ifCond .eq 139, 3) := by decide +kernel
theorem dX9_isFull_30 : decode cX9_isFull 30 = .ok (.bipush 48, 2) := by decide +kernel
theorem dX9_isFull_32 : decode cX9_isFull 32 = .ok (.iload_n 3, 1) := by decide +kernel
theorem dX9_isFull_33 : decode cX9_isFull 33 = .ok (.iadd, 1) := by decide +kernel
theorem dX9_isFull_34 : decode cX9_isFull 34 = .ok (.istore 4, 2) := by decide +kernel
theorem dX9_isFull_36 : decode cX9_isFull 36 = .ok (.aload_n 0, 1) := by decide +kernel
theorem dX9_isFull_37 : decode cX9_isFull 37 = .ok (.getfield 66, 3) := by decide +kernel
theorem dX9_isFull_40 : decode cX9_isFull 40 = .ok (.iload 4, 2) := by decide +kernel
theorem dX9_isFull_42 : decode cX9_isFull 42 = .ok (.baload, 1) := by decide +kernel
theorem dX9_isFull_43 : decode cX9_isFull 43 = .ok (.ifCond .eq 7, 3) := by decide +kernel
theorem dX9_isFull_46 : decode cX9_isFull 46 = .ok (.iconst 1, 1) := by decide +kernel
theorem dX9_isFull_47 : decode cX9_isFull 47 = .ok (.goto 4, 3) := by decide +kernel
theorem dX9_isFull_50 : decode cX9_isFull 50 = .ok (.iconst (-1), 1) := by decide +kernel
theorem dX9_isFull_51 : decode cX9_isFull 51 = .ok (.istore 5, 2) := by decide +kernel
theorem dX9_isFull_53 : decode cX9_isFull 53 = .ok (.aload_n 0, 1) := by decide +kernel
theorem dX9_isFull_54 : decode cX9_isFull 54 = .ok (.iload_n 1, 1) := by decide +kernel
theorem dX9_isFull_55 : decode cX9_isFull 55 = .ok (.iload_n 3, 1) := by decide +kernel
theorem dX9_isFull_56 : decode cX9_isFull 56 = .ok (.iconst 1, 1) := by decide +kernel
theorem dX9_isFull_57 : decode cX9_isFull 57 = .ok (.invokevirtual 210, 3) := by decide +kernel
theorem dX9_isFull_60 : decode cX9_isFull 60 = .ok (.istore 6, 2) := by decide +kernel
theorem dX9_isFull_62 : decode cX9_isFull 62 = .ok (.aload_n 0, 1) := by decide +kernel
theorem dX9_isFull_63 : decode cX9_isFull 63 = .ok (.iload_n 1, 1) := by decide +kernel
theorem dX9_isFull_64 : decode cX9_isFull 64 = .ok (.iload_n 3, 1) := by decide +kernel
theorem dX9_isFull_65 : decode cX9_isFull 65 = .ok (.iconst 0, 1) := by decide +kernel
theorem dX9_isFull_66 : decode cX9_isFull 66 = .ok (.invokevirtual 210, 3) := by decide +kernel
theorem dX9_isFull_69 : decode cX9_isFull 69 = .ok (.istore 7, 2) := by decide +kernel
theorem dX9_isFull_71 : decode cX9_isFull 71 = .ok (.iload_n 1, 1) := by decide +kernel
theorem dX9_isFull_72 : decode cX9_isFull 72 = .ok (.aload_n 0, 1) := by decide +kernel
theorem dX9_isFull_73 : decode cX9_isFull 73 = .ok (.getfield 45, 3) := by decide +kernel
theorem dX9_isFull_76 : decode cX9_isFull 76 = .ok (.iconst 2, 1) := by decide +kernel
theorem dX9_isFull_77 : decode cX9_isFull 77 = .ok (.iaload, 1) := by decide +kernel
theorem dX9_isFull_78 : decode cX9_isFull 78 = .ok (.irem, 1) := by decide +kernel
theorem dX9_isFull_79 : decode cX9_isFull 79 = .ok (.aload_n 0, 1) := by decide +kernel
theorem dX9_isFull_80 : decode cX9_isFull 80 = .ok (.getfield 54, 3) := by decide +kernel
theorem dX9_isFull_83 : decode cX9_isFull 83 = .ok (.iload 4, 2) := by decide +kernel
theorem dX9_isFull_85 : decode cX9_isFull 85 = .ok (.iaload, 1) := by decide +kernel
theorem dX9_isFull_86 : decode cX9_isFull 86 = .ok (.if_icmp .ne 26, 3) := by decide +kernel
theorem dX9_isFull_89 : decode cX9_isFull 89 = .ok (.iload 6, 2) := by decide +kernel
theorem dX9_isFull_91 : decode cX9_isFull 91 = .ok (.ifCond .lt 67, 3) := by decide +kernel
theorem dX9_isFull_94 : decode cX9_isFull 94 = .ok (.aload_n 0, 1) := by decide +kernel
theorem dX9_isFull_95 : decode cX9_isFull 95 = .ok (.getfield 74, 3) := by decide +kernel
theorem dX9_isFull_98 : decode cX9_isFull 98 = .ok (.sipush 300, 3) := by decide +kernel
theorem dX9_isFull_101 : decode cX9_isFull 101 = .ok (.iload_n 1, 1) := by decide +kernel
theorem dX9_isFull_102 : decode cX9_isFull 102 = .ok (.imul, 1) := by decide +kernel
theorem dX9_isFull_103 : decode cX9_isFull 103 = .ok (.iload 6, 2) := by decide +kernel
theorem dX9_isFull_105 : decode cX9_isFull 105 = .ok (.iadd, 1) := by decide +kernel
theorem dX9_isFull_106 : decode cX9_isFull 106 = .ok (.iaload, 1) := by decide +kernel
theorem dX9_isFull_107 : decode cX9_isFull 107 = .ok (.iload 5, 2) := by decide +kernel
theorem dX9_isFull_109 : decode cX9_isFull 109 = .ok (.if_icmp .ne 49, 3) := by decide +kernel
theorem dX9_isFull_112 : decode cX9_isFull 112 = .ok (.iload_n 1, 1) := by decide +kernel
theorem dX9_isFull_113 : decode cX9_isFull 113 = .ok (.aload_n 0, 1) := by decide +kernel
theorem dX9_isFull_114 : decode cX9_isFull 114 = .ok (.getfield 45, 3) := by decide +kernel
theorem dX9_isFull_117 : decode cX9_isFull 117 = .ok (.iconst 2, 1) := by decide +kernel
theorem dX9_isFull_118 : decode cX9_isFull 118 = .ok (.iaload, 1) := by decide +kernel
theorem dX9_isFull_119 : decode cX9_isFull 119 = .ok (.irem, 1) := by decide +kernel
theorem dX9_isFull_120 : decode cX9_isFull 120 = .ok (.aload_n 0, 1) := by decide +kernel
theorem dX9_isFull_121 : decode cX9_isFull 121 = .ok (.getfield 57, 3) := by decide +kernel
theorem dX9_isFull_124 : decode cX9_isFull 124 = .ok (.iload 4, 2) := by decide +kernel
theorem dX9_isFull_126 : decode cX9_isFull 126 = .ok (.iaload, 1) := by decide +kernel
theorem dX9_isFull_127 : decode cX9_isFull 127 = .ok (.if_icmp .ne 27, 3) := by decide +kernel
theorem dX9_isFull_130 : decode cX9_isFull 130 = .ok (.iload 7, 2) := by decide +kernel
theorem dX9_isFull_132 : decode cX9_isFull 132 = .ok (.ifCond .lt 26, 3) := by decide +kernel
theorem dX9_isFull_135 : decode cX9_isFull 135 = .ok (.aload_n 0, 1) := by decide +kernel
theorem dX9_isFull_136 : decode cX9_isFull 136 = .ok (.getfield 74, 3) := by decide +kernel
theorem dX9_isFull_139 : decode cX9_isFull 139 = .ok (.sipush 300, 3) := by decide +kernel
theorem dX9_isFull_142 : decode cX9_isFull 142 = .ok (.iload_n 1, 1) := by decide +kernel
theorem dX9_isFull_143 : decode cX9_isFull 143 = .ok (.imul, 1) := by decide +kernel
theorem dX9_isFull_144 : decode cX9_isFull 144 = .ok (.iload 7, 2) := by decide +kernel
theorem dX9_isFull_146 : decode cX9_isFull 146 = .ok (.iadd, 1) := by decide +kernel
theorem dX9_isFull_147 : decode cX9_isFull 147 = .ok (.iaload, 1) := by decide +kernel
theorem dX9_isFull_148 : decode cX9_isFull 148 = .ok (.iload 5, 2) := by decide +kernel
theorem dX9_isFull_150 : decode cX9_isFull 150 = .ok (.ineg, 1) := by decide +kernel
theorem dX9_isFull_151 : decode cX9_isFull 151 = .ok (.if_icmp .ne 7, 3) := by decide +kernel
theorem dX9_isFull_154 : decode cX9_isFull 154 = .ok (.iconst 1, 1) := by decide +kernel
theorem dX9_isFull_155 : decode cX9_isFull 155 = .ok (.goto 4, 3) := by decide +kernel
theorem dX9_isFull_158 : decode cX9_isFull 158 = .ok (.iconst 0, 1) := by decide +kernel
theorem dX9_isFull_159 : decode cX9_isFull 159 = .ok (.istore_n 2, 1) := by decide +kernel
theorem dX9_isFull_160 : decode cX9_isFull 160 = .ok (.iinc 3 1, 3) := by decide +kernel
theorem dX9_isFull_163 : decode cX9_isFull 163 = .ok (.goto (-147), 3) := by decide +kernel
theorem dX9_isFull_166 : decode cX9_isFull 166 = .ok (.iload_n 2, 1) := by decide +kernel
theorem dX9_isFull_167 : decode cX9_isFull 167 = .ok (.ireturn, 1) := by decide +kernel
theorem dX9_findNear_0 : decode cX9_findNear 0 = .ok (.iconst 0, 1) := by decide +kernel
theorem dX9_findNear_1 : decode cX9_findNear 1 = .ok (.istore_n 1, 1) := by decide +kernel
theorem dX9_findNear_2 : decode cX9_findNear 2 = .ok (.iload_n 1, 1) := by decide +kernel
theorem dX9_findNear_3 : decode cX9_findNear 3 = .ok (.aload_n 0, 1) := by decide +kernel
theorem dX9_findNear_4 : decode cX9_findNear 4 = .ok (.getfield 201, 3) := by decide +kernel
theorem dX9_findNear_7 : decode cX9_findNear 7 = .ok (.if_icmp .ge 69, 3) := by decide +kernel
theorem dX9_findNear_10 : decode cX9_findNear 10 = .ok (.aload_n 0, 1) := by decide +kernel
theorem dX9_findNear_11 : decode cX9_findNear 11 = .ok (.getfield 80, 3) := by decide +kernel
theorem dX9_findNear_14 : decode cX9_findNear 14 = .ok (.iload_n 1, 1) := by decide +kernel
theorem dX9_findNear_15 : decode cX9_findNear 15 = .ok (.iconst 0, 1) := by decide +kernel
theorem dX9_findNear_16 : decode cX9_findNear 16 = .ok (.iastore, 1) := by decide +kernel
theorem dX9_findNear_17 : decode cX9_findNear 17 = .ok (.iconst 0, 1) := by decide +kernel
theorem dX9_findNear_18 : decode cX9_findNear 18 = .ok (.istore_n 2, 1) := by decide +kernel
theorem dX9_findNear_19 : decode cX9_findNear 19 = .ok (.iload_n 2, 1) := by decide +kernel
theorem dX9_findNear_20 : decode cX9_findNear 20 = .ok (.aload_n 0, 1) := by decide +kernel
theorem dX9_findNear_21 : decode cX9_findNear 21 = .ok (.getfield 201, 3) := by decide +kernel
theorem dX9_findNear_24 : decode cX9_findNear 24 = .ok (.if_icmp .ge 46, 3) := by decide +kernel
theorem dX9_findNear_27 : decode cX9_findNear 27 = .ok (.aload_n 0, 1) := by decide +kernel
theorem dX9_findNear_28 : decode cX9_findNear 28 = .ok (.iload_n 1, 1) := by decide +kernel
theorem dX9_findNear_29 : decode cX9_findNear 29 = .ok (.iload_n 2, 1) := by decide +kernel
theorem dX9_findNear_30 : decode cX9_findNear 30 = .ok (.invokevirtual 229, 3) := by decide +kernel
theorem dX9_findNear_33 : decode cX9_findNear 33 = .ok (.ifCond .eq 31, 3) := by decide +kernel
theorem dX9_findNear_36 : decode cX9_findNear 36 = .ok (.aload_n 0, 1) := by decide +kernel
theorem dX9_findNear_37 : decode cX9_findNear 37 = .ok (.getfield 83, 3) := by decide +kernel
theorem dX9_findNear_40 : decode cX9_findNear 40 = .ok (.sipush 300, 3) := by decide +kernel
theorem dX9_findNear_43 : decode cX9_findNear 43 = .ok (.iload_n 1, 1) := by decide +kernel
theorem dX9_findNear_44 : decode cX9_findNear 44 = .ok (.imul, 1) := by decide +kernel
theorem dX9_findNear_45 : decode cX9_findNear 45 = .ok (.aload_n 0, 1) := by decide +kernel
theorem dX9_findNear_46 : decode cX9_findNear 46 = .ok (.getfield 80, 3) := by decide +kernel
theorem dX9_findNear_49 : decode cX9_findNear 49 = .ok (.iload_n 1, 1) := by decide +kernel
theorem dX9_findNear_50 : decode cX9_findNear 50 = .ok (.iaload, 1) := by decide +kernel
theorem dX9_findNear_51 : decode cX9_findNear 51 = .ok (.iadd, 1) := by decide +kernel
theorem dX9_findNear_52 : decode cX9_findNear 52 = .ok (.iload_n 2, 1) := by decide +kernel
theorem dX9_findNear_53 : decode cX9_findNear 53 = .ok (.iastore, 1) := by decide +kernel
theorem dX9_findNear_54 : decode cX9_findNear 54 = .ok (.aload_n 0, 1) := by decide +kernel
theorem dX9_findNear_55 : decode cX9_findNear 55 = .ok (.getfield 80, 3) := by decide +kernel
theorem dX9_findNear_58 : decode cX9_findNear 58 = .ok (.iload_n 1, 1) := by decide +kernel
theorem dX9_findNear_59 : decode cX9_findNear 59 = .ok (.dup2, 1) := by decide +kernel
theorem dX9_findNear_60 : decode cX9_findNear 60 = .ok (.iaload, 1) := by decide +kernel
theorem dX9_findNear_61 : decode cX9_findNear 61 = .ok (.iconst 1, 1) := by decide +kernel
theorem dX9_findNear_62 : decode cX9_findNear 62 = .ok (.iadd, 1) := by decide +kernel
theorem dX9_findNear_63 : decode cX9_findNear 63 = .ok (.iastore, 1) := by decide +kernel
theorem dX9_findNear_64 : decode cX9_findNear 64 = .ok (.iinc 2 1, 3) := by decide +kernel
theorem dX9_findNear_67 : decode cX9_findNear 67 = .ok (.goto (-48), 3) := by decide +kernel
theorem dX9_findNear_70 : decode cX9_findNear 70 = .ok (.iinc 1 1, 3) := by decide +kernel
theorem dX9_findNear_73 : decode cX9_findNear 73 = .ok (.goto (-71), 3) := by decide +kernel
theorem dX9_findNear_76 : decode cX9_findNear 76 = .ok (.return_, 1) := by decide +kernel
theorem dX9_findPieces_0 : decode cX9_findPieces 0 = .ok (.iconst 0, 1) := by decide +kernel
theorem dX9_findPieces_1 : decode cX9_findPieces 1 = .ok (.istore_n 2, 1) := by decide +kernel
theorem dX9_findPieces_2 : decode cX9_findPieces 2 = .ok (.iload_n 2, 1) := by decide +kernel
theorem dX9_findPieces_3 : decode cX9_findPieces 3 = .ok (.aload_n 0, 1) := by decide +kernel
theorem dX9_findPieces_4 : decode cX9_findPieces 4 = .ok (.getfield 201, 3) := by decide +kernel
theorem dX9_findPieces_7 : decode cX9_findPieces 7 = .ok (.if_icmp .ge 16, 3) := by decide +kernel
theorem dX9_findPieces_10 : decode cX9_findPieces 10 = .ok (.aload_n 0, 1) := by decide +kernel
theorem dX9_findPieces_11 : decode cX9_findPieces 11 = .ok (.getfield 86, 3) := by decide +kernel
theorem dX9_findPieces_14 : decode cX9_findPieces 14 = .ok (.iload_n 2, 1) := by decide +kernel
theorem dX9_findPieces_15 : decode cX9_findPieces 15 = .ok (.iconst (-1), 1) := by decide +kernel
theorem dX9_findPieces_16 : decode cX9_findPieces 16 = .ok (.iastore, 1) := by decide +kernel
theorem dX9_findPieces_17 : decode cX9_findPieces 17 = .ok (.iinc 2 1, 3) := by decide +kernel
theorem dX9_findPieces_20 : decode cX9_findPieces 20 = .ok (.goto (-18), 3) := by decide +kernel
theorem dX9_findPieces_23 : decode cX9_findPieces 23 = .ok (.iconst 0, 1) := by decide +kernel
theorem dX9_findPieces_24 : decode cX9_findPieces 24 = .ok (.istore_n 2, 1) := by decide +kernel
theorem dX9_findPieces_25 : decode cX9_findPieces 25 = .ok (.iconst 0, 1) := by decide +kernel
theorem dX9_findPieces_26 : decode cX9_findPieces 26 = .ok (.istore_n 3, 1) := by decide +kernel
theorem dX9_findPieces_27 : decode cX9_findPieces 27 = .ok (.iload_n 3, 1) := by decide +kernel
theorem dX9_findPieces_28 : decode cX9_findPieces 28 = .ok (.aload_n 0, 1) := by decide +kernel
theorem dX9_findPieces_29 : decode cX9_findPieces 29 = .ok (.getfield 201, 3) := by decide +kernel
theorem dX9_findPieces_32 : decode cX9_findPieces 32 = .ok (.if_icmp .ge 41, 3) := by decide +kernel
theorem dX9_findPieces_35 : decode cX9_findPieces 35 = .ok (.aload_n 0, 1) := by decide +kernel
theorem dX9_findPieces_36 : decode cX9_findPieces 36 = .ok (.getfield 70, 3) := by decide +kernel
theorem dX9_findPieces_39 : decode cX9_findPieces 39 = .ok (.iload_n 3, 1) := by decide +kernel
theorem dX9_findPieces_40 : decode cX9_findPieces 40 = .ok (.baload, 1) := by decide +kernel
theorem dX9_findPieces_41 : decode cX9_findPieces 41 = .ok (.ifCond .eq 26, 3) := by decide +kernel
theorem dX9_findPieces_44 : decode cX9_findPieces 44 = .ok (.iload_n 3, 1) := by decide +kernel
theorem dX9_findPieces_45 : decode cX9_findPieces 45 = .ok (.iload_n 1, 1) := by decide +kernel
theorem dX9_findPieces_46 : decode cX9_findPieces 46 = .ok (.if_icmp .eq 21, 3) := by decide +kernel
theorem dX9_findPieces_49 : decode cX9_findPieces 49 = .ok (.aload_n 0, 1) := by decide +kernel
theorem dX9_findPieces_50 : decode cX9_findPieces 50 = .ok (.getfield 86, 3) := by decide +kernel
theorem dX9_findPieces_53 : decode cX9_findPieces 53 = .ok (.iload_n 3, 1) := by decide +kernel
theorem dX9_findPieces_54 : decode cX9_findPieces 54 = .ok (.iaload, 1) := by decide +kernel
theorem dX9_findPieces_55 : decode cX9_findPieces 55 = .ok (.ifCond .ge 12, 3) := by decide +kernel
theorem dX9_findPieces_58 : decode cX9_findPieces 58 = .ok (.aload_n 0, 1) := by decide +kernel
theorem dX9_findPieces_59 : decode cX9_findPieces 59 = .ok (.iload_n 3, 1) := by decide +kernel
theorem dX9_findPieces_60 : decode cX9_findPieces 60 = .ok (.iload_n 1, 1) := by decide +kernel
theorem dX9_findPieces_61 : decode cX9_findPieces 61 = .ok (.invokevirtual 233, 3) := by decide +kernel
theorem dX9_findPieces_64 : decode cX9_findPieces 64 = .ok (.iinc 2 1, 3) := by decide +kernel
theorem dX9_findPieces_67 : decode cX9_findPieces 67 = .ok (.iinc 3 1, 3) := by decide +kernel
theorem dX9_findPieces_70 : decode cX9_findPieces 70 = .ok (.goto (-43), 3) := by decide +kernel
theorem dX9_findPieces_73 : decode cX9_findPieces 73 = .ok (.iload_n 2, 1) := by decide +kernel
theorem dX9_findPieces_74 : decode cX9_findPieces 74 = .ok (.ireturn, 1) := by decide +kernel
theorem dX9_spreads_0 : decode cX9_spreads 0 = .ok (.iconst 1, 1) := by decide +kernel
theorem dX9_spreads_1 : decode cX9_spreads 1 = .ok (.istore_n 3, 1) := by decide +kernel
theorem dX9_spreads_2 : decode cX9_spreads 2 = .ok (.aload_n 0, 1) := by decide +kernel
theorem dX9_spreads_3 : decode cX9_spreads 3 = .ok (.getfield 89, 3) := by decide +kernel
theorem dX9_spreads_6 : decode cX9_spreads 6 = .ok (.iconst 0, 1) := by decide +kernel
theorem dX9_spreads_7 : decode cX9_spreads 7 = .ok (.iload_n 1, 1) := by decide +kernel
theorem dX9_spreads_8 : decode cX9_spreads 8 = .ok (.iastore, 1) := by decide +kernel
theorem dX9_spreads_9 : decode cX9_spreads 9 = .ok (.aload_n 0, 1) := by decide +kernel
theorem dX9_spreads_10 : decode cX9_spreads 10 = .ok (.getfield 86, 3) := by decide +kernel
theorem dX9_spreads_13 : decode cX9_spreads 13 = .ok (.iload_n 1, 1) := by decide +kernel
theorem dX9_spreads_14 : decode cX9_spreads 14 = .ok (.iload_n 1, 1) := by decide +kernel
theorem dX9_spreads_15 : decode cX9_spreads 15 = .ok (.iastore, 1) := by decide +kernel
theorem dX9_spreads_16 : decode cX9_spreads 16 = .ok (.iconst 0, 1) := by decide +kernel
theorem dX9_spreads_17 : decode cX9_spreads 17 = .ok (.istore 4, 2) := by decide +kernel
theorem dX9_spreads_19 : decode cX9_spreads 19 = .ok (.iload 4, 2) := by decide +kernel
theorem dX9_spreads_21 : decode cX9_spreads 21 = .ok (.iload_n 3, 1) := by decide +kernel
theorem dX9_spreads_22 : decode cX9_spreads 22 = .ok (.if_icmp .ge 96, 3) := by decide +kernel
theorem dX9_spreads_25 : decode cX9_spreads 25 = .ok (.sipush 300, 3) := by decide +kernel
theorem dX9_spreads_28 : decode cX9_spreads 28 = .ok (.aload_n 0, 1) := by decide +kernel
theorem dX9_spreads_29 : decode cX9_spreads 29 = .ok (.getfield 89, 3) := by decide +kernel
theorem dX9_spreads_32 : decode cX9_spreads 32 = .ok (.iload 4, 2) := by decide +kernel
theorem dX9_spreads_34 : decode cX9_spreads 34 = .ok (.iaload, 1) := by decide +kernel
theorem dX9_spreads_35 : decode cX9_spreads 35 = .ok (.imul, 1) := by decide +kernel
theorem dX9_spreads_36 : decode cX9_spreads 36 = .ok (.istore 5, 2) := by decide +kernel
theorem dX9_spreads_38 : decode cX9_spreads 38 = .ok (.iload 5, 2) := by decide +kernel
theorem dX9_spreads_40 : decode cX9_spreads 40 = .ok (.istore 6, 2) := by decide +kernel
theorem dX9_spreads_42 : decode cX9_spreads 42 = .ok (.iload 6, 2) := by decide +kernel
theorem dX9_spreads_44 : decode cX9_spreads 44 = .ok (.iload 5, 2) := by decide +kernel
theorem dX9_spreads_46 : decode cX9_spreads 46 = .ok (.aload_n 0, 1) := by decide +kernel
theorem dX9_spreads_47 : decode cX9_spreads 47 = .ok (.getfield 80, 3) := by decide +kernel
theorem dX9_spreads_50 : decode cX9_spreads 50 = .ok (.aload_n 0, 1) := by decide +kernel
theorem dX9_spreads_51 : decode cX9_spreads 51 = .ok (.getfield 89, 3) := by decide +kernel
theorem dX9_spreads_54 : decode cX9_spreads 54 = .ok (.iload 4, 2) := by decide +kernel
theorem dX9_spreads_56 : decode cX9_spreads 56 = .ok (.iaload, 1) := by decide +kernel
theorem dX9_spreads_57 : decode cX9_spreads 57 = .ok (.iaload, 1) := by decide +kernel
theorem dX9_spreads_58 : decode cX9_spreads 58 = .ok (.iadd, 1) := by decide +kernel
theorem dX9_spreads_59 : decode cX9_spreads 59 = .ok (.if_icmp .ge 53, 3) := by decide +kernel
theorem dX9_spreads_62 : decode cX9_spreads 62 = .ok (.aload_n 0, 1) := by decide +kernel
theorem dX9_spreads_63 : decode cX9_spreads 63 = .ok (.getfield 83, 3) := by decide +kernel
theorem dX9_spreads_66 : decode cX9_spreads 66 = .ok (.iload 6, 2) := by decide +kernel
theorem dX9_spreads_68 : decode cX9_spreads 68 = .ok (.iaload, 1) := by decide +kernel
theorem dX9_spreads_69 : decode cX9_spreads 69 = .ok (.istore 7, 2) := by decide +kernel
theorem dX9_spreads_71 : decode cX9_spreads 71 = .ok (.iload 7, 2) := by decide +kernel
theorem dX9_spreads_73 : decode cX9_spreads 73 = .ok (.iload_n 2, 1) := by decide +kernel
theorem dX9_spreads_74 : decode cX9_spreads 74 = .ok (.if_icmp .eq 32, 3) := by decide +kernel
theorem dX9_spreads_77 : decode cX9_spreads 77 = .ok (.aload_n 0, 1) := by decide +kernel
theorem dX9_spreads_78 : decode cX9_spreads 78 = .ok (.getfield 86, 3) := by decide +kernel
theorem dX9_spreads_81 : decode cX9_spreads 81 = .ok (.iload 7, 2) := by decide +kernel
theorem dX9_spreads_83 : decode cX9_spreads 83 = .ok (.iaload, 1) := by decide +kernel
theorem dX9_spreads_84 : decode cX9_spreads 84 = .ok (.ifCond .ge 22, 3) := by decide +kernel
theorem dX9_spreads_87 : decode cX9_spreads 87 = .ok (.aload_n 0, 1) := by decide +kernel
theorem dX9_spreads_88 : decode cX9_spreads 88 = .ok (.getfield 86, 3) := by decide +kernel
theorem dX9_spreads_91 : decode cX9_spreads 91 = .ok (.iload 7, 2) := by decide +kernel
theorem dX9_spreads_93 : decode cX9_spreads 93 = .ok (.iload_n 1, 1) := by decide +kernel
theorem dX9_spreads_94 : decode cX9_spreads 94 = .ok (.iastore, 1) := by decide +kernel
theorem dX9_spreads_95 : decode cX9_spreads 95 = .ok (.aload_n 0, 1) := by decide +kernel
theorem dX9_spreads_96 : decode cX9_spreads 96 = .ok (.getfield 89, 3) := by decide +kernel
theorem dX9_spreads_99 : decode cX9_spreads 99 = .ok (.iload_n 3, 1) := by decide +kernel
theorem dX9_spreads_100 : decode cX9_spreads 100 = .ok (.iload 7, 2) := by decide +kernel
theorem dX9_spreads_102 : decode cX9_spreads 102 = .ok (.iastore, 1) := by decide +kernel
theorem dX9_spreads_103 : decode cX9_spreads 103 = .ok (.iinc 3 1, 3) := by decide +kernel
theorem dX9_spreads_106 : decode cX9_spreads 106 = .ok (.iinc 6 1, 3) := by decide +kernel
theorem dX9_spreads_109 : decode cX9_spreads 109 = .ok (.goto (-67), 3) := by decide +kernel
theorem dX9_spreads_112 : decode cX9_spreads 112 = .ok (.iinc 4 1, 3) := by decide +kernel
theorem dX9_spreads_115 : decode cX9_spreads 115 = .ok (.goto (-96), 3) := by decide +kernel
theorem dX9_spreads_118 : decode cX9_spreads 118 = .ok (.return_, 1) := by decide +kernel
theorem dX9_isCut_0 : decode cX9_isCut 0 = .ok (.aload_n 0, 1) := by decide +kernel
theorem dX9_isCut_1 : decode cX9_isCut 1 = .ok (.iload_n 1, 1) := by decide +kernel
theorem dX9_isCut_2 : decode cX9_isCut 2 = .ok (.invokevirtual 236, 3) := by decide +kernel
theorem dX9_isCut_5 : decode cX9_isCut 5 = .ok (.iload_n 2, 1) := by decide +kernel
theorem dX9_isCut_6 : decode cX9_isCut 6 = .ok (.if_icmp .le 7, 3) := by decide +kernel
theorem dX9_isCut_9 : decode cX9_isCut 9 = .ok (.iconst 1, 1) := by decide +kernel
theorem dX9_isCut_10 : decode cX9_isCut 10 = .ok (.goto 4, 3) := by decide +kernel
theorem dX9_isCut_13 : decode cX9_isCut 13 = .ok (.iconst 0, 1) := by decide +kernel
theorem dX9_isCut_14 : decode cX9_isCut 14 = .ok (.ireturn, 1) := by decide +kernel
theorem dX9_parts_0 : decode cX9_parts 0 = .ok (.iconst 0, 1) := by decide +kernel
theorem dX9_parts_1 : decode cX9_parts 1 = .ok (.istore_n 1, 1) := by decide +kernel
theorem dX9_parts_2 : decode cX9_parts 2 = .ok (.iload_n 1, 1) := by decide +kernel
theorem dX9_parts_3 : decode cX9_parts 3 = .ok (.aload_n 0, 1) := by decide +kernel
theorem dX9_parts_4 : decode cX9_parts 4 = .ok (.getfield 201, 3) := by decide +kernel
theorem dX9_parts_7 : decode cX9_parts 7 = .ok (.if_icmp .ge 16, 3) := by decide +kernel
theorem dX9_parts_10 : decode cX9_parts 10 = .ok (.aload_n 0, 1) := by decide +kernel
theorem dX9_parts_11 : decode cX9_parts 11 = .ok (.getfield 92, 3) := by decide +kernel
theorem dX9_parts_14 : decode cX9_parts 14 = .ok (.iload_n 1, 1) := by decide +kernel
theorem dX9_parts_15 : decode cX9_parts 15 = .ok (.iconst (-1), 1) := by decide +kernel
theorem dX9_parts_16 : decode cX9_parts 16 = .ok (.iastore, 1) := by decide +kernel
theorem dX9_parts_17 : decode cX9_parts 17 = .ok (.iinc 1 1, 3) := by decide +kernel
theorem dX9_parts_20 : decode cX9_parts 20 = .ok (.goto (-18), 3) := by decide +kernel
theorem dX9_parts_23 : decode cX9_parts 23 = .ok (.iconst 1, 1) := by decide +kernel
theorem dX9_parts_24 : decode cX9_parts 24 = .ok (.istore_n 1, 1) := by decide +kernel
theorem dX9_parts_25 : decode cX9_parts 25 = .ok (.iconst 0, 1) := by decide +kernel
theorem dX9_parts_26 : decode cX9_parts 26 = .ok (.istore_n 2, 1) := by decide +kernel
theorem dX9_parts_27 : decode cX9_parts 27 = .ok (.iload_n 2, 1) := by decide +kernel
theorem dX9_parts_28 : decode cX9_parts 28 = .ok (.aload_n 0, 1) := by decide +kernel
theorem dX9_parts_29 : decode cX9_parts 29 = .ok (.getfield 201, 3) := by decide +kernel
theorem dX9_parts_32 : decode cX9_parts 32 = .ok (.if_icmp .ge 184, 3) := by decide +kernel
theorem dX9_parts_35 : decode cX9_parts 35 = .ok (.aload_n 0, 1) := by decide +kernel
theorem dX9_parts_36 : decode cX9_parts 36 = .ok (.getfield 70, 3) := by decide +kernel
theorem dX9_parts_39 : decode cX9_parts 39 = .ok (.iload_n 2, 1) := by decide +kernel
theorem dX9_parts_40 : decode cX9_parts 40 = .ok (.baload, 1) := by decide +kernel
theorem dX9_parts_41 : decode cX9_parts 41 = .ok (.ifCond .eq 169, 3) := by decide +kernel
theorem dX9_parts_44 : decode cX9_parts 44 = .ok (.aload_n 0, 1) := by decide +kernel
theorem dX9_parts_45 : decode cX9_parts 45 = .ok (.getfield 92, 3) := by decide +kernel
theorem dX9_parts_48 : decode cX9_parts 48 = .ok (.iload_n 2, 1) := by decide +kernel
theorem dX9_parts_49 : decode cX9_parts 49 = .ok (.iaload, 1) := by decide +kernel
theorem dX9_parts_50 : decode cX9_parts 50 = .ok (.ifCond .ge 160, 3) := by decide +kernel
theorem dX9_parts_53 : decode cX9_parts 53 = .ok (.iconst 1, 1) := by decide +kernel
theorem dX9_parts_54 : decode cX9_parts 54 = .ok (.istore_n 3, 1) := by decide +kernel
theorem dX9_parts_55 : decode cX9_parts 55 = .ok (.aload_n 0, 1) := by decide +kernel
theorem dX9_parts_56 : decode cX9_parts 56 = .ok (.getfield 89, 3) := by decide +kernel
theorem dX9_parts_59 : decode cX9_parts 59 = .ok (.iconst 0, 1) := by decide +kernel
theorem dX9_parts_60 : decode cX9_parts 60 = .ok (.iload_n 2, 1) := by decide +kernel
theorem dX9_parts_61 : decode cX9_parts 61 = .ok (.iastore, 1) := by decide +kernel
theorem dX9_parts_62 : decode cX9_parts 62 = .ok (.aload_n 0, 1) := by decide +kernel
theorem dX9_parts_63 : decode cX9_parts 63 = .ok (.getfield 92, 3) := by decide +kernel
theorem dX9_parts_66 : decode cX9_parts 66 = .ok (.iload_n 2, 1) := by decide +kernel
theorem dX9_parts_67 : decode cX9_parts 67 = .ok (.iconst 0, 1) := by decide +kernel
theorem dX9_parts_68 : decode cX9_parts 68 = .ok (.iastore, 1) := by decide +kernel
theorem dX9_parts_69 : decode cX9_parts 69 = .ok (.iconst 0, 1) := by decide +kernel
theorem dX9_parts_70 : decode cX9_parts 70 = .ok (.istore 4, 2) := by decide +kernel
theorem dX9_parts_72 : decode cX9_parts 72 = .ok (.iload 4, 2) := by decide +kernel
theorem dX9_parts_74 : decode cX9_parts 74 = .ok (.iload_n 3, 1) := by decide +kernel
theorem dX9_parts_75 : decode cX9_parts 75 = .ok (.if_icmp .ge 135, 3) := by decide +kernel
theorem dX9_parts_78 : decode cX9_parts 78 = .ok (.sipush 300, 3) := by decide +kernel
theorem dX9_parts_81 : decode cX9_parts 81 = .ok (.aload_n 0, 1) := by decide +kernel
theorem dX9_parts_82 : decode cX9_parts 82 = .ok (.getfield 89, 3) := by decide +kernel
theorem dX9_parts_85 : decode cX9_parts 85 = .ok (.iload 4, 2) := by decide +kernel
theorem dX9_parts_87 : decode cX9_parts 87 = .ok (.iaload, 1) := by decide +kernel
theorem dX9_parts_88 : decode cX9_parts 88 = .ok (.imul, 1) := by decide +kernel
theorem dX9_parts_89 : decode cX9_parts 89 = .ok (.istore 5, 2) := by decide +kernel
theorem dX9_parts_91 : decode cX9_parts 91 = .ok (.iload 5, 2) := by decide +kernel
theorem dX9_parts_93 : decode cX9_parts 93 = .ok (.istore 6, 2) := by decide +kernel
theorem dX9_parts_95 : decode cX9_parts 95 = .ok (.iload 6, 2) := by decide +kernel
theorem dX9_parts_97 : decode cX9_parts 97 = .ok (.iload 5, 2) := by decide +kernel
theorem dX9_parts_99 : decode cX9_parts 99 = .ok (.aload_n 0, 1) := by decide +kernel
theorem dX9_parts_100 : decode cX9_parts 100 = .ok (.getfield 80, 3) := by decide +kernel
theorem dX9_parts_103 : decode cX9_parts 103 = .ok (.aload_n 0, 1) := by decide +kernel
theorem dX9_parts_104 : decode cX9_parts 104 = .ok (.getfield 89, 3) := by decide +kernel
theorem dX9_parts_107 : decode cX9_parts 107 = .ok (.iload 4, 2) := by decide +kernel
theorem dX9_parts_109 : decode cX9_parts 109 = .ok (.iaload, 1) := by decide +kernel
theorem dX9_parts_110 : decode cX9_parts 110 = .ok (.iaload, 1) := by decide +kernel
theorem dX9_parts_111 : decode cX9_parts 111 = .ok (.iadd, 1) := by decide +kernel
theorem dX9_parts_112 : decode cX9_parts 112 = .ok (.if_icmp .ge 92, 3) := by decide +kernel
theorem dX9_parts_115 : decode cX9_parts 115 = .ok (.aload_n 0, 1) := by decide +kernel
theorem dX9_parts_116 : decode cX9_parts 116 = .ok (.getfield 83, 3) := by decide +kernel
theorem dX9_parts_119 : decode cX9_parts 119 = .ok (.iload 6, 2) := by decide +kernel
theorem dX9_parts_121 : decode cX9_parts 121 = .ok (.iaload, 1) := by decide +kernel
theorem dX9_parts_122 : decode cX9_parts 122 = .ok (.istore 7, 2) := by decide +kernel
theorem dX9_parts_124 : decode cX9_parts 124 = .ok (.iload_n 1, 1) := by decide +kernel
theorem dX9_parts_125 : decode cX9_parts 125 = .ok (.ifCond .eq 29, 3) := by decide +kernel
theorem dX9_parts_128 : decode cX9_parts 128 = .ok (.aload_n 0, 1) := by decide +kernel
theorem dX9_parts_129 : decode cX9_parts 129 = .ok (.getfield 92, 3) := by decide +kernel
theorem dX9_parts_132 : decode cX9_parts 132 = .ok (.iload 7, 2) := by decide +kernel
theorem dX9_parts_134 : decode cX9_parts 134 = .ok (.iaload, 1) := by decide +kernel
theorem dX9_parts_135 : decode cX9_parts 135 = .ok (.aload_n 0, 1) := by decide +kernel
theorem dX9_parts_136 : decode cX9_parts 136 = .ok (.getfield 92, 3) := by decide +kernel
theorem dX9_parts_139 : decode cX9_parts 139 = .ok (.aload_n 0, 1) := by decide +kernel
theorem dX9_parts_140 : decode cX9_parts 140 = .ok (.getfield 89, 3) := by decide +kernel
theorem dX9_parts_143 : decode cX9_parts 143 = .ok (.iload 4, 2) := by decide +kernel
theorem dX9_parts_145 : decode cX9_parts 145 = .ok (.iaload, 1) := by decide +kernel
theorem dX9_parts_146 : decode cX9_parts 146 = .ok (.iaload, 1) := by decide +kernel
theorem dX9_parts_147 : decode cX9_parts 147 = .ok (.if_icmp .eq 7, 3) := by decide +kernel
theorem dX9_parts_150 : decode cX9_parts 150 = .ok (.iconst 1, 1) := by decide +kernel
theorem dX9_parts_151 : decode cX9_parts 151 = .ok (.goto 4, 3) := by decide +kernel
theorem dX9_parts_154 : decode cX9_parts 154 = .ok (.iconst 0, 1) := by decide +kernel
theorem dX9_parts_155 : decode cX9_parts 155 = .ok (.istore_n 1, 1) := by decide +kernel
theorem dX9_parts_156 : decode cX9_parts 156 = .ok (.aload_n 0, 1) := by decide +kernel
theorem dX9_parts_157 : decode cX9_parts 157 = .ok (.getfield 92, 3) := by decide +kernel
theorem dX9_parts_160 : decode cX9_parts 160 = .ok (.iload 7, 2) := by decide +kernel
theorem dX9_parts_162 : decode cX9_parts 162 = .ok (.iaload, 1) := by decide +kernel
theorem dX9_parts_163 : decode cX9_parts 163 = .ok (.ifCond .ge 35, 3) := by decide +kernel
theorem dX9_parts_166 : decode cX9_parts 166 = .ok (.aload_n 0, 1) := by decide +kernel
theorem dX9_parts_167 : decode cX9_parts 167 = .ok (.getfield 92, 3) := by decide +kernel
theorem dX9_parts_170 : decode cX9_parts 170 = .ok (.iload 7, 2) := by decide +kernel
theorem dX9_parts_172 : decode cX9_parts 172 = .ok (.iconst 1, 1) := by decide +kernel
theorem dX9_parts_173 : decode cX9_parts 173 = .ok (.aload_n 0, 1) := by decide +kernel
theorem dX9_parts_174 : decode cX9_parts 174 = .ok (.getfield 92, 3) := by decide +kernel
theorem dX9_parts_177 : decode cX9_parts 177 = .ok (.aload_n 0, 1) := by decide +kernel
theorem dX9_parts_178 : decode cX9_parts 178 = .ok (.getfield 89, 3) := by decide +kernel
theorem dX9_parts_181 : decode cX9_parts 181 = .ok (.iload 4, 2) := by decide +kernel
theorem dX9_parts_183 : decode cX9_parts 183 = .ok (.iaload, 1) := by decide +kernel
theorem dX9_parts_184 : decode cX9_parts 184 = .ok (.iaload, 1) := by decide +kernel
theorem dX9_parts_185 : decode cX9_parts 185 = .ok (.isub, 1) := by decide +kernel
theorem dX9_parts_186 : decode cX9_parts 186 = .ok (.iastore, 1) := by decide +kernel
theorem dX9_parts_187 : decode cX9_parts 187 = .ok (.aload_n 0, 1) := by decide +kernel
theorem dX9_parts_188 : decode cX9_parts 188 = .ok (.getfield 89, 3) := by decide +kernel
theorem dX9_parts_191 : decode cX9_parts 191 = .ok (.iload_n 3, 1) := by decide +kernel
theorem dX9_parts_192 : decode cX9_parts 192 = .ok (.iload 7, 2) := by decide +kernel
theorem dX9_parts_194 : decode cX9_parts 194 = .ok (.iastore, 1) := by decide +kernel
theorem dX9_parts_195 : decode cX9_parts 195 = .ok (.iinc 3 1, 3) := by decide +kernel
theorem dX9_parts_198 : decode cX9_parts 198 = .ok (.iinc 6 1, 3) := by decide +kernel
theorem dX9_parts_201 : decode cX9_parts 201 = .ok (.goto (-106), 3) := by decide +kernel
theorem dX9_parts_204 : decode cX9_parts 204 = .ok (.iinc 4 1, 3) := by decide +kernel
theorem dX9_parts_207 : decode cX9_parts 207 = .ok (.goto (-135), 3) := by decide +kernel
theorem dX9_parts_210 : decode cX9_parts 210 = .ok (.iinc 2 1, 3) := by decide +kernel
theorem dX9_parts_213 : decode cX9_parts 213 = .ok (.goto (-186), 3) := by decide +kernel
theorem dX9_parts_216 : decode cX9_parts 216 = .ok (.iload_n 1, 1) := by decide +kernel
theorem dX9_parts_217 : decode cX9_parts 217 = .ok (.ireturn, 1) := by decide +kernel
theorem dX9_finds_0 : decode cX9_finds 0 = .ok (.sipush 300, 3) := by decide +kernel
theorem dX9_finds_3 : decode cX9_finds 3 = .ok (.iload_n 1, 1) := by decide +kernel
theorem dX9_finds_4 : decode cX9_finds 4 = .ok (.imul, 1) := by decide +kernel
theorem dX9_finds_5 : decode cX9_finds 5 = .ok (.istore_n 2, 1) := by decide +kernel
theorem dX9_finds_6 : decode cX9_finds 6 = .ok (.iload_n 2, 1) := by decide +kernel
theorem dX9_finds_7 : decode cX9_finds 7 = .ok (.sipush 300, 3) := by decide +kernel
theorem dX9_finds_10 : decode cX9_finds 10 = .ok (.iload_n 1, 1) := by decide +kernel
theorem dX9_finds_11 : decode cX9_finds 11 = .ok (.imul, 1) := by decide +kernel
theorem dX9_finds_12 : decode cX9_finds 12 = .ok (.aload_n 0, 1) := by decide +kernel
theorem dX9_finds_13 : decode cX9_finds 13 = .ok (.getfield 80, 3) := by decide +kernel
theorem dX9_finds_16 : decode cX9_finds 16 = .ok (.iload_n 1, 1) := by decide +kernel
theorem dX9_finds_17 : decode cX9_finds 17 = .ok (.iaload, 1) := by decide +kernel
theorem dX9_finds_18 : decode cX9_finds 18 = .ok (.iadd, 1) := by decide +kernel
theorem dX9_finds_19 : decode cX9_finds 19 = .ok (.if_icmp .ge 70, 3) := by decide +kernel
theorem dX9_finds_22 : decode cX9_finds 22 = .ok (.aload_n 0, 1) := by decide +kernel
theorem dX9_finds_23 : decode cX9_finds 23 = .ok (.getfield 83, 3) := by decide +kernel
theorem dX9_finds_26 : decode cX9_finds 26 = .ok (.iload_n 2, 1) := by decide +kernel
theorem dX9_finds_27 : decode cX9_finds 27 = .ok (.iaload, 1) := by decide +kernel
theorem dX9_finds_28 : decode cX9_finds 28 = .ok (.istore_n 3, 1) := by decide +kernel
theorem dX9_finds_29 : decode cX9_finds 29 = .ok (.aload_n 0, 1) := by decide +kernel
theorem dX9_finds_30 : decode cX9_finds 30 = .ok (.getfield 98, 3) := by decide +kernel
theorem dX9_finds_33 : decode cX9_finds 33 = .ok (.iload_n 3, 1) := by decide +kernel
theorem dX9_finds_34 : decode cX9_finds 34 = .ok (.baload, 1) := by decide +kernel
theorem dX9_finds_35 : decode cX9_finds 35 = .ok (.ifCond .ne 48, 3) := by decide +kernel
theorem dX9_finds_38 : decode cX9_finds 38 = .ok (.aload_n 0, 1) := by decide +kernel
theorem dX9_finds_39 : decode cX9_finds 39 = .ok (.getfield 98, 3) := by decide +kernel
theorem dX9_finds_42 : decode cX9_finds 42 = .ok (.iload_n 3, 1) := by decide +kernel
theorem dX9_finds_43 : decode cX9_finds 43 = .ok (.iconst 1, 1) := by decide +kernel
theorem dX9_finds_44 : decode cX9_finds 44 = .ok (.bastore, 1) := by decide +kernel
theorem dX9_finds_45 : decode cX9_finds 45 = .ok (.aload_n 0, 1) := by decide +kernel
theorem dX9_finds_46 : decode cX9_finds 46 = .ok (.getfield 95, 3) := by decide +kernel
theorem dX9_finds_49 : decode cX9_finds 49 = .ok (.iload_n 3, 1) := by decide +kernel
theorem dX9_finds_50 : decode cX9_finds 50 = .ok (.iaload, 1) := by decide +kernel
theorem dX9_finds_51 : decode cX9_finds 51 = .ok (.ifCond .lt 16, 3) := by decide +kernel
theorem dX9_finds_54 : decode cX9_finds 54 = .ok (.aload_n 0, 1) := by decide +kernel
theorem dX9_finds_55 : decode cX9_finds 55 = .ok (.aload_n 0, 1) := by decide +kernel
theorem dX9_finds_56 : decode cX9_finds 56 = .ok (.getfield 95, 3) := by decide +kernel
theorem dX9_finds_59 : decode cX9_finds 59 = .ok (.iload_n 3, 1) := by decide +kernel
theorem dX9_finds_60 : decode cX9_finds 60 = .ok (.iaload, 1) := by decide +kernel
theorem dX9_finds_61 : decode cX9_finds 61 = .ok (.invokevirtual 239, 3) := by decide +kernel
theorem dX9_finds_64 : decode cX9_finds 64 = .ok (.ifCond .eq 19, 3) := by decide +kernel
theorem dX9_finds_67 : decode cX9_finds 67 = .ok (.aload_n 0, 1) := by decide +kernel
theorem dX9_finds_68 : decode cX9_finds 68 = .ok (.getfield 95, 3) := by decide +kernel
theorem dX9_finds_71 : decode cX9_finds 71 = .ok (.iload_n 3, 1) := by decide +kernel
theorem dX9_finds_72 : decode cX9_finds 72 = .ok (.iload_n 1, 1) := by decide +kernel
theorem dX9_finds_73 : decode cX9_finds 73 = .ok (.iastore, 1) := by decide +kernel
theorem dX9_finds_74 : decode cX9_finds 74 = .ok (.aload_n 0, 1) := by decide +kernel
theorem dX9_finds_75 : decode cX9_finds 75 = .ok (.getfield 95, 3) := by decide +kernel
theorem dX9_finds_78 : decode cX9_finds 78 = .ok (.iload_n 1, 1) := by decide +kernel
theorem dX9_finds_79 : decode cX9_finds 79 = .ok (.iload_n 3, 1) := by decide +kernel
theorem dX9_finds_80 : decode cX9_finds 80 = .ok (.iastore, 1) := by decide +kernel
theorem dX9_finds_81 : decode cX9_finds 81 = .ok (.iconst 1, 1) := by decide +kernel
theorem dX9_finds_82 : decode cX9_finds 82 = .ok (.ireturn, 1) := by decide +kernel
theorem dX9_finds_83 : decode cX9_finds 83 = .ok (.iinc 2 1, 3) := by decide +kernel
theorem dX9_finds_86 : decode cX9_finds 86 = .ok (.goto (-80), 3) := by decide +kernel
theorem dX9_finds_89 : decode cX9_finds 89 = .ok (.iconst 0, 1) := by decide +kernel
theorem dX9_finds_90 : decode cX9_finds 90 = .ok (.ireturn, 1) := by decide +kernel
theorem dX9_opens_0 : decode cX9_opens 0 = .ok (.iconst 0, 1) := by decide +kernel
theorem dX9_opens_1 : decode cX9_opens 1 = .ok (.istore_n 1, 1) := by decide +kernel
theorem dX9_opens_2 : decode cX9_opens 2 = .ok (.iload_n 1, 1) := by decide +kernel
theorem dX9_opens_3 : decode cX9_opens 3 = .ok (.sipush 300, 3) := by decide +kernel
theorem dX9_opens_6 : decode cX9_opens 6 = .ok (.if_icmp .ge 23, 3) := by decide +kernel
theorem dX9_opens_9 : decode cX9_opens 9 = .ok (.aload_n 0, 1) := by decide +kernel
theorem dX9_opens_10 : decode cX9_opens 10 = .ok (.getfield 95, 3) := by decide +kernel
theorem dX9_opens_13 : decode cX9_opens 13 = .ok (.iload_n 1, 1) := by decide +kernel
theorem dX9_opens_14 : decode cX9_opens 14 = .ok (.iconst (-1), 1) := by decide +kernel
theorem dX9_opens_15 : decode cX9_opens 15 = .ok (.iastore, 1) := by decide +kernel
theorem dX9_opens_16 : decode cX9_opens 16 = .ok (.aload_n 0, 1) := by decide +kernel
theorem dX9_opens_17 : decode cX9_opens 17 = .ok (.getfield 101, 3) := by decide +kernel
theorem dX9_opens_20 : decode cX9_opens 20 = .ok (.iload_n 1, 1) := by decide +kernel
theorem dX9_opens_21 : decode cX9_opens 21 = .ok (.iconst 0, 1) := by decide +kernel
theorem dX9_opens_22 : decode cX9_opens 22 = .ok (.bastore, 1) := by decide +kernel
theorem dX9_opens_23 : decode cX9_opens 23 = .ok (.iinc 1 1, 3) := by decide +kernel
theorem dX9_opens_26 : decode cX9_opens 26 = .ok (.goto (-24), 3) := by decide +kernel
theorem dX9_opens_29 : decode cX9_opens 29 = .ok (.aload_n 0, 1) := by decide +kernel
theorem dX9_opens_30 : decode cX9_opens 30 = .ok (.invokevirtual 242, 3) := by decide +kernel
theorem dX9_opens_33 : decode cX9_opens 33 = .ok (.aload_n 0, 1) := by decide +kernel
theorem dX9_opens_34 : decode cX9_opens 34 = .ok (.invokevirtual 245, 3) := by decide +kernel
theorem dX9_opens_37 : decode cX9_opens 37 = .ok (.ifCond .ne 5, 3) := by decide +kernel
theorem dX9_opens_40 : decode cX9_opens 40 = .ok (.iconst (-1), 1) := by decide +kernel
theorem dX9_opens_41 : decode cX9_opens 41 = .ok (.ireturn, 1) := by decide +kernel
theorem dX9_opens_42 : decode cX9_opens 42 = .ok (.iconst 0, 1) := by decide +kernel
theorem dX9_opens_43 : decode cX9_opens 43 = .ok (.istore_n 1, 1) := by decide +kernel
theorem dX9_opens_44 : decode cX9_opens 44 = .ok (.iconst 0, 1) := by decide +kernel
theorem dX9_opens_45 : decode cX9_opens 45 = .ok (.istore_n 2, 1) := by decide +kernel
theorem dX9_opens_46 : decode cX9_opens 46 = .ok (.iload_n 2, 1) := by decide +kernel
theorem dX9_opens_47 : decode cX9_opens 47 = .ok (.aload_n 0, 1) := by decide +kernel
theorem dX9_opens_48 : decode cX9_opens 48 = .ok (.getfield 201, 3) := by decide +kernel
theorem dX9_opens_51 : decode cX9_opens 51 = .ok (.if_icmp .ge 57, 3) := by decide +kernel
theorem dX9_opens_54 : decode cX9_opens 54 = .ok (.aload_n 0, 1) := by decide +kernel
theorem dX9_opens_55 : decode cX9_opens 55 = .ok (.getfield 92, 3) := by decide +kernel
theorem dX9_opens_58 : decode cX9_opens 58 = .ok (.iload_n 2, 1) := by decide +kernel
theorem dX9_opens_59 : decode cX9_opens 59 = .ok (.iaload, 1) := by decide +kernel
theorem dX9_opens_60 : decode cX9_opens 60 = .ok (.ifCond .ne 42, 3) := by decide +kernel
theorem dX9_opens_63 : decode cX9_opens 63 = .ok (.iconst 0, 1) := by decide +kernel
theorem dX9_opens_64 : decode cX9_opens 64 = .ok (.istore_n 3, 1) := by decide +kernel
theorem dX9_opens_65 : decode cX9_opens 65 = .ok (.iload_n 3, 1) := by decide +kernel
theorem dX9_opens_66 : decode cX9_opens 66 = .ok (.aload_n 0, 1) := by decide +kernel
theorem dX9_opens_67 : decode cX9_opens 67 = .ok (.getfield 201, 3) := by decide +kernel
theorem dX9_opens_70 : decode cX9_opens 70 = .ok (.if_icmp .ge 16, 3) := by decide +kernel
theorem dX9_opens_73 : decode cX9_opens 73 = .ok (.aload_n 0, 1) := by decide +kernel
theorem dX9_opens_74 : decode cX9_opens 74 = .ok (.getfield 98, 3) := by decide +kernel
theorem dX9_opens_77 : decode cX9_opens 77 = .ok (.iload_n 3, 1) := by decide +kernel
theorem dX9_opens_78 : decode cX9_opens 78 = .ok (.iconst 0, 1) := by decide +kernel
theorem dX9_opens_79 : decode cX9_opens 79 = .ok (.bastore, 1) := by decide +kernel
theorem dX9_opens_80 : decode cX9_opens 80 = .ok (.iinc 3 1, 3) := by decide +kernel
theorem dX9_opens_83 : decode cX9_opens 83 = .ok (.goto (-18), 3) := by decide +kernel
theorem dX9_opens_86 : decode cX9_opens 86 = .ok (.iload_n 1, 1) := by decide +kernel
theorem dX9_opens_87 : decode cX9_opens 87 = .ok (.aload_n 0, 1) := by decide +kernel
theorem dX9_opens_88 : decode cX9_opens 88 = .ok (.iload_n 2, 1) := by decide +kernel
theorem dX9_opens_89 : decode cX9_opens 89 = .ok (.invokevirtual 239, 3) := by decide +kernel
theorem dX9_opens_92 : decode cX9_opens 92 = .ok (.ifCond .eq 7, 3) := by decide +kernel
theorem dX9_opens_95 : decode cX9_opens 95 = .ok (.iconst 1, 1) := by decide +kernel
theorem dX9_opens_96 : decode cX9_opens 96 = .ok (.goto 4, 3) := by decide +kernel
theorem dX9_opens_99 : decode cX9_opens 99 = .ok (.iconst 0, 1) := by decide +kernel
theorem dX9_opens_100 : decode cX9_opens 100 = .ok (.iadd, 1) := by decide +kernel
theorem dX9_opens_101 : decode cX9_opens 101 = .ok (.istore_n 1, 1) := by decide +kernel
theorem dX9_opens_102 : decode cX9_opens 102 = .ok (.iinc 2 1, 3) := by decide +kernel
theorem dX9_opens_105 : decode cX9_opens 105 = .ok (.goto (-59), 3) := by decide +kernel
theorem dX9_opens_108 : decode cX9_opens 108 = .ok (.iconst 0, 1) := by decide +kernel
theorem dX9_opens_109 : decode cX9_opens 109 = .ok (.istore_n 2, 1) := by decide +kernel
theorem dX9_opens_110 : decode cX9_opens 110 = .ok (.iload_n 2, 1) := by decide +kernel
theorem dX9_opens_111 : decode cX9_opens 111 = .ok (.aload_n 0, 1) := by decide +kernel
theorem dX9_opens_112 : decode cX9_opens 112 = .ok (.getfield 201, 3) := by decide +kernel
theorem dX9_opens_115 : decode cX9_opens 115 = .ok (.if_icmp .ge 16, 3) := by decide +kernel
theorem dX9_opens_118 : decode cX9_opens 118 = .ok (.aload_n 0, 1) := by decide +kernel
theorem dX9_opens_119 : decode cX9_opens 119 = .ok (.getfield 98, 3) := by decide +kernel
theorem dX9_opens_122 : decode cX9_opens 122 = .ok (.iload_n 2, 1) := by decide +kernel
theorem dX9_opens_123 : decode cX9_opens 123 = .ok (.iconst 0, 1) := by decide +kernel
theorem dX9_opens_124 : decode cX9_opens 124 = .ok (.bastore, 1) := by decide +kernel
theorem dX9_opens_125 : decode cX9_opens 125 = .ok (.iinc 2 1, 3) := by decide +kernel
theorem dX9_opens_128 : decode cX9_opens 128 = .ok (.goto (-18), 3) := by decide +kernel
theorem dX9_opens_131 : decode cX9_opens 131 = .ok (.iconst 0, 1) := by decide +kernel
theorem dX9_opens_132 : decode cX9_opens 132 = .ok (.istore_n 2, 1) := by decide +kernel
theorem dX9_opens_133 : decode cX9_opens 133 = .ok (.iload_n 2, 1) := by decide +kernel
theorem dX9_opens_134 : decode cX9_opens 134 = .ok (.aload_n 0, 1) := by decide +kernel
theorem dX9_opens_135 : decode cX9_opens 135 = .ok (.getfield 201, 3) := by decide +kernel
theorem dX9_opens_138 : decode cX9_opens 138 = .ok (.if_icmp .ge 32, 3) := by decide +kernel
theorem dX9_opens_141 : decode cX9_opens 141 = .ok (.aload_n 0, 1) := by decide +kernel
theorem dX9_opens_142 : decode cX9_opens 142 = .ok (.getfield 92, 3) := by decide +kernel
theorem dX9_opens_145 : decode cX9_opens 145 = .ok (.iload_n 2, 1) := by decide +kernel
theorem dX9_opens_146 : decode cX9_opens 146 = .ok (.iaload, 1) := by decide +kernel
theorem dX9_opens_147 : decode cX9_opens 147 = .ok (.ifCond .ne 17, 3) := by decide +kernel
theorem dX9_opens_150 : decode cX9_opens 150 = .ok (.aload_n 0, 1) := by decide +kernel
theorem dX9_opens_151 : decode cX9_opens 151 = .ok (.getfield 95, 3) := by decide +kernel
theorem dX9_opens_154 : decode cX9_opens 154 = .ok (.iload_n 2, 1) := by decide +kernel
theorem dX9_opens_155 : decode cX9_opens 155 = .ok (.iaload, 1) := by decide +kernel
theorem dX9_opens_156 : decode cX9_opens 156 = .ok (.ifCond .ge 8, 3) := by decide +kernel
theorem dX9_opens_159 : decode cX9_opens 159 = .ok (.aload_n 0, 1) := by decide +kernel
theorem dX9_opens_160 : decode cX9_opens 160 = .ok (.iload_n 2, 1) := by decide +kernel
theorem dX9_opens_161 : decode cX9_opens 161 = .ok (.invokevirtual 248, 3) := by decide +kernel
theorem dX9_opens_164 : decode cX9_opens 164 = .ok (.iinc 2 1, 3) := by decide +kernel
theorem dX9_opens_167 : decode cX9_opens 167 = .ok (.goto (-34), 3) := by decide +kernel
theorem dX9_opens_170 : decode cX9_opens 170 = .ok (.iconst 0, 1) := by decide +kernel
theorem dX9_opens_171 : decode cX9_opens 171 = .ok (.istore_n 2, 1) := by decide +kernel
theorem dX9_opens_172 : decode cX9_opens 172 = .ok (.iload_n 2, 1) := by decide +kernel
theorem dX9_opens_173 : decode cX9_opens 173 = .ok (.aload_n 0, 1) := by decide +kernel
theorem dX9_opens_174 : decode cX9_opens 174 = .ok (.getfield 201, 3) := by decide +kernel
theorem dX9_opens_177 : decode cX9_opens 177 = .ok (.if_icmp .ge 65, 3) := by decide +kernel
theorem dX9_opens_180 : decode cX9_opens 180 = .ok (.aload_n 0, 1) := by decide +kernel
theorem dX9_opens_181 : decode cX9_opens 181 = .ok (.getfield 101, 3) := by decide +kernel
theorem dX9_opens_184 : decode cX9_opens 184 = .ok (.iload_n 2, 1) := by decide +kernel
theorem dX9_opens_185 : decode cX9_opens 185 = .ok (.aload_n 0, 1) := by decide +kernel
theorem dX9_opens_186 : decode cX9_opens 186 = .ok (.getfield 92, 3) := by decide +kernel
theorem dX9_opens_189 : decode cX9_opens 189 = .ok (.iload_n 2, 1) := by decide +kernel
theorem dX9_opens_190 : decode cX9_opens 190 = .ok (.iaload, 1) := by decide +kernel
theorem dX9_opens_191 : decode cX9_opens 191 = .ok (.ifCond .ne 20, 3) := by decide +kernel
theorem dX9_opens_194 : decode cX9_opens 194 = .ok (.aload_n 0, 1) := by decide +kernel
theorem dX9_opens_195 : decode cX9_opens 195 = .ok (.getfield 98, 3) := by decide +kernel
theorem dX9_opens_198 : decode cX9_opens 198 = .ok (.iload_n 2, 1) := by decide +kernel
theorem dX9_opens_199 : decode cX9_opens 199 = .ok (.baload, 1) := by decide +kernel
theorem dX9_opens_200 : decode cX9_opens 200 = .ok (.ifCond .ne 11, 3) := by decide +kernel
theorem dX9_opens_203 : decode cX9_opens 203 = .ok (.aload_n 0, 1) := by decide +kernel
theorem dX9_opens_204 : decode cX9_opens 204 = .ok (.iload_n 2, 1) := by decide +kernel
theorem dX9_opens_205 : decode cX9_opens 205 = .ok (.invokevirtual 226, 3) := by decide +kernel
theorem dX9_opens_208 : decode cX9_opens 208 = .ok (.ifCond .gt 22, 3) := by decide +kernel
theorem dX9_opens_211 : decode cX9_opens 211 = .ok (.aload_n 0, 1) := by decide +kernel
theorem dX9_opens_212 : decode cX9_opens 212 = .ok (.getfield 92, 3) := by decide +kernel
theorem dX9_opens_215 : decode cX9_opens 215 = .ok (.iload_n 2, 1) := by decide +kernel
theorem dX9_opens_216 : decode cX9_opens 216 = .ok (.iaload, 1) := by decide +kernel
theorem dX9_opens_217 : decode cX9_opens 217 = .ok (.iconst 1, 1) := by decide +kernel
theorem dX9_opens_218 : decode cX9_opens 218 = .ok (.if_icmp .ne 16, 3) := by decide +kernel
theorem dX9_opens_221 : decode cX9_opens 221 = .ok (.aload_n 0, 1) := by decide +kernel
theorem dX9_opens_222 : decode cX9_opens 222 = .ok (.getfield 98, 3) := by decide +kernel
theorem dX9_opens_225 : decode cX9_opens 225 = .ok (.iload_n 2, 1) := by decide +kernel
theorem dX9_opens_226 : decode cX9_opens 226 = .ok (.baload, 1) := by decide +kernel
theorem dX9_opens_227 : decode cX9_opens 227 = .ok (.ifCond .eq 7, 3) := by decide +kernel
theorem dX9_opens_230 : decode cX9_opens 230 = .ok (.iconst 1, 1) := by decide +kernel
theorem dX9_opens_231 : decode cX9_opens 231 = .ok (.goto 4, 3) := by decide +kernel
theorem dX9_opens_234 : decode cX9_opens 234 = .ok (.iconst 0, 1) := by decide +kernel
theorem dX9_opens_235 : decode cX9_opens 235 = .ok (.bastore, 1) := by decide +kernel
theorem dX9_opens_236 : decode cX9_opens 236 = .ok (.iinc 2 1, 3) := by decide +kernel
theorem dX9_opens_239 : decode cX9_opens 239 = .ok (.goto (-67), 3) := by decide +kernel
theorem dX9_opens_242 : decode cX9_opens 242 = .ok (.iload_n 1, 1) := by decide +kernel
theorem dX9_opens_243 : decode cX9_opens 243 = .ok (.ireturn, 1) := by decide +kernel
theorem dX9_reaches_0 : decode cX9_reaches 0 = .ok (.aload_n 0, 1) := by decide +kernel
theorem dX9_reaches_1 : decode cX9_reaches 1 = .ok (.getfield 98, 3) := by decide +kernel
theorem dX9_reaches_4 : decode cX9_reaches 4 = .ok (.iload_n 1, 1) := by decide +kernel
theorem dX9_reaches_5 : decode cX9_reaches 5 = .ok (.iconst 1, 1) := by decide +kernel
theorem dX9_reaches_6 : decode cX9_reaches 6 = .ok (.bastore, 1) := by decide +kernel
theorem dX9_reaches_7 : decode cX9_reaches 7 = .ok (.sipush 300, 3) := by decide +kernel
theorem dX9_reaches_10 : decode cX9_reaches 10 = .ok (.iload_n 1, 1) := by decide +kernel
theorem dX9_reaches_11 : decode cX9_reaches 11 = .ok (.imul, 1) := by decide +kernel
theorem dX9_reaches_12 : decode cX9_reaches 12 = .ok (.istore_n 2, 1) := by decide +kernel
theorem dX9_reaches_13 : decode cX9_reaches 13 = .ok (.iload_n 2, 1) := by decide +kernel
theorem dX9_reaches_14 : decode cX9_reaches 14 = .ok (.sipush 300, 3) := by decide +kernel
theorem dX9_reaches_17 : decode cX9_reaches 17 = .ok (.iload_n 1, 1) := by decide +kernel
theorem dX9_reaches_18 : decode cX9_reaches 18 = .ok (.imul, 1) := by decide +kernel
theorem dX9_reaches_19 : decode cX9_reaches 19 = .ok (.aload_n 0, 1) := by decide +kernel
theorem dX9_reaches_20 : decode cX9_reaches 20 = .ok (.getfield 80, 3) := by decide +kernel
theorem dX9_reaches_23 : decode cX9_reaches 23 = .ok (.iload_n 1, 1) := by decide +kernel
theorem dX9_reaches_24 : decode cX9_reaches 24 = .ok (.iaload, 1) := by decide +kernel
theorem dX9_reaches_25 : decode cX9_reaches 25 = .ok (.iadd, 1) := by decide +kernel
theorem dX9_reaches_26 : decode cX9_reaches 26 = .ok (.if_icmp .ge 65, 3) := by decide +kernel
theorem dX9_reaches_29 : decode cX9_reaches 29 = .ok (.aload_n 0, 1) := by decide +kernel
theorem dX9_reaches_30 : decode cX9_reaches 30 = .ok (.getfield 83, 3) := by decide +kernel
theorem dX9_reaches_33 : decode cX9_reaches 33 = .ok (.iload_n 2, 1) := by decide +kernel
theorem dX9_reaches_34 : decode cX9_reaches 34 = .ok (.iaload, 1) := by decide +kernel
theorem dX9_reaches_35 : decode cX9_reaches 35 = .ok (.istore_n 3, 1) := by decide +kernel
theorem dX9_reaches_36 : decode cX9_reaches 36 = .ok (.aload_n 0, 1) := by decide +kernel
theorem dX9_reaches_37 : decode cX9_reaches 37 = .ok (.getfield 98, 3) := by decide +kernel
theorem dX9_reaches_40 : decode cX9_reaches 40 = .ok (.iload_n 3, 1) := by decide +kernel
theorem dX9_reaches_41 : decode cX9_reaches 41 = .ok (.baload, 1) := by decide +kernel
theorem dX9_reaches_42 : decode cX9_reaches 42 = .ok (.ifCond .ne 43, 3) := by decide +kernel
theorem dX9_reaches_45 : decode cX9_reaches 45 = .ok (.aload_n 0, 1) := by decide +kernel
theorem dX9_reaches_46 : decode cX9_reaches 46 = .ok (.getfield 98, 3) := by decide +kernel
theorem dX9_reaches_49 : decode cX9_reaches 49 = .ok (.iload_n 3, 1) := by decide +kernel
theorem dX9_reaches_50 : decode cX9_reaches 50 = .ok (.iconst 1, 1) := by decide +kernel
theorem dX9_reaches_51 : decode cX9_reaches 51 = .ok (.bastore, 1) := by decide +kernel
theorem dX9_reaches_52 : decode cX9_reaches 52 = .ok (.aload_n 0, 1) := by decide +kernel
theorem dX9_reaches_53 : decode cX9_reaches 53 = .ok (.getfield 95, 3) := by decide +kernel
theorem dX9_reaches_56 : decode cX9_reaches 56 = .ok (.iload_n 3, 1) := by decide +kernel
theorem dX9_reaches_57 : decode cX9_reaches 57 = .ok (.iaload, 1) := by decide +kernel
theorem dX9_reaches_58 : decode cX9_reaches 58 = .ok (.ifCond .lt 27, 3) := by decide +kernel
theorem dX9_reaches_61 : decode cX9_reaches 61 = .ok (.aload_n 0, 1) := by decide +kernel
theorem dX9_reaches_62 : decode cX9_reaches 62 = .ok (.getfield 98, 3) := by decide +kernel
theorem dX9_reaches_65 : decode cX9_reaches 65 = .ok (.aload_n 0, 1) := by decide +kernel
theorem dX9_reaches_66 : decode cX9_reaches 66 = .ok (.getfield 95, 3) := by decide +kernel
theorem dX9_reaches_69 : decode cX9_reaches 69 = .ok (.iload_n 3, 1) := by decide +kernel
theorem dX9_reaches_70 : decode cX9_reaches 70 = .ok (.iaload, 1) := by decide +kernel
theorem dX9_reaches_71 : decode cX9_reaches 71 = .ok (.baload, 1) := by decide +kernel
theorem dX9_reaches_72 : decode cX9_reaches 72 = .ok (.ifCond .ne 13, 3) := by decide +kernel
theorem dX9_reaches_75 : decode cX9_reaches 75 = .ok (.aload_n 0, 1) := by decide +kernel
theorem dX9_reaches_76 : decode cX9_reaches 76 = .ok (.aload_n 0, 1) := by decide +kernel
theorem dX9_reaches_77 : decode cX9_reaches 77 = .ok (.getfield 95, 3) := by decide +kernel
theorem dX9_reaches_80 : decode cX9_reaches 80 = .ok (.iload_n 3, 1) := by decide +kernel
theorem dX9_reaches_81 : decode cX9_reaches 81 = .ok (.iaload, 1) := by decide +kernel
theorem dX9_reaches_82 : decode cX9_reaches 82 = .ok (.invokevirtual 248, 3) := by decide +kernel
theorem dX9_reaches_85 : decode cX9_reaches 85 = .ok (.iinc 2 1, 3) := by decide +kernel
theorem dX9_reaches_88 : decode cX9_reaches 88 = .ok (.goto (-75), 3) := by decide +kernel
theorem dX9_reaches_91 : decode cX9_reaches 91 = .ok (.return_, 1) := by decide +kernel
theorem dX9_fewest_0 : decode cX9_fewest 0 = .ok (.aload_n 0, 1) := by decide +kernel
theorem dX9_fewest_1 : decode cX9_fewest 1 = .ok (.iconst 0, 1) := by decide +kernel
theorem dX9_fewest_2 : decode cX9_fewest 2 = .ok (.putfield 1, 3) := by decide +kernel
theorem dX9_fewest_5 : decode cX9_fewest 5 = .ok (.aload_n 0, 1) := by decide +kernel
theorem dX9_fewest_6 : decode cX9_fewest 6 = .ok (.invokevirtual 251, 3) := by decide +kernel
theorem dX9_fewest_9 : decode cX9_fewest 9 = .ok (.ireturn, 1) := by decide +kernel
theorem dX9_isNearHand_0 : decode cX9_isNearHand 0 = .ok (.iconst 0, 1) := by decide +kernel
theorem dX9_isNearHand_1 : decode cX9_isNearHand 1 = .ok (.istore_n 2, 1) := by decide +kernel
theorem dX9_isNearHand_2 : decode cX9_isNearHand 2 = .ok (.sipush 300, 3) := by decide +kernel
theorem dX9_isNearHand_5 : decode cX9_isNearHand 5 = .ok (.iload_n 1, 1) := by decide +kernel
theorem dX9_isNearHand_6 : decode cX9_isNearHand 6 = .ok (.imul, 1) := by decide +kernel
theorem dX9_isNearHand_7 : decode cX9_isNearHand 7 = .ok (.istore_n 3, 1) := by decide +kernel
theorem dX9_isNearHand_8 : decode cX9_isNearHand 8 = .ok (.iload_n 3, 1) := by decide +kernel
theorem dX9_isNearHand_9 : decode cX9_isNearHand 9 = .ok (.sipush 300, 3) := by decide +kernel
theorem dX9_isNearHand_12 : decode cX9_isNearHand 12 = .ok (.iload_n 1, 1) := by decide +kernel
theorem dX9_isNearHand_13 : decode cX9_isNearHand 13 = .ok (.imul, 1) := by decide +kernel
theorem dX9_isNearHand_14 : decode cX9_isNearHand 14 = .ok (.aload_n 0, 1) := by decide +kernel
theorem dX9_isNearHand_15 : decode cX9_isNearHand 15 = .ok (.getfield 80, 3) := by decide +kernel
theorem dX9_isNearHand_18 : decode cX9_isNearHand 18 = .ok (.iload_n 1, 1) := by decide +kernel
theorem dX9_isNearHand_19 : decode cX9_isNearHand 19 = .ok (.iaload, 1) := by decide +kernel
theorem dX9_isNearHand_20 : decode cX9_isNearHand 20 = .ok (.iadd, 1) := by decide +kernel
theorem dX9_isNearHand_21 : decode cX9_isNearHand 21 = .ok (.if_icmp .ge 33, 3) := by decide +kernel
theorem dX9_isNearHand_24 : decode cX9_isNearHand 24 = .ok (.iload_n 2, 1) := by decide +kernel
theorem dX9_isNearHand_25 : decode cX9_isNearHand 25 = .ok (.ifCond .ne 17, 3) := by decide +kernel
theorem dX9_isNearHand_28 : decode cX9_isNearHand 28 = .ok (.aload_n 0, 1) := by decide +kernel
theorem dX9_isNearHand_29 : decode cX9_isNearHand 29 = .ok (.getfield 104, 3) := by decide +kernel
theorem dX9_isNearHand_32 : decode cX9_isNearHand 32 = .ok (.aload_n 0, 1) := by decide +kernel
theorem dX9_isNearHand_33 : decode cX9_isNearHand 33 = .ok (.getfield 83, 3) := by decide +kernel
theorem dX9_isNearHand_36 : decode cX9_isNearHand 36 = .ok (.iload_n 3, 1) := by decide +kernel
theorem dX9_isNearHand_37 : decode cX9_isNearHand 37 = .ok (.iaload, 1) := by decide +kernel
theorem dX9_isNearHand_38 : decode cX9_isNearHand 38 = .ok (.baload, 1) := by decide +kernel
theorem dX9_isNearHand_39 : decode cX9_isNearHand 39 = .ok (.ifCond .eq 7, 3) := by decide +kernel
theorem dX9_isNearHand_42 : decode cX9_isNearHand 42 = .ok (.iconst 1, 1) := by decide +kernel
theorem dX9_isNearHand_43 : decode cX9_isNearHand 43 = .ok (.goto 4, 3) := by decide +kernel
theorem dX9_isNearHand_46 : decode cX9_isNearHand 46 = .ok (.iconst 0, 1) := by decide +kernel
theorem dX9_isNearHand_47 : decode cX9_isNearHand 47 = .ok (.istore_n 2, 1) := by decide +kernel
theorem dX9_isNearHand_48 : decode cX9_isNearHand 48 = .ok (.iinc 3 1, 3) := by decide +kernel
end
section
theorem dX9_isNearHand_51 : decode cX9_isNearHand 51 = .ok (.goto (-43), 3) := by decide +kernel
theorem dX9_isNearHand_54 : decode cX9_isNearHand 54 = .ok (.iload_n 2, 1) := by decide +kernel
theorem dX9_isNearHand_55 : decode cX9_isNearHand 55 = .ok (.ireturn, 1) := by decide +kernel
theorem dX9_nextOpened_0 : decode cX9_nextOpened 0 = .ok (.iconst (-1), 1) := by decide +kernel
theorem dX9_nextOpened_1 : decode cX9_nextOpened 1 = .ok (.istore_n 1, 1) := by decide +kernel
theorem dX9_nextOpened_2 : decode cX9_nextOpened 2 = .ok (.iconst 0, 1) := by decide +kernel
theorem dX9_nextOpened_3 : decode cX9_nextOpened 3 = .ok (.istore_n 2, 1) := by decide +kernel
theorem dX9_nextOpened_4 : decode cX9_nextOpened 4 = .ok (.iload_n 2, 1) := by decide +kernel
theorem dX9_nextOpened_5 : decode cX9_nextOpened 5 = .ok (.aload_n 0, 1) := by decide +kernel
theorem dX9_nextOpened_6 : decode cX9_nextOpened 6 = .ok (.getfield 201, 3) := by decide +kernel
theorem dX9_nextOpened_9 : decode cX9_nextOpened 9 = .ok (.if_icmp .ge 47, 3) := by decide +kernel
theorem dX9_nextOpened_12 : decode cX9_nextOpened 12 = .ok (.aload_n 0, 1) := by decide +kernel
theorem dX9_nextOpened_13 : decode cX9_nextOpened 13 = .ok (.getfield 101, 3) := by decide +kernel
theorem dX9_nextOpened_16 : decode cX9_nextOpened 16 = .ok (.iload_n 2, 1) := by decide +kernel
theorem dX9_nextOpened_17 : decode cX9_nextOpened 17 = .ok (.baload, 1) := by decide +kernel
theorem dX9_nextOpened_18 : decode cX9_nextOpened 18 = .ok (.ifCond .eq 32, 3) := by decide +kernel
theorem dX9_nextOpened_21 : decode cX9_nextOpened 21 = .ok (.aload_n 0, 1) := by decide +kernel
theorem dX9_nextOpened_22 : decode cX9_nextOpened 22 = .ok (.getfield 107, 3) := by decide +kernel
theorem dX9_nextOpened_25 : decode cX9_nextOpened 25 = .ok (.iload_n 2, 1) := by decide +kernel
theorem dX9_nextOpened_26 : decode cX9_nextOpened 26 = .ok (.baload, 1) := by decide +kernel
theorem dX9_nextOpened_27 : decode cX9_nextOpened 27 = .ok (.ifCond .ne 23, 3) := by decide +kernel
theorem dX9_nextOpened_30 : decode cX9_nextOpened 30 = .ok (.aload_n 0, 1) := by decide +kernel
theorem dX9_nextOpened_31 : decode cX9_nextOpened 31 = .ok (.iload_n 2, 1) := by decide +kernel
theorem dX9_nextOpened_32 : decode cX9_nextOpened 32 = .ok (.invokevirtual 254, 3) := by decide +kernel
theorem dX9_nextOpened_35 : decode cX9_nextOpened 35 = .ok (.ifCond .eq 5, 3) := by decide +kernel
theorem dX9_nextOpened_38 : decode cX9_nextOpened 38 = .ok (.iload_n 2, 1) := by decide +kernel
theorem dX9_nextOpened_39 : decode cX9_nextOpened 39 = .ok (.ireturn, 1) := by decide +kernel
theorem dX9_nextOpened_40 : decode cX9_nextOpened 40 = .ok (.iload_n 1, 1) := by decide +kernel
theorem dX9_nextOpened_41 : decode cX9_nextOpened 41 = .ok (.ifCond .ge 7, 3) := by decide +kernel
theorem dX9_nextOpened_44 : decode cX9_nextOpened 44 = .ok (.iload_n 2, 1) := by decide +kernel
theorem dX9_nextOpened_45 : decode cX9_nextOpened 45 = .ok (.goto 4, 3) := by decide +kernel
theorem dX9_nextOpened_48 : decode cX9_nextOpened 48 = .ok (.iload_n 1, 1) := by decide +kernel
theorem dX9_nextOpened_49 : decode cX9_nextOpened 49 = .ok (.istore_n 1, 1) := by decide +kernel
theorem dX9_nextOpened_50 : decode cX9_nextOpened 50 = .ok (.iinc 2 1, 3) := by decide +kernel
theorem dX9_nextOpened_53 : decode cX9_nextOpened 53 = .ok (.goto (-49), 3) := by decide +kernel
theorem dX9_nextOpened_56 : decode cX9_nextOpened 56 = .ok (.iload_n 1, 1) := by decide +kernel
theorem dX9_nextOpened_57 : decode cX9_nextOpened 57 = .ok (.ireturn, 1) := by decide +kernel
theorem dX9_order_0 : decode cX9_order 0 = .ok (.aload_n 0, 1) := by decide +kernel
theorem dX9_order_1 : decode cX9_order 1 = .ok (.iconst 0, 1) := by decide +kernel
theorem dX9_order_2 : decode cX9_order 2 = .ok (.putfield 1, 3) := by decide +kernel
theorem dX9_order_5 : decode cX9_order 5 = .ok (.iload_n 1, 1) := by decide +kernel
theorem dX9_order_6 : decode cX9_order 6 = .ok (.ifCond .lt 10, 3) := by decide +kernel
theorem dX9_order_9 : decode cX9_order 9 = .ok (.aload_n 0, 1) := by decide +kernel
theorem dX9_order_10 : decode cX9_order 10 = .ok (.invokevirtual 251, 3) := by decide +kernel
theorem dX9_order_13 : decode cX9_order 13 = .ok (.ifCond .ge 5, 3) := by decide +kernel
theorem dX9_order_16 : decode cX9_order 16 = .ok (.iconst (-1), 1) := by decide +kernel
theorem dX9_order_17 : decode cX9_order 17 = .ok (.ireturn, 1) := by decide +kernel
theorem dX9_order_18 : decode cX9_order 18 = .ok (.iconst 0, 1) := by decide +kernel
theorem dX9_order_19 : decode cX9_order 19 = .ok (.istore_n 2, 1) := by decide +kernel
theorem dX9_order_20 : decode cX9_order 20 = .ok (.iload_n 2, 1) := by decide +kernel
theorem dX9_order_21 : decode cX9_order 21 = .ok (.aload_n 0, 1) := by decide +kernel
theorem dX9_order_22 : decode cX9_order 22 = .ok (.getfield 201, 3) := by decide +kernel
theorem dX9_order_25 : decode cX9_order 25 = .ok (.if_icmp .ge 23, 3) := by decide +kernel
theorem dX9_order_28 : decode cX9_order 28 = .ok (.aload_n 0, 1) := by decide +kernel
theorem dX9_order_29 : decode cX9_order 29 = .ok (.getfield 104, 3) := by decide +kernel
theorem dX9_order_32 : decode cX9_order 32 = .ok (.iload_n 2, 1) := by decide +kernel
theorem dX9_order_33 : decode cX9_order 33 = .ok (.iconst 0, 1) := by decide +kernel
theorem dX9_order_34 : decode cX9_order 34 = .ok (.bastore, 1) := by decide +kernel
theorem dX9_order_35 : decode cX9_order 35 = .ok (.aload_n 0, 1) := by decide +kernel
theorem dX9_order_36 : decode cX9_order 36 = .ok (.getfield 107, 3) := by decide +kernel
theorem dX9_order_39 : decode cX9_order 39 = .ok (.iload_n 2, 1) := by decide +kernel
theorem dX9_order_40 : decode cX9_order 40 = .ok (.iconst 0, 1) := by decide +kernel
theorem dX9_order_41 : decode cX9_order 41 = .ok (.bastore, 1) := by decide +kernel
theorem dX9_order_42 : decode cX9_order 42 = .ok (.iinc 2 1, 3) := by decide +kernel
theorem dX9_order_45 : decode cX9_order 45 = .ok (.goto (-25), 3) := by decide +kernel
theorem dX9_order_48 : decode cX9_order 48 = .ok (.aload_n 0, 1) := by decide +kernel
theorem dX9_order_49 : decode cX9_order 49 = .ok (.invokevirtual 257, 3) := by decide +kernel
theorem dX9_order_52 : decode cX9_order 52 = .ok (.istore_n 2, 1) := by decide +kernel
theorem dX9_order_53 : decode cX9_order 53 = .ok (.iconst 0, 1) := by decide +kernel
theorem dX9_order_54 : decode cX9_order 54 = .ok (.istore_n 3, 1) := by decide +kernel
theorem dX9_order_55 : decode cX9_order 55 = .ok (.iload_n 3, 1) := by decide +kernel
theorem dX9_order_56 : decode cX9_order 56 = .ok (.iload_n 1, 1) := by decide +kernel
theorem dX9_order_57 : decode cX9_order 57 = .ok (.if_icmp .ge 82, 3) := by decide +kernel
theorem dX9_order_60 : decode cX9_order 60 = .ok (.iload_n 2, 1) := by decide +kernel
theorem dX9_order_61 : decode cX9_order 61 = .ok (.ifCond .lt 78, 3) := by decide +kernel
theorem dX9_order_64 : decode cX9_order 64 = .ok (.aload_n 0, 1) := by decide +kernel
theorem dX9_order_65 : decode cX9_order 65 = .ok (.getfield 107, 3) := by decide +kernel
theorem dX9_order_68 : decode cX9_order 68 = .ok (.iload_n 2, 1) := by decide +kernel
theorem dX9_order_69 : decode cX9_order 69 = .ok (.iconst 1, 1) := by decide +kernel
theorem dX9_order_70 : decode cX9_order 70 = .ok (.bastore, 1) := by decide +kernel
theorem dX9_order_71 : decode cX9_order 71 = .ok (.aload_n 0, 1) := by decide +kernel
theorem dX9_order_72 : decode cX9_order 72 = .ok (.getfield 104, 3) := by decide +kernel
theorem dX9_order_75 : decode cX9_order 75 = .ok (.iload_n 2, 1) := by decide +kernel
theorem dX9_order_76 : decode cX9_order 76 = .ok (.iconst 1, 1) := by decide +kernel
theorem dX9_order_77 : decode cX9_order 77 = .ok (.bastore, 1) := by decide +kernel
theorem dX9_order_78 : decode cX9_order 78 = .ok (.iconst 0, 1) := by decide +kernel
theorem dX9_order_79 : decode cX9_order 79 = .ok (.istore 4, 2) := by decide +kernel
theorem dX9_order_81 : decode cX9_order 81 = .ok (.iload 4, 2) := by decide +kernel
theorem dX9_order_83 : decode cX9_order 83 = .ok (.aload_n 0, 1) := by decide +kernel
theorem dX9_order_84 : decode cX9_order 84 = .ok (.getfield 201, 3) := by decide +kernel
theorem dX9_order_87 : decode cX9_order 87 = .ok (.if_icmp .ge 41, 3) := by decide +kernel
theorem dX9_order_90 : decode cX9_order 90 = .ok (.aload_n 0, 1) := by decide +kernel
theorem dX9_order_91 : decode cX9_order 91 = .ok (.getfield 104, 3) := by decide +kernel
theorem dX9_order_94 : decode cX9_order 94 = .ok (.iload 4, 2) := by decide +kernel
theorem dX9_order_96 : decode cX9_order 96 = .ok (.aload_n 0, 1) := by decide +kernel
theorem dX9_order_97 : decode cX9_order 97 = .ok (.getfield 104, 3) := by decide +kernel
theorem dX9_order_100 : decode cX9_order 100 = .ok (.iload 4, 2) := by decide +kernel
theorem dX9_order_102 : decode cX9_order 102 = .ok (.baload, 1) := by decide +kernel
theorem dX9_order_103 : decode cX9_order 103 = .ok (.ifCond .ne 13, 3) := by decide +kernel
theorem dX9_order_106 : decode cX9_order 106 = .ok (.aload_n 0, 1) := by decide +kernel
theorem dX9_order_107 : decode cX9_order 107 = .ok (.iload_n 2, 1) := by decide +kernel
theorem dX9_order_108 : decode cX9_order 108 = .ok (.iload 4, 2) := by decide +kernel
theorem dX9_order_110 : decode cX9_order 110 = .ok (.invokevirtual 229, 3) := by decide +kernel
theorem dX9_order_113 : decode cX9_order 113 = .ok (.ifCond .eq 7, 3) := by decide +kernel
theorem dX9_order_116 : decode cX9_order 116 = .ok (.iconst 1, 1) := by decide +kernel
theorem dX9_order_117 : decode cX9_order 117 = .ok (.goto 4, 3) := by decide +kernel
theorem dX9_order_120 : decode cX9_order 120 = .ok (.iconst 0, 1) := by decide +kernel
theorem dX9_order_121 : decode cX9_order 121 = .ok (.bastore, 1) := by decide +kernel
theorem dX9_order_122 : decode cX9_order 122 = .ok (.iinc 4 1, 3) := by decide +kernel
theorem dX9_order_125 : decode cX9_order 125 = .ok (.goto (-44), 3) := by decide +kernel
theorem dX9_order_128 : decode cX9_order 128 = .ok (.aload_n 0, 1) := by decide +kernel
theorem dX9_order_129 : decode cX9_order 129 = .ok (.invokevirtual 257, 3) := by decide +kernel
theorem dX9_order_132 : decode cX9_order 132 = .ok (.istore_n 2, 1) := by decide +kernel
theorem dX9_order_133 : decode cX9_order 133 = .ok (.iinc 3 1, 3) := by decide +kernel
theorem dX9_order_136 : decode cX9_order 136 = .ok (.goto (-81), 3) := by decide +kernel
theorem dX9_order_139 : decode cX9_order 139 = .ok (.iload_n 2, 1) := by decide +kernel
theorem dX9_order_140 : decode cX9_order 140 = .ok (.ireturn, 1) := by decide +kernel
theorem dX9_sizes_0 : decode cX9_sizes 0 = .ok (.aload_n 0, 1) := by decide +kernel
theorem dX9_sizes_1 : decode cX9_sizes 1 = .ok (.iconst 0, 1) := by decide +kernel
theorem dX9_sizes_2 : decode cX9_sizes 2 = .ok (.putfield 1, 3) := by decide +kernel
theorem dX9_sizes_5 : decode cX9_sizes 5 = .ok (.iload_n 1, 1) := by decide +kernel
theorem dX9_sizes_6 : decode cX9_sizes 6 = .ok (.iconst 1, 1) := by decide +kernel
theorem dX9_sizes_7 : decode cX9_sizes 7 = .ok (.if_icmp .lt 33, 3) := by decide +kernel
theorem dX9_sizes_10 : decode cX9_sizes 10 = .ok (.iload_n 1, 1) := by decide +kernel
theorem dX9_sizes_11 : decode cX9_sizes 11 = .ok (.sipush 999, 3) := by decide +kernel
theorem dX9_sizes_14 : decode cX9_sizes 14 = .ok (.if_icmp .gt 26, 3) := by decide +kernel
theorem dX9_sizes_17 : decode cX9_sizes 17 = .ok (.iload_n 2, 1) := by decide +kernel
theorem dX9_sizes_18 : decode cX9_sizes 18 = .ok (.iconst 1, 1) := by decide +kernel
theorem dX9_sizes_19 : decode cX9_sizes 19 = .ok (.if_icmp .lt 21, 3) := by decide +kernel
theorem dX9_sizes_22 : decode cX9_sizes 22 = .ok (.iload_n 2, 1) := by decide +kernel
theorem dX9_sizes_23 : decode cX9_sizes 23 = .ok (.sipush 9999, 3) := by decide +kernel
theorem dX9_sizes_26 : decode cX9_sizes 26 = .ok (.if_icmp .gt 14, 3) := by decide +kernel
theorem dX9_sizes_29 : decode cX9_sizes 29 = .ok (.iload_n 3, 1) := by decide +kernel
theorem dX9_sizes_30 : decode cX9_sizes 30 = .ok (.iconst 1, 1) := by decide +kernel
theorem dX9_sizes_31 : decode cX9_sizes 31 = .ok (.if_icmp .lt 9, 3) := by decide +kernel
theorem dX9_sizes_34 : decode cX9_sizes 34 = .ok (.iload_n 3, 1) := by decide +kernel
theorem dX9_sizes_35 : decode cX9_sizes 35 = .ok (.bipush 99, 2) := by decide +kernel
theorem dX9_sizes_37 : decode cX9_sizes 37 = .ok (.if_icmp .le 5, 3) := by decide +kernel
theorem dX9_sizes_40 : decode cX9_sizes 40 = .ok (.iconst 0, 1) := by decide +kernel
theorem dX9_sizes_41 : decode cX9_sizes 41 = .ok (.ireturn, 1) := by decide +kernel
theorem dX9_sizes_42 : decode cX9_sizes 42 = .ok (.aload_n 0, 1) := by decide +kernel
theorem dX9_sizes_43 : decode cX9_sizes 43 = .ok (.iload_n 1, 1) := by decide +kernel
theorem dX9_sizes_44 : decode cX9_sizes 44 = .ok (.putfield 110, 3) := by decide +kernel
theorem dX9_sizes_47 : decode cX9_sizes 47 = .ok (.aload_n 0, 1) := by decide +kernel
theorem dX9_sizes_48 : decode cX9_sizes 48 = .ok (.iload_n 2, 1) := by decide +kernel
theorem dX9_sizes_49 : decode cX9_sizes 49 = .ok (.putfield 113, 3) := by decide +kernel
theorem dX9_sizes_52 : decode cX9_sizes 52 = .ok (.aload_n 0, 1) := by decide +kernel
theorem dX9_sizes_53 : decode cX9_sizes 53 = .ok (.iload_n 3, 1) := by decide +kernel
theorem dX9_sizes_54 : decode cX9_sizes 54 = .ok (.putfield 116, 3) := by decide +kernel
theorem dX9_sizes_57 : decode cX9_sizes 57 = .ok (.iconst 1, 1) := by decide +kernel
theorem dX9_sizes_58 : decode cX9_sizes 58 = .ok (.ireturn, 1) := by decide +kernel
theorem dX9_times_0 : decode cX9_times 0 = .ok (.iload_n 0, 1) := by decide +kernel
theorem dX9_times_1 : decode cX9_times 1 = .ok (.tableswitch 73 0 7 #[47, 49, 53, 57, 61, 65, 69, 69], 47) := by decide +kernel
theorem dX9_times_48 : decode cX9_times 48 = .ok (.iconst 0, 1) := by decide +kernel
theorem dX9_times_49 : decode cX9_times 49 = .ok (.ireturn, 1) := by decide +kernel
theorem dX9_times_50 : decode cX9_times 50 = .ok (.sipush 1000, 3) := by decide +kernel
theorem dX9_times_53 : decode cX9_times 53 = .ok (.ireturn, 1) := by decide +kernel
theorem dX9_times_54 : decode cX9_times 54 = .ok (.sipush 2000, 3) := by decide +kernel
theorem dX9_times_57 : decode cX9_times 57 = .ok (.ireturn, 1) := by decide +kernel
theorem dX9_times_58 : decode cX9_times 58 = .ok (.sipush 2155, 3) := by decide +kernel
theorem dX9_times_61 : decode cX9_times 61 = .ok (.ireturn, 1) := by decide +kernel
theorem dX9_times_62 : decode cX9_times 62 = .ok (.sipush 2414, 3) := by decide +kernel
theorem dX9_times_65 : decode cX9_times 65 = .ok (.ireturn, 1) := by decide +kernel
theorem dX9_times_66 : decode cX9_times 66 = .ok (.sipush 2701, 3) := by decide +kernel
theorem dX9_times_69 : decode cX9_times 69 = .ok (.ireturn, 1) := by decide +kernel
theorem dX9_times_70 : decode cX9_times 70 = .ok (.sipush 3000, 3) := by decide +kernel
theorem dX9_times_73 : decode cX9_times 73 = .ok (.ireturn, 1) := by decide +kernel
theorem dX9_times_74 : decode cX9_times 74 = .ok (.sipush 3304, 3) := by decide +kernel
theorem dX9_times_77 : decode cX9_times 77 = .ok (.sipush 400, 3) := by decide +kernel
theorem dX9_times_80 : decode cX9_times 80 = .ok (.iload_n 0, 1) := by decide +kernel
theorem dX9_times_81 : decode cX9_times 81 = .ok (.bipush 8, 2) := by decide +kernel
theorem dX9_times_83 : decode cX9_times 83 = .ok (.isub, 1) := by decide +kernel
theorem dX9_times_84 : decode cX9_times 84 = .ok (.imul, 1) := by decide +kernel
theorem dX9_times_85 : decode cX9_times 85 = .ok (.iadd, 1) := by decide +kernel
theorem dX9_times_86 : decode cX9_times 86 = .ok (.ireturn, 1) := by decide +kernel
theorem dX9_binds_0 : decode cX9_binds 0 = .ok (.sipush 1000, 3) := by decide +kernel
theorem dX9_binds_3 : decode cX9_binds 3 = .ok (.aload_n 0, 1) := by decide +kernel
theorem dX9_binds_4 : decode cX9_binds 4 = .ok (.getfield 113, 3) := by decide +kernel
theorem dX9_binds_7 : decode cX9_binds 7 = .ok (.imul, 1) := by decide +kernel
theorem dX9_binds_8 : decode cX9_binds 8 = .ok (.aload_n 0, 1) := by decide +kernel
theorem dX9_binds_9 : decode cX9_binds 9 = .ok (.getfield 110, 3) := by decide +kernel
theorem dX9_binds_12 : decode cX9_binds 12 = .ok (.aload_n 0, 1) := by decide +kernel
theorem dX9_binds_13 : decode cX9_binds 13 = .ok (.iload_n 1, 1) := by decide +kernel
theorem dX9_binds_14 : decode cX9_binds 14 = .ok (.invokevirtual 226, 3) := by decide +kernel
theorem dX9_binds_17 : decode cX9_binds 17 = .ok (.invokestatic 260, 3) := by decide +kernel
theorem dX9_binds_20 : decode cX9_binds 20 = .ok (.imul, 1) := by decide +kernel
theorem dX9_binds_21 : decode cX9_binds 21 = .ok (.if_icmp .ge 7, 3) := by decide +kernel
theorem dX9_binds_24 : decode cX9_binds 24 = .ok (.iconst 1, 1) := by decide +kernel
theorem dX9_binds_25 : decode cX9_binds 25 = .ok (.goto 4, 3) := by decide +kernel
theorem dX9_binds_28 : decode cX9_binds 28 = .ok (.iconst 0, 1) := by decide +kernel
theorem dX9_binds_29 : decode cX9_binds 29 = .ok (.ireturn, 1) := by decide +kernel
theorem dX9_look_0 : decode cX9_look 0 = .ok (.aload_n 0, 1) := by decide +kernel
theorem dX9_look_1 : decode cX9_look 1 = .ok (.iload_n 1, 1) := by decide +kernel
theorem dX9_look_2 : decode cX9_look 2 = .ok (.ifCond .lt 38, 3) := by decide +kernel
theorem dX9_look_5 : decode cX9_look 5 = .ok (.iload_n 1, 1) := by decide +kernel
theorem dX9_look_6 : decode cX9_look 6 = .ok (.aload_n 0, 1) := by decide +kernel
theorem dX9_look_7 : decode cX9_look 7 = .ok (.getfield 201, 3) := by decide +kernel
theorem dX9_look_10 : decode cX9_look 10 = .ok (.if_icmp .ge 30, 3) := by decide +kernel
theorem dX9_look_13 : decode cX9_look 13 = .ok (.iload_n 2, 1) := by decide +kernel
theorem dX9_look_14 : decode cX9_look 14 = .ok (.ifCond .lt 26, 3) := by decide +kernel
theorem dX9_look_17 : decode cX9_look 17 = .ok (.iload_n 2, 1) := by decide +kernel
theorem dX9_look_18 : decode cX9_look 18 = .ok (.bipush 6, 2) := by decide +kernel
theorem dX9_look_20 : decode cX9_look 20 = .ok (.if_icmp .gt 20, 3) := by decide +kernel
theorem dX9_look_23 : decode cX9_look 23 = .ok (.iload_n 2, 1) := by decide +kernel
theorem dX9_look_24 : decode cX9_look 24 = .ok (.ifCond .eq 12, 3) := by decide +kernel
theorem dX9_look_27 : decode cX9_look 27 = .ok (.aload_n 0, 1) := by decide +kernel
theorem dX9_look_28 : decode cX9_look 28 = .ok (.getfield 70, 3) := by decide +kernel
theorem dX9_look_31 : decode cX9_look 31 = .ok (.iload_n 1, 1) := by decide +kernel
theorem dX9_look_32 : decode cX9_look 32 = .ok (.baload, 1) := by decide +kernel
theorem dX9_look_33 : decode cX9_look 33 = .ok (.ifCond .eq 7, 3) := by decide +kernel
theorem dX9_look_36 : decode cX9_look 36 = .ok (.iconst 0, 1) := by decide +kernel
theorem dX9_look_37 : decode cX9_look 37 = .ok (.goto 4, 3) := by decide +kernel
theorem dX9_look_40 : decode cX9_look 40 = .ok (.iconst 1, 1) := by decide +kernel
theorem dX9_look_41 : decode cX9_look 41 = .ok (.putfield 1, 3) := by decide +kernel
theorem dX9_look_44 : decode cX9_look 44 = .ok (.aload_n 0, 1) := by decide +kernel
theorem dX9_look_45 : decode cX9_look 45 = .ok (.getfield 1, 3) := by decide +kernel
theorem dX9_look_48 : decode cX9_look 48 = .ok (.ifCond .le 5, 3) := by decide +kernel
theorem dX9_look_51 : decode cX9_look 51 = .ok (.iconst 0, 1) := by decide +kernel
theorem dX9_look_52 : decode cX9_look 52 = .ok (.ireturn, 1) := by decide +kernel
theorem dX9_look_53 : decode cX9_look 53 = .ok (.iload_n 2, 1) := by decide +kernel
theorem dX9_look_54 : decode cX9_look 54 = .ok (.tableswitch 132 0 5 #[38, 53, 59, 73, 87, 110], 38) := by decide +kernel
theorem dX9_look_92 : decode cX9_look 92 = .ok (.aload_n 0, 1) := by decide +kernel
theorem dX9_look_93 : decode cX9_look 93 = .ok (.getfield 70, 3) := by decide +kernel
theorem dX9_look_96 : decode cX9_look 96 = .ok (.iload_n 1, 1) := by decide +kernel
theorem dX9_look_97 : decode cX9_look 97 = .ok (.baload, 1) := by decide +kernel
theorem dX9_look_98 : decode cX9_look 98 = .ok (.ifCond .eq 7, 3) := by decide +kernel
theorem dX9_look_101 : decode cX9_look 101 = .ok (.iconst 1, 1) := by decide +kernel
theorem dX9_look_102 : decode cX9_look 102 = .ok (.goto 4, 3) := by decide +kernel
theorem dX9_look_105 : decode cX9_look 105 = .ok (.iconst 0, 1) := by decide +kernel
theorem dX9_look_106 : decode cX9_look 106 = .ok (.ireturn, 1) := by decide +kernel
theorem dX9_look_107 : decode cX9_look 107 = .ok (.aload_n 0, 1) := by decide +kernel
theorem dX9_look_108 : decode cX9_look 108 = .ok (.iload_n 1, 1) := by decide +kernel
theorem dX9_look_109 : decode cX9_look 109 = .ok (.invokevirtual 226, 3) := by decide +kernel
theorem dX9_look_112 : decode cX9_look 112 = .ok (.ireturn, 1) := by decide +kernel
theorem dX9_look_113 : decode cX9_look 113 = .ok (.aload_n 0, 1) := by decide +kernel
theorem dX9_look_114 : decode cX9_look 114 = .ok (.iload_n 1, 1) := by decide +kernel
theorem dX9_look_115 : decode cX9_look 115 = .ok (.invokevirtual 263, 3) := by decide +kernel
theorem dX9_look_118 : decode cX9_look 118 = .ok (.ifCond .eq 7, 3) := by decide +kernel
theorem dX9_look_121 : decode cX9_look 121 = .ok (.iconst 1, 1) := by decide +kernel
theorem dX9_look_122 : decode cX9_look 122 = .ok (.goto 4, 3) := by decide +kernel
theorem dX9_look_125 : decode cX9_look 125 = .ok (.iconst 0, 1) := by decide +kernel
theorem dX9_look_126 : decode cX9_look 126 = .ok (.ireturn, 1) := by decide +kernel
theorem dX9_look_127 : decode cX9_look 127 = .ok (.aload_n 0, 1) := by decide +kernel
theorem dX9_look_128 : decode cX9_look 128 = .ok (.iload_n 1, 1) := by decide +kernel
theorem dX9_look_129 : decode cX9_look 129 = .ok (.invokevirtual 266, 3) := by decide +kernel
theorem dX9_look_132 : decode cX9_look 132 = .ok (.ifCond .eq 7, 3) := by decide +kernel
theorem dX9_look_135 : decode cX9_look 135 = .ok (.iconst 1, 1) := by decide +kernel
theorem dX9_look_136 : decode cX9_look 136 = .ok (.goto 4, 3) := by decide +kernel
theorem dX9_look_139 : decode cX9_look 139 = .ok (.iconst 0, 1) := by decide +kernel
theorem dX9_look_140 : decode cX9_look 140 = .ok (.ireturn, 1) := by decide +kernel
theorem dX9_look_141 : decode cX9_look 141 = .ok (.aload_n 0, 1) := by decide +kernel
theorem dX9_look_142 : decode cX9_look 142 = .ok (.invokevirtual 242, 3) := by decide +kernel
theorem dX9_look_145 : decode cX9_look 145 = .ok (.aload_n 0, 1) := by decide +kernel
theorem dX9_look_146 : decode cX9_look 146 = .ok (.iload_n 1, 1) := by decide +kernel
theorem dX9_look_147 : decode cX9_look 147 = .ok (.aload_n 0, 1) := by decide +kernel
theorem dX9_look_148 : decode cX9_look 148 = .ok (.iconst (-1), 1) := by decide +kernel
theorem dX9_look_149 : decode cX9_look 149 = .ok (.invokevirtual 236, 3) := by decide +kernel
theorem dX9_look_152 : decode cX9_look 152 = .ok (.invokevirtual 269, 3) := by decide +kernel
theorem dX9_look_155 : decode cX9_look 155 = .ok (.ifCond .eq 7, 3) := by decide +kernel
theorem dX9_look_158 : decode cX9_look 158 = .ok (.iconst 1, 1) := by decide +kernel
theorem dX9_look_159 : decode cX9_look 159 = .ok (.goto 4, 3) := by decide +kernel
theorem dX9_look_162 : decode cX9_look 162 = .ok (.iconst 0, 1) := by decide +kernel
theorem dX9_look_163 : decode cX9_look 163 = .ok (.ireturn, 1) := by decide +kernel
theorem dX9_look_164 : decode cX9_look 164 = .ok (.aload_n 0, 1) := by decide +kernel
theorem dX9_look_165 : decode cX9_look 165 = .ok (.invokevirtual 251, 3) := by decide +kernel
theorem dX9_look_168 : decode cX9_look 168 = .ok (.ifCond .lt 16, 3) := by decide +kernel
theorem dX9_look_171 : decode cX9_look 171 = .ok (.aload_n 0, 1) := by decide +kernel
theorem dX9_look_172 : decode cX9_look 172 = .ok (.getfield 101, 3) := by decide +kernel
theorem dX9_look_175 : decode cX9_look 175 = .ok (.iload_n 1, 1) := by decide +kernel
theorem dX9_look_176 : decode cX9_look 176 = .ok (.baload, 1) := by decide +kernel
theorem dX9_look_177 : decode cX9_look 177 = .ok (.ifCond .eq 7, 3) := by decide +kernel
theorem dX9_look_180 : decode cX9_look 180 = .ok (.iconst 1, 1) := by decide +kernel
theorem dX9_look_181 : decode cX9_look 181 = .ok (.goto 4, 3) := by decide +kernel
theorem dX9_look_184 : decode cX9_look 184 = .ok (.iconst 0, 1) := by decide +kernel
theorem dX9_look_185 : decode cX9_look 185 = .ok (.ireturn, 1) := by decide +kernel
theorem dX9_look_186 : decode cX9_look 186 = .ok (.aload_n 0, 1) := by decide +kernel
theorem dX9_look_187 : decode cX9_look 187 = .ok (.invokevirtual 242, 3) := by decide +kernel
theorem dX9_look_190 : decode cX9_look 190 = .ok (.aload_n 0, 1) := by decide +kernel
theorem dX9_look_191 : decode cX9_look 191 = .ok (.iconst (-1), 1) := by decide +kernel
theorem dX9_look_192 : decode cX9_look 192 = .ok (.invokevirtual 236, 3) := by decide +kernel
theorem dX9_look_195 : decode cX9_look 195 = .ok (.istore_n 3, 1) := by decide +kernel
theorem dX9_look_196 : decode cX9_look 196 = .ok (.aload_n 0, 1) := by decide +kernel
theorem dX9_look_197 : decode cX9_look 197 = .ok (.getfield 86, 3) := by decide +kernel
theorem dX9_look_200 : decode cX9_look 200 = .ok (.iload_n 1, 1) := by decide +kernel
theorem dX9_look_201 : decode cX9_look 201 = .ok (.iaload, 1) := by decide +kernel
theorem dX9_look_202 : decode cX9_look 202 = .ok (.ireturn, 1) := by decide +kernel
theorem dX9_over_0 : decode cX9_over 0 = .ok (.aload_n 0, 1) := by decide +kernel
theorem dX9_over_1 : decode cX9_over 1 = .ok (.iconst 0, 1) := by decide +kernel
theorem dX9_over_2 : decode cX9_over 2 = .ok (.putfield 1, 3) := by decide +kernel
theorem dX9_over_5 : decode cX9_over 5 = .ok (.aload_n 0, 1) := by decide +kernel
theorem dX9_over_6 : decode cX9_over 6 = .ok (.iload_n 1, 1) := by decide +kernel
theorem dX9_over_7 : decode cX9_over 7 = .ok (.invokevirtual 223, 3) := by decide +kernel
theorem dX9_over_10 : decode cX9_over 10 = .ok (.ifCond .eq 26, 3) := by decide +kernel
theorem dX9_over_13 : decode cX9_over 13 = .ok (.aload_n 0, 1) := by decide +kernel
theorem dX9_over_14 : decode cX9_over 14 = .ok (.iload_n 2, 1) := by decide +kernel
theorem dX9_over_15 : decode cX9_over 15 = .ok (.invokevirtual 223, 3) := by decide +kernel
theorem dX9_over_18 : decode cX9_over 18 = .ok (.ifCond .eq 18, 3) := by decide +kernel
theorem dX9_over_21 : decode cX9_over 21 = .ok (.aload_n 0, 1) := by decide +kernel
theorem dX9_over_22 : decode cX9_over 22 = .ok (.getfield 74, 3) := by decide +kernel
theorem dX9_over_25 : decode cX9_over 25 = .ok (.sipush 300, 3) := by decide +kernel
theorem dX9_over_28 : decode cX9_over 28 = .ok (.iload_n 1, 1) := by decide +kernel
theorem dX9_over_29 : decode cX9_over 29 = .ok (.imul, 1) := by decide +kernel
theorem dX9_over_30 : decode cX9_over 30 = .ok (.iload_n 2, 1) := by decide +kernel
theorem dX9_over_31 : decode cX9_over 31 = .ok (.iadd, 1) := by decide +kernel
theorem dX9_over_32 : decode cX9_over 32 = .ok (.iaload, 1) := by decide +kernel
theorem dX9_over_33 : decode cX9_over 33 = .ok (.goto 5, 3) := by decide +kernel
theorem dX9_over_36 : decode cX9_over 36 = .ok (.bipush (-2), 2) := by decide +kernel
theorem dX9_over_38 : decode cX9_over 38 = .ok (.ireturn, 1) := by decide +kernel
theorem dX9_linked_0 : decode cX9_linked 0 = .ok (.aload_n 0, 1) := by decide +kernel
theorem dX9_linked_1 : decode cX9_linked 1 = .ok (.iconst 0, 1) := by decide +kernel
theorem dX9_linked_2 : decode cX9_linked 2 = .ok (.putfield 1, 3) := by decide +kernel
theorem dX9_linked_5 : decode cX9_linked 5 = .ok (.iload_n 2, 1) := by decide +kernel
theorem dX9_linked_6 : decode cX9_linked 6 = .ok (.istore_n 3, 1) := by decide +kernel
theorem dX9_linked_7 : decode cX9_linked 7 = .ok (.iconst 0, 1) := by decide +kernel
theorem dX9_linked_8 : decode cX9_linked 8 = .ok (.istore 4, 2) := by decide +kernel
theorem dX9_linked_10 : decode cX9_linked 10 = .ok (.iload 4, 2) := by decide +kernel
theorem dX9_linked_12 : decode cX9_linked 12 = .ok (.aload_n 0, 1) := by decide +kernel
theorem dX9_linked_13 : decode cX9_linked 13 = .ok (.getfield 201, 3) := by decide +kernel
theorem dX9_linked_16 : decode cX9_linked 16 = .ok (.if_icmp .ge 41, 3) := by decide +kernel
theorem dX9_linked_19 : decode cX9_linked 19 = .ok (.aload_n 0, 1) := by decide +kernel
theorem dX9_linked_20 : decode cX9_linked 20 = .ok (.iload_n 1, 1) := by decide +kernel
theorem dX9_linked_21 : decode cX9_linked 21 = .ok (.invokevirtual 223, 3) := by decide +kernel
theorem dX9_linked_24 : decode cX9_linked 24 = .ok (.ifCond .eq 33, 3) := by decide +kernel
theorem dX9_linked_27 : decode cX9_linked 27 = .ok (.iload_n 2, 1) := by decide +kernel
theorem dX9_linked_28 : decode cX9_linked 28 = .ok (.ifCond .lt 29, 3) := by decide +kernel
theorem dX9_linked_31 : decode cX9_linked 31 = .ok (.aload_n 0, 1) := by decide +kernel
theorem dX9_linked_32 : decode cX9_linked 32 = .ok (.iload_n 1, 1) := by decide +kernel
theorem dX9_linked_33 : decode cX9_linked 33 = .ok (.iload 4, 2) := by decide +kernel
theorem dX9_linked_35 : decode cX9_linked 35 = .ok (.invokevirtual 229, 3) := by decide +kernel
theorem dX9_linked_38 : decode cX9_linked 38 = .ok (.ifCond .eq 13, 3) := by decide +kernel
theorem dX9_linked_41 : decode cX9_linked 41 = .ok (.iload_n 3, 1) := by decide +kernel
theorem dX9_linked_42 : decode cX9_linked 42 = .ok (.ifCond .ne 6, 3) := by decide +kernel
theorem dX9_linked_45 : decode cX9_linked 45 = .ok (.iload 4, 2) := by decide +kernel
theorem dX9_linked_47 : decode cX9_linked 47 = .ok (.ireturn, 1) := by decide +kernel
theorem dX9_linked_48 : decode cX9_linked 48 = .ok (.iinc 3 (-1), 3) := by decide +kernel
theorem dX9_linked_51 : decode cX9_linked 51 = .ok (.iinc 4 1, 3) := by decide +kernel
theorem dX9_linked_54 : decode cX9_linked 54 = .ok (.goto (-44), 3) := by decide +kernel
theorem dX9_linked_57 : decode cX9_linked 57 = .ok (.iconst (-1), 1) := by decide +kernel
theorem dX9_linked_58 : decode cX9_linked 58 = .ok (.ireturn, 1) := by decide +kernel
theorem dX9_there_0 : decode cX9_there 0 = .ok (.iconst 0, 1) := by decide +kernel
theorem dX9_there_1 : decode cX9_there 1 = .ok (.istore_n 1, 1) := by decide +kernel
theorem dX9_there_2 : decode cX9_there 2 = .ok (.iconst 0, 1) := by decide +kernel
theorem dX9_there_3 : decode cX9_there 3 = .ok (.istore_n 2, 1) := by decide +kernel
theorem dX9_there_4 : decode cX9_there 4 = .ok (.iload_n 2, 1) := by decide +kernel
theorem dX9_there_5 : decode cX9_there 5 = .ok (.aload_n 0, 1) := by decide +kernel
theorem dX9_there_6 : decode cX9_there 6 = .ok (.getfield 201, 3) := by decide +kernel
theorem dX9_there_9 : decode cX9_there 9 = .ok (.if_icmp .ge 26, 3) := by decide +kernel
theorem dX9_there_12 : decode cX9_there 12 = .ok (.iload_n 1, 1) := by decide +kernel
theorem dX9_there_13 : decode cX9_there 13 = .ok (.aload_n 0, 1) := by decide +kernel
theorem dX9_there_14 : decode cX9_there 14 = .ok (.getfield 70, 3) := by decide +kernel
theorem dX9_there_17 : decode cX9_there 17 = .ok (.iload_n 2, 1) := by decide +kernel
theorem dX9_there_18 : decode cX9_there 18 = .ok (.baload, 1) := by decide +kernel
theorem dX9_there_19 : decode cX9_there 19 = .ok (.ifCond .eq 7, 3) := by decide +kernel
theorem dX9_there_22 : decode cX9_there 22 = .ok (.iconst 1, 1) := by decide +kernel
theorem dX9_there_23 : decode cX9_there 23 = .ok (.goto 4, 3) := by decide +kernel
theorem dX9_there_26 : decode cX9_there 26 = .ok (.iconst 0, 1) := by decide +kernel
theorem dX9_there_27 : decode cX9_there 27 = .ok (.iadd, 1) := by decide +kernel
theorem dX9_there_28 : decode cX9_there 28 = .ok (.istore_n 1, 1) := by decide +kernel
theorem dX9_there_29 : decode cX9_there 29 = .ok (.iinc 2 1, 3) := by decide +kernel
theorem dX9_there_32 : decode cX9_there 32 = .ok (.goto (-28), 3) := by decide +kernel
theorem dX9_there_35 : decode cX9_there 35 = .ok (.iload_n 1, 1) := by decide +kernel
theorem dX9_there_36 : decode cX9_there 36 = .ok (.ireturn, 1) := by decide +kernel
theorem dX9_sum_0 : decode cX9_sum 0 = .ok (.iconst 0, 1) := by decide +kernel
theorem dX9_sum_1 : decode cX9_sum 1 = .ok (.istore_n 2, 1) := by decide +kernel
theorem dX9_sum_2 : decode cX9_sum 2 = .ok (.aload_n 0, 1) := by decide +kernel
theorem dX9_sum_3 : decode cX9_sum 3 = .ok (.invokevirtual 242, 3) := by decide +kernel
theorem dX9_sum_6 : decode cX9_sum 6 = .ok (.iload_n 1, 1) := by decide +kernel
theorem dX9_sum_7 : decode cX9_sum 7 = .ok (.iconst 5, 1) := by decide +kernel
theorem dX9_sum_8 : decode cX9_sum 8 = .ok (.if_icmp .ne 11, 3) := by decide +kernel
theorem dX9_sum_11 : decode cX9_sum 11 = .ok (.aload_n 0, 1) := by decide +kernel
theorem dX9_sum_12 : decode cX9_sum 12 = .ok (.iconst (-1), 1) := by decide +kernel
theorem dX9_sum_13 : decode cX9_sum 13 = .ok (.invokevirtual 236, 3) := by decide +kernel
theorem dX9_sum_16 : decode cX9_sum 16 = .ok (.goto 4, 3) := by decide +kernel
theorem dX9_sum_19 : decode cX9_sum 19 = .ok (.iconst 0, 1) := by decide +kernel
theorem dX9_sum_20 : decode cX9_sum 20 = .ok (.istore_n 3, 1) := by decide +kernel
theorem dX9_sum_21 : decode cX9_sum 21 = .ok (.iconst 0, 1) := by decide +kernel
theorem dX9_sum_22 : decode cX9_sum 22 = .ok (.istore 4, 2) := by decide +kernel
theorem dX9_sum_24 : decode cX9_sum 24 = .ok (.iload 4, 2) := by decide +kernel
theorem dX9_sum_26 : decode cX9_sum 26 = .ok (.aload_n 0, 1) := by decide +kernel
theorem dX9_sum_27 : decode cX9_sum 27 = .ok (.getfield 201, 3) := by decide +kernel
theorem dX9_sum_30 : decode cX9_sum 30 = .ok (.if_icmp .ge 95, 3) := by decide +kernel
theorem dX9_sum_33 : decode cX9_sum 33 = .ok (.aload_n 0, 1) := by decide +kernel
theorem dX9_sum_34 : decode cX9_sum 34 = .ok (.getfield 70, 3) := by decide +kernel
theorem dX9_sum_37 : decode cX9_sum 37 = .ok (.iload 4, 2) := by decide +kernel
theorem dX9_sum_39 : decode cX9_sum 39 = .ok (.baload, 1) := by decide +kernel
theorem dX9_sum_40 : decode cX9_sum 40 = .ok (.ifCond .eq 79, 3) := by decide +kernel
theorem dX9_sum_43 : decode cX9_sum 43 = .ok (.iload_n 2, 1) := by decide +kernel
theorem dX9_sum_44 : decode cX9_sum 44 = .ok (.iload_n 1, 1) := by decide +kernel
theorem dX9_sum_45 : decode cX9_sum 45 = .ok (.iconst 1, 1) := by decide +kernel
theorem dX9_sum_46 : decode cX9_sum 46 = .ok (.if_icmp .ne 12, 3) := by decide +kernel
theorem dX9_sum_49 : decode cX9_sum 49 = .ok (.aload_n 0, 1) := by decide +kernel
theorem dX9_sum_50 : decode cX9_sum 50 = .ok (.iload 4, 2) := by decide +kernel
theorem dX9_sum_52 : decode cX9_sum 52 = .ok (.invokevirtual 226, 3) := by decide +kernel
theorem dX9_sum_55 : decode cX9_sum 55 = .ok (.goto 62, 3) := by decide +kernel
theorem dX9_sum_58 : decode cX9_sum 58 = .ok (.iload_n 1, 1) := by decide +kernel
theorem dX9_sum_59 : decode cX9_sum 59 = .ok (.iconst 3, 1) := by decide +kernel
theorem dX9_sum_60 : decode cX9_sum 60 = .ok (.if_icmp .ne 20, 3) := by decide +kernel
theorem dX9_sum_63 : decode cX9_sum 63 = .ok (.aload_n 0, 1) := by decide +kernel
theorem dX9_sum_64 : decode cX9_sum 64 = .ok (.iload 4, 2) := by decide +kernel
theorem dX9_sum_66 : decode cX9_sum 66 = .ok (.invokevirtual 263, 3) := by decide +kernel
theorem dX9_sum_69 : decode cX9_sum 69 = .ok (.ifCond .eq 7, 3) := by decide +kernel
theorem dX9_sum_72 : decode cX9_sum 72 = .ok (.iconst 1, 1) := by decide +kernel
theorem dX9_sum_73 : decode cX9_sum 73 = .ok (.goto 44, 3) := by decide +kernel
theorem dX9_sum_76 : decode cX9_sum 76 = .ok (.iconst 0, 1) := by decide +kernel
theorem dX9_sum_77 : decode cX9_sum 77 = .ok (.goto 40, 3) := by decide +kernel
theorem dX9_sum_80 : decode cX9_sum 80 = .ok (.iload_n 1, 1) := by decide +kernel
theorem dX9_sum_81 : decode cX9_sum 81 = .ok (.iconst 4, 1) := by decide +kernel
theorem dX9_sum_82 : decode cX9_sum 82 = .ok (.if_icmp .ne 20, 3) := by decide +kernel
theorem dX9_sum_85 : decode cX9_sum 85 = .ok (.aload_n 0, 1) := by decide +kernel
theorem dX9_sum_86 : decode cX9_sum 86 = .ok (.iload 4, 2) := by decide +kernel
theorem dX9_sum_88 : decode cX9_sum 88 = .ok (.invokevirtual 266, 3) := by decide +kernel
theorem dX9_sum_91 : decode cX9_sum 91 = .ok (.ifCond .eq 7, 3) := by decide +kernel
theorem dX9_sum_94 : decode cX9_sum 94 = .ok (.iconst 1, 1) := by decide +kernel
theorem dX9_sum_95 : decode cX9_sum 95 = .ok (.goto 22, 3) := by decide +kernel
theorem dX9_sum_98 : decode cX9_sum 98 = .ok (.iconst 0, 1) := by decide +kernel
theorem dX9_sum_99 : decode cX9_sum 99 = .ok (.goto 18, 3) := by decide +kernel
theorem dX9_sum_102 : decode cX9_sum 102 = .ok (.aload_n 0, 1) := by decide +kernel
theorem dX9_sum_103 : decode cX9_sum 103 = .ok (.iload 4, 2) := by decide +kernel
theorem dX9_sum_105 : decode cX9_sum 105 = .ok (.iload_n 3, 1) := by decide +kernel
theorem dX9_sum_106 : decode cX9_sum 106 = .ok (.invokevirtual 269, 3) := by decide +kernel
theorem dX9_sum_109 : decode cX9_sum 109 = .ok (.ifCond .eq 7, 3) := by decide +kernel
theorem dX9_sum_112 : decode cX9_sum 112 = .ok (.iconst 1, 1) := by decide +kernel
theorem dX9_sum_113 : decode cX9_sum 113 = .ok (.goto 4, 3) := by decide +kernel
theorem dX9_sum_116 : decode cX9_sum 116 = .ok (.iconst 0, 1) := by decide +kernel
theorem dX9_sum_117 : decode cX9_sum 117 = .ok (.iadd, 1) := by decide +kernel
theorem dX9_sum_118 : decode cX9_sum 118 = .ok (.istore_n 2, 1) := by decide +kernel
theorem dX9_sum_119 : decode cX9_sum 119 = .ok (.iinc 4 1, 3) := by decide +kernel
theorem dX9_sum_122 : decode cX9_sum 122 = .ok (.goto (-98), 3) := by decide +kernel
theorem dX9_sum_125 : decode cX9_sum 125 = .ok (.iload_n 2, 1) := by decide +kernel
theorem dX9_sum_126 : decode cX9_sum 126 = .ok (.ireturn, 1) := by decide +kernel
theorem dX9_count_0 : decode cX9_count 0 = .ok (.aload_n 0, 1) := by decide +kernel
theorem dX9_count_1 : decode cX9_count 1 = .ok (.iconst 0, 1) := by decide +kernel
theorem dX9_count_2 : decode cX9_count 2 = .ok (.putfield 1, 3) := by decide +kernel
theorem dX9_count_5 : decode cX9_count 5 = .ok (.aload_n 0, 1) := by decide +kernel
theorem dX9_count_6 : decode cX9_count 6 = .ok (.invokevirtual 272, 3) := by decide +kernel
theorem dX9_count_9 : decode cX9_count 9 = .ok (.aload_n 0, 1) := by decide +kernel
theorem dX9_count_10 : decode cX9_count 10 = .ok (.getfield 113, 3) := by decide +kernel
theorem dX9_count_13 : decode cX9_count 13 = .ok (.aload_n 0, 1) := by decide +kernel
theorem dX9_count_14 : decode cX9_count 14 = .ok (.getfield 110, 3) := by decide +kernel
theorem dX9_count_17 : decode cX9_count 17 = .ok (.iadd, 1) := by decide +kernel
theorem dX9_count_18 : decode cX9_count 18 = .ok (.sipush 355, 3) := by decide +kernel
theorem dX9_count_21 : decode cX9_count 21 = .ok (.imul, 1) := by decide +kernel
theorem dX9_count_22 : decode cX9_count 22 = .ok (.bipush 113, 2) := by decide +kernel
theorem dX9_count_24 : decode cX9_count 24 = .ok (.idiv, 1) := by decide +kernel
theorem dX9_count_25 : decode cX9_count 25 = .ok (.imul, 1) := by decide +kernel
theorem dX9_count_26 : decode cX9_count 26 = .ok (.istore_n 2, 1) := by decide +kernel
theorem dX9_count_27 : decode cX9_count 27 = .ok (.iload_n 1, 1) := by decide +kernel
theorem dX9_count_28 : decode cX9_count 28 = .ok (.tableswitch 166 0 12 #[68, 73, 81, 91, 97, 103, 109, 111, 137, 142, 149, 156, 161], 68) := by decide +kernel
theorem dX9_count_96 : decode cX9_count 96 = .ok (.aload_n 0, 1) := by decide +kernel
theorem dX9_count_97 : decode cX9_count 97 = .ok (.invokevirtual 272, 3) := by decide +kernel
theorem dX9_count_100 : decode cX9_count 100 = .ok (.ireturn, 1) := by decide +kernel
theorem dX9_count_101 : decode cX9_count 101 = .ok (.aload_n 0, 1) := by decide +kernel
theorem dX9_count_102 : decode cX9_count 102 = .ok (.iconst 1, 1) := by decide +kernel
theorem dX9_count_103 : decode cX9_count 103 = .ok (.invokevirtual 275, 3) := by decide +kernel
theorem dX9_count_106 : decode cX9_count 106 = .ok (.iconst 2, 1) := by decide +kernel
theorem dX9_count_107 : decode cX9_count 107 = .ok (.idiv, 1) := by decide +kernel
theorem dX9_count_108 : decode cX9_count 108 = .ok (.ireturn, 1) := by decide +kernel
theorem dX9_count_109 : decode cX9_count 109 = .ok (.aload_n 0, 1) := by decide +kernel
theorem dX9_count_110 : decode cX9_count 110 = .ok (.invokevirtual 242, 3) := by decide +kernel
theorem dX9_count_113 : decode cX9_count 113 = .ok (.aload_n 0, 1) := by decide +kernel
theorem dX9_count_114 : decode cX9_count 114 = .ok (.iconst (-1), 1) := by decide +kernel
theorem dX9_count_115 : decode cX9_count 115 = .ok (.invokevirtual 236, 3) := by decide +kernel
theorem dX9_count_118 : decode cX9_count 118 = .ok (.ireturn, 1) := by decide +kernel
theorem dX9_count_119 : decode cX9_count 119 = .ok (.aload_n 0, 1) := by decide +kernel
theorem dX9_count_120 : decode cX9_count 120 = .ok (.iconst 3, 1) := by decide +kernel
theorem dX9_count_121 : decode cX9_count 121 = .ok (.invokevirtual 275, 3) := by decide +kernel
theorem dX9_count_124 : decode cX9_count 124 = .ok (.ireturn, 1) := by decide +kernel
theorem dX9_count_125 : decode cX9_count 125 = .ok (.aload_n 0, 1) := by decide +kernel
theorem dX9_count_126 : decode cX9_count 126 = .ok (.iconst 4, 1) := by decide +kernel
theorem dX9_count_127 : decode cX9_count 127 = .ok (.invokevirtual 275, 3) := by decide +kernel
theorem dX9_count_130 : decode cX9_count 130 = .ok (.ireturn, 1) := by decide +kernel
theorem dX9_count_131 : decode cX9_count 131 = .ok (.aload_n 0, 1) := by decide +kernel
theorem dX9_count_132 : decode cX9_count 132 = .ok (.iconst 5, 1) := by decide +kernel
theorem dX9_count_133 : decode cX9_count 133 = .ok (.invokevirtual 275, 3) := by decide +kernel
theorem dX9_count_136 : decode cX9_count 136 = .ok (.ireturn, 1) := by decide +kernel
theorem dX9_count_137 : decode cX9_count 137 = .ok (.iload_n 2, 1) := by decide +kernel
theorem dX9_count_138 : decode cX9_count 138 = .ok (.ireturn, 1) := by decide +kernel
theorem dX9_count_139 : decode cX9_count 139 = .ok (.iload_n 2, 1) := by decide +kernel
theorem dX9_count_140 : decode cX9_count 140 = .ok (.i2l, 1) := by decide +kernel
theorem dX9_count_141 : decode cX9_count 141 = .ok (.aload_n 0, 1) := by decide +kernel
theorem dX9_count_142 : decode cX9_count 142 = .ok (.getfield 110, 3) := by decide +kernel
theorem dX9_count_145 : decode cX9_count 145 = .ok (.i2l, 1) := by decide +kernel
theorem dX9_count_146 : decode cX9_count 146 = .ok (.lmul, 1) := by decide +kernel
theorem dX9_count_147 : decode cX9_count 147 = .ok (.aload_n 0, 1) := by decide +kernel
theorem dX9_count_148 : decode cX9_count 148 = .ok (.getfield 110, 3) := by decide +kernel
theorem dX9_count_151 : decode cX9_count 151 = .ok (.i2l, 1) := by decide +kernel
theorem dX9_count_152 : decode cX9_count 152 = .ok (.lmul, 1) := by decide +kernel
theorem dX9_count_153 : decode cX9_count 153 = .ok (.aload_n 0, 1) := by decide +kernel
theorem dX9_count_154 : decode cX9_count 154 = .ok (.getfield 116, 3) := by decide +kernel
theorem dX9_count_157 : decode cX9_count 157 = .ok (.i2l, 1) := by decide +kernel
theorem dX9_count_158 : decode cX9_count 158 = .ok (.lmul, 1) := by decide +kernel
theorem dX9_count_159 : decode cX9_count 159 = .ok (.ldc2_w 278, 3) := by decide +kernel
theorem dX9_count_162 : decode cX9_count 162 = .ok (.ldiv, 1) := by decide +kernel
theorem dX9_count_163 : decode cX9_count 163 = .ok (.l2i, 1) := by decide +kernel
theorem dX9_count_164 : decode cX9_count 164 = .ok (.ireturn, 1) := by decide +kernel
theorem dX9_count_165 : decode cX9_count 165 = .ok (.aload_n 0, 1) := by decide +kernel
theorem dX9_count_166 : decode cX9_count 166 = .ok (.getfield 201, 3) := by decide +kernel
theorem dX9_count_169 : decode cX9_count 169 = .ok (.ireturn, 1) := by decide +kernel
theorem dX9_count_170 : decode cX9_count 170 = .ok (.aload_n 0, 1) := by decide +kernel
theorem dX9_count_171 : decode cX9_count 171 = .ok (.getfield 45, 3) := by decide +kernel
theorem dX9_count_174 : decode cX9_count 174 = .ok (.iconst 0, 1) := by decide +kernel
theorem dX9_count_175 : decode cX9_count 175 = .ok (.iaload, 1) := by decide +kernel
theorem dX9_count_176 : decode cX9_count 176 = .ok (.ireturn, 1) := by decide +kernel
theorem dX9_count_177 : decode cX9_count 177 = .ok (.aload_n 0, 1) := by decide +kernel
theorem dX9_count_178 : decode cX9_count 178 = .ok (.getfield 51, 3) := by decide +kernel
theorem dX9_count_181 : decode cX9_count 181 = .ok (.iconst 0, 1) := by decide +kernel
theorem dX9_count_182 : decode cX9_count 182 = .ok (.iaload, 1) := by decide +kernel
theorem dX9_count_183 : decode cX9_count 183 = .ok (.ireturn, 1) := by decide +kernel
theorem dX9_count_184 : decode cX9_count 184 = .ok (.aload_n 0, 1) := by decide +kernel
theorem dX9_count_185 : decode cX9_count 185 = .ok (.getfield 11, 3) := by decide +kernel
theorem dX9_count_188 : decode cX9_count 188 = .ok (.ireturn, 1) := by decide +kernel
theorem dX9_count_189 : decode cX9_count 189 = .ok (.aload_n 0, 1) := by decide +kernel
theorem dX9_count_190 : decode cX9_count 190 = .ok (.invokevirtual 280, 3) := by decide +kernel
theorem dX9_count_193 : decode cX9_count 193 = .ok (.ireturn, 1) := by decide +kernel
theorem dX9_count_194 : decode cX9_count 194 = .ok (.iconst (-1), 1) := by decide +kernel
theorem dX9_count_195 : decode cX9_count 195 = .ok (.ireturn, 1) := by decide +kernel
theorem dX9_worn_0 : decode cX9_worn 0 = .ok (.iconst 0, 1) := by decide +kernel
theorem dX9_worn_1 : decode cX9_worn 1 = .ok (.istore_n 1, 1) := by decide +kernel
theorem dX9_worn_2 : decode cX9_worn 2 = .ok (.iconst 0, 1) := by decide +kernel
theorem dX9_worn_3 : decode cX9_worn 3 = .ok (.istore_n 2, 1) := by decide +kernel
theorem dX9_worn_4 : decode cX9_worn 4 = .ok (.iload_n 2, 1) := by decide +kernel
theorem dX9_worn_5 : decode cX9_worn 5 = .ok (.aload_n 0, 1) := by decide +kernel
theorem dX9_worn_6 : decode cX9_worn 6 = .ok (.getfield 218, 3) := by decide +kernel
theorem dX9_worn_9 : decode cX9_worn 9 = .ok (.if_icmp .ge 26, 3) := by decide +kernel
theorem dX9_worn_12 : decode cX9_worn 12 = .ok (.iload_n 1, 1) := by decide +kernel
theorem dX9_worn_13 : decode cX9_worn 13 = .ok (.aload_n 0, 1) := by decide +kernel
theorem dX9_worn_14 : decode cX9_worn 14 = .ok (.getfield 70, 3) := by decide +kernel
theorem dX9_worn_17 : decode cX9_worn 17 = .ok (.iload_n 2, 1) := by decide +kernel
theorem dX9_worn_18 : decode cX9_worn 18 = .ok (.baload, 1) := by decide +kernel
theorem dX9_worn_19 : decode cX9_worn 19 = .ok (.ifCond .eq 7, 3) := by decide +kernel
theorem dX9_worn_22 : decode cX9_worn 22 = .ok (.iconst 0, 1) := by decide +kernel
theorem dX9_worn_23 : decode cX9_worn 23 = .ok (.goto 4, 3) := by decide +kernel
theorem dX9_worn_26 : decode cX9_worn 26 = .ok (.iconst 1, 1) := by decide +kernel
theorem dX9_worn_27 : decode cX9_worn 27 = .ok (.iadd, 1) := by decide +kernel
theorem dX9_worn_28 : decode cX9_worn 28 = .ok (.istore_n 1, 1) := by decide +kernel
theorem dX9_worn_29 : decode cX9_worn 29 = .ok (.iinc 2 1, 3) := by decide +kernel
theorem dX9_worn_32 : decode cX9_worn 32 = .ok (.goto (-28), 3) := by decide +kernel
theorem dX9_worn_35 : decode cX9_worn 35 = .ok (.iload_n 1, 1) := by decide +kernel
theorem dX9_worn_36 : decode cX9_worn 36 = .ok (.ireturn, 1) := by decide +kernel
theorem dJ13_bitCount_95d88_0 : decode cJ13_bitCount_95d88 0 = .ok (.lload_n 0, 1) := by decide +kernel
theorem dJ13_bitCount_95d88_1 : decode cJ13_bitCount_95d88 1 = .ok (.lload_n 0, 1) := by decide +kernel
theorem dJ13_bitCount_95d88_2 : decode cJ13_bitCount_95d88 2 = .ok (.iconst 1, 1) := by decide +kernel
theorem dJ13_bitCount_95d88_3 : decode cJ13_bitCount_95d88 3 = .ok (.lushr, 1) := by decide +kernel
theorem dJ13_bitCount_95d88_4 : decode cJ13_bitCount_95d88 4 = .ok (.ldc2_w 314, 3) := by decide +kernel
theorem dJ13_bitCount_95d88_7 : decode cJ13_bitCount_95d88 7 = .ok (.land, 1) := by decide +kernel
theorem dJ13_bitCount_95d88_8 : decode cJ13_bitCount_95d88 8 = .ok (.lsub, 1) := by decide +kernel
theorem dJ13_bitCount_95d88_9 : decode cJ13_bitCount_95d88 9 = .ok (.lstore_n 0, 1) := by decide +kernel
theorem dJ13_bitCount_95d88_10 : decode cJ13_bitCount_95d88 10 = .ok (.lload_n 0, 1) := by decide +kernel
theorem dJ13_bitCount_95d88_11 : decode cJ13_bitCount_95d88 11 = .ok (.ldc2_w 316, 3) := by decide +kernel
theorem dJ13_bitCount_95d88_14 : decode cJ13_bitCount_95d88 14 = .ok (.land, 1) := by decide +kernel
theorem dJ13_bitCount_95d88_15 : decode cJ13_bitCount_95d88 15 = .ok (.lload_n 0, 1) := by decide +kernel
theorem dJ13_bitCount_95d88_16 : decode cJ13_bitCount_95d88 16 = .ok (.iconst 2, 1) := by decide +kernel
theorem dJ13_bitCount_95d88_17 : decode cJ13_bitCount_95d88 17 = .ok (.lushr, 1) := by decide +kernel
theorem dJ13_bitCount_95d88_18 : decode cJ13_bitCount_95d88 18 = .ok (.ldc2_w 316, 3) := by decide +kernel
theorem dJ13_bitCount_95d88_21 : decode cJ13_bitCount_95d88 21 = .ok (.land, 1) := by decide +kernel
theorem dJ13_bitCount_95d88_22 : decode cJ13_bitCount_95d88 22 = .ok (.ladd, 1) := by decide +kernel
theorem dJ13_bitCount_95d88_23 : decode cJ13_bitCount_95d88 23 = .ok (.lstore_n 0, 1) := by decide +kernel
theorem dJ13_bitCount_95d88_24 : decode cJ13_bitCount_95d88 24 = .ok (.lload_n 0, 1) := by decide +kernel
theorem dJ13_bitCount_95d88_25 : decode cJ13_bitCount_95d88 25 = .ok (.lload_n 0, 1) := by decide +kernel
theorem dJ13_bitCount_95d88_26 : decode cJ13_bitCount_95d88 26 = .ok (.iconst 4, 1) := by decide +kernel
theorem dJ13_bitCount_95d88_27 : decode cJ13_bitCount_95d88 27 = .ok (.lushr, 1) := by decide +kernel
theorem dJ13_bitCount_95d88_28 : decode cJ13_bitCount_95d88 28 = .ok (.ladd, 1) := by decide +kernel
theorem dJ13_bitCount_95d88_29 : decode cJ13_bitCount_95d88 29 = .ok (.ldc2_w 318, 3) := by decide +kernel
theorem dJ13_bitCount_95d88_32 : decode cJ13_bitCount_95d88 32 = .ok (.land, 1) := by decide +kernel
theorem dJ13_bitCount_95d88_33 : decode cJ13_bitCount_95d88 33 = .ok (.lstore_n 0, 1) := by decide +kernel
theorem dJ13_bitCount_95d88_34 : decode cJ13_bitCount_95d88 34 = .ok (.lload_n 0, 1) := by decide +kernel
theorem dJ13_bitCount_95d88_35 : decode cJ13_bitCount_95d88 35 = .ok (.lload_n 0, 1) := by decide +kernel
theorem dJ13_bitCount_95d88_36 : decode cJ13_bitCount_95d88 36 = .ok (.bipush 8, 2) := by decide +kernel
theorem dJ13_bitCount_95d88_38 : decode cJ13_bitCount_95d88 38 = .ok (.lushr, 1) := by decide +kernel
theorem dJ13_bitCount_95d88_39 : decode cJ13_bitCount_95d88 39 = .ok (.ladd, 1) := by decide +kernel
theorem dJ13_bitCount_95d88_40 : decode cJ13_bitCount_95d88 40 = .ok (.lstore_n 0, 1) := by decide +kernel
theorem dJ13_bitCount_95d88_41 : decode cJ13_bitCount_95d88 41 = .ok (.lload_n 0, 1) := by decide +kernel
theorem dJ13_bitCount_95d88_42 : decode cJ13_bitCount_95d88 42 = .ok (.lload_n 0, 1) := by decide +kernel
theorem dJ13_bitCount_95d88_43 : decode cJ13_bitCount_95d88 43 = .ok (.bipush 16, 2) := by decide +kernel
theorem dJ13_bitCount_95d88_45 : decode cJ13_bitCount_95d88 45 = .ok (.lushr, 1) := by decide +kernel
theorem dJ13_bitCount_95d88_46 : decode cJ13_bitCount_95d88 46 = .ok (.ladd, 1) := by decide +kernel
theorem dJ13_bitCount_95d88_47 : decode cJ13_bitCount_95d88 47 = .ok (.lstore_n 0, 1) := by decide +kernel
theorem dJ13_bitCount_95d88_48 : decode cJ13_bitCount_95d88 48 = .ok (.lload_n 0, 1) := by decide +kernel
theorem dJ13_bitCount_95d88_49 : decode cJ13_bitCount_95d88 49 = .ok (.lload_n 0, 1) := by decide +kernel
theorem dJ13_bitCount_95d88_50 : decode cJ13_bitCount_95d88 50 = .ok (.bipush 32, 2) := by decide +kernel
theorem dJ13_bitCount_95d88_52 : decode cJ13_bitCount_95d88 52 = .ok (.lushr, 1) := by decide +kernel
theorem dJ13_bitCount_95d88_53 : decode cJ13_bitCount_95d88 53 = .ok (.ladd, 1) := by decide +kernel
theorem dJ13_bitCount_95d88_54 : decode cJ13_bitCount_95d88 54 = .ok (.lstore_n 0, 1) := by decide +kernel
theorem dJ13_bitCount_95d88_55 : decode cJ13_bitCount_95d88 55 = .ok (.lload_n 0, 1) := by decide +kernel
theorem dJ13_bitCount_95d88_56 : decode cJ13_bitCount_95d88 56 = .ok (.l2i, 1) := by decide +kernel
theorem dJ13_bitCount_95d88_57 : decode cJ13_bitCount_95d88 57 = .ok (.bipush 127, 2) := by decide +kernel
theorem dJ13_bitCount_95d88_59 : decode cJ13_bitCount_95d88 59 = .ok (.iand, 1) := by decide +kernel
theorem dJ13_bitCount_95d88_60 : decode cJ13_bitCount_95d88 60 = .ok (.ireturn, 1) := by decide +kernel
theorem dJ9_min_7cf53_0 : decode cJ9_min_7cf53 0 = .ok (.iload_n 0, 1) := by decide +kernel
theorem dJ9_min_7cf53_1 : decode cJ9_min_7cf53 1 = .ok (.iload_n 1, 1) := by decide +kernel
theorem dJ9_min_7cf53_2 : decode cJ9_min_7cf53 2 = .ok (.if_icmp .gt 7, 3) := by decide +kernel
theorem dJ9_min_7cf53_5 : decode cJ9_min_7cf53 5 = .ok (.iload_n 0, 1) := by decide +kernel
theorem dJ9_min_7cf53_6 : decode cJ9_min_7cf53 6 = .ok (.goto 4, 3) := by decide +kernel
theorem dJ9_min_7cf53_9 : decode cJ9_min_7cf53 9 = .ok (.iload_n 1, 1) := by decide +kernel
theorem dJ9_min_7cf53_10 : decode cJ9_min_7cf53 10 = .ok (.ireturn, 1) := by decide +kernel
theorem dJ7_fill_d0a16_0 : decode cJ7_fill_d0a16 0 = .ok (.iconst 0, 1) := by decide +kernel
theorem dJ7_fill_d0a16_1 : decode cJ7_fill_d0a16 1 = .ok (.istore_n 3, 1) := by decide +kernel
theorem dJ7_fill_d0a16_2 : decode cJ7_fill_d0a16 2 = .ok (.aload_n 0, 1) := by decide +kernel
theorem dJ7_fill_d0a16_3 : decode cJ7_fill_d0a16 3 = .ok (.arraylength, 1) := by decide +kernel
theorem dJ7_fill_d0a16_4 : decode cJ7_fill_d0a16 4 = .ok (.istore 4, 2) := by decide +kernel
theorem dJ7_fill_d0a16_6 : decode cJ7_fill_d0a16 6 = .ok (.iload_n 3, 1) := by decide +kernel
theorem dJ7_fill_d0a16_7 : decode cJ7_fill_d0a16 7 = .ok (.iload 4, 2) := by decide +kernel
theorem dJ7_fill_d0a16_9 : decode cJ7_fill_d0a16 9 = .ok (.if_icmp .ge 13, 3) := by decide +kernel
theorem dJ7_fill_d0a16_12 : decode cJ7_fill_d0a16 12 = .ok (.aload_n 0, 1) := by decide +kernel
theorem dJ7_fill_d0a16_13 : decode cJ7_fill_d0a16 13 = .ok (.iload_n 3, 1) := by decide +kernel
theorem dJ7_fill_d0a16_14 : decode cJ7_fill_d0a16 14 = .ok (.lload_n 1, 1) := by decide +kernel
theorem dJ7_fill_d0a16_15 : decode cJ7_fill_d0a16 15 = .ok (.lastore, 1) := by decide +kernel
theorem dJ7_fill_d0a16_16 : decode cJ7_fill_d0a16 16 = .ok (.iinc 3 1, 3) := by decide +kernel
theorem dJ7_fill_d0a16_19 : decode cJ7_fill_d0a16 19 = .ok (.goto (-13), 3) := by decide +kernel
theorem dJ7_fill_d0a16_22 : decode cJ7_fill_d0a16 22 = .ok (.return_, 1) := by decide +kernel
theorem dJ7_fill_53178_0 : decode cJ7_fill_53178 0 = .ok (.iconst 0, 1) := by decide +kernel
theorem dJ7_fill_53178_1 : decode cJ7_fill_53178 1 = .ok (.istore_n 2, 1) := by decide +kernel
theorem dJ7_fill_53178_2 : decode cJ7_fill_53178 2 = .ok (.aload_n 0, 1) := by decide +kernel
theorem dJ7_fill_53178_3 : decode cJ7_fill_53178 3 = .ok (.arraylength, 1) := by decide +kernel
theorem dJ7_fill_53178_4 : decode cJ7_fill_53178 4 = .ok (.istore_n 3, 1) := by decide +kernel
theorem dJ7_fill_53178_5 : decode cJ7_fill_53178 5 = .ok (.iload_n 2, 1) := by decide +kernel
theorem dJ7_fill_53178_6 : decode cJ7_fill_53178 6 = .ok (.iload_n 3, 1) := by decide +kernel
theorem dJ7_fill_53178_7 : decode cJ7_fill_53178 7 = .ok (.if_icmp .ge 13, 3) := by decide +kernel
theorem dJ7_fill_53178_10 : decode cJ7_fill_53178 10 = .ok (.aload_n 0, 1) := by decide +kernel
theorem dJ7_fill_53178_11 : decode cJ7_fill_53178 11 = .ok (.iload_n 2, 1) := by decide +kernel
theorem dJ7_fill_53178_12 : decode cJ7_fill_53178 12 = .ok (.iload_n 1, 1) := by decide +kernel
theorem dJ7_fill_53178_13 : decode cJ7_fill_53178 13 = .ok (.iastore, 1) := by decide +kernel
theorem dJ7_fill_53178_14 : decode cJ7_fill_53178 14 = .ok (.iinc 2 1, 3) := by decide +kernel
theorem dJ7_fill_53178_17 : decode cJ7_fill_53178 17 = .ok (.goto (-12), 3) := by decide +kernel
theorem dJ7_fill_53178_20 : decode cJ7_fill_53178 20 = .ok (.return_, 1) := by decide +kernel
theorem dL_look_0 : decode cL_look 0 = .ok (.aload_n 3, 1) := by decide +kernel
theorem dL_look_1 : decode cL_look 1 = .ok (.iconst 0, 1) := by decide +kernel
theorem dL_look_2 : decode cL_look 2 = .ok (.aload_n 0, 1) := by decide +kernel
theorem dL_look_3 : decode cL_look 3 = .ok (.iload_n 1, 1) := by decide +kernel
theorem dL_look_4 : decode cL_look 4 = .ok (.iload_n 2, 1) := by decide +kernel
theorem dL_look_5 : decode cL_look 5 = .ok (.invokevirtual 7, 3) := by decide +kernel
theorem dL_look_8 : decode cL_look 8 = .ok (.i2l, 1) := by decide +kernel
theorem dL_look_9 : decode cL_look 9 = .ok (.lastore, 1) := by decide +kernel
theorem dL_look_10 : decode cL_look 10 = .ok (.goto 7, 3) := by decide +kernel
theorem dL_look_13 : decode cL_look 13 = .ok (.astore 4, 2) := by decide +kernel
theorem dL_look_15 : decode cL_look 15 = .ok (.iconst 1, 1) := by decide +kernel
theorem dL_look_16 : decode cL_look 16 = .ok (.ireturn, 1) := by decide +kernel
theorem dL_look_17 : decode cL_look 17 = .ok (.iconst 0, 1) := by decide +kernel
theorem dL_look_18 : decode cL_look 18 = .ok (.ireturn, 1) := by decide +kernel
theorem dL_law_0 : decode cL_law 0 = .ok (.new 8, 3) := by decide +kernel
theorem dL_law_3 : decode cL_law 3 = .ok (.dup, 1) := by decide +kernel
theorem dL_law_4 : decode cL_law 4 = .ok (.invokespecial 15, 3) := by decide +kernel
theorem dL_law_7 : decode cL_law 7 = .ok (.astore_n 1, 1) := by decide +kernel
theorem dL_law_8 : decode cL_law 8 = .ok (.new 16, 3) := by decide +kernel
theorem dL_law_11 : decode cL_law 11 = .ok (.dup, 1) := by decide +kernel
theorem dL_law_12 : decode cL_law 12 = .ok (.invokespecial 18, 3) := by decide +kernel
theorem dL_law_15 : decode cL_law 15 = .ok (.astore_n 2, 1) := by decide +kernel
theorem dL_law_16 : decode cL_law 16 = .ok (.iconst 1, 1) := by decide +kernel
theorem dL_law_17 : decode cL_law 17 = .ok (.newarray .long, 2) := by decide +kernel
theorem dL_law_19 : decode cL_law 19 = .ok (.astore_n 3, 1) := by decide +kernel
theorem dL_law_20 : decode cL_law 20 = .ok (.iconst 0, 1) := by decide +kernel
theorem dL_law_21 : decode cL_law 21 = .ok (.istore 4, 2) := by decide +kernel
theorem dL_law_23 : decode cL_law 23 = .ok (.iload 4, 2) := by decide +kernel
theorem dL_law_25 : decode cL_law 25 = .ok (.aload_n 0, 1) := by decide +kernel
theorem dL_law_26 : decode cL_law 26 = .ok (.arraylength, 1) := by decide +kernel
theorem dL_law_27 : decode cL_law 27 = .ok (.bipush 7, 2) := by decide +kernel
theorem dL_law_29 : decode cL_law 29 = .ok (.isub, 1) := by decide +kernel
theorem dL_law_30 : decode cL_law 30 = .ok (.if_icmp .gt 721, 3) := by decide +kernel
theorem dL_law_33 : decode cL_law 33 = .ok (.aload_n 0, 1) := by decide +kernel
theorem dL_law_34 : decode cL_law 34 = .ok (.iload 4, 2) := by decide +kernel
theorem dL_law_36 : decode cL_law 36 = .ok (.iaload, 1) := by decide +kernel
theorem dL_law_37 : decode cL_law 37 = .ok (.bipush 15, 2) := by decide +kernel
theorem dL_law_39 : decode cL_law 39 = .ok (.iand, 1) := by decide +kernel
theorem dL_law_40 : decode cL_law 40 = .ok (.tableswitch 705 0 15 #[80, 227, 240, 277, 326, 339, 364, 401, 438, 451, 519, 556, 593, 606, 631, 680], 80) := by decide +kernel
theorem dL_law_120 : decode cL_law 120 = .ok (.aload_n 1, 1) := by decide +kernel
theorem dL_law_121 : decode cL_law 121 = .ok (.aload_n 0, 1) := by decide +kernel
theorem dL_law_122 : decode cL_law 122 = .ok (.iload 4, 2) := by decide +kernel
theorem dL_law_124 : decode cL_law 124 = .ok (.iconst 1, 1) := by decide +kernel
theorem dL_law_125 : decode cL_law 125 = .ok (.iadd, 1) := by decide +kernel
theorem dL_law_126 : decode cL_law 126 = .ok (.iaload, 1) := by decide +kernel
theorem dL_law_127 : decode cL_law 127 = .ok (.i2l, 1) := by decide +kernel
theorem dL_law_128 : decode cL_law 128 = .ok (.bipush 32, 2) := by decide +kernel
theorem dL_law_130 : decode cL_law 130 = .ok (.lshl, 1) := by decide +kernel
theorem dL_law_131 : decode cL_law 131 = .ok (.aload_n 0, 1) := by decide +kernel
theorem dL_law_132 : decode cL_law 132 = .ok (.iload 4, 2) := by decide +kernel
theorem dL_law_134 : decode cL_law 134 = .ok (.iconst 2, 1) := by decide +kernel
theorem dL_law_135 : decode cL_law 135 = .ok (.iadd, 1) := by decide +kernel
theorem dL_law_136 : decode cL_law 136 = .ok (.iaload, 1) := by decide +kernel
theorem dL_law_137 : decode cL_law 137 = .ok (.i2l, 1) := by decide +kernel
theorem dL_law_138 : decode cL_law 138 = .ok (.ldc2_w 19, 3) := by decide +kernel
theorem dL_law_141 : decode cL_law 141 = .ok (.land, 1) := by decide +kernel
theorem dL_law_142 : decode cL_law 142 = .ok (.lor, 1) := by decide +kernel
theorem dL_law_143 : decode cL_law 143 = .ok (.aload_n 0, 1) := by decide +kernel
theorem dL_law_144 : decode cL_law 144 = .ok (.iload 4, 2) := by decide +kernel
theorem dL_law_146 : decode cL_law 146 = .ok (.iconst 3, 1) := by decide +kernel
theorem dL_law_147 : decode cL_law 147 = .ok (.iadd, 1) := by decide +kernel
theorem dL_law_148 : decode cL_law 148 = .ok (.iaload, 1) := by decide +kernel
theorem dL_law_149 : decode cL_law 149 = .ok (.i2l, 1) := by decide +kernel
theorem dL_law_150 : decode cL_law 150 = .ok (.bipush 32, 2) := by decide +kernel
theorem dL_law_152 : decode cL_law 152 = .ok (.lshl, 1) := by decide +kernel
theorem dL_law_153 : decode cL_law 153 = .ok (.aload_n 0, 1) := by decide +kernel
theorem dL_law_154 : decode cL_law 154 = .ok (.iload 4, 2) := by decide +kernel
theorem dL_law_156 : decode cL_law 156 = .ok (.iconst 4, 1) := by decide +kernel
theorem dL_law_157 : decode cL_law 157 = .ok (.iadd, 1) := by decide +kernel
theorem dL_law_158 : decode cL_law 158 = .ok (.iaload, 1) := by decide +kernel
theorem dL_law_159 : decode cL_law 159 = .ok (.i2l, 1) := by decide +kernel
theorem dL_law_160 : decode cL_law 160 = .ok (.ldc2_w 19, 3) := by decide +kernel
theorem dL_law_163 : decode cL_law 163 = .ok (.land, 1) := by decide +kernel
theorem dL_law_164 : decode cL_law 164 = .ok (.lor, 1) := by decide +kernel
theorem dL_law_165 : decode cL_law 165 = .ok (.aload_n 0, 1) := by decide +kernel
theorem dL_law_166 : decode cL_law 166 = .ok (.iload 4, 2) := by decide +kernel
theorem dL_law_168 : decode cL_law 168 = .ok (.iconst 5, 1) := by decide +kernel
theorem dL_law_169 : decode cL_law 169 = .ok (.iadd, 1) := by decide +kernel
theorem dL_law_170 : decode cL_law 170 = .ok (.iaload, 1) := by decide +kernel
theorem dL_law_171 : decode cL_law 171 = .ok (.i2l, 1) := by decide +kernel
theorem dL_law_172 : decode cL_law 172 = .ok (.bipush 32, 2) := by decide +kernel
theorem dL_law_174 : decode cL_law 174 = .ok (.lshl, 1) := by decide +kernel
theorem dL_law_175 : decode cL_law 175 = .ok (.aload_n 0, 1) := by decide +kernel
theorem dL_law_176 : decode cL_law 176 = .ok (.iload 4, 2) := by decide +kernel
theorem dL_law_178 : decode cL_law 178 = .ok (.bipush 6, 2) := by decide +kernel
theorem dL_law_180 : decode cL_law 180 = .ok (.iadd, 1) := by decide +kernel
theorem dL_law_181 : decode cL_law 181 = .ok (.iaload, 1) := by decide +kernel
theorem dL_law_182 : decode cL_law 182 = .ok (.i2l, 1) := by decide +kernel
theorem dL_law_183 : decode cL_law 183 = .ok (.ldc2_w 19, 3) := by decide +kernel
theorem dL_law_186 : decode cL_law 186 = .ok (.land, 1) := by decide +kernel
theorem dL_law_187 : decode cL_law 187 = .ok (.lor, 1) := by decide +kernel
theorem dL_law_188 : decode cL_law 188 = .ok (.invokevirtual 21, 3) := by decide +kernel
theorem dL_law_191 : decode cL_law 191 = .ok (.aload_n 2, 1) := by decide +kernel
theorem dL_law_192 : decode cL_law 192 = .ok (.aload_n 0, 1) := by decide +kernel
theorem dL_law_193 : decode cL_law 193 = .ok (.iload 4, 2) := by decide +kernel
theorem dL_law_195 : decode cL_law 195 = .ok (.iconst 1, 1) := by decide +kernel
theorem dL_law_196 : decode cL_law 196 = .ok (.iadd, 1) := by decide +kernel
theorem dL_law_197 : decode cL_law 197 = .ok (.iaload, 1) := by decide +kernel
theorem dL_law_198 : decode cL_law 198 = .ok (.i2l, 1) := by decide +kernel
theorem dL_law_199 : decode cL_law 199 = .ok (.bipush 32, 2) := by decide +kernel
theorem dL_law_201 : decode cL_law 201 = .ok (.lshl, 1) := by decide +kernel
theorem dL_law_202 : decode cL_law 202 = .ok (.aload_n 0, 1) := by decide +kernel
theorem dL_law_203 : decode cL_law 203 = .ok (.iload 4, 2) := by decide +kernel
theorem dL_law_205 : decode cL_law 205 = .ok (.iconst 2, 1) := by decide +kernel
theorem dL_law_206 : decode cL_law 206 = .ok (.iadd, 1) := by decide +kernel
theorem dL_law_207 : decode cL_law 207 = .ok (.iaload, 1) := by decide +kernel
theorem dL_law_208 : decode cL_law 208 = .ok (.i2l, 1) := by decide +kernel
theorem dL_law_209 : decode cL_law 209 = .ok (.ldc2_w 19, 3) := by decide +kernel
theorem dL_law_212 : decode cL_law 212 = .ok (.land, 1) := by decide +kernel
theorem dL_law_213 : decode cL_law 213 = .ok (.lor, 1) := by decide +kernel
theorem dL_law_214 : decode cL_law 214 = .ok (.aload_n 0, 1) := by decide +kernel
theorem dL_law_215 : decode cL_law 215 = .ok (.iload 4, 2) := by decide +kernel
theorem dL_law_217 : decode cL_law 217 = .ok (.iconst 3, 1) := by decide +kernel
theorem dL_law_218 : decode cL_law 218 = .ok (.iadd, 1) := by decide +kernel
theorem dL_law_219 : decode cL_law 219 = .ok (.iaload, 1) := by decide +kernel
theorem dL_law_220 : decode cL_law 220 = .ok (.i2l, 1) := by decide +kernel
theorem dL_law_221 : decode cL_law 221 = .ok (.bipush 32, 2) := by decide +kernel
theorem dL_law_223 : decode cL_law 223 = .ok (.lshl, 1) := by decide +kernel
theorem dL_law_224 : decode cL_law 224 = .ok (.aload_n 0, 1) := by decide +kernel
theorem dL_law_225 : decode cL_law 225 = .ok (.iload 4, 2) := by decide +kernel
theorem dL_law_227 : decode cL_law 227 = .ok (.iconst 4, 1) := by decide +kernel
theorem dL_law_228 : decode cL_law 228 = .ok (.iadd, 1) := by decide +kernel
theorem dL_law_229 : decode cL_law 229 = .ok (.iaload, 1) := by decide +kernel
theorem dL_law_230 : decode cL_law 230 = .ok (.i2l, 1) := by decide +kernel
theorem dL_law_231 : decode cL_law 231 = .ok (.ldc2_w 19, 3) := by decide +kernel
theorem dL_law_234 : decode cL_law 234 = .ok (.land, 1) := by decide +kernel
theorem dL_law_235 : decode cL_law 235 = .ok (.lor, 1) := by decide +kernel
theorem dL_law_236 : decode cL_law 236 = .ok (.aload_n 0, 1) := by decide +kernel
theorem dL_law_237 : decode cL_law 237 = .ok (.iload 4, 2) := by decide +kernel
theorem dL_law_239 : decode cL_law 239 = .ok (.iconst 5, 1) := by decide +kernel
theorem dL_law_240 : decode cL_law 240 = .ok (.iadd, 1) := by decide +kernel
theorem dL_law_241 : decode cL_law 241 = .ok (.iaload, 1) := by decide +kernel
theorem dL_law_242 : decode cL_law 242 = .ok (.i2l, 1) := by decide +kernel
theorem dL_law_243 : decode cL_law 243 = .ok (.bipush 32, 2) := by decide +kernel
theorem dL_law_245 : decode cL_law 245 = .ok (.lshl, 1) := by decide +kernel
theorem dL_law_246 : decode cL_law 246 = .ok (.aload_n 0, 1) := by decide +kernel
theorem dL_law_247 : decode cL_law 247 = .ok (.iload 4, 2) := by decide +kernel
theorem dL_law_249 : decode cL_law 249 = .ok (.bipush 6, 2) := by decide +kernel
theorem dL_law_251 : decode cL_law 251 = .ok (.iadd, 1) := by decide +kernel
theorem dL_law_252 : decode cL_law 252 = .ok (.iaload, 1) := by decide +kernel
theorem dL_law_253 : decode cL_law 253 = .ok (.i2l, 1) := by decide +kernel
theorem dL_law_254 : decode cL_law 254 = .ok (.ldc2_w 19, 3) := by decide +kernel
theorem dL_law_257 : decode cL_law 257 = .ok (.land, 1) := by decide +kernel
theorem dL_law_258 : decode cL_law 258 = .ok (.lor, 1) := by decide +kernel
theorem dL_law_259 : decode cL_law 259 = .ok (.invokevirtual 25, 3) := by decide +kernel
theorem dL_law_262 : decode cL_law 262 = .ok (.if_icmp .eq 483, 3) := by decide +kernel
theorem dL_law_265 : decode cL_law 265 = .ok (.iconst 0, 1) := by decide +kernel
theorem dL_law_266 : decode cL_law 266 = .ok (.ireturn, 1) := by decide +kernel
theorem dL_law_267 : decode cL_law 267 = .ok (.aload_n 1, 1) := by decide +kernel
theorem dL_law_268 : decode cL_law 268 = .ok (.invokevirtual 26, 3) := by decide +kernel
theorem dL_law_271 : decode cL_law 271 = .ok (.aload_n 2, 1) := by decide +kernel
theorem dL_law_272 : decode cL_law 272 = .ok (.invokevirtual 30, 3) := by decide +kernel
theorem dL_law_275 : decode cL_law 275 = .ok (.if_icmp .eq 470, 3) := by decide +kernel
theorem dL_law_278 : decode cL_law 278 = .ok (.iconst 0, 1) := by decide +kernel
theorem dL_law_279 : decode cL_law 279 = .ok (.ireturn, 1) := by decide +kernel
theorem dL_law_280 : decode cL_law 280 = .ok (.aload_n 1, 1) := by decide +kernel
theorem dL_law_281 : decode cL_law 281 = .ok (.aload_n 0, 1) := by decide +kernel
theorem dL_law_282 : decode cL_law 282 = .ok (.iload 4, 2) := by decide +kernel
theorem dL_law_284 : decode cL_law 284 = .ok (.iconst 1, 1) := by decide +kernel
theorem dL_law_285 : decode cL_law 285 = .ok (.iadd, 1) := by decide +kernel
theorem dL_law_286 : decode cL_law 286 = .ok (.iaload, 1) := by decide +kernel
theorem dL_law_287 : decode cL_law 287 = .ok (.aload_n 0, 1) := by decide +kernel
theorem dL_law_288 : decode cL_law 288 = .ok (.iload 4, 2) := by decide +kernel
theorem dL_law_290 : decode cL_law 290 = .ok (.iconst 2, 1) := by decide +kernel
theorem dL_law_291 : decode cL_law 291 = .ok (.iadd, 1) := by decide +kernel
theorem dL_law_292 : decode cL_law 292 = .ok (.iaload, 1) := by decide +kernel
theorem dL_law_293 : decode cL_law 293 = .ok (.invokevirtual 31, 3) := by decide +kernel
theorem dL_law_296 : decode cL_law 296 = .ok (.aload_n 2, 1) := by decide +kernel
theorem dL_law_297 : decode cL_law 297 = .ok (.aload_n 0, 1) := by decide +kernel
theorem dL_law_298 : decode cL_law 298 = .ok (.iload 4, 2) := by decide +kernel
theorem dL_law_300 : decode cL_law 300 = .ok (.iconst 1, 1) := by decide +kernel
theorem dL_law_301 : decode cL_law 301 = .ok (.iadd, 1) := by decide +kernel
theorem dL_law_302 : decode cL_law 302 = .ok (.iaload, 1) := by decide +kernel
theorem dL_law_303 : decode cL_law 303 = .ok (.aload_n 0, 1) := by decide +kernel
theorem dL_law_304 : decode cL_law 304 = .ok (.iload 4, 2) := by decide +kernel
theorem dL_law_306 : decode cL_law 306 = .ok (.iconst 2, 1) := by decide +kernel
theorem dL_law_307 : decode cL_law 307 = .ok (.iadd, 1) := by decide +kernel
theorem dL_law_308 : decode cL_law 308 = .ok (.iaload, 1) := by decide +kernel
theorem dL_law_309 : decode cL_law 309 = .ok (.invokevirtual 34, 3) := by decide +kernel
theorem dL_law_312 : decode cL_law 312 = .ok (.if_icmp .eq 433, 3) := by decide +kernel
theorem dL_law_315 : decode cL_law 315 = .ok (.iconst 0, 1) := by decide +kernel
theorem dL_law_316 : decode cL_law 316 = .ok (.ireturn, 1) := by decide +kernel
theorem dL_law_317 : decode cL_law 317 = .ok (.aload_n 1, 1) := by decide +kernel
theorem dL_law_318 : decode cL_law 318 = .ok (.aload_n 0, 1) := by decide +kernel
theorem dL_law_319 : decode cL_law 319 = .ok (.iload 4, 2) := by decide +kernel
theorem dL_law_321 : decode cL_law 321 = .ok (.iconst 1, 1) := by decide +kernel
theorem dL_law_322 : decode cL_law 322 = .ok (.iadd, 1) := by decide +kernel
theorem dL_law_323 : decode cL_law 323 = .ok (.iaload, 1) := by decide +kernel
theorem dL_law_324 : decode cL_law 324 = .ok (.aload_n 0, 1) := by decide +kernel
theorem dL_law_325 : decode cL_law 325 = .ok (.iload 4, 2) := by decide +kernel
theorem dL_law_327 : decode cL_law 327 = .ok (.iconst 2, 1) := by decide +kernel
theorem dL_law_328 : decode cL_law 328 = .ok (.iadd, 1) := by decide +kernel
theorem dL_law_329 : decode cL_law 329 = .ok (.iaload, 1) := by decide +kernel
theorem dL_law_330 : decode cL_law 330 = .ok (.aload_n 0, 1) := by decide +kernel
theorem dL_law_331 : decode cL_law 331 = .ok (.iload 4, 2) := by decide +kernel
theorem dL_law_333 : decode cL_law 333 = .ok (.iconst 3, 1) := by decide +kernel
theorem dL_law_334 : decode cL_law 334 = .ok (.iadd, 1) := by decide +kernel
theorem dL_law_335 : decode cL_law 335 = .ok (.iaload, 1) := by decide +kernel
theorem dL_law_336 : decode cL_law 336 = .ok (.invokevirtual 35, 3) := by decide +kernel
theorem dL_law_339 : decode cL_law 339 = .ok (.aload_n 2, 1) := by decide +kernel
theorem dL_law_340 : decode cL_law 340 = .ok (.aload_n 0, 1) := by decide +kernel
theorem dL_law_341 : decode cL_law 341 = .ok (.iload 4, 2) := by decide +kernel
theorem dL_law_343 : decode cL_law 343 = .ok (.iconst 1, 1) := by decide +kernel
theorem dL_law_344 : decode cL_law 344 = .ok (.iadd, 1) := by decide +kernel
theorem dL_law_345 : decode cL_law 345 = .ok (.iaload, 1) := by decide +kernel
theorem dL_law_346 : decode cL_law 346 = .ok (.aload_n 0, 1) := by decide +kernel
theorem dL_law_347 : decode cL_law 347 = .ok (.iload 4, 2) := by decide +kernel
theorem dL_law_349 : decode cL_law 349 = .ok (.iconst 2, 1) := by decide +kernel
theorem dL_law_350 : decode cL_law 350 = .ok (.iadd, 1) := by decide +kernel
theorem dL_law_351 : decode cL_law 351 = .ok (.iaload, 1) := by decide +kernel
theorem dL_law_352 : decode cL_law 352 = .ok (.aload_n 0, 1) := by decide +kernel
theorem dL_law_353 : decode cL_law 353 = .ok (.iload 4, 2) := by decide +kernel
theorem dL_law_355 : decode cL_law 355 = .ok (.iconst 3, 1) := by decide +kernel
theorem dL_law_356 : decode cL_law 356 = .ok (.iadd, 1) := by decide +kernel
theorem dL_law_357 : decode cL_law 357 = .ok (.iaload, 1) := by decide +kernel
theorem dL_law_358 : decode cL_law 358 = .ok (.invokevirtual 39, 3) := by decide +kernel
theorem dL_law_361 : decode cL_law 361 = .ok (.if_icmp .eq 384, 3) := by decide +kernel
theorem dL_law_364 : decode cL_law 364 = .ok (.iconst 0, 1) := by decide +kernel
theorem dL_law_365 : decode cL_law 365 = .ok (.ireturn, 1) := by decide +kernel
theorem dL_law_366 : decode cL_law 366 = .ok (.aload_n 1, 1) := by decide +kernel
theorem dL_law_367 : decode cL_law 367 = .ok (.invokevirtual 40, 3) := by decide +kernel
theorem dL_law_370 : decode cL_law 370 = .ok (.aload_n 2, 1) := by decide +kernel
theorem dL_law_371 : decode cL_law 371 = .ok (.invokevirtual 43, 3) := by decide +kernel
theorem dL_law_374 : decode cL_law 374 = .ok (.if_icmp .eq 371, 3) := by decide +kernel
theorem dL_law_377 : decode cL_law 377 = .ok (.iconst 0, 1) := by decide +kernel
theorem dL_law_378 : decode cL_law 378 = .ok (.ireturn, 1) := by decide +kernel
theorem dL_law_379 : decode cL_law 379 = .ok (.aload_n 1, 1) := by decide +kernel
theorem dL_law_380 : decode cL_law 380 = .ok (.aload_n 0, 1) := by decide +kernel
theorem dL_law_381 : decode cL_law 381 = .ok (.iload 4, 2) := by decide +kernel
theorem dL_law_383 : decode cL_law 383 = .ok (.iconst 1, 1) := by decide +kernel
theorem dL_law_384 : decode cL_law 384 = .ok (.iadd, 1) := by decide +kernel
theorem dL_law_385 : decode cL_law 385 = .ok (.iaload, 1) := by decide +kernel
theorem dL_law_386 : decode cL_law 386 = .ok (.invokevirtual 44, 3) := by decide +kernel
theorem dL_law_389 : decode cL_law 389 = .ok (.aload_n 2, 1) := by decide +kernel
theorem dL_law_390 : decode cL_law 390 = .ok (.aload_n 0, 1) := by decide +kernel
theorem dL_law_391 : decode cL_law 391 = .ok (.iload 4, 2) := by decide +kernel
theorem dL_law_393 : decode cL_law 393 = .ok (.iconst 1, 1) := by decide +kernel
theorem dL_law_394 : decode cL_law 394 = .ok (.iadd, 1) := by decide +kernel
theorem dL_law_395 : decode cL_law 395 = .ok (.iaload, 1) := by decide +kernel
theorem dL_law_396 : decode cL_law 396 = .ok (.invokevirtual 48, 3) := by decide +kernel
theorem dL_law_399 : decode cL_law 399 = .ok (.if_icmp .eq 346, 3) := by decide +kernel
theorem dL_law_402 : decode cL_law 402 = .ok (.iconst 0, 1) := by decide +kernel
theorem dL_law_403 : decode cL_law 403 = .ok (.ireturn, 1) := by decide +kernel
theorem dL_law_404 : decode cL_law 404 = .ok (.aload_n 1, 1) := by decide +kernel
theorem dL_law_405 : decode cL_law 405 = .ok (.aload_n 0, 1) := by decide +kernel
theorem dL_law_406 : decode cL_law 406 = .ok (.iload 4, 2) := by decide +kernel
theorem dL_law_408 : decode cL_law 408 = .ok (.iconst 1, 1) := by decide +kernel
theorem dL_law_409 : decode cL_law 409 = .ok (.iadd, 1) := by decide +kernel
theorem dL_law_410 : decode cL_law 410 = .ok (.iaload, 1) := by decide +kernel
theorem dL_law_411 : decode cL_law 411 = .ok (.aload_n 0, 1) := by decide +kernel
theorem dL_law_412 : decode cL_law 412 = .ok (.iload 4, 2) := by decide +kernel
theorem dL_law_414 : decode cL_law 414 = .ok (.iconst 2, 1) := by decide +kernel
theorem dL_law_415 : decode cL_law 415 = .ok (.iadd, 1) := by decide +kernel
theorem dL_law_416 : decode cL_law 416 = .ok (.iaload, 1) := by decide +kernel
theorem dL_law_417 : decode cL_law 417 = .ok (.invokevirtual 49, 3) := by decide +kernel
theorem dL_law_420 : decode cL_law 420 = .ok (.aload_n 2, 1) := by decide +kernel
theorem dL_law_421 : decode cL_law 421 = .ok (.aload_n 0, 1) := by decide +kernel
theorem dL_law_422 : decode cL_law 422 = .ok (.iload 4, 2) := by decide +kernel
theorem dL_law_424 : decode cL_law 424 = .ok (.iconst 1, 1) := by decide +kernel
theorem dL_law_425 : decode cL_law 425 = .ok (.iadd, 1) := by decide +kernel
theorem dL_law_426 : decode cL_law 426 = .ok (.iaload, 1) := by decide +kernel
theorem dL_law_427 : decode cL_law 427 = .ok (.aload_n 0, 1) := by decide +kernel
theorem dL_law_428 : decode cL_law 428 = .ok (.iload 4, 2) := by decide +kernel
theorem dL_law_430 : decode cL_law 430 = .ok (.iconst 2, 1) := by decide +kernel
theorem dL_law_431 : decode cL_law 431 = .ok (.iadd, 1) := by decide +kernel
theorem dL_law_432 : decode cL_law 432 = .ok (.iaload, 1) := by decide +kernel
theorem dL_law_433 : decode cL_law 433 = .ok (.invokevirtual 53, 3) := by decide +kernel
theorem dL_law_436 : decode cL_law 436 = .ok (.if_icmp .eq 309, 3) := by decide +kernel
theorem dL_law_439 : decode cL_law 439 = .ok (.iconst 0, 1) := by decide +kernel
theorem dL_law_440 : decode cL_law 440 = .ok (.ireturn, 1) := by decide +kernel
theorem dL_law_441 : decode cL_law 441 = .ok (.aload_n 1, 1) := by decide +kernel
theorem dL_law_442 : decode cL_law 442 = .ok (.aload_n 0, 1) := by decide +kernel
theorem dL_law_443 : decode cL_law 443 = .ok (.iload 4, 2) := by decide +kernel
theorem dL_law_445 : decode cL_law 445 = .ok (.iconst 1, 1) := by decide +kernel
theorem dL_law_446 : decode cL_law 446 = .ok (.iadd, 1) := by decide +kernel
theorem dL_law_447 : decode cL_law 447 = .ok (.iaload, 1) := by decide +kernel
theorem dL_law_448 : decode cL_law 448 = .ok (.aload_n 0, 1) := by decide +kernel
theorem dL_law_449 : decode cL_law 449 = .ok (.iload 4, 2) := by decide +kernel
theorem dL_law_451 : decode cL_law 451 = .ok (.iconst 2, 1) := by decide +kernel
theorem dL_law_452 : decode cL_law 452 = .ok (.iadd, 1) := by decide +kernel
theorem dL_law_453 : decode cL_law 453 = .ok (.iaload, 1) := by decide +kernel
theorem dL_law_454 : decode cL_law 454 = .ok (.invokevirtual 54, 3) := by decide +kernel
theorem dL_law_457 : decode cL_law 457 = .ok (.aload_n 2, 1) := by decide +kernel
theorem dL_law_458 : decode cL_law 458 = .ok (.aload_n 0, 1) := by decide +kernel
theorem dL_law_459 : decode cL_law 459 = .ok (.iload 4, 2) := by decide +kernel
theorem dL_law_461 : decode cL_law 461 = .ok (.iconst 1, 1) := by decide +kernel
theorem dL_law_462 : decode cL_law 462 = .ok (.iadd, 1) := by decide +kernel
theorem dL_law_463 : decode cL_law 463 = .ok (.iaload, 1) := by decide +kernel
theorem dL_law_464 : decode cL_law 464 = .ok (.aload_n 0, 1) := by decide +kernel
theorem dL_law_465 : decode cL_law 465 = .ok (.iload 4, 2) := by decide +kernel
theorem dL_law_467 : decode cL_law 467 = .ok (.iconst 2, 1) := by decide +kernel
theorem dL_law_468 : decode cL_law 468 = .ok (.iadd, 1) := by decide +kernel
theorem dL_law_469 : decode cL_law 469 = .ok (.iaload, 1) := by decide +kernel
theorem dL_law_470 : decode cL_law 470 = .ok (.invokevirtual 57, 3) := by decide +kernel
theorem dL_law_473 : decode cL_law 473 = .ok (.if_icmp .eq 272, 3) := by decide +kernel
theorem dL_law_476 : decode cL_law 476 = .ok (.iconst 0, 1) := by decide +kernel
theorem dL_law_477 : decode cL_law 477 = .ok (.ireturn, 1) := by decide +kernel
theorem dL_law_478 : decode cL_law 478 = .ok (.aload_n 1, 1) := by decide +kernel
theorem dL_law_479 : decode cL_law 479 = .ok (.invokevirtual 58, 3) := by decide +kernel
theorem dL_law_482 : decode cL_law 482 = .ok (.aload_n 2, 1) := by decide +kernel
theorem dL_law_483 : decode cL_law 483 = .ok (.invokevirtual 61, 3) := by decide +kernel
theorem dL_law_486 : decode cL_law 486 = .ok (.if_icmp .eq 259, 3) := by decide +kernel
theorem dL_law_489 : decode cL_law 489 = .ok (.iconst 0, 1) := by decide +kernel
theorem dL_law_490 : decode cL_law 490 = .ok (.ireturn, 1) := by decide +kernel
theorem dL_law_491 : decode cL_law 491 = .ok (.aload_n 1, 1) := by decide +kernel
theorem dL_law_492 : decode cL_law 492 = .ok (.aload_n 0, 1) := by decide +kernel
theorem dL_law_493 : decode cL_law 493 = .ok (.iload 4, 2) := by decide +kernel
theorem dL_law_495 : decode cL_law 495 = .ok (.iconst 1, 1) := by decide +kernel
theorem dL_law_496 : decode cL_law 496 = .ok (.iadd, 1) := by decide +kernel
theorem dL_law_497 : decode cL_law 497 = .ok (.iaload, 1) := by decide +kernel
theorem dL_law_498 : decode cL_law 498 = .ok (.aload_n 0, 1) := by decide +kernel
theorem dL_law_499 : decode cL_law 499 = .ok (.iload 4, 2) := by decide +kernel
theorem dL_law_501 : decode cL_law 501 = .ok (.iconst 2, 1) := by decide +kernel
theorem dL_law_502 : decode cL_law 502 = .ok (.iadd, 1) := by decide +kernel
theorem dL_law_503 : decode cL_law 503 = .ok (.iaload, 1) := by decide +kernel
theorem dL_law_504 : decode cL_law 504 = .ok (.aload_n 3, 1) := by decide +kernel
theorem dL_law_505 : decode cL_law 505 = .ok (.invokestatic 62, 3) := by decide +kernel
theorem dL_law_508 : decode cL_law 508 = .ok (.istore 5, 2) := by decide +kernel
theorem dL_law_510 : decode cL_law 510 = .ok (.aload_n 2, 1) := by decide +kernel
theorem dL_law_511 : decode cL_law 511 = .ok (.aload_n 0, 1) := by decide +kernel
theorem dL_law_512 : decode cL_law 512 = .ok (.iload 4, 2) := by decide +kernel
theorem dL_law_514 : decode cL_law 514 = .ok (.iconst 1, 1) := by decide +kernel
theorem dL_law_515 : decode cL_law 515 = .ok (.iadd, 1) := by decide +kernel
theorem dL_law_516 : decode cL_law 516 = .ok (.iaload, 1) := by decide +kernel
theorem dL_law_517 : decode cL_law 517 = .ok (.aload_n 0, 1) := by decide +kernel
theorem dL_law_518 : decode cL_law 518 = .ok (.iload 4, 2) := by decide +kernel
theorem dL_law_520 : decode cL_law 520 = .ok (.iconst 2, 1) := by decide +kernel
theorem dL_law_521 : decode cL_law 521 = .ok (.iadd, 1) := by decide +kernel
theorem dL_law_522 : decode cL_law 522 = .ok (.iaload, 1) := by decide +kernel
theorem dL_law_523 : decode cL_law 523 = .ok (.invokevirtual 67, 3) := by decide +kernel
theorem dL_law_526 : decode cL_law 526 = .ok (.istore 6, 2) := by decide +kernel
theorem dL_law_528 : decode cL_law 528 = .ok (.aload_n 2, 1) := by decide +kernel
theorem dL_law_529 : decode cL_law 529 = .ok (.invokevirtual 68, 3) := by decide +kernel
theorem dL_law_532 : decode cL_law 532 = .ok (.iload 5, 2) := by decide +kernel
theorem dL_law_534 : decode cL_law 534 = .ok (.if_icmp .eq 5, 3) := by decide +kernel
theorem dL_law_537 : decode cL_law 537 = .ok (.iconst 0, 1) := by decide +kernel
theorem dL_law_538 : decode cL_law 538 = .ok (.ireturn, 1) := by decide +kernel
theorem dL_law_539 : decode cL_law 539 = .ok (.iload 5, 2) := by decide +kernel
theorem dL_law_541 : decode cL_law 541 = .ok (.ifCond .ne 15, 3) := by decide +kernel
theorem dL_law_544 : decode cL_law 544 = .ok (.aload_n 3, 1) := by decide +kernel
theorem dL_law_545 : decode cL_law 545 = .ok (.iconst 0, 1) := by decide +kernel
theorem dL_law_546 : decode cL_law 546 = .ok (.laload, 1) := by decide +kernel
theorem dL_law_547 : decode cL_law 547 = .ok (.iload 6, 2) := by decide +kernel
theorem dL_law_549 : decode cL_law 549 = .ok (.i2l, 1) := by decide +kernel
theorem dL_law_550 : decode cL_law 550 = .ok (.lcmp, 1) := by decide +kernel
theorem dL_law_551 : decode cL_law 551 = .ok (.ifCond .eq 5, 3) := by decide +kernel
theorem dL_law_554 : decode cL_law 554 = .ok (.iconst 0, 1) := by decide +kernel
theorem dL_law_555 : decode cL_law 555 = .ok (.ireturn, 1) := by decide +kernel
theorem dL_law_556 : decode cL_law 556 = .ok (.goto 189, 3) := by decide +kernel
theorem dL_law_559 : decode cL_law 559 = .ok (.aload_n 1, 1) := by decide +kernel
theorem dL_law_560 : decode cL_law 560 = .ok (.aload_n 0, 1) := by decide +kernel
theorem dL_law_561 : decode cL_law 561 = .ok (.iload 4, 2) := by decide +kernel
theorem dL_law_563 : decode cL_law 563 = .ok (.iconst 1, 1) := by decide +kernel
theorem dL_law_564 : decode cL_law 564 = .ok (.iadd, 1) := by decide +kernel
theorem dL_law_565 : decode cL_law 565 = .ok (.iaload, 1) := by decide +kernel
theorem dL_law_566 : decode cL_law 566 = .ok (.aload_n 0, 1) := by decide +kernel
theorem dL_law_567 : decode cL_law 567 = .ok (.iload 4, 2) := by decide +kernel
theorem dL_law_569 : decode cL_law 569 = .ok (.iconst 2, 1) := by decide +kernel
theorem dL_law_570 : decode cL_law 570 = .ok (.iadd, 1) := by decide +kernel
theorem dL_law_571 : decode cL_law 571 = .ok (.iaload, 1) := by decide +kernel
theorem dL_law_572 : decode cL_law 572 = .ok (.invokevirtual 71, 3) := by decide +kernel
theorem dL_law_575 : decode cL_law 575 = .ok (.aload_n 2, 1) := by decide +kernel
theorem dL_law_576 : decode cL_law 576 = .ok (.aload_n 0, 1) := by decide +kernel
theorem dL_law_577 : decode cL_law 577 = .ok (.iload 4, 2) := by decide +kernel
theorem dL_law_579 : decode cL_law 579 = .ok (.iconst 1, 1) := by decide +kernel
theorem dL_law_580 : decode cL_law 580 = .ok (.iadd, 1) := by decide +kernel
theorem dL_law_581 : decode cL_law 581 = .ok (.iaload, 1) := by decide +kernel
theorem dL_law_582 : decode cL_law 582 = .ok (.aload_n 0, 1) := by decide +kernel
theorem dL_law_583 : decode cL_law 583 = .ok (.iload 4, 2) := by decide +kernel
theorem dL_law_585 : decode cL_law 585 = .ok (.iconst 2, 1) := by decide +kernel
theorem dL_law_586 : decode cL_law 586 = .ok (.iadd, 1) := by decide +kernel
theorem dL_law_587 : decode cL_law 587 = .ok (.iaload, 1) := by decide +kernel
theorem dL_law_588 : decode cL_law 588 = .ok (.invokevirtual 74, 3) := by decide +kernel
theorem dL_law_591 : decode cL_law 591 = .ok (.if_icmp .eq 154, 3) := by decide +kernel
theorem dL_law_594 : decode cL_law 594 = .ok (.iconst 0, 1) := by decide +kernel
theorem dL_law_595 : decode cL_law 595 = .ok (.ireturn, 1) := by decide +kernel
theorem dL_law_596 : decode cL_law 596 = .ok (.aload_n 1, 1) := by decide +kernel
theorem dL_law_597 : decode cL_law 597 = .ok (.aload_n 0, 1) := by decide +kernel
theorem dL_law_598 : decode cL_law 598 = .ok (.iload 4, 2) := by decide +kernel
theorem dL_law_600 : decode cL_law 600 = .ok (.iconst 1, 1) := by decide +kernel
theorem dL_law_601 : decode cL_law 601 = .ok (.iadd, 1) := by decide +kernel
theorem dL_law_602 : decode cL_law 602 = .ok (.iaload, 1) := by decide +kernel
theorem dL_law_603 : decode cL_law 603 = .ok (.aload_n 0, 1) := by decide +kernel
theorem dL_law_604 : decode cL_law 604 = .ok (.iload 4, 2) := by decide +kernel
theorem dL_law_606 : decode cL_law 606 = .ok (.iconst 2, 1) := by decide +kernel
theorem dL_law_607 : decode cL_law 607 = .ok (.iadd, 1) := by decide +kernel
theorem dL_law_608 : decode cL_law 608 = .ok (.iaload, 1) := by decide +kernel
theorem dL_law_609 : decode cL_law 609 = .ok (.invokevirtual 75, 3) := by decide +kernel
theorem dL_law_612 : decode cL_law 612 = .ok (.aload_n 2, 1) := by decide +kernel
theorem dL_law_613 : decode cL_law 613 = .ok (.aload_n 0, 1) := by decide +kernel
theorem dL_law_614 : decode cL_law 614 = .ok (.iload 4, 2) := by decide +kernel
theorem dL_law_616 : decode cL_law 616 = .ok (.iconst 1, 1) := by decide +kernel
theorem dL_law_617 : decode cL_law 617 = .ok (.iadd, 1) := by decide +kernel
theorem dL_law_618 : decode cL_law 618 = .ok (.iaload, 1) := by decide +kernel
theorem dL_law_619 : decode cL_law 619 = .ok (.aload_n 0, 1) := by decide +kernel
theorem dL_law_620 : decode cL_law 620 = .ok (.iload 4, 2) := by decide +kernel
theorem dL_law_622 : decode cL_law 622 = .ok (.iconst 2, 1) := by decide +kernel
theorem dL_law_623 : decode cL_law 623 = .ok (.iadd, 1) := by decide +kernel
theorem dL_law_624 : decode cL_law 624 = .ok (.iaload, 1) := by decide +kernel
theorem dL_law_625 : decode cL_law 625 = .ok (.invokevirtual 78, 3) := by decide +kernel
theorem dL_law_628 : decode cL_law 628 = .ok (.if_icmp .eq 117, 3) := by decide +kernel
theorem dL_law_631 : decode cL_law 631 = .ok (.iconst 0, 1) := by decide +kernel
theorem dL_law_632 : decode cL_law 632 = .ok (.ireturn, 1) := by decide +kernel
theorem dL_law_633 : decode cL_law 633 = .ok (.aload_n 1, 1) := by decide +kernel
theorem dL_law_634 : decode cL_law 634 = .ok (.invokevirtual 79, 3) := by decide +kernel
theorem dL_law_637 : decode cL_law 637 = .ok (.aload_n 2, 1) := by decide +kernel
theorem dL_law_638 : decode cL_law 638 = .ok (.invokevirtual 82, 3) := by decide +kernel
theorem dL_law_641 : decode cL_law 641 = .ok (.if_icmp .eq 104, 3) := by decide +kernel
theorem dL_law_644 : decode cL_law 644 = .ok (.iconst 0, 1) := by decide +kernel
theorem dL_law_645 : decode cL_law 645 = .ok (.ireturn, 1) := by decide +kernel
theorem dL_law_646 : decode cL_law 646 = .ok (.aload_n 1, 1) := by decide +kernel
theorem dL_law_647 : decode cL_law 647 = .ok (.aload_n 0, 1) := by decide +kernel
theorem dL_law_648 : decode cL_law 648 = .ok (.iload 4, 2) := by decide +kernel
theorem dL_law_650 : decode cL_law 650 = .ok (.iconst 1, 1) := by decide +kernel
theorem dL_law_651 : decode cL_law 651 = .ok (.iadd, 1) := by decide +kernel
theorem dL_law_652 : decode cL_law 652 = .ok (.iaload, 1) := by decide +kernel
theorem dL_law_653 : decode cL_law 653 = .ok (.invokevirtual 83, 3) := by decide +kernel
theorem dL_law_656 : decode cL_law 656 = .ok (.aload_n 2, 1) := by decide +kernel
theorem dL_law_657 : decode cL_law 657 = .ok (.aload_n 0, 1) := by decide +kernel
theorem dL_law_658 : decode cL_law 658 = .ok (.iload 4, 2) := by decide +kernel
theorem dL_law_660 : decode cL_law 660 = .ok (.iconst 1, 1) := by decide +kernel
theorem dL_law_661 : decode cL_law 661 = .ok (.iadd, 1) := by decide +kernel
theorem dL_law_662 : decode cL_law 662 = .ok (.iaload, 1) := by decide +kernel
theorem dL_law_663 : decode cL_law 663 = .ok (.invokevirtual 86, 3) := by decide +kernel
theorem dL_law_666 : decode cL_law 666 = .ok (.if_icmp .eq 79, 3) := by decide +kernel
theorem dL_law_669 : decode cL_law 669 = .ok (.iconst 0, 1) := by decide +kernel
theorem dL_law_670 : decode cL_law 670 = .ok (.ireturn, 1) := by decide +kernel
theorem dL_law_671 : decode cL_law 671 = .ok (.aload_n 1, 1) := by decide +kernel
theorem dL_law_672 : decode cL_law 672 = .ok (.aload_n 0, 1) := by decide +kernel
theorem dL_law_673 : decode cL_law 673 = .ok (.iload 4, 2) := by decide +kernel
theorem dL_law_675 : decode cL_law 675 = .ok (.iconst 1, 1) := by decide +kernel
theorem dL_law_676 : decode cL_law 676 = .ok (.iadd, 1) := by decide +kernel
theorem dL_law_677 : decode cL_law 677 = .ok (.iaload, 1) := by decide +kernel
theorem dL_law_678 : decode cL_law 678 = .ok (.aload_n 0, 1) := by decide +kernel
theorem dL_law_679 : decode cL_law 679 = .ok (.iload 4, 2) := by decide +kernel
theorem dL_law_681 : decode cL_law 681 = .ok (.iconst 2, 1) := by decide +kernel
theorem dL_law_682 : decode cL_law 682 = .ok (.iadd, 1) := by decide +kernel
theorem dL_law_683 : decode cL_law 683 = .ok (.iaload, 1) := by decide +kernel
theorem dL_law_684 : decode cL_law 684 = .ok (.aload_n 0, 1) := by decide +kernel
theorem dL_law_685 : decode cL_law 685 = .ok (.iload 4, 2) := by decide +kernel
theorem dL_law_687 : decode cL_law 687 = .ok (.iconst 3, 1) := by decide +kernel
theorem dL_law_688 : decode cL_law 688 = .ok (.iadd, 1) := by decide +kernel
theorem dL_law_689 : decode cL_law 689 = .ok (.iaload, 1) := by decide +kernel
theorem dL_law_690 : decode cL_law 690 = .ok (.invokevirtual 87, 3) := by decide +kernel
theorem dL_law_693 : decode cL_law 693 = .ok (.aload_n 2, 1) := by decide +kernel
theorem dL_law_694 : decode cL_law 694 = .ok (.aload_n 0, 1) := by decide +kernel
theorem dL_law_695 : decode cL_law 695 = .ok (.iload 4, 2) := by decide +kernel
theorem dL_law_697 : decode cL_law 697 = .ok (.iconst 1, 1) := by decide +kernel
theorem dL_law_698 : decode cL_law 698 = .ok (.iadd, 1) := by decide +kernel
theorem dL_law_699 : decode cL_law 699 = .ok (.iaload, 1) := by decide +kernel
theorem dL_law_700 : decode cL_law 700 = .ok (.aload_n 0, 1) := by decide +kernel
theorem dL_law_701 : decode cL_law 701 = .ok (.iload 4, 2) := by decide +kernel
theorem dL_law_703 : decode cL_law 703 = .ok (.iconst 2, 1) := by decide +kernel
theorem dL_law_704 : decode cL_law 704 = .ok (.iadd, 1) := by decide +kernel
theorem dL_law_705 : decode cL_law 705 = .ok (.iaload, 1) := by decide +kernel
theorem dL_law_706 : decode cL_law 706 = .ok (.aload_n 0, 1) := by decide +kernel
theorem dL_law_707 : decode cL_law 707 = .ok (.iload 4, 2) := by decide +kernel
theorem dL_law_709 : decode cL_law 709 = .ok (.iconst 3, 1) := by decide +kernel
theorem dL_law_710 : decode cL_law 710 = .ok (.iadd, 1) := by decide +kernel
theorem dL_law_711 : decode cL_law 711 = .ok (.iaload, 1) := by decide +kernel
theorem dL_law_712 : decode cL_law 712 = .ok (.invokevirtual 91, 3) := by decide +kernel
theorem dL_law_715 : decode cL_law 715 = .ok (.if_icmp .eq 30, 3) := by decide +kernel
theorem dL_law_718 : decode cL_law 718 = .ok (.iconst 0, 1) := by decide +kernel
theorem dL_law_719 : decode cL_law 719 = .ok (.ireturn, 1) := by decide +kernel
theorem dL_law_720 : decode cL_law 720 = .ok (.aload_n 1, 1) := by decide +kernel
theorem dL_law_721 : decode cL_law 721 = .ok (.aload_n 0, 1) := by decide +kernel
theorem dL_law_722 : decode cL_law 722 = .ok (.iload 4, 2) := by decide +kernel
theorem dL_law_724 : decode cL_law 724 = .ok (.iconst 1, 1) := by decide +kernel
theorem dL_law_725 : decode cL_law 725 = .ok (.iadd, 1) := by decide +kernel
theorem dL_law_726 : decode cL_law 726 = .ok (.iaload, 1) := by decide +kernel
theorem dL_law_727 : decode cL_law 727 = .ok (.invokevirtual 92, 3) := by decide +kernel
theorem dL_law_730 : decode cL_law 730 = .ok (.aload_n 2, 1) := by decide +kernel
theorem dL_law_731 : decode cL_law 731 = .ok (.aload_n 0, 1) := by decide +kernel
theorem dL_law_732 : decode cL_law 732 = .ok (.iload 4, 2) := by decide +kernel
theorem dL_law_734 : decode cL_law 734 = .ok (.iconst 1, 1) := by decide +kernel
end
section
theorem dL_law_735 : decode cL_law 735 = .ok (.iadd, 1) := by decide +kernel
theorem dL_law_736 : decode cL_law 736 = .ok (.iaload, 1) := by decide +kernel
theorem dL_law_737 : decode cL_law 737 = .ok (.invokevirtual 95, 3) := by decide +kernel
theorem dL_law_740 : decode cL_law 740 = .ok (.if_icmp .eq 5, 3) := by decide +kernel
theorem dL_law_743 : decode cL_law 743 = .ok (.iconst 0, 1) := by decide +kernel
theorem dL_law_744 : decode cL_law 744 = .ok (.ireturn, 1) := by decide +kernel
theorem dL_law_745 : decode cL_law 745 = .ok (.iinc 4 7, 3) := by decide +kernel
theorem dL_law_748 : decode cL_law 748 = .ok (.goto (-725), 3) := by decide +kernel
theorem dL_law_751 : decode cL_law 751 = .ok (.iconst 1, 1) := by decide +kernel
theorem dL_law_752 : decode cL_law 752 = .ok (.ireturn, 1) := by decide +kernel
end
