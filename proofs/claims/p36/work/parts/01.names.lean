-- ===== PART A: goes FIRST, ahead of the names: the tables' words, and 'selects' of the private methods out of them =====
/-- a private method of a class that the tables say can be made, by its rows of tables_1 -/
def lw_okq (q : MethodName × Nat) : Prop := (q.1.cls ≠ "java/lang/invoke/MethodHandle" ∧ q.1.cls ≠ "java/lang/invoke/VarHandle") ∧ Cond.instantiable q.1.cls q.2 ∈ tables_1 ∧ Cond.privateMethod q.1 ∈ tables_1 ∧ Cond.instanceMethod q.1 ∈ tables_1
theorem lw_p0 : lw_okq (⟨"MovingList", "showList", "(I[I)I"⟩, 12) := ⟨⟨by decide +kernel, by decide +kernel⟩, List.mem_of_getElem? (i := 23) (by decide +kernel), List.mem_of_getElem? (i := 326) (by decide +kernel), List.mem_of_getElem? (i := 327) (by decide +kernel)⟩
theorem lw_p1 : lw_okq (⟨"MovingList", "spotOf", "(II)I"⟩, 12) := ⟨⟨by decide +kernel, by decide +kernel⟩, List.mem_of_getElem? (i := 23) (by decide +kernel), List.mem_of_getElem? (i := 334) (by decide +kernel), List.mem_of_getElem? (i := 335) (by decide +kernel)⟩
theorem lw_p2 : lw_okq (⟨"MovingList$Listing", "link", "(LMovingList$Log;I)V"⟩, 5) := ⟨⟨by decide +kernel, by decide +kernel⟩, List.mem_of_getElem? (i := 129) (by decide +kernel), List.mem_of_getElem? (i := 367) (by decide +kernel), List.mem_of_getElem? (i := 368) (by decide +kernel)⟩
theorem lw_p3 : lw_okq (⟨"MovingList", "elementAt", "(II)I"⟩, 12) := ⟨⟨by decide +kernel, by decide +kernel⟩, List.mem_of_getElem? (i := 23) (by decide +kernel), List.mem_of_getElem? (i := 390) (by decide +kernel), List.mem_of_getElem? (i := 391) (by decide +kernel)⟩
theorem lw_p4 : lw_okq (⟨"MovingList", "showFound", "(I)V"⟩, 12) := ⟨⟨by decide +kernel, by decide +kernel⟩, List.mem_of_getElem? (i := 23) (by decide +kernel), List.mem_of_getElem? (i := 410) (by decide +kernel), List.mem_of_getElem? (i := 411) (by decide +kernel)⟩
theorem lw_p5 : lw_okq (⟨"MovingList", "placeFoundAhead", "(II)I"⟩, 12) := ⟨⟨by decide +kernel, by decide +kernel⟩, List.mem_of_getElem? (i := 23) (by decide +kernel), List.mem_of_getElem? (i := 426) (by decide +kernel), List.mem_of_getElem? (i := 427) (by decide +kernel)⟩
theorem lw_p6 : lw_okq (⟨"MovingList", "takeChance", "()I"⟩, 12) := ⟨⟨by decide +kernel, by decide +kernel⟩, List.mem_of_getElem? (i := 23) (by decide +kernel), List.mem_of_getElem? (i := 437) (by decide +kernel), List.mem_of_getElem? (i := 438) (by decide +kernel)⟩
theorem lw_p7 : lw_okq (⟨"MovingList", "draw", "(I)I"⟩, 12) := ⟨⟨by decide +kernel, by decide +kernel⟩, List.mem_of_getElem? (i := 23) (by decide +kernel), List.mem_of_getElem? (i := 441) (by decide +kernel), List.mem_of_getElem? (i := 442) (by decide +kernel)⟩
theorem lw_p8 : lw_okq (⟨"MovingList", "waitingAt", "(II)I"⟩, 12) := ⟨⟨by decide +kernel, by decide +kernel⟩, List.mem_of_getElem? (i := 23) (by decide +kernel), List.mem_of_getElem? (i := 486) (by decide +kernel), List.mem_of_getElem? (i := 487) (by decide +kernel)⟩
theorem lw_p9 : lw_okq (⟨"MovingList$Broom", "prepare", "(LMovingList$Group;I)V"⟩, 4) := ⟨⟨by decide +kernel, by decide +kernel⟩, List.mem_of_getElem? (i := 203) (by decide +kernel), List.mem_of_getElem? (i := 525) (by decide +kernel), List.mem_of_getElem? (i := 526) (by decide +kernel)⟩
theorem lw_p10 : lw_okq (⟨"MovingList$Broom", "isSeen", "(I)Z"⟩, 4) := ⟨⟨by decide +kernel, by decide +kernel⟩, List.mem_of_getElem? (i := 203) (by decide +kernel), List.mem_of_getElem? (i := 537) (by decide +kernel), List.mem_of_getElem? (i := 538) (by decide +kernel)⟩
theorem lw_p11 : lw_okq (⟨"MovingList$Broom", "canGo", "(LMovingList$Log;LMovingList$Listing;I)Z"⟩, 4) := ⟨⟨by decide +kernel, by decide +kernel⟩, List.mem_of_getElem? (i := 203) (by decide +kernel), List.mem_of_getElem? (i := 547) (by decide +kernel), List.mem_of_getElem? (i := 548) (by decide +kernel)⟩
theorem lw_p12 : lw_okq (⟨"MovingList", "gatherRivals", "(I[I)I"⟩, 12) := ⟨⟨by decide +kernel, by decide +kernel⟩, List.mem_of_getElem? (i := 23) (by decide +kernel), List.mem_of_getElem? (i := 614) (by decide +kernel), List.mem_of_getElem? (i := 615) (by decide +kernel)⟩
theorem lw_p13 : lw_okq (⟨"MovingList", "countElements", "(LMovingList$Site;Z)I"⟩, 12) := ⟨⟨by decide +kernel, by decide +kernel⟩, List.mem_of_getElem? (i := 23) (by decide +kernel), List.mem_of_getElem? (i := 635) (by decide +kernel), List.mem_of_getElem? (i := 636) (by decide +kernel)⟩
theorem lw_p14 : lw_okq (⟨"MovingList", "markUnforgotten", "(LMovingList$Site;)V"⟩, 12) := ⟨⟨by decide +kernel, by decide +kernel⟩, List.mem_of_getElem? (i := 23) (by decide +kernel), List.mem_of_getElem? (i := 639) (by decide +kernel), List.mem_of_getElem? (i := 640) (by decide +kernel)⟩
theorem lw_p15 : lw_okq (⟨"MovingList", "countPastMoves", "(LMovingList$Site;)I"⟩, 12) := ⟨⟨by decide +kernel, by decide +kernel⟩, List.mem_of_getElem? (i := 23) (by decide +kernel), List.mem_of_getElem? (i := 645) (by decide +kernel), List.mem_of_getElem? (i := 646) (by decide +kernel)⟩
def lw_privs_1 : List (MethodName × Nat) := [(⟨"MovingList", "showList", "(I[I)I"⟩, 12), (⟨"MovingList", "spotOf", "(II)I"⟩, 12), (⟨"MovingList$Listing", "link", "(LMovingList$Log;I)V"⟩, 5), (⟨"MovingList", "elementAt", "(II)I"⟩, 12), (⟨"MovingList", "showFound", "(I)V"⟩, 12), (⟨"MovingList", "placeFoundAhead", "(II)I"⟩, 12), (⟨"MovingList", "takeChance", "()I"⟩, 12), (⟨"MovingList", "draw", "(I)I"⟩, 12), (⟨"MovingList", "waitingAt", "(II)I"⟩, 12), (⟨"MovingList$Broom", "prepare", "(LMovingList$Group;I)V"⟩, 4), (⟨"MovingList$Broom", "isSeen", "(I)Z"⟩, 4), (⟨"MovingList$Broom", "canGo", "(LMovingList$Log;LMovingList$Listing;I)Z"⟩, 4), (⟨"MovingList", "gatherRivals", "(I[I)I"⟩, 12), (⟨"MovingList", "countElements", "(LMovingList$Site;Z)I"⟩, 12), (⟨"MovingList", "markUnforgotten", "(LMovingList$Site;)V"⟩, 12), (⟨"MovingList", "countPastMoves", "(LMovingList$Site;)I"⟩, 12)]
theorem lw_r1 : ∀ q ∈ lw_privs_1, lw_okq q := List.forall_mem_cons.mpr ⟨lw_p0, List.forall_mem_cons.mpr ⟨lw_p1, List.forall_mem_cons.mpr ⟨lw_p2, List.forall_mem_cons.mpr ⟨lw_p3, List.forall_mem_cons.mpr ⟨lw_p4, List.forall_mem_cons.mpr ⟨lw_p5, List.forall_mem_cons.mpr ⟨lw_p6, List.forall_mem_cons.mpr ⟨lw_p7, List.forall_mem_cons.mpr ⟨lw_p8, List.forall_mem_cons.mpr ⟨lw_p9, List.forall_mem_cons.mpr ⟨lw_p10, List.forall_mem_cons.mpr ⟨lw_p11, List.forall_mem_cons.mpr ⟨lw_p12, List.forall_mem_cons.mpr ⟨lw_p13, List.forall_mem_cons.mpr ⟨lw_p14, List.forall_mem_cons.mpr ⟨lw_p15, fun _ h => absurd h List.not_mem_nil⟩⟩⟩⟩⟩⟩⟩⟩⟩⟩⟩⟩⟩⟩⟩⟩
theorem lw_p16 : lw_okq (⟨"MovingList", "deepest", "(LMovingList$Listing;)I"⟩, 12) := ⟨⟨by decide +kernel, by decide +kernel⟩, List.mem_of_getElem? (i := 23) (by decide +kernel), List.mem_of_getElem? (i := 649) (by decide +kernel), List.mem_of_getElem? (i := 650) (by decide +kernel)⟩
theorem lw_p17 : lw_okq (⟨"MovingList", "longestCommon", "(II)I"⟩, 12) := ⟨⟨by decide +kernel, by decide +kernel⟩, List.mem_of_getElem? (i := 23) (by decide +kernel), List.mem_of_getElem? (i := 667) (by decide +kernel), List.mem_of_getElem? (i := 668) (by decide +kernel)⟩
theorem lw_p18 : lw_okq (⟨"MovingList", "countWaiting", "()I"⟩, 12) := ⟨⟨by decide +kernel, by decide +kernel⟩, List.mem_of_getElem? (i := 23) (by decide +kernel), List.mem_of_getElem? (i := 679) (by decide +kernel), List.mem_of_getElem? (i := 680) (by decide +kernel)⟩
theorem lw_p19 : lw_okq (⟨"MovingList", "countHeld", "()I"⟩, 12) := ⟨⟨by decide +kernel, by decide +kernel⟩, List.mem_of_getElem? (i := 23) (by decide +kernel), List.mem_of_getElem? (i := 683) (by decide +kernel), List.mem_of_getElem? (i := 684) (by decide +kernel)⟩
theorem lw_p20 : lw_okq (⟨"MovingList", "allShowOneList", "()Z"⟩, 12) := ⟨⟨by decide +kernel, by decide +kernel⟩, List.mem_of_getElem? (i := 23) (by decide +kernel), List.mem_of_getElem? (i := 687) (by decide +kernel), List.mem_of_getElem? (i := 688) (by decide +kernel)⟩
theorem lw_p21 : lw_okq (⟨"MovingList", "showsSame", "(II)Z"⟩, 12) := ⟨⟨by decide +kernel, by decide +kernel⟩, List.mem_of_getElem? (i := 23) (by decide +kernel), List.mem_of_getElem? (i := 691) (by decide +kernel), List.mem_of_getElem? (i := 692) (by decide +kernel)⟩
theorem lw_p22 : lw_okq (⟨"MovingList", "countUnfinished", "()I"⟩, 12) := ⟨⟨by decide +kernel, by decide +kernel⟩, List.mem_of_getElem? (i := 23) (by decide +kernel), List.mem_of_getElem? (i := 695) (by decide +kernel), List.mem_of_getElem? (i := 696) (by decide +kernel)⟩
theorem lw_p23 : lw_okq (⟨"MovingList", "feedNumber", "(I)V"⟩, 12) := ⟨⟨by decide +kernel, by decide +kernel⟩, List.mem_of_getElem? (i := 23) (by decide +kernel), List.mem_of_getElem? (i := 703) (by decide +kernel), List.mem_of_getElem? (i := 704) (by decide +kernel)⟩
theorem lw_p24 : lw_okq (⟨"MovingList$Script", "skipBlanks", "()V"⟩, 6) := ⟨⟨by decide +kernel, by decide +kernel⟩, List.mem_of_getElem? (i := 224) (by decide +kernel), List.mem_of_getElem? (i := 716) (by decide +kernel), List.mem_of_getElem? (i := 717) (by decide +kernel)⟩
theorem lw_p25 : lw_okq (⟨"MovingList$Script", "byteAt", "(I)I"⟩, 6) := ⟨⟨by decide +kernel, by decide +kernel⟩, List.mem_of_getElem? (i := 224) (by decide +kernel), List.mem_of_getElem? (i := 720) (by decide +kernel), List.mem_of_getElem? (i := 721) (by decide +kernel)⟩
theorem lw_p26 : lw_okq (⟨"MovingList$Script", "readDeed", "()Z"⟩, 6) := ⟨⟨by decide +kernel, by decide +kernel⟩, List.mem_of_getElem? (i := 224) (by decide +kernel), List.mem_of_getElem? (i := 724) (by decide +kernel), List.mem_of_getElem? (i := 725) (by decide +kernel)⟩
theorem lw_p27 : lw_okq (⟨"MovingList$Script", "skipWord", "()V"⟩, 6) := ⟨⟨by decide +kernel, by decide +kernel⟩, List.mem_of_getElem? (i := 224) (by decide +kernel), List.mem_of_getElem? (i := 728) (by decide +kernel), List.mem_of_getElem? (i := 729) (by decide +kernel)⟩
theorem lw_p28 : lw_okq (⟨"MovingList$Script", "deedOf", "(I)I"⟩, 6) := ⟨⟨by decide +kernel, by decide +kernel⟩, List.mem_of_getElem? (i := 224) (by decide +kernel), List.mem_of_getElem? (i := 735) (by decide +kernel), List.mem_of_getElem? (i := 736) (by decide +kernel)⟩
theorem lw_p29 : lw_okq (⟨"MovingList$Script", "isWord", "(Ljava/lang/String;I)Z"⟩, 6) := ⟨⟨by decide +kernel, by decide +kernel⟩, List.mem_of_getElem? (i := 224) (by decide +kernel), List.mem_of_getElem? (i := 741) (by decide +kernel), List.mem_of_getElem? (i := 742) (by decide +kernel)⟩
theorem lw_p30 : lw_okq (⟨"MovingList$Script", "fail", "(II)Z"⟩, 6) := ⟨⟨by decide +kernel, by decide +kernel⟩, List.mem_of_getElem? (i := 224) (by decide +kernel), List.mem_of_getElem? (i := 793) (by decide +kernel), List.mem_of_getElem? (i := 794) (by decide +kernel)⟩
theorem lw_p31 : lw_okq (⟨"MovingList$Script", "readNumber", "(I)Z"⟩, 6) := ⟨⟨by decide +kernel, by decide +kernel⟩, List.mem_of_getElem? (i := 224) (by decide +kernel), List.mem_of_getElem? (i := 797) (by decide +kernel), List.mem_of_getElem? (i := 798) (by decide +kernel)⟩
def lw_privs_2 : List (MethodName × Nat) := [(⟨"MovingList", "deepest", "(LMovingList$Listing;)I"⟩, 12), (⟨"MovingList", "longestCommon", "(II)I"⟩, 12), (⟨"MovingList", "countWaiting", "()I"⟩, 12), (⟨"MovingList", "countHeld", "()I"⟩, 12), (⟨"MovingList", "allShowOneList", "()Z"⟩, 12), (⟨"MovingList", "showsSame", "(II)Z"⟩, 12), (⟨"MovingList", "countUnfinished", "()I"⟩, 12), (⟨"MovingList", "feedNumber", "(I)V"⟩, 12), (⟨"MovingList$Script", "skipBlanks", "()V"⟩, 6), (⟨"MovingList$Script", "byteAt", "(I)I"⟩, 6), (⟨"MovingList$Script", "readDeed", "()Z"⟩, 6), (⟨"MovingList$Script", "skipWord", "()V"⟩, 6), (⟨"MovingList$Script", "deedOf", "(I)I"⟩, 6), (⟨"MovingList$Script", "isWord", "(Ljava/lang/String;I)Z"⟩, 6), (⟨"MovingList$Script", "fail", "(II)Z"⟩, 6), (⟨"MovingList$Script", "readNumber", "(I)Z"⟩, 6)]
theorem lw_r2 : ∀ q ∈ lw_privs_2, lw_okq q := List.forall_mem_cons.mpr ⟨lw_p16, List.forall_mem_cons.mpr ⟨lw_p17, List.forall_mem_cons.mpr ⟨lw_p18, List.forall_mem_cons.mpr ⟨lw_p19, List.forall_mem_cons.mpr ⟨lw_p20, List.forall_mem_cons.mpr ⟨lw_p21, List.forall_mem_cons.mpr ⟨lw_p22, List.forall_mem_cons.mpr ⟨lw_p23, List.forall_mem_cons.mpr ⟨lw_p24, List.forall_mem_cons.mpr ⟨lw_p25, List.forall_mem_cons.mpr ⟨lw_p26, List.forall_mem_cons.mpr ⟨lw_p27, List.forall_mem_cons.mpr ⟨lw_p28, List.forall_mem_cons.mpr ⟨lw_p29, List.forall_mem_cons.mpr ⟨lw_p30, List.forall_mem_cons.mpr ⟨lw_p31, fun _ h => absurd h List.not_mem_nil⟩⟩⟩⟩⟩⟩⟩⟩⟩⟩⟩⟩⟩⟩⟩⟩
theorem lw_p32 : lw_okq (⟨"MovingList$Script", "readLetter", "(I)Z"⟩, 6) := ⟨⟨by decide +kernel, by decide +kernel⟩, List.mem_of_getElem? (i := 224) (by decide +kernel), List.mem_of_getElem? (i := 804) (by decide +kernel), List.mem_of_getElem? (i := 805) (by decide +kernel)⟩
theorem lw_p33 : lw_okq (⟨"MovingList", "doDeed", "(I)Z"⟩, 12) := ⟨⟨by decide +kernel, by decide +kernel⟩, List.mem_of_getElem? (i := 23) (by decide +kernel), List.mem_of_getElem? (i := 808) (by decide +kernel), List.mem_of_getElem? (i := 809) (by decide +kernel)⟩
theorem lw_p34 : lw_okq (⟨"MovingList", "deliverAll", "()V"⟩, 12) := ⟨⟨by decide +kernel, by decide +kernel⟩, List.mem_of_getElem? (i := 23) (by decide +kernel), List.mem_of_getElem? (i := 825) (by decide +kernel), List.mem_of_getElem? (i := 826) (by decide +kernel)⟩
theorem lw_p35 : lw_okq (⟨"java/lang/Throwable", "fillInStackTrace", "(I)Ljava/lang/Throwable;"⟩, 6) := ⟨⟨by decide +kernel, by decide +kernel⟩, List.mem_of_getElem? (i := 903) (by decide +kernel), List.mem_of_getElem? (i := 901) (by decide +kernel), List.mem_of_getElem? (i := 902) (by decide +kernel)⟩
theorem lw_p36 : lw_okq (⟨"MovingListModel", "begins", "(I)V"⟩, 23) := ⟨⟨by decide +kernel, by decide +kernel⟩, List.mem_of_getElem? (i := 933) (by decide +kernel), List.mem_of_getElem? (i := 939) (by decide +kernel), List.mem_of_getElem? (i := 940) (by decide +kernel)⟩
theorem lw_p37 : lw_okq (⟨"MovingListModel", "canMake", "(I)Z"⟩, 23) := ⟨⟨by decide +kernel, by decide +kernel⟩, List.mem_of_getElem? (i := 933) (by decide +kernel), List.mem_of_getElem? (i := 1024) (by decide +kernel), List.mem_of_getElem? (i := 1025) (by decide +kernel)⟩
theorem lw_p38 : lw_okq (⟨"MovingListModel", "isSite", "(I)Z"⟩, 23) := ⟨⟨by decide +kernel, by decide +kernel⟩, List.mem_of_getElem? (i := 933) (by decide +kernel), List.mem_of_getElem? (i := 1028) (by decide +kernel), List.mem_of_getElem? (i := 1029) (by decide +kernel)⟩
theorem lw_p39 : lw_okq (⟨"MovingListModel", "laysList", "(I)V"⟩, 23) := ⟨⟨by decide +kernel, by decide +kernel⟩, List.mem_of_getElem? (i := 933) (by decide +kernel), List.mem_of_getElem? (i := 1032) (by decide +kernel), List.mem_of_getElem? (i := 1033) (by decide +kernel)⟩
theorem lw_p40 : lw_okq (⟨"MovingListModel", "laysOrder", "(I)V"⟩, 23) := ⟨⟨by decide +kernel, by decide +kernel⟩, List.mem_of_getElem? (i := 933) (by decide +kernel), List.mem_of_getElem? (i := 1036) (by decide +kernel), List.mem_of_getElem? (i := 1037) (by decide +kernel)⟩
theorem lw_p41 : lw_okq (⟨"MovingListModel", "laysBehind", "(III)V"⟩, 23) := ⟨⟨by decide +kernel, by decide +kernel⟩, List.mem_of_getElem? (i := 933) (by decide +kernel), List.mem_of_getElem? (i := 1040) (by decide +kernel), List.mem_of_getElem? (i := 1041) (by decide +kernel)⟩
theorem lw_p42 : lw_okq (⟨"MovingListModel", "isPlace", "(II)Z"⟩, 23) := ⟨⟨by decide +kernel, by decide +kernel⟩, List.mem_of_getElem? (i := 933) (by decide +kernel), List.mem_of_getElem? (i := 1044) (by decide +kernel), List.mem_of_getElem? (i := 1045) (by decide +kernel)⟩
theorem lw_p43 : lw_okq (⟨"MovingListModel", "isDone", "(II)Z"⟩, 23) := ⟨⟨by decide +kernel, by decide +kernel⟩, List.mem_of_getElem? (i := 933) (by decide +kernel), List.mem_of_getElem? (i := 1048) (by decide +kernel), List.mem_of_getElem? (i := 1049) (by decide +kernel)⟩
theorem lw_p44 : lw_okq (⟨"MovingListModel", "isNeeded", "(II)Z"⟩, 23) := ⟨⟨by decide +kernel, by decide +kernel⟩, List.mem_of_getElem? (i := 933) (by decide +kernel), List.mem_of_getElem? (i := 1052) (by decide +kernel), List.mem_of_getElem? (i := 1053) (by decide +kernel)⟩
theorem lw_p45 : lw_okq (⟨"MovingListModel", "told", "(II)I"⟩, 23) := ⟨⟨by decide +kernel, by decide +kernel⟩, List.mem_of_getElem? (i := 933) (by decide +kernel), List.mem_of_getElem? (i := 1059) (by decide +kernel), List.mem_of_getElem? (i := 1060) (by decide +kernel)⟩
theorem lw_p46 : lw_okq (⟨"MovingListModel", "isMade", "(I)Z"⟩, 23) := ⟨⟨by decide +kernel, by decide +kernel⟩, List.mem_of_getElem? (i := 933) (by decide +kernel), List.mem_of_getElem? (i := 1063) (by decide +kernel), List.mem_of_getElem? (i := 1064) (by decide +kernel)⟩
theorem lw_p47 : lw_okq (⟨"MovingListModel", "of", "(II)I"⟩, 23) := ⟨⟨by decide +kernel, by decide +kernel⟩, List.mem_of_getElem? (i := 933) (by decide +kernel), List.mem_of_getElem? (i := 1067) (by decide +kernel), List.mem_of_getElem? (i := 1068) (by decide +kernel)⟩
def lw_privs_3 : List (MethodName × Nat) := [(⟨"MovingList$Script", "readLetter", "(I)Z"⟩, 6), (⟨"MovingList", "doDeed", "(I)Z"⟩, 12), (⟨"MovingList", "deliverAll", "()V"⟩, 12), (⟨"java/lang/Throwable", "fillInStackTrace", "(I)Ljava/lang/Throwable;"⟩, 6), (⟨"MovingListModel", "begins", "(I)V"⟩, 23), (⟨"MovingListModel", "canMake", "(I)Z"⟩, 23), (⟨"MovingListModel", "isSite", "(I)Z"⟩, 23), (⟨"MovingListModel", "laysList", "(I)V"⟩, 23), (⟨"MovingListModel", "laysOrder", "(I)V"⟩, 23), (⟨"MovingListModel", "laysBehind", "(III)V"⟩, 23), (⟨"MovingListModel", "isPlace", "(II)Z"⟩, 23), (⟨"MovingListModel", "isDone", "(II)Z"⟩, 23), (⟨"MovingListModel", "isNeeded", "(II)Z"⟩, 23), (⟨"MovingListModel", "told", "(II)I"⟩, 23), (⟨"MovingListModel", "isMade", "(I)Z"⟩, 23), (⟨"MovingListModel", "of", "(II)I"⟩, 23)]
theorem lw_r3 : ∀ q ∈ lw_privs_3, lw_okq q := List.forall_mem_cons.mpr ⟨lw_p32, List.forall_mem_cons.mpr ⟨lw_p33, List.forall_mem_cons.mpr ⟨lw_p34, List.forall_mem_cons.mpr ⟨lw_p35, List.forall_mem_cons.mpr ⟨lw_p36, List.forall_mem_cons.mpr ⟨lw_p37, List.forall_mem_cons.mpr ⟨lw_p38, List.forall_mem_cons.mpr ⟨lw_p39, List.forall_mem_cons.mpr ⟨lw_p40, List.forall_mem_cons.mpr ⟨lw_p41, List.forall_mem_cons.mpr ⟨lw_p42, List.forall_mem_cons.mpr ⟨lw_p43, List.forall_mem_cons.mpr ⟨lw_p44, List.forall_mem_cons.mpr ⟨lw_p45, List.forall_mem_cons.mpr ⟨lw_p46, List.forall_mem_cons.mpr ⟨lw_p47, fun _ h => absurd h List.not_mem_nil⟩⟩⟩⟩⟩⟩⟩⟩⟩⟩⟩⟩⟩⟩⟩⟩
theorem lw_p48 : lw_okq (⟨"MovingListModel", "at", "(II)I"⟩, 23) := ⟨⟨by decide +kernel, by decide +kernel⟩, List.mem_of_getElem? (i := 933) (by decide +kernel), List.mem_of_getElem? (i := 1071) (by decide +kernel), List.mem_of_getElem? (i := 1072) (by decide +kernel)⟩
theorem lw_p49 : lw_okq (⟨"MovingListModel", "isSwept", "(II)Z"⟩, 23) := ⟨⟨by decide +kernel, by decide +kernel⟩, List.mem_of_getElem? (i := 933) (by decide +kernel), List.mem_of_getElem? (i := 1075) (by decide +kernel), List.mem_of_getElem? (i := 1076) (by decide +kernel)⟩
theorem lw_p50 : lw_okq (⟨"MovingListModel", "behind", "(II)I"⟩, 23) := ⟨⟨by decide +kernel, by decide +kernel⟩, List.mem_of_getElem? (i := 933) (by decide +kernel), List.mem_of_getElem? (i := 1079) (by decide +kernel), List.mem_of_getElem? (i := 1080) (by decide +kernel)⟩
theorem lw_p51 : lw_okq (⟨"MovingListModel", "opOf", "(I)I"⟩, 23) := ⟨⟨by decide +kernel, by decide +kernel⟩, List.mem_of_getElem? (i := 933) (by decide +kernel), List.mem_of_getElem? (i := 1083) (by decide +kernel), List.mem_of_getElem? (i := 1084) (by decide +kernel)⟩
theorem lw_p52 : lw_okq (⟨"MovingListModel", "isLater", "(II)Z"⟩, 23) := ⟨⟨by decide +kernel, by decide +kernel⟩, List.mem_of_getElem? (i := 933) (by decide +kernel), List.mem_of_getElem? (i := 1087) (by decide +kernel), List.mem_of_getElem? (i := 1088) (by decide +kernel)⟩
theorem lw_p53 : lw_okq (⟨"MovingListModel", "placeOf", "(II)I"⟩, 23) := ⟨⟨by decide +kernel, by decide +kernel⟩, List.mem_of_getElem? (i := 933) (by decide +kernel), List.mem_of_getElem? (i := 1091) (by decide +kernel), List.mem_of_getElem? (i := 1092) (by decide +kernel)⟩
theorem lw_p54 : lw_okq (⟨"MovingListModel", "latest", "(IIII)I"⟩, 23) := ⟨⟨by decide +kernel, by decide +kernel⟩, List.mem_of_getElem? (i := 933) (by decide +kernel), List.mem_of_getElem? (i := 1095) (by decide +kernel), List.mem_of_getElem? (i := 1096) (by decide +kernel)⟩
theorem lw_p55 : lw_okq (⟨"MovingListModel", "isGone", "(II)Z"⟩, 23) := ⟨⟨by decide +kernel, by decide +kernel⟩, List.mem_of_getElem? (i := 933) (by decide +kernel), List.mem_of_getElem? (i := 1099) (by decide +kernel), List.mem_of_getElem? (i := 1100) (by decide +kernel)⟩
theorem lw_p56 : lw_okq (⟨"MovingListModel", "placeAhead", "(II)I"⟩, 23) := ⟨⟨by decide +kernel, by decide +kernel⟩, List.mem_of_getElem? (i := 933) (by decide +kernel), List.mem_of_getElem? (i := 1103) (by decide +kernel), List.mem_of_getElem? (i := 1104) (by decide +kernel)⟩
theorem lw_p57 : lw_okq (⟨"MovingListModel", "makes", "(IIIII)I"⟩, 23) := ⟨⟨by decide +kernel, by decide +kernel⟩, List.mem_of_getElem? (i := 933) (by decide +kernel), List.mem_of_getElem? (i := 1110) (by decide +kernel), List.mem_of_getElem? (i := 1111) (by decide +kernel)⟩
theorem lw_p58 : lw_okq (⟨"MovingListModel", "posts", "(II)V"⟩, 23) := ⟨⟨by decide +kernel, by decide +kernel⟩, List.mem_of_getElem? (i := 933) (by decide +kernel), List.mem_of_getElem? (i := 1114) (by decide +kernel), List.mem_of_getElem? (i := 1115) (by decide +kernel)⟩
theorem lw_p59 : lw_okq (⟨"MovingListModel", "elementAt", "(I)I"⟩, 23) := ⟨⟨by decide +kernel, by decide +kernel⟩, List.mem_of_getElem? (i := 933) (by decide +kernel), List.mem_of_getElem? (i := 1122) (by decide +kernel), List.mem_of_getElem? (i := 1123) (by decide +kernel)⟩
theorem lw_p60 : lw_okq (⟨"MovingListModel", "isWaiting", "(II)Z"⟩, 23) := ⟨⟨by decide +kernel, by decide +kernel⟩, List.mem_of_getElem? (i := 933) (by decide +kernel), List.mem_of_getElem? (i := 1138) (by decide +kernel), List.mem_of_getElem? (i := 1139) (by decide +kernel)⟩
theorem lw_p61 : lw_okq (⟨"MovingListModel", "delivers", "(II)I"⟩, 23) := ⟨⟨by decide +kernel, by decide +kernel⟩, List.mem_of_getElem? (i := 933) (by decide +kernel), List.mem_of_getElem? (i := 1142) (by decide +kernel), List.mem_of_getElem? (i := 1143) (by decide +kernel)⟩
theorem lw_p62 : lw_okq (⟨"MovingListModel", "takesOut", "(IIII)V"⟩, 23) := ⟨⟨by decide +kernel, by decide +kernel⟩, List.mem_of_getElem? (i := 933) (by decide +kernel), List.mem_of_getElem? (i := 1146) (by decide +kernel), List.mem_of_getElem? (i := 1147) (by decide +kernel)⟩
theorem lw_p63 : lw_okq (⟨"MovingListModel", "isHeld", "(II)Z"⟩, 23) := ⟨⟨by decide +kernel, by decide +kernel⟩, List.mem_of_getElem? (i := 933) (by decide +kernel), List.mem_of_getElem? (i := 1150) (by decide +kernel), List.mem_of_getElem? (i := 1151) (by decide +kernel)⟩
def lw_privs_4 : List (MethodName × Nat) := [(⟨"MovingListModel", "at", "(II)I"⟩, 23), (⟨"MovingListModel", "isSwept", "(II)Z"⟩, 23), (⟨"MovingListModel", "behind", "(II)I"⟩, 23), (⟨"MovingListModel", "opOf", "(I)I"⟩, 23), (⟨"MovingListModel", "isLater", "(II)Z"⟩, 23), (⟨"MovingListModel", "placeOf", "(II)I"⟩, 23), (⟨"MovingListModel", "latest", "(IIII)I"⟩, 23), (⟨"MovingListModel", "isGone", "(II)Z"⟩, 23), (⟨"MovingListModel", "placeAhead", "(II)I"⟩, 23), (⟨"MovingListModel", "makes", "(IIIII)I"⟩, 23), (⟨"MovingListModel", "posts", "(II)V"⟩, 23), (⟨"MovingListModel", "elementAt", "(I)I"⟩, 23), (⟨"MovingListModel", "isWaiting", "(II)Z"⟩, 23), (⟨"MovingListModel", "delivers", "(II)I"⟩, 23), (⟨"MovingListModel", "takesOut", "(IIII)V"⟩, 23), (⟨"MovingListModel", "isHeld", "(II)Z"⟩, 23)]
theorem lw_r4 : ∀ q ∈ lw_privs_4, lw_okq q := List.forall_mem_cons.mpr ⟨lw_p48, List.forall_mem_cons.mpr ⟨lw_p49, List.forall_mem_cons.mpr ⟨lw_p50, List.forall_mem_cons.mpr ⟨lw_p51, List.forall_mem_cons.mpr ⟨lw_p52, List.forall_mem_cons.mpr ⟨lw_p53, List.forall_mem_cons.mpr ⟨lw_p54, List.forall_mem_cons.mpr ⟨lw_p55, List.forall_mem_cons.mpr ⟨lw_p56, List.forall_mem_cons.mpr ⟨lw_p57, List.forall_mem_cons.mpr ⟨lw_p58, List.forall_mem_cons.mpr ⟨lw_p59, List.forall_mem_cons.mpr ⟨lw_p60, List.forall_mem_cons.mpr ⟨lw_p61, List.forall_mem_cons.mpr ⟨lw_p62, List.forall_mem_cons.mpr ⟨lw_p63, fun _ h => absurd h List.not_mem_nil⟩⟩⟩⟩⟩⟩⟩⟩⟩⟩⟩⟩⟩⟩⟩⟩
theorem lw_p64 : lw_okq (⟨"MovingListModel", "canBe", "(II)Z"⟩, 23) := ⟨⟨by decide +kernel, by decide +kernel⟩, List.mem_of_getElem? (i := 933) (by decide +kernel), List.mem_of_getElem? (i := 1154) (by decide +kernel), List.mem_of_getElem? (i := 1155) (by decide +kernel)⟩
theorem lw_p65 : lw_okq (⟨"MovingListModel", "isDoneNow", "(II)V"⟩, 23) := ⟨⟨by decide +kernel, by decide +kernel⟩, List.mem_of_getElem? (i := 933) (by decide +kernel), List.mem_of_getElem? (i := 1158) (by decide +kernel), List.mem_of_getElem? (i := 1159) (by decide +kernel)⟩
theorem lw_p66 : lw_okq (⟨"MovingListModel", "doesHeld", "(I)I"⟩, 23) := ⟨⟨by decide +kernel, by decide +kernel⟩, List.mem_of_getElem? (i := 933) (by decide +kernel), List.mem_of_getElem? (i := 1162) (by decide +kernel), List.mem_of_getElem? (i := 1163) (by decide +kernel)⟩
theorem lw_p67 : lw_okq (⟨"MovingListModel", "syncs", "(II)I"⟩, 23) := ⟨⟨by decide +kernel, by decide +kernel⟩, List.mem_of_getElem? (i := 933) (by decide +kernel), List.mem_of_getElem? (i := 1178) (by decide +kernel), List.mem_of_getElem? (i := 1179) (by decide +kernel)⟩
theorem lw_p68 : lw_okq (⟨"MovingListModel", "sweeps", "(I)I"⟩, 23) := ⟨⟨by decide +kernel, by decide +kernel⟩, List.mem_of_getElem? (i := 933) (by decide +kernel), List.mem_of_getElem? (i := 1190) (by decide +kernel), List.mem_of_getElem? (i := 1191) (by decide +kernel)⟩
theorem lw_p69 : lw_okq (⟨"MovingListModel", "canGo", "(II)Z"⟩, 23) := ⟨⟨by decide +kernel, by decide +kernel⟩, List.mem_of_getElem? (i := 933) (by decide +kernel), List.mem_of_getElem? (i := 1194) (by decide +kernel), List.mem_of_getElem? (i := 1195) (by decide +kernel)⟩
theorem lw_p70 : lw_okq (⟨"MovingListModel", "isSeen", "(II)Z"⟩, 23) := ⟨⟨by decide +kernel, by decide +kernel⟩, List.mem_of_getElem? (i := 933) (by decide +kernel), List.mem_of_getElem? (i := 1198) (by decide +kernel), List.mem_of_getElem? (i := 1199) (by decide +kernel)⟩
theorem lw_p71 : lw_okq (⟨"MovingListModel", "floorOf", "(II)I"⟩, 23) := ⟨⟨by decide +kernel, by decide +kernel⟩, List.mem_of_getElem? (i := 933) (by decide +kernel), List.mem_of_getElem? (i := 1202) (by decide +kernel), List.mem_of_getElem? (i := 1203) (by decide +kernel)⟩
theorem lw_p72 : lw_okq (⟨"MovingListModel", "known", "(III)I"⟩, 23) := ⟨⟨by decide +kernel, by decide +kernel⟩, List.mem_of_getElem? (i := 933) (by decide +kernel), List.mem_of_getElem? (i := 1206) (by decide +kernel), List.mem_of_getElem? (i := 1207) (by decide +kernel)⟩
theorem lw_p73 : lw_okq (⟨"MovingListModel", "hasBehind", "(II)Z"⟩, 23) := ⟨⟨by decide +kernel, by decide +kernel⟩, List.mem_of_getElem? (i := 933) (by decide +kernel), List.mem_of_getElem? (i := 1210) (by decide +kernel), List.mem_of_getElem? (i := 1211) (by decide +kernel)⟩
theorem lw_p74 : lw_okq (⟨"MovingListModel", "isDropSeen", "(II)Z"⟩, 23) := ⟨⟨by decide +kernel, by decide +kernel⟩, List.mem_of_getElem? (i := 933) (by decide +kernel), List.mem_of_getElem? (i := 1214) (by decide +kernel), List.mem_of_getElem? (i := 1215) (by decide +kernel)⟩
theorem lw_p75 : lw_okq (⟨"MovingListModel", "letterOf", "(II)I"⟩, 23) := ⟨⟨by decide +kernel, by decide +kernel⟩, List.mem_of_getElem? (i := 933) (by decide +kernel), List.mem_of_getElem? (i := 1226) (by decide +kernel), List.mem_of_getElem? (i := 1227) (by decide +kernel)⟩
theorem lw_p76 : lw_okq (⟨"MovingListModel", "movesOf", "(II)I"⟩, 23) := ⟨⟨by decide +kernel, by decide +kernel⟩, List.mem_of_getElem? (i := 933) (by decide +kernel), List.mem_of_getElem? (i := 1230) (by decide +kernel), List.mem_of_getElem? (i := 1231) (by decide +kernel)⟩
theorem lw_p77 : lw_okq (⟨"MovingListModel", "elements", "(IZ)I"⟩, 23) := ⟨⟨by decide +kernel, by decide +kernel⟩, List.mem_of_getElem? (i := 933) (by decide +kernel), List.mem_of_getElem? (i := 1274) (by decide +kernel), List.mem_of_getElem? (i := 1275) (by decide +kernel)⟩
theorem lw_p78 : lw_okq (⟨"MovingListModel", "isForgotten", "(II)Z"⟩, 23) := ⟨⟨by decide +kernel, by decide +kernel⟩, List.mem_of_getElem? (i := 933) (by decide +kernel), List.mem_of_getElem? (i := 1278) (by decide +kernel), List.mem_of_getElem? (i := 1279) (by decide +kernel)⟩
theorem lw_p79 : lw_okq (⟨"MovingListModel", "wouldSweep", "(I)I"⟩, 23) := ⟨⟨by decide +kernel, by decide +kernel⟩, List.mem_of_getElem? (i := 933) (by decide +kernel), List.mem_of_getElem? (i := 1282) (by decide +kernel), List.mem_of_getElem? (i := 1283) (by decide +kernel)⟩
def lw_privs_5 : List (MethodName × Nat) := [(⟨"MovingListModel", "canBe", "(II)Z"⟩, 23), (⟨"MovingListModel", "isDoneNow", "(II)V"⟩, 23), (⟨"MovingListModel", "doesHeld", "(I)I"⟩, 23), (⟨"MovingListModel", "syncs", "(II)I"⟩, 23), (⟨"MovingListModel", "sweeps", "(I)I"⟩, 23), (⟨"MovingListModel", "canGo", "(II)Z"⟩, 23), (⟨"MovingListModel", "isSeen", "(II)Z"⟩, 23), (⟨"MovingListModel", "floorOf", "(II)I"⟩, 23), (⟨"MovingListModel", "known", "(III)I"⟩, 23), (⟨"MovingListModel", "hasBehind", "(II)Z"⟩, 23), (⟨"MovingListModel", "isDropSeen", "(II)Z"⟩, 23), (⟨"MovingListModel", "letterOf", "(II)I"⟩, 23), (⟨"MovingListModel", "movesOf", "(II)I"⟩, 23), (⟨"MovingListModel", "elements", "(IZ)I"⟩, 23), (⟨"MovingListModel", "isForgotten", "(II)Z"⟩, 23), (⟨"MovingListModel", "wouldSweep", "(I)I"⟩, 23)]
theorem lw_r5 : ∀ q ∈ lw_privs_5, lw_okq q := List.forall_mem_cons.mpr ⟨lw_p64, List.forall_mem_cons.mpr ⟨lw_p65, List.forall_mem_cons.mpr ⟨lw_p66, List.forall_mem_cons.mpr ⟨lw_p67, List.forall_mem_cons.mpr ⟨lw_p68, List.forall_mem_cons.mpr ⟨lw_p69, List.forall_mem_cons.mpr ⟨lw_p70, List.forall_mem_cons.mpr ⟨lw_p71, List.forall_mem_cons.mpr ⟨lw_p72, List.forall_mem_cons.mpr ⟨lw_p73, List.forall_mem_cons.mpr ⟨lw_p74, List.forall_mem_cons.mpr ⟨lw_p75, List.forall_mem_cons.mpr ⟨lw_p76, List.forall_mem_cons.mpr ⟨lw_p77, List.forall_mem_cons.mpr ⟨lw_p78, List.forall_mem_cons.mpr ⟨lw_p79, fun _ h => absurd h List.not_mem_nil⟩⟩⟩⟩⟩⟩⟩⟩⟩⟩⟩⟩⟩⟩⟩⟩
theorem lw_p80 : lw_okq (⟨"MovingListModel", "idle", "(I)I"⟩, 23) := ⟨⟨by decide +kernel, by decide +kernel⟩, List.mem_of_getElem? (i := 933) (by decide +kernel), List.mem_of_getElem? (i := 1286) (by decide +kernel), List.mem_of_getElem? (i := 1287) (by decide +kernel)⟩
theorem lw_p81 : lw_okq (⟨"MovingListModel", "deepest", "()I"⟩, 23) := ⟨⟨by decide +kernel, by decide +kernel⟩, List.mem_of_getElem? (i := 933) (by decide +kernel), List.mem_of_getElem? (i := 1290) (by decide +kernel), List.mem_of_getElem? (i := 1291) (by decide +kernel)⟩
theorem lw_p82 : lw_okq (⟨"MovingListModel", "laysNames", "(I)V"⟩, 23) := ⟨⟨by decide +kernel, by decide +kernel⟩, List.mem_of_getElem? (i := 933) (by decide +kernel), List.mem_of_getElem? (i := 1302) (by decide +kernel), List.mem_of_getElem? (i := 1303) (by decide +kernel)⟩
theorem lw_p83 : lw_okq (⟨"MovingListModel", "laysFound", "(I)V"⟩, 23) := ⟨⟨by decide +kernel, by decide +kernel⟩, List.mem_of_getElem? (i := 933) (by decide +kernel), List.mem_of_getElem? (i := 1314) (by decide +kernel), List.mem_of_getElem? (i := 1315) (by decide +kernel)⟩
theorem lw_p84 : lw_okq (⟨"MovingListModel", "isListed", "(II)Z"⟩, 23) := ⟨⟨by decide +kernel, by decide +kernel⟩, List.mem_of_getElem? (i := 933) (by decide +kernel), List.mem_of_getElem? (i := 1326) (by decide +kernel), List.mem_of_getElem? (i := 1327) (by decide +kernel)⟩
theorem lw_p85 : lw_okq (⟨"MovingListModel", "placeFound", "(II)I"⟩, 23) := ⟨⟨by decide +kernel, by decide +kernel⟩, List.mem_of_getElem? (i := 933) (by decide +kernel), List.mem_of_getElem? (i := 1330) (by decide +kernel), List.mem_of_getElem? (i := 1331) (by decide +kernel)⟩
theorem lw_p86 : lw_okq (⟨"MovingListModel", "chances", "()Z"⟩, 23) := ⟨⟨by decide +kernel, by decide +kernel⟩, List.mem_of_getElem? (i := 933) (by decide +kernel), List.mem_of_getElem? (i := 1338) (by decide +kernel), List.mem_of_getElem? (i := 1339) (by decide +kernel)⟩
theorem lw_p87 : lw_okq (⟨"MovingListModel", "draw", "(I)I"⟩, 23) := ⟨⟨by decide +kernel, by decide +kernel⟩, List.mem_of_getElem? (i := 933) (by decide +kernel), List.mem_of_getElem? (i := 1342) (by decide +kernel), List.mem_of_getElem? (i := 1343) (by decide +kernel)⟩
theorem lw_p88 : lw_okq (⟨"MovingListModel", "puts", "(I)V"⟩, 23) := ⟨⟨by decide +kernel, by decide +kernel⟩, List.mem_of_getElem? (i := 933) (by decide +kernel), List.mem_of_getElem? (i := 1361) (by decide +kernel), List.mem_of_getElem? (i := 1362) (by decide +kernel)⟩
theorem lw_p89 : lw_okq (⟨"MovingListModel", "here", "()I"⟩, 23) := ⟨⟨by decide +kernel, by decide +kernel⟩, List.mem_of_getElem? (i := 933) (by decide +kernel), List.mem_of_getElem? (i := 1369) (by decide +kernel), List.mem_of_getElem? (i := 1370) (by decide +kernel)⟩
theorem lw_p90 : lw_okq (⟨"MovingListModel", "line", "()Z"⟩, 23) := ⟨⟨by decide +kernel, by decide +kernel⟩, List.mem_of_getElem? (i := 933) (by decide +kernel), List.mem_of_getElem? (i := 1373) (by decide +kernel), List.mem_of_getElem? (i := 1374) (by decide +kernel)⟩
theorem lw_p91 : lw_okq (⟨"MovingListModel", "whichHere", "()I"⟩, 23) := ⟨⟨by decide +kernel, by decide +kernel⟩, List.mem_of_getElem? (i := 933) (by decide +kernel), List.mem_of_getElem? (i := 1377) (by decide +kernel), List.mem_of_getElem? (i := 1378) (by decide +kernel)⟩
theorem lw_p92 : lw_okq (⟨"MovingListModel", "isWord", "(IIIIIII)Z"⟩, 23) := ⟨⟨by decide +kernel, by decide +kernel⟩, List.mem_of_getElem? (i := 933) (by decide +kernel), List.mem_of_getElem? (i := 1381) (by decide +kernel), List.mem_of_getElem? (i := 1382) (by decide +kernel)⟩
theorem lw_p93 : lw_okq (⟨"MovingListModel", "wordEnd", "()I"⟩, 23) := ⟨⟨by decide +kernel, by decide +kernel⟩, List.mem_of_getElem? (i := 933) (by decide +kernel), List.mem_of_getElem? (i := 1385) (by decide +kernel), List.mem_of_getElem? (i := 1386) (by decide +kernel)⟩
theorem lw_p94 : lw_okq (⟨"MovingListModel", "isSmall", "(I)Z"⟩, 23) := ⟨⟨by decide +kernel, by decide +kernel⟩, List.mem_of_getElem? (i := 933) (by decide +kernel), List.mem_of_getElem? (i := 1389) (by decide +kernel), List.mem_of_getElem? (i := 1390) (by decide +kernel)⟩
theorem lw_p95 : lw_okq (⟨"MovingListModel", "wrong", "(II)Z"⟩, 23) := ⟨⟨by decide +kernel, by decide +kernel⟩, List.mem_of_getElem? (i := 933) (by decide +kernel), List.mem_of_getElem? (i := 1393) (by decide +kernel), List.mem_of_getElem? (i := 1394) (by decide +kernel)⟩
def lw_privs_6 : List (MethodName × Nat) := [(⟨"MovingListModel", "idle", "(I)I"⟩, 23), (⟨"MovingListModel", "deepest", "()I"⟩, 23), (⟨"MovingListModel", "laysNames", "(I)V"⟩, 23), (⟨"MovingListModel", "laysFound", "(I)V"⟩, 23), (⟨"MovingListModel", "isListed", "(II)Z"⟩, 23), (⟨"MovingListModel", "placeFound", "(II)I"⟩, 23), (⟨"MovingListModel", "chances", "()Z"⟩, 23), (⟨"MovingListModel", "draw", "(I)I"⟩, 23), (⟨"MovingListModel", "puts", "(I)V"⟩, 23), (⟨"MovingListModel", "here", "()I"⟩, 23), (⟨"MovingListModel", "line", "()Z"⟩, 23), (⟨"MovingListModel", "whichHere", "()I"⟩, 23), (⟨"MovingListModel", "isWord", "(IIIIIII)Z"⟩, 23), (⟨"MovingListModel", "wordEnd", "()I"⟩, 23), (⟨"MovingListModel", "isSmall", "(I)Z"⟩, 23), (⟨"MovingListModel", "wrong", "(II)Z"⟩, 23)]
theorem lw_r6 : ∀ q ∈ lw_privs_6, lw_okq q := List.forall_mem_cons.mpr ⟨lw_p80, List.forall_mem_cons.mpr ⟨lw_p81, List.forall_mem_cons.mpr ⟨lw_p82, List.forall_mem_cons.mpr ⟨lw_p83, List.forall_mem_cons.mpr ⟨lw_p84, List.forall_mem_cons.mpr ⟨lw_p85, List.forall_mem_cons.mpr ⟨lw_p86, List.forall_mem_cons.mpr ⟨lw_p87, List.forall_mem_cons.mpr ⟨lw_p88, List.forall_mem_cons.mpr ⟨lw_p89, List.forall_mem_cons.mpr ⟨lw_p90, List.forall_mem_cons.mpr ⟨lw_p91, List.forall_mem_cons.mpr ⟨lw_p92, List.forall_mem_cons.mpr ⟨lw_p93, List.forall_mem_cons.mpr ⟨lw_p94, List.forall_mem_cons.mpr ⟨lw_p95, fun _ h => absurd h List.not_mem_nil⟩⟩⟩⟩⟩⟩⟩⟩⟩⟩⟩⟩⟩⟩⟩⟩
theorem lw_p96 : lw_okq (⟨"MovingListModel", "rest", "(I)Z"⟩, 23) := ⟨⟨by decide +kernel, by decide +kernel⟩, List.mem_of_getElem? (i := 933) (by decide +kernel), List.mem_of_getElem? (i := 1397) (by decide +kernel), List.mem_of_getElem? (i := 1398) (by decide +kernel)⟩
theorem lw_p97 : lw_okq (⟨"MovingListModel", "number", "(I)Z"⟩, 23) := ⟨⟨by decide +kernel, by decide +kernel⟩, List.mem_of_getElem? (i := 933) (by decide +kernel), List.mem_of_getElem? (i := 1401) (by decide +kernel), List.mem_of_getElem? (i := 1402) (by decide +kernel)⟩
theorem lw_p98 : lw_okq (⟨"MovingListModel", "letter", "(I)Z"⟩, 23) := ⟨⟨by decide +kernel, by decide +kernel⟩, List.mem_of_getElem? (i := 933) (by decide +kernel), List.mem_of_getElem? (i := 1405) (by decide +kernel), List.mem_of_getElem? (i := 1406) (by decide +kernel)⟩
theorem lw_p99 : lw_okq (⟨"MovingListModel", "does", "(I)Z"⟩, 23) := ⟨⟨by decide +kernel, by decide +kernel⟩, List.mem_of_getElem? (i := 933) (by decide +kernel), List.mem_of_getElem? (i := 1409) (by decide +kernel), List.mem_of_getElem? (i := 1410) (by decide +kernel)⟩
theorem lw_p100 : lw_okq (⟨"MovingListModel", "all", "()Z"⟩, 23) := ⟨⟨by decide +kernel, by decide +kernel⟩, List.mem_of_getElem? (i := 933) (by decide +kernel), List.mem_of_getElem? (i := 1417) (by decide +kernel), List.mem_of_getElem? (i := 1418) (by decide +kernel)⟩
theorem lw_p101 : lw_okq (⟨"MovingListModel", "madeAll", "()I"⟩, 23) := ⟨⟨by decide +kernel, by decide +kernel⟩, List.mem_of_getElem? (i := 933) (by decide +kernel), List.mem_of_getElem? (i := 1433) (by decide +kernel), List.mem_of_getElem? (i := 1434) (by decide +kernel)⟩
theorem lw_p102 : lw_okq (⟨"MovingListModel", "inRows", "(I)I"⟩, 23) := ⟨⟨by decide +kernel, by decide +kernel⟩, List.mem_of_getElem? (i := 933) (by decide +kernel), List.mem_of_getElem? (i := 1437) (by decide +kernel), List.mem_of_getElem? (i := 1438) (by decide +kernel)⟩
theorem lw_p103 : lw_okq (⟨"MovingListModel", "areOne", "()Z"⟩, 23) := ⟨⟨by decide +kernel, by decide +kernel⟩, List.mem_of_getElem? (i := 933) (by decide +kernel), List.mem_of_getElem? (i := 1441) (by decide +kernel), List.mem_of_getElem? (i := 1442) (by decide +kernel)⟩
theorem lw_p104 : lw_okq (⟨"MovingListModel", "missed", "()I"⟩, 23) := ⟨⟨by decide +kernel, by decide +kernel⟩, List.mem_of_getElem? (i := 933) (by decide +kernel), List.mem_of_getElem? (i := 1445) (by decide +kernel), List.mem_of_getElem? (i := 1446) (by decide +kernel)⟩
def lw_privs_7 : List (MethodName × Nat) := [(⟨"MovingListModel", "rest", "(I)Z"⟩, 23), (⟨"MovingListModel", "number", "(I)Z"⟩, 23), (⟨"MovingListModel", "letter", "(I)Z"⟩, 23), (⟨"MovingListModel", "does", "(I)Z"⟩, 23), (⟨"MovingListModel", "all", "()Z"⟩, 23), (⟨"MovingListModel", "madeAll", "()I"⟩, 23), (⟨"MovingListModel", "inRows", "(I)I"⟩, 23), (⟨"MovingListModel", "areOne", "()Z"⟩, 23), (⟨"MovingListModel", "missed", "()I"⟩, 23)]
theorem lw_r7 : ∀ q ∈ lw_privs_7, lw_okq q := List.forall_mem_cons.mpr ⟨lw_p96, List.forall_mem_cons.mpr ⟨lw_p97, List.forall_mem_cons.mpr ⟨lw_p98, List.forall_mem_cons.mpr ⟨lw_p99, List.forall_mem_cons.mpr ⟨lw_p100, List.forall_mem_cons.mpr ⟨lw_p101, List.forall_mem_cons.mpr ⟨lw_p102, List.forall_mem_cons.mpr ⟨lw_p103, List.forall_mem_cons.mpr ⟨lw_p104, fun _ h => absurd h List.not_mem_nil⟩⟩⟩⟩⟩⟩⟩⟩⟩
def lw_privs : List (MethodName × Nat) := lw_privs_1 ++ (lw_privs_2 ++ (lw_privs_3 ++ (lw_privs_4 ++ (lw_privs_5 ++ (lw_privs_6 ++ (lw_privs_7))))))
def lw_tbl : List Cond := k2_sels lw_privs ++ tables_1
theorem lw_privs_ok : ∀ q ∈ lw_privs, lw_okq q := by
  show ∀ q ∈ lw_privs_1 ++ (lw_privs_2 ++ (lw_privs_3 ++ (lw_privs_4 ++ (lw_privs_5 ++ (lw_privs_6 ++ (lw_privs_7)))))), lw_okq q
  exact List.forall_mem_append.mpr ⟨lw_r1, List.forall_mem_append.mpr ⟨lw_r2, List.forall_mem_append.mpr ⟨lw_r3, List.forall_mem_append.mpr ⟨lw_r4, List.forall_mem_append.mpr ⟨lw_r5, List.forall_mem_append.mpr ⟨lw_r6, lw_r7⟩⟩⟩⟩⟩⟩
-- ===== end of PART A; then your names; then what follows =====
def RX0 : String := "MovingList$1"
def TX0 : u_T := fun k => match k with
  | _ => ("", "", "", false)
def tyX0 : Nat → FieldType := fun k => match k with
  | _ => .int
abbrev wsX00 : List Cond := u_ws RX0 TX0 0
theorem nmX0 : ∀ a, a < 0 → ∀ b, b < 0 → a ≠ b → (TX0 a).2.1 ≠ (TX0 b).2.1 := by decide +kernel
theorem tyX0_ok : ∀ k, k < 0 → parseFieldDescriptor (TX0 k).2.2.1 = some (tyX0 k) := by decide +kernel
def RX1 : String := "MovingList$Broom"
def TX1 : u_T := fun k => match k with
  | 0 => ("MovingList$Broom", "floors", "[I", true)
  | 1 => ("MovingList$Broom", "dropped", "[I", true)
  | 2 => ("MovingList$Broom", "kept", "[I", true)
  | _ => ("MovingList$Broom", "goes", "[I", true)
def tyX1 : Nat → FieldType := fun k => match k with
  | 0 => .array .int
  | 1 => .array .int
  | 2 => .array .int
  | _ => .array .int
abbrev wsX10 : List Cond := u_ws RX1 TX1 4
theorem nmX1 : ∀ a, a < 4 → ∀ b, b < 4 → a ≠ b → (TX1 a).2.1 ≠ (TX1 b).2.1 := by decide +kernel
theorem tyX1_ok : ∀ k, k < 4 → parseFieldDescriptor (TX1 k).2.2.1 = some (tyX1 k) := by decide +kernel
abbrev cX1_init : ByteArray := prog_3_method_1_code
def yX1_init : MethodName := ⟨RX1, "<init>", "()V"⟩
abbrev cX1_choose : ByteArray := prog_3_method_2_code
def yX1_choose : MethodName := ⟨RX1, "choose", "(LMovingList$Group;I)I"⟩
abbrev cX1_prepare : ByteArray := prog_3_method_3_code
def yX1_prepare : MethodName := ⟨RX1, "prepare", "(LMovingList$Group;I)V"⟩
abbrev cX1_isSeen : ByteArray := prog_3_method_4_code
def yX1_isSeen : MethodName := ⟨RX1, "isSeen", "(I)Z"⟩
abbrev cX1_canGo : ByteArray := prog_3_method_5_code
def yX1_canGo : MethodName := ⟨RX1, "canGo", "(LMovingList$Log;LMovingList$Listing;I)Z"⟩
def RX2 : String := "MovingList$Deed"
def TX2 : u_T := fun k => match k with
  | _ => ("", "", "", false)
def tyX2 : Nat → FieldType := fun k => match k with
  | _ => .int
abbrev wsX20 : List Cond := u_ws RX2 TX2 0
theorem nmX2 : ∀ a, a < 0 → ∀ b, b < 0 → a ≠ b → (TX2 a).2.1 ≠ (TX2 b).2.1 := by decide +kernel
theorem tyX2_ok : ∀ k, k < 0 → parseFieldDescriptor (TX2 k).2.2.1 = some (tyX2 k) := by decide +kernel
def RX3 : String := "MovingList$Group"
def TX3 : u_T := fun k => match k with
  | 0 => ("MovingList$Group", "log", "LMovingList$Log;", true)
  | 1 => ("MovingList$Group", "sites", "[LMovingList$Site;", true)
  | _ => ("MovingList$Group", "lost", "I", false)
def tyX3 : Nat → FieldType := fun k => match k with
  | 0 => .object "MovingList$Log"
  | 1 => .array (.object "MovingList$Site")
  | _ => .int
abbrev wsX30 : List Cond := u_ws RX3 TX3 3
theorem nmX3 : ∀ a, a < 3 → ∀ b, b < 3 → a ≠ b → (TX3 a).2.1 ≠ (TX3 b).2.1 := by decide +kernel
theorem tyX3_ok : ∀ k, k < 3 → parseFieldDescriptor (TX3 k).2.2.1 = some (tyX3 k) := by decide +kernel
abbrev cX3_init : ByteArray := prog_5_method_1_code
def yX3_init : MethodName := ⟨RX3, "<init>", "()V"⟩
abbrev cX3_clear : ByteArray := prog_5_method_2_code
def yX3_clear : MethodName := ⟨RX3, "clear", "(I)V"⟩
abbrev cX3_copy : ByteArray := prog_5_method_3_code
def yX3_copy : MethodName := ⟨RX3, "copy", "(LMovingList$Group;)V"⟩
abbrev cX3_isSite : ByteArray := prog_5_method_4_code
def yX3_isSite : MethodName := ⟨RX3, "isSite", "(I)Z"⟩
abbrev cX3_make : ByteArray := prog_5_method_5_code
def yX3_make : MethodName := ⟨RX3, "make", "(IIIII)I"⟩
abbrev cX3_floorOf : ByteArray := prog_5_method_6_code
def yX3_floorOf : MethodName := ⟨RX3, "floorOf", "(II)I"⟩
def RX4 : String := "MovingList$Listing"
def TX4 : u_T := fun k => match k with
  | 0 => ("MovingList$Listing", "next", "[I", true)
  | 1 => ("MovingList$Listing", "spot", "[I", true)
  | 2 => ("MovingList$Listing", "lettered", "[I", true)
  | 3 => ("MovingList$Listing", "gone", "[I", true)
  | _ => ("MovingList$Listing", "moves", "[I", true)
def tyX4 : Nat → FieldType := fun k => match k with
  | 0 => .array .int
  | 1 => .array .int
  | 2 => .array .int
  | 3 => .array .int
  | _ => .array .int
abbrev wsX40 : List Cond := u_ws RX4 TX4 5
theorem nmX4 : ∀ a, a < 5 → ∀ b, b < 5 → a ≠ b → (TX4 a).2.1 ≠ (TX4 b).2.1 := by decide +kernel
theorem tyX4_ok : ∀ k, k < 5 → parseFieldDescriptor (TX4 k).2.2.1 = some (tyX4 k) := by decide +kernel
abbrev cX4_init : ByteArray := prog_6_method_1_code
def yX4_init : MethodName := ⟨RX4, "<init>", "()V"⟩
abbrev cX4_clear : ByteArray := prog_6_method_2_code
def yX4_clear : MethodName := ⟨RX4, "clear", "()V"⟩
abbrev cX4_copy : ByteArray := prog_6_method_3_code
def yX4_copy : MethodName := ⟨RX4, "copy", "(LMovingList$Listing;)V"⟩
abbrev cX4_build : ByteArray := prog_6_method_4_code
def yX4_build : MethodName := ⟨RX4, "build", "(LMovingList$Log;[II)V"⟩
abbrev cX4_take : ByteArray := prog_6_method_5_code
def yX4_take : MethodName := ⟨RX4, "take", "(LMovingList$Log;I)V"⟩
abbrev cX4_link : ByteArray := prog_6_method_6_code
def yX4_link : MethodName := ⟨RX4, "link", "(LMovingList$Log;I)V"⟩
abbrev cX4_isThere : ByteArray := prog_6_method_7_code
def yX4_isThere : MethodName := ⟨RX4, "isThere", "(I)Z"⟩
abbrev cX4_shows : ByteArray := prog_6_method_8_code
def yX4_shows : MethodName := ⟨RX4, "shows", "(I)Z"⟩
abbrev cX4_letterOf : ByteArray := prog_6_method_9_code
def yX4_letterOf : MethodName := ⟨RX4, "letterOf", "(LMovingList$Log;I)I"⟩
abbrev cX4_places : ByteArray := prog_6_method_10_code
def yX4_places : MethodName := ⟨RX4, "places", "([I)I"⟩
abbrev cX4_elements : ByteArray := prog_6_method_11_code
def yX4_elements : MethodName := ⟨RX4, "elements", "(LMovingList$Log;[I)I"⟩
abbrev cX4_removePlaces : ByteArray := prog_6_method_12_code
def yX4_removePlaces : MethodName := ⟨RX4, "removePlaces", "([I)V"⟩
def RX5 : String := "MovingList$Log"
def TX5 : u_T := fun k => match k with
  | 0 => ("MovingList$Log", "made", "[I", true)
  | 1 => ("MovingList$Log", "kind", "[I", true)
  | 2 => ("MovingList$Log", "stamp", "[I", true)
  | 3 => ("MovingList$Log", "element", "[I", true)
  | 4 => ("MovingList$Log", "behind", "[I", true)
  | 5 => ("MovingList$Log", "letter", "[I", true)
  | 6 => ("MovingList$Log", "needed", "[I", true)
  | 7 => ("MovingList$Log", "byTime", "[I", true)
  | 8 => ("MovingList$Log", "sites", "I", false)
  | _ => ("MovingList$Log", "total", "I", false)
def tyX5 : Nat → FieldType := fun k => match k with
  | 0 => .array .int
  | 1 => .array .int
  | 2 => .array .int
  | 3 => .array .int
  | 4 => .array .int
  | 5 => .array .int
  | 6 => .array .int
  | 7 => .array .int
  | 8 => .int
  | _ => .int
abbrev wsX50 : List Cond := u_ws RX5 TX5 10
theorem nmX5 : ∀ a, a < 10 → ∀ b, b < 10 → a ≠ b → (TX5 a).2.1 ≠ (TX5 b).2.1 := by decide +kernel
theorem tyX5_ok : ∀ k, k < 10 → parseFieldDescriptor (TX5 k).2.2.1 = some (tyX5 k) := by decide +kernel
abbrev cX5_init : ByteArray := prog_7_method_1_code
def yX5_init : MethodName := ⟨RX5, "<init>", "()V"⟩
abbrev cX5_clear : ByteArray := prog_7_method_2_code
def yX5_clear : MethodName := ⟨RX5, "clear", "(I)V"⟩
abbrev cX5_copy : ByteArray := prog_7_method_3_code
def yX5_copy : MethodName := ⟨RX5, "copy", "(LMovingList$Log;)V"⟩
abbrev cX5_slotOf : ByteArray := prog_7_method_4_code
def yX5_slotOf : MethodName := ⟨RX5, "slotOf", "(I)I"⟩
abbrev cX5_lastOf : ByteArray := prog_7_method_5_code
def yX5_lastOf : MethodName := ⟨RX5, "lastOf", "(I)I"⟩
abbrev cX5_isMade : ByteArray := prog_7_method_6_code
def yX5_isMade : MethodName := ⟨RX5, "isMade", "(I)Z"⟩
abbrev cX5_timeOf : ByteArray := prog_7_method_7_code
def yX5_timeOf : MethodName := ⟨RX5, "timeOf", "(I)I"⟩
abbrev cX5_isNeeded : ByteArray := prog_7_method_8_code
def yX5_isNeeded : MethodName := ⟨RX5, "isNeeded", "(II)Z"⟩
abbrev cX5_open : ByteArray := prog_7_method_9_code
def yX5_open : MethodName := ⟨RX5, "open", "(II[I)I"⟩
def RX6 : String := "MovingList$Row"
def TX6 : u_T := fun k => match k with
  | 0 => ("MovingList$Row", "items", "[I", true)
  | _ => ("MovingList$Row", "size", "I", false)
def tyX6 : Nat → FieldType := fun k => match k with
  | 0 => .array .int
  | _ => .int
abbrev wsX60 : List Cond := u_ws RX6 TX6 2
theorem nmX6 : ∀ a, a < 2 → ∀ b, b < 2 → a ≠ b → (TX6 a).2.1 ≠ (TX6 b).2.1 := by decide +kernel
theorem tyX6_ok : ∀ k, k < 2 → parseFieldDescriptor (TX6 k).2.2.1 = some (tyX6 k) := by decide +kernel
abbrev cX6_init : ByteArray := prog_8_method_1_code
def yX6_init : MethodName := ⟨RX6, "<init>", "(I)V"⟩
abbrev cX6_copy : ByteArray := prog_8_method_2_code
def yX6_copy : MethodName := ⟨RX6, "copy", "(LMovingList$Row;)V"⟩
abbrev cX6_add : ByteArray := prog_8_method_3_code
def yX6_add : MethodName := ⟨RX6, "add", "(I)Z"⟩
abbrev cX6_removeAt : ByteArray := prog_8_method_4_code
def yX6_removeAt : MethodName := ⟨RX6, "removeAt", "(I)V"⟩
def RX7 : String := "MovingList$Script"
def TX7 : u_T := fun k => match k with
  | 0 => ("MovingList$Script", "steps", "[I", true)
  | 1 => ("MovingList$Script", "deeds", "I", false)
  | 2 => ("MovingList$Script", "fault", "I", false)
  | 3 => ("MovingList$Script", "text", "[B", false)
  | 4 => ("MovingList$Script", "end", "I", false)
  | _ => ("MovingList$Script", "at", "I", false)
def tyX7 : Nat → FieldType := fun k => match k with
  | 0 => .array .int
  | 1 => .int
  | 2 => .int
  | 3 => .array .byte
  | 4 => .int
  | _ => .int
abbrev wsX70 : List Cond := u_ws RX7 TX7 6
theorem nmX7 : ∀ a, a < 6 → ∀ b, b < 6 → a ≠ b → (TX7 a).2.1 ≠ (TX7 b).2.1 := by decide +kernel
theorem tyX7_ok : ∀ k, k < 6 → parseFieldDescriptor (TX7 k).2.2.1 = some (tyX7 k) := by decide +kernel
abbrev cX7_init : ByteArray := prog_9_method_1_code
def yX7_init : MethodName := ⟨RX7, "<init>", "()V"⟩
abbrev cX7_read : ByteArray := prog_9_method_2_code
def yX7_read : MethodName := ⟨RX7, "read", "([BI)Z"⟩
abbrev cX7_readDeed : ByteArray := prog_9_method_3_code
def yX7_readDeed : MethodName := ⟨RX7, "readDeed", "()Z"⟩
abbrev cX7_readNumber : ByteArray := prog_9_method_4_code
def yX7_readNumber : MethodName := ⟨RX7, "readNumber", "(I)Z"⟩
abbrev cX7_readLetter : ByteArray := prog_9_method_5_code
def yX7_readLetter : MethodName := ⟨RX7, "readLetter", "(I)Z"⟩
abbrev cX7_deedOf : ByteArray := prog_9_method_6_code
def yX7_deedOf : MethodName := ⟨RX7, "deedOf", "(I)I"⟩
abbrev cX7_isWord : ByteArray := prog_9_method_7_code
def yX7_isWord : MethodName := ⟨RX7, "isWord", "(Ljava/lang/String;I)Z"⟩
abbrev cX7_skipBlanks : ByteArray := prog_9_method_8_code
def yX7_skipBlanks : MethodName := ⟨RX7, "skipBlanks", "()V"⟩
abbrev cX7_skipWord : ByteArray := prog_9_method_9_code
def yX7_skipWord : MethodName := ⟨RX7, "skipWord", "()V"⟩
abbrev cX7_byteAt : ByteArray := prog_9_method_10_code
def yX7_byteAt : MethodName := ⟨RX7, "byteAt", "(I)I"⟩
abbrev cX7_isDigit : ByteArray := prog_9_method_11_code
def yX7_isDigit : MethodName := ⟨RX7, "isDigit", "(I)Z"⟩
abbrev cX7_isSmallLetter : ByteArray := prog_9_method_12_code
def yX7_isSmallLetter : MethodName := ⟨RX7, "isSmallLetter", "(I)Z"⟩
abbrev cX7_fail : ByteArray := prog_9_method_13_code
def yX7_fail : MethodName := ⟨RX7, "fail", "(II)Z"⟩
def RX8 : String := "MovingList$Site"
def TX8 : u_T := fun k => match k with
  | 0 => ("MovingList$Site", "vector", "[I", true)
  | 1 => ("MovingList$Site", "known", "[I", true)
  | 2 => ("MovingList$Site", "waiting", "LMovingList$Row;", true)
  | 3 => ("MovingList$Site", "held", "LMovingList$Row;", true)
  | 4 => ("MovingList$Site", "listing", "LMovingList$Listing;", true)
  | _ => ("MovingList$Site", "clock", "I", false)
def tyX8 : Nat → FieldType := fun k => match k with
  | 0 => .array .int
  | 1 => .array .int
  | 2 => .object "MovingList$Row"
  | 3 => .object "MovingList$Row"
  | 4 => .object "MovingList$Listing"
  | _ => .int
abbrev wsX80 : List Cond := u_ws RX8 TX8 6
theorem nmX8 : ∀ a, a < 6 → ∀ b, b < 6 → a ≠ b → (TX8 a).2.1 ≠ (TX8 b).2.1 := by decide +kernel
theorem tyX8_ok : ∀ k, k < 6 → parseFieldDescriptor (TX8 k).2.2.1 = some (tyX8 k) := by decide +kernel
abbrev cX8_init : ByteArray := prog_10_method_1_code
def yX8_init : MethodName := ⟨RX8, "<init>", "()V"⟩
abbrev cX8_clear : ByteArray := prog_10_method_2_code
def yX8_clear : MethodName := ⟨RX8, "clear", "()V"⟩
abbrev cX8_copy : ByteArray := prog_10_method_3_code
def yX8_copy : MethodName := ⟨RX8, "copy", "(LMovingList$Site;)V"⟩
abbrev cX8_hasDone : ByteArray := prog_10_method_4_code
def yX8_hasDone : MethodName := ⟨RX8, "hasDone", "(I)Z"⟩
abbrev cX8_learn : ByteArray := prog_10_method_5_code
def yX8_learn : MethodName := ⟨RX8, "learn", "(I[I)V"⟩
abbrev cX8_perform : ByteArray := prog_10_method_6_code
def yX8_perform : MethodName := ⟨RX8, "perform", "(LMovingList$Log;I)V"⟩
abbrev cX8_isReady : ByteArray := prog_10_method_7_code
def yX8_isReady : MethodName := ⟨RX8, "isReady", "(LMovingList$Log;I)Z"⟩
abbrev cX8_receive : ByteArray := prog_10_method_8_code
def yX8_receive : MethodName := ⟨RX8, "receive", "(LMovingList$Log;I)I"⟩
abbrev cX8_catchUp : ByteArray := prog_10_method_9_code
def yX8_catchUp : MethodName := ⟨RX8, "catchUp", "(LMovingList$Log;LMovingList$Site;)I"⟩
abbrev cX8_performHeld : ByteArray := prog_10_method_10_code
def yX8_performHeld : MethodName := ⟨RX8, "performHeld", "(LMovingList$Log;)I"⟩
abbrev cX8_firstReady : ByteArray := prog_10_method_11_code
def yX8_firstReady : MethodName := ⟨RX8, "firstReady", "(LMovingList$Log;)I"⟩
def RX9 : String := "MovingList"
def TX9 : u_T := fun k => match k with
  | 0 => ("MovingList", "group", "LMovingList$Group;", true)
  | 1 => ("MovingList", "images", "[LMovingList$Group;", true)
  | 2 => ("MovingList", "imaged", "[Z", true)
  | 3 => ("MovingList", "spare", "LMovingList$Listing;", true)
  | 4 => ("MovingList", "broom", "LMovingList$Broom;", true)
  | 5 => ("MovingList", "reader", "LMovingList$Script;", true)
  | 6 => ("MovingList", "tape", "[B", true)
  | 7 => ("MovingList", "taped", "I", false)
  | 8 => ("MovingList", "drawn", "I", false)
  | 9 => ("MovingList", "rowOne", "[I", true)
  | 10 => ("MovingList", "rowTwo", "[I", true)
  | _ => ("MovingList", "marks", "[I", true)
def tyX9 : Nat → FieldType := fun k => match k with
  | 0 => .object "MovingList$Group"
  | 1 => .array (.object "MovingList$Group")
  | 2 => .array .boolean
  | 3 => .object "MovingList$Listing"
  | 4 => .object "MovingList$Broom"
  | 5 => .object "MovingList$Script"
  | 6 => .array .byte
  | 7 => .int
  | 8 => .int
  | 9 => .array .int
  | 10 => .array .int
  | _ => .array .int
abbrev wsX90 : List Cond := u_ws RX9 TX9 12
theorem nmX9 : ∀ a, a < 12 → ∀ b, b < 12 → a ≠ b → (TX9 a).2.1 ≠ (TX9 b).2.1 := by decide +kernel
theorem tyX9_ok : ∀ k, k < 12 → parseFieldDescriptor (TX9 k).2.2.1 = some (tyX9 k) := by decide +kernel
abbrev cX9_init : ByteArray := prog_1_method_1_code
def yX9_init : MethodName := ⟨RX9, "<init>", "()V"⟩
abbrev cX9_sites : ByteArray := prog_1_method_2_code
def yX9_sites : MethodName := ⟨RX9, "sites", "(I)Z"⟩
abbrev cX9_insert : ByteArray := prog_1_method_3_code
def yX9_insert : MethodName := ⟨RX9, "insert", "(III)I"⟩
abbrev cX9_move : ByteArray := prog_1_method_4_code
def yX9_move : MethodName := ⟨RX9, "move", "(III)I"⟩
abbrev cX9_drop : ByteArray := prog_1_method_5_code
def yX9_drop : MethodName := ⟨RX9, "drop", "(II)I"⟩
abbrev cX9_change : ByteArray := prog_1_method_6_code
def yX9_change : MethodName := ⟨RX9, "change", "(III)I"⟩
abbrev cX9_revert : ByteArray := prog_1_method_7_code
def yX9_revert : MethodName := ⟨RX9, "revert", "(I)I"⟩
abbrev cX9_chance : ByteArray := prog_1_method_8_code
def yX9_chance : MethodName := ⟨RX9, "chance", "(II)I"⟩
abbrev cX9_deliver : ByteArray := prog_1_method_9_code
def yX9_deliver : MethodName := ⟨RX9, "deliver", "(II)I"⟩
abbrev cX9_lose : ByteArray := prog_1_method_10_code
def yX9_lose : MethodName := ⟨RX9, "lose", "(II)I"⟩
abbrev cX9_twice : ByteArray := prog_1_method_11_code
def yX9_twice : MethodName := ⟨RX9, "twice", "(II)I"⟩
abbrev cX9_sync : ByteArray := prog_1_method_12_code
def yX9_sync : MethodName := ⟨RX9, "sync", "(II)I"⟩
abbrev cX9_tell : ByteArray := prog_1_method_13_code
def yX9_tell : MethodName := ⟨RX9, "tell", "(II)Z"⟩
abbrev cX9_sweep : ByteArray := prog_1_method_14_code
def yX9_sweep : MethodName := ⟨RX9, "sweep", "(I)I"⟩
abbrev cX9_length : ByteArray := prog_1_method_15_code
def yX9_length : MethodName := ⟨RX9, "length", "(I)I"⟩
abbrev cX9_at : ByteArray := prog_1_method_16_code
def yX9_at : MethodName := ⟨RX9, "at", "(III)I"⟩
abbrev cX9_index : ByteArray := prog_1_method_17_code
def yX9_index : MethodName := ⟨RX9, "index", "(II)I"⟩
abbrev cX9_vector : ByteArray := prog_1_method_18_code
def yX9_vector : MethodName := ⟨RX9, "vector", "(II)I"⟩
abbrev cX9_knows : ByteArray := prog_1_method_19_code
def yX9_knows : MethodName := ⟨RX9, "knows", "(III)I"⟩
abbrev cX9_floor : ByteArray := prog_1_method_20_code
def yX9_floor : MethodName := ⟨RX9, "floor", "(II)I"⟩
abbrev cX9_post : ByteArray := prog_1_method_21_code
def yX9_post : MethodName := ⟨RX9, "post", "(III)I"⟩
abbrev cX9_op : ByteArray := prog_1_method_22_code
def yX9_op : MethodName := ⟨RX9, "op", "(II)I"⟩
abbrev cX9_needs : ByteArray := prog_1_method_23_code
def yX9_needs : MethodName := ⟨RX9, "needs", "(II)I"⟩
abbrev cX9_ahead : ByteArray := prog_1_method_24_code
def yX9_ahead : MethodName := ⟨RX9, "ahead", "(II)I"⟩
abbrev cX9_found : ByteArray := prog_1_method_25_code
def yX9_found : MethodName := ⟨RX9, "found", "(II)I"⟩
abbrev cX9_rivals : ByteArray := prog_1_method_26_code
def yX9_rivals : MethodName := ⟨RX9, "rivals", "(II)I"⟩
abbrev cX9_has : ByteArray := prog_1_method_27_code
def yX9_has : MethodName := ⟨RX9, "has", "(II)Z"⟩
abbrev cX9_count : ByteArray := prog_1_method_28_code
def yX9_count : MethodName := ⟨RX9, "count", "(II)I"⟩
abbrev cX9_place : ByteArray := prog_1_method_29_code
def yX9_place : MethodName := ⟨RX9, "place", "(II)I"⟩
abbrev cX9_unlike : ByteArray := prog_1_method_30_code
def yX9_unlike : MethodName := ⟨RX9, "unlike", "(II)I"⟩
abbrev cX9_edits : ByteArray := prog_1_method_31_code
def yX9_edits : MethodName := ⟨RX9, "edits", "(II)I"⟩
abbrev cX9_settled : ByteArray := prog_1_method_32_code
def yX9_settled : MethodName := ⟨RX9, "settled", "(II)I"⟩
abbrev cX9_all : ByteArray := prog_1_method_33_code
def yX9_all : MethodName := ⟨RX9, "all", "(I)I"⟩
abbrev cX9_feed : ByteArray := prog_1_method_34_code
def yX9_feed : MethodName := ⟨RX9, "feed", "(IIIII)I"⟩
abbrev cX9_script : ByteArray := prog_1_method_35_code
def yX9_script : MethodName := ⟨RX9, "script", "(I)I"⟩
abbrev cX9_image : ByteArray := prog_1_method_36_code
def yX9_image : MethodName := ⟨RX9, "image", "(I)Z"⟩
abbrev cX9_back : ByteArray := prog_1_method_37_code
def yX9_back : MethodName := ⟨RX9, "back", "(I)Z"⟩
abbrev cX9_isLetter : ByteArray := prog_1_method_38_code
def yX9_isLetter : MethodName := ⟨RX9, "isLetter", "(I)Z"⟩
abbrev cX9_siteOf : ByteArray := prog_1_method_39_code
def yX9_siteOf : MethodName := ⟨RX9, "siteOf", "(I)I"⟩
abbrev cX9_numberOf : ByteArray := prog_1_method_40_code
def yX9_numberOf : MethodName := ⟨RX9, "numberOf", "(I)I"⟩
abbrev cX9_nameOf : ByteArray := prog_1_method_41_code
def yX9_nameOf : MethodName := ⟨RX9, "nameOf", "(I)I"⟩
abbrev cX9_nameInRow : ByteArray := prog_1_method_42_code
def yX9_nameInRow : MethodName := ⟨RX9, "nameInRow", "([III)I"⟩
abbrev cX9_find : ByteArray := prog_1_method_43_code
def yX9_find : MethodName := ⟨RX9, "find", "(I[II)I"⟩
abbrev cX9_showList : ByteArray := prog_1_method_44_code
def yX9_showList : MethodName := ⟨RX9, "showList", "(I[I)I"⟩
abbrev cX9_spotOf : ByteArray := prog_1_method_45_code
def yX9_spotOf : MethodName := ⟨RX9, "spotOf", "(II)I"⟩
abbrev cX9_elementAt : ByteArray := prog_1_method_46_code
def yX9_elementAt : MethodName := ⟨RX9, "elementAt", "(II)I"⟩
abbrev cX9_waitingAt : ByteArray := prog_1_method_47_code
def yX9_waitingAt : MethodName := ⟨RX9, "waitingAt", "(II)I"⟩
abbrev cX9_showFound : ByteArray := prog_1_method_48_code
def yX9_showFound : MethodName := ⟨RX9, "showFound", "(I)V"⟩
abbrev cX9_placeFoundAhead : ByteArray := prog_1_method_49_code
def yX9_placeFoundAhead : MethodName := ⟨RX9, "placeFoundAhead", "(II)I"⟩
abbrev cX9_draw : ByteArray := prog_1_method_50_code
def yX9_draw : MethodName := ⟨RX9, "draw", "(I)I"⟩
abbrev cX9_takeChance : ByteArray := prog_1_method_51_code
def yX9_takeChance : MethodName := ⟨RX9, "takeChance", "()I"⟩
abbrev cX9_gatherRivals : ByteArray := prog_1_method_52_code
def yX9_gatherRivals : MethodName := ⟨RX9, "gatherRivals", "(I[I)I"⟩
abbrev cX9_markUnforgotten : ByteArray := prog_1_method_53_code
def yX9_markUnforgotten : MethodName := ⟨RX9, "markUnforgotten", "(LMovingList$Site;)V"⟩
abbrev cX9_countElements : ByteArray := prog_1_method_54_code
def yX9_countElements : MethodName := ⟨RX9, "countElements", "(LMovingList$Site;Z)I"⟩
abbrev cX9_countPastMoves : ByteArray := prog_1_method_55_code
def yX9_countPastMoves : MethodName := ⟨RX9, "countPastMoves", "(LMovingList$Site;)I"⟩
abbrev cX9_deepest : ByteArray := prog_1_method_56_code
def yX9_deepest : MethodName := ⟨RX9, "deepest", "(LMovingList$Listing;)I"⟩
abbrev cX9_longestCommon : ByteArray := prog_1_method_57_code
def yX9_longestCommon : MethodName := ⟨RX9, "longestCommon", "(II)I"⟩
abbrev cX9_countWaiting : ByteArray := prog_1_method_58_code
def yX9_countWaiting : MethodName := ⟨RX9, "countWaiting", "()I"⟩
abbrev cX9_countHeld : ByteArray := prog_1_method_59_code
def yX9_countHeld : MethodName := ⟨RX9, "countHeld", "()I"⟩
abbrev cX9_countUnfinished : ByteArray := prog_1_method_60_code
def yX9_countUnfinished : MethodName := ⟨RX9, "countUnfinished", "()I"⟩
abbrev cX9_allShowOneList : ByteArray := prog_1_method_61_code
def yX9_allShowOneList : MethodName := ⟨RX9, "allShowOneList", "()Z"⟩
abbrev cX9_showsSame : ByteArray := prog_1_method_62_code
def yX9_showsSame : MethodName := ⟨RX9, "showsSame", "(II)Z"⟩
abbrev cX9_feedNumber : ByteArray := prog_1_method_63_code
def yX9_feedNumber : MethodName := ⟨RX9, "feedNumber", "(I)V"⟩
abbrev cX9_doDeed : ByteArray := prog_1_method_64_code
def yX9_doDeed : MethodName := ⟨RX9, "doDeed", "(I)Z"⟩
abbrev cX9_deliverAll : ByteArray := prog_1_method_65_code
def yX9_deliverAll : MethodName := ⟨RX9, "deliverAll", "()V"⟩
def RX10 : String := "MovingListModel"
def TX10 : u_T := fun k => match k with
  | 0 => ("MovingListModel", "thrown", "I", false)
  | 1 => ("MovingListModel", "m", "[I", true)
  | 2 => ("MovingListModel", "images", "[I", true)
  | 3 => ("MovingListModel", "imaged", "I", false)
  | 4 => ("MovingListModel", "foundBy", "I", false)
  | 5 => ("MovingListModel", "order", "[I", true)
  | 6 => ("MovingListModel", "depth", "[I", true)
  | 7 => ("MovingListModel", "orderMany", "I", false)
  | 8 => ("MovingListModel", "list", "[I", true)
  | 9 => ("MovingListModel", "listMany", "I", false)
  | 10 => ("MovingListModel", "aside", "[I", true)
  | 11 => ("MovingListModel", "names", "[I", true)
  | 12 => ("MovingListModel", "signs", "[I", true)
  | 13 => ("MovingListModel", "nameMany", "I", false)
  | 14 => ("MovingListModel", "x", "I", false)
  | 15 => ("MovingListModel", "alike", "[I", true)
  | 16 => ("MovingListModel", "tape", "[B", true)
  | 17 => ("MovingListModel", "taped", "I", false)
  | 18 => ("MovingListModel", "size", "I", false)
  | 19 => ("MovingListModel", "p", "I", false)
  | 20 => ("MovingListModel", "fault", "I", false)
  | 21 => ("MovingListModel", "deed", "[I", true)
  | _ => ("MovingListModel", "deeds", "I", false)
def tyX10 : Nat → FieldType := fun k => match k with
  | 0 => .int
  | 1 => .array .int
  | 2 => .array .int
  | 3 => .int
  | 4 => .int
  | 5 => .array .int
  | 6 => .array .int
  | 7 => .int
  | 8 => .array .int
  | 9 => .int
  | 10 => .array .int
  | 11 => .array .int
  | 12 => .array .int
  | 13 => .int
  | 14 => .int
  | 15 => .array .int
  | 16 => .array .byte
  | 17 => .int
  | 18 => .int
  | 19 => .int
  | 20 => .int
  | 21 => .array .int
  | _ => .int
abbrev wsX100 : List Cond := u_ws RX10 TX10 23
theorem nmX10 : ∀ a, a < 23 → ∀ b, b < 23 → a ≠ b → (TX10 a).2.1 ≠ (TX10 b).2.1 := by decide +kernel
theorem tyX10_ok : ∀ k, k < 23 → parseFieldDescriptor (TX10 k).2.2.1 = some (tyX10 k) := by decide +kernel
abbrev cX10_init : ByteArray := prog_12_method_2_code
def yX10_init : MethodName := ⟨RX10, "<init>", "()V"⟩
abbrev cX10_within : ByteArray := prog_12_method_3_code
def yX10_within : MethodName := ⟨RX10, "within", "(III)Z"⟩
abbrev cX10_begins : ByteArray := prog_12_method_4_code
def yX10_begins : MethodName := ⟨RX10, "begins", "(I)V"⟩
abbrev cX10_sites : ByteArray := prog_12_method_5_code
def yX10_sites : MethodName := ⟨RX10, "sites", "(I)Z"⟩
abbrev cX10_isSite : ByteArray := prog_12_method_6_code
def yX10_isSite : MethodName := ⟨RX10, "isSite", "(I)Z"⟩
abbrev cX10_at : ByteArray := prog_12_method_7_code
def yX10_at : MethodName := ⟨RX10, "at", "(II)I"⟩
abbrev cX10_of : ByteArray := prog_12_method_8_code
def yX10_of : MethodName := ⟨RX10, "of", "(II)I"⟩
abbrev cX10_nameOf : ByteArray := prog_12_method_9_code
def yX10_nameOf : MethodName := ⟨RX10, "nameOf", "(I)I"⟩
abbrev cX10_opOf : ByteArray := prog_12_method_10_code
def yX10_opOf : MethodName := ⟨RX10, "opOf", "(I)I"⟩
abbrev cX10_told : ByteArray := prog_12_method_11_code
def yX10_told : MethodName := ⟨RX10, "told", "(II)I"⟩
abbrev cX10_siteOf : ByteArray := prog_12_method_12_code
def yX10_siteOf : MethodName := ⟨RX10, "siteOf", "(I)I"⟩
abbrev cX10_isMade : ByteArray := prog_12_method_13_code
def yX10_isMade : MethodName := ⟨RX10, "isMade", "(I)Z"⟩
abbrev cX10_isDone : ByteArray := prog_12_method_14_code
def yX10_isDone : MethodName := ⟨RX10, "isDone", "(II)Z"⟩
abbrev cX10_isLater : ByteArray := prog_12_method_15_code
def yX10_isLater : MethodName := ⟨RX10, "isLater", "(II)Z"⟩
abbrev cX10_latest : ByteArray := prog_12_method_16_code
def yX10_latest : MethodName := ⟨RX10, "latest", "(IIII)I"⟩
abbrev cX10_placeOf : ByteArray := prog_12_method_17_code
def yX10_placeOf : MethodName := ⟨RX10, "placeOf", "(II)I"⟩
abbrev cX10_isGone : ByteArray := prog_12_method_18_code
def yX10_isGone : MethodName := ⟨RX10, "isGone", "(II)Z"⟩
abbrev cX10_isSwept : ByteArray := prog_12_method_19_code
def yX10_isSwept : MethodName := ⟨RX10, "isSwept", "(II)Z"⟩
abbrev cX10_isPlace : ByteArray := prog_12_method_20_code
def yX10_isPlace : MethodName := ⟨RX10, "isPlace", "(II)Z"⟩
abbrev cX10_behind : ByteArray := prog_12_method_21_code
def yX10_behind : MethodName := ⟨RX10, "behind", "(II)I"⟩
abbrev cX10_laysBehind : ByteArray := prog_12_method_22_code
def yX10_laysBehind : MethodName := ⟨RX10, "laysBehind", "(III)V"⟩
abbrev cX10_laysOrder : ByteArray := prog_12_method_23_code
def yX10_laysOrder : MethodName := ⟨RX10, "laysOrder", "(I)V"⟩
abbrev cX10_laysList : ByteArray := prog_12_method_24_code
def yX10_laysList : MethodName := ⟨RX10, "laysList", "(I)V"⟩
abbrev cX10_elementAt : ByteArray := prog_12_method_25_code
def yX10_elementAt : MethodName := ⟨RX10, "elementAt", "(I)I"⟩
abbrev cX10_letterOf : ByteArray := prog_12_method_26_code
def yX10_letterOf : MethodName := ⟨RX10, "letterOf", "(II)I"⟩
abbrev cX10_posts : ByteArray := prog_12_method_27_code
def yX10_posts : MethodName := ⟨RX10, "posts", "(II)V"⟩
abbrev cX10_makes : ByteArray := prog_12_method_28_code
def yX10_makes : MethodName := ⟨RX10, "makes", "(IIIII)I"⟩
abbrev cX10_canMake : ByteArray := prog_12_method_29_code
def yX10_canMake : MethodName := ⟨RX10, "canMake", "(I)Z"⟩
abbrev cX10_placeAhead : ByteArray := prog_12_method_30_code
def yX10_placeAhead : MethodName := ⟨RX10, "placeAhead", "(II)I"⟩
abbrev cX10_insert : ByteArray := prog_12_method_31_code
def yX10_insert : MethodName := ⟨RX10, "insert", "(III)I"⟩
abbrev cX10_move : ByteArray := prog_12_method_32_code
def yX10_move : MethodName := ⟨RX10, "move", "(III)I"⟩
abbrev cX10_drop : ByteArray := prog_12_method_33_code
def yX10_drop : MethodName := ⟨RX10, "drop", "(II)I"⟩
abbrev cX10_change : ByteArray := prog_12_method_34_code
def yX10_change : MethodName := ⟨RX10, "change", "(III)I"⟩
abbrev cX10_canBe : ByteArray := prog_12_method_35_code
def yX10_canBe : MethodName := ⟨RX10, "canBe", "(II)Z"⟩
abbrev cX10_isDoneNow : ByteArray := prog_12_method_36_code
def yX10_isDoneNow : MethodName := ⟨RX10, "isDoneNow", "(II)V"⟩
abbrev cX10_takesOut : ByteArray := prog_12_method_37_code
def yX10_takesOut : MethodName := ⟨RX10, "takesOut", "(IIII)V"⟩
abbrev cX10_doesHeld : ByteArray := prog_12_method_38_code
def yX10_doesHeld : MethodName := ⟨RX10, "doesHeld", "(I)I"⟩
abbrev cX10_isHeld : ByteArray := prog_12_method_39_code
def yX10_isHeld : MethodName := ⟨RX10, "isHeld", "(II)Z"⟩
abbrev cX10_isWaiting : ByteArray := prog_12_method_40_code
def yX10_isWaiting : MethodName := ⟨RX10, "isWaiting", "(II)Z"⟩
abbrev cX10_delivers : ByteArray := prog_12_method_41_code
def yX10_delivers : MethodName := ⟨RX10, "delivers", "(II)I"⟩
abbrev cX10_deliver : ByteArray := prog_12_method_42_code
def yX10_deliver : MethodName := ⟨RX10, "deliver", "(II)I"⟩
abbrev cX10_lose : ByteArray := prog_12_method_43_code
def yX10_lose : MethodName := ⟨RX10, "lose", "(II)I"⟩
abbrev cX10_twice : ByteArray := prog_12_method_44_code
def yX10_twice : MethodName := ⟨RX10, "twice", "(II)I"⟩
abbrev cX10_syncs : ByteArray := prog_12_method_45_code
def yX10_syncs : MethodName := ⟨RX10, "syncs", "(II)I"⟩
abbrev cX10_sync : ByteArray := prog_12_method_46_code
def yX10_sync : MethodName := ⟨RX10, "sync", "(II)I"⟩
abbrev cX10_tell : ByteArray := prog_12_method_47_code
def yX10_tell : MethodName := ⟨RX10, "tell", "(II)Z"⟩
abbrev cX10_known : ByteArray := prog_12_method_48_code
def yX10_known : MethodName := ⟨RX10, "known", "(III)I"⟩
abbrev cX10_floorOf : ByteArray := prog_12_method_49_code
def yX10_floorOf : MethodName := ⟨RX10, "floorOf", "(II)I"⟩
abbrev cX10_isSeen : ByteArray := prog_12_method_50_code
def yX10_isSeen : MethodName := ⟨RX10, "isSeen", "(II)Z"⟩
abbrev cX10_isDropSeen : ByteArray := prog_12_method_51_code
def yX10_isDropSeen : MethodName := ⟨RX10, "isDropSeen", "(II)Z"⟩
abbrev cX10_hasBehind : ByteArray := prog_12_method_52_code
def yX10_hasBehind : MethodName := ⟨RX10, "hasBehind", "(II)Z"⟩
abbrev cX10_canGo : ByteArray := prog_12_method_53_code
def yX10_canGo : MethodName := ⟨RX10, "canGo", "(II)Z"⟩
abbrev cX10_sweeps : ByteArray := prog_12_method_54_code
def yX10_sweeps : MethodName := ⟨RX10, "sweeps", "(I)I"⟩
abbrev cX10_sweep : ByteArray := prog_12_method_55_code
def yX10_sweep : MethodName := ⟨RX10, "sweep", "(I)I"⟩
abbrev cX10_wouldSweep : ByteArray := prog_12_method_56_code
def yX10_wouldSweep : MethodName := ⟨RX10, "wouldSweep", "(I)I"⟩
abbrev cX10_isForgotten : ByteArray := prog_12_method_57_code
def yX10_isForgotten : MethodName := ⟨RX10, "isForgotten", "(II)Z"⟩
abbrev cX10_length : ByteArray := prog_12_method_58_code
def yX10_length : MethodName := ⟨RX10, "length", "(I)I"⟩
abbrev cX10_movesOf : ByteArray := prog_12_method_59_code
def yX10_movesOf : MethodName := ⟨RX10, "movesOf", "(II)I"⟩
abbrev cX10_at_ : ByteArray := prog_12_method_60_code
def yX10_at_ : MethodName := ⟨RX10, "at", "(III)I"⟩
abbrev cX10_index : ByteArray := prog_12_method_61_code
def yX10_index : MethodName := ⟨RX10, "index", "(II)I"⟩
abbrev cX10_vector : ByteArray := prog_12_method_62_code
def yX10_vector : MethodName := ⟨RX10, "vector", "(II)I"⟩
abbrev cX10_knows : ByteArray := prog_12_method_63_code
def yX10_knows : MethodName := ⟨RX10, "knows", "(III)I"⟩
abbrev cX10_floor : ByteArray := prog_12_method_64_code
def yX10_floor : MethodName := ⟨RX10, "floor", "(II)I"⟩
abbrev cX10_post : ByteArray := prog_12_method_65_code
def yX10_post : MethodName := ⟨RX10, "post", "(III)I"⟩
abbrev cX10_op : ByteArray := prog_12_method_66_code
def yX10_op : MethodName := ⟨RX10, "op", "(II)I"⟩
abbrev cX10_needs : ByteArray := prog_12_method_67_code
def yX10_needs : MethodName := ⟨RX10, "needs", "(II)I"⟩
abbrev cX10_isNeeded : ByteArray := prog_12_method_68_code
def yX10_isNeeded : MethodName := ⟨RX10, "isNeeded", "(II)Z"⟩
abbrev cX10_ahead : ByteArray := prog_12_method_69_code
def yX10_ahead : MethodName := ⟨RX10, "ahead", "(II)I"⟩
abbrev cX10_has : ByteArray := prog_12_method_70_code
def yX10_has : MethodName := ⟨RX10, "has", "(II)Z"⟩
abbrev cX10_elements : ByteArray := prog_12_method_71_code
def yX10_elements : MethodName := ⟨RX10, "elements", "(IZ)I"⟩
abbrev cX10_idle : ByteArray := prog_12_method_72_code
def yX10_idle : MethodName := ⟨RX10, "idle", "(I)I"⟩
abbrev cX10_deepest : ByteArray := prog_12_method_73_code
def yX10_deepest : MethodName := ⟨RX10, "deepest", "()I"⟩
abbrev cX10_count : ByteArray := prog_12_method_74_code
def yX10_count : MethodName := ⟨RX10, "count", "(II)I"⟩
abbrev cX10_place : ByteArray := prog_12_method_75_code
def yX10_place : MethodName := ⟨RX10, "place", "(II)I"⟩
abbrev cX10_laysNames : ByteArray := prog_12_method_76_code
def yX10_laysNames : MethodName := ⟨RX10, "laysNames", "(I)V"⟩
abbrev cX10_unlike : ByteArray := prog_12_method_77_code
def yX10_unlike : MethodName := ⟨RX10, "unlike", "(II)I"⟩
abbrev cX10_settled : ByteArray := prog_12_method_78_code
def yX10_settled : MethodName := ⟨RX10, "settled", "(II)I"⟩
abbrev cX10_laysFound : ByteArray := prog_12_method_79_code
def yX10_laysFound : MethodName := ⟨RX10, "laysFound", "(I)V"⟩
abbrev cX10_found : ByteArray := prog_12_method_80_code
def yX10_found : MethodName := ⟨RX10, "found", "(II)I"⟩
abbrev cX10_rivals : ByteArray := prog_12_method_81_code
def yX10_rivals : MethodName := ⟨RX10, "rivals", "(II)I"⟩
abbrev cX10_placeFound : ByteArray := prog_12_method_82_code
def yX10_placeFound : MethodName := ⟨RX10, "placeFound", "(II)I"⟩
abbrev cX10_isListed : ByteArray := prog_12_method_83_code
def yX10_isListed : MethodName := ⟨RX10, "isListed", "(II)Z"⟩
abbrev cX10_revert : ByteArray := prog_12_method_84_code
def yX10_revert : MethodName := ⟨RX10, "revert", "(I)I"⟩
abbrev cX10_draw : ByteArray := prog_12_method_85_code
def yX10_draw : MethodName := ⟨RX10, "draw", "(I)I"⟩
abbrev cX10_chances : ByteArray := prog_12_method_86_code
def yX10_chances : MethodName := ⟨RX10, "chances", "()Z"⟩
abbrev cX10_chance : ByteArray := prog_12_method_87_code
def yX10_chance : MethodName := ⟨RX10, "chance", "(II)I"⟩
abbrev cX10_edits : ByteArray := prog_12_method_88_code
def yX10_edits : MethodName := ⟨RX10, "edits", "(II)I"⟩
abbrev cX10_feed : ByteArray := prog_12_method_89_code
def yX10_feed : MethodName := ⟨RX10, "feed", "(IIIII)I"⟩
abbrev cX10_puts : ByteArray := prog_12_method_90_code
def yX10_puts : MethodName := ⟨RX10, "puts", "(I)V"⟩
abbrev cX10_here : ByteArray := prog_12_method_91_code
def yX10_here : MethodName := ⟨RX10, "here", "()I"⟩
abbrev cX10_wrong : ByteArray := prog_12_method_92_code
def yX10_wrong : MethodName := ⟨RX10, "wrong", "(II)Z"⟩
abbrev cX10_isSmall : ByteArray := prog_12_method_93_code
def yX10_isSmall : MethodName := ⟨RX10, "isSmall", "(I)Z"⟩
abbrev cX10_wordEnd : ByteArray := prog_12_method_94_code
def yX10_wordEnd : MethodName := ⟨RX10, "wordEnd", "()I"⟩
abbrev cX10_isWord : ByteArray := prog_12_method_95_code
def yX10_isWord : MethodName := ⟨RX10, "isWord", "(IIIIIII)Z"⟩
abbrev cX10_whichHere : ByteArray := prog_12_method_96_code
def yX10_whichHere : MethodName := ⟨RX10, "whichHere", "()I"⟩
abbrev cX10_number : ByteArray := prog_12_method_97_code
def yX10_number : MethodName := ⟨RX10, "number", "(I)Z"⟩
abbrev cX10_letter : ByteArray := prog_12_method_98_code
def yX10_letter : MethodName := ⟨RX10, "letter", "(I)Z"⟩
abbrev cX10_rest : ByteArray := prog_12_method_99_code
def yX10_rest : MethodName := ⟨RX10, "rest", "(I)Z"⟩
abbrev cX10_line : ByteArray := prog_12_method_100_code
def yX10_line : MethodName := ⟨RX10, "line", "()Z"⟩
abbrev cX10_all : ByteArray := prog_12_method_101_code
def yX10_all : MethodName := ⟨RX10, "all", "()Z"⟩
abbrev cX10_does : ByteArray := prog_12_method_102_code
def yX10_does : MethodName := ⟨RX10, "does", "(I)Z"⟩
abbrev cX10_script : ByteArray := prog_12_method_103_code
def yX10_script : MethodName := ⟨RX10, "script", "(I)I"⟩
abbrev cX10_image : ByteArray := prog_12_method_104_code
def yX10_image : MethodName := ⟨RX10, "image", "(I)Z"⟩
abbrev cX10_back : ByteArray := prog_12_method_105_code
def yX10_back : MethodName := ⟨RX10, "back", "(I)Z"⟩
abbrev cX10_inRows : ByteArray := prog_12_method_106_code
def yX10_inRows : MethodName := ⟨RX10, "inRows", "(I)I"⟩
abbrev cX10_areOne : ByteArray := prog_12_method_107_code
def yX10_areOne : MethodName := ⟨RX10, "areOne", "()Z"⟩
abbrev cX10_missed : ByteArray := prog_12_method_108_code
def yX10_missed : MethodName := ⟨RX10, "missed", "()I"⟩
abbrev cX10_madeAll : ByteArray := prog_12_method_109_code
def yX10_madeAll : MethodName := ⟨RX10, "madeAll", "()I"⟩
abbrev cX10_all_ : ByteArray := prog_12_method_110_code
def yX10_all_ : MethodName := ⟨RX10, "all", "(I)I"⟩
def RJx145de : String := "java/io/Serializable"
def TJx145de : u_T := fun k => match k with
  | _ => ("", "", "", false)
def tyJx145de : Nat → FieldType := fun k => match k with
  | _ => .int
abbrev wsJx145de0 : List Cond := u_ws RJx145de TJx145de 0
theorem nmJx145de : ∀ a, a < 0 → ∀ b, b < 0 → a ≠ b → (TJx145de a).2.1 ≠ (TJx145de b).2.1 := by decide +kernel
theorem tyJx145de_ok : ∀ k, k < 0 → parseFieldDescriptor (TJx145de k).2.2.1 = some (tyJx145de k) := by decide +kernel
def RJx9f9b0 : String := "java/lang/CharSequence"
def TJx9f9b0 : u_T := fun k => match k with
  | _ => ("", "", "", false)
def tyJx9f9b0 : Nat → FieldType := fun k => match k with
  | _ => .int
abbrev wsJx9f9b00 : List Cond := u_ws RJx9f9b0 TJx9f9b0 0
theorem nmJx9f9b0 : ∀ a, a < 0 → ∀ b, b < 0 → a ≠ b → (TJx9f9b0 a).2.1 ≠ (TJx9f9b0 b).2.1 := by decide +kernel
theorem tyJx9f9b0_ok : ∀ k, k < 0 → parseFieldDescriptor (TJx9f9b0 k).2.2.1 = some (tyJx9f9b0 k) := by decide +kernel
def RJxb160c : String := "java/lang/Comparable"
def TJxb160c : u_T := fun k => match k with
  | _ => ("", "", "", false)
def tyJxb160c : Nat → FieldType := fun k => match k with
  | _ => .int
abbrev wsJxb160c0 : List Cond := u_ws RJxb160c TJxb160c 0
theorem nmJxb160c : ∀ a, a < 0 → ∀ b, b < 0 → a ≠ b → (TJxb160c a).2.1 ≠ (TJxb160c b).2.1 := by decide +kernel
theorem tyJxb160c_ok : ∀ k, k < 0 → parseFieldDescriptor (TJxb160c k).2.2.1 = some (tyJxb160c k) := by decide +kernel
def RJx29ce0 : String := "java/lang/Enum"
def TJx29ce0 : u_T := fun k => match k with
  | _ => ("", "", "", false)
def tyJx29ce0 : Nat → FieldType := fun k => match k with
  | _ => .int
abbrev wsJx29ce00 : List Cond := u_ws RJx29ce0 TJx29ce0 0
theorem nmJx29ce0 : ∀ a, a < 0 → ∀ b, b < 0 → a ≠ b → (TJx29ce0 a).2.1 ≠ (TJx29ce0 b).2.1 := by decide +kernel
theorem tyJx29ce0_ok : ∀ k, k < 0 → parseFieldDescriptor (TJx29ce0 k).2.2.1 = some (tyJx29ce0 k) := by decide +kernel
abbrev cJx29ce0_ordinal_8abf5 : ByteArray := prog_16_method_2_code
def yJx29ce0_ordinal_8abf5 : MethodName := ⟨RJx29ce0, "ordinal", "()I"⟩
def RJ9 : String := "java/lang/Math"
def TJ9 : u_T := fun k => match k with
  | _ => ("", "", "", false)
def tyJ9 : Nat → FieldType := fun k => match k with
  | _ => .int
abbrev wsJ90 : List Cond := u_ws RJ9 TJ9 0
theorem nmJ9 : ∀ a, a < 0 → ∀ b, b < 0 → a ≠ b → (TJ9 a).2.1 ≠ (TJ9 b).2.1 := by decide +kernel
theorem tyJ9_ok : ∀ k, k < 0 → parseFieldDescriptor (TJ9 k).2.2.1 = some (tyJ9 k) := by decide +kernel
abbrev cJ9_max_7cf53 : ByteArray := prog_18_method_65_code
def yJ9_max_7cf53 : MethodName := ⟨RJ9, "max", "(II)I"⟩
abbrev cJ9_min_7cf53 : ByteArray := prog_18_method_69_code
def yJ9_min_7cf53 : MethodName := ⟨RJ9, "min", "(II)I"⟩
def RJ0 : String := "java/lang/String"
def TJ0 : u_T := fun k => match k with
  | _ => ("", "", "", false)
def tyJ0 : Nat → FieldType := fun k => match k with
  | _ => .int
abbrev wsJ00 : List Cond := u_ws RJ0 TJ0 0
theorem nmJ0 : ∀ a, a < 0 → ∀ b, b < 0 → a ≠ b → (TJ0 a).2.1 ≠ (TJ0 b).2.1 := by decide +kernel
theorem tyJ0_ok : ∀ k, k < 0 → parseFieldDescriptor (TJ0 k).2.2.1 = some (tyJ0 k) := by decide +kernel
abbrev cJ0_length_8abf5 : ByteArray := prog_20_method_54_code
def yJ0_length_8abf5 : MethodName := ⟨RJ0, "length", "()I"⟩
abbrev cJ0_charAt_5068e : ByteArray := prog_20_method_56_code
def yJ0_charAt_5068e : MethodName := ⟨RJ0, "charAt", "(I)C"⟩
abbrev cJ0_coder_7d493 : ByteArray := prog_20_method_152_code
def yJ0_coder_7d493 : MethodName := ⟨RJ0, "coder", "()B"⟩
abbrev cJ0_isLatin1_aae02 : ByteArray := prog_20_method_154_code
def yJ0_isLatin1_aae02 : MethodName := ⟨RJ0, "isLatin1", "()Z"⟩
abbrev cJ0_checkIndex_df160 : ByteArray := prog_20_method_155_code
def yJ0_checkIndex_df160 : MethodName := ⟨RJ0, "checkIndex", "(II)V"⟩
def RJ1 : String := "java/lang/StringLatin1"
def TJ1 : u_T := fun k => match k with
  | _ => ("", "", "", false)
def tyJ1 : Nat → FieldType := fun k => match k with
  | _ => .int
abbrev wsJ10 : List Cond := u_ws RJ1 TJ1 0
theorem nmJ1 : ∀ a, a < 0 → ∀ b, b < 0 → a ≠ b → (TJ1 a).2.1 ≠ (TJ1 b).2.1 := by decide +kernel
theorem tyJ1_ok : ∀ k, k < 0 → parseFieldDescriptor (TJ1 k).2.2.1 = some (tyJ1 k) := by decide +kernel
abbrev cJ1_charAt_3b067 : ByteArray := prog_21_method_2_code
def yJ1_charAt_3b067 : MethodName := ⟨RJ1, "charAt", "([BI)C"⟩
def RJ2 : String := "java/lang/StringUTF16"
def TJ2 : u_T := fun k => match k with
  | _ => ("", "", "", false)
def tyJ2 : Nat → FieldType := fun k => match k with
  | _ => .int
abbrev wsJ20 : List Cond := u_ws RJ2 TJ2 0
theorem nmJ2 : ∀ a, a < 0 → ∀ b, b < 0 → a ≠ b → (TJ2 a).2.1 ≠ (TJ2 b).2.1 := by decide +kernel
theorem tyJ2_ok : ∀ k, k < 0 → parseFieldDescriptor (TJ2 k).2.2.1 = some (tyJ2 k) := by decide +kernel
abbrev cJ2_getChar_3b067 : ByteArray := prog_22_method_5_code
def yJ2_getChar_3b067 : MethodName := ⟨RJ2, "getChar", "([BI)C"⟩
abbrev cJ2_length_9d52b : ByteArray := prog_22_method_6_code
def yJ2_length_9d52b : MethodName := ⟨RJ2, "length", "([B)I"⟩
abbrev cJ2_charAt_3b067 : ByteArray := prog_22_method_83_code
def yJ2_charAt_3b067 : MethodName := ⟨RJ2, "charAt", "([BI)C"⟩
abbrev cJ2_checkIndex_2214a : ByteArray := prog_22_method_91_code
def yJ2_checkIndex_2214a : MethodName := ⟨RJ2, "checkIndex", "(I[B)V"⟩
def RJ10 : String := "java/lang/System"
def TJ10 : u_T := fun k => match k with
  | _ => ("", "", "", false)
def tyJ10 : Nat → FieldType := fun k => match k with
  | _ => .int
abbrev wsJ100 : List Cond := u_ws RJ10 TJ10 0
theorem nmJ10 : ∀ a, a < 0 → ∀ b, b < 0 → a ≠ b → (TJ10 a).2.1 ≠ (TJ10 b).2.1 := by decide +kernel
theorem tyJ10_ok : ∀ k, k < 0 → parseFieldDescriptor (TJ10 k).2.2.1 = some (tyJ10 k) := by decide +kernel
def RJxfd54e : String := "java/lang/constant/Constable"
def TJxfd54e : u_T := fun k => match k with
  | _ => ("", "", "", false)
def tyJxfd54e : Nat → FieldType := fun k => match k with
  | _ => .int
abbrev wsJxfd54e0 : List Cond := u_ws RJxfd54e TJxfd54e 0
theorem nmJxfd54e : ∀ a, a < 0 → ∀ b, b < 0 → a ≠ b → (TJxfd54e a).2.1 ≠ (TJxfd54e b).2.1 := by decide +kernel
theorem tyJxfd54e_ok : ∀ k, k < 0 → parseFieldDescriptor (TJxfd54e k).2.2.1 = some (tyJxfd54e k) := by decide +kernel
def RJx3cf43 : String := "java/lang/constant/ConstantDesc"
def TJx3cf43 : u_T := fun k => match k with
  | _ => ("", "", "", false)
def tyJx3cf43 : Nat → FieldType := fun k => match k with
  | _ => .int
abbrev wsJx3cf430 : List Cond := u_ws RJx3cf43 TJx3cf43 0
theorem nmJx3cf43 : ∀ a, a < 0 → ∀ b, b < 0 → a ≠ b → (TJx3cf43 a).2.1 ≠ (TJx3cf43 b).2.1 := by decide +kernel
theorem tyJx3cf43_ok : ∀ k, k < 0 → parseFieldDescriptor (TJx3cf43 k).2.2.1 = some (tyJx3cf43 k) := by decide +kernel
def RJ7 : String := "java/util/Arrays"
def TJ7 : u_T := fun k => match k with
  | _ => ("", "", "", false)
def tyJ7 : Nat → FieldType := fun k => match k with
  | _ => .int
abbrev wsJ70 : List Cond := u_ws RJ7 TJ7 0
theorem nmJ7 : ∀ a, a < 0 → ∀ b, b < 0 → a ≠ b → (TJ7 a).2.1 ≠ (TJ7 b).2.1 := by decide +kernel
theorem tyJ7_ok : ∀ k, k < 0 → parseFieldDescriptor (TJ7 k).2.2.1 = some (tyJ7 k) := by decide +kernel
abbrev cJ7_fill_53178 : ByteArray := prog_27_method_103_code
def yJ7_fill_53178 : MethodName := ⟨RJ7, "fill", "([II)V"⟩
def RJ3 : String := "jdk/internal/util/Preconditions"
def TJ3 : u_T := fun k => match k with
  | _ => ("", "", "", false)
def tyJ3 : Nat → FieldType := fun k => match k with
  | _ => .int
abbrev wsJ30 : List Cond := u_ws RJ3 TJ3 0
theorem nmJ3 : ∀ a, a < 0 → ∀ b, b < 0 → a ≠ b → (TJ3 a).2.1 ≠ (TJ3 b).2.1 := by decide +kernel
theorem tyJ3_ok : ∀ k, k < 0 → parseFieldDescriptor (TJ3 k).2.2.1 = some (tyJ3 k) := by decide +kernel
abbrev cJ3_checkIndex_8e157 : ByteArray := prog_29_method_11_code
def yJ3_checkIndex_8e157 : MethodName := ⟨RJ3, "checkIndex", "(IILjava/util/function/BiFunction;)I"⟩
def RL : String := "MovingListLaw"
abbrev cL_at : ByteArray := method_3_code
def yL_at : MethodName := ⟨RL, "at", "(LMovingList;III[J)I"⟩
abbrev cL_law : ByteArray := code
def yL_law : MethodName := ⟨RL, "law", "([I)Z"⟩
abbrev vwCl : List vw_C := [(RX1, TX1, 4), (RX3, TX3, 3), (RX4, TX4, 5), (RX5, TX5, 10), (RX6, TX6, 2), (RX7, TX7, 6), (RX8, TX8, 6), (RX9, TX9, 12), (RX10, TX10, 23)]
