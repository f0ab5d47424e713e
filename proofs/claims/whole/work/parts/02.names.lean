-- ===== PART A: goes FIRST, ahead of the names: the tables' words, and 'selects' of the private methods out of them =====
/-- a private method of a class that the tables say can be made, by its rows of tables_1 -/
def lw_okq (q : MethodName × Nat) : Prop := (q.1.cls ≠ "java/lang/invoke/MethodHandle" ∧ q.1.cls ≠ "java/lang/invoke/VarHandle") ∧ Cond.instantiable q.1.cls q.2 ∈ tables_1 ∧ Cond.privateMethod q.1 ∈ tables_1 ∧ Cond.instanceMethod q.1 ∈ tables_1
theorem lw_p0 : lw_okq (⟨"CoffeeThatSlops", "isGap", "(I)Z"⟩, 17) := ⟨⟨by decide +kernel, by decide +kernel⟩, List.mem_of_getElem? (i := 20) (by decide +kernel), List.mem_of_getElem? (i := 398) (by decide +kernel), List.mem_of_getElem? (i := 399) (by decide +kernel)⟩
theorem lw_p1 : lw_okq (⟨"CoffeeThatSlops$Row", "drive", "(LCoffeeThatSlops$Cup;I)V"⟩, 3) := ⟨⟨by decide +kernel, by decide +kernel⟩, List.mem_of_getElem? (i := 73) (by decide +kernel), List.mem_of_getElem? (i := 457) (by decide +kernel), List.mem_of_getElem? (i := 458) (by decide +kernel)⟩
theorem lw_p2 : lw_okq (⟨"CoffeeThatSlops$Row", "move", "(I)V"⟩, 3) := ⟨⟨by decide +kernel, by decide +kernel⟩, List.mem_of_getElem? (i := 73) (by decide +kernel), List.mem_of_getElem? (i := 464) (by decide +kernel), List.mem_of_getElem? (i := 465) (by decide +kernel)⟩
theorem lw_p3 : lw_okq (⟨"CoffeeThatSlops$Row", "runOver", "(LCoffeeThatSlops$Cup;I)I"⟩, 3) := ⟨⟨by decide +kernel, by decide +kernel⟩, List.mem_of_getElem? (i := 73) (by decide +kernel), List.mem_of_getElem? (i := 468) (by decide +kernel), List.mem_of_getElem? (i := 469) (by decide +kernel)⟩
theorem lw_p4 : lw_okq (⟨"CoffeeThatSlops$Walk", "readPart", "(LCoffeeThatSlops$Text;)V"⟩, 7) := ⟨⟨by decide +kernel, by decide +kernel⟩, List.mem_of_getElem? (i := 142) (by decide +kernel), List.mem_of_getElem? (i := 504) (by decide +kernel), List.mem_of_getElem? (i := 505) (by decide +kernel)⟩
theorem lw_p5 : lw_okq (⟨"CoffeeThatSlops$Walk", "readSteps", "(LCoffeeThatSlops$Text;)V"⟩, 7) := ⟨⟨by decide +kernel, by decide +kernel⟩, List.mem_of_getElem? (i := 142) (by decide +kernel), List.mem_of_getElem? (i := 516) (by decide +kernel), List.mem_of_getElem? (i := 517) (by decide +kernel)⟩
theorem lw_p6 : lw_okq (⟨"CoffeeThatSlops$Walk", "hasRoom", "(LCoffeeThatSlops$Text;I)Z"⟩, 7) := ⟨⟨by decide +kernel, by decide +kernel⟩, List.mem_of_getElem? (i := 142) (by decide +kernel), List.mem_of_getElem? (i := 546) (by decide +kernel), List.mem_of_getElem? (i := 547) (by decide +kernel)⟩
theorem lw_p7 : lw_okq (⟨"CoffeeThatSlops$Walk", "readStand", "(LCoffeeThatSlops$Text;)V"⟩, 7) := ⟨⟨by decide +kernel, by decide +kernel⟩, List.mem_of_getElem? (i := 142) (by decide +kernel), List.mem_of_getElem? (i := 563) (by decide +kernel), List.mem_of_getElem? (i := 564) (by decide +kernel)⟩
theorem lw_p8 : lw_okq (⟨"CoffeeThatSlops$Walk", "readJerk", "(LCoffeeThatSlops$Text;)V"⟩, 7) := ⟨⟨by decide +kernel, by decide +kernel⟩, List.mem_of_getElem? (i := 142) (by decide +kernel), List.mem_of_getElem? (i := 567) (by decide +kernel), List.mem_of_getElem? (i := 568) (by decide +kernel)⟩
theorem lw_p9 : lw_okq (⟨"CoffeeThatSlops$Law", "readSum", "(LCoffeeThatSlops$Text;I)V"⟩, 3) := ⟨⟨by decide +kernel, by decide +kernel⟩, List.mem_of_getElem? (i := 180) (by decide +kernel), List.mem_of_getElem? (i := 585) (by decide +kernel), List.mem_of_getElem? (i := 586) (by decide +kernel)⟩
theorem lw_p10 : lw_okq (⟨"CoffeeThatSlops$Law", "readProduct", "(LCoffeeThatSlops$Text;I)V"⟩, 3) := ⟨⟨by decide +kernel, by decide +kernel⟩, List.mem_of_getElem? (i := 180) (by decide +kernel), List.mem_of_getElem? (i := 589) (by decide +kernel), List.mem_of_getElem? (i := 590) (by decide +kernel)⟩
theorem lw_p11 : lw_okq (⟨"CoffeeThatSlops$Law", "readThing", "(LCoffeeThatSlops$Text;I)V"⟩, 3) := ⟨⟨by decide +kernel, by decide +kernel⟩, List.mem_of_getElem? (i := 180) (by decide +kernel), List.mem_of_getElem? (i := 593) (by decide +kernel), List.mem_of_getElem? (i := 594) (by decide +kernel)⟩
theorem lw_p12 : lw_okq (⟨"CoffeeThatSlops$Law", "emit", "(I)V"⟩, 3) := ⟨⟨by decide +kernel, by decide +kernel⟩, List.mem_of_getElem? (i := 180) (by decide +kernel), List.mem_of_getElem? (i := 600) (by decide +kernel), List.mem_of_getElem? (i := 601) (by decide +kernel)⟩
theorem lw_p13 : lw_okq (⟨"CoffeeThatSlops$Law", "readName", "(LCoffeeThatSlops$Text;)V"⟩, 3) := ⟨⟨by decide +kernel, by decide +kernel⟩, List.mem_of_getElem? (i := 180) (by decide +kernel), List.mem_of_getElem? (i := 605) (by decide +kernel), List.mem_of_getElem? (i := 606) (by decide +kernel)⟩
theorem lw_p14 : lw_okq (⟨"CoffeeThatSlops", "tell", "(JJJ)V"⟩, 17) := ⟨⟨by decide +kernel, by decide +kernel⟩, List.mem_of_getElem? (i := 20) (by decide +kernel), List.mem_of_getElem? (i := 622) (by decide +kernel), List.mem_of_getElem? (i := 623) (by decide +kernel)⟩
theorem lw_p15 : lw_okq (⟨"CoffeeThatSlops", "tell", "(JJ)V"⟩, 17) := ⟨⟨by decide +kernel, by decide +kernel⟩, List.mem_of_getElem? (i := 20) (by decide +kernel), List.mem_of_getElem? (i := 626) (by decide +kernel), List.mem_of_getElem? (i := 627) (by decide +kernel)⟩
def lw_privs_1 : List (MethodName × Nat) := [(⟨"CoffeeThatSlops", "isGap", "(I)Z"⟩, 17), (⟨"CoffeeThatSlops$Row", "drive", "(LCoffeeThatSlops$Cup;I)V"⟩, 3), (⟨"CoffeeThatSlops$Row", "move", "(I)V"⟩, 3), (⟨"CoffeeThatSlops$Row", "runOver", "(LCoffeeThatSlops$Cup;I)I"⟩, 3), (⟨"CoffeeThatSlops$Walk", "readPart", "(LCoffeeThatSlops$Text;)V"⟩, 7), (⟨"CoffeeThatSlops$Walk", "readSteps", "(LCoffeeThatSlops$Text;)V"⟩, 7), (⟨"CoffeeThatSlops$Walk", "hasRoom", "(LCoffeeThatSlops$Text;I)Z"⟩, 7), (⟨"CoffeeThatSlops$Walk", "readStand", "(LCoffeeThatSlops$Text;)V"⟩, 7), (⟨"CoffeeThatSlops$Walk", "readJerk", "(LCoffeeThatSlops$Text;)V"⟩, 7), (⟨"CoffeeThatSlops$Law", "readSum", "(LCoffeeThatSlops$Text;I)V"⟩, 3), (⟨"CoffeeThatSlops$Law", "readProduct", "(LCoffeeThatSlops$Text;I)V"⟩, 3), (⟨"CoffeeThatSlops$Law", "readThing", "(LCoffeeThatSlops$Text;I)V"⟩, 3), (⟨"CoffeeThatSlops$Law", "emit", "(I)V"⟩, 3), (⟨"CoffeeThatSlops$Law", "readName", "(LCoffeeThatSlops$Text;)V"⟩, 3), (⟨"CoffeeThatSlops", "tell", "(JJJ)V"⟩, 17), (⟨"CoffeeThatSlops", "tell", "(JJ)V"⟩, 17)]
theorem lw_r1 : ∀ q ∈ lw_privs_1, lw_okq q := List.forall_mem_cons.mpr ⟨lw_p0, List.forall_mem_cons.mpr ⟨lw_p1, List.forall_mem_cons.mpr ⟨lw_p2, List.forall_mem_cons.mpr ⟨lw_p3, List.forall_mem_cons.mpr ⟨lw_p4, List.forall_mem_cons.mpr ⟨lw_p5, List.forall_mem_cons.mpr ⟨lw_p6, List.forall_mem_cons.mpr ⟨lw_p7, List.forall_mem_cons.mpr ⟨lw_p8, List.forall_mem_cons.mpr ⟨lw_p9, List.forall_mem_cons.mpr ⟨lw_p10, List.forall_mem_cons.mpr ⟨lw_p11, List.forall_mem_cons.mpr ⟨lw_p12, List.forall_mem_cons.mpr ⟨lw_p13, List.forall_mem_cons.mpr ⟨lw_p14, List.forall_mem_cons.mpr ⟨lw_p15, fun _ h => absurd h List.not_mem_nil⟩⟩⟩⟩⟩⟩⟩⟩⟩⟩⟩⟩⟩⟩⟩⟩
theorem lw_p16 : lw_okq (⟨"CoffeeThatSlops", "tell", "(J)V"⟩, 17) := ⟨⟨by decide +kernel, by decide +kernel⟩, List.mem_of_getElem? (i := 20) (by decide +kernel), List.mem_of_getElem? (i := 630) (by decide +kernel), List.mem_of_getElem? (i := 631) (by decide +kernel)⟩
theorem lw_p17 : lw_okq (⟨"CoffeeThatSlops", "tellMore", "(J)V"⟩, 17) := ⟨⟨by decide +kernel, by decide +kernel⟩, List.mem_of_getElem? (i := 20) (by decide +kernel), List.mem_of_getElem? (i := 634) (by decide +kernel), List.mem_of_getElem? (i := 635) (by decide +kernel)⟩
theorem lw_p18 : lw_okq (⟨"CoffeeThatSlops", "toldLaw", "(I)LCoffeeThatSlops$Law;"⟩, 17) := ⟨⟨by decide +kernel, by decide +kernel⟩, List.mem_of_getElem? (i := 20) (by decide +kernel), List.mem_of_getElem? (i := 642) (by decide +kernel), List.mem_of_getElem? (i := 643) (by decide +kernel)⟩
theorem lw_p19 : lw_okq (⟨"CoffeeThatSlops$State", "wander", "(I)I"⟩, 5) := ⟨⟨by decide +kernel, by decide +kernel⟩, List.mem_of_getElem? (i := 67) (by decide +kernel), List.mem_of_getElem? (i := 651) (by decide +kernel), List.mem_of_getElem? (i := 652) (by decide +kernel)⟩
theorem lw_p20 : lw_okq (⟨"CoffeeThatSlops$State", "slopeSeen", "(LCoffeeThatSlops$Cup;)I"⟩, 5) := ⟨⟨by decide +kernel, by decide +kernel⟩, List.mem_of_getElem? (i := 67) (by decide +kernel), List.mem_of_getElem? (i := 660) (by decide +kernel), List.mem_of_getElem? (i := 661) (by decide +kernel)⟩
theorem lw_p21 : lw_okq (⟨"CoffeeThatSlops", "asItIs", "()LCoffeeThatSlops$Trial;"⟩, 17) := ⟨⟨by decide +kernel, by decide +kernel⟩, List.mem_of_getElem? (i := 20) (by decide +kernel), List.mem_of_getElem? (i := 681) (by decide +kernel), List.mem_of_getElem? (i := 682) (by decide +kernel)⟩
theorem lw_p22 : lw_okq (⟨"CoffeeThatSlops$Trial", "begin", "(I)V"⟩, 12) := ⟨⟨by decide +kernel, by decide +kernel⟩, List.mem_of_getElem? (i := 197) (by decide +kernel), List.mem_of_getElem? (i := 715) (by decide +kernel), List.mem_of_getElem? (i := 716) (by decide +kernel)⟩
theorem lw_p23 : lw_okq (⟨"CoffeeThatSlops$Trial", "through", "(LCoffeeThatSlops$Walk;IIZ)V"⟩, 12) := ⟨⟨by decide +kernel, by decide +kernel⟩, List.mem_of_getElem? (i := 197) (by decide +kernel), List.mem_of_getElem? (i := 719) (by decide +kernel), List.mem_of_getElem? (i := 720) (by decide +kernel)⟩
theorem lw_p24 : lw_okq (⟨"CoffeeThatSlops$Trial", "note", "(I)V"⟩, 12) := ⟨⟨by decide +kernel, by decide +kernel⟩, List.mem_of_getElem? (i := 197) (by decide +kernel), List.mem_of_getElem? (i := 726) (by decide +kernel), List.mem_of_getElem? (i := 727) (by decide +kernel)⟩
theorem lw_p25 : lw_okq (⟨"CoffeeThatSlops", "tellFraction", "(II)V"⟩, 17) := ⟨⟨by decide +kernel, by decide +kernel⟩, List.mem_of_getElem? (i := 20) (by decide +kernel), List.mem_of_getElem? (i := 758) (by decide +kernel), List.mem_of_getElem? (i := 759) (by decide +kernel)⟩
theorem lw_p26 : lw_okq (⟨"CoffeeThatSlops", "lateSlope", "(III)I"⟩, 17) := ⟨⟨by decide +kernel, by decide +kernel⟩, List.mem_of_getElem? (i := 20) (by decide +kernel), List.mem_of_getElem? (i := 833) (by decide +kernel), List.mem_of_getElem? (i := 834) (by decide +kernel)⟩
theorem lw_p27 : lw_okq (⟨"CoffeeThatSlops", "isOpen", "(I)Z"⟩, 17) := ⟨⟨by decide +kernel, by decide +kernel⟩, List.mem_of_getElem? (i := 20) (by decide +kernel), List.mem_of_getElem? (i := 842) (by decide +kernel), List.mem_of_getElem? (i := 843) (by decide +kernel)⟩
theorem lw_p28 : lw_okq (⟨"CoffeeThatSlops", "walled", "(III)LCoffeeThatSlops$Trial;"⟩, 17) := ⟨⟨by decide +kernel, by decide +kernel⟩, List.mem_of_getElem? (i := 20) (by decide +kernel), List.mem_of_getElem? (i := 846) (by decide +kernel), List.mem_of_getElem? (i := 847) (by decide +kernel)⟩
theorem lw_p29 : lw_okq (⟨"CoffeeThatSlops", "brake", "(II)V"⟩, 17) := ⟨⟨by decide +kernel, by decide +kernel⟩, List.mem_of_getElem? (i := 20) (by decide +kernel), List.mem_of_getElem? (i := 886) (by decide +kernel), List.mem_of_getElem? (i := 887) (by decide +kernel)⟩
theorem lw_p30 : lw_okq (⟨"CoffeeThatSlops", "isHand", "(I)Z"⟩, 17) := ⟨⟨by decide +kernel, by decide +kernel⟩, List.mem_of_getElem? (i := 20) (by decide +kernel), List.mem_of_getElem? (i := 920) (by decide +kernel), List.mem_of_getElem? (i := 921) (by decide +kernel)⟩
theorem lw_p31 : lw_okq (⟨"CoffeeThatSlops", "distance", "(LCoffeeThatSlops$Trial;)I"⟩, 17) := ⟨⟨by decide +kernel, by decide +kernel⟩, List.mem_of_getElem? (i := 20) (by decide +kernel), List.mem_of_getElem? (i := 924) (by decide +kernel), List.mem_of_getElem? (i := 925) (by decide +kernel)⟩
def lw_privs_2 : List (MethodName × Nat) := [(⟨"CoffeeThatSlops", "tell", "(J)V"⟩, 17), (⟨"CoffeeThatSlops", "tellMore", "(J)V"⟩, 17), (⟨"CoffeeThatSlops", "toldLaw", "(I)LCoffeeThatSlops$Law;"⟩, 17), (⟨"CoffeeThatSlops$State", "wander", "(I)I"⟩, 5), (⟨"CoffeeThatSlops$State", "slopeSeen", "(LCoffeeThatSlops$Cup;)I"⟩, 5), (⟨"CoffeeThatSlops", "asItIs", "()LCoffeeThatSlops$Trial;"⟩, 17), (⟨"CoffeeThatSlops$Trial", "begin", "(I)V"⟩, 12), (⟨"CoffeeThatSlops$Trial", "through", "(LCoffeeThatSlops$Walk;IIZ)V"⟩, 12), (⟨"CoffeeThatSlops$Trial", "note", "(I)V"⟩, 12), (⟨"CoffeeThatSlops", "tellFraction", "(II)V"⟩, 17), (⟨"CoffeeThatSlops", "lateSlope", "(III)I"⟩, 17), (⟨"CoffeeThatSlops", "isOpen", "(I)Z"⟩, 17), (⟨"CoffeeThatSlops", "walled", "(III)LCoffeeThatSlops$Trial;"⟩, 17), (⟨"CoffeeThatSlops", "brake", "(II)V"⟩, 17), (⟨"CoffeeThatSlops", "isHand", "(I)Z"⟩, 17), (⟨"CoffeeThatSlops", "distance", "(LCoffeeThatSlops$Trial;)I"⟩, 17)]
theorem lw_r2 : ∀ q ∈ lw_privs_2, lw_okq q := List.forall_mem_cons.mpr ⟨lw_p16, List.forall_mem_cons.mpr ⟨lw_p17, List.forall_mem_cons.mpr ⟨lw_p18, List.forall_mem_cons.mpr ⟨lw_p19, List.forall_mem_cons.mpr ⟨lw_p20, List.forall_mem_cons.mpr ⟨lw_p21, List.forall_mem_cons.mpr ⟨lw_p22, List.forall_mem_cons.mpr ⟨lw_p23, List.forall_mem_cons.mpr ⟨lw_p24, List.forall_mem_cons.mpr ⟨lw_p25, List.forall_mem_cons.mpr ⟨lw_p26, List.forall_mem_cons.mpr ⟨lw_p27, List.forall_mem_cons.mpr ⟨lw_p28, List.forall_mem_cons.mpr ⟨lw_p29, List.forall_mem_cons.mpr ⟨lw_p30, List.forall_mem_cons.mpr ⟨lw_p31, fun _ h => absurd h List.not_mem_nil⟩⟩⟩⟩⟩⟩⟩⟩⟩⟩⟩⟩⟩⟩⟩⟩
theorem lw_p32 : lw_okq (⟨"CoffeeThatSlops", "toldLawBits", "()I"⟩, 17) := ⟨⟨by decide +kernel, by decide +kernel⟩, List.mem_of_getElem? (i := 20) (by decide +kernel), List.mem_of_getElem? (i := 979) (by decide +kernel), List.mem_of_getElem? (i := 980) (by decide +kernel)⟩
theorem lw_p33 : lw_okq (⟨"java/lang/Throwable", "fillInStackTrace", "(I)Ljava/lang/Throwable;"⟩, 6) := ⟨⟨by decide +kernel, by decide +kernel⟩, List.mem_of_getElem? (i := 1031) (by decide +kernel), List.mem_of_getElem? (i := 1029) (by decide +kernel), List.mem_of_getElem? (i := 1030) (by decide +kernel)⟩
theorem lw_p34 : lw_okq (⟨"CoffeeThatSlopsModel", "begin", "()V"⟩, 66) := ⟨⟨by decide +kernel, by decide +kernel⟩, List.mem_of_getElem? (i := 1087) (by decide +kernel), List.mem_of_getElem? (i := 1095) (by decide +kernel), List.mem_of_getElem? (i := 1096) (by decide +kernel)⟩
theorem lw_p35 : lw_okq (⟨"CoffeeThatSlopsModel", "isGap", "(I)Z"⟩, 66) := ⟨⟨by decide +kernel, by decide +kernel⟩, List.mem_of_getElem? (i := 1087) (by decide +kernel), List.mem_of_getElem? (i := 1319) (by decide +kernel), List.mem_of_getElem? (i := 1320) (by decide +kernel)⟩
theorem lw_p36 : lw_okq (⟨"CoffeeThatSlopsModel", "lean", "(II)V"⟩, 66) := ⟨⟨by decide +kernel, by decide +kernel⟩, List.mem_of_getElem? (i := 1087) (by decide +kernel), List.mem_of_getElem? (i := 1337) (by decide +kernel), List.mem_of_getElem? (i := 1338) (by decide +kernel)⟩
theorem lw_p37 : lw_okq (⟨"CoffeeThatSlopsModel", "pass", "(II)I"⟩, 66) := ⟨⟨by decide +kernel, by decide +kernel⟩, List.mem_of_getElem? (i := 1087) (by decide +kernel), List.mem_of_getElem? (i := 1345) (by decide +kernel), List.mem_of_getElem? (i := 1346) (by decide +kernel)⟩
theorem lw_p38 : lw_okq (⟨"CoffeeThatSlopsModel", "slope", "()I"⟩, 66) := ⟨⟨by decide +kernel, by decide +kernel⟩, List.mem_of_getElem? (i := 1087) (by decide +kernel), List.mem_of_getElem? (i := 1349) (by decide +kernel), List.mem_of_getElem? (i := 1350) (by decide +kernel)⟩
theorem lw_p39 : lw_okq (⟨"CoffeeThatSlopsModel", "flows", "(II)V"⟩, 66) := ⟨⟨by decide +kernel, by decide +kernel⟩, List.mem_of_getElem? (i := 1087) (by decide +kernel), List.mem_of_getElem? (i := 1353) (by decide +kernel), List.mem_of_getElem? (i := 1354) (by decide +kernel)⟩
theorem lw_p40 : lw_okq (⟨"CoffeeThatSlopsModel", "over", "(II)I"⟩, 66) := ⟨⟨by decide +kernel, by decide +kernel⟩, List.mem_of_getElem? (i := 1087) (by decide +kernel), List.mem_of_getElem? (i := 1357) (by decide +kernel), List.mem_of_getElem? (i := 1358) (by decide +kernel)⟩
theorem lw_p41 : lw_okq (⟨"CoffeeThatSlopsModel", "lost", "()I"⟩, 66) := ⟨⟨by decide +kernel, by decide +kernel⟩, List.mem_of_getElem? (i := 1087) (by decide +kernel), List.mem_of_getElem? (i := 1365) (by decide +kernel), List.mem_of_getElem? (i := 1366) (by decide +kernel)⟩
theorem lw_p42 : lw_okq (⟨"CoffeeThatSlopsModel", "start", "([BII)V"⟩, 66) := ⟨⟨by decide +kernel, by decide +kernel⟩, List.mem_of_getElem? (i := 1087) (by decide +kernel), List.mem_of_getElem? (i := 1385) (by decide +kernel), List.mem_of_getElem? (i := 1386) (by decide +kernel)⟩
theorem lw_p43 : lw_okq (⟨"CoffeeThatSlopsModel", "here", "()I"⟩, 66) := ⟨⟨by decide +kernel, by decide +kernel⟩, List.mem_of_getElem? (i := 1087) (by decide +kernel), List.mem_of_getElem? (i := 1389) (by decide +kernel), List.mem_of_getElem? (i := 1390) (by decide +kernel)⟩
theorem lw_p44 : lw_okq (⟨"CoffeeThatSlopsModel", "number", "(II)I"⟩, 66) := ⟨⟨by decide +kernel, by decide +kernel⟩, List.mem_of_getElem? (i := 1087) (by decide +kernel), List.mem_of_getElem? (i := 1393) (by decide +kernel), List.mem_of_getElem? (i := 1394) (by decide +kernel)⟩
theorem lw_p45 : lw_okq (⟨"CoffeeThatSlopsModel", "fine", "()Z"⟩, 66) := ⟨⟨by decide +kernel, by decide +kernel⟩, List.mem_of_getElem? (i := 1087) (by decide +kernel), List.mem_of_getElem? (i := 1397) (by decide +kernel), List.mem_of_getElem? (i := 1398) (by decide +kernel)⟩
theorem lw_p46 : lw_okq (⟨"CoffeeThatSlopsModel", "fault", "(I)V"⟩, 66) := ⟨⟨by decide +kernel, by decide +kernel⟩, List.mem_of_getElem? (i := 1087) (by decide +kernel), List.mem_of_getElem? (i := 1401) (by decide +kernel), List.mem_of_getElem? (i := 1402) (by decide +kernel)⟩
theorem lw_p47 : lw_okq (⟨"CoffeeThatSlopsModel", "need", "(C)V"⟩, 66) := ⟨⟨by decide +kernel, by decide +kernel⟩, List.mem_of_getElem? (i := 1087) (by decide +kernel), List.mem_of_getElem? (i := 1405) (by decide +kernel), List.mem_of_getElem? (i := 1406) (by decide +kernel)⟩
def lw_privs_3 : List (MethodName × Nat) := [(⟨"CoffeeThatSlops", "toldLawBits", "()I"⟩, 17), (⟨"java/lang/Throwable", "fillInStackTrace", "(I)Ljava/lang/Throwable;"⟩, 6), (⟨"CoffeeThatSlopsModel", "begin", "()V"⟩, 66), (⟨"CoffeeThatSlopsModel", "isGap", "(I)Z"⟩, 66), (⟨"CoffeeThatSlopsModel", "lean", "(II)V"⟩, 66), (⟨"CoffeeThatSlopsModel", "pass", "(II)I"⟩, 66), (⟨"CoffeeThatSlopsModel", "slope", "()I"⟩, 66), (⟨"CoffeeThatSlopsModel", "flows", "(II)V"⟩, 66), (⟨"CoffeeThatSlopsModel", "over", "(II)I"⟩, 66), (⟨"CoffeeThatSlopsModel", "lost", "()I"⟩, 66), (⟨"CoffeeThatSlopsModel", "start", "([BII)V"⟩, 66), (⟨"CoffeeThatSlopsModel", "here", "()I"⟩, 66), (⟨"CoffeeThatSlopsModel", "number", "(II)I"⟩, 66), (⟨"CoffeeThatSlopsModel", "fine", "()Z"⟩, 66), (⟨"CoffeeThatSlopsModel", "fault", "(I)V"⟩, 66), (⟨"CoffeeThatSlopsModel", "need", "(C)V"⟩, 66)]
theorem lw_r3 : ∀ q ∈ lw_privs_3, lw_okq q := List.forall_mem_cons.mpr ⟨lw_p32, List.forall_mem_cons.mpr ⟨lw_p33, List.forall_mem_cons.mpr ⟨lw_p34, List.forall_mem_cons.mpr ⟨lw_p35, List.forall_mem_cons.mpr ⟨lw_p36, List.forall_mem_cons.mpr ⟨lw_p37, List.forall_mem_cons.mpr ⟨lw_p38, List.forall_mem_cons.mpr ⟨lw_p39, List.forall_mem_cons.mpr ⟨lw_p40, List.forall_mem_cons.mpr ⟨lw_p41, List.forall_mem_cons.mpr ⟨lw_p42, List.forall_mem_cons.mpr ⟨lw_p43, List.forall_mem_cons.mpr ⟨lw_p44, List.forall_mem_cons.mpr ⟨lw_p45, List.forall_mem_cons.mpr ⟨lw_p46, List.forall_mem_cons.mpr ⟨lw_p47, fun _ h => absurd h List.not_mem_nil⟩⟩⟩⟩⟩⟩⟩⟩⟩⟩⟩⟩⟩⟩⟩⟩
theorem lw_p48 : lw_okq (⟨"CoffeeThatSlopsModel", "passes", "(C)Z"⟩, 66) := ⟨⟨by decide +kernel, by decide +kernel⟩, List.mem_of_getElem? (i := 1087) (by decide +kernel), List.mem_of_getElem? (i := 1409) (by decide +kernel), List.mem_of_getElem? (i := 1410) (by decide +kernel)⟩
theorem lw_p49 : lw_okq (⟨"CoffeeThatSlopsModel", "lay", "(III)V"⟩, 66) := ⟨⟨by decide +kernel, by decide +kernel⟩, List.mem_of_getElem? (i := 1087) (by decide +kernel), List.mem_of_getElem? (i := 1413) (by decide +kernel), List.mem_of_getElem? (i := 1414) (by decide +kernel)⟩
theorem lw_p50 : lw_okq (⟨"CoffeeThatSlopsModel", "tell", "(J)V"⟩, 66) := ⟨⟨by decide +kernel, by decide +kernel⟩, List.mem_of_getElem? (i := 1087) (by decide +kernel), List.mem_of_getElem? (i := 1425) (by decide +kernel), List.mem_of_getElem? (i := 1426) (by decide +kernel)⟩
theorem lw_p51 : lw_okq (⟨"CoffeeThatSlopsModel", "sum", "(I)I"⟩, 66) := ⟨⟨by decide +kernel, by decide +kernel⟩, List.mem_of_getElem? (i := 1087) (by decide +kernel), List.mem_of_getElem? (i := 1433) (by decide +kernel), List.mem_of_getElem? (i := 1434) (by decide +kernel)⟩
theorem lw_p52 : lw_okq (⟨"CoffeeThatSlopsModel", "product", "(I)I"⟩, 66) := ⟨⟨by decide +kernel, by decide +kernel⟩, List.mem_of_getElem? (i := 1087) (by decide +kernel), List.mem_of_getElem? (i := 1437) (by decide +kernel), List.mem_of_getElem? (i := 1438) (by decide +kernel)⟩
theorem lw_p53 : lw_okq (⟨"CoffeeThatSlopsModel", "thing", "(I)I"⟩, 66) := ⟨⟨by decide +kernel, by decide +kernel⟩, List.mem_of_getElem? (i := 1087) (by decide +kernel), List.mem_of_getElem? (i := 1441) (by decide +kernel), List.mem_of_getElem? (i := 1442) (by decide +kernel)⟩
theorem lw_p54 : lw_okq (⟨"CoffeeThatSlopsModel", "isLaw", "(I)Z"⟩, 66) := ⟨⟨by decide +kernel, by decide +kernel⟩, List.mem_of_getElem? (i := 1087) (by decide +kernel), List.mem_of_getElem? (i := 1449) (by decide +kernel), List.mem_of_getElem? (i := 1450) (by decide +kernel)⟩
theorem lw_p55 : lw_okq (⟨"CoffeeThatSlopsModel", "byHand", "(II)I"⟩, 66) := ⟨⟨by decide +kernel, by decide +kernel⟩, List.mem_of_getElem? (i := 1087) (by decide +kernel), List.mem_of_getElem? (i := 1453) (by decide +kernel), List.mem_of_getElem? (i := 1454) (by decide +kernel)⟩
theorem lw_p56 : lw_okq (⟨"CoffeeThatSlopsModel", "byLaw", "(IIIII)I"⟩, 66) := ⟨⟨by decide +kernel, by decide +kernel⟩, List.mem_of_getElem? (i := 1087) (by decide +kernel), List.mem_of_getElem? (i := 1457) (by decide +kernel), List.mem_of_getElem? (i := 1458) (by decide +kernel)⟩
theorem lw_p57 : lw_okq (⟨"CoffeeThatSlopsModel", "watch", "()V"⟩, 66) := ⟨⟨by decide +kernel, by decide +kernel⟩, List.mem_of_getElem? (i := 1087) (by decide +kernel), List.mem_of_getElem? (i := 1468) (by decide +kernel), List.mem_of_getElem? (i := 1469) (by decide +kernel)⟩
theorem lw_p58 : lw_okq (⟨"CoffeeThatSlopsModel", "goOn", "(IIII)I"⟩, 66) := ⟨⟨by decide +kernel, by decide +kernel⟩, List.mem_of_getElem? (i := 1087) (by decide +kernel), List.mem_of_getElem? (i := 1472) (by decide +kernel), List.mem_of_getElem? (i := 1473) (by decide +kernel)⟩
theorem lw_p59 : lw_okq (⟨"CoffeeThatSlopsModel", "draw", "(I)I"⟩, 66) := ⟨⟨by decide +kernel, by decide +kernel⟩, List.mem_of_getElem? (i := 1087) (by decide +kernel), List.mem_of_getElem? (i := 1476) (by decide +kernel), List.mem_of_getElem? (i := 1477) (by decide +kernel)⟩
theorem lw_p60 : lw_okq (⟨"CoffeeThatSlopsModel", "passWatched", "(III)I"⟩, 66) := ⟨⟨by decide +kernel, by decide +kernel⟩, List.mem_of_getElem? (i := 1087) (by decide +kernel), List.mem_of_getElem? (i := 1481) (by decide +kernel), List.mem_of_getElem? (i := 1482) (by decide +kernel)⟩
theorem lw_p61 : lw_okq (⟨"CoffeeThatSlopsModel", "letGo", "(II)V"⟩, 66) := ⟨⟨by decide +kernel, by decide +kernel⟩, List.mem_of_getElem? (i := 1087) (by decide +kernel), List.mem_of_getElem? (i := 1492) (by decide +kernel), List.mem_of_getElem? (i := 1493) (by decide +kernel)⟩
theorem lw_p62 : lw_okq (⟨"CoffeeThatSlopsModel", "putBy", "(I)V"⟩, 66) := ⟨⟨by decide +kernel, by decide +kernel⟩, List.mem_of_getElem? (i := 1087) (by decide +kernel), List.mem_of_getElem? (i := 1496) (by decide +kernel), List.mem_of_getElem? (i := 1497) (by decide +kernel)⟩
theorem lw_p63 : lw_okq (⟨"CoffeeThatSlopsModel", "put", "(I)V"⟩, 66) := ⟨⟨by decide +kernel, by decide +kernel⟩, List.mem_of_getElem? (i := 1087) (by decide +kernel), List.mem_of_getElem? (i := 1500) (by decide +kernel), List.mem_of_getElem? (i := 1501) (by decide +kernel)⟩
def lw_privs_4 : List (MethodName × Nat) := [(⟨"CoffeeThatSlopsModel", "passes", "(C)Z"⟩, 66), (⟨"CoffeeThatSlopsModel", "lay", "(III)V"⟩, 66), (⟨"CoffeeThatSlopsModel", "tell", "(J)V"⟩, 66), (⟨"CoffeeThatSlopsModel", "sum", "(I)I"⟩, 66), (⟨"CoffeeThatSlopsModel", "product", "(I)I"⟩, 66), (⟨"CoffeeThatSlopsModel", "thing", "(I)I"⟩, 66), (⟨"CoffeeThatSlopsModel", "isLaw", "(I)Z"⟩, 66), (⟨"CoffeeThatSlopsModel", "byHand", "(II)I"⟩, 66), (⟨"CoffeeThatSlopsModel", "byLaw", "(IIIII)I"⟩, 66), (⟨"CoffeeThatSlopsModel", "watch", "()V"⟩, 66), (⟨"CoffeeThatSlopsModel", "goOn", "(IIII)I"⟩, 66), (⟨"CoffeeThatSlopsModel", "draw", "(I)I"⟩, 66), (⟨"CoffeeThatSlopsModel", "passWatched", "(III)I"⟩, 66), (⟨"CoffeeThatSlopsModel", "letGo", "(II)V"⟩, 66), (⟨"CoffeeThatSlopsModel", "putBy", "(I)V"⟩, 66), (⟨"CoffeeThatSlopsModel", "put", "(I)V"⟩, 66)]
theorem lw_r4 : ∀ q ∈ lw_privs_4, lw_okq q := List.forall_mem_cons.mpr ⟨lw_p48, List.forall_mem_cons.mpr ⟨lw_p49, List.forall_mem_cons.mpr ⟨lw_p50, List.forall_mem_cons.mpr ⟨lw_p51, List.forall_mem_cons.mpr ⟨lw_p52, List.forall_mem_cons.mpr ⟨lw_p53, List.forall_mem_cons.mpr ⟨lw_p54, List.forall_mem_cons.mpr ⟨lw_p55, List.forall_mem_cons.mpr ⟨lw_p56, List.forall_mem_cons.mpr ⟨lw_p57, List.forall_mem_cons.mpr ⟨lw_p58, List.forall_mem_cons.mpr ⟨lw_p59, List.forall_mem_cons.mpr ⟨lw_p60, List.forall_mem_cons.mpr ⟨lw_p61, List.forall_mem_cons.mpr ⟨lw_p62, List.forall_mem_cons.mpr ⟨lw_p63, fun _ h => absurd h List.not_mem_nil⟩⟩⟩⟩⟩⟩⟩⟩⟩⟩⟩⟩⟩⟩⟩⟩
theorem lw_p64 : lw_okq (⟨"CoffeeThatSlopsModel", "bringBack", "(I)V"⟩, 66) := ⟨⟨by decide +kernel, by decide +kernel⟩, List.mem_of_getElem? (i := 1087) (by decide +kernel), List.mem_of_getElem? (i := 1504) (by decide +kernel), List.mem_of_getElem? (i := 1505) (by decide +kernel)⟩
theorem lw_p65 : lw_okq (⟨"CoffeeThatSlopsModel", "take", "()I"⟩, 66) := ⟨⟨by decide +kernel, by decide +kernel⟩, List.mem_of_getElem? (i := 1087) (by decide +kernel), List.mem_of_getElem? (i := 1508) (by decide +kernel), List.mem_of_getElem? (i := 1509) (by decide +kernel)⟩
theorem lw_p66 : lw_okq (⟨"CoffeeThatSlopsModel", "wholly", "(II)I"⟩, 66) := ⟨⟨by decide +kernel, by decide +kernel⟩, List.mem_of_getElem? (i := 1087) (by decide +kernel), List.mem_of_getElem? (i := 1524) (by decide +kernel), List.mem_of_getElem? (i := 1525) (by decide +kernel)⟩
theorem lw_p67 : lw_okq (⟨"CoffeeThatSlopsModel", "tellPart", "(JJ)V"⟩, 66) := ⟨⟨by decide +kernel, by decide +kernel⟩, List.mem_of_getElem? (i := 1087) (by decide +kernel), List.mem_of_getElem? (i := 1532) (by decide +kernel), List.mem_of_getElem? (i := 1533) (by decide +kernel)⟩
theorem lw_p68 : lw_okq (⟨"CoffeeThatSlopsModel", "planFrom", "(III)V"⟩, 66) := ⟨⟨by decide +kernel, by decide +kernel⟩, List.mem_of_getElem? (i := 1087) (by decide +kernel), List.mem_of_getElem? (i := 1555) (by decide +kernel), List.mem_of_getElem? (i := 1556) (by decide +kernel)⟩
theorem lw_p69 : lw_okq (⟨"CoffeeThatSlopsModel", "keepPlan", "(I)I"⟩, 66) := ⟨⟨by decide +kernel, by decide +kernel⟩, List.mem_of_getElem? (i := 1087) (by decide +kernel), List.mem_of_getElem? (i := 1559) (by decide +kernel), List.mem_of_getElem? (i := 1560) (by decide +kernel)⟩
theorem lw_p70 : lw_okq (⟨"CoffeeThatSlopsModel", "fromPlan", "(I)V"⟩, 66) := ⟨⟨by decide +kernel, by decide +kernel⟩, List.mem_of_getElem? (i := 1087) (by decide +kernel), List.mem_of_getElem? (i := 1563) (by decide +kernel), List.mem_of_getElem? (i := 1564) (by decide +kernel)⟩
theorem lw_p71 : lw_okq (⟨"CoffeeThatSlopsModel", "leastOf", "(IIII)I"⟩, 66) := ⟨⟨by decide +kernel, by decide +kernel⟩, List.mem_of_getElem? (i := 1087) (by decide +kernel), List.mem_of_getElem? (i := 1575) (by decide +kernel), List.mem_of_getElem? (i := 1576) (by decide +kernel)⟩
theorem lw_p72 : lw_okq (⟨"CoffeeThatSlopsModel", "greatestSlope", "(III)I"⟩, 66) := ⟨⟨by decide +kernel, by decide +kernel⟩, List.mem_of_getElem? (i := 1087) (by decide +kernel), List.mem_of_getElem? (i := 1583) (by decide +kernel), List.mem_of_getElem? (i := 1584) (by decide +kernel)⟩
theorem lw_p73 : lw_okq (⟨"CoffeeThatSlopsModel", "withPause", "(IIII)I"⟩, 66) := ⟨⟨by decide +kernel, by decide +kernel⟩, List.mem_of_getElem? (i := 1087) (by decide +kernel), List.mem_of_getElem? (i := 1607) (by decide +kernel), List.mem_of_getElem? (i := 1608) (by decide +kernel)⟩
theorem lw_p74 : lw_okq (⟨"CoffeeThatSlopsModel", "farFrom", "(II)I"⟩, 66) := ⟨⟨by decide +kernel, by decide +kernel⟩, List.mem_of_getElem? (i := 1087) (by decide +kernel), List.mem_of_getElem? (i := 1643) (by decide +kernel), List.mem_of_getElem? (i := 1644) (by decide +kernel)⟩
def lw_privs_5 : List (MethodName × Nat) := [(⟨"CoffeeThatSlopsModel", "bringBack", "(I)V"⟩, 66), (⟨"CoffeeThatSlopsModel", "take", "()I"⟩, 66), (⟨"CoffeeThatSlopsModel", "wholly", "(II)I"⟩, 66), (⟨"CoffeeThatSlopsModel", "tellPart", "(JJ)V"⟩, 66), (⟨"CoffeeThatSlopsModel", "planFrom", "(III)V"⟩, 66), (⟨"CoffeeThatSlopsModel", "keepPlan", "(I)I"⟩, 66), (⟨"CoffeeThatSlopsModel", "fromPlan", "(I)V"⟩, 66), (⟨"CoffeeThatSlopsModel", "leastOf", "(IIII)I"⟩, 66), (⟨"CoffeeThatSlopsModel", "greatestSlope", "(III)I"⟩, 66), (⟨"CoffeeThatSlopsModel", "withPause", "(IIII)I"⟩, 66), (⟨"CoffeeThatSlopsModel", "farFrom", "(II)I"⟩, 66)]
theorem lw_r5 : ∀ q ∈ lw_privs_5, lw_okq q := List.forall_mem_cons.mpr ⟨lw_p64, List.forall_mem_cons.mpr ⟨lw_p65, List.forall_mem_cons.mpr ⟨lw_p66, List.forall_mem_cons.mpr ⟨lw_p67, List.forall_mem_cons.mpr ⟨lw_p68, List.forall_mem_cons.mpr ⟨lw_p69, List.forall_mem_cons.mpr ⟨lw_p70, List.forall_mem_cons.mpr ⟨lw_p71, List.forall_mem_cons.mpr ⟨lw_p72, List.forall_mem_cons.mpr ⟨lw_p73, List.forall_mem_cons.mpr ⟨lw_p74, fun _ h => absurd h List.not_mem_nil⟩⟩⟩⟩⟩⟩⟩⟩⟩⟩⟩
def lw_privs : List (MethodName × Nat) := lw_privs_1 ++ (lw_privs_2 ++ (lw_privs_3 ++ (lw_privs_4 ++ (lw_privs_5))))
def lw_tbl : List Cond := k2_sels lw_privs ++ tables_1
theorem lw_privs_ok : ∀ q ∈ lw_privs, lw_okq q := by
  show ∀ q ∈ lw_privs_1 ++ (lw_privs_2 ++ (lw_privs_3 ++ (lw_privs_4 ++ (lw_privs_5)))), lw_okq q
  exact List.forall_mem_append.mpr ⟨lw_r1, List.forall_mem_append.mpr ⟨lw_r2, List.forall_mem_append.mpr ⟨lw_r3, List.forall_mem_append.mpr ⟨lw_r4, lw_r5⟩⟩⟩⟩

/-! ===== BEGIN printed: names, fields, word lists, decode rows ===== -/
def RX0 : String := "CoffeeThatSlops$Cup"
def TX0 : u_T := fun k => match k with
  | 0 => ("CoffeeThatSlops$Cup", "last", "I", false)
  | 1 => ("CoffeeThatSlops$Cup", "rim", "I", false)
  | 2 => ("CoffeeThatSlops$Cup", "fill", "I", false)
  | 3 => ("CoffeeThatSlops$Cup", "settings", "[I", true)
  | _ => ("CoffeeThatSlops$Cup", "holes", "[I", true)
def tyX0 : Nat → FieldType := fun k => match k with
  | 0 => .int
  | 1 => .int
  | 2 => .int
  | 3 => .array .int
  | _ => .array .int
abbrev wsX00 : List Cond := u_ws RX0 TX0 5
theorem nmX0 : ∀ a, a < 5 → ∀ b, b < 5 → a ≠ b → (TX0 a).2.1 ≠ (TX0 b).2.1 := by decide +kernel
theorem tyX0_ok : ∀ k, k < 5 → parseFieldDescriptor (TX0 k).2.2.1 = some (tyX0 k) := by decide +kernel
abbrev cX0_init : ByteArray := prog_2_method_1_code
def yX0_init : MethodName := ⟨RX0, "<init>", "()V"⟩
abbrev cX0_copy : ByteArray := prog_2_method_2_code
def yX0_copy : MethodName := ⟨RX0, "copy", "(LCoffeeThatSlops$Cup;)V"⟩
abbrev cX0_openAll : ByteArray := prog_2_method_3_code
def yX0_openAll : MethodName := ⟨RX0, "openAll", "()V"⟩
abbrev cX0_wallCount : ByteArray := prog_2_method_4_code
def yX0_wallCount : MethodName := ⟨RX0, "wallCount", "()I"⟩
def RX1 : String := "CoffeeThatSlops$Films"
def TX1 : u_T := fun k => match k with
  | 0 => ("CoffeeThatSlops$Films", "push", "[I", true)
  | 1 => ("CoffeeThatSlops$Films", "slope", "[I", true)
  | 2 => ("CoffeeThatSlops$Films", "tick", "[I", true)
  | 3 => ("CoffeeThatSlops$Films", "given", "[I", true)
  | _ => ("CoffeeThatSlops$Films", "count", "I", false)
def tyX1 : Nat → FieldType := fun k => match k with
  | 0 => .array .int
  | 1 => .array .int
  | 2 => .array .int
  | 3 => .array .int
  | _ => .int
abbrev wsX10 : List Cond := u_ws RX1 TX1 5
theorem nmX1 : ∀ a, a < 5 → ∀ b, b < 5 → a ≠ b → (TX1 a).2.1 ≠ (TX1 b).2.1 := by decide +kernel
theorem tyX1_ok : ∀ k, k < 5 → parseFieldDescriptor (TX1 k).2.2.1 = some (tyX1 k) := by decide +kernel
abbrev cX1_init : ByteArray := prog_3_method_1_code
def yX1_init : MethodName := ⟨RX1, "<init>", "()V"⟩
abbrev cX1_add : ByteArray := prog_3_method_2_code
def yX1_add : MethodName := ⟨RX1, "add", "(IIII)Z"⟩
abbrev cX1_offByLaw : ByteArray := prog_3_method_3_code
def yX1_offByLaw : MethodName := ⟨RX1, "offByLaw", "(ILCoffeeThatSlops$Law;LCoffeeThatSlops$Cup;)I"⟩
abbrev cX1_offByTenths : ByteArray := prog_3_method_4_code
def yX1_offByTenths : MethodName := ⟨RX1, "offByTenths", "(II)I"⟩
def RX2 : String := "CoffeeThatSlops$Law"
def TX2 : u_T := fun k => match k with
  | 0 => ("CoffeeThatSlops$Law", "code", "[I", true)
  | 1 => ("CoffeeThatSlops$Law", "stack", "[I", true)
  | _ => ("CoffeeThatSlops$Law", "size", "I", false)
def tyX2 : Nat → FieldType := fun k => match k with
  | 0 => .array .int
  | 1 => .array .int
  | _ => .int
abbrev wsX20 : List Cond := u_ws RX2 TX2 3
theorem nmX2 : ∀ a, a < 3 → ∀ b, b < 3 → a ≠ b → (TX2 a).2.1 ≠ (TX2 b).2.1 := by decide +kernel
theorem tyX2_ok : ∀ k, k < 3 → parseFieldDescriptor (TX2 k).2.2.1 = some (tyX2 k) := by decide +kernel
abbrev cX2_init : ByteArray := prog_4_method_1_code
def yX2_init : MethodName := ⟨RX2, "<init>", "()V"⟩
abbrev cX2_read : ByteArray := prog_4_method_2_code
def yX2_read : MethodName := ⟨RX2, "read", "(LCoffeeThatSlops$Text;)V"⟩
abbrev cX2_readSum : ByteArray := prog_4_method_3_code
def yX2_readSum : MethodName := ⟨RX2, "readSum", "(LCoffeeThatSlops$Text;I)V"⟩
abbrev cX2_readProduct : ByteArray := prog_4_method_4_code
def yX2_readProduct : MethodName := ⟨RX2, "readProduct", "(LCoffeeThatSlops$Text;I)V"⟩
abbrev cX2_readThing : ByteArray := prog_4_method_5_code
def yX2_readThing : MethodName := ⟨RX2, "readThing", "(LCoffeeThatSlops$Text;I)V"⟩
abbrev cX2_readName : ByteArray := prog_4_method_6_code
def yX2_readName : MethodName := ⟨RX2, "readName", "(LCoffeeThatSlops$Text;)V"⟩
abbrev cX2_emit : ByteArray := prog_4_method_7_code
def yX2_emit : MethodName := ⟨RX2, "emit", "(I)V"⟩
abbrev cX2_bounded : ByteArray := prog_4_method_8_code
def yX2_bounded : MethodName := ⟨RX2, "bounded", "(IIIII)I"⟩
abbrev cX2_joined : ByteArray := prog_4_method_9_code
def yX2_joined : MethodName := ⟨RX2, "joined", "(III)I"⟩
abbrev cX2_named : ByteArray := prog_4_method_10_code
def yX2_named : MethodName := ⟨RX2, "named", "(IIIIII)I"⟩
def RX3 : String := "CoffeeThatSlops$Planner"
def TX3 : u_T := fun k => match k with
  | 0 => ("CoffeeThatSlops$Planner", "cup", "LCoffeeThatSlops$Cup;", true)
  | 1 => ("CoffeeThatSlops$Planner", "law", "LCoffeeThatSlops$Law;", false)
  | 2 => ("CoffeeThatSlops$Planner", "states", "[LCoffeeThatSlops$State;", true)
  | 3 => ("CoffeeThatSlops$Planner", "chosen", "[I", true)
  | 4 => ("CoffeeThatSlops$Planner", "goal", "I", false)
  | 5 => ("CoffeeThatSlops$Planner", "best", "[I", true)
  | 6 => ("CoffeeThatSlops$Planner", "bestLength", "I", false)
  | _ => ("CoffeeThatSlops$Planner", "bestTicks", "I", false)
def tyX3 : Nat → FieldType := fun k => match k with
  | 0 => .object "CoffeeThatSlops$Cup"
  | 1 => .object "CoffeeThatSlops$Law"
  | 2 => .array (.object "CoffeeThatSlops$State")
  | 3 => .array .int
  | 4 => .int
  | 5 => .array .int
  | 6 => .int
  | _ => .int
abbrev wsX30 : List Cond := u_ws RX3 TX3 8
theorem nmX3 : ∀ a, a < 8 → ∀ b, b < 8 → a ≠ b → (TX3 a).2.1 ≠ (TX3 b).2.1 := by decide +kernel
theorem tyX3_ok : ∀ k, k < 8 → parseFieldDescriptor (TX3 k).2.2.1 = some (tyX3 k) := by decide +kernel
abbrev cX3_init : ByteArray := prog_5_method_1_code
def yX3_init : MethodName := ⟨RX3, "<init>", "()V"⟩
abbrev cX3_begin : ByteArray := prog_5_method_2_code
def yX3_begin : MethodName := ⟨RX3, "begin", "(LCoffeeThatSlops$Cup;LCoffeeThatSlops$Law;I)V"⟩
abbrev cX3_carries : ByteArray := prog_5_method_3_code
def yX3_carries : MethodName := ⟨RX3, "carries", "(ILCoffeeThatSlops$Walk;)Z"⟩
abbrev cX3_choose : ByteArray := prog_5_method_4_code
def yX3_choose : MethodName := ⟨RX3, "choose", "(II)V"⟩
abbrev cX3_noteBest : ByteArray := prog_5_method_5_code
def yX3_noteBest : MethodName := ⟨RX3, "noteBest", "(II)V"⟩
def RX4 : String := "CoffeeThatSlops$Row"
def TX4 : u_T := fun k => match k with
  | 0 => ("CoffeeThatSlops$Row", "heights", "[I", true)
  | 1 => ("CoffeeThatSlops$Row", "flows", "[I", true)
  | _ => ("CoffeeThatSlops$Row", "spilt", "I", false)
def tyX4 : Nat → FieldType := fun k => match k with
  | 0 => .array .int
  | 1 => .array .int
  | _ => .int
abbrev wsX40 : List Cond := u_ws RX4 TX4 3
theorem nmX4 : ∀ a, a < 3 → ∀ b, b < 3 → a ≠ b → (TX4 a).2.1 ≠ (TX4 b).2.1 := by decide +kernel
theorem tyX4_ok : ∀ k, k < 3 → parseFieldDescriptor (TX4 k).2.2.1 = some (tyX4 k) := by decide +kernel
abbrev cX4_init : ByteArray := prog_6_method_1_code
def yX4_init : MethodName := ⟨RX4, "<init>", "()V"⟩
abbrev cX4_freshen : ByteArray := prog_6_method_2_code
def yX4_freshen : MethodName := ⟨RX4, "freshen", "(LCoffeeThatSlops$Cup;)V"⟩
abbrev cX4_copy : ByteArray := prog_6_method_3_code
def yX4_copy : MethodName := ⟨RX4, "copy", "(LCoffeeThatSlops$Row;)V"⟩
abbrev cX4_lean : ByteArray := prog_6_method_4_code
def yX4_lean : MethodName := ⟨RX4, "lean", "(LCoffeeThatSlops$Cup;I)V"⟩
abbrev cX4_pass : ByteArray := prog_6_method_5_code
def yX4_pass : MethodName := ⟨RX4, "pass", "(LCoffeeThatSlops$Cup;I)I"⟩
abbrev cX4_drive : ByteArray := prog_6_method_6_code
def yX4_drive : MethodName := ⟨RX4, "drive", "(LCoffeeThatSlops$Cup;I)V"⟩
abbrev cX4_move : ByteArray := prog_6_method_7_code
def yX4_move : MethodName := ⟨RX4, "move", "(I)V"⟩
abbrev cX4_runOver : ByteArray := prog_6_method_8_code
def yX4_runOver : MethodName := ⟨RX4, "runOver", "(LCoffeeThatSlops$Cup;I)I"⟩
abbrev cX4_slope : ByteArray := prog_6_method_9_code
def yX4_slope : MethodName := ⟨RX4, "slope", "(LCoffeeThatSlops$Cup;)I"⟩
abbrev cX4_higherEnd : ByteArray := prog_6_method_10_code
def yX4_higherEnd : MethodName := ⟨RX4, "higherEnd", "(LCoffeeThatSlops$Cup;)I"⟩
abbrev cX4_contents : ByteArray := prog_6_method_11_code
def yX4_contents : MethodName := ⟨RX4, "contents", "(LCoffeeThatSlops$Cup;)I"⟩
abbrev cX4_greatest : ByteArray := prog_6_method_12_code
def yX4_greatest : MethodName := ⟨RX4, "greatest", "(LCoffeeThatSlops$Cup;)I"⟩
abbrev cX4_restlessness : ByteArray := prog_6_method_13_code
def yX4_restlessness : MethodName := ⟨RX4, "restlessness", "(LCoffeeThatSlops$Cup;)J"⟩
def RX5 : String := "CoffeeThatSlops$State"
def TX5 : u_T := fun k => match k with
  | 0 => ("CoffeeThatSlops$State", "tick", "I", false)
  | 1 => ("CoffeeThatSlops$State", "drawn", "I", false)
  | 2 => ("CoffeeThatSlops$State", "along", "LCoffeeThatSlops$Row;", true)
  | 3 => ("CoffeeThatSlops$State", "across", "LCoffeeThatSlops$Row;", true)
  | _ => ("CoffeeThatSlops$State", "seen", "[I", true)
def tyX5 : Nat → FieldType := fun k => match k with
  | 0 => .int
  | 1 => .int
  | 2 => .object "CoffeeThatSlops$Row"
  | 3 => .object "CoffeeThatSlops$Row"
  | _ => .array .int
abbrev wsX50 : List Cond := u_ws RX5 TX5 5
theorem nmX5 : ∀ a, a < 5 → ∀ b, b < 5 → a ≠ b → (TX5 a).2.1 ≠ (TX5 b).2.1 := by decide +kernel
theorem tyX5_ok : ∀ k, k < 5 → parseFieldDescriptor (TX5 k).2.2.1 = some (tyX5 k) := by decide +kernel
abbrev cX5_init : ByteArray := prog_7_method_1_code
def yX5_init : MethodName := ⟨RX5, "<init>", "()V"⟩
abbrev cX5_freshen : ByteArray := prog_7_method_2_code
def yX5_freshen : MethodName := ⟨RX5, "freshen", "(LCoffeeThatSlops$Cup;)V"⟩
abbrev cX5_copy : ByteArray := prog_7_method_3_code
def yX5_copy : MethodName := ⟨RX5, "copy", "(LCoffeeThatSlops$State;)V"⟩
abbrev cX5_rowOf : ByteArray := prog_7_method_4_code
def yX5_rowOf : MethodName := ⟨RX5, "rowOf", "(I)LCoffeeThatSlops$Row;"⟩
abbrev cX5_pass : ByteArray := prog_7_method_5_code
def yX5_pass : MethodName := ⟨RX5, "pass", "(LCoffeeThatSlops$Cup;II)I"⟩
abbrev cX5_carry : ByteArray := prog_7_method_6_code
def yX5_carry : MethodName := ⟨RX5, "carry", "(LCoffeeThatSlops$Cup;LCoffeeThatSlops$Law;LCoffeeThatSlops$Walk;IZ)I"⟩
abbrev cX5_wander : ByteArray := prog_7_method_7_code
def yX5_wander : MethodName := ⟨RX5, "wander", "(I)I"⟩
abbrev cX5_given : ByteArray := prog_7_method_8_code
def yX5_given : MethodName := ⟨RX5, "given", "(LCoffeeThatSlops$Cup;LCoffeeThatSlops$Law;I)I"⟩
abbrev cX5_slopeSeen : ByteArray := prog_7_method_9_code
def yX5_slopeSeen : MethodName := ⟨RX5, "slopeSeen", "(LCoffeeThatSlops$Cup;)I"⟩
def RX6 : String := "CoffeeThatSlops$Text"
def TX6 : u_T := fun k => match k with
  | 0 => ("CoffeeThatSlops$Text", "signs", "[C", true)
  | 1 => ("CoffeeThatSlops$Text", "length", "I", false)
  | 2 => ("CoffeeThatSlops$Text", "at", "I", false)
  | 3 => ("CoffeeThatSlops$Text", "end", "I", false)
  | _ => ("CoffeeThatSlops$Text", "wrong", "I", false)
def tyX6 : Nat → FieldType := fun k => match k with
  | 0 => .array .char
  | 1 => .int
  | 2 => .int
  | 3 => .int
  | _ => .int
abbrev wsX60 : List Cond := u_ws RX6 TX6 5
theorem nmX6 : ∀ a, a < 5 → ∀ b, b < 5 → a ≠ b → (TX6 a).2.1 ≠ (TX6 b).2.1 := by decide +kernel
theorem tyX6_ok : ∀ k, k < 5 → parseFieldDescriptor (TX6 k).2.2.1 = some (tyX6 k) := by decide +kernel
abbrev cX6_init : ByteArray := prog_8_method_1_code
def yX6_init : MethodName := ⟨RX6, "<init>", "()V"⟩
abbrev cX6_add : ByteArray := prog_8_method_2_code
def yX6_add : MethodName := ⟨RX6, "add", "(I)Z"⟩
abbrev cX6_begin : ByteArray := prog_8_method_3_code
def yX6_begin : MethodName := ⟨RX6, "begin", "(I)Z"⟩
abbrev cX6_finish : ByteArray := prog_8_method_4_code
def yX6_finish : MethodName := ⟨RX6, "finish", "()I"⟩
abbrev cX6_isGood : ByteArray := prog_8_method_5_code
def yX6_isGood : MethodName := ⟨RX6, "isGood", "()Z"⟩
abbrev cX6_fail : ByteArray := prog_8_method_6_code
def yX6_fail : MethodName := ⟨RX6, "fail", "(I)V"⟩
abbrev cX6_failHere : ByteArray := prog_8_method_7_code
def yX6_failHere : MethodName := ⟨RX6, "failHere", "()V"⟩
abbrev cX6_failAtLastDigit : ByteArray := prog_8_method_8_code
def yX6_failAtLastDigit : MethodName := ⟨RX6, "failAtLastDigit", "()V"⟩
abbrev cX6_next : ByteArray := prog_8_method_9_code
def yX6_next : MethodName := ⟨RX6, "next", "()I"⟩
abbrev cX6_skip : ByteArray := prog_8_method_10_code
def yX6_skip : MethodName := ⟨RX6, "skip", "(C)Z"⟩
abbrev cX6_need : ByteArray := prog_8_method_11_code
def yX6_need : MethodName := ⟨RX6, "need", "(C)V"⟩
abbrev cX6_isAtDigit : ByteArray := prog_8_method_12_code
def yX6_isAtDigit : MethodName := ⟨RX6, "isAtDigit", "()Z"⟩
abbrev cX6_number : ByteArray := prog_8_method_13_code
def yX6_number : MethodName := ⟨RX6, "number", "(II)I"⟩
def RX7 : String := "CoffeeThatSlops$Trial"
def TX7 : u_T := fun k => match k with
  | 0 => ("CoffeeThatSlops$Trial", "cup", "LCoffeeThatSlops$Cup;", true)
  | 1 => ("CoffeeThatSlops$Trial", "law", "LCoffeeThatSlops$Law;", false)
  | 2 => ("CoffeeThatSlops$Trial", "state", "LCoffeeThatSlops$State;", true)
  | 3 => ("CoffeeThatSlops$Trial", "stopsAtSpill", "Z", false)
  | 4 => ("CoffeeThatSlops$Trial", "spilt", "I", false)
  | 5 => ("CoffeeThatSlops$Trial", "firstTick", "I", false)
  | 6 => ("CoffeeThatSlops$Trial", "greatest", "I", false)
  | 7 => ("CoffeeThatSlops$Trial", "greatestSlope", "I", false)
  | 8 => ("CoffeeThatSlops$Trial", "spillTicks", "[I", true)
  | 9 => ("CoffeeThatSlops$Trial", "spillCount", "I", false)
  | 10 => ("CoffeeThatSlops$Trial", "firsts", "[I", true)
  | _ => ("CoffeeThatSlops$Trial", "slopes", "[I", true)
def tyX7 : Nat → FieldType := fun k => match k with
  | 0 => .object "CoffeeThatSlops$Cup"
  | 1 => .object "CoffeeThatSlops$Law"
  | 2 => .object "CoffeeThatSlops$State"
  | 3 => .boolean
  | 4 => .int
  | 5 => .int
  | 6 => .int
  | 7 => .int
  | 8 => .array .int
  | 9 => .int
  | 10 => .array .int
  | _ => .array .int
abbrev wsX70 : List Cond := u_ws RX7 TX7 12
theorem nmX7 : ∀ a, a < 12 → ∀ b, b < 12 → a ≠ b → (TX7 a).2.1 ≠ (TX7 b).2.1 := by decide +kernel
theorem tyX7_ok : ∀ k, k < 12 → parseFieldDescriptor (TX7 k).2.2.1 = some (tyX7 k) := by decide +kernel
abbrev cX7_init : ByteArray := prog_9_method_1_code
def yX7_init : MethodName := ⟨RX7, "<init>", "()V"⟩
abbrev cX7_begin : ByteArray := prog_9_method_2_code
def yX7_begin : MethodName := ⟨RX7, "begin", "(I)V"⟩
abbrev cX7_spiltOn : ByteArray := prog_9_method_3_code
def yX7_spiltOn : MethodName := ⟨RX7, "spiltOn", "(LCoffeeThatSlops$Walk;I)I"⟩
abbrev cX7_keepsAll : ByteArray := prog_9_method_4_code
def yX7_keepsAll : MethodName := ⟨RX7, "keepsAll", "(LCoffeeThatSlops$Walk;)Z"⟩
abbrev cX7_spiltFrom : ByteArray := prog_9_method_5_code
def yX7_spiltFrom : MethodName := ⟨RX7, "spiltFrom", "(LCoffeeThatSlops$Walk;I)I"⟩
abbrev cX7_spiltWithTurn : ByteArray := prog_9_method_6_code
def yX7_spiltWithTurn : MethodName := ⟨RX7, "spiltWithTurn", "(LCoffeeThatSlops$Walk;I)I"⟩
abbrev cX7_spiltWithPause : ByteArray := prog_9_method_7_code
def yX7_spiltWithPause : MethodName := ⟨RX7, "spiltWithPause", "(LCoffeeThatSlops$Walk;II)I"⟩
abbrev cX7_through : ByteArray := prog_9_method_8_code
def yX7_through : MethodName := ⟨RX7, "through", "(LCoffeeThatSlops$Walk;IIZ)V"⟩
abbrev cX7_note : ByteArray := prog_9_method_9_code
def yX7_note : MethodName := ⟨RX7, "note", "(I)V"⟩
abbrev cX7_letGo : ByteArray := prog_9_method_10_code
def yX7_letGo : MethodName := ⟨RX7, "letGo", "(II)[I"⟩
abbrev cX7_clearFirsts : ByteArray := prog_9_method_11_code
def yX7_clearFirsts : MethodName := ⟨RX7, "clearFirsts", "()V"⟩
abbrev cX7_countFirst : ByteArray := prog_9_method_12_code
def yX7_countFirst : MethodName := ⟨RX7, "countFirst", "(I)V"⟩
abbrev cX7_mostOftenFirst : ByteArray := prog_9_method_13_code
def yX7_mostOftenFirst : MethodName := ⟨RX7, "mostOftenFirst", "()I"⟩
def RX8 : String := "CoffeeThatSlops$Walk"
def TX8 : u_T := fun k => match k with
  | 0 => ("CoffeeThatSlops$Walk", "along", "[I", true)
  | 1 => ("CoffeeThatSlops$Walk", "across", "[I", true)
  | 2 => ("CoffeeThatSlops$Walk", "wander", "[I", true)
  | 3 => ("CoffeeThatSlops$Walk", "step", "[I", true)
  | 4 => ("CoffeeThatSlops$Walk", "ticks", "I", false)
  | 5 => ("CoffeeThatSlops$Walk", "steps", "I", false)
  | _ => ("CoffeeThatSlops$Walk", "wanderNow", "I", false)
def tyX8 : Nat → FieldType := fun k => match k with
  | 0 => .array .int
  | 1 => .array .int
  | 2 => .array .int
  | 3 => .array .int
  | 4 => .int
  | 5 => .int
  | _ => .int
abbrev wsX80 : List Cond := u_ws RX8 TX8 7
theorem nmX8 : ∀ a, a < 7 → ∀ b, b < 7 → a ≠ b → (TX8 a).2.1 ≠ (TX8 b).2.1 := by decide +kernel
theorem tyX8_ok : ∀ k, k < 7 → parseFieldDescriptor (TX8 k).2.2.1 = some (tyX8 k) := by decide +kernel
abbrev cX8_init : ByteArray := prog_10_method_1_code
def yX8_init : MethodName := ⟨RX8, "<init>", "()V"⟩
abbrev cX8_clear : ByteArray := prog_10_method_2_code
def yX8_clear : MethodName := ⟨RX8, "clear", "()V"⟩
abbrev cX8_read : ByteArray := prog_10_method_3_code
def yX8_read : MethodName := ⟨RX8, "read", "(LCoffeeThatSlops$Text;)V"⟩
abbrev cX8_readPart : ByteArray := prog_10_method_4_code
def yX8_readPart : MethodName := ⟨RX8, "readPart", "(LCoffeeThatSlops$Text;)V"⟩
abbrev cX8_readSteps : ByteArray := prog_10_method_5_code
def yX8_readSteps : MethodName := ⟨RX8, "readSteps", "(LCoffeeThatSlops$Text;)V"⟩
abbrev cX8_readStand : ByteArray := prog_10_method_6_code
def yX8_readStand : MethodName := ⟨RX8, "readStand", "(LCoffeeThatSlops$Text;)V"⟩
abbrev cX8_readJerk : ByteArray := prog_10_method_7_code
def yX8_readJerk : MethodName := ⟨RX8, "readJerk", "(LCoffeeThatSlops$Text;)V"⟩
abbrev cX8_hasRoom : ByteArray := prog_10_method_8_code
def yX8_hasRoom : MethodName := ⟨RX8, "hasRoom", "(LCoffeeThatSlops$Text;I)Z"⟩
abbrev cX8_addSteps : ByteArray := prog_10_method_9_code
def yX8_addSteps : MethodName := ⟨RX8, "addSteps", "(IIII)V"⟩
abbrev cX8_addTick : ByteArray := prog_10_method_10_code
def yX8_addTick : MethodName := ⟨RX8, "addTick", "(III)V"⟩
abbrev cX8_stepAt : ByteArray := prog_10_method_11_code
def yX8_stepAt : MethodName := ⟨RX8, "stepAt", "(I)I"⟩
abbrev cX8_sizes : ByteArray := prog_10_method_12_code
def yX8_sizes : MethodName := ⟨RX8, "sizes", "([I)I"⟩
def RX9 : String := "CoffeeThatSlops"
def TX9 : u_T := fun k => match k with
  | 0 => ("CoffeeThatSlops", "cup", "LCoffeeThatSlops$Cup;", true)
  | 1 => ("CoffeeThatSlops", "state", "LCoffeeThatSlops$State;", true)
  | 2 => ("CoffeeThatSlops", "kept", "[LCoffeeThatSlops$State;", true)
  | 3 => ("CoffeeThatSlops", "keptBits", "I", false)
  | 4 => ("CoffeeThatSlops", "text", "LCoffeeThatSlops$Text;", true)
  | 5 => ("CoffeeThatSlops", "walks", "[LCoffeeThatSlops$Walk;", true)
  | 6 => ("CoffeeThatSlops", "metres", "[I", true)
  | 7 => ("CoffeeThatSlops", "spareWalk", "LCoffeeThatSlops$Walk;", false)
  | 8 => ("CoffeeThatSlops", "laws", "[LCoffeeThatSlops$Law;", true)
  | 9 => ("CoffeeThatSlops", "spareLaw", "LCoffeeThatSlops$Law;", false)
  | 10 => ("CoffeeThatSlops", "trial", "LCoffeeThatSlops$Trial;", true)
  | 11 => ("CoffeeThatSlops", "planner", "LCoffeeThatSlops$Planner;", true)
  | 12 => ("CoffeeThatSlops", "spots", "[I", true)
  | 13 => ("CoffeeThatSlops", "spotCount", "I", false)
  | 14 => ("CoffeeThatSlops", "films", "LCoffeeThatSlops$Films;", true)
  | 15 => ("CoffeeThatSlops", "told", "[J", true)
  | _ => ("CoffeeThatSlops", "toldCount", "I", false)
def tyX9 : Nat → FieldType := fun k => match k with
  | 0 => .object "CoffeeThatSlops$Cup"
  | 1 => .object "CoffeeThatSlops$State"
  | 2 => .array (.object "CoffeeThatSlops$State")
  | 3 => .int
  | 4 => .object "CoffeeThatSlops$Text"
  | 5 => .array (.object "CoffeeThatSlops$Walk")
  | 6 => .array .int
  | 7 => .object "CoffeeThatSlops$Walk"
  | 8 => .array (.object "CoffeeThatSlops$Law")
  | 9 => .object "CoffeeThatSlops$Law"
  | 10 => .object "CoffeeThatSlops$Trial"
  | 11 => .object "CoffeeThatSlops$Planner"
  | 12 => .array .int
  | 13 => .int
  | 14 => .object "CoffeeThatSlops$Films"
  | 15 => .array .long
  | _ => .int
abbrev wsX90 : List Cond := u_ws RX9 TX9 17
theorem nmX9 : ∀ a, a < 17 → ∀ b, b < 17 → a ≠ b → (TX9 a).2.1 ≠ (TX9 b).2.1 := by decide +kernel
theorem tyX9_ok : ∀ k, k < 17 → parseFieldDescriptor (TX9 k).2.2.1 = some (tyX9 k) := by decide +kernel
abbrev cX9_init : ByteArray := prog_1_method_1_code
def yX9_init : MethodName := ⟨RX9, "<init>", "()V"⟩
abbrev cX9_cup : ByteArray := prog_1_method_2_code
def yX9_cup : MethodName := ⟨RX9, "cup", "(III)Z"⟩
abbrev cX9_set : ByteArray := prog_1_method_3_code
def yX9_set : MethodName := ⟨RX9, "set", "(II)I"⟩
abbrev cX9_wall : ByteArray := prog_1_method_4_code
def yX9_wall : MethodName := ⟨RX9, "wall", "(II)I"⟩
abbrev cX9_sheet : ByteArray := prog_1_method_5_code
def yX9_sheet : MethodName := ⟨RX9, "sheet", "(IIII)I"⟩
abbrev cX9_fresh : ByteArray := prog_1_method_6_code
def yX9_fresh : MethodName := ⟨RX9, "fresh", "()I"⟩
abbrev cX9_tilt : ByteArray := prog_1_method_7_code
def yX9_tilt : MethodName := ⟨RX9, "tilt", "(II)Z"⟩
abbrev cX9_tick : ByteArray := prog_1_method_8_code
def yX9_tick : MethodName := ⟨RX9, "tick", "(II)I"⟩
abbrev cX9_cell : ByteArray := prog_1_method_9_code
def yX9_cell : MethodName := ⟨RX9, "cell", "(III)I"⟩
abbrev cX9_of : ByteArray := prog_1_method_10_code
def yX9_of : MethodName := ⟨RX9, "of", "(II)I"⟩
abbrev cX9_sheetEntry : ByteArray := prog_1_method_11_code
def yX9_sheetEntry : MethodName := ⟨RX9, "sheetEntry", "(II)I"⟩
abbrev cX9_sign : ByteArray := prog_1_method_12_code
def yX9_sign : MethodName := ⟨RX9, "sign", "(I)I"⟩
abbrev cX9_end : ByteArray := prog_1_method_13_code
def yX9_end : MethodName := ⟨RX9, "end", "(I)Z"⟩
abbrev cX9_walk : ByteArray := prog_1_method_14_code
def yX9_walk : MethodName := ⟨RX9, "walk", "(I)I"⟩
abbrev cX9_law : ByteArray := prog_1_method_15_code
def yX9_law : MethodName := ⟨RX9, "law", "(I)I"⟩
abbrev cX9_gives : ByteArray := prog_1_method_16_code
def yX9_gives : MethodName := ⟨RX9, "gives", "(II)I"⟩
abbrev cX9_steps : ByteArray := prog_1_method_17_code
def yX9_steps : MethodName := ⟨RX9, "steps", "(I)I"⟩
abbrev cX9_go : ByteArray := prog_1_method_18_code
def yX9_go : MethodName := ⟨RX9, "go", "(III)I"⟩
abbrev cX9_swing : ByteArray := prog_1_method_19_code
def yX9_swing : MethodName := ⟨RX9, "swing", "(I)I"⟩
abbrev cX9_dies : ByteArray := prog_1_method_20_code
def yX9_dies : MethodName := ⟨RX9, "dies", "(II)I"⟩
abbrev cX9_worst : ByteArray := prog_1_method_21_code
def yX9_worst : MethodName := ⟨RX9, "worst", "(I)I"⟩
abbrev cX9_would : ByteArray := prog_1_method_22_code
def yX9_would : MethodName := ⟨RX9, "would", "(II)I"⟩
abbrev cX9_odds : ByteArray := prog_1_method_23_code
def yX9_odds : MethodName := ⟨RX9, "odds", "(II)I"⟩
abbrev cX9_full : ByteArray := prog_1_method_24_code
def yX9_full : MethodName := ⟨RX9, "full", "(I)I"⟩
abbrev cX9_leads : ByteArray := prog_1_method_25_code
def yX9_leads : MethodName := ⟨RX9, "leads", "(II)I"⟩
abbrev cX9_plan : ByteArray := prog_1_method_26_code
def yX9_plan : MethodName := ⟨RX9, "plan", "(I)I"⟩
abbrev cX9_helps : ByteArray := prog_1_method_27_code
def yX9_helps : MethodName := ⟨RX9, "helps", "(II)I"⟩
abbrev cX9_extend : ByteArray := prog_1_method_28_code
def yX9_extend : MethodName := ⟨RX9, "extend", "(LCoffeeThatSlops$Planner;[LCoffeeThatSlops$Walk;[IIII)V"⟩
abbrev cX9_layers : ByteArray := prog_1_method_29_code
def yX9_layers : MethodName := ⟨RX9, "layers", "(I)I"⟩
abbrev cX9_off : ByteArray := prog_1_method_30_code
def yX9_off : MethodName := ⟨RX9, "off", "(III)I"⟩
abbrev cX9_few : ByteArray := prog_1_method_31_code
def yX9_few : MethodName := ⟨RX9, "few", "(II)I"⟩
abbrev cX9_best : ByteArray := prog_1_method_32_code
def yX9_best : MethodName := ⟨RX9, "best", "(II)I"⟩
abbrev cX9_lid : ByteArray := prog_1_method_33_code
def yX9_lid : MethodName := ⟨RX9, "lid", "(II)I"⟩
abbrev cX9_lateSlope : ByteArray := prog_1_method_34_code
def yX9_lateSlope : MethodName := ⟨RX9, "lateSlope", "(III)I"⟩
abbrev cX9_isOpen : ByteArray := prog_1_method_35_code
def yX9_isOpen : MethodName := ⟨RX9, "isOpen", "(I)Z"⟩
abbrev cX9_walled : ByteArray := prog_1_method_36_code
def yX9_walled : MethodName := ⟨RX9, "walled", "(III)LCoffeeThatSlops$Trial;"⟩
abbrev cX9_form : ByteArray := prog_1_method_37_code
def yX9_form : MethodName := ⟨RX9, "form", "(I)I"⟩
abbrev cX9_turn : ByteArray := prog_1_method_38_code
def yX9_turn : MethodName := ⟨RX9, "turn", "(II)I"⟩
abbrev cX9_door : ByteArray := prog_1_method_39_code
def yX9_door : MethodName := ⟨RX9, "door", "(I)I"⟩
abbrev cX9_two : ByteArray := prog_1_method_40_code
def yX9_two : MethodName := ⟨RX9, "two", "(I)I"⟩
abbrev cX9_stop : ByteArray := prog_1_method_41_code
def yX9_stop : MethodName := ⟨RX9, "stop", "(I)I"⟩
abbrev cX9_pause : ByteArray := prog_1_method_42_code
def yX9_pause : MethodName := ⟨RX9, "pause", "(II)I"⟩
abbrev cX9_stir : ByteArray := prog_1_method_43_code
def yX9_stir : MethodName := ⟨RX9, "stir", "(I)J"⟩
abbrev cX9_brake : ByteArray := prog_1_method_44_code
def yX9_brake : MethodName := ⟨RX9, "brake", "(II)V"⟩
abbrev cX9_spot : ByteArray := prog_1_method_45_code
def yX9_spot : MethodName := ⟨RX9, "spot", "(I)I"⟩
abbrev cX9_wipe : ByteArray := prog_1_method_46_code
def yX9_wipe : MethodName := ⟨RX9, "wipe", "()I"⟩
abbrev cX9_far : ByteArray := prog_1_method_47_code
def yX9_far : MethodName := ⟨RX9, "far", "(II)I"⟩
abbrev cX9_who : ByteArray := prog_1_method_48_code
def yX9_who : MethodName := ⟨RX9, "who", "()I"⟩
abbrev cX9_distance : ByteArray := prog_1_method_49_code
def yX9_distance : MethodName := ⟨RX9, "distance", "(LCoffeeThatSlops$Trial;)I"⟩
abbrev cX9_nearest : ByteArray := prog_1_method_50_code
def yX9_nearest : MethodName := ⟨RX9, "nearest", "(I[II)I"⟩
abbrev cX9_film : ByteArray := prog_1_method_51_code
def yX9_film : MethodName := ⟨RX9, "film", "(IIII)I"⟩
abbrev cX9_fits : ByteArray := prog_1_method_52_code
def yX9_fits : MethodName := ⟨RX9, "fits", "(II)I"⟩
abbrev cX9_reads : ByteArray := prog_1_method_53_code
def yX9_reads : MethodName := ⟨RX9, "reads", "()I"⟩
abbrev cX9_seed : ByteArray := prog_1_method_54_code
def yX9_seed : MethodName := ⟨RX9, "seed", "(I)I"⟩
abbrev cX9_keep : ByteArray := prog_1_method_55_code
def yX9_keep : MethodName := ⟨RX9, "keep", "(I)Z"⟩
abbrev cX9_again : ByteArray := prog_1_method_56_code
def yX9_again : MethodName := ⟨RX9, "again", "(I)Z"⟩
abbrev cX9_count : ByteArray := prog_1_method_57_code
def yX9_count : MethodName := ⟨RX9, "count", "(I)I"⟩
abbrev cX9_row : ByteArray := prog_1_method_58_code
def yX9_row : MethodName := ⟨RX9, "row", "(I)J"⟩
abbrev cX9_toldLawBits : ByteArray := prog_1_method_59_code
def yX9_toldLawBits : MethodName := ⟨RX9, "toldLawBits", "()I"⟩
abbrev cX9_isIn : ByteArray := prog_1_method_60_code
def yX9_isIn : MethodName := ⟨RX9, "isIn", "(III)Z"⟩
abbrev cX9_between : ByteArray := prog_1_method_61_code
def yX9_between : MethodName := ⟨RX9, "between", "(III)I"⟩
abbrev cX9_isPush : ByteArray := prog_1_method_62_code
def yX9_isPush : MethodName := ⟨RX9, "isPush", "(I)Z"⟩
abbrev cX9_isRow : ByteArray := prog_1_method_63_code
def yX9_isRow : MethodName := ⟨RX9, "isRow", "(I)Z"⟩
abbrev cX9_isWalk : ByteArray := prog_1_method_64_code
def yX9_isWalk : MethodName := ⟨RX9, "isWalk", "(I)Z"⟩
abbrev cX9_isGap : ByteArray := prog_1_method_65_code
def yX9_isGap : MethodName := ⟨RX9, "isGap", "(I)Z"⟩
abbrev cX9_isHand : ByteArray := prog_1_method_66_code
def yX9_isHand : MethodName := ⟨RX9, "isHand", "(I)Z"⟩
abbrev cX9_toldLaw : ByteArray := prog_1_method_67_code
def yX9_toldLaw : MethodName := ⟨RX9, "toldLaw", "(I)LCoffeeThatSlops$Law;"⟩
abbrev cX9_asItIs : ByteArray := prog_1_method_68_code
def yX9_asItIs : MethodName := ⟨RX9, "asItIs", "()LCoffeeThatSlops$Trial;"⟩
abbrev cX9_tell : ByteArray := prog_1_method_69_code
def yX9_tell : MethodName := ⟨RX9, "tell", "(J)V"⟩
abbrev cX9_tell_ : ByteArray := prog_1_method_70_code
def yX9_tell_ : MethodName := ⟨RX9, "tell", "(JJ)V"⟩
abbrev cX9_tell__ : ByteArray := prog_1_method_71_code
def yX9_tell__ : MethodName := ⟨RX9, "tell", "(JJJ)V"⟩
abbrev cX9_tellFraction : ByteArray := prog_1_method_72_code
def yX9_tellFraction : MethodName := ⟨RX9, "tellFraction", "(II)V"⟩
abbrev cX9_tellMore : ByteArray := prog_1_method_73_code
def yX9_tellMore : MethodName := ⟨RX9, "tellMore", "(J)V"⟩
abbrev cX9_commonDivisor : ByteArray := prog_1_method_74_code
def yX9_commonDivisor : MethodName := ⟨RX9, "commonDivisor", "(II)I"⟩
def RX10 : String := "CoffeeThatSlopsModel"
def TX10 : u_T := fun k => match k with
  | 0 => ("CoffeeThatSlopsModel", "cells", "I", false)
  | 1 => ("CoffeeThatSlopsModel", "rim", "I", false)
  | 2 => ("CoffeeThatSlopsModel", "fill", "I", false)
  | 3 => ("CoffeeThatSlopsModel", "sets", "[I", true)
  | 4 => ("CoffeeThatSlopsModel", "holes", "[I", true)
  | 5 => ("CoffeeThatSlopsModel", "ticks", "I", false)
  | 6 => ("CoffeeThatSlopsModel", "height", "[I", true)
  | 7 => ("CoffeeThatSlopsModel", "flow", "[I", true)
  | 8 => ("CoffeeThatSlopsModel", "spilt", "[I", true)
  | 9 => ("CoffeeThatSlopsModel", "past", "[I", true)
  | 10 => ("CoffeeThatSlopsModel", "random", "I", false)
  | 11 => ("CoffeeThatSlopsModel", "text", "[B", true)
  | 12 => ("CoffeeThatSlopsModel", "typed", "I", false)
  | 13 => ("CoffeeThatSlopsModel", "row", "[J", true)
  | 14 => ("CoffeeThatSlopsModel", "rowMany", "I", false)
  | 15 => ("CoffeeThatSlopsModel", "thrown", "I", false)
  | 16 => ("CoffeeThatSlopsModel", "cups", "I", false)
  | 17 => ("CoffeeThatSlopsModel", "read", "[B", false)
  | 18 => ("CoffeeThatSlopsModel", "size", "I", false)
  | 19 => ("CoffeeThatSlopsModel", "top", "I", false)
  | 20 => ("CoffeeThatSlopsModel", "at", "I", false)
  | 21 => ("CoffeeThatSlopsModel", "wrong", "I", false)
  | 22 => ("CoffeeThatSlopsModel", "walkTicks", "[I", true)
  | 23 => ("CoffeeThatSlopsModel", "walkSteps", "[I", true)
  | 24 => ("CoffeeThatSlopsModel", "walkAlong", "[I", true)
  | 25 => ("CoffeeThatSlopsModel", "walkAcross", "[I", true)
  | 26 => ("CoffeeThatSlopsModel", "walkWander", "[I", true)
  | 27 => ("CoffeeThatSlopsModel", "walkStep", "[I", true)
  | 28 => ("CoffeeThatSlopsModel", "newAlong", "[I", true)
  | 29 => ("CoffeeThatSlopsModel", "newAcross", "[I", true)
  | 30 => ("CoffeeThatSlopsModel", "newWander", "[I", true)
  | 31 => ("CoffeeThatSlopsModel", "newStep", "[I", true)
  | 32 => ("CoffeeThatSlopsModel", "newTicks", "I", false)
  | 33 => ("CoffeeThatSlopsModel", "wander", "I", false)
  | 34 => ("CoffeeThatSlopsModel", "laws", "[[B", true)
  | 35 => ("CoffeeThatSlopsModel", "lawSize", "[I", true)
  | 36 => ("CoffeeThatSlopsModel", "askedPush", "I", false)
  | 37 => ("CoffeeThatSlopsModel", "askedSlope", "I", false)
  | 38 => ("CoffeeThatSlopsModel", "askedTick", "I", false)
  | 39 => ("CoffeeThatSlopsModel", "askedHeight", "I", false)
  | 40 => ("CoffeeThatSlopsModel", "firstTick", "I", false)
  | 41 => ("CoffeeThatSlopsModel", "firstStep", "I", false)
  | 42 => ("CoffeeThatSlopsModel", "highest", "I", false)
  | 43 => ("CoffeeThatSlopsModel", "spiltAt", "[I", true)
  | 44 => ("CoffeeThatSlopsModel", "spiltMany", "I", false)
  | 45 => ("CoffeeThatSlopsModel", "kept", "[I", true)
  | 46 => ("CoffeeThatSlopsModel", "keptAt", "I", false)
  | 47 => ("CoffeeThatSlopsModel", "slopes", "[I", true)
  | 48 => ("CoffeeThatSlopsModel", "oftenIn", "[I", true)
  | 49 => ("CoffeeThatSlopsModel", "metres", "[I", true)
  | 50 => ("CoffeeThatSlopsModel", "going", "[I", true)
  | 51 => ("CoffeeThatSlopsModel", "bestGoing", "[I", true)
  | 52 => ("CoffeeThatSlopsModel", "bestMany", "I", false)
  | 53 => ("CoffeeThatSlopsModel", "bestTicks", "I", false)
  | 54 => ("CoffeeThatSlopsModel", "plans", "[I", true)
  | 55 => ("CoffeeThatSlopsModel", "before", "[I", true)
  | 56 => ("CoffeeThatSlopsModel", "holesWere", "[I", true)
  | 57 => ("CoffeeThatSlopsModel", "spots", "I", false)
  | 58 => ("CoffeeThatSlopsModel", "spotTick", "[I", true)
  | 59 => ("CoffeeThatSlopsModel", "films", "I", false)
  | 60 => ("CoffeeThatSlopsModel", "filmPush", "[I", true)
  | 61 => ("CoffeeThatSlopsModel", "filmSlope", "[I", true)
  | 62 => ("CoffeeThatSlopsModel", "filmTick", "[I", true)
  | 63 => ("CoffeeThatSlopsModel", "filmGiven", "[I", true)
  | 64 => ("CoffeeThatSlopsModel", "isKept", "[Z", true)
  | _ => ("CoffeeThatSlopsModel", "keptCups", "[I", true)
def tyX10 : Nat → FieldType := fun k => match k with
  | 0 => .int
  | 1 => .int
  | 2 => .int
  | 3 => .array .int
  | 4 => .array .int
  | 5 => .int
  | 6 => .array .int
  | 7 => .array .int
  | 8 => .array .int
  | 9 => .array .int
  | 10 => .int
  | 11 => .array .byte
  | 12 => .int
  | 13 => .array .long
  | 14 => .int
  | 15 => .int
  | 16 => .int
  | 17 => .array .byte
  | 18 => .int
  | 19 => .int
  | 20 => .int
  | 21 => .int
  | 22 => .array .int
  | 23 => .array .int
  | 24 => .array .int
  | 25 => .array .int
  | 26 => .array .int
  | 27 => .array .int
  | 28 => .array .int
  | 29 => .array .int
  | 30 => .array .int
  | 31 => .array .int
  | 32 => .int
  | 33 => .int
  | 34 => .array (.array .byte)
  | 35 => .array .int
  | 36 => .int
  | 37 => .int
  | 38 => .int
  | 39 => .int
  | 40 => .int
  | 41 => .int
  | 42 => .int
  | 43 => .array .int
  | 44 => .int
  | 45 => .array .int
  | 46 => .int
  | 47 => .array .int
  | 48 => .array .int
  | 49 => .array .int
  | 50 => .array .int
  | 51 => .array .int
  | 52 => .int
  | 53 => .int
  | 54 => .array .int
  | 55 => .array .int
  | 56 => .array .int
  | 57 => .int
  | 58 => .array .int
  | 59 => .int
  | 60 => .array .int
  | 61 => .array .int
  | 62 => .array .int
  | 63 => .array .int
  | 64 => .array .boolean
  | _ => .array .int
abbrev wsX100 : List Cond := u_ws RX10 TX10 66
theorem nmX10 : ∀ a, a < 66 → ∀ b, b < 66 → a ≠ b → (TX10 a).2.1 ≠ (TX10 b).2.1 := by decide +kernel
theorem tyX10_ok : ∀ k, k < 66 → parseFieldDescriptor (TX10 k).2.2.1 = some (tyX10 k) := by decide +kernel
abbrev cX10_init : ByteArray := prog_12_method_1_code
def yX10_init : MethodName := ⟨RX10, "<init>", "()V"⟩
abbrev cX10_thrown : ByteArray := prog_12_method_2_code
def yX10_thrown : MethodName := ⟨RX10, "thrown", "()I"⟩
abbrev cX10_in : ByteArray := prog_12_method_3_code
def yX10_in : MethodName := ⟨RX10, "in", "(III)Z"⟩
abbrev cX10_lost : ByteArray := prog_12_method_4_code
def yX10_lost : MethodName := ⟨RX10, "lost", "()I"⟩
abbrev cX10_tell : ByteArray := prog_12_method_5_code
def yX10_tell : MethodName := ⟨RX10, "tell", "(J)V"⟩
abbrev cX10_begin : ByteArray := prog_12_method_6_code
def yX10_begin : MethodName := ⟨RX10, "begin", "()V"⟩
abbrev cX10_cup : ByteArray := prog_12_method_7_code
def yX10_cup : MethodName := ⟨RX10, "cup", "(III)Z"⟩
abbrev cX10_set : ByteArray := prog_12_method_8_code
def yX10_set : MethodName := ⟨RX10, "set", "(II)I"⟩
abbrev cX10_isGap : ByteArray := prog_12_method_9_code
def yX10_isGap : MethodName := ⟨RX10, "isGap", "(I)Z"⟩
abbrev cX10_wall : ByteArray := prog_12_method_10_code
def yX10_wall : MethodName := ⟨RX10, "wall", "(II)I"⟩
abbrev cX10_sheet : ByteArray := prog_12_method_11_code
def yX10_sheet : MethodName := ⟨RX10, "sheet", "(IIII)I"⟩
abbrev cX10_fresh : ByteArray := prog_12_method_12_code
def yX10_fresh : MethodName := ⟨RX10, "fresh", "()I"⟩
abbrev cX10_lean : ByteArray := prog_12_method_13_code
def yX10_lean : MethodName := ⟨RX10, "lean", "(II)V"⟩
abbrev cX10_tilt : ByteArray := prog_12_method_14_code
def yX10_tilt : MethodName := ⟨RX10, "tilt", "(II)Z"⟩
abbrev cX10_slope : ByteArray := prog_12_method_15_code
def yX10_slope : MethodName := ⟨RX10, "slope", "()I"⟩
abbrev cX10_flows : ByteArray := prog_12_method_16_code
def yX10_flows : MethodName := ⟨RX10, "flows", "(II)V"⟩
abbrev cX10_over : ByteArray := prog_12_method_17_code
def yX10_over : MethodName := ⟨RX10, "over", "(II)I"⟩
abbrev cX10_pass : ByteArray := prog_12_method_18_code
def yX10_pass : MethodName := ⟨RX10, "pass", "(II)I"⟩
abbrev cX10_tick : ByteArray := prog_12_method_19_code
def yX10_tick : MethodName := ⟨RX10, "tick", "(II)I"⟩
abbrev cX10_cell : ByteArray := prog_12_method_20_code
def yX10_cell : MethodName := ⟨RX10, "cell", "(III)I"⟩
abbrev cX10_of : ByteArray := prog_12_method_21_code
def yX10_of : MethodName := ⟨RX10, "of", "(II)I"⟩
abbrev cX10_sign : ByteArray := prog_12_method_22_code
def yX10_sign : MethodName := ⟨RX10, "sign", "(I)I"⟩
abbrev cX10_end : ByteArray := prog_12_method_23_code
def yX10_end : MethodName := ⟨RX10, "end", "(I)Z"⟩
abbrev cX10_start : ByteArray := prog_12_method_24_code
def yX10_start : MethodName := ⟨RX10, "start", "([BII)V"⟩
abbrev cX10_here : ByteArray := prog_12_method_25_code
def yX10_here : MethodName := ⟨RX10, "here", "()I"⟩
abbrev cX10_fine : ByteArray := prog_12_method_26_code
def yX10_fine : MethodName := ⟨RX10, "fine", "()Z"⟩
abbrev cX10_fault : ByteArray := prog_12_method_27_code
def yX10_fault : MethodName := ⟨RX10, "fault", "(I)V"⟩
abbrev cX10_passes : ByteArray := prog_12_method_28_code
def yX10_passes : MethodName := ⟨RX10, "passes", "(C)Z"⟩
abbrev cX10_need : ByteArray := prog_12_method_29_code
def yX10_need : MethodName := ⟨RX10, "need", "(C)V"⟩
abbrev cX10_number : ByteArray := prog_12_method_30_code
def yX10_number : MethodName := ⟨RX10, "number", "(II)I"⟩
abbrev cX10_lay : ByteArray := prog_12_method_31_code
def yX10_lay : MethodName := ⟨RX10, "lay", "(III)V"⟩
abbrev cX10_walk : ByteArray := prog_12_method_32_code
def yX10_walk : MethodName := ⟨RX10, "walk", "(I)I"⟩
abbrev cX10_isWalk : ByteArray := prog_12_method_33_code
def yX10_isWalk : MethodName := ⟨RX10, "isWalk", "(I)Z"⟩
abbrev cX10_steps : ByteArray := prog_12_method_34_code
def yX10_steps : MethodName := ⟨RX10, "steps", "(I)I"⟩
abbrev cX10_sum : ByteArray := prog_12_method_35_code
def yX10_sum : MethodName := ⟨RX10, "sum", "(I)I"⟩
abbrev cX10_product : ByteArray := prog_12_method_36_code
def yX10_product : MethodName := ⟨RX10, "product", "(I)I"⟩
abbrev cX10_thing : ByteArray := prog_12_method_37_code
def yX10_thing : MethodName := ⟨RX10, "thing", "(I)I"⟩
abbrev cX10_law : ByteArray := prog_12_method_38_code
def yX10_law : MethodName := ⟨RX10, "law", "(I)I"⟩
abbrev cX10_isLaw : ByteArray := prog_12_method_39_code
def yX10_isLaw : MethodName := ⟨RX10, "isLaw", "(I)Z"⟩
abbrev cX10_bounded : ByteArray := prog_12_method_40_code
def yX10_bounded : MethodName := ⟨RX10, "bounded", "(I)I"⟩
abbrev cX10_byLaw : ByteArray := prog_12_method_41_code
def yX10_byLaw : MethodName := ⟨RX10, "byLaw", "(IIIII)I"⟩
abbrev cX10_byHand : ByteArray := prog_12_method_42_code
def yX10_byHand : MethodName := ⟨RX10, "byHand", "(II)I"⟩
abbrev cX10_gives : ByteArray := prog_12_method_43_code
def yX10_gives : MethodName := ⟨RX10, "gives", "(II)I"⟩
abbrev cX10_draw : ByteArray := prog_12_method_44_code
def yX10_draw : MethodName := ⟨RX10, "draw", "(I)I"⟩
abbrev cX10_watch : ByteArray := prog_12_method_45_code
def yX10_watch : MethodName := ⟨RX10, "watch", "()V"⟩
abbrev cX10_passWatched : ByteArray := prog_12_method_46_code
def yX10_passWatched : MethodName := ⟨RX10, "passWatched", "(III)I"⟩
abbrev cX10_goOn : ByteArray := prog_12_method_47_code
def yX10_goOn : MethodName := ⟨RX10, "goOn", "(IIII)I"⟩
abbrev cX10_go : ByteArray := prog_12_method_48_code
def yX10_go : MethodName := ⟨RX10, "go", "(III)I"⟩
abbrev cX10_put : ByteArray := prog_12_method_49_code
def yX10_put : MethodName := ⟨RX10, "put", "(I)V"⟩
abbrev cX10_take : ByteArray := prog_12_method_50_code
def yX10_take : MethodName := ⟨RX10, "take", "()I"⟩
abbrev cX10_putBy : ByteArray := prog_12_method_51_code
def yX10_putBy : MethodName := ⟨RX10, "putBy", "(I)V"⟩
abbrev cX10_bringBack : ByteArray := prog_12_method_52_code
def yX10_bringBack : MethodName := ⟨RX10, "bringBack", "(I)V"⟩
abbrev cX10_wholly : ByteArray := prog_12_method_53_code
def yX10_wholly : MethodName := ⟨RX10, "wholly", "(II)I"⟩
abbrev cX10_letGo : ByteArray := prog_12_method_54_code
def yX10_letGo : MethodName := ⟨RX10, "letGo", "(II)V"⟩
abbrev cX10_isTilt : ByteArray := prog_12_method_55_code
def yX10_isTilt : MethodName := ⟨RX10, "isTilt", "(I)Z"⟩
abbrev cX10_swing : ByteArray := prog_12_method_56_code
def yX10_swing : MethodName := ⟨RX10, "swing", "(I)I"⟩
abbrev cX10_dies : ByteArray := prog_12_method_57_code
def yX10_dies : MethodName := ⟨RX10, "dies", "(II)I"⟩
abbrev cX10_worst : ByteArray := prog_12_method_58_code
def yX10_worst : MethodName := ⟨RX10, "worst", "(I)I"⟩
abbrev cX10_would : ByteArray := prog_12_method_59_code
def yX10_would : MethodName := ⟨RX10, "would", "(II)I"⟩
abbrev cX10_common : ByteArray := prog_12_method_60_code
def yX10_common : MethodName := ⟨RX10, "common", "(JJ)J"⟩
abbrev cX10_tellPart : ByteArray := prog_12_method_61_code
def yX10_tellPart : MethodName := ⟨RX10, "tellPart", "(JJ)V"⟩
abbrev cX10_odds : ByteArray := prog_12_method_62_code
def yX10_odds : MethodName := ⟨RX10, "odds", "(II)I"⟩
abbrev cX10_full : ByteArray := prog_12_method_63_code
def yX10_full : MethodName := ⟨RX10, "full", "(I)I"⟩
abbrev cX10_leads : ByteArray := prog_12_method_64_code
def yX10_leads : MethodName := ⟨RX10, "leads", "(II)I"⟩
abbrev cX10_planFrom : ByteArray := prog_12_method_65_code
def yX10_planFrom : MethodName := ⟨RX10, "planFrom", "(III)V"⟩
abbrev cX10_keepPlan : ByteArray := prog_12_method_66_code
def yX10_keepPlan : MethodName := ⟨RX10, "keepPlan", "(I)I"⟩
abbrev cX10_fromPlan : ByteArray := prog_12_method_67_code
def yX10_fromPlan : MethodName := ⟨RX10, "fromPlan", "(I)V"⟩
abbrev cX10_plan : ByteArray := prog_12_method_68_code
def yX10_plan : MethodName := ⟨RX10, "plan", "(I)I"⟩
abbrev cX10_helps : ByteArray := prog_12_method_69_code
def yX10_helps : MethodName := ⟨RX10, "helps", "(II)I"⟩
abbrev cX10_leastOf : ByteArray := prog_12_method_70_code
def yX10_leastOf : MethodName := ⟨RX10, "leastOf", "(IIII)I"⟩
abbrev cX10_layers : ByteArray := prog_12_method_71_code
def yX10_layers : MethodName := ⟨RX10, "layers", "(I)I"⟩
abbrev cX10_greatestSlope : ByteArray := prog_12_method_72_code
def yX10_greatestSlope : MethodName := ⟨RX10, "greatestSlope", "(III)I"⟩
abbrev cX10_off : ByteArray := prog_12_method_73_code
def yX10_off : MethodName := ⟨RX10, "off", "(III)I"⟩
abbrev cX10_few : ByteArray := prog_12_method_74_code
def yX10_few : MethodName := ⟨RX10, "few", "(II)I"⟩
abbrev cX10_best : ByteArray := prog_12_method_75_code
def yX10_best : MethodName := ⟨RX10, "best", "(II)I"⟩
abbrev cX10_lid : ByteArray := prog_12_method_76_code
def yX10_lid : MethodName := ⟨RX10, "lid", "(II)I"⟩
abbrev cX10_form : ByteArray := prog_12_method_77_code
def yX10_form : MethodName := ⟨RX10, "form", "(I)I"⟩
abbrev cX10_withPause : ByteArray := prog_12_method_78_code
def yX10_withPause : MethodName := ⟨RX10, "withPause", "(IIII)I"⟩
abbrev cX10_turn : ByteArray := prog_12_method_79_code
def yX10_turn : MethodName := ⟨RX10, "turn", "(II)I"⟩
abbrev cX10_door : ByteArray := prog_12_method_80_code
def yX10_door : MethodName := ⟨RX10, "door", "(I)I"⟩
abbrev cX10_two : ByteArray := prog_12_method_81_code
def yX10_two : MethodName := ⟨RX10, "two", "(I)I"⟩
abbrev cX10_stop : ByteArray := prog_12_method_82_code
def yX10_stop : MethodName := ⟨RX10, "stop", "(I)I"⟩
abbrev cX10_pause : ByteArray := prog_12_method_83_code
def yX10_pause : MethodName := ⟨RX10, "pause", "(II)I"⟩
abbrev cX10_stir : ByteArray := prog_12_method_84_code
def yX10_stir : MethodName := ⟨RX10, "stir", "(I)J"⟩
abbrev cX10_spot : ByteArray := prog_12_method_85_code
def yX10_spot : MethodName := ⟨RX10, "spot", "(I)I"⟩
abbrev cX10_wipe : ByteArray := prog_12_method_86_code
def yX10_wipe : MethodName := ⟨RX10, "wipe", "()I"⟩
abbrev cX10_farFrom : ByteArray := prog_12_method_87_code
def yX10_farFrom : MethodName := ⟨RX10, "farFrom", "(II)I"⟩
abbrev cX10_far : ByteArray := prog_12_method_88_code
def yX10_far : MethodName := ⟨RX10, "far", "(II)I"⟩
abbrev cX10_who : ByteArray := prog_12_method_89_code
def yX10_who : MethodName := ⟨RX10, "who", "()I"⟩
abbrev cX10_film : ByteArray := prog_12_method_90_code
def yX10_film : MethodName := ⟨RX10, "film", "(IIII)I"⟩
abbrev cX10_fits : ByteArray := prog_12_method_91_code
def yX10_fits : MethodName := ⟨RX10, "fits", "(II)I"⟩
abbrev cX10_reads : ByteArray := prog_12_method_92_code
def yX10_reads : MethodName := ⟨RX10, "reads", "()I"⟩
abbrev cX10_seed : ByteArray := prog_12_method_93_code
def yX10_seed : MethodName := ⟨RX10, "seed", "(I)I"⟩
abbrev cX10_keep : ByteArray := prog_12_method_94_code
def yX10_keep : MethodName := ⟨RX10, "keep", "(I)Z"⟩
abbrev cX10_again : ByteArray := prog_12_method_95_code
def yX10_again : MethodName := ⟨RX10, "again", "(I)Z"⟩
abbrev cX10_count : ByteArray := prog_12_method_96_code
def yX10_count : MethodName := ⟨RX10, "count", "(I)I"⟩
abbrev cX10_row : ByteArray := prog_12_method_97_code
def yX10_row : MethodName := ⟨RX10, "row", "(I)J"⟩
def RJx145de : String := "java/io/Serializable"
def TJx145de : u_T := fun k => match k with
  | _ => ("", "", "", false)
def tyJx145de : Nat → FieldType := fun k => match k with
  | _ => .int
abbrev wsJx145de0 : List Cond := u_ws RJx145de TJx145de 0
theorem nmJx145de : ∀ a, a < 0 → ∀ b, b < 0 → a ≠ b → (TJx145de a).2.1 ≠ (TJx145de b).2.1 := by decide +kernel
theorem tyJx145de_ok : ∀ k, k < 0 → parseFieldDescriptor (TJx145de k).2.2.1 = some (tyJx145de k) := by decide +kernel
def RJ9 : String := "java/lang/Math"
def TJ9 : u_T := fun k => match k with
  | _ => ("", "", "", false)
def tyJ9 : Nat → FieldType := fun k => match k with
  | _ => .int
abbrev wsJ90 : List Cond := u_ws RJ9 TJ9 0
theorem nmJ9 : ∀ a, a < 0 → ∀ b, b < 0 → a ≠ b → (TJ9 a).2.1 ≠ (TJ9 b).2.1 := by decide +kernel
theorem tyJ9_ok : ∀ k, k < 0 → parseFieldDescriptor (TJ9 k).2.2.1 = some (tyJ9 k) := by decide +kernel
abbrev cJ9_floorMod_7cf53 : ByteArray := prog_15_method_50_code
def yJ9_floorMod_7cf53 : MethodName := ⟨RJ9, "floorMod", "(II)I"⟩
abbrev cJ9_abs_0f7a4 : ByteArray := prog_15_method_59_code
def yJ9_abs_0f7a4 : MethodName := ⟨RJ9, "abs", "(I)I"⟩
abbrev cJ9_abs_067f4 : ByteArray := prog_15_method_61_code
def yJ9_abs_067f4 : MethodName := ⟨RJ9, "abs", "(J)J"⟩
abbrev cJ9_max_7cf53 : ByteArray := prog_15_method_65_code
def yJ9_max_7cf53 : MethodName := ⟨RJ9, "max", "(II)I"⟩
abbrev cJ9_min_7cf53 : ByteArray := prog_15_method_69_code
def yJ9_min_7cf53 : MethodName := ⟨RJ9, "min", "(II)I"⟩
def RJ10 : String := "java/lang/System"
def TJ10 : u_T := fun k => match k with
  | _ => ("", "", "", false)
def tyJ10 : Nat → FieldType := fun k => match k with
  | _ => .int
abbrev wsJ100 : List Cond := u_ws RJ10 TJ10 0
theorem nmJ10 : ∀ a, a < 0 → ∀ b, b < 0 → a ≠ b → (TJ10 a).2.1 ≠ (TJ10 b).2.1 := by decide +kernel
theorem tyJ10_ok : ∀ k, k < 0 → parseFieldDescriptor (TJ10 k).2.2.1 = some (tyJ10 k) := by decide +kernel
def RJ7 : String := "java/util/Arrays"
def TJ7 : u_T := fun k => match k with
  | _ => ("", "", "", false)
def tyJ7 : Nat → FieldType := fun k => match k with
  | _ => .int
abbrev wsJ70 : List Cond := u_ws RJ7 TJ7 0
theorem nmJ7 : ∀ a, a < 0 → ∀ b, b < 0 → a ≠ b → (TJ7 a).2.1 ≠ (TJ7 b).2.1 := by decide +kernel
theorem tyJ7_ok : ∀ k, k < 0 → parseFieldDescriptor (TJ7 k).2.2.1 = some (tyJ7 k) := by decide +kernel
abbrev cJ7_fill_53178 : ByteArray := prog_19_method_103_code
def yJ7_fill_53178 : MethodName := ⟨RJ7, "fill", "([II)V"⟩
def RL : String := "CoffeeThatSlopsLaw"
abbrev cL_cell : ByteArray := method_3_code
def yL_cell : MethodName := ⟨RL, "cell", "(LCoffeeThatSlops;III[J)I"⟩
abbrev cL_of : ByteArray := method_4_code
def yL_of : MethodName := ⟨RL, "of", "(LCoffeeThatSlops;II[J)I"⟩
abbrev cL_gives : ByteArray := method_5_code
def yL_gives : MethodName := ⟨RL, "gives", "(LCoffeeThatSlops;II[J)I"⟩
abbrev cL_row : ByteArray := method_6_code
def yL_row : MethodName := ⟨RL, "row", "(LCoffeeThatSlops;I[J)I"⟩
abbrev cL_law : ByteArray := code
def yL_law : MethodName := ⟨RL, "law", "([I)Z"⟩
abbrev vwCl : List vw_C := [(RX0, TX0, 5), (RX1, TX1, 5), (RX2, TX2, 3), (RX3, TX3, 8), (RX4, TX4, 3), (RX5, TX5, 5), (RX6, TX6, 5), (RX7, TX7, 12), (RX8, TX8, 7), (RX9, TX9, 17), (RX10, TX10, 66)]
