-- ===== PART A: goes FIRST, ahead of the names: the tables' words, and 'selects' of the private methods out of them =====
/-- a private method of a class that the tables say can be made, by its rows of tables_1 -/
def lw_okq (q : MethodName × Nat) : Prop := (q.1.cls ≠ "java/lang/invoke/MethodHandle" ∧ q.1.cls ≠ "java/lang/invoke/VarHandle") ∧ Cond.instantiable q.1.cls q.2 ∈ tables_1 ∧ Cond.privateMethod q.1 ∈ tables_1 ∧ Cond.instanceMethod q.1 ∈ tables_1
theorem lw_p0 : lw_okq (⟨"HornBraider$Plan", "clear", "(II)V"⟩, 10) := ⟨⟨by decide +kernel, by decide +kernel⟩, List.mem_of_getElem? (i := 27) (by decide +kernel), List.mem_of_getElem? (i := 393) (by decide +kernel), List.mem_of_getElem? (i := 394) (by decide +kernel)⟩
theorem lw_p1 : lw_okq (⟨"HornBraider$Frame", "build", "(II)V"⟩, 11) := ⟨⟨by decide +kernel, by decide +kernel⟩, List.mem_of_getElem? (i := 33) (by decide +kernel), List.mem_of_getElem? (i := 397) (by decide +kernel), List.mem_of_getElem? (i := 398) (by decide +kernel)⟩
theorem lw_p2 : lw_okq (⟨"HornBraider$Frame", "buildWheel", "(II)V"⟩, 11) := ⟨⟨by decide +kernel, by decide +kernel⟩, List.mem_of_getElem? (i := 33) (by decide +kernel), List.mem_of_getElem? (i := 401) (by decide +kernel), List.mem_of_getElem? (i := 402) (by decide +kernel)⟩
theorem lw_p3 : lw_okq (⟨"HornBraider$Frame", "slotOf", "(III)I"⟩, 11) := ⟨⟨by decide +kernel, by decide +kernel⟩, List.mem_of_getElem? (i := 33) (by decide +kernel), List.mem_of_getElem? (i := 405) (by decide +kernel), List.mem_of_getElem? (i := 406) (by decide +kernel)⟩
theorem lw_p4 : lw_okq (⟨"HornBraider$Frame", "join", "(II)V"⟩, 11) := ⟨⟨by decide +kernel, by decide +kernel⟩, List.mem_of_getElem? (i := 33) (by decide +kernel), List.mem_of_getElem? (i := 409) (by decide +kernel), List.mem_of_getElem? (i := 410) (by decide +kernel)⟩
theorem lw_p5 : lw_okq (⟨"HornBraider$Run", "begin", "(LHornBraider$Plan;)V"⟩, 11) := ⟨⟨by decide +kernel, by decide +kernel⟩, List.mem_of_getElem? (i := 247) (by decide +kernel), List.mem_of_getElem? (i := 413) (by decide +kernel), List.mem_of_getElem? (i := 414) (by decide +kernel)⟩
theorem lw_p6 : lw_okq (⟨"HornBraider$Run", "enterLine", "(LHornBraider$Frame;I)V"⟩, 11) := ⟨⟨by decide +kernel, by decide +kernel⟩, List.mem_of_getElem? (i := 247) (by decide +kernel), List.mem_of_getElem? (i := 417) (by decide +kernel), List.mem_of_getElem? (i := 418) (by decide +kernel)⟩
theorem lw_p7 : lw_okq (⟨"HornBraider$Frame", "rank", "(I)I"⟩, 11) := ⟨⟨by decide +kernel, by decide +kernel⟩, List.mem_of_getElem? (i := 33) (by decide +kernel), List.mem_of_getElem? (i := 421) (by decide +kernel), List.mem_of_getElem? (i := 422) (by decide +kernel)⟩
theorem lw_p8 : lw_okq (⟨"HornBraider$Reader", "append", "(I)V"⟩, 9) := ⟨⟨by decide +kernel, by decide +kernel⟩, List.mem_of_getElem? (i := 188) (by decide +kernel), List.mem_of_getElem? (i := 473) (by decide +kernel), List.mem_of_getElem? (i := 474) (by decide +kernel)⟩
theorem lw_p9 : lw_okq (⟨"HornBraider", "refuse", "(I)I"⟩, 13) := ⟨⟨by decide +kernel, by decide +kernel⟩, List.mem_of_getElem? (i := 19) (by decide +kernel), List.mem_of_getElem? (i := 481) (by decide +kernel), List.mem_of_getElem? (i := 482) (by decide +kernel)⟩
theorem lw_p10 : lw_okq (⟨"HornBraider$Reader", "readAll", "(ILHornBraider$Plan;)Z"⟩, 9) := ⟨⟨by decide +kernel, by decide +kernel⟩, List.mem_of_getElem? (i := 188) (by decide +kernel), List.mem_of_getElem? (i := 485) (by decide +kernel), List.mem_of_getElem? (i := 486) (by decide +kernel)⟩
theorem lw_p11 : lw_okq (⟨"HornBraider$Reader", "readSize", "(LHornBraider$Plan;)Z"⟩, 9) := ⟨⟨by decide +kernel, by decide +kernel⟩, List.mem_of_getElem? (i := 188) (by decide +kernel), List.mem_of_getElem? (i := 489) (by decide +kernel), List.mem_of_getElem? (i := 490) (by decide +kernel)⟩
theorem lw_p12 : lw_okq (⟨"HornBraider$Reader", "advance", "()V"⟩, 9) := ⟨⟨by decide +kernel, by decide +kernel⟩, List.mem_of_getElem? (i := 188) (by decide +kernel), List.mem_of_getElem? (i := 493) (by decide +kernel), List.mem_of_getElem? (i := 494) (by decide +kernel)⟩
theorem lw_p13 : lw_okq (⟨"HornBraider$Reader", "weighNumber", "()V"⟩, 9) := ⟨⟨by decide +kernel, by decide +kernel⟩, List.mem_of_getElem? (i := 188) (by decide +kernel), List.mem_of_getElem? (i := 500) (by decide +kernel), List.mem_of_getElem? (i := 501) (by decide +kernel)⟩
theorem lw_p14 : lw_okq (⟨"HornBraider$Reader", "isWord", "(Ljava/lang/String;)Z"⟩, 9) := ⟨⟨by decide +kernel, by decide +kernel⟩, List.mem_of_getElem? (i := 188) (by decide +kernel), List.mem_of_getElem? (i := 505) (by decide +kernel), List.mem_of_getElem? (i := 506) (by decide +kernel)⟩
theorem lw_p15 : lw_okq (⟨"HornBraider$Reader", "misfit", "()I"⟩, 9) := ⟨⟨by decide +kernel, by decide +kernel⟩, List.mem_of_getElem? (i := 188) (by decide +kernel), List.mem_of_getElem? (i := 557) (by decide +kernel), List.mem_of_getElem? (i := 558) (by decide +kernel)⟩
def lw_privs_1 : List (MethodName × Nat) := [(⟨"HornBraider$Plan", "clear", "(II)V"⟩, 10), (⟨"HornBraider$Frame", "build", "(II)V"⟩, 11), (⟨"HornBraider$Frame", "buildWheel", "(II)V"⟩, 11), (⟨"HornBraider$Frame", "slotOf", "(III)I"⟩, 11), (⟨"HornBraider$Frame", "join", "(II)V"⟩, 11), (⟨"HornBraider$Run", "begin", "(LHornBraider$Plan;)V"⟩, 11), (⟨"HornBraider$Run", "enterLine", "(LHornBraider$Frame;I)V"⟩, 11), (⟨"HornBraider$Frame", "rank", "(I)I"⟩, 11), (⟨"HornBraider$Reader", "append", "(I)V"⟩, 9), (⟨"HornBraider", "refuse", "(I)I"⟩, 13), (⟨"HornBraider$Reader", "readAll", "(ILHornBraider$Plan;)Z"⟩, 9), (⟨"HornBraider$Reader", "readSize", "(LHornBraider$Plan;)Z"⟩, 9), (⟨"HornBraider$Reader", "advance", "()V"⟩, 9), (⟨"HornBraider$Reader", "weighNumber", "()V"⟩, 9), (⟨"HornBraider$Reader", "isWord", "(Ljava/lang/String;)Z"⟩, 9), (⟨"HornBraider$Reader", "misfit", "()I"⟩, 9)]
theorem lw_r1 : ∀ q ∈ lw_privs_1, lw_okq q := List.forall_mem_cons.mpr ⟨lw_p0, List.forall_mem_cons.mpr ⟨lw_p1, List.forall_mem_cons.mpr ⟨lw_p2, List.forall_mem_cons.mpr ⟨lw_p3, List.forall_mem_cons.mpr ⟨lw_p4, List.forall_mem_cons.mpr ⟨lw_p5, List.forall_mem_cons.mpr ⟨lw_p6, List.forall_mem_cons.mpr ⟨lw_p7, List.forall_mem_cons.mpr ⟨lw_p8, List.forall_mem_cons.mpr ⟨lw_p9, List.forall_mem_cons.mpr ⟨lw_p10, List.forall_mem_cons.mpr ⟨lw_p11, List.forall_mem_cons.mpr ⟨lw_p12, List.forall_mem_cons.mpr ⟨lw_p13, List.forall_mem_cons.mpr ⟨lw_p14, List.forall_mem_cons.mpr ⟨lw_p15, fun _ h => absurd h List.not_mem_nil⟩⟩⟩⟩⟩⟩⟩⟩⟩⟩⟩⟩⟩⟩⟩⟩
theorem lw_p16 : lw_okq (⟨"HornBraider$Reader", "fail", "(I)Z"⟩, 9) := ⟨⟨by decide +kernel, by decide +kernel⟩, List.mem_of_getElem? (i := 188) (by decide +kernel), List.mem_of_getElem? (i := 561) (by decide +kernel), List.mem_of_getElem? (i := 562) (by decide +kernel)⟩
theorem lw_p17 : lw_okq (⟨"HornBraider$Reader", "takeNumber", "(II)Z"⟩, 9) := ⟨⟨by decide +kernel, by decide +kernel⟩, List.mem_of_getElem? (i := 188) (by decide +kernel), List.mem_of_getElem? (i := 565) (by decide +kernel), List.mem_of_getElem? (i := 566) (by decide +kernel)⟩
theorem lw_p18 : lw_okq (⟨"HornBraider$Reader", "isNumber", "(II)Z"⟩, 9) := ⟨⟨by decide +kernel, by decide +kernel⟩, List.mem_of_getElem? (i := 188) (by decide +kernel), List.mem_of_getElem? (i := 569) (by decide +kernel), List.mem_of_getElem? (i := 570) (by decide +kernel)⟩
theorem lw_p19 : lw_okq (⟨"HornBraider$Reader", "takeSemicolon", "()Z"⟩, 9) := ⟨⟨by decide +kernel, by decide +kernel⟩, List.mem_of_getElem? (i := 188) (by decide +kernel), List.mem_of_getElem? (i := 574) (by decide +kernel), List.mem_of_getElem? (i := 575) (by decide +kernel)⟩
theorem lw_p20 : lw_okq (⟨"HornBraider$Reader", "readLine", "(LHornBraider$Plan;)Z"⟩, 9) := ⟨⟨by decide +kernel, by decide +kernel⟩, List.mem_of_getElem? (i := 188) (by decide +kernel), List.mem_of_getElem? (i := 578) (by decide +kernel), List.mem_of_getElem? (i := 579) (by decide +kernel)⟩
theorem lw_p21 : lw_okq (⟨"HornBraider$Reader", "readSwitch", "(LHornBraider$Plan;)Z"⟩, 9) := ⟨⟨by decide +kernel, by decide +kernel⟩, List.mem_of_getElem? (i := 188) (by decide +kernel), List.mem_of_getElem? (i := 583) (by decide +kernel), List.mem_of_getElem? (i := 584) (by decide +kernel)⟩
theorem lw_p22 : lw_okq (⟨"HornBraider$Reader", "readBobbin", "(LHornBraider$Plan;)Z"⟩, 9) := ⟨⟨by decide +kernel, by decide +kernel⟩, List.mem_of_getElem? (i := 188) (by decide +kernel), List.mem_of_getElem? (i := 588) (by decide +kernel), List.mem_of_getElem? (i := 589) (by decide +kernel)⟩
theorem lw_p23 : lw_okq (⟨"HornBraider$Plan", "hasStartAt", "(I)Z"⟩, 10) := ⟨⟨by decide +kernel, by decide +kernel⟩, List.mem_of_getElem? (i := 27) (by decide +kernel), List.mem_of_getElem? (i := 592) (by decide +kernel), List.mem_of_getElem? (i := 593) (by decide +kernel)⟩
theorem lw_p24 : lw_okq (⟨"HornBraider$Plan", "addBobbin", "(I)V"⟩, 10) := ⟨⟨by decide +kernel, by decide +kernel⟩, List.mem_of_getElem? (i := 27) (by decide +kernel), List.mem_of_getElem? (i := 596) (by decide +kernel), List.mem_of_getElem? (i := 597) (by decide +kernel)⟩
theorem lw_p25 : lw_okq (⟨"HornBraider$Reader", "readStuck", "(LHornBraider$Plan;)Z"⟩, 9) := ⟨⟨by decide +kernel, by decide +kernel⟩, List.mem_of_getElem? (i := 188) (by decide +kernel), List.mem_of_getElem? (i := 601) (by decide +kernel), List.mem_of_getElem? (i := 602) (by decide +kernel)⟩
theorem lw_p26 : lw_okq (⟨"HornBraider$Reader", "readFree", "(LHornBraider$Plan;)Z"⟩, 9) := ⟨⟨by decide +kernel, by decide +kernel⟩, List.mem_of_getElem? (i := 188) (by decide +kernel), List.mem_of_getElem? (i := 608) (by decide +kernel), List.mem_of_getElem? (i := 609) (by decide +kernel)⟩
theorem lw_p27 : lw_okq (⟨"HornBraider$Plan", "countFree", "()I"⟩, 10) := ⟨⟨by decide +kernel, by decide +kernel⟩, List.mem_of_getElem? (i := 27) (by decide +kernel), List.mem_of_getElem? (i := 612) (by decide +kernel), List.mem_of_getElem? (i := 613) (by decide +kernel)⟩
theorem lw_p28 : lw_okq (⟨"HornBraider$Reader", "readPlace", "(LHornBraider$Plan;)Z"⟩, 9) := ⟨⟨by decide +kernel, by decide +kernel⟩, List.mem_of_getElem? (i := 188) (by decide +kernel), List.mem_of_getElem? (i := 617) (by decide +kernel), List.mem_of_getElem? (i := 618) (by decide +kernel)⟩
theorem lw_p29 : lw_okq (⟨"HornBraider$Reader", "readWished", "(LHornBraider$Plan;)Z"⟩, 9) := ⟨⟨by decide +kernel, by decide +kernel⟩, List.mem_of_getElem? (i := 188) (by decide +kernel), List.mem_of_getElem? (i := 622) (by decide +kernel), List.mem_of_getElem? (i := 623) (by decide +kernel)⟩
theorem lw_p30 : lw_okq (⟨"HornBraider$Word", "add", "(I)V"⟩, 2) := ⟨⟨by decide +kernel, by decide +kernel⟩, List.mem_of_getElem? (i := 100) (by decide +kernel), List.mem_of_getElem? (i := 626) (by decide +kernel), List.mem_of_getElem? (i := 627) (by decide +kernel)⟩
theorem lw_p31 : lw_okq (⟨"HornBraider", "give", "(I)I"⟩, 13) := ⟨⟨by decide +kernel, by decide +kernel⟩, List.mem_of_getElem? (i := 19) (by decide +kernel), List.mem_of_getElem? (i := 630) (by decide +kernel), List.mem_of_getElem? (i := 631) (by decide +kernel)⟩
def lw_privs_2 : List (MethodName × Nat) := [(⟨"HornBraider$Reader", "fail", "(I)Z"⟩, 9), (⟨"HornBraider$Reader", "takeNumber", "(II)Z"⟩, 9), (⟨"HornBraider$Reader", "isNumber", "(II)Z"⟩, 9), (⟨"HornBraider$Reader", "takeSemicolon", "()Z"⟩, 9), (⟨"HornBraider$Reader", "readLine", "(LHornBraider$Plan;)Z"⟩, 9), (⟨"HornBraider$Reader", "readSwitch", "(LHornBraider$Plan;)Z"⟩, 9), (⟨"HornBraider$Reader", "readBobbin", "(LHornBraider$Plan;)Z"⟩, 9), (⟨"HornBraider$Plan", "hasStartAt", "(I)Z"⟩, 10), (⟨"HornBraider$Plan", "addBobbin", "(I)V"⟩, 10), (⟨"HornBraider$Reader", "readStuck", "(LHornBraider$Plan;)Z"⟩, 9), (⟨"HornBraider$Reader", "readFree", "(LHornBraider$Plan;)Z"⟩, 9), (⟨"HornBraider$Plan", "countFree", "()I"⟩, 10), (⟨"HornBraider$Reader", "readPlace", "(LHornBraider$Plan;)Z"⟩, 9), (⟨"HornBraider$Reader", "readWished", "(LHornBraider$Plan;)Z"⟩, 9), (⟨"HornBraider$Word", "add", "(I)V"⟩, 2), (⟨"HornBraider", "give", "(I)I"⟩, 13)]
theorem lw_r2 : ∀ q ∈ lw_privs_2, lw_okq q := List.forall_mem_cons.mpr ⟨lw_p16, List.forall_mem_cons.mpr ⟨lw_p17, List.forall_mem_cons.mpr ⟨lw_p18, List.forall_mem_cons.mpr ⟨lw_p19, List.forall_mem_cons.mpr ⟨lw_p20, List.forall_mem_cons.mpr ⟨lw_p21, List.forall_mem_cons.mpr ⟨lw_p22, List.forall_mem_cons.mpr ⟨lw_p23, List.forall_mem_cons.mpr ⟨lw_p24, List.forall_mem_cons.mpr ⟨lw_p25, List.forall_mem_cons.mpr ⟨lw_p26, List.forall_mem_cons.mpr ⟨lw_p27, List.forall_mem_cons.mpr ⟨lw_p28, List.forall_mem_cons.mpr ⟨lw_p29, List.forall_mem_cons.mpr ⟨lw_p30, List.forall_mem_cons.mpr ⟨lw_p31, fun _ h => absurd h List.not_mem_nil⟩⟩⟩⟩⟩⟩⟩⟩⟩⟩⟩⟩⟩⟩⟩⟩
theorem lw_p32 : lw_okq (⟨"HornBraider$Plan", "countStuck", "()I"⟩, 10) := ⟨⟨by decide +kernel, by decide +kernel⟩, List.mem_of_getElem? (i := 27) (by decide +kernel), List.mem_of_getElem? (i := 643) (by decide +kernel), List.mem_of_getElem? (i := 644) (by decide +kernel)⟩
theorem lw_p33 : lw_okq (⟨"HornBraider$Plan", "period", "()I"⟩, 10) := ⟨⟨by decide +kernel, by decide +kernel⟩, List.mem_of_getElem? (i := 27) (by decide +kernel), List.mem_of_getElem? (i := 647) (by decide +kernel), List.mem_of_getElem? (i := 648) (by decide +kernel)⟩
theorem lw_p34 : lw_okq (⟨"HornBraider", "hasSwitch", "(I)Z"⟩, 13) := ⟨⟨by decide +kernel, by decide +kernel⟩, List.mem_of_getElem? (i := 19) (by decide +kernel), List.mem_of_getElem? (i := 658) (by decide +kernel), List.mem_of_getElem? (i := 659) (by decide +kernel)⟩
theorem lw_p35 : lw_okq (⟨"HornBraider$Plan", "opens", "(II)Z"⟩, 10) := ⟨⟨by decide +kernel, by decide +kernel⟩, List.mem_of_getElem? (i := 27) (by decide +kernel), List.mem_of_getElem? (i := 662) (by decide +kernel), List.mem_of_getElem? (i := 663) (by decide +kernel)⟩
theorem lw_p36 : lw_okq (⟨"HornBraider$Plan", "tellsOpen", "(II)Z"⟩, 10) := ⟨⟨by decide +kernel, by decide +kernel⟩, List.mem_of_getElem? (i := 27) (by decide +kernel), List.mem_of_getElem? (i := 666) (by decide +kernel), List.mem_of_getElem? (i := 667) (by decide +kernel)⟩
theorem lw_p37 : lw_okq (⟨"HornBraider", "hasBobbin", "(I)Z"⟩, 13) := ⟨⟨by decide +kernel, by decide +kernel⟩, List.mem_of_getElem? (i := 19) (by decide +kernel), List.mem_of_getElem? (i := 681) (by decide +kernel), List.mem_of_getElem? (i := 682) (by decide +kernel)⟩
theorem lw_p38 : lw_okq (⟨"HornBraider$Run", "standOf", "(I)I"⟩, 11) := ⟨⟨by decide +kernel, by decide +kernel⟩, List.mem_of_getElem? (i := 247) (by decide +kernel), List.mem_of_getElem? (i := 685) (by decide +kernel), List.mem_of_getElem? (i := 686) (by decide +kernel)⟩
theorem lw_p39 : lw_okq (⟨"HornBraider", "hasSlot", "(I)Z"⟩, 13) := ⟨⟨by decide +kernel, by decide +kernel⟩, List.mem_of_getElem? (i := 19) (by decide +kernel), List.mem_of_getElem? (i := 693) (by decide +kernel), List.mem_of_getElem? (i := 694) (by decide +kernel)⟩
theorem lw_p40 : lw_okq (⟨"HornBraider$Run", "bobbinIn", "(I)I"⟩, 11) := ⟨⟨by decide +kernel, by decide +kernel⟩, List.mem_of_getElem? (i := 247) (by decide +kernel), List.mem_of_getElem? (i := 697) (by decide +kernel), List.mem_of_getElem? (i := 698) (by decide +kernel)⟩
theorem lw_p41 : lw_okq (⟨"HornBraider$Plan", "dropBobbin", "(I)V"⟩, 10) := ⟨⟨by decide +kernel, by decide +kernel⟩, List.mem_of_getElem? (i := 27) (by decide +kernel), List.mem_of_getElem? (i := 727) (by decide +kernel), List.mem_of_getElem? (i := 728) (by decide +kernel)⟩
theorem lw_p42 : lw_okq (⟨"HornBraider$Sightings", "drop", "(I)V"⟩, 4) := ⟨⟨by decide +kernel, by decide +kernel⟩, List.mem_of_getElem? (i := 346) (by decide +kernel), List.mem_of_getElem? (i := 731) (by decide +kernel), List.mem_of_getElem? (i := 732) (by decide +kernel)⟩
theorem lw_p43 : lw_okq (⟨"HornBraider$Plan", "fillOpen", "([I)V"⟩, 10) := ⟨⟨by decide +kernel, by decide +kernel⟩, List.mem_of_getElem? (i := 27) (by decide +kernel), List.mem_of_getElem? (i := 743) (by decide +kernel), List.mem_of_getElem? (i := 744) (by decide +kernel)⟩
theorem lw_p44 : lw_okq (⟨"HornBraider", "advance", "()I"⟩, 13) := ⟨⟨by decide +kernel, by decide +kernel⟩, List.mem_of_getElem? (i := 19) (by decide +kernel), List.mem_of_getElem? (i := 748) (by decide +kernel), List.mem_of_getElem? (i := 749) (by decide +kernel)⟩
theorem lw_p45 : lw_okq (⟨"HornBraider$Run", "turnAll", "(LHornBraider$Frame;I)Z"⟩, 11) := ⟨⟨by decide +kernel, by decide +kernel⟩, List.mem_of_getElem? (i := 247) (by decide +kernel), List.mem_of_getElem? (i := 756) (by decide +kernel), List.mem_of_getElem? (i := 757) (by decide +kernel)⟩
theorem lw_p46 : lw_okq (⟨"HornBraider$Run", "weave", "(LHornBraider$Frame;)V"⟩, 11) := ⟨⟨by decide +kernel, by decide +kernel⟩, List.mem_of_getElem? (i := 247) (by decide +kernel), List.mem_of_getElem? (i := 760) (by decide +kernel), List.mem_of_getElem? (i := 761) (by decide +kernel)⟩
theorem lw_p47 : lw_okq (⟨"HornBraider$Run", "exchange", "(LHornBraider$Frame;I)V"⟩, 11) := ⟨⟨by decide +kernel, by decide +kernel⟩, List.mem_of_getElem? (i := 247) (by decide +kernel), List.mem_of_getElem? (i := 764) (by decide +kernel), List.mem_of_getElem? (i := 765) (by decide +kernel)⟩
def lw_privs_3 : List (MethodName × Nat) := [(⟨"HornBraider$Plan", "countStuck", "()I"⟩, 10), (⟨"HornBraider$Plan", "period", "()I"⟩, 10), (⟨"HornBraider", "hasSwitch", "(I)Z"⟩, 13), (⟨"HornBraider$Plan", "opens", "(II)Z"⟩, 10), (⟨"HornBraider$Plan", "tellsOpen", "(II)Z"⟩, 10), (⟨"HornBraider", "hasBobbin", "(I)Z"⟩, 13), (⟨"HornBraider$Run", "standOf", "(I)I"⟩, 11), (⟨"HornBraider", "hasSlot", "(I)Z"⟩, 13), (⟨"HornBraider$Run", "bobbinIn", "(I)I"⟩, 11), (⟨"HornBraider$Plan", "dropBobbin", "(I)V"⟩, 10), (⟨"HornBraider$Sightings", "drop", "(I)V"⟩, 4), (⟨"HornBraider$Plan", "fillOpen", "([I)V"⟩, 10), (⟨"HornBraider", "advance", "()I"⟩, 13), (⟨"HornBraider$Run", "turnAll", "(LHornBraider$Frame;I)Z"⟩, 11), (⟨"HornBraider$Run", "weave", "(LHornBraider$Frame;)V"⟩, 11), (⟨"HornBraider$Run", "exchange", "(LHornBraider$Frame;I)V"⟩, 11)]
theorem lw_r3 : ∀ q ∈ lw_privs_3, lw_okq q := List.forall_mem_cons.mpr ⟨lw_p32, List.forall_mem_cons.mpr ⟨lw_p33, List.forall_mem_cons.mpr ⟨lw_p34, List.forall_mem_cons.mpr ⟨lw_p35, List.forall_mem_cons.mpr ⟨lw_p36, List.forall_mem_cons.mpr ⟨lw_p37, List.forall_mem_cons.mpr ⟨lw_p38, List.forall_mem_cons.mpr ⟨lw_p39, List.forall_mem_cons.mpr ⟨lw_p40, List.forall_mem_cons.mpr ⟨lw_p41, List.forall_mem_cons.mpr ⟨lw_p42, List.forall_mem_cons.mpr ⟨lw_p43, List.forall_mem_cons.mpr ⟨lw_p44, List.forall_mem_cons.mpr ⟨lw_p45, List.forall_mem_cons.mpr ⟨lw_p46, List.forall_mem_cons.mpr ⟨lw_p47, fun _ h => absurd h List.not_mem_nil⟩⟩⟩⟩⟩⟩⟩⟩⟩⟩⟩⟩⟩⟩⟩⟩
theorem lw_p48 : lw_okq (⟨"HornBraider$Run", "isInFront", "(LHornBraider$Frame;II)Z"⟩, 11) := ⟨⟨by decide +kernel, by decide +kernel⟩, List.mem_of_getElem? (i := 247) (by decide +kernel), List.mem_of_getElem? (i := 768) (by decide +kernel), List.mem_of_getElem? (i := 769) (by decide +kernel)⟩
theorem lw_p49 : lw_okq (⟨"HornBraider$Run", "settle", "()V"⟩, 11) := ⟨⟨by decide +kernel, by decide +kernel⟩, List.mem_of_getElem? (i := 247) (by decide +kernel), List.mem_of_getElem? (i := 773) (by decide +kernel), List.mem_of_getElem? (i := 774) (by decide +kernel)⟩
theorem lw_p50 : lw_okq (⟨"HornBraider$Run", "keepWoven", "()V"⟩, 11) := ⟨⟨by decide +kernel, by decide +kernel⟩, List.mem_of_getElem? (i := 247) (by decide +kernel), List.mem_of_getElem? (i := 777) (by decide +kernel), List.mem_of_getElem? (i := 778) (by decide +kernel)⟩
theorem lw_p51 : lw_okq (⟨"HornBraider$Printer", "write", "(LHornBraider$Plan;)Z"⟩, 4) := ⟨⟨by decide +kernel, by decide +kernel⟩, List.mem_of_getElem? (i := 226) (by decide +kernel), List.mem_of_getElem? (i := 794) (by decide +kernel), List.mem_of_getElem? (i := 795) (by decide +kernel)⟩
theorem lw_p52 : lw_okq (⟨"HornBraider$Printer", "writeAll", "(LHornBraider$Plan;)V"⟩, 4) := ⟨⟨by decide +kernel, by decide +kernel⟩, List.mem_of_getElem? (i := 226) (by decide +kernel), List.mem_of_getElem? (i := 798) (by decide +kernel), List.mem_of_getElem? (i := 799) (by decide +kernel)⟩
theorem lw_p53 : lw_okq (⟨"HornBraider$Printer", "writeText", "(Ljava/lang/String;)V"⟩, 4) := ⟨⟨by decide +kernel, by decide +kernel⟩, List.mem_of_getElem? (i := 226) (by decide +kernel), List.mem_of_getElem? (i := 803) (by decide +kernel), List.mem_of_getElem? (i := 804) (by decide +kernel)⟩
theorem lw_p54 : lw_okq (⟨"HornBraider$Printer", "writeByte", "(I)V"⟩, 4) := ⟨⟨by decide +kernel, by decide +kernel⟩, List.mem_of_getElem? (i := 226) (by decide +kernel), List.mem_of_getElem? (i := 809) (by decide +kernel), List.mem_of_getElem? (i := 810) (by decide +kernel)⟩
theorem lw_p55 : lw_okq (⟨"HornBraider$Printer", "writeNumber", "(I)V"⟩, 4) := ⟨⟨by decide +kernel, by decide +kernel⟩, List.mem_of_getElem? (i := 226) (by decide +kernel), List.mem_of_getElem? (i := 813) (by decide +kernel), List.mem_of_getElem? (i := 814) (by decide +kernel)⟩
theorem lw_p56 : lw_okq (⟨"HornBraider$Printer", "writeSwitches", "(LHornBraider$Plan;)V"⟩, 4) := ⟨⟨by decide +kernel, by decide +kernel⟩, List.mem_of_getElem? (i := 226) (by decide +kernel), List.mem_of_getElem? (i := 818) (by decide +kernel), List.mem_of_getElem? (i := 819) (by decide +kernel)⟩
theorem lw_p57 : lw_okq (⟨"HornBraider$Printer", "writeStuck", "(LHornBraider$Plan;)V"⟩, 4) := ⟨⟨by decide +kernel, by decide +kernel⟩, List.mem_of_getElem? (i := 226) (by decide +kernel), List.mem_of_getElem? (i := 824) (by decide +kernel), List.mem_of_getElem? (i := 825) (by decide +kernel)⟩
theorem lw_p58 : lw_okq (⟨"HornBraider$Printer", "writeFree", "(LHornBraider$Plan;)V"⟩, 4) := ⟨⟨by decide +kernel, by decide +kernel⟩, List.mem_of_getElem? (i := 226) (by decide +kernel), List.mem_of_getElem? (i := 831) (by decide +kernel), List.mem_of_getElem? (i := 832) (by decide +kernel)⟩
theorem lw_p59 : lw_okq (⟨"HornBraider$Printer", "writePlaces", "(LHornBraider$Plan;)V"⟩, 4) := ⟨⟨by decide +kernel, by decide +kernel⟩, List.mem_of_getElem? (i := 226) (by decide +kernel), List.mem_of_getElem? (i := 836) (by decide +kernel), List.mem_of_getElem? (i := 837) (by decide +kernel)⟩
theorem lw_p60 : lw_okq (⟨"HornBraider$Printer", "writeWished", "(LHornBraider$Word;)V"⟩, 4) := ⟨⟨by decide +kernel, by decide +kernel⟩, List.mem_of_getElem? (i := 226) (by decide +kernel), List.mem_of_getElem? (i := 841) (by decide +kernel), List.mem_of_getElem? (i := 842) (by decide +kernel)⟩
theorem lw_p61 : lw_okq (⟨"HornBraider$Word", "kept", "()I"⟩, 2) := ⟨⟨by decide +kernel, by decide +kernel⟩, List.mem_of_getElem? (i := 100) (by decide +kernel), List.mem_of_getElem? (i := 846) (by decide +kernel), List.mem_of_getElem? (i := 847) (by decide +kernel)⟩
theorem lw_p62 : lw_okq (⟨"HornBraider$Frame", "moved", "(II)I"⟩, 11) := ⟨⟨by decide +kernel, by decide +kernel⟩, List.mem_of_getElem? (i := 33) (by decide +kernel), List.mem_of_getElem? (i := 866) (by decide +kernel), List.mem_of_getElem? (i := 867) (by decide +kernel)⟩
theorem lw_p63 : lw_okq (⟨"HornBraider", "layRounds", "(I)V"⟩, 13) := ⟨⟨by decide +kernel, by decide +kernel⟩, List.mem_of_getElem? (i := 19) (by decide +kernel), List.mem_of_getElem? (i := 874) (by decide +kernel), List.mem_of_getElem? (i := 875) (by decide +kernel)⟩
def lw_privs_4 : List (MethodName × Nat) := [(⟨"HornBraider$Run", "isInFront", "(LHornBraider$Frame;II)Z"⟩, 11), (⟨"HornBraider$Run", "settle", "()V"⟩, 11), (⟨"HornBraider$Run", "keepWoven", "()V"⟩, 11), (⟨"HornBraider$Printer", "write", "(LHornBraider$Plan;)Z"⟩, 4), (⟨"HornBraider$Printer", "writeAll", "(LHornBraider$Plan;)V"⟩, 4), (⟨"HornBraider$Printer", "writeText", "(Ljava/lang/String;)V"⟩, 4), (⟨"HornBraider$Printer", "writeByte", "(I)V"⟩, 4), (⟨"HornBraider$Printer", "writeNumber", "(I)V"⟩, 4), (⟨"HornBraider$Printer", "writeSwitches", "(LHornBraider$Plan;)V"⟩, 4), (⟨"HornBraider$Printer", "writeStuck", "(LHornBraider$Plan;)V"⟩, 4), (⟨"HornBraider$Printer", "writeFree", "(LHornBraider$Plan;)V"⟩, 4), (⟨"HornBraider$Printer", "writePlaces", "(LHornBraider$Plan;)V"⟩, 4), (⟨"HornBraider$Printer", "writeWished", "(LHornBraider$Word;)V"⟩, 4), (⟨"HornBraider$Word", "kept", "()I"⟩, 2), (⟨"HornBraider$Frame", "moved", "(II)I"⟩, 11), (⟨"HornBraider", "layRounds", "(I)V"⟩, 13)]
theorem lw_r4 : ∀ q ∈ lw_privs_4, lw_okq q := List.forall_mem_cons.mpr ⟨lw_p48, List.forall_mem_cons.mpr ⟨lw_p49, List.forall_mem_cons.mpr ⟨lw_p50, List.forall_mem_cons.mpr ⟨lw_p51, List.forall_mem_cons.mpr ⟨lw_p52, List.forall_mem_cons.mpr ⟨lw_p53, List.forall_mem_cons.mpr ⟨lw_p54, List.forall_mem_cons.mpr ⟨lw_p55, List.forall_mem_cons.mpr ⟨lw_p56, List.forall_mem_cons.mpr ⟨lw_p57, List.forall_mem_cons.mpr ⟨lw_p58, List.forall_mem_cons.mpr ⟨lw_p59, List.forall_mem_cons.mpr ⟨lw_p60, List.forall_mem_cons.mpr ⟨lw_p61, List.forall_mem_cons.mpr ⟨lw_p62, List.forall_mem_cons.mpr ⟨lw_p63, fun _ h => absurd h List.not_mem_nil⟩⟩⟩⟩⟩⟩⟩⟩⟩⟩⟩⟩⟩⟩⟩⟩
theorem lw_p64 : lw_okq (⟨"HornBraider$Rounds", "lay", "(LHornBraider$Frame;[III)V"⟩, 7) := ⟨⟨by decide +kernel, by decide +kernel⟩, List.mem_of_getElem? (i := 298) (by decide +kernel), List.mem_of_getElem? (i := 878) (by decide +kernel), List.mem_of_getElem? (i := 879) (by decide +kernel)⟩
theorem lw_p65 : lw_okq (⟨"HornBraider$Rounds", "markTrack", "(I)V"⟩, 7) := ⟨⟨by decide +kernel, by decide +kernel⟩, List.mem_of_getElem? (i := 298) (by decide +kernel), List.mem_of_getElem? (i := 884) (by decide +kernel), List.mem_of_getElem? (i := 885) (by decide +kernel)⟩
theorem lw_p66 : lw_okq (⟨"HornBraider", "startsOnTrack", "(I)I"⟩, 13) := ⟨⟨by decide +kernel, by decide +kernel⟩, List.mem_of_getElem? (i := 19) (by decide +kernel), List.mem_of_getElem? (i := 896) (by decide +kernel), List.mem_of_getElem? (i := 897) (by decide +kernel)⟩
theorem lw_p67 : lw_okq (⟨"HornBraider$Rounds", "countTracks", "(I)I"⟩, 7) := ⟨⟨by decide +kernel, by decide +kernel⟩, List.mem_of_getElem? (i := 298) (by decide +kernel), List.mem_of_getElem? (i := 904) (by decide +kernel), List.mem_of_getElem? (i := 905) (by decide +kernel)⟩
theorem lw_p68 : lw_okq (⟨"HornBraider$Rounds", "greatestLength", "()I"⟩, 7) := ⟨⟨by decide +kernel, by decide +kernel⟩, List.mem_of_getElem? (i := 298) (by decide +kernel), List.mem_of_getElem? (i := 908) (by decide +kernel), List.mem_of_getElem? (i := 909) (by decide +kernel)⟩
theorem lw_p69 : lw_okq (⟨"HornBraider$Rounds", "allHome", "()J"⟩, 7) := ⟨⟨by decide +kernel, by decide +kernel⟩, List.mem_of_getElem? (i := 298) (by decide +kernel), List.mem_of_getElem? (i := 913) (by decide +kernel), List.mem_of_getElem? (i := 914) (by decide +kernel)⟩
theorem lw_p70 : lw_okq (⟨"HornBraider$Rounds", "findFoes", "(LHornBraider$Frame;[III)V"⟩, 7) := ⟨⟨by decide +kernel, by decide +kernel⟩, List.mem_of_getElem? (i := 298) (by decide +kernel), List.mem_of_getElem? (i := 926) (by decide +kernel), List.mem_of_getElem? (i := 927) (by decide +kernel)⟩
theorem lw_p71 : lw_okq (⟨"HornBraider$Rounds", "markFoes", "(II)V"⟩, 7) := ⟨⟨by decide +kernel, by decide +kernel⟩, List.mem_of_getElem? (i := 298) (by decide +kernel), List.mem_of_getElem? (i := 930) (by decide +kernel), List.mem_of_getElem? (i := 931) (by decide +kernel)⟩
theorem lw_p72 : lw_okq (⟨"HornBraider$Rounds", "areFoes", "(II)Z"⟩, 7) := ⟨⟨by decide +kernel, by decide +kernel⟩, List.mem_of_getElem? (i := 298) (by decide +kernel), List.mem_of_getElem? (i := 934) (by decide +kernel), List.mem_of_getElem? (i := 935) (by decide +kernel)⟩
theorem lw_p73 : lw_okq (⟨"HornBraider$Run", "chase", "(LHornBraider$Frame;[I)V"⟩, 11) := ⟨⟨by decide +kernel, by decide +kernel⟩, List.mem_of_getElem? (i := 247) (by decide +kernel), List.mem_of_getElem? (i := 939) (by decide +kernel), List.mem_of_getElem? (i := 940) (by decide +kernel)⟩
theorem lw_p74 : lw_okq (⟨"HornBraider$Run", "leastClash", "()I"⟩, 11) := ⟨⟨by decide +kernel, by decide +kernel⟩, List.mem_of_getElem? (i := 247) (by decide +kernel), List.mem_of_getElem? (i := 946) (by decide +kernel), List.mem_of_getElem? (i := 947) (by decide +kernel)⟩
theorem lw_p75 : lw_okq (⟨"HornBraider", "foesAmongBobbins", "()Z"⟩, 13) := ⟨⟨by decide +kernel, by decide +kernel⟩, List.mem_of_getElem? (i := 19) (by decide +kernel), List.mem_of_getElem? (i := 954) (by decide +kernel), List.mem_of_getElem? (i := 955) (by decide +kernel)⟩
theorem lw_p76 : lw_okq (⟨"HornBraider$Run", "copyPlaces", "(LHornBraider$Run;)V"⟩, 11) := ⟨⟨by decide +kernel, by decide +kernel⟩, List.mem_of_getElem? (i := 247) (by decide +kernel), List.mem_of_getElem? (i := 958) (by decide +kernel), List.mem_of_getElem? (i := 959) (by decide +kernel)⟩
theorem lw_p77 : lw_okq (⟨"HornBraider$Run", "firstTurnedTo", "(LHornBraider$Frame;II)I"⟩, 11) := ⟨⟨by decide +kernel, by decide +kernel⟩, List.mem_of_getElem? (i := 247) (by decide +kernel), List.mem_of_getElem? (i := 962) (by decide +kernel), List.mem_of_getElem? (i := 963) (by decide +kernel)⟩
theorem lw_p78 : lw_okq (⟨"HornBraider", "kthLaid", "(I)I"⟩, 13) := ⟨⟨by decide +kernel, by decide +kernel⟩, List.mem_of_getElem? (i := 19) (by decide +kernel), List.mem_of_getElem? (i := 975) (by decide +kernel), List.mem_of_getElem? (i := 976) (by decide +kernel)⟩
theorem lw_p79 : lw_okq (⟨"HornBraider", "fitsLaid", "(I)Z"⟩, 13) := ⟨⟨by decide +kernel, by decide +kernel⟩, List.mem_of_getElem? (i := 19) (by decide +kernel), List.mem_of_getElem? (i := 979) (by decide +kernel), List.mem_of_getElem? (i := 980) (by decide +kernel)⟩
def lw_privs_5 : List (MethodName × Nat) := [(⟨"HornBraider$Rounds", "lay", "(LHornBraider$Frame;[III)V"⟩, 7), (⟨"HornBraider$Rounds", "markTrack", "(I)V"⟩, 7), (⟨"HornBraider", "startsOnTrack", "(I)I"⟩, 13), (⟨"HornBraider$Rounds", "countTracks", "(I)I"⟩, 7), (⟨"HornBraider$Rounds", "greatestLength", "()I"⟩, 7), (⟨"HornBraider$Rounds", "allHome", "()J"⟩, 7), (⟨"HornBraider$Rounds", "findFoes", "(LHornBraider$Frame;[III)V"⟩, 7), (⟨"HornBraider$Rounds", "markFoes", "(II)V"⟩, 7), (⟨"HornBraider$Rounds", "areFoes", "(II)Z"⟩, 7), (⟨"HornBraider$Run", "chase", "(LHornBraider$Frame;[I)V"⟩, 11), (⟨"HornBraider$Run", "leastClash", "()I"⟩, 11), (⟨"HornBraider", "foesAmongBobbins", "()Z"⟩, 13), (⟨"HornBraider$Run", "copyPlaces", "(LHornBraider$Run;)V"⟩, 11), (⟨"HornBraider$Run", "firstTurnedTo", "(LHornBraider$Frame;II)I"⟩, 11), (⟨"HornBraider", "kthLaid", "(I)I"⟩, 13), (⟨"HornBraider", "fitsLaid", "(I)Z"⟩, 13)]
theorem lw_r5 : ∀ q ∈ lw_privs_5, lw_okq q := List.forall_mem_cons.mpr ⟨lw_p64, List.forall_mem_cons.mpr ⟨lw_p65, List.forall_mem_cons.mpr ⟨lw_p66, List.forall_mem_cons.mpr ⟨lw_p67, List.forall_mem_cons.mpr ⟨lw_p68, List.forall_mem_cons.mpr ⟨lw_p69, List.forall_mem_cons.mpr ⟨lw_p70, List.forall_mem_cons.mpr ⟨lw_p71, List.forall_mem_cons.mpr ⟨lw_p72, List.forall_mem_cons.mpr ⟨lw_p73, List.forall_mem_cons.mpr ⟨lw_p74, List.forall_mem_cons.mpr ⟨lw_p75, List.forall_mem_cons.mpr ⟨lw_p76, List.forall_mem_cons.mpr ⟨lw_p77, List.forall_mem_cons.mpr ⟨lw_p78, List.forall_mem_cons.mpr ⟨lw_p79, fun _ h => absurd h List.not_mem_nil⟩⟩⟩⟩⟩⟩⟩⟩⟩⟩⟩⟩⟩⟩⟩⟩
theorem lw_p80 : lw_okq (⟨"HornBraider", "letterOf", "(LHornBraider$Word;I)I"⟩, 13) := ⟨⟨by decide +kernel, by decide +kernel⟩, List.mem_of_getElem? (i := 19) (by decide +kernel), List.mem_of_getElem? (i := 987) (by decide +kernel), List.mem_of_getElem? (i := 988) (by decide +kernel)⟩
theorem lw_p81 : lw_okq (⟨"HornBraider$Word", "balance", "()I"⟩, 2) := ⟨⟨by decide +kernel, by decide +kernel⟩, List.mem_of_getElem? (i := 100) (by decide +kernel), List.mem_of_getElem? (i := 1000) (by decide +kernel), List.mem_of_getElem? (i := 1001) (by decide +kernel)⟩
theorem lw_p82 : lw_okq (⟨"HornBraider$Word", "loops", "(I)I"⟩, 2) := ⟨⟨by decide +kernel, by decide +kernel⟩, List.mem_of_getElem? (i := 100) (by decide +kernel), List.mem_of_getElem? (i := 1005) (by decide +kernel), List.mem_of_getElem? (i := 1006) (by decide +kernel)⟩
theorem lw_p83 : lw_okq (⟨"HornBraider$Word", "endOf", "(I)I"⟩, 2) := ⟨⟨by decide +kernel, by decide +kernel⟩, List.mem_of_getElem? (i := 100) (by decide +kernel), List.mem_of_getElem? (i := 1009) (by decide +kernel), List.mem_of_getElem? (i := 1010) (by decide +kernel)⟩
theorem lw_p84 : lw_okq (⟨"HornBraider", "isEmptyBraid", "()Z"⟩, 13) := ⟨⟨by decide +kernel, by decide +kernel⟩, List.mem_of_getElem? (i := 19) (by decide +kernel), List.mem_of_getElem? (i := 1017) (by decide +kernel), List.mem_of_getElem? (i := 1018) (by decide +kernel)⟩
theorem lw_p85 : lw_okq (⟨"HornBraider$Coil", "begin", "(I)V"⟩, 3) := ⟨⟨by decide +kernel, by decide +kernel⟩, List.mem_of_getElem? (i := 330) (by decide +kernel), List.mem_of_getElem? (i := 1021) (by decide +kernel), List.mem_of_getElem? (i := 1022) (by decide +kernel)⟩
theorem lw_p86 : lw_okq (⟨"HornBraider$Coil", "follow", "(LHornBraider$Word;I)V"⟩, 3) := ⟨⟨by decide +kernel, by decide +kernel⟩, List.mem_of_getElem? (i := 330) (by decide +kernel), List.mem_of_getElem? (i := 1025) (by decide +kernel), List.mem_of_getElem? (i := 1026) (by decide +kernel)⟩
theorem lw_p87 : lw_okq (⟨"HornBraider$Coil", "act", "(I)V"⟩, 3) := ⟨⟨by decide +kernel, by decide +kernel⟩, List.mem_of_getElem? (i := 330) (by decide +kernel), List.mem_of_getElem? (i := 1030) (by decide +kernel), List.mem_of_getElem? (i := 1031) (by decide +kernel)⟩
theorem lw_p88 : lw_okq (⟨"HornBraider$Coil", "wipe", "(I)V"⟩, 3) := ⟨⟨by decide +kernel, by decide +kernel⟩, List.mem_of_getElem? (i := 330) (by decide +kernel), List.mem_of_getElem? (i := 1035) (by decide +kernel), List.mem_of_getElem? (i := 1036) (by decide +kernel)⟩
theorem lw_p89 : lw_okq (⟨"HornBraider$Coil", "addTo", "(III)V"⟩, 3) := ⟨⟨by decide +kernel, by decide +kernel⟩, List.mem_of_getElem? (i := 330) (by decide +kernel), List.mem_of_getElem? (i := 1039) (by decide +kernel), List.mem_of_getElem? (i := 1040) (by decide +kernel)⟩
theorem lw_p90 : lw_okq (⟨"HornBraider$Coil", "addLower", "(III)V"⟩, 3) := ⟨⟨by decide +kernel, by decide +kernel⟩, List.mem_of_getElem? (i := 330) (by decide +kernel), List.mem_of_getElem? (i := 1044) (by decide +kernel), List.mem_of_getElem? (i := 1045) (by decide +kernel)⟩
theorem lw_p91 : lw_okq (⟨"HornBraider$Coil", "isBelowZero", "(I)Z"⟩, 3) := ⟨⟨by decide +kernel, by decide +kernel⟩, List.mem_of_getElem? (i := 330) (by decide +kernel), List.mem_of_getElem? (i := 1048) (by decide +kernel), List.mem_of_getElem? (i := 1049) (by decide +kernel)⟩
theorem lw_p92 : lw_okq (⟨"HornBraider$Coil", "addUpper", "(III)V"⟩, 3) := ⟨⟨by decide +kernel, by decide +kernel⟩, List.mem_of_getElem? (i := 330) (by decide +kernel), List.mem_of_getElem? (i := 1052) (by decide +kernel), List.mem_of_getElem? (i := 1053) (by decide +kernel)⟩
theorem lw_p93 : lw_okq (⟨"HornBraider$Coil", "swap", "(II)V"⟩, 3) := ⟨⟨by decide +kernel, by decide +kernel⟩, List.mem_of_getElem? (i := 330) (by decide +kernel), List.mem_of_getElem? (i := 1056) (by decide +kernel), List.mem_of_getElem? (i := 1057) (by decide +kernel)⟩
theorem lw_p94 : lw_okq (⟨"HornBraider$Coil", "isBig", "(I)Z"⟩, 3) := ⟨⟨by decide +kernel, by decide +kernel⟩, List.mem_of_getElem? (i := 330) (by decide +kernel), List.mem_of_getElem? (i := 1060) (by decide +kernel), List.mem_of_getElem? (i := 1061) (by decide +kernel)⟩
theorem lw_p95 : lw_okq (⟨"HornBraider$Coil", "widen", "()V"⟩, 3) := ⟨⟨by decide +kernel, by decide +kernel⟩, List.mem_of_getElem? (i := 330) (by decide +kernel), List.mem_of_getElem? (i := 1068) (by decide +kernel), List.mem_of_getElem? (i := 1069) (by decide +kernel)⟩
def lw_privs_6 : List (MethodName × Nat) := [(⟨"HornBraider", "letterOf", "(LHornBraider$Word;I)I"⟩, 13), (⟨"HornBraider$Word", "balance", "()I"⟩, 2), (⟨"HornBraider$Word", "loops", "(I)I"⟩, 2), (⟨"HornBraider$Word", "endOf", "(I)I"⟩, 2), (⟨"HornBraider", "isEmptyBraid", "()Z"⟩, 13), (⟨"HornBraider$Coil", "begin", "(I)V"⟩, 3), (⟨"HornBraider$Coil", "follow", "(LHornBraider$Word;I)V"⟩, 3), (⟨"HornBraider$Coil", "act", "(I)V"⟩, 3), (⟨"HornBraider$Coil", "wipe", "(I)V"⟩, 3), (⟨"HornBraider$Coil", "addTo", "(III)V"⟩, 3), (⟨"HornBraider$Coil", "addLower", "(III)V"⟩, 3), (⟨"HornBraider$Coil", "isBelowZero", "(I)Z"⟩, 3), (⟨"HornBraider$Coil", "addUpper", "(III)V"⟩, 3), (⟨"HornBraider$Coil", "swap", "(II)V"⟩, 3), (⟨"HornBraider$Coil", "isBig", "(I)Z"⟩, 3), (⟨"HornBraider$Coil", "widen", "()V"⟩, 3)]
theorem lw_r6 : ∀ q ∈ lw_privs_6, lw_okq q := List.forall_mem_cons.mpr ⟨lw_p80, List.forall_mem_cons.mpr ⟨lw_p81, List.forall_mem_cons.mpr ⟨lw_p82, List.forall_mem_cons.mpr ⟨lw_p83, List.forall_mem_cons.mpr ⟨lw_p84, List.forall_mem_cons.mpr ⟨lw_p85, List.forall_mem_cons.mpr ⟨lw_p86, List.forall_mem_cons.mpr ⟨lw_p87, List.forall_mem_cons.mpr ⟨lw_p88, List.forall_mem_cons.mpr ⟨lw_p89, List.forall_mem_cons.mpr ⟨lw_p90, List.forall_mem_cons.mpr ⟨lw_p91, List.forall_mem_cons.mpr ⟨lw_p92, List.forall_mem_cons.mpr ⟨lw_p93, List.forall_mem_cons.mpr ⟨lw_p94, List.forall_mem_cons.mpr ⟨lw_p95, fun _ h => absurd h List.not_mem_nil⟩⟩⟩⟩⟩⟩⟩⟩⟩⟩⟩⟩⟩⟩⟩⟩
theorem lw_p96 : lw_okq (⟨"HornBraider$Coil", "matches", "(LHornBraider$Coil;)Z"⟩, 3) := ⟨⟨by decide +kernel, by decide +kernel⟩, List.mem_of_getElem? (i := 330) (by decide +kernel), List.mem_of_getElem? (i := 1072) (by decide +kernel), List.mem_of_getElem? (i := 1073) (by decide +kernel)⟩
theorem lw_p97 : lw_okq (⟨"HornBraider", "isWishedBraid", "(I)Z"⟩, 13) := ⟨⟨by decide +kernel, by decide +kernel⟩, List.mem_of_getElem? (i := 19) (by decide +kernel), List.mem_of_getElem? (i := 1076) (by decide +kernel), List.mem_of_getElem? (i := 1077) (by decide +kernel)⟩
theorem lw_p98 : lw_okq (⟨"HornBraider$Word", "fits", "(I)Z"⟩, 2) := ⟨⟨by decide +kernel, by decide +kernel⟩, List.mem_of_getElem? (i := 100) (by decide +kernel), List.mem_of_getElem? (i := 1080) (by decide +kernel), List.mem_of_getElem? (i := 1081) (by decide +kernel)⟩
theorem lw_p99 : lw_okq (⟨"HornBraider", "isMirrored", "()Z"⟩, 13) := ⟨⟨by decide +kernel, by decide +kernel⟩, List.mem_of_getElem? (i := 19) (by decide +kernel), List.mem_of_getElem? (i := 1084) (by decide +kernel), List.mem_of_getElem? (i := 1085) (by decide +kernel)⟩
theorem lw_p100 : lw_okq (⟨"HornBraider", "isBackwards", "()Z"⟩, 13) := ⟨⟨by decide +kernel, by decide +kernel⟩, List.mem_of_getElem? (i := 19) (by decide +kernel), List.mem_of_getElem? (i := 1088) (by decide +kernel), List.mem_of_getElem? (i := 1089) (by decide +kernel)⟩
theorem lw_p101 : lw_okq (⟨"HornBraider$Coil", "followBack", "(LHornBraider$Word;)V"⟩, 3) := ⟨⟨by decide +kernel, by decide +kernel⟩, List.mem_of_getElem? (i := 330) (by decide +kernel), List.mem_of_getElem? (i := 1092) (by decide +kernel), List.mem_of_getElem? (i := 1093) (by decide +kernel)⟩
theorem lw_p102 : lw_okq (⟨"HornBraider", "isEitherWayRound", "()Z"⟩, 13) := ⟨⟨by decide +kernel, by decide +kernel⟩, List.mem_of_getElem? (i := 19) (by decide +kernel), List.mem_of_getElem? (i := 1096) (by decide +kernel), List.mem_of_getElem? (i := 1097) (by decide +kernel)⟩
theorem lw_p103 : lw_okq (⟨"HornBraider", "hasPlace", "(I)Z"⟩, 13) := ⟨⟨by decide +kernel, by decide +kernel⟩, List.mem_of_getElem? (i := 19) (by decide +kernel), List.mem_of_getElem? (i := 1104) (by decide +kernel), List.mem_of_getElem? (i := 1105) (by decide +kernel)⟩
theorem lw_p104 : lw_okq (⟨"HornBraider$Word", "changesOf", "(II)I"⟩, 2) := ⟨⟨by decide +kernel, by decide +kernel⟩, List.mem_of_getElem? (i := 100) (by decide +kernel), List.mem_of_getElem? (i := 1113) (by decide +kernel), List.mem_of_getElem? (i := 1114) (by decide +kernel)⟩
theorem lw_p105 : lw_okq (⟨"HornBraider$Word", "partsOf", "(IZ)I"⟩, 2) := ⟨⟨by decide +kernel, by decide +kernel⟩, List.mem_of_getElem? (i := 100) (by decide +kernel), List.mem_of_getElem? (i := 1121) (by decide +kernel), List.mem_of_getElem? (i := 1122) (by decide +kernel)⟩
theorem lw_p106 : lw_okq (⟨"HornBraider$Word", "greatestPlaceOf", "(I)I"⟩, 2) := ⟨⟨by decide +kernel, by decide +kernel⟩, List.mem_of_getElem? (i := 100) (by decide +kernel), List.mem_of_getElem? (i := 1125) (by decide +kernel), List.mem_of_getElem? (i := 1126) (by decide +kernel)⟩
theorem lw_p107 : lw_okq (⟨"HornBraider$Word", "leastPlaceOf", "(I)I"⟩, 2) := ⟨⟨by decide +kernel, by decide +kernel⟩, List.mem_of_getElem? (i := 100) (by decide +kernel), List.mem_of_getElem? (i := 1129) (by decide +kernel), List.mem_of_getElem? (i := 1130) (by decide +kernel)⟩
theorem lw_p108 : lw_okq (⟨"HornBraider", "prepareSearch", "()V"⟩, 13) := ⟨⟨by decide +kernel, by decide +kernel⟩, List.mem_of_getElem? (i := 19) (by decide +kernel), List.mem_of_getElem? (i := 1141) (by decide +kernel), List.mem_of_getElem? (i := 1142) (by decide +kernel)⟩
theorem lw_p109 : lw_okq (⟨"HornBraider", "whyRefused", "(II)I"⟩, 13) := ⟨⟨by decide +kernel, by decide +kernel⟩, List.mem_of_getElem? (i := 19) (by decide +kernel), List.mem_of_getElem? (i := 1145) (by decide +kernel), List.mem_of_getElem? (i := 1146) (by decide +kernel)⟩
theorem lw_p110 : lw_okq (⟨"HornBraider$Plan", "opened", "(I)I"⟩, 10) := ⟨⟨by decide +kernel, by decide +kernel⟩, List.mem_of_getElem? (i := 27) (by decide +kernel), List.mem_of_getElem? (i := 1149) (by decide +kernel), List.mem_of_getElem? (i := 1150) (by decide +kernel)⟩
theorem lw_p111 : lw_okq (⟨"HornBraider$Plan", "heldBy", "(I)I"⟩, 10) := ⟨⟨by decide +kernel, by decide +kernel⟩, List.mem_of_getElem? (i := 27) (by decide +kernel), List.mem_of_getElem? (i := 1153) (by decide +kernel), List.mem_of_getElem? (i := 1154) (by decide +kernel)⟩
def lw_privs_7 : List (MethodName × Nat) := [(⟨"HornBraider$Coil", "matches", "(LHornBraider$Coil;)Z"⟩, 3), (⟨"HornBraider", "isWishedBraid", "(I)Z"⟩, 13), (⟨"HornBraider$Word", "fits", "(I)Z"⟩, 2), (⟨"HornBraider", "isMirrored", "()Z"⟩, 13), (⟨"HornBraider", "isBackwards", "()Z"⟩, 13), (⟨"HornBraider$Coil", "followBack", "(LHornBraider$Word;)V"⟩, 3), (⟨"HornBraider", "isEitherWayRound", "()Z"⟩, 13), (⟨"HornBraider", "hasPlace", "(I)Z"⟩, 13), (⟨"HornBraider$Word", "changesOf", "(II)I"⟩, 2), (⟨"HornBraider$Word", "partsOf", "(IZ)I"⟩, 2), (⟨"HornBraider$Word", "greatestPlaceOf", "(I)I"⟩, 2), (⟨"HornBraider$Word", "leastPlaceOf", "(I)I"⟩, 2), (⟨"HornBraider", "prepareSearch", "()V"⟩, 13), (⟨"HornBraider", "whyRefused", "(II)I"⟩, 13), (⟨"HornBraider$Plan", "opened", "(I)I"⟩, 10), (⟨"HornBraider$Plan", "heldBy", "(I)I"⟩, 10)]
theorem lw_r7 : ∀ q ∈ lw_privs_7, lw_okq q := List.forall_mem_cons.mpr ⟨lw_p96, List.forall_mem_cons.mpr ⟨lw_p97, List.forall_mem_cons.mpr ⟨lw_p98, List.forall_mem_cons.mpr ⟨lw_p99, List.forall_mem_cons.mpr ⟨lw_p100, List.forall_mem_cons.mpr ⟨lw_p101, List.forall_mem_cons.mpr ⟨lw_p102, List.forall_mem_cons.mpr ⟨lw_p103, List.forall_mem_cons.mpr ⟨lw_p104, List.forall_mem_cons.mpr ⟨lw_p105, List.forall_mem_cons.mpr ⟨lw_p106, List.forall_mem_cons.mpr ⟨lw_p107, List.forall_mem_cons.mpr ⟨lw_p108, List.forall_mem_cons.mpr ⟨lw_p109, List.forall_mem_cons.mpr ⟨lw_p110, List.forall_mem_cons.mpr ⟨lw_p111, fun _ h => absurd h List.not_mem_nil⟩⟩⟩⟩⟩⟩⟩⟩⟩⟩⟩⟩⟩⟩⟩⟩
theorem lw_p112 : lw_okq (⟨"HornBraider$Plan", "shut", "(I)I"⟩, 10) := ⟨⟨by decide +kernel, by decide +kernel⟩, List.mem_of_getElem? (i := 27) (by decide +kernel), List.mem_of_getElem? (i := 1157) (by decide +kernel), List.mem_of_getElem? (i := 1158) (by decide +kernel)⟩
theorem lw_p113 : lw_okq (⟨"HornBraider$Run", "runAll", "(LHornBraider$Frame;[IIII)Z"⟩, 11) := ⟨⟨by decide +kernel, by decide +kernel⟩, List.mem_of_getElem? (i := 247) (by decide +kernel), List.mem_of_getElem? (i := 1161) (by decide +kernel), List.mem_of_getElem? (i := 1162) (by decide +kernel)⟩
theorem lw_p114 : lw_okq (⟨"HornBraider", "firstMisplaced", "()I"⟩, 13) := ⟨⟨by decide +kernel, by decide +kernel⟩, List.mem_of_getElem? (i := 19) (by decide +kernel), List.mem_of_getElem? (i := 1167) (by decide +kernel), List.mem_of_getElem? (i := 1168) (by decide +kernel)⟩
theorem lw_p115 : lw_okq (⟨"HornBraider", "trialMatchesWished", "()Z"⟩, 13) := ⟨⟨by decide +kernel, by decide +kernel⟩, List.mem_of_getElem? (i := 19) (by decide +kernel), List.mem_of_getElem? (i := 1171) (by decide +kernel), List.mem_of_getElem? (i := 1172) (by decide +kernel)⟩
theorem lw_p116 : lw_okq (⟨"HornBraider$Sightings", "add", "(III)V"⟩, 4) := ⟨⟨by decide +kernel, by decide +kernel⟩, List.mem_of_getElem? (i := 346) (by decide +kernel), List.mem_of_getElem? (i := 1187) (by decide +kernel), List.mem_of_getElem? (i := 1188) (by decide +kernel)⟩
theorem lw_p117 : lw_okq (⟨"HornBraider$Namer", "work", "(LHornBraider$Plan;LHornBraider$Sightings;LHornBraider$Run;)V"⟩, 6) := ⟨⟨by decide +kernel, by decide +kernel⟩, List.mem_of_getElem? (i := 366) (by decide +kernel), List.mem_of_getElem? (i := 1199) (by decide +kernel), List.mem_of_getElem? (i := 1200) (by decide +kernel)⟩
theorem lw_p118 : lw_okq (⟨"HornBraider$Plan", "fillPrograms", "([I)V"⟩, 10) := ⟨⟨by decide +kernel, by decide +kernel⟩, List.mem_of_getElem? (i := 27) (by decide +kernel), List.mem_of_getElem? (i := 1203) (by decide +kernel), List.mem_of_getElem? (i := 1204) (by decide +kernel)⟩
theorem lw_p119 : lw_okq (⟨"HornBraider$Namer", "explains", "(LHornBraider$Plan;LHornBraider$Sightings;LHornBraider$Run;II)Z"⟩, 6) := ⟨⟨by decide +kernel, by decide +kernel⟩, List.mem_of_getElem? (i := 366) (by decide +kernel), List.mem_of_getElem? (i := 1207) (by decide +kernel), List.mem_of_getElem? (i := 1208) (by decide +kernel)⟩
theorem lw_p120 : lw_okq (⟨"HornBraider$Sightings", "latest", "()I"⟩, 4) := ⟨⟨by decide +kernel, by decide +kernel⟩, List.mem_of_getElem? (i := 346) (by decide +kernel), List.mem_of_getElem? (i := 1217) (by decide +kernel), List.mem_of_getElem? (i := 1218) (by decide +kernel)⟩
theorem lw_p121 : lw_okq (⟨"HornBraider$Sightings", "agree", "(LHornBraider$Run;)Z"⟩, 4) := ⟨⟨by decide +kernel, by decide +kernel⟩, List.mem_of_getElem? (i := 346) (by decide +kernel), List.mem_of_getElem? (i := 1224) (by decide +kernel), List.mem_of_getElem? (i := 1225) (by decide +kernel)⟩
theorem lw_p122 : lw_okq (⟨"HornBraider$Namer", "keep", "(II)V"⟩, 6) := ⟨⟨by decide +kernel, by decide +kernel⟩, List.mem_of_getElem? (i := 366) (by decide +kernel), List.mem_of_getElem? (i := 1230) (by decide +kernel), List.mem_of_getElem? (i := 1231) (by decide +kernel)⟩
theorem lw_p123 : lw_okq (⟨"HornBraider$Namer", "workBehind", "(LHornBraider$Plan;LHornBraider$Sightings;LHornBraider$Run;I)V"⟩, 6) := ⟨⟨by decide +kernel, by decide +kernel⟩, List.mem_of_getElem? (i := 366) (by decide +kernel), List.mem_of_getElem? (i := 1234) (by decide +kernel), List.mem_of_getElem? (i := 1235) (by decide +kernel)⟩
theorem lw_p124 : lw_okq (⟨"HornBraider$Namer", "member", "(II)I"⟩, 6) := ⟨⟨by decide +kernel, by decide +kernel⟩, List.mem_of_getElem? (i := 366) (by decide +kernel), List.mem_of_getElem? (i := 1242) (by decide +kernel), List.mem_of_getElem? (i := 1243) (by decide +kernel)⟩
theorem lw_p125 : lw_okq (⟨"HornBraiderModel", "clears", "(II)V"⟩, 49) := ⟨⟨by decide +kernel, by decide +kernel⟩, List.mem_of_getElem? (i := 1246) (by decide +kernel), List.mem_of_getElem? (i := 1261) (by decide +kernel), List.mem_of_getElem? (i := 1262) (by decide +kernel)⟩
theorem lw_p126 : lw_okq (⟨"HornBraiderModel", "is", "(I)Z"⟩, 49) := ⟨⟨by decide +kernel, by decide +kernel⟩, List.mem_of_getElem? (i := 1246) (by decide +kernel), List.mem_of_getElem? (i := 1424) (by decide +kernel), List.mem_of_getElem? (i := 1425) (by decide +kernel)⟩
theorem lw_p127 : lw_okq (⟨"HornBraiderModel", "twist", "()I"⟩, 49) := ⟨⟨by decide +kernel, by decide +kernel⟩, List.mem_of_getElem? (i := 1246) (by decide +kernel), List.mem_of_getElem? (i := 1428) (by decide +kernel), List.mem_of_getElem? (i := 1429) (by decide +kernel)⟩
def lw_privs_8 : List (MethodName × Nat) := [(⟨"HornBraider$Plan", "shut", "(I)I"⟩, 10), (⟨"HornBraider$Run", "runAll", "(LHornBraider$Frame;[IIII)Z"⟩, 11), (⟨"HornBraider", "firstMisplaced", "()I"⟩, 13), (⟨"HornBraider", "trialMatchesWished", "()Z"⟩, 13), (⟨"HornBraider$Sightings", "add", "(III)V"⟩, 4), (⟨"HornBraider$Namer", "work", "(LHornBraider$Plan;LHornBraider$Sightings;LHornBraider$Run;)V"⟩, 6), (⟨"HornBraider$Plan", "fillPrograms", "([I)V"⟩, 10), (⟨"HornBraider$Namer", "explains", "(LHornBraider$Plan;LHornBraider$Sightings;LHornBraider$Run;II)Z"⟩, 6), (⟨"HornBraider$Sightings", "latest", "()I"⟩, 4), (⟨"HornBraider$Sightings", "agree", "(LHornBraider$Run;)Z"⟩, 4), (⟨"HornBraider$Namer", "keep", "(II)V"⟩, 6), (⟨"HornBraider$Namer", "workBehind", "(LHornBraider$Plan;LHornBraider$Sightings;LHornBraider$Run;I)V"⟩, 6), (⟨"HornBraider$Namer", "member", "(II)I"⟩, 6), (⟨"HornBraiderModel", "clears", "(II)V"⟩, 49), (⟨"HornBraiderModel", "is", "(I)Z"⟩, 49), (⟨"HornBraiderModel", "twist", "()I"⟩, 49)]
theorem lw_r8 : ∀ q ∈ lw_privs_8, lw_okq q := List.forall_mem_cons.mpr ⟨lw_p112, List.forall_mem_cons.mpr ⟨lw_p113, List.forall_mem_cons.mpr ⟨lw_p114, List.forall_mem_cons.mpr ⟨lw_p115, List.forall_mem_cons.mpr ⟨lw_p116, List.forall_mem_cons.mpr ⟨lw_p117, List.forall_mem_cons.mpr ⟨lw_p118, List.forall_mem_cons.mpr ⟨lw_p119, List.forall_mem_cons.mpr ⟨lw_p120, List.forall_mem_cons.mpr ⟨lw_p121, List.forall_mem_cons.mpr ⟨lw_p122, List.forall_mem_cons.mpr ⟨lw_p123, List.forall_mem_cons.mpr ⟨lw_p124, List.forall_mem_cons.mpr ⟨lw_p125, List.forall_mem_cons.mpr ⟨lw_p126, List.forall_mem_cons.mpr ⟨lw_p127, fun _ h => absurd h List.not_mem_nil⟩⟩⟩⟩⟩⟩⟩⟩⟩⟩⟩⟩⟩⟩⟩⟩
theorem lw_p128 : lw_okq (⟨"HornBraiderModel", "loops", "()I"⟩, 49) := ⟨⟨by decide +kernel, by decide +kernel⟩, List.mem_of_getElem? (i := 1246) (by decide +kernel), List.mem_of_getElem? (i := 1432) (by decide +kernel), List.mem_of_getElem? (i := 1433) (by decide +kernel)⟩
theorem lw_p129 : lw_okq (⟨"HornBraiderModel", "beginsThreads", "()V"⟩, 49) := ⟨⟨by decide +kernel, by decide +kernel⟩, List.mem_of_getElem? (i := 1246) (by decide +kernel), List.mem_of_getElem? (i := 1436) (by decide +kernel), List.mem_of_getElem? (i := 1437) (by decide +kernel)⟩
theorem lw_p130 : lw_okq (⟨"HornBraiderModel", "placeOf", "(I)I"⟩, 49) := ⟨⟨by decide +kernel, by decide +kernel⟩, List.mem_of_getElem? (i := 1246) (by decide +kernel), List.mem_of_getElem? (i := 1440) (by decide +kernel), List.mem_of_getElem? (i := 1441) (by decide +kernel)⟩
theorem lw_p131 : lw_okq (⟨"HornBraiderModel", "crosses", "(I)V"⟩, 49) := ⟨⟨by decide +kernel, by decide +kernel⟩, List.mem_of_getElem? (i := 1246) (by decide +kernel), List.mem_of_getElem? (i := 1444) (by decide +kernel), List.mem_of_getElem? (i := 1445) (by decide +kernel)⟩
theorem lw_p132 : lw_okq (⟨"HornBraiderModel", "beginsBraid", "()V"⟩, 49) := ⟨⟨by decide +kernel, by decide +kernel⟩, List.mem_of_getElem? (i := 1246) (by decide +kernel), List.mem_of_getElem? (i := 1448) (by decide +kernel), List.mem_of_getElem? (i := 1449) (by decide +kernel)⟩
theorem lw_p133 : lw_okq (⟨"HornBraiderModel", "joinsWord", "(ZZ)V"⟩, 49) := ⟨⟨by decide +kernel, by decide +kernel⟩, List.mem_of_getElem? (i := 1246) (by decide +kernel), List.mem_of_getElem? (i := 1452) (by decide +kernel), List.mem_of_getElem? (i := 1453) (by decide +kernel)⟩
theorem lw_p134 : lw_okq (⟨"HornBraiderModel", "joins", "(I)V"⟩, 49) := ⟨⟨by decide +kernel, by decide +kernel⟩, List.mem_of_getElem? (i := 1246) (by decide +kernel), List.mem_of_getElem? (i := 1456) (by decide +kernel), List.mem_of_getElem? (i := 1457) (by decide +kernel)⟩
theorem lw_p135 : lw_okq (⟨"HornBraiderModel", "mirrors", "(I)V"⟩, 49) := ⟨⟨by decide +kernel, by decide +kernel⟩, List.mem_of_getElem? (i := 1246) (by decide +kernel), List.mem_of_getElem? (i := 1460) (by decide +kernel), List.mem_of_getElem? (i := 1461) (by decide +kernel)⟩
theorem lw_p136 : lw_okq (⟨"HornBraiderModel", "goesTo", "(II)I"⟩, 49) := ⟨⟨by decide +kernel, by decide +kernel⟩, List.mem_of_getElem? (i := 1246) (by decide +kernel), List.mem_of_getElem? (i := 1464) (by decide +kernel), List.mem_of_getElem? (i := 1465) (by decide +kernel)⟩
theorem lw_p137 : lw_okq (⟨"HornBraiderModel", "lays", "(III)V"⟩, 49) := ⟨⟨by decide +kernel, by decide +kernel⟩, List.mem_of_getElem? (i := 1246) (by decide +kernel), List.mem_of_getElem? (i := 1468) (by decide +kernel), List.mem_of_getElem? (i := 1469) (by decide +kernel)⟩
theorem lw_p138 : lw_okq (⟨"HornBraiderModel", "comesFrom", "(II)I"⟩, 49) := ⟨⟨by decide +kernel, by decide +kernel⟩, List.mem_of_getElem? (i := 1246) (by decide +kernel), List.mem_of_getElem? (i := 1472) (by decide +kernel), List.mem_of_getElem? (i := 1473) (by decide +kernel)⟩
theorem lw_p139 : lw_okq (⟨"HornBraiderModel", "settles", "()V"⟩, 49) := ⟨⟨by decide +kernel, by decide +kernel⟩, List.mem_of_getElem? (i := 1246) (by decide +kernel), List.mem_of_getElem? (i := 1476) (by decide +kernel), List.mem_of_getElem? (i := 1477) (by decide +kernel)⟩
theorem lw_p140 : lw_okq (⟨"HornBraiderModel", "shares", "(I)Z"⟩, 49) := ⟨⟨by decide +kernel, by decide +kernel⟩, List.mem_of_getElem? (i := 1246) (by decide +kernel), List.mem_of_getElem? (i := 1480) (by decide +kernel), List.mem_of_getElem? (i := 1481) (by decide +kernel)⟩
theorem lw_p141 : lw_okq (⟨"HornBraiderModel", "isBegun", "(II)Z"⟩, 49) := ⟨⟨by decide +kernel, by decide +kernel⟩, List.mem_of_getElem? (i := 1246) (by decide +kernel), List.mem_of_getElem? (i := 1484) (by decide +kernel), List.mem_of_getElem? (i := 1485) (by decide +kernel)⟩
theorem lw_p142 : lw_okq (⟨"HornBraiderModel", "isEnded", "(II)Z"⟩, 49) := ⟨⟨by decide +kernel, by decide +kernel⟩, List.mem_of_getElem? (i := 1246) (by decide +kernel), List.mem_of_getElem? (i := 1488) (by decide +kernel), List.mem_of_getElem? (i := 1489) (by decide +kernel)⟩
theorem lw_p143 : lw_okq (⟨"HornBraiderModel", "isNothing", "(I)Z"⟩, 49) := ⟨⟨by decide +kernel, by decide +kernel⟩, List.mem_of_getElem? (i := 1246) (by decide +kernel), List.mem_of_getElem? (i := 1492) (by decide +kernel), List.mem_of_getElem? (i := 1493) (by decide +kernel)⟩
def lw_privs_9 : List (MethodName × Nat) := [(⟨"HornBraiderModel", "loops", "()I"⟩, 49), (⟨"HornBraiderModel", "beginsThreads", "()V"⟩, 49), (⟨"HornBraiderModel", "placeOf", "(I)I"⟩, 49), (⟨"HornBraiderModel", "crosses", "(I)V"⟩, 49), (⟨"HornBraiderModel", "beginsBraid", "()V"⟩, 49), (⟨"HornBraiderModel", "joinsWord", "(ZZ)V"⟩, 49), (⟨"HornBraiderModel", "joins", "(I)V"⟩, 49), (⟨"HornBraiderModel", "mirrors", "(I)V"⟩, 49), (⟨"HornBraiderModel", "goesTo", "(II)I"⟩, 49), (⟨"HornBraiderModel", "lays", "(III)V"⟩, 49), (⟨"HornBraiderModel", "comesFrom", "(II)I"⟩, 49), (⟨"HornBraiderModel", "settles", "()V"⟩, 49), (⟨"HornBraiderModel", "shares", "(I)Z"⟩, 49), (⟨"HornBraiderModel", "isBegun", "(II)Z"⟩, 49), (⟨"HornBraiderModel", "isEnded", "(II)Z"⟩, 49), (⟨"HornBraiderModel", "isNothing", "(I)Z"⟩, 49)]
theorem lw_r9 : ∀ q ∈ lw_privs_9, lw_okq q := List.forall_mem_cons.mpr ⟨lw_p128, List.forall_mem_cons.mpr ⟨lw_p129, List.forall_mem_cons.mpr ⟨lw_p130, List.forall_mem_cons.mpr ⟨lw_p131, List.forall_mem_cons.mpr ⟨lw_p132, List.forall_mem_cons.mpr ⟨lw_p133, List.forall_mem_cons.mpr ⟨lw_p134, List.forall_mem_cons.mpr ⟨lw_p135, List.forall_mem_cons.mpr ⟨lw_p136, List.forall_mem_cons.mpr ⟨lw_p137, List.forall_mem_cons.mpr ⟨lw_p138, List.forall_mem_cons.mpr ⟨lw_p139, List.forall_mem_cons.mpr ⟨lw_p140, List.forall_mem_cons.mpr ⟨lw_p141, List.forall_mem_cons.mpr ⟨lw_p142, List.forall_mem_cons.mpr ⟨lw_p143, fun _ h => absurd h List.not_mem_nil⟩⟩⟩⟩⟩⟩⟩⟩⟩⟩⟩⟩⟩⟩⟩⟩
theorem lw_p144 : lw_okq (⟨"HornBraiderModel", "isHalfTurn", "(I)Z"⟩, 49) := ⟨⟨by decide +kernel, by decide +kernel⟩, List.mem_of_getElem? (i := 1246) (by decide +kernel), List.mem_of_getElem? (i := 1496) (by decide +kernel), List.mem_of_getElem? (i := 1497) (by decide +kernel)⟩
theorem lw_p145 : lw_okq (⟨"HornBraiderModel", "leavesOut", "(I)V"⟩, 49) := ⟨⟨by decide +kernel, by decide +kernel⟩, List.mem_of_getElem? (i := 1246) (by decide +kernel), List.mem_of_getElem? (i := 1500) (by decide +kernel), List.mem_of_getElem? (i := 1501) (by decide +kernel)⟩
theorem lw_p146 : lw_okq (⟨"HornBraiderModel", "isNoBraid", "()Z"⟩, 49) := ⟨⟨by decide +kernel, by decide +kernel⟩, List.mem_of_getElem? (i := 1246) (by decide +kernel), List.mem_of_getElem? (i := 1504) (by decide +kernel), List.mem_of_getElem? (i := 1505) (by decide +kernel)⟩
theorem lw_p147 : lw_okq (⟨"HornBraiderModel", "isWishedAgain", "(I)Z"⟩, 49) := ⟨⟨by decide +kernel, by decide +kernel⟩, List.mem_of_getElem? (i := 1246) (by decide +kernel), List.mem_of_getElem? (i := 1508) (by decide +kernel), List.mem_of_getElem? (i := 1509) (by decide +kernel)⟩
theorem lw_p148 : lw_okq (⟨"HornBraiderModel", "canBeWished", "()Z"⟩, 49) := ⟨⟨by decide +kernel, by decide +kernel⟩, List.mem_of_getElem? (i := 1246) (by decide +kernel), List.mem_of_getElem? (i := 1512) (by decide +kernel), List.mem_of_getElem? (i := 1513) (by decide +kernel)⟩
theorem lw_p149 : lw_okq (⟨"HornBraiderModel", "unjoinsWished", "()V"⟩, 49) := ⟨⟨by decide +kernel, by decide +kernel⟩, List.mem_of_getElem? (i := 1246) (by decide +kernel), List.mem_of_getElem? (i := 1516) (by decide +kernel), List.mem_of_getElem? (i := 1517) (by decide +kernel)⟩
theorem lw_p150 : lw_okq (⟨"HornBraiderModel", "isItselfSo", "(ZZ)Z"⟩, 49) := ⟨⟨by decide +kernel, by decide +kernel⟩, List.mem_of_getElem? (i := 1246) (by decide +kernel), List.mem_of_getElem? (i := 1520) (by decide +kernel), List.mem_of_getElem? (i := 1521) (by decide +kernel)⟩
theorem lw_p151 : lw_okq (⟨"HornBraiderModel", "unjoinsWord", "()V"⟩, 49) := ⟨⟨by decide +kernel, by decide +kernel⟩, List.mem_of_getElem? (i := 1246) (by decide +kernel), List.mem_of_getElem? (i := 1524) (by decide +kernel), List.mem_of_getElem? (i := 1525) (by decide +kernel)⟩
theorem lw_p152 : lw_okq (⟨"HornBraiderModel", "goEitherWay", "()Z"⟩, 49) := ⟨⟨by decide +kernel, by decide +kernel⟩, List.mem_of_getElem? (i := 1246) (by decide +kernel), List.mem_of_getElem? (i := 1528) (by decide +kernel), List.mem_of_getElem? (i := 1529) (by decide +kernel)⟩
theorem lw_p153 : lw_okq (⟨"HornBraiderModel", "joinsWished", "()V"⟩, 49) := ⟨⟨by decide +kernel, by decide +kernel⟩, List.mem_of_getElem? (i := 1246) (by decide +kernel), List.mem_of_getElem? (i := 1532) (by decide +kernel), List.mem_of_getElem? (i := 1533) (by decide +kernel)⟩
theorem lw_p154 : lw_okq (⟨"HornBraiderModel", "isPlace", "(I)Z"⟩, 49) := ⟨⟨by decide +kernel, by decide +kernel⟩, List.mem_of_getElem? (i := 1246) (by decide +kernel), List.mem_of_getElem? (i := 1540) (by decide +kernel), List.mem_of_getElem? (i := 1541) (by decide +kernel)⟩
theorem lw_p155 : lw_okq (⟨"HornBraiderModel", "gates", "()I"⟩, 49) := ⟨⟨by decide +kernel, by decide +kernel⟩, List.mem_of_getElem? (i := 1246) (by decide +kernel), List.mem_of_getElem? (i := 1568) (by decide +kernel), List.mem_of_getElem? (i := 1569) (by decide +kernel)⟩
theorem lw_p156 : lw_okq (⟨"HornBraiderModel", "across", "()I"⟩, 49) := ⟨⟨by decide +kernel, by decide +kernel⟩, List.mem_of_getElem? (i := 1246) (by decide +kernel), List.mem_of_getElem? (i := 1572) (by decide +kernel), List.mem_of_getElem? (i := 1573) (by decide +kernel)⟩
theorem lw_p157 : lw_okq (⟨"HornBraiderModel", "slots", "()I"⟩, 49) := ⟨⟨by decide +kernel, by decide +kernel⟩, List.mem_of_getElem? (i := 1246) (by decide +kernel), List.mem_of_getElem? (i := 1576) (by decide +kernel), List.mem_of_getElem? (i := 1577) (by decide +kernel)⟩
theorem lw_p158 : lw_okq (⟨"HornBraiderModel", "counted", "(I)I"⟩, 49) := ⟨⟨by decide +kernel, by decide +kernel⟩, List.mem_of_getElem? (i := 1246) (by decide +kernel), List.mem_of_getElem? (i := 1580) (by decide +kernel), List.mem_of_getElem? (i := 1581) (by decide +kernel)⟩
theorem lw_p159 : lw_okq (⟨"HornBraiderModel", "period", "()I"⟩, 49) := ⟨⟨by decide +kernel, by decide +kernel⟩, List.mem_of_getElem? (i := 1246) (by decide +kernel), List.mem_of_getElem? (i := 1584) (by decide +kernel), List.mem_of_getElem? (i := 1585) (by decide +kernel)⟩
def lw_privs_10 : List (MethodName × Nat) := [(⟨"HornBraiderModel", "isHalfTurn", "(I)Z"⟩, 49), (⟨"HornBraiderModel", "leavesOut", "(I)V"⟩, 49), (⟨"HornBraiderModel", "isNoBraid", "()Z"⟩, 49), (⟨"HornBraiderModel", "isWishedAgain", "(I)Z"⟩, 49), (⟨"HornBraiderModel", "canBeWished", "()Z"⟩, 49), (⟨"HornBraiderModel", "unjoinsWished", "()V"⟩, 49), (⟨"HornBraiderModel", "isItselfSo", "(ZZ)Z"⟩, 49), (⟨"HornBraiderModel", "unjoinsWord", "()V"⟩, 49), (⟨"HornBraiderModel", "goEitherWay", "()Z"⟩, 49), (⟨"HornBraiderModel", "joinsWished", "()V"⟩, 49), (⟨"HornBraiderModel", "isPlace", "(I)Z"⟩, 49), (⟨"HornBraiderModel", "gates", "()I"⟩, 49), (⟨"HornBraiderModel", "across", "()I"⟩, 49), (⟨"HornBraiderModel", "slots", "()I"⟩, 49), (⟨"HornBraiderModel", "counted", "(I)I"⟩, 49), (⟨"HornBraiderModel", "period", "()I"⟩, 49)]
theorem lw_r10 : ∀ q ∈ lw_privs_10, lw_okq q := List.forall_mem_cons.mpr ⟨lw_p144, List.forall_mem_cons.mpr ⟨lw_p145, List.forall_mem_cons.mpr ⟨lw_p146, List.forall_mem_cons.mpr ⟨lw_p147, List.forall_mem_cons.mpr ⟨lw_p148, List.forall_mem_cons.mpr ⟨lw_p149, List.forall_mem_cons.mpr ⟨lw_p150, List.forall_mem_cons.mpr ⟨lw_p151, List.forall_mem_cons.mpr ⟨lw_p152, List.forall_mem_cons.mpr ⟨lw_p153, List.forall_mem_cons.mpr ⟨lw_p154, List.forall_mem_cons.mpr ⟨lw_p155, List.forall_mem_cons.mpr ⟨lw_p156, List.forall_mem_cons.mpr ⟨lw_p157, List.forall_mem_cons.mpr ⟨lw_p158, List.forall_mem_cons.mpr ⟨lw_p159, fun _ h => absurd h List.not_mem_nil⟩⟩⟩⟩⟩⟩⟩⟩⟩⟩⟩⟩⟩⟩⟩⟩
theorem lw_p160 : lw_okq (⟨"HornBraiderModel", "isGate", "(I)Z"⟩, 49) := ⟨⟨by decide +kernel, by decide +kernel⟩, List.mem_of_getElem? (i := 1246) (by decide +kernel), List.mem_of_getElem? (i := 1598) (by decide +kernel), List.mem_of_getElem? (i := 1599) (by decide +kernel)⟩
theorem lw_p161 : lw_okq (⟨"HornBraiderModel", "isOpen", "(II)Z"⟩, 49) := ⟨⟨by decide +kernel, by decide +kernel⟩, List.mem_of_getElem? (i := 1246) (by decide +kernel), List.mem_of_getElem? (i := 1602) (by decide +kernel), List.mem_of_getElem? (i := 1603) (by decide +kernel)⟩
theorem lw_p162 : lw_okq (⟨"HornBraiderModel", "howStuck", "(I)I"⟩, 49) := ⟨⟨by decide +kernel, by decide +kernel⟩, List.mem_of_getElem? (i := 1246) (by decide +kernel), List.mem_of_getElem? (i := 1606) (by decide +kernel), List.mem_of_getElem? (i := 1607) (by decide +kernel)⟩
theorem lw_p163 : lw_okq (⟨"HornBraiderModel", "freeNumber", "(I)I"⟩, 49) := ⟨⟨by decide +kernel, by decide +kernel⟩, List.mem_of_getElem? (i := 1246) (by decide +kernel), List.mem_of_getElem? (i := 1610) (by decide +kernel), List.mem_of_getElem? (i := 1611) (by decide +kernel)⟩
theorem lw_p164 : lw_okq (⟨"HornBraiderModel", "firstOf", "(I)I"⟩, 49) := ⟨⟨by decide +kernel, by decide +kernel⟩, List.mem_of_getElem? (i := 1246) (by decide +kernel), List.mem_of_getElem? (i := 1614) (by decide +kernel), List.mem_of_getElem? (i := 1615) (by decide +kernel)⟩
theorem lw_p165 : lw_okq (⟨"HornBraiderModel", "secondOf", "(I)I"⟩, 49) := ⟨⟨by decide +kernel, by decide +kernel⟩, List.mem_of_getElem? (i := 1246) (by decide +kernel), List.mem_of_getElem? (i := 1618) (by decide +kernel), List.mem_of_getElem? (i := 1619) (by decide +kernel)⟩
theorem lw_p166 : lw_okq (⟨"HornBraiderModel", "isBobbin", "(I)Z"⟩, 49) := ⟨⟨by decide +kernel, by decide +kernel⟩, List.mem_of_getElem? (i := 1246) (by decide +kernel), List.mem_of_getElem? (i := 1630) (by decide +kernel), List.mem_of_getElem? (i := 1631) (by decide +kernel)⟩
theorem lw_p167 : lw_okq (⟨"HornBraiderModel", "xOf", "(I)I"⟩, 49) := ⟨⟨by decide +kernel, by decide +kernel⟩, List.mem_of_getElem? (i := 1246) (by decide +kernel), List.mem_of_getElem? (i := 1634) (by decide +kernel), List.mem_of_getElem? (i := 1635) (by decide +kernel)⟩
theorem lw_p168 : lw_okq (⟨"HornBraiderModel", "yOf", "(I)I"⟩, 49) := ⟨⟨by decide +kernel, by decide +kernel⟩, List.mem_of_getElem? (i := 1246) (by decide +kernel), List.mem_of_getElem? (i := 1638) (by decide +kernel), List.mem_of_getElem? (i := 1639) (by decide +kernel)⟩
theorem lw_p169 : lw_okq (⟨"HornBraiderModel", "standing", "(I)I"⟩, 49) := ⟨⟨by decide +kernel, by decide +kernel⟩, List.mem_of_getElem? (i := 1246) (by decide +kernel), List.mem_of_getElem? (i := 1642) (by decide +kernel), List.mem_of_getElem? (i := 1643) (by decide +kernel)⟩
theorem lw_p170 : lw_okq (⟨"HornBraiderModel", "isAhead", "(II)Z"⟩, 49) := ⟨⟨by decide +kernel, by decide +kernel⟩, List.mem_of_getElem? (i := 1246) (by decide +kernel), List.mem_of_getElem? (i := 1646) (by decide +kernel), List.mem_of_getElem? (i := 1647) (by decide +kernel)⟩
theorem lw_p171 : lw_okq (⟨"HornBraiderModel", "isSlot", "(I)Z"⟩, 49) := ⟨⟨by decide +kernel, by decide +kernel⟩, List.mem_of_getElem? (i := 1246) (by decide +kernel), List.mem_of_getElem? (i := 1654) (by decide +kernel), List.mem_of_getElem? (i := 1655) (by decide +kernel)⟩
theorem lw_p172 : lw_okq (⟨"HornBraiderModel", "bobbinIn", "(II)I"⟩, 49) := ⟨⟨by decide +kernel, by decide +kernel⟩, List.mem_of_getElem? (i := 1246) (by decide +kernel), List.mem_of_getElem? (i := 1658) (by decide +kernel), List.mem_of_getElem? (i := 1659) (by decide +kernel)⟩
theorem lw_p173 : lw_okq (⟨"HornBraiderModel", "refuse", "(I)I"⟩, 49) := ⟨⟨by decide +kernel, by decide +kernel⟩, List.mem_of_getElem? (i := 1246) (by decide +kernel), List.mem_of_getElem? (i := 1662) (by decide +kernel), List.mem_of_getElem? (i := 1663) (by decide +kernel)⟩
theorem lw_p174 : lw_okq (⟨"HornBraiderModel", "facing", "(I)I"⟩, 49) := ⟨⟨by decide +kernel, by decide +kernel⟩, List.mem_of_getElem? (i := 1246) (by decide +kernel), List.mem_of_getElem? (i := 1670) (by decide +kernel), List.mem_of_getElem? (i := 1671) (by decide +kernel)⟩
theorem lw_p175 : lw_okq (⟨"HornBraiderModel", "gateAt", "(I)I"⟩, 49) := ⟨⟨by decide +kernel, by decide +kernel⟩, List.mem_of_getElem? (i := 1246) (by decide +kernel), List.mem_of_getElem? (i := 1674) (by decide +kernel), List.mem_of_getElem? (i := 1675) (by decide +kernel)⟩
def lw_privs_11 : List (MethodName × Nat) := [(⟨"HornBraiderModel", "isGate", "(I)Z"⟩, 49), (⟨"HornBraiderModel", "isOpen", "(II)Z"⟩, 49), (⟨"HornBraiderModel", "howStuck", "(I)I"⟩, 49), (⟨"HornBraiderModel", "freeNumber", "(I)I"⟩, 49), (⟨"HornBraiderModel", "firstOf", "(I)I"⟩, 49), (⟨"HornBraiderModel", "secondOf", "(I)I"⟩, 49), (⟨"HornBraiderModel", "isBobbin", "(I)Z"⟩, 49), (⟨"HornBraiderModel", "xOf", "(I)I"⟩, 49), (⟨"HornBraiderModel", "yOf", "(I)I"⟩, 49), (⟨"HornBraiderModel", "standing", "(I)I"⟩, 49), (⟨"HornBraiderModel", "isAhead", "(II)Z"⟩, 49), (⟨"HornBraiderModel", "isSlot", "(I)Z"⟩, 49), (⟨"HornBraiderModel", "bobbinIn", "(II)I"⟩, 49), (⟨"HornBraiderModel", "refuse", "(I)I"⟩, 49), (⟨"HornBraiderModel", "facing", "(I)I"⟩, 49), (⟨"HornBraiderModel", "gateAt", "(I)I"⟩, 49)]
theorem lw_r11 : ∀ q ∈ lw_privs_11, lw_okq q := List.forall_mem_cons.mpr ⟨lw_p160, List.forall_mem_cons.mpr ⟨lw_p161, List.forall_mem_cons.mpr ⟨lw_p162, List.forall_mem_cons.mpr ⟨lw_p163, List.forall_mem_cons.mpr ⟨lw_p164, List.forall_mem_cons.mpr ⟨lw_p165, List.forall_mem_cons.mpr ⟨lw_p166, List.forall_mem_cons.mpr ⟨lw_p167, List.forall_mem_cons.mpr ⟨lw_p168, List.forall_mem_cons.mpr ⟨lw_p169, List.forall_mem_cons.mpr ⟨lw_p170, List.forall_mem_cons.mpr ⟨lw_p171, List.forall_mem_cons.mpr ⟨lw_p172, List.forall_mem_cons.mpr ⟨lw_p173, List.forall_mem_cons.mpr ⟨lw_p174, List.forall_mem_cons.mpr ⟨lw_p175, fun _ h => absurd h List.not_mem_nil⟩⟩⟩⟩⟩⟩⟩⟩⟩⟩⟩⟩⟩⟩⟩⟩
theorem lw_p176 : lw_okq (⟨"HornBraiderModel", "isTakenStart", "(I)Z"⟩, 49) := ⟨⟨by decide +kernel, by decide +kernel⟩, List.mem_of_getElem? (i := 1246) (by decide +kernel), List.mem_of_getElem? (i := 1694) (by decide +kernel), List.mem_of_getElem? (i := 1695) (by decide +kernel)⟩
theorem lw_p177 : lw_okq (⟨"HornBraiderModel", "comesNew", "(I)I"⟩, 49) := ⟨⟨by decide +kernel, by decide +kernel⟩, List.mem_of_getElem? (i := 1246) (by decide +kernel), List.mem_of_getElem? (i := 1698) (by decide +kernel), List.mem_of_getElem? (i := 1699) (by decide +kernel)⟩
theorem lw_p178 : lw_okq (⟨"HornBraiderModel", "standsNow", "()V"⟩, 49) := ⟨⟨by decide +kernel, by decide +kernel⟩, List.mem_of_getElem? (i := 1246) (by decide +kernel), List.mem_of_getElem? (i := 1714) (by decide +kernel), List.mem_of_getElem? (i := 1715) (by decide +kernel)⟩
theorem lw_p179 : lw_okq (⟨"HornBraiderModel", "tries", "(I)Z"⟩, 49) := ⟨⟨by decide +kernel, by decide +kernel⟩, List.mem_of_getElem? (i := 1246) (by decide +kernel), List.mem_of_getElem? (i := 1718) (by decide +kernel), List.mem_of_getElem? (i := 1719) (by decide +kernel)⟩
theorem lw_p180 : lw_okq (⟨"HornBraiderModel", "turned", "(I)I"⟩, 49) := ⟨⟨by decide +kernel, by decide +kernel⟩, List.mem_of_getElem? (i := 1246) (by decide +kernel), List.mem_of_getElem? (i := 1722) (by decide +kernel), List.mem_of_getElem? (i := 1723) (by decide +kernel)⟩
theorem lw_p181 : lw_okq (⟨"HornBraiderModel", "meeting", "()I"⟩, 49) := ⟨⟨by decide +kernel, by decide +kernel⟩, List.mem_of_getElem? (i := 1246) (by decide +kernel), List.mem_of_getElem? (i := 1726) (by decide +kernel), List.mem_of_getElem? (i := 1727) (by decide +kernel)⟩
theorem lw_p182 : lw_okq (⟨"HornBraiderModel", "over", "(II)I"⟩, 49) := ⟨⟨by decide +kernel, by decide +kernel⟩, List.mem_of_getElem? (i := 1246) (by decide +kernel), List.mem_of_getElem? (i := 1730) (by decide +kernel), List.mem_of_getElem? (i := 1731) (by decide +kernel)⟩
theorem lw_p183 : lw_okq (⟨"HornBraiderModel", "spellsStep", "()V"⟩, 49) := ⟨⟨by decide +kernel, by decide +kernel⟩, List.mem_of_getElem? (i := 1246) (by decide +kernel), List.mem_of_getElem? (i := 1734) (by decide +kernel), List.mem_of_getElem? (i := 1735) (by decide +kernel)⟩
theorem lw_p184 : lw_okq (⟨"HornBraiderModel", "stands", "()V"⟩, 49) := ⟨⟨by decide +kernel, by decide +kernel⟩, List.mem_of_getElem? (i := 1246) (by decide +kernel), List.mem_of_getElem? (i := 1738) (by decide +kernel), List.mem_of_getElem? (i := 1739) (by decide +kernel)⟩
theorem lw_p185 : lw_okq (⟨"HornBraiderModel", "isInFront", "(II)Z"⟩, 49) := ⟨⟨by decide +kernel, by decide +kernel⟩, List.mem_of_getElem? (i := 1246) (by decide +kernel), List.mem_of_getElem? (i := 1742) (by decide +kernel), List.mem_of_getElem? (i := 1743) (by decide +kernel)⟩
theorem lw_p186 : lw_okq (⟨"HornBraiderModel", "spells", "(I)V"⟩, 49) := ⟨⟨by decide +kernel, by decide +kernel⟩, List.mem_of_getElem? (i := 1246) (by decide +kernel), List.mem_of_getElem? (i := 1746) (by decide +kernel), List.mem_of_getElem? (i := 1747) (by decide +kernel)⟩
theorem lw_p187 : lw_okq (⟨"HornBraiderModel", "mapped", "(II)I"⟩, 49) := ⟨⟨by decide +kernel, by decide +kernel⟩, List.mem_of_getElem? (i := 1246) (by decide +kernel), List.mem_of_getElem? (i := 1763) (by decide +kernel), List.mem_of_getElem? (i := 1764) (by decide +kernel)⟩
theorem lw_p188 : lw_okq (⟨"HornBraiderModel", "rounded", "(II)I"⟩, 49) := ⟨⟨by decide +kernel, by decide +kernel⟩, List.mem_of_getElem? (i := 1246) (by decide +kernel), List.mem_of_getElem? (i := 1775) (by decide +kernel), List.mem_of_getElem? (i := 1776) (by decide +kernel)⟩
theorem lw_p189 : lw_okq (⟨"HornBraiderModel", "lengthOf", "(II)I"⟩, 49) := ⟨⟨by decide +kernel, by decide +kernel⟩, List.mem_of_getElem? (i := 1246) (by decide +kernel), List.mem_of_getElem? (i := 1783) (by decide +kernel), List.mem_of_getElem? (i := 1784) (by decide +kernel)⟩
theorem lw_p190 : lw_okq (⟨"HornBraiderModel", "leastOf", "(I)I"⟩, 49) := ⟨⟨by decide +kernel, by decide +kernel⟩, List.mem_of_getElem? (i := 1246) (by decide +kernel), List.mem_of_getElem? (i := 1787) (by decide +kernel), List.mem_of_getElem? (i := 1788) (by decide +kernel)⟩
theorem lw_p191 : lw_okq (⟨"HornBraiderModel", "startsIn", "(I)I"⟩, 49) := ⟨⟨by decide +kernel, by decide +kernel⟩, List.mem_of_getElem? (i := 1246) (by decide +kernel), List.mem_of_getElem? (i := 1791) (by decide +kernel), List.mem_of_getElem? (i := 1792) (by decide +kernel)⟩
def lw_privs_12 : List (MethodName × Nat) := [(⟨"HornBraiderModel", "isTakenStart", "(I)Z"⟩, 49), (⟨"HornBraiderModel", "comesNew", "(I)I"⟩, 49), (⟨"HornBraiderModel", "standsNow", "()V"⟩, 49), (⟨"HornBraiderModel", "tries", "(I)Z"⟩, 49), (⟨"HornBraiderModel", "turned", "(I)I"⟩, 49), (⟨"HornBraiderModel", "meeting", "()I"⟩, 49), (⟨"HornBraiderModel", "over", "(II)I"⟩, 49), (⟨"HornBraiderModel", "spellsStep", "()V"⟩, 49), (⟨"HornBraiderModel", "stands", "()V"⟩, 49), (⟨"HornBraiderModel", "isInFront", "(II)Z"⟩, 49), (⟨"HornBraiderModel", "spells", "(I)V"⟩, 49), (⟨"HornBraiderModel", "mapped", "(II)I"⟩, 49), (⟨"HornBraiderModel", "rounded", "(II)I"⟩, 49), (⟨"HornBraiderModel", "lengthOf", "(II)I"⟩, 49), (⟨"HornBraiderModel", "leastOf", "(I)I"⟩, 49), (⟨"HornBraiderModel", "startsIn", "(I)I"⟩, 49)]
theorem lw_r12 : ∀ q ∈ lw_privs_12, lw_okq q := List.forall_mem_cons.mpr ⟨lw_p176, List.forall_mem_cons.mpr ⟨lw_p177, List.forall_mem_cons.mpr ⟨lw_p178, List.forall_mem_cons.mpr ⟨lw_p179, List.forall_mem_cons.mpr ⟨lw_p180, List.forall_mem_cons.mpr ⟨lw_p181, List.forall_mem_cons.mpr ⟨lw_p182, List.forall_mem_cons.mpr ⟨lw_p183, List.forall_mem_cons.mpr ⟨lw_p184, List.forall_mem_cons.mpr ⟨lw_p185, List.forall_mem_cons.mpr ⟨lw_p186, List.forall_mem_cons.mpr ⟨lw_p187, List.forall_mem_cons.mpr ⟨lw_p188, List.forall_mem_cons.mpr ⟨lw_p189, List.forall_mem_cons.mpr ⟨lw_p190, List.forall_mem_cons.mpr ⟨lw_p191, fun _ h => absurd h List.not_mem_nil⟩⟩⟩⟩⟩⟩⟩⟩⟩⟩⟩⟩⟩⟩⟩⟩
theorem lw_p192 : lw_okq (⟨"HornBraiderModel", "meetsFrom", "(III)I"⟩, 49) := ⟨⟨by decide +kernel, by decide +kernel⟩, List.mem_of_getElem? (i := 1246) (by decide +kernel), List.mem_of_getElem? (i := 1807) (by decide +kernel), List.mem_of_getElem? (i := 1808) (by decide +kernel)⟩
theorem lw_p193 : lw_okq (⟨"HornBraiderModel", "settings", "()I"⟩, 49) := ⟨⟨by decide +kernel, by decide +kernel⟩, List.mem_of_getElem? (i := 1246) (by decide +kernel), List.mem_of_getElem? (i := 1830) (by decide +kernel), List.mem_of_getElem? (i := 1831) (by decide +kernel)⟩
theorem lw_p194 : lw_okq (⟨"HornBraiderModel", "whyOf", "(II)I"⟩, 49) := ⟨⟨by decide +kernel, by decide +kernel⟩, List.mem_of_getElem? (i := 1246) (by decide +kernel), List.mem_of_getElem? (i := 1834) (by decide +kernel), List.mem_of_getElem? (i := 1835) (by decide +kernel)⟩
theorem lw_p195 : lw_okq (⟨"HornBraiderModel", "begins", "()V"⟩, 49) := ⟨⟨by decide +kernel, by decide +kernel⟩, List.mem_of_getElem? (i := 1246) (by decide +kernel), List.mem_of_getElem? (i := 1838) (by decide +kernel), List.mem_of_getElem? (i := 1839) (by decide +kernel)⟩
theorem lw_p196 : lw_okq (⟨"HornBraiderModel", "goes", "()V"⟩, 49) := ⟨⟨by decide +kernel, by decide +kernel⟩, List.mem_of_getElem? (i := 1246) (by decide +kernel), List.mem_of_getElem? (i := 1842) (by decide +kernel), List.mem_of_getElem? (i := 1843) (by decide +kernel)⟩
theorem lw_p197 : lw_okq (⟨"HornBraiderModel", "isSpelledWished", "()Z"⟩, 49) := ⟨⟨by decide +kernel, by decide +kernel⟩, List.mem_of_getElem? (i := 1246) (by decide +kernel), List.mem_of_getElem? (i := 1846) (by decide +kernel), List.mem_of_getElem? (i := 1847) (by decide +kernel)⟩
theorem lw_p198 : lw_okq (⟨"HornBraiderModel", "seeks", "(I)V"⟩, 49) := ⟨⟨by decide +kernel, by decide +kernel⟩, List.mem_of_getElem? (i := 1246) (by decide +kernel), List.mem_of_getElem? (i := 1870) (by decide +kernel), List.mem_of_getElem? (i := 1871) (by decide +kernel)⟩
theorem lw_p199 : lw_okq (⟨"HornBraiderModel", "names", "(III)V"⟩, 49) := ⟨⟨by decide +kernel, by decide +kernel⟩, List.mem_of_getElem? (i := 1246) (by decide +kernel), List.mem_of_getElem? (i := 1874) (by decide +kernel), List.mem_of_getElem? (i := 1875) (by decide +kernel)⟩
theorem lw_p200 : lw_okq (⟨"HornBraiderModel", "doesExplain", "(II)Z"⟩, 49) := ⟨⟨by decide +kernel, by decide +kernel⟩, List.mem_of_getElem? (i := 1246) (by decide +kernel), List.mem_of_getElem? (i := 1878) (by decide +kernel), List.mem_of_getElem? (i := 1879) (by decide +kernel)⟩
theorem lw_p201 : lw_okq (⟨"HornBraiderModel", "latestSeen", "()I"⟩, 49) := ⟨⟨by decide +kernel, by decide +kernel⟩, List.mem_of_getElem? (i := 1246) (by decide +kernel), List.mem_of_getElem? (i := 1882) (by decide +kernel), List.mem_of_getElem? (i := 1883) (by decide +kernel)⟩
theorem lw_p202 : lw_okq (⟨"HornBraiderModel", "isSeenSo", "(I)Z"⟩, 49) := ⟨⟨by decide +kernel, by decide +kernel⟩, List.mem_of_getElem? (i := 1246) (by decide +kernel), List.mem_of_getElem? (i := 1886) (by decide +kernel), List.mem_of_getElem? (i := 1887) (by decide +kernel)⟩
theorem lw_p203 : lw_okq (⟨"HornBraiderModel", "puts", "(I)V"⟩, 49) := ⟨⟨by decide +kernel, by decide +kernel⟩, List.mem_of_getElem? (i := 1246) (by decide +kernel), List.mem_of_getElem? (i := 1898) (by decide +kernel), List.mem_of_getElem? (i := 1899) (by decide +kernel)⟩
theorem lw_p204 : lw_okq (⟨"HornBraiderModel", "reads", "()V"⟩, 49) := ⟨⟨by decide +kernel, by decide +kernel⟩, List.mem_of_getElem? (i := 1246) (by decide +kernel), List.mem_of_getElem? (i := 1906) (by decide +kernel), List.mem_of_getElem? (i := 1907) (by decide +kernel)⟩
theorem lw_p205 : lw_okq (⟨"HornBraiderModel", "isOf", "(III)Z"⟩, 49) := ⟨⟨by decide +kernel, by decide +kernel⟩, List.mem_of_getElem? (i := 1246) (by decide +kernel), List.mem_of_getElem? (i := 1910) (by decide +kernel), List.mem_of_getElem? (i := 1911) (by decide +kernel)⟩
theorem lw_p206 : lw_okq (⟨"HornBraiderModel", "readsAll", "()V"⟩, 49) := ⟨⟨by decide +kernel, by decide +kernel⟩, List.mem_of_getElem? (i := 1246) (by decide +kernel), List.mem_of_getElem? (i := 1917) (by decide +kernel), List.mem_of_getElem? (i := 1918) (by decide +kernel)⟩
theorem lw_p207 : lw_okq (⟨"HornBraiderModel", "isWord", "(I)Z"⟩, 49) := ⟨⟨by decide +kernel, by decide +kernel⟩, List.mem_of_getElem? (i := 1246) (by decide +kernel), List.mem_of_getElem? (i := 1921) (by decide +kernel), List.mem_of_getElem? (i := 1922) (by decide +kernel)⟩
def lw_privs_13 : List (MethodName × Nat) := [(⟨"HornBraiderModel", "meetsFrom", "(III)I"⟩, 49), (⟨"HornBraiderModel", "settings", "()I"⟩, 49), (⟨"HornBraiderModel", "whyOf", "(II)I"⟩, 49), (⟨"HornBraiderModel", "begins", "()V"⟩, 49), (⟨"HornBraiderModel", "goes", "()V"⟩, 49), (⟨"HornBraiderModel", "isSpelledWished", "()Z"⟩, 49), (⟨"HornBraiderModel", "seeks", "(I)V"⟩, 49), (⟨"HornBraiderModel", "names", "(III)V"⟩, 49), (⟨"HornBraiderModel", "doesExplain", "(II)Z"⟩, 49), (⟨"HornBraiderModel", "latestSeen", "()I"⟩, 49), (⟨"HornBraiderModel", "isSeenSo", "(I)Z"⟩, 49), (⟨"HornBraiderModel", "puts", "(I)V"⟩, 49), (⟨"HornBraiderModel", "reads", "()V"⟩, 49), (⟨"HornBraiderModel", "isOf", "(III)Z"⟩, 49), (⟨"HornBraiderModel", "readsAll", "()V"⟩, 49), (⟨"HornBraiderModel", "isWord", "(I)Z"⟩, 49)]
theorem lw_r13 : ∀ q ∈ lw_privs_13, lw_okq q := List.forall_mem_cons.mpr ⟨lw_p192, List.forall_mem_cons.mpr ⟨lw_p193, List.forall_mem_cons.mpr ⟨lw_p194, List.forall_mem_cons.mpr ⟨lw_p195, List.forall_mem_cons.mpr ⟨lw_p196, List.forall_mem_cons.mpr ⟨lw_p197, List.forall_mem_cons.mpr ⟨lw_p198, List.forall_mem_cons.mpr ⟨lw_p199, List.forall_mem_cons.mpr ⟨lw_p200, List.forall_mem_cons.mpr ⟨lw_p201, List.forall_mem_cons.mpr ⟨lw_p202, List.forall_mem_cons.mpr ⟨lw_p203, List.forall_mem_cons.mpr ⟨lw_p204, List.forall_mem_cons.mpr ⟨lw_p205, List.forall_mem_cons.mpr ⟨lw_p206, List.forall_mem_cons.mpr ⟨lw_p207, fun _ h => absurd h List.not_mem_nil⟩⟩⟩⟩⟩⟩⟩⟩⟩⟩⟩⟩⟩⟩⟩⟩
theorem lw_p208 : lw_okq (⟨"HornBraiderModel", "takes", "(Z)V"⟩, 49) := ⟨⟨by decide +kernel, by decide +kernel⟩, List.mem_of_getElem? (i := 1246) (by decide +kernel), List.mem_of_getElem? (i := 1925) (by decide +kernel), List.mem_of_getElem? (i := 1926) (by decide +kernel)⟩
theorem lw_p209 : lw_okq (⟨"HornBraiderModel", "must", "(ZI)V"⟩, 49) := ⟨⟨by decide +kernel, by decide +kernel⟩, List.mem_of_getElem? (i := 1246) (by decide +kernel), List.mem_of_getElem? (i := 1929) (by decide +kernel), List.mem_of_getElem? (i := 1930) (by decide +kernel)⟩
theorem lw_p210 : lw_okq (⟨"HornBraiderModel", "takesNumber", "(II)I"⟩, 49) := ⟨⟨by decide +kernel, by decide +kernel⟩, List.mem_of_getElem? (i := 1246) (by decide +kernel), List.mem_of_getElem? (i := 1933) (by decide +kernel), List.mem_of_getElem? (i := 1934) (by decide +kernel)⟩
theorem lw_p211 : lw_okq (⟨"HornBraiderModel", "needsNumber", "(II)V"⟩, 49) := ⟨⟨by decide +kernel, by decide +kernel⟩, List.mem_of_getElem? (i := 1246) (by decide +kernel), List.mem_of_getElem? (i := 1937) (by decide +kernel), List.mem_of_getElem? (i := 1938) (by decide +kernel)⟩
theorem lw_p212 : lw_okq (⟨"HornBraiderModel", "isSign", "(C)Z"⟩, 49) := ⟨⟨by decide +kernel, by decide +kernel⟩, List.mem_of_getElem? (i := 1246) (by decide +kernel), List.mem_of_getElem? (i := 1941) (by decide +kernel), List.mem_of_getElem? (i := 1942) (by decide +kernel)⟩
theorem lw_p213 : lw_okq (⟨"HornBraiderModel", "line", "()V"⟩, 49) := ⟨⟨by decide +kernel, by decide +kernel⟩, List.mem_of_getElem? (i := 1246) (by decide +kernel), List.mem_of_getElem? (i := 1945) (by decide +kernel), List.mem_of_getElem? (i := 1946) (by decide +kernel)⟩
theorem lw_p214 : lw_okq (⟨"HornBraiderModel", "readsSwitch", "()V"⟩, 49) := ⟨⟨by decide +kernel, by decide +kernel⟩, List.mem_of_getElem? (i := 1246) (by decide +kernel), List.mem_of_getElem? (i := 1949) (by decide +kernel), List.mem_of_getElem? (i := 1950) (by decide +kernel)⟩
theorem lw_p215 : lw_okq (⟨"HornBraiderModel", "readsBobbin", "()V"⟩, 49) := ⟨⟨by decide +kernel, by decide +kernel⟩, List.mem_of_getElem? (i := 1246) (by decide +kernel), List.mem_of_getElem? (i := 1953) (by decide +kernel), List.mem_of_getElem? (i := 1954) (by decide +kernel)⟩
theorem lw_p216 : lw_okq (⟨"HornBraiderModel", "readsStuck", "()V"⟩, 49) := ⟨⟨by decide +kernel, by decide +kernel⟩, List.mem_of_getElem? (i := 1246) (by decide +kernel), List.mem_of_getElem? (i := 1957) (by decide +kernel), List.mem_of_getElem? (i := 1958) (by decide +kernel)⟩
theorem lw_p217 : lw_okq (⟨"HornBraiderModel", "readsFree", "()V"⟩, 49) := ⟨⟨by decide +kernel, by decide +kernel⟩, List.mem_of_getElem? (i := 1246) (by decide +kernel), List.mem_of_getElem? (i := 1961) (by decide +kernel), List.mem_of_getElem? (i := 1962) (by decide +kernel)⟩
theorem lw_p218 : lw_okq (⟨"HornBraiderModel", "readsPlace", "()V"⟩, 49) := ⟨⟨by decide +kernel, by decide +kernel⟩, List.mem_of_getElem? (i := 1246) (by decide +kernel), List.mem_of_getElem? (i := 1965) (by decide +kernel), List.mem_of_getElem? (i := 1966) (by decide +kernel)⟩
theorem lw_p219 : lw_okq (⟨"HornBraiderModel", "readsWord", "()V"⟩, 49) := ⟨⟨by decide +kernel, by decide +kernel⟩, List.mem_of_getElem? (i := 1246) (by decide +kernel), List.mem_of_getElem? (i := 1969) (by decide +kernel), List.mem_of_getElem? (i := 1970) (by decide +kernel)⟩
theorem lw_p220 : lw_okq (⟨"HornBraiderModel", "saysAll", "()V"⟩, 49) := ⟨⟨by decide +kernel, by decide +kernel⟩, List.mem_of_getElem? (i := 1246) (by decide +kernel), List.mem_of_getElem? (i := 1981) (by decide +kernel), List.mem_of_getElem? (i := 1982) (by decide +kernel)⟩
theorem lw_p221 : lw_okq (⟨"HornBraiderModel", "says", "(Ljava/lang/String;)V"⟩, 49) := ⟨⟨by decide +kernel, by decide +kernel⟩, List.mem_of_getElem? (i := 1246) (by decide +kernel), List.mem_of_getElem? (i := 1986) (by decide +kernel), List.mem_of_getElem? (i := 1987) (by decide +kernel)⟩
theorem lw_p222 : lw_okq (⟨"HornBraiderModel", "tells", "(I)V"⟩, 49) := ⟨⟨by decide +kernel, by decide +kernel⟩, List.mem_of_getElem? (i := 1246) (by decide +kernel), List.mem_of_getElem? (i := 1992) (by decide +kernel), List.mem_of_getElem? (i := 1993) (by decide +kernel)⟩
theorem lw_p223 : lw_okq (⟨"HornBraiderModel", "saysNumber", "(I)V"⟩, 49) := ⟨⟨by decide +kernel, by decide +kernel⟩, List.mem_of_getElem? (i := 1246) (by decide +kernel), List.mem_of_getElem? (i := 1996) (by decide +kernel), List.mem_of_getElem? (i := 1997) (by decide +kernel)⟩
def lw_privs_14 : List (MethodName × Nat) := [(⟨"HornBraiderModel", "takes", "(Z)V"⟩, 49), (⟨"HornBraiderModel", "must", "(ZI)V"⟩, 49), (⟨"HornBraiderModel", "takesNumber", "(II)I"⟩, 49), (⟨"HornBraiderModel", "needsNumber", "(II)V"⟩, 49), (⟨"HornBraiderModel", "isSign", "(C)Z"⟩, 49), (⟨"HornBraiderModel", "line", "()V"⟩, 49), (⟨"HornBraiderModel", "readsSwitch", "()V"⟩, 49), (⟨"HornBraiderModel", "readsBobbin", "()V"⟩, 49), (⟨"HornBraiderModel", "readsStuck", "()V"⟩, 49), (⟨"HornBraiderModel", "readsFree", "()V"⟩, 49), (⟨"HornBraiderModel", "readsPlace", "()V"⟩, 49), (⟨"HornBraiderModel", "readsWord", "()V"⟩, 49), (⟨"HornBraiderModel", "saysAll", "()V"⟩, 49), (⟨"HornBraiderModel", "says", "(Ljava/lang/String;)V"⟩, 49), (⟨"HornBraiderModel", "tells", "(I)V"⟩, 49), (⟨"HornBraiderModel", "saysNumber", "(I)V"⟩, 49)]
theorem lw_r14 : ∀ q ∈ lw_privs_14, lw_okq q := List.forall_mem_cons.mpr ⟨lw_p208, List.forall_mem_cons.mpr ⟨lw_p209, List.forall_mem_cons.mpr ⟨lw_p210, List.forall_mem_cons.mpr ⟨lw_p211, List.forall_mem_cons.mpr ⟨lw_p212, List.forall_mem_cons.mpr ⟨lw_p213, List.forall_mem_cons.mpr ⟨lw_p214, List.forall_mem_cons.mpr ⟨lw_p215, List.forall_mem_cons.mpr ⟨lw_p216, List.forall_mem_cons.mpr ⟨lw_p217, List.forall_mem_cons.mpr ⟨lw_p218, List.forall_mem_cons.mpr ⟨lw_p219, List.forall_mem_cons.mpr ⟨lw_p220, List.forall_mem_cons.mpr ⟨lw_p221, List.forall_mem_cons.mpr ⟨lw_p222, List.forall_mem_cons.mpr ⟨lw_p223, fun _ h => absurd h List.not_mem_nil⟩⟩⟩⟩⟩⟩⟩⟩⟩⟩⟩⟩⟩⟩⟩⟩
theorem lw_p224 : lw_okq (⟨"HornBraiderModel", "saysSwitches", "()V"⟩, 49) := ⟨⟨by decide +kernel, by decide +kernel⟩, List.mem_of_getElem? (i := 1246) (by decide +kernel), List.mem_of_getElem? (i := 2000) (by decide +kernel), List.mem_of_getElem? (i := 2001) (by decide +kernel)⟩
theorem lw_p225 : lw_okq (⟨"HornBraiderModel", "saysLine", "(Ljava/lang/String;I)V"⟩, 49) := ⟨⟨by decide +kernel, by decide +kernel⟩, List.mem_of_getElem? (i := 1246) (by decide +kernel), List.mem_of_getElem? (i := 2006) (by decide +kernel), List.mem_of_getElem? (i := 2007) (by decide +kernel)⟩
theorem lw_p226 : lw_okq (⟨"HornBraiderModel", "saysWord", "()V"⟩, 49) := ⟨⟨by decide +kernel, by decide +kernel⟩, List.mem_of_getElem? (i := 1246) (by decide +kernel), List.mem_of_getElem? (i := 2015) (by decide +kernel), List.mem_of_getElem? (i := 2016) (by decide +kernel)⟩
def lw_privs_15 : List (MethodName × Nat) := [(⟨"HornBraiderModel", "saysSwitches", "()V"⟩, 49), (⟨"HornBraiderModel", "saysLine", "(Ljava/lang/String;I)V"⟩, 49), (⟨"HornBraiderModel", "saysWord", "()V"⟩, 49)]
theorem lw_r15 : ∀ q ∈ lw_privs_15, lw_okq q := List.forall_mem_cons.mpr ⟨lw_p224, List.forall_mem_cons.mpr ⟨lw_p225, List.forall_mem_cons.mpr ⟨lw_p226, fun _ h => absurd h List.not_mem_nil⟩⟩⟩
def lw_privs : List (MethodName × Nat) := lw_privs_1 ++ (lw_privs_2 ++ (lw_privs_3 ++ (lw_privs_4 ++ (lw_privs_5 ++ (lw_privs_6 ++ (lw_privs_7 ++ (lw_privs_8 ++ (lw_privs_9 ++ (lw_privs_10 ++ (lw_privs_11 ++ (lw_privs_12 ++ (lw_privs_13 ++ (lw_privs_14 ++ (lw_privs_15))))))))))))))
def lw_tbl : List Cond := k2_sels lw_privs ++ tables_1
theorem lw_privs_ok : ∀ q ∈ lw_privs, lw_okq q := by
  show ∀ q ∈ lw_privs_1 ++ (lw_privs_2 ++ (lw_privs_3 ++ (lw_privs_4 ++ (lw_privs_5 ++ (lw_privs_6 ++ (lw_privs_7 ++ (lw_privs_8 ++ (lw_privs_9 ++ (lw_privs_10 ++ (lw_privs_11 ++ (lw_privs_12 ++ (lw_privs_13 ++ (lw_privs_14 ++ (lw_privs_15)))))))))))))), lw_okq q
  exact List.forall_mem_append.mpr ⟨lw_r1, List.forall_mem_append.mpr ⟨lw_r2, List.forall_mem_append.mpr ⟨lw_r3, List.forall_mem_append.mpr ⟨lw_r4, List.forall_mem_append.mpr ⟨lw_r5, List.forall_mem_append.mpr ⟨lw_r6, List.forall_mem_append.mpr ⟨lw_r7, List.forall_mem_append.mpr ⟨lw_r8, List.forall_mem_append.mpr ⟨lw_r9, List.forall_mem_append.mpr ⟨lw_r10, List.forall_mem_append.mpr ⟨lw_r11, List.forall_mem_append.mpr ⟨lw_r12, List.forall_mem_append.mpr ⟨lw_r13, List.forall_mem_append.mpr ⟨lw_r14, lw_r15⟩⟩⟩⟩⟩⟩⟩⟩⟩⟩⟩⟩⟩⟩
-- ===== end of PART A; then your names; then what follows =====
def RX0 : String := "HornBraider$Coil"
def TX0 : u_T := fun k => match k with
  | 0 => ("HornBraider$Coil", "limbs", "[J", true)
  | 1 => ("HornBraider$Coil", "threads", "I", false)
  | _ => ("HornBraider$Coil", "width", "I", false)
def tyX0 : Nat → FieldType := fun k => match k with
  | 0 => .array .long
  | 1 => .int
  | _ => .int
theorem nmX0 : ∀ a, a < 3 → ∀ b, b < 3 → a ≠ b → (TX0 a).2.1 ≠ (TX0 b).2.1 := by decide +kernel
theorem tyX0_ok : ∀ k, k < 3 → parseFieldDescriptor (TX0 k).2.2.1 = some (tyX0 k) := by decide +kernel
abbrev cX0_init : ByteArray := prog_2_method_1_code
def yX0_init : MethodName := ⟨RX0, "<init>", "()V"⟩
abbrev cX0_begin : ByteArray := prog_2_method_2_code
def yX0_begin : MethodName := ⟨RX0, "begin", "(I)V"⟩
abbrev cX0_follow : ByteArray := prog_2_method_3_code
def yX0_follow : MethodName := ⟨RX0, "follow", "(LHornBraider$Word;I)V"⟩
abbrev cX0_followBack : ByteArray := prog_2_method_4_code
def yX0_followBack : MethodName := ⟨RX0, "followBack", "(LHornBraider$Word;)V"⟩
abbrev cX0_act : ByteArray := prog_2_method_5_code
def yX0_act : MethodName := ⟨RX0, "act", "(I)V"⟩
abbrev cX0_wipe : ByteArray := prog_2_method_6_code
def yX0_wipe : MethodName := ⟨RX0, "wipe", "(I)V"⟩
abbrev cX0_addTo : ByteArray := prog_2_method_7_code
def yX0_addTo : MethodName := ⟨RX0, "addTo", "(III)V"⟩
abbrev cX0_addUpper : ByteArray := prog_2_method_8_code
def yX0_addUpper : MethodName := ⟨RX0, "addUpper", "(III)V"⟩
abbrev cX0_addLower : ByteArray := prog_2_method_9_code
def yX0_addLower : MethodName := ⟨RX0, "addLower", "(III)V"⟩
abbrev cX0_isBelowZero : ByteArray := prog_2_method_10_code
def yX0_isBelowZero : MethodName := ⟨RX0, "isBelowZero", "(I)Z"⟩
abbrev cX0_swap : ByteArray := prog_2_method_11_code
def yX0_swap : MethodName := ⟨RX0, "swap", "(II)V"⟩
abbrev cX0_isBig : ByteArray := prog_2_method_12_code
def yX0_isBig : MethodName := ⟨RX0, "isBig", "(I)Z"⟩
abbrev cX0_widen : ByteArray := prog_2_method_13_code
def yX0_widen : MethodName := ⟨RX0, "widen", "()V"⟩
abbrev cX0_matches : ByteArray := prog_2_method_14_code
def yX0_matches : MethodName := ⟨RX0, "matches", "(LHornBraider$Coil;)Z"⟩
def RX1 : String := "HornBraider$Frame"
def TX1 : u_T := fun k => match k with
  | 0 => ("HornBraider$Frame", "rows", "I", false)
  | 1 => ("HornBraider$Frame", "columns", "I", false)
  | 2 => ("HornBraider$Frame", "slots", "I", false)
  | 3 => ("HornBraider$Frame", "switches", "I", false)
  | 4 => ("HornBraider$Frame", "turned", "[I", true)
  | 5 => ("HornBraider$Frame", "facing", "[I", true)
  | 6 => ("HornBraider$Frame", "gateAt", "[I", true)
  | 7 => ("HornBraider$Frame", "x", "[I", true)
  | 8 => ("HornBraider$Frame", "y", "[I", true)
  | 9 => ("HornBraider$Frame", "first", "[I", true)
  | _ => ("HornBraider$Frame", "second", "[I", true)
def tyX1 : Nat → FieldType := fun k => match k with
  | 0 => .int
  | 1 => .int
  | 2 => .int
  | 3 => .int
  | 4 => .array .int
  | 5 => .array .int
  | 6 => .array .int
  | 7 => .array .int
  | 8 => .array .int
  | 9 => .array .int
  | _ => .array .int
theorem nmX1 : ∀ a, a < 11 → ∀ b, b < 11 → a ≠ b → (TX1 a).2.1 ≠ (TX1 b).2.1 := by decide +kernel
theorem tyX1_ok : ∀ k, k < 11 → parseFieldDescriptor (TX1 k).2.2.1 = some (tyX1 k) := by decide +kernel
abbrev cX1_init : ByteArray := prog_3_method_1_code
def yX1_init : MethodName := ⟨RX1, "<init>", "()V"⟩
abbrev cX1_build : ByteArray := prog_3_method_2_code
def yX1_build : MethodName := ⟨RX1, "build", "(II)V"⟩
abbrev cX1_slotOf : ByteArray := prog_3_method_3_code
def yX1_slotOf : MethodName := ⟨RX1, "slotOf", "(III)I"⟩
abbrev cX1_buildWheel : ByteArray := prog_3_method_4_code
def yX1_buildWheel : MethodName := ⟨RX1, "buildWheel", "(II)V"⟩
abbrev cX1_join : ByteArray := prog_3_method_5_code
def yX1_join : MethodName := ⟨RX1, "join", "(II)V"⟩
abbrev cX1_rank : ByteArray := prog_3_method_6_code
def yX1_rank : MethodName := ⟨RX1, "rank", "(I)I"⟩
abbrev cX1_moved : ByteArray := prog_3_method_7_code
def yX1_moved : MethodName := ⟨RX1, "moved", "(II)I"⟩
def RX2 : String := "HornBraider$Namer"
def TX2 : u_T := fun k => match k with
  | 0 => ("HornBraider$Namer", "size", "I", false)
  | 1 => ("HornBraider$Namer", "found", "I", false)
  | 2 => ("HornBraider$Namer", "sets", "[I", true)
  | 3 => ("HornBraider$Namer", "programs", "[I", true)
  | 4 => ("HornBraider$Namer", "stoodOpen", "I", false)
  | _ => ("HornBraider$Namer", "stoodShut", "I", false)
def tyX2 : Nat → FieldType := fun k => match k with
  | 0 => .int
  | 1 => .int
  | 2 => .array .int
  | 3 => .array .int
  | 4 => .int
  | _ => .int
theorem nmX2 : ∀ a, a < 6 → ∀ b, b < 6 → a ≠ b → (TX2 a).2.1 ≠ (TX2 b).2.1 := by decide +kernel
theorem tyX2_ok : ∀ k, k < 6 → parseFieldDescriptor (TX2 k).2.2.1 = some (tyX2 k) := by decide +kernel
abbrev cX2_init : ByteArray := prog_4_method_1_code
def yX2_init : MethodName := ⟨RX2, "<init>", "()V"⟩
abbrev cX2_work : ByteArray := prog_4_method_2_code
def yX2_work : MethodName := ⟨RX2, "work", "(LHornBraider$Plan;LHornBraider$Sightings;LHornBraider$Run;)V"⟩
abbrev cX2_workBehind : ByteArray := prog_4_method_3_code
def yX2_workBehind : MethodName := ⟨RX2, "workBehind", "(LHornBraider$Plan;LHornBraider$Sightings;LHornBraider$Run;I)V"⟩
abbrev cX2_keep : ByteArray := prog_4_method_4_code
def yX2_keep : MethodName := ⟨RX2, "keep", "(II)V"⟩
abbrev cX2_member : ByteArray := prog_4_method_5_code
def yX2_member : MethodName := ⟨RX2, "member", "(II)I"⟩
abbrev cX2_explains : ByteArray := prog_4_method_6_code
def yX2_explains : MethodName := ⟨RX2, "explains", "(LHornBraider$Plan;LHornBraider$Sightings;LHornBraider$Run;II)Z"⟩
abbrev cX2_heldOpen : ByteArray := prog_4_method_7_code
def yX2_heldOpen : MethodName := ⟨RX2, "heldOpen", "(I)I"⟩
abbrev cX2_heldShut : ByteArray := prog_4_method_8_code
def yX2_heldShut : MethodName := ⟨RX2, "heldShut", "(I)I"⟩
def RX3 : String := "HornBraider$Plan"
def TX3 : u_T := fun k => match k with
  | 0 => ("HornBraider$Plan", "frame", "LHornBraider$Frame;", true)
  | 1 => ("HornBraider$Plan", "bits", "[I", true)
  | 2 => ("HornBraider$Plan", "lengths", "[I", true)
  | 3 => ("HornBraider$Plan", "stuck", "[I", true)
  | 4 => ("HornBraider$Plan", "isFree", "[Z", true)
  | 5 => ("HornBraider$Plan", "bobbins", "I", false)
  | 6 => ("HornBraider$Plan", "start", "[I", true)
  | 7 => ("HornBraider$Plan", "goal", "[I", true)
  | 8 => ("HornBraider$Plan", "hasWished", "Z", false)
  | _ => ("HornBraider$Plan", "wished", "LHornBraider$Word;", true)
def tyX3 : Nat → FieldType := fun k => match k with
  | 0 => .object "HornBraider$Frame"
  | 1 => .array .int
  | 2 => .array .int
  | 3 => .array .int
  | 4 => .array .boolean
  | 5 => .int
  | 6 => .array .int
  | 7 => .array .int
  | 8 => .boolean
  | _ => .object "HornBraider$Word"
theorem nmX3 : ∀ a, a < 10 → ∀ b, b < 10 → a ≠ b → (TX3 a).2.1 ≠ (TX3 b).2.1 := by decide +kernel
theorem tyX3_ok : ∀ k, k < 10 → parseFieldDescriptor (TX3 k).2.2.1 = some (tyX3 k) := by decide +kernel
abbrev cX3_init : ByteArray := prog_5_method_1_code
def yX3_init : MethodName := ⟨RX3, "<init>", "()V"⟩
abbrev cX3_clear : ByteArray := prog_5_method_2_code
def yX3_clear : MethodName := ⟨RX3, "clear", "(II)V"⟩
abbrev cX3_addBobbin : ByteArray := prog_5_method_3_code
def yX3_addBobbin : MethodName := ⟨RX3, "addBobbin", "(I)V"⟩
abbrev cX3_dropBobbin : ByteArray := prog_5_method_4_code
def yX3_dropBobbin : MethodName := ⟨RX3, "dropBobbin", "(I)V"⟩
abbrev cX3_hasStartAt : ByteArray := prog_5_method_5_code
def yX3_hasStartAt : MethodName := ⟨RX3, "hasStartAt", "(I)Z"⟩
abbrev cX3_countFree : ByteArray := prog_5_method_6_code
def yX3_countFree : MethodName := ⟨RX3, "countFree", "()I"⟩
abbrev cX3_countStuck : ByteArray := prog_5_method_7_code
def yX3_countStuck : MethodName := ⟨RX3, "countStuck", "()I"⟩
abbrev cX3_period : ByteArray := prog_5_method_8_code
def yX3_period : MethodName := ⟨RX3, "period", "()I"⟩
abbrev cX3_tellsOpen : ByteArray := prog_5_method_9_code
def yX3_tellsOpen : MethodName := ⟨RX3, "tellsOpen", "(II)Z"⟩
abbrev cX3_opens : ByteArray := prog_5_method_10_code
def yX3_opens : MethodName := ⟨RX3, "opens", "(II)Z"⟩
abbrev cX3_fillOpen : ByteArray := prog_5_method_11_code
def yX3_fillOpen : MethodName := ⟨RX3, "fillOpen", "([I)V"⟩
abbrev cX3_fillPrograms : ByteArray := prog_5_method_12_code
def yX3_fillPrograms : MethodName := ⟨RX3, "fillPrograms", "([I)V"⟩
abbrev cX3_opened : ByteArray := prog_5_method_13_code
def yX3_opened : MethodName := ⟨RX3, "opened", "(I)I"⟩
abbrev cX3_shut : ByteArray := prog_5_method_14_code
def yX3_shut : MethodName := ⟨RX3, "shut", "(I)I"⟩
abbrev cX3_heldBy : ByteArray := prog_5_method_15_code
def yX3_heldBy : MethodName := ⟨RX3, "heldBy", "(I)I"⟩
def RX4 : String := "HornBraider$Printer"
def TX4 : u_T := fun k => match k with
  | 0 => ("HornBraider$Printer", "bytes", "[B", true)
  | 1 => ("HornBraider$Printer", "size", "I", false)
  | 2 => ("HornBraider$Printer", "written", "I", false)
  | _ => ("HornBraider$Printer", "keeps", "Z", false)
def tyX4 : Nat → FieldType := fun k => match k with
  | 0 => .array .byte
  | 1 => .int
  | 2 => .int
  | _ => .boolean
theorem nmX4 : ∀ a, a < 4 → ∀ b, b < 4 → a ≠ b → (TX4 a).2.1 ≠ (TX4 b).2.1 := by decide +kernel
theorem tyX4_ok : ∀ k, k < 4 → parseFieldDescriptor (TX4 k).2.2.1 = some (tyX4 k) := by decide +kernel
abbrev cX4_init : ByteArray := prog_6_method_1_code
def yX4_init : MethodName := ⟨RX4, "<init>", "()V"⟩
abbrev cX4_write : ByteArray := prog_6_method_2_code
def yX4_write : MethodName := ⟨RX4, "write", "(LHornBraider$Plan;)Z"⟩
abbrev cX4_writeAll : ByteArray := prog_6_method_3_code
def yX4_writeAll : MethodName := ⟨RX4, "writeAll", "(LHornBraider$Plan;)V"⟩
abbrev cX4_writeSwitches : ByteArray := prog_6_method_4_code
def yX4_writeSwitches : MethodName := ⟨RX4, "writeSwitches", "(LHornBraider$Plan;)V"⟩
abbrev cX4_writeStuck : ByteArray := prog_6_method_5_code
def yX4_writeStuck : MethodName := ⟨RX4, "writeStuck", "(LHornBraider$Plan;)V"⟩
abbrev cX4_writeFree : ByteArray := prog_6_method_6_code
def yX4_writeFree : MethodName := ⟨RX4, "writeFree", "(LHornBraider$Plan;)V"⟩
abbrev cX4_writePlaces : ByteArray := prog_6_method_7_code
def yX4_writePlaces : MethodName := ⟨RX4, "writePlaces", "(LHornBraider$Plan;)V"⟩
abbrev cX4_writeWished : ByteArray := prog_6_method_8_code
def yX4_writeWished : MethodName := ⟨RX4, "writeWished", "(LHornBraider$Word;)V"⟩
abbrev cX4_writeText : ByteArray := prog_6_method_9_code
def yX4_writeText : MethodName := ⟨RX4, "writeText", "(Ljava/lang/String;)V"⟩
abbrev cX4_writeNumber : ByteArray := prog_6_method_10_code
def yX4_writeNumber : MethodName := ⟨RX4, "writeNumber", "(I)V"⟩
abbrev cX4_writeByte : ByteArray := prog_6_method_11_code
def yX4_writeByte : MethodName := ⟨RX4, "writeByte", "(I)V"⟩
def RX5 : String := "HornBraider$Reader"
def TX5 : u_T := fun k => match k with
  | 0 => ("HornBraider$Reader", "tape", "[B", true)
  | 1 => ("HornBraider$Reader", "size", "I", false)
  | 2 => ("HornBraider$Reader", "fault", "I", false)
  | 3 => ("HornBraider$Reader", "place", "I", false)
  | 4 => ("HornBraider$Reader", "end", "I", false)
  | 5 => ("HornBraider$Reader", "from", "I", false)
  | 6 => ("HornBraider$Reader", "next", "I", false)
  | 7 => ("HornBraider$Reader", "kind", "I", false)
  | _ => ("HornBraider$Reader", "value", "I", false)
def tyX5 : Nat → FieldType := fun k => match k with
  | 0 => .array .byte
  | 1 => .int
  | 2 => .int
  | 3 => .int
  | 4 => .int
  | 5 => .int
  | 6 => .int
  | 7 => .int
  | _ => .int
theorem nmX5 : ∀ a, a < 9 → ∀ b, b < 9 → a ≠ b → (TX5 a).2.1 ≠ (TX5 b).2.1 := by decide +kernel
theorem tyX5_ok : ∀ k, k < 9 → parseFieldDescriptor (TX5 k).2.2.1 = some (tyX5 k) := by decide +kernel
abbrev cX5_init : ByteArray := prog_7_method_1_code
def yX5_init : MethodName := ⟨RX5, "<init>", "()V"⟩
abbrev cX5_append : ByteArray := prog_7_method_2_code
def yX5_append : MethodName := ⟨RX5, "append", "(I)V"⟩
abbrev cX5_readAll : ByteArray := prog_7_method_3_code
def yX5_readAll : MethodName := ⟨RX5, "readAll", "(ILHornBraider$Plan;)Z"⟩
abbrev cX5_fail : ByteArray := prog_7_method_4_code
def yX5_fail : MethodName := ⟨RX5, "fail", "(I)Z"⟩
abbrev cX5_readSize : ByteArray := prog_7_method_5_code
def yX5_readSize : MethodName := ⟨RX5, "readSize", "(LHornBraider$Plan;)Z"⟩
abbrev cX5_readLine : ByteArray := prog_7_method_6_code
def yX5_readLine : MethodName := ⟨RX5, "readLine", "(LHornBraider$Plan;)Z"⟩
abbrev cX5_readSwitch : ByteArray := prog_7_method_7_code
def yX5_readSwitch : MethodName := ⟨RX5, "readSwitch", "(LHornBraider$Plan;)Z"⟩
abbrev cX5_readBobbin : ByteArray := prog_7_method_8_code
def yX5_readBobbin : MethodName := ⟨RX5, "readBobbin", "(LHornBraider$Plan;)Z"⟩
abbrev cX5_readStuck : ByteArray := prog_7_method_9_code
def yX5_readStuck : MethodName := ⟨RX5, "readStuck", "(LHornBraider$Plan;)Z"⟩
abbrev cX5_readFree : ByteArray := prog_7_method_10_code
def yX5_readFree : MethodName := ⟨RX5, "readFree", "(LHornBraider$Plan;)Z"⟩
abbrev cX5_readPlace : ByteArray := prog_7_method_11_code
def yX5_readPlace : MethodName := ⟨RX5, "readPlace", "(LHornBraider$Plan;)Z"⟩
abbrev cX5_readWished : ByteArray := prog_7_method_12_code
def yX5_readWished : MethodName := ⟨RX5, "readWished", "(LHornBraider$Plan;)Z"⟩
abbrev cX5_takeSemicolon : ByteArray := prog_7_method_13_code
def yX5_takeSemicolon : MethodName := ⟨RX5, "takeSemicolon", "()Z"⟩
abbrev cX5_takeNumber : ByteArray := prog_7_method_14_code
def yX5_takeNumber : MethodName := ⟨RX5, "takeNumber", "(II)Z"⟩
abbrev cX5_isNumber : ByteArray := prog_7_method_15_code
def yX5_isNumber : MethodName := ⟨RX5, "isNumber", "(II)Z"⟩
abbrev cX5_misfit : ByteArray := prog_7_method_16_code
def yX5_misfit : MethodName := ⟨RX5, "misfit", "()I"⟩
abbrev cX5_isWord : ByteArray := prog_7_method_17_code
def yX5_isWord : MethodName := ⟨RX5, "isWord", "(Ljava/lang/String;)Z"⟩
abbrev cX5_advance : ByteArray := prog_7_method_18_code
def yX5_advance : MethodName := ⟨RX5, "advance", "()V"⟩
abbrev cX5_weighNumber : ByteArray := prog_7_method_19_code
def yX5_weighNumber : MethodName := ⟨RX5, "weighNumber", "()V"⟩
abbrev cX5_kindOf : ByteArray := prog_7_method_20_code
def yX5_kindOf : MethodName := ⟨RX5, "kindOf", "(I)I"⟩
def RX6 : String := "HornBraider$Rounds"
def TX6 : u_T := fun k => match k with
  | 0 => ("HornBraider$Rounds", "slots", "I", false)
  | 1 => ("HornBraider$Rounds", "behind", "[I", true)
  | 2 => ("HornBraider$Rounds", "least", "[I", true)
  | 3 => ("HornBraider$Rounds", "lengths", "[I", true)
  | 4 => ("HornBraider$Rounds", "here", "[I", true)
  | 5 => ("HornBraider$Rounds", "holder", "[I", true)
  | _ => ("HornBraider$Rounds", "foes", "[J", true)
def tyX6 : Nat → FieldType := fun k => match k with
  | 0 => .int
  | 1 => .array .int
  | 2 => .array .int
  | 3 => .array .int
  | 4 => .array .int
  | 5 => .array .int
  | _ => .array .long
theorem nmX6 : ∀ a, a < 7 → ∀ b, b < 7 → a ≠ b → (TX6 a).2.1 ≠ (TX6 b).2.1 := by decide +kernel
theorem tyX6_ok : ∀ k, k < 7 → parseFieldDescriptor (TX6 k).2.2.1 = some (tyX6 k) := by decide +kernel
abbrev cX6_init : ByteArray := prog_8_method_1_code
def yX6_init : MethodName := ⟨RX6, "<init>", "()V"⟩
abbrev cX6_lay : ByteArray := prog_8_method_2_code
def yX6_lay : MethodName := ⟨RX6, "lay", "(LHornBraider$Frame;[III)V"⟩
abbrev cX6_markTrack : ByteArray := prog_8_method_3_code
def yX6_markTrack : MethodName := ⟨RX6, "markTrack", "(I)V"⟩
abbrev cX6_countTracks : ByteArray := prog_8_method_4_code
def yX6_countTracks : MethodName := ⟨RX6, "countTracks", "(I)I"⟩
abbrev cX6_greatestLength : ByteArray := prog_8_method_5_code
def yX6_greatestLength : MethodName := ⟨RX6, "greatestLength", "()I"⟩
abbrev cX6_allHome : ByteArray := prog_8_method_6_code
def yX6_allHome : MethodName := ⟨RX6, "allHome", "()J"⟩
abbrev cX6_findFoes : ByteArray := prog_8_method_7_code
def yX6_findFoes : MethodName := ⟨RX6, "findFoes", "(LHornBraider$Frame;[III)V"⟩
abbrev cX6_markFoes : ByteArray := prog_8_method_8_code
def yX6_markFoes : MethodName := ⟨RX6, "markFoes", "(II)V"⟩
abbrev cX6_areFoes : ByteArray := prog_8_method_9_code
def yX6_areFoes : MethodName := ⟨RX6, "areFoes", "(II)Z"⟩
def RX7 : String := "HornBraider$Run"
def TX7 : u_T := fun k => match k with
  | 0 => ("HornBraider$Run", "count", "I", false)
  | 1 => ("HornBraider$Run", "time", "I", false)
  | 2 => ("HornBraider$Run", "slot", "[I", true)
  | 3 => ("HornBraider$Run", "next", "[I", true)
  | 4 => ("HornBraider$Run", "line", "[I", true)
  | 5 => ("HornBraider$Run", "queue", "[I", true)
  | 6 => ("HornBraider$Run", "fresh", "[I", true)
  | 7 => ("HornBraider$Run", "freshCount", "I", false)
  | 8 => ("HornBraider$Run", "word", "LHornBraider$Word;", true)
  | 9 => ("HornBraider$Run", "standing", "I", false)
  | _ => ("HornBraider$Run", "clash", "I", false)
def tyX7 : Nat → FieldType := fun k => match k with
  | 0 => .int
  | 1 => .int
  | 2 => .array .int
  | 3 => .array .int
  | 4 => .array .int
  | 5 => .array .int
  | 6 => .array .int
  | 7 => .int
  | 8 => .object "HornBraider$Word"
  | 9 => .int
  | _ => .int
theorem nmX7 : ∀ a, a < 11 → ∀ b, b < 11 → a ≠ b → (TX7 a).2.1 ≠ (TX7 b).2.1 := by decide +kernel
theorem tyX7_ok : ∀ k, k < 11 → parseFieldDescriptor (TX7 k).2.2.1 = some (tyX7 k) := by decide +kernel
abbrev cX7_init : ByteArray := prog_9_method_1_code
def yX7_init : MethodName := ⟨RX7, "<init>", "()V"⟩
abbrev cX7_begin : ByteArray := prog_9_method_2_code
def yX7_begin : MethodName := ⟨RX7, "begin", "(LHornBraider$Plan;)V"⟩
abbrev cX7_enterLine : ByteArray := prog_9_method_3_code
def yX7_enterLine : MethodName := ⟨RX7, "enterLine", "(LHornBraider$Frame;I)V"⟩
abbrev cX7_copyPlaces : ByteArray := prog_9_method_4_code
def yX7_copyPlaces : MethodName := ⟨RX7, "copyPlaces", "(LHornBraider$Run;)V"⟩
abbrev cX7_bobbinIn : ByteArray := prog_9_method_5_code
def yX7_bobbinIn : MethodName := ⟨RX7, "bobbinIn", "(I)I"⟩
abbrev cX7_standOf : ByteArray := prog_9_method_6_code
def yX7_standOf : MethodName := ⟨RX7, "standOf", "(I)I"⟩
abbrev cX7_turnAll : ByteArray := prog_9_method_7_code
def yX7_turnAll : MethodName := ⟨RX7, "turnAll", "(LHornBraider$Frame;I)Z"⟩
abbrev cX7_leastClash : ByteArray := prog_9_method_8_code
def yX7_leastClash : MethodName := ⟨RX7, "leastClash", "()I"⟩
abbrev cX7_weave : ByteArray := prog_9_method_9_code
def yX7_weave : MethodName := ⟨RX7, "weave", "(LHornBraider$Frame;)V"⟩
abbrev cX7_exchange : ByteArray := prog_9_method_10_code
def yX7_exchange : MethodName := ⟨RX7, "exchange", "(LHornBraider$Frame;I)V"⟩
abbrev cX7_isInFront : ByteArray := prog_9_method_11_code
def yX7_isInFront : MethodName := ⟨RX7, "isInFront", "(LHornBraider$Frame;II)Z"⟩
abbrev cX7_settle : ByteArray := prog_9_method_12_code
def yX7_settle : MethodName := ⟨RX7, "settle", "()V"⟩
abbrev cX7_keepWoven : ByteArray := prog_9_method_13_code
def yX7_keepWoven : MethodName := ⟨RX7, "keepWoven", "()V"⟩
abbrev cX7_runAll : ByteArray := prog_9_method_14_code
def yX7_runAll : MethodName := ⟨RX7, "runAll", "(LHornBraider$Frame;[IIII)Z"⟩
abbrev cX7_chase : ByteArray := prog_9_method_15_code
def yX7_chase : MethodName := ⟨RX7, "chase", "(LHornBraider$Frame;[I)V"⟩
abbrev cX7_firstTurnedTo : ByteArray := prog_9_method_16_code
def yX7_firstTurnedTo : MethodName := ⟨RX7, "firstTurnedTo", "(LHornBraider$Frame;II)I"⟩
def RX8 : String := "HornBraider$Sightings"
def TX8 : u_T := fun k => match k with
  | 0 => ("HornBraider$Sightings", "count", "I", false)
  | 1 => ("HornBraider$Sightings", "bobbins", "[I", true)
  | 2 => ("HornBraider$Sightings", "steps", "[I", true)
  | _ => ("HornBraider$Sightings", "slots", "[I", true)
def tyX8 : Nat → FieldType := fun k => match k with
  | 0 => .int
  | 1 => .array .int
  | 2 => .array .int
  | _ => .array .int
theorem nmX8 : ∀ a, a < 4 → ∀ b, b < 4 → a ≠ b → (TX8 a).2.1 ≠ (TX8 b).2.1 := by decide +kernel
theorem tyX8_ok : ∀ k, k < 4 → parseFieldDescriptor (TX8 k).2.2.1 = some (tyX8 k) := by decide +kernel
abbrev cX8_init : ByteArray := prog_10_method_1_code
def yX8_init : MethodName := ⟨RX8, "<init>", "()V"⟩
abbrev cX8_add : ByteArray := prog_10_method_2_code
def yX8_add : MethodName := ⟨RX8, "add", "(III)V"⟩
abbrev cX8_drop : ByteArray := prog_10_method_3_code
def yX8_drop : MethodName := ⟨RX8, "drop", "(I)V"⟩
abbrev cX8_latest : ByteArray := prog_10_method_4_code
def yX8_latest : MethodName := ⟨RX8, "latest", "()I"⟩
abbrev cX8_agree : ByteArray := prog_10_method_5_code
def yX8_agree : MethodName := ⟨RX8, "agree", "(LHornBraider$Run;)Z"⟩
def RX9 : String := "HornBraider$Word"
def TX9 : u_T := fun k => match k with
  | 0 => ("HornBraider$Word", "letters", "[I", true)
  | _ => ("HornBraider$Word", "size", "I", false)
def tyX9 : Nat → FieldType := fun k => match k with
  | 0 => .array .int
  | _ => .int
theorem nmX9 : ∀ a, a < 2 → ∀ b, b < 2 → a ≠ b → (TX9 a).2.1 ≠ (TX9 b).2.1 := by decide +kernel
theorem tyX9_ok : ∀ k, k < 2 → parseFieldDescriptor (TX9 k).2.2.1 = some (tyX9 k) := by decide +kernel
abbrev cX9_init : ByteArray := prog_11_method_1_code
def yX9_init : MethodName := ⟨RX9, "<init>", "(I)V"⟩
abbrev cX9_add : ByteArray := prog_11_method_2_code
def yX9_add : MethodName := ⟨RX9, "add", "(I)V"⟩
abbrev cX9_kept : ByteArray := prog_11_method_3_code
def yX9_kept : MethodName := ⟨RX9, "kept", "()I"⟩
abbrev cX9_fits : ByteArray := prog_11_method_4_code
def yX9_fits : MethodName := ⟨RX9, "fits", "(I)Z"⟩
abbrev cX9_balance : ByteArray := prog_11_method_5_code
def yX9_balance : MethodName := ⟨RX9, "balance", "()I"⟩
abbrev cX9_passed : ByteArray := prog_11_method_6_code
def yX9_passed : MethodName := ⟨RX9, "passed", "(II)I"⟩
abbrev cX9_endOf : ByteArray := prog_11_method_7_code
def yX9_endOf : MethodName := ⟨RX9, "endOf", "(I)I"⟩
abbrev cX9_loops : ByteArray := prog_11_method_8_code
def yX9_loops : MethodName := ⟨RX9, "loops", "(I)I"⟩
abbrev cX9_changesOf : ByteArray := prog_11_method_9_code
def yX9_changesOf : MethodName := ⟨RX9, "changesOf", "(II)I"⟩
abbrev cX9_partsOf : ByteArray := prog_11_method_10_code
def yX9_partsOf : MethodName := ⟨RX9, "partsOf", "(IZ)I"⟩
abbrev cX9_greatestPlaceOf : ByteArray := prog_11_method_11_code
def yX9_greatestPlaceOf : MethodName := ⟨RX9, "greatestPlaceOf", "(I)I"⟩
abbrev cX9_leastPlaceOf : ByteArray := prog_11_method_12_code
def yX9_leastPlaceOf : MethodName := ⟨RX9, "leastPlaceOf", "(I)I"⟩
def RX10 : String := "HornBraider"
def TX10 : u_T := fun k => match k with
  | 0 => ("HornBraider", "status", "I", false)
  | 1 => ("HornBraider", "plan", "LHornBraider$Plan;", false)
  | 2 => ("HornBraider", "spare", "LHornBraider$Plan;", false)
  | 3 => ("HornBraider", "reader", "LHornBraider$Reader;", true)
  | 4 => ("HornBraider", "printer", "LHornBraider$Printer;", true)
  | 5 => ("HornBraider", "live", "LHornBraider$Run;", true)
  | 6 => ("HornBraider", "trial", "LHornBraider$Run;", true)
  | 7 => ("HornBraider", "open", "[I", true)
  | 8 => ("HornBraider", "rounds", "LHornBraider$Rounds;", true)
  | 9 => ("HornBraider", "coil", "LHornBraider$Coil;", true)
  | 10 => ("HornBraider", "otherCoil", "LHornBraider$Coil;", true)
  | 11 => ("HornBraider", "sightings", "LHornBraider$Sightings;", true)
  | _ => ("HornBraider", "namer", "LHornBraider$Namer;", true)
def tyX10 : Nat → FieldType := fun k => match k with
  | 0 => .int
  | 1 => .object "HornBraider$Plan"
  | 2 => .object "HornBraider$Plan"
  | 3 => .object "HornBraider$Reader"
  | 4 => .object "HornBraider$Printer"
  | 5 => .object "HornBraider$Run"
  | 6 => .object "HornBraider$Run"
  | 7 => .array .int
  | 8 => .object "HornBraider$Rounds"
  | 9 => .object "HornBraider$Coil"
  | 10 => .object "HornBraider$Coil"
  | 11 => .object "HornBraider$Sightings"
  | _ => .object "HornBraider$Namer"
theorem nmX10 : ∀ a, a < 13 → ∀ b, b < 13 → a ≠ b → (TX10 a).2.1 ≠ (TX10 b).2.1 := by decide +kernel
theorem tyX10_ok : ∀ k, k < 13 → parseFieldDescriptor (TX10 k).2.2.1 = some (tyX10 k) := by decide +kernel
abbrev cX10_init : ByteArray := prog_1_method_1_code
def yX10_init : MethodName := ⟨RX10, "<init>", "()V"⟩
abbrev cX10_status : ByteArray := prog_1_method_2_code
def yX10_status : MethodName := ⟨RX10, "status", "()I"⟩
abbrev cX10_feed : ByteArray := prog_1_method_3_code
def yX10_feed : MethodName := ⟨RX10, "feed", "(IIIII)I"⟩
abbrev cX10_load : ByteArray := prog_1_method_4_code
def yX10_load : MethodName := ⟨RX10, "load", "(I)I"⟩
abbrev cX10_fault : ByteArray := prog_1_method_5_code
def yX10_fault : MethodName := ⟨RX10, "fault", "(I)I"⟩
abbrev cX10_many : ByteArray := prog_1_method_6_code
def yX10_many : MethodName := ⟨RX10, "many", "(I)I"⟩
abbrev cX10_gate : ByteArray := prog_1_method_7_code
def yX10_gate : MethodName := ⟨RX10, "gate", "(II)I"⟩
abbrev cX10_bit : ByteArray := prog_1_method_8_code
def yX10_bit : MethodName := ⟨RX10, "bit", "(II)I"⟩
abbrev cX10_bobbin : ByteArray := prog_1_method_9_code
def yX10_bobbin : MethodName := ⟨RX10, "bobbin", "(II)I"⟩
abbrev cX10_at : ByteArray := prog_1_method_10_code
def yX10_at : MethodName := ⟨RX10, "at", "(I)I"⟩
abbrev cX10_faces : ByteArray := prog_1_method_11_code
def yX10_faces : MethodName := ⟨RX10, "faces", "(I)I"⟩
abbrev cX10_program : ByteArray := prog_1_method_12_code
def yX10_program : MethodName := ⟨RX10, "program", "(III)I"⟩
abbrev cX10_stick : ByteArray := prog_1_method_13_code
def yX10_stick : MethodName := ⟨RX10, "stick", "(II)I"⟩
abbrev cX10_free : ByteArray := prog_1_method_14_code
def yX10_free : MethodName := ⟨RX10, "free", "(IZ)I"⟩
abbrev cX10_put : ByteArray := prog_1_method_15_code
def yX10_put : MethodName := ⟨RX10, "put", "(I)I"⟩
abbrev cX10_take : ByteArray := prog_1_method_16_code
def yX10_take : MethodName := ⟨RX10, "take", "(I)I"⟩
abbrev cX10_wish : ByteArray := prog_1_method_17_code
def yX10_wish : MethodName := ⟨RX10, "wish", "(II)I"⟩
abbrev cX10_step : ByteArray := prog_1_method_18_code
def yX10_step : MethodName := ⟨RX10, "step", "(I)I"⟩
abbrev cX10_reset : ByteArray := prog_1_method_19_code
def yX10_reset : MethodName := ⟨RX10, "reset", "()I"⟩
abbrev cX10_cut : ByteArray := prog_1_method_20_code
def yX10_cut : MethodName := ⟨RX10, "cut", "()I"⟩
abbrev cX10_print : ByteArray := prog_1_method_21_code
def yX10_print : MethodName := ⟨RX10, "print", "()I"⟩
abbrev cX10_out : ByteArray := prog_1_method_22_code
def yX10_out : MethodName := ⟨RX10, "out", "(I)I"⟩
abbrev cX10_map : ByteArray := prog_1_method_23_code
def yX10_map : MethodName := ⟨RX10, "map", "(II)I"⟩
abbrev cX10_ride : ByteArray := prog_1_method_24_code
def yX10_ride : MethodName := ⟨RX10, "ride", "(III)I"⟩
abbrev cX10_round : ByteArray := prog_1_method_25_code
def yX10_round : MethodName := ⟨RX10, "round", "(I)I"⟩
abbrev cX10_track : ByteArray := prog_1_method_26_code
def yX10_track : MethodName := ⟨RX10, "track", "(II)I"⟩
abbrev cX10_tracks : ByteArray := prog_1_method_27_code
def yX10_tracks : MethodName := ⟨RX10, "tracks", "(I)I"⟩
abbrev cX10_ofLength : ByteArray := prog_1_method_28_code
def yX10_ofLength : MethodName := ⟨RX10, "ofLength", "(I)I"⟩
abbrev cX10_meets : ByteArray := prog_1_method_29_code
def yX10_meets : MethodName := ⟨RX10, "meets", "(III)I"⟩
abbrev cX10_crash : ByteArray := prog_1_method_30_code
def yX10_crash : MethodName := ⟨RX10, "crash", "(I)I"⟩
abbrev cX10_repeat : ByteArray := prog_1_method_31_code
def yX10_repeat : MethodName := ⟨RX10, "repeat", "()I"⟩
abbrev cX10_laid : ByteArray := prog_1_method_32_code
def yX10_laid : MethodName := ⟨RX10, "laid", "(I)I"⟩
abbrev cX10_letter : ByteArray := prog_1_method_33_code
def yX10_letter : MethodName := ⟨RX10, "letter", "(I)I"⟩
abbrev cX10_wished : ByteArray := prog_1_method_34_code
def yX10_wished : MethodName := ⟨RX10, "wished", "(I)I"⟩
abbrev cX10_braid : ByteArray := prog_1_method_35_code
def yX10_braid : MethodName := ⟨RX10, "braid", "(I)I"⟩
abbrev cX10_ends : ByteArray := prog_1_method_36_code
def yX10_ends : MethodName := ⟨RX10, "ends", "(I)I"⟩
abbrev cX10_pair : ByteArray := prog_1_method_37_code
def yX10_pair : MethodName := ⟨RX10, "pair", "(II)I"⟩
abbrev cX10_thread : ByteArray := prog_1_method_38_code
def yX10_thread : MethodName := ⟨RX10, "thread", "(II)I"⟩
abbrev cX10_times : ByteArray := prog_1_method_39_code
def yX10_times : MethodName := ⟨RX10, "times", "(I)I"⟩
abbrev cX10_search : ByteArray := prog_1_method_40_code
def yX10_search : MethodName := ⟨RX10, "search", "(I)I"⟩
abbrev cX10_refusal : ByteArray := prog_1_method_41_code
def yX10_refusal : MethodName := ⟨RX10, "refusal", "(III)I"⟩
abbrev cX10_refused : ByteArray := prog_1_method_42_code
def yX10_refused : MethodName := ⟨RX10, "refused", "(II)I"⟩
abbrev cX10_seen : ByteArray := prog_1_method_43_code
def yX10_seen : MethodName := ⟨RX10, "seen", "(III)I"⟩
abbrev cX10_forget : ByteArray := prog_1_method_44_code
def yX10_forget : MethodName := ⟨RX10, "forget", "()I"⟩
abbrev cX10_name : ByteArray := prog_1_method_45_code
def yX10_name : MethodName := ⟨RX10, "name", "(I)I"⟩
abbrev cX10_named : ByteArray := prog_1_method_46_code
def yX10_named : MethodName := ⟨RX10, "named", "(II)I"⟩
abbrev cX10_give : ByteArray := prog_1_method_47_code
def yX10_give : MethodName := ⟨RX10, "give", "(I)I"⟩
abbrev cX10_refuse : ByteArray := prog_1_method_48_code
def yX10_refuse : MethodName := ⟨RX10, "refuse", "(I)I"⟩
abbrev cX10_hasSwitch : ByteArray := prog_1_method_49_code
def yX10_hasSwitch : MethodName := ⟨RX10, "hasSwitch", "(I)Z"⟩
abbrev cX10_hasSlot : ByteArray := prog_1_method_50_code
def yX10_hasSlot : MethodName := ⟨RX10, "hasSlot", "(I)Z"⟩
abbrev cX10_hasBobbin : ByteArray := prog_1_method_51_code
def yX10_hasBobbin : MethodName := ⟨RX10, "hasBobbin", "(I)Z"⟩
abbrev cX10_hasPlace : ByteArray := prog_1_method_52_code
def yX10_hasPlace : MethodName := ⟨RX10, "hasPlace", "(I)Z"⟩
abbrev cX10_advance : ByteArray := prog_1_method_53_code
def yX10_advance : MethodName := ⟨RX10, "advance", "()I"⟩
abbrev cX10_layRounds : ByteArray := prog_1_method_54_code
def yX10_layRounds : MethodName := ⟨RX10, "layRounds", "(I)V"⟩
abbrev cX10_startsOnTrack : ByteArray := prog_1_method_55_code
def yX10_startsOnTrack : MethodName := ⟨RX10, "startsOnTrack", "(I)I"⟩
abbrev cX10_foesAmongBobbins : ByteArray := prog_1_method_56_code
def yX10_foesAmongBobbins : MethodName := ⟨RX10, "foesAmongBobbins", "()Z"⟩
abbrev cX10_kthLaid : ByteArray := prog_1_method_57_code
def yX10_kthLaid : MethodName := ⟨RX10, "kthLaid", "(I)I"⟩
abbrev cX10_fitsLaid : ByteArray := prog_1_method_58_code
def yX10_fitsLaid : MethodName := ⟨RX10, "fitsLaid", "(I)Z"⟩
abbrev cX10_letterOf : ByteArray := prog_1_method_59_code
def yX10_letterOf : MethodName := ⟨RX10, "letterOf", "(LHornBraider$Word;I)I"⟩
abbrev cX10_isEmptyBraid : ByteArray := prog_1_method_60_code
def yX10_isEmptyBraid : MethodName := ⟨RX10, "isEmptyBraid", "()Z"⟩
abbrev cX10_isWishedBraid : ByteArray := prog_1_method_61_code
def yX10_isWishedBraid : MethodName := ⟨RX10, "isWishedBraid", "(I)Z"⟩
abbrev cX10_isMirrored : ByteArray := prog_1_method_62_code
def yX10_isMirrored : MethodName := ⟨RX10, "isMirrored", "()Z"⟩
abbrev cX10_isBackwards : ByteArray := prog_1_method_63_code
def yX10_isBackwards : MethodName := ⟨RX10, "isBackwards", "()Z"⟩
abbrev cX10_isEitherWayRound : ByteArray := prog_1_method_64_code
def yX10_isEitherWayRound : MethodName := ⟨RX10, "isEitherWayRound", "()Z"⟩
abbrev cX10_prepareSearch : ByteArray := prog_1_method_65_code
def yX10_prepareSearch : MethodName := ⟨RX10, "prepareSearch", "()V"⟩
abbrev cX10_whyRefused : ByteArray := prog_1_method_66_code
def yX10_whyRefused : MethodName := ⟨RX10, "whyRefused", "(II)I"⟩
abbrev cX10_firstMisplaced : ByteArray := prog_1_method_67_code
def yX10_firstMisplaced : MethodName := ⟨RX10, "firstMisplaced", "()I"⟩
abbrev cX10_trialMatchesWished : ByteArray := prog_1_method_68_code
def yX10_trialMatchesWished : MethodName := ⟨RX10, "trialMatchesWished", "()Z"⟩
abbrev cX10_phase : ByteArray := prog_1_method_69_code
def yX10_phase : MethodName := ⟨RX10, "phase", "(I)I"⟩
abbrev cX10_leastCommon : ByteArray := prog_1_method_70_code
def yX10_leastCommon : MethodName := ⟨RX10, "leastCommon", "(JJ)J"⟩
def RX11 : String := "HornBraiderModel"
def TX11 : u_T := fun k => match k with
  | 0 => ("HornBraiderModel", "c", "[I", true)
  | 1 => ("HornBraiderModel", "whole", "[I", true)
  | 2 => ("HornBraiderModel", "status", "I", false)
  | 3 => ("HornBraiderModel", "thrown", "I", false)
  | 4 => ("HornBraiderModel", "firstStuck", "I", false)
  | 5 => ("HornBraiderModel", "firstHow", "I", false)
  | 6 => ("HornBraiderModel", "otherStuck", "I", false)
  | 7 => ("HornBraiderModel", "otherHow", "I", false)
  | 8 => ("HornBraiderModel", "setting", "I", false)
  | 9 => ("HornBraiderModel", "isPlain", "Z", false)
  | 10 => ("HornBraiderModel", "slot", "[I", true)
  | 11 => ("HornBraiderModel", "then", "[I", true)
  | 12 => ("HornBraiderModel", "line", "[I", true)
  | 13 => ("HornBraiderModel", "spelled", "[I", true)
  | 14 => ("HornBraiderModel", "spelledMany", "I", false)
  | 15 => ("HornBraiderModel", "clashGate", "I", false)
  | 16 => ("HornBraiderModel", "clashOne", "I", false)
  | 17 => ("HornBraiderModel", "clashOther", "I", false)
  | 18 => ("HornBraiderModel", "factor", "[I", true)
  | 19 => ("HornBraiderModel", "factors", "I", false)
  | 20 => ("HornBraiderModel", "halfTurns", "I", false)
  | 21 => ("HornBraiderModel", "strands", "I", false)
  | 22 => ("HornBraiderModel", "mirrored", "[I", true)
  | 23 => ("HornBraiderModel", "threads", "[I", true)
  | 24 => ("HornBraiderModel", "metAt", "I", false)
  | 25 => ("HornBraiderModel", "refusedAt", "I", false)
  | 26 => ("HornBraiderModel", "refusedGate", "I", false)
  | 27 => ("HornBraiderModel", "refusedBobbin", "I", false)
  | 28 => ("HornBraiderModel", "namedSize", "I", false)
  | 29 => ("HornBraiderModel", "namedMany", "I", false)
  | 30 => ("HornBraiderModel", "namedOne", "I", false)
  | 31 => ("HornBraiderModel", "namedTwo", "I", false)
  | 32 => ("HornBraiderModel", "tape", "[B", true)
  | 33 => ("HornBraiderModel", "taped", "I", false)
  | 34 => ("HornBraiderModel", "faultKind", "I", false)
  | 35 => ("HornBraiderModel", "faultAt", "I", false)
  | 36 => ("HornBraiderModel", "wrong", "I", false)
  | 37 => ("HornBraiderModel", "wrongAt", "I", false)
  | 38 => ("HornBraiderModel", "place", "I", false)
  | 39 => ("HornBraiderModel", "next", "I", false)
  | 40 => ("HornBraiderModel", "sort", "I", false)
  | 41 => ("HornBraiderModel", "number", "I", false)
  | 42 => ("HornBraiderModel", "end", "I", false)
  | 43 => ("HornBraiderModel", "letters", "J", false)
  | 44 => ("HornBraiderModel", "words", "[J", true)
  | 45 => ("HornBraiderModel", "out", "[I", true)
  | 46 => ("HornBraiderModel", "draft", "[I", true)
  | 47 => ("HornBraiderModel", "outMany", "I", false)
  | _ => ("HornBraiderModel", "drafted", "I", false)
def tyX11 : Nat → FieldType := fun k => match k with
  | 0 => .array .int
  | 1 => .array .int
  | 2 => .int
  | 3 => .int
  | 4 => .int
  | 5 => .int
  | 6 => .int
  | 7 => .int
  | 8 => .int
  | 9 => .boolean
  | 10 => .array .int
  | 11 => .array .int
  | 12 => .array .int
  | 13 => .array .int
  | 14 => .int
  | 15 => .int
  | 16 => .int
  | 17 => .int
  | 18 => .array .int
  | 19 => .int
  | 20 => .int
  | 21 => .int
  | 22 => .array .int
  | 23 => .array .int
  | 24 => .int
  | 25 => .int
  | 26 => .int
  | 27 => .int
  | 28 => .int
  | 29 => .int
  | 30 => .int
  | 31 => .int
  | 32 => .array .byte
  | 33 => .int
  | 34 => .int
  | 35 => .int
  | 36 => .int
  | 37 => .int
  | 38 => .int
  | 39 => .int
  | 40 => .int
  | 41 => .int
  | 42 => .int
  | 43 => .long
  | 44 => .array .long
  | 45 => .array .int
  | 46 => .array .int
  | 47 => .int
  | _ => .int
theorem nmX11 : ∀ a, a < 49 → ∀ b, b < 49 → a ≠ b → (TX11 a).2.1 ≠ (TX11 b).2.1 := by decide +kernel
theorem tyX11_ok : ∀ k, k < 49 → parseFieldDescriptor (TX11 k).2.2.1 = some (tyX11 k) := by decide +kernel
abbrev cX11_init : ByteArray := prog_13_method_1_code
def yX11_init : MethodName := ⟨RX11, "<init>", "()V"⟩
abbrev cX11_status : ByteArray := prog_13_method_3_code
def yX11_status : MethodName := ⟨RX11, "status", "()I"⟩
abbrev cX11_refuse : ByteArray := prog_13_method_4_code
def yX11_refuse : MethodName := ⟨RX11, "refuse", "(I)I"⟩
abbrev cX11_is : ByteArray := prog_13_method_5_code
def yX11_is : MethodName := ⟨RX11, "is", "(I)Z"⟩
abbrev cX11_isIn : ByteArray := prog_13_method_6_code
def yX11_isIn : MethodName := ⟨RX11, "isIn", "(III)Z"⟩
abbrev cX11_clears : ByteArray := prog_13_method_7_code
def yX11_clears : MethodName := ⟨RX11, "clears", "(II)V"⟩
abbrev cX11_slots : ByteArray := prog_13_method_8_code
def yX11_slots : MethodName := ⟨RX11, "slots", "()I"⟩
abbrev cX11_across : ByteArray := prog_13_method_9_code
def yX11_across : MethodName := ⟨RX11, "across", "()I"⟩
abbrev cX11_gates : ByteArray := prog_13_method_10_code
def yX11_gates : MethodName := ⟨RX11, "gates", "()I"⟩
abbrev cX11_isSlot : ByteArray := prog_13_method_11_code
def yX11_isSlot : MethodName := ⟨RX11, "isSlot", "(I)Z"⟩
abbrev cX11_isGate : ByteArray := prog_13_method_12_code
def yX11_isGate : MethodName := ⟨RX11, "isGate", "(I)Z"⟩
abbrev cX11_isBobbin : ByteArray := prog_13_method_13_code
def yX11_isBobbin : MethodName := ⟨RX11, "isBobbin", "(I)Z"⟩
abbrev cX11_firstOf : ByteArray := prog_13_method_14_code
def yX11_firstOf : MethodName := ⟨RX11, "firstOf", "(I)I"⟩
abbrev cX11_secondOf : ByteArray := prog_13_method_15_code
def yX11_secondOf : MethodName := ⟨RX11, "secondOf", "(I)I"⟩
abbrev cX11_gateAt : ByteArray := prog_13_method_16_code
def yX11_gateAt : MethodName := ⟨RX11, "gateAt", "(I)I"⟩
abbrev cX11_facing : ByteArray := prog_13_method_17_code
def yX11_facing : MethodName := ⟨RX11, "facing", "(I)I"⟩
abbrev cX11_turned : ByteArray := prog_13_method_18_code
def yX11_turned : MethodName := ⟨RX11, "turned", "(I)I"⟩
abbrev cX11_xOf : ByteArray := prog_13_method_19_code
def yX11_xOf : MethodName := ⟨RX11, "xOf", "(I)I"⟩
abbrev cX11_yOf : ByteArray := prog_13_method_20_code
def yX11_yOf : MethodName := ⟨RX11, "yOf", "(I)I"⟩
abbrev cX11_isAhead : ByteArray := prog_13_method_21_code
def yX11_isAhead : MethodName := ⟨RX11, "isAhead", "(II)Z"⟩
abbrev cX11_howStuck : ByteArray := prog_13_method_22_code
def yX11_howStuck : MethodName := ⟨RX11, "howStuck", "(I)I"⟩
abbrev cX11_freeNumber : ByteArray := prog_13_method_23_code
def yX11_freeNumber : MethodName := ⟨RX11, "freeNumber", "(I)I"⟩
abbrev cX11_isOpen : ByteArray := prog_13_method_24_code
def yX11_isOpen : MethodName := ⟨RX11, "isOpen", "(II)Z"⟩
abbrev cX11_over : ByteArray := prog_13_method_25_code
def yX11_over : MethodName := ⟨RX11, "over", "(II)I"⟩
abbrev cX11_mapped : ByteArray := prog_13_method_26_code
def yX11_mapped : MethodName := ⟨RX11, "mapped", "(II)I"⟩
abbrev cX11_common : ByteArray := prog_13_method_27_code
def yX11_common : MethodName := ⟨RX11, "common", "(II)I"⟩
abbrev cX11_multiple : ByteArray := prog_13_method_28_code
def yX11_multiple : MethodName := ⟨RX11, "multiple", "(II)I"⟩
abbrev cX11_period : ByteArray := prog_13_method_29_code
def yX11_period : MethodName := ⟨RX11, "period", "()I"⟩
abbrev cX11_rounded : ByteArray := prog_13_method_30_code
def yX11_rounded : MethodName := ⟨RX11, "rounded", "(II)I"⟩
abbrev cX11_lengthOf : ByteArray := prog_13_method_31_code
def yX11_lengthOf : MethodName := ⟨RX11, "lengthOf", "(II)I"⟩
abbrev cX11_meeting : ByteArray := prog_13_method_32_code
def yX11_meeting : MethodName := ⟨RX11, "meeting", "()I"⟩
abbrev cX11_tries : ByteArray := prog_13_method_33_code
def yX11_tries : MethodName := ⟨RX11, "tries", "(I)Z"⟩
abbrev cX11_isInFront : ByteArray := prog_13_method_34_code
def yX11_isInFront : MethodName := ⟨RX11, "isInFront", "(II)Z"⟩
abbrev cX11_stands : ByteArray := prog_13_method_35_code
def yX11_stands : MethodName := ⟨RX11, "stands", "()V"⟩
abbrev cX11_spells : ByteArray := prog_13_method_36_code
def yX11_spells : MethodName := ⟨RX11, "spells", "(I)V"⟩
abbrev cX11_spellsStep : ByteArray := prog_13_method_37_code
def yX11_spellsStep : MethodName := ⟨RX11, "spellsStep", "()V"⟩
abbrev cX11_goes : ByteArray := prog_13_method_38_code
def yX11_goes : MethodName := ⟨RX11, "goes", "()V"⟩
abbrev cX11_begins : ByteArray := prog_13_method_39_code
def yX11_begins : MethodName := ⟨RX11, "begins", "()V"⟩
abbrev cX11_goesTo : ByteArray := prog_13_method_40_code
def yX11_goesTo : MethodName := ⟨RX11, "goesTo", "(II)I"⟩
abbrev cX11_lays : ByteArray := prog_13_method_41_code
def yX11_lays : MethodName := ⟨RX11, "lays", "(III)V"⟩
abbrev cX11_isBegun : ByteArray := prog_13_method_42_code
def yX11_isBegun : MethodName := ⟨RX11, "isBegun", "(II)Z"⟩
abbrev cX11_comesFrom : ByteArray := prog_13_method_43_code
def yX11_comesFrom : MethodName := ⟨RX11, "comesFrom", "(II)I"⟩
abbrev cX11_isEnded : ByteArray := prog_13_method_44_code
def yX11_isEnded : MethodName := ⟨RX11, "isEnded", "(II)Z"⟩
abbrev cX11_isNothing : ByteArray := prog_13_method_45_code
def yX11_isNothing : MethodName := ⟨RX11, "isNothing", "(I)Z"⟩
abbrev cX11_isHalfTurn : ByteArray := prog_13_method_46_code
def yX11_isHalfTurn : MethodName := ⟨RX11, "isHalfTurn", "(I)Z"⟩
abbrev cX11_shares : ByteArray := prog_13_method_47_code
def yX11_shares : MethodName := ⟨RX11, "shares", "(I)Z"⟩
abbrev cX11_leavesOut : ByteArray := prog_13_method_48_code
def yX11_leavesOut : MethodName := ⟨RX11, "leavesOut", "(I)V"⟩
abbrev cX11_mirrors : ByteArray := prog_13_method_49_code
def yX11_mirrors : MethodName := ⟨RX11, "mirrors", "(I)V"⟩
abbrev cX11_settles : ByteArray := prog_13_method_50_code
def yX11_settles : MethodName := ⟨RX11, "settles", "()V"⟩
abbrev cX11_joins : ByteArray := prog_13_method_51_code
def yX11_joins : MethodName := ⟨RX11, "joins", "(I)V"⟩
abbrev cX11_beginsBraid : ByteArray := prog_13_method_52_code
def yX11_beginsBraid : MethodName := ⟨RX11, "beginsBraid", "()V"⟩
abbrev cX11_isNoBraid : ByteArray := prog_13_method_53_code
def yX11_isNoBraid : MethodName := ⟨RX11, "isNoBraid", "()Z"⟩
abbrev cX11_joinsWord : ByteArray := prog_13_method_54_code
def yX11_joinsWord : MethodName := ⟨RX11, "joinsWord", "(ZZ)V"⟩
abbrev cX11_joinsWished : ByteArray := prog_13_method_55_code
def yX11_joinsWished : MethodName := ⟨RX11, "joinsWished", "()V"⟩
abbrev cX11_unjoinsWished : ByteArray := prog_13_method_56_code
def yX11_unjoinsWished : MethodName := ⟨RX11, "unjoinsWished", "()V"⟩
abbrev cX11_unjoinsWord : ByteArray := prog_13_method_57_code
def yX11_unjoinsWord : MethodName := ⟨RX11, "unjoinsWord", "()V"⟩
abbrev cX11_canBeWished : ByteArray := prog_13_method_58_code
def yX11_canBeWished : MethodName := ⟨RX11, "canBeWished", "()Z"⟩
abbrev cX11_isWishedAgain : ByteArray := prog_13_method_59_code
def yX11_isWishedAgain : MethodName := ⟨RX11, "isWishedAgain", "(I)Z"⟩
abbrev cX11_isItselfSo : ByteArray := prog_13_method_60_code
def yX11_isItselfSo : MethodName := ⟨RX11, "isItselfSo", "(ZZ)Z"⟩
abbrev cX11_goEitherWay : ByteArray := prog_13_method_61_code
def yX11_goEitherWay : MethodName := ⟨RX11, "goEitherWay", "()Z"⟩
abbrev cX11_beginsThreads : ByteArray := prog_13_method_62_code
def yX11_beginsThreads : MethodName := ⟨RX11, "beginsThreads", "()V"⟩
abbrev cX11_placeOf : ByteArray := prog_13_method_63_code
def yX11_placeOf : MethodName := ⟨RX11, "placeOf", "(I)I"⟩
abbrev cX11_crosses : ByteArray := prog_13_method_64_code
def yX11_crosses : MethodName := ⟨RX11, "crosses", "(I)V"⟩
abbrev cX11_loops : ByteArray := prog_13_method_65_code
def yX11_loops : MethodName := ⟨RX11, "loops", "()I"⟩
abbrev cX11_twist : ByteArray := prog_13_method_66_code
def yX11_twist : MethodName := ⟨RX11, "twist", "()I"⟩
abbrev cX11_braid : ByteArray := prog_13_method_67_code
def yX11_braid : MethodName := ⟨RX11, "braid", "(I)I"⟩
abbrev cX11_isPlace : ByteArray := prog_13_method_68_code
def yX11_isPlace : MethodName := ⟨RX11, "isPlace", "(I)Z"⟩
abbrev cX11_ends : ByteArray := prog_13_method_69_code
def yX11_ends : MethodName := ⟨RX11, "ends", "(I)I"⟩
abbrev cX11_pair : ByteArray := prog_13_method_70_code
def yX11_pair : MethodName := ⟨RX11, "pair", "(II)I"⟩
abbrev cX11_thread : ByteArray := prog_13_method_71_code
def yX11_thread : MethodName := ⟨RX11, "thread", "(II)I"⟩
abbrev cX11_times : ByteArray := prog_13_method_72_code
def yX11_times : MethodName := ⟨RX11, "times", "(I)I"⟩
abbrev cX11_letter : ByteArray := prog_13_method_73_code
def yX11_letter : MethodName := ⟨RX11, "letter", "(I)I"⟩
abbrev cX11_wished : ByteArray := prog_13_method_74_code
def yX11_wished : MethodName := ⟨RX11, "wished", "(I)I"⟩
abbrev cX11_counted : ByteArray := prog_13_method_75_code
def yX11_counted : MethodName := ⟨RX11, "counted", "(I)I"⟩
abbrev cX11_many : ByteArray := prog_13_method_76_code
def yX11_many : MethodName := ⟨RX11, "many", "(I)I"⟩
abbrev cX11_gate : ByteArray := prog_13_method_77_code
def yX11_gate : MethodName := ⟨RX11, "gate", "(II)I"⟩
abbrev cX11_bit : ByteArray := prog_13_method_78_code
def yX11_bit : MethodName := ⟨RX11, "bit", "(II)I"⟩
abbrev cX11_standing : ByteArray := prog_13_method_79_code
def yX11_standing : MethodName := ⟨RX11, "standing", "(I)I"⟩
abbrev cX11_bobbin : ByteArray := prog_13_method_80_code
def yX11_bobbin : MethodName := ⟨RX11, "bobbin", "(II)I"⟩
abbrev cX11_bobbinIn : ByteArray := prog_13_method_81_code
def yX11_bobbinIn : MethodName := ⟨RX11, "bobbinIn", "(II)I"⟩
abbrev cX11_at : ByteArray := prog_13_method_82_code
def yX11_at : MethodName := ⟨RX11, "at", "(I)I"⟩
abbrev cX11_faces : ByteArray := prog_13_method_83_code
def yX11_faces : MethodName := ⟨RX11, "faces", "(I)I"⟩
abbrev cX11_program : ByteArray := prog_13_method_84_code
def yX11_program : MethodName := ⟨RX11, "program", "(III)I"⟩
abbrev cX11_stick : ByteArray := prog_13_method_85_code
def yX11_stick : MethodName := ⟨RX11, "stick", "(II)I"⟩
abbrev cX11_free : ByteArray := prog_13_method_86_code
def yX11_free : MethodName := ⟨RX11, "free", "(IZ)I"⟩
abbrev cX11_isTakenStart : ByteArray := prog_13_method_87_code
def yX11_isTakenStart : MethodName := ⟨RX11, "isTakenStart", "(I)Z"⟩
abbrev cX11_comesNew : ByteArray := prog_13_method_88_code
def yX11_comesNew : MethodName := ⟨RX11, "comesNew", "(I)I"⟩
abbrev cX11_put : ByteArray := prog_13_method_89_code
def yX11_put : MethodName := ⟨RX11, "put", "(I)I"⟩
abbrev cX11_take : ByteArray := prog_13_method_90_code
def yX11_take : MethodName := ⟨RX11, "take", "(I)I"⟩
abbrev cX11_wish : ByteArray := prog_13_method_91_code
def yX11_wish : MethodName := ⟨RX11, "wish", "(II)I"⟩
abbrev cX11_standsNow : ByteArray := prog_13_method_92_code
def yX11_standsNow : MethodName := ⟨RX11, "standsNow", "()V"⟩
abbrev cX11_step : ByteArray := prog_13_method_93_code
def yX11_step : MethodName := ⟨RX11, "step", "(I)I"⟩
abbrev cX11_reset : ByteArray := prog_13_method_94_code
def yX11_reset : MethodName := ⟨RX11, "reset", "()I"⟩
abbrev cX11_cut : ByteArray := prog_13_method_95_code
def yX11_cut : MethodName := ⟨RX11, "cut", "()I"⟩
abbrev cX11_map : ByteArray := prog_13_method_96_code
def yX11_map : MethodName := ⟨RX11, "map", "(II)I"⟩
abbrev cX11_ride : ByteArray := prog_13_method_97_code
def yX11_ride : MethodName := ⟨RX11, "ride", "(III)I"⟩
abbrev cX11_round : ByteArray := prog_13_method_98_code
def yX11_round : MethodName := ⟨RX11, "round", "(I)I"⟩
abbrev cX11_leastOf : ByteArray := prog_13_method_99_code
def yX11_leastOf : MethodName := ⟨RX11, "leastOf", "(I)I"⟩
abbrev cX11_startsIn : ByteArray := prog_13_method_100_code
def yX11_startsIn : MethodName := ⟨RX11, "startsIn", "(I)I"⟩
abbrev cX11_track : ByteArray := prog_13_method_101_code
def yX11_track : MethodName := ⟨RX11, "track", "(II)I"⟩
abbrev cX11_tracks : ByteArray := prog_13_method_102_code
def yX11_tracks : MethodName := ⟨RX11, "tracks", "(I)I"⟩
abbrev cX11_ofLength : ByteArray := prog_13_method_103_code
def yX11_ofLength : MethodName := ⟨RX11, "ofLength", "(I)I"⟩
abbrev cX11_meetsFrom : ByteArray := prog_13_method_104_code
def yX11_meetsFrom : MethodName := ⟨RX11, "meetsFrom", "(III)I"⟩
abbrev cX11_meets : ByteArray := prog_13_method_105_code
def yX11_meets : MethodName := ⟨RX11, "meets", "(III)I"⟩
abbrev cX11_crash : ByteArray := prog_13_method_106_code
def yX11_crash : MethodName := ⟨RX11, "crash", "(I)I"⟩
abbrev cX11_repeat : ByteArray := prog_13_method_107_code
def yX11_repeat : MethodName := ⟨RX11, "repeat", "()I"⟩
abbrev cX11_laid : ByteArray := prog_13_method_108_code
def yX11_laid : MethodName := ⟨RX11, "laid", "(I)I"⟩
abbrev cX11_settings : ByteArray := prog_13_method_109_code
def yX11_settings : MethodName := ⟨RX11, "settings", "()I"⟩
abbrev cX11_isSpelledWished : ByteArray := prog_13_method_110_code
def yX11_isSpelledWished : MethodName := ⟨RX11, "isSpelledWished", "()Z"⟩
abbrev cX11_whyOf : ByteArray := prog_13_method_111_code
def yX11_whyOf : MethodName := ⟨RX11, "whyOf", "(II)I"⟩
abbrev cX11_isSearch : ByteArray := prog_13_method_112_code
def yX11_isSearch : MethodName := ⟨RX11, "isSearch", "(I)Z"⟩
abbrev cX11_search : ByteArray := prog_13_method_113_code
def yX11_search : MethodName := ⟨RX11, "search", "(I)I"⟩
abbrev cX11_refusal : ByteArray := prog_13_method_114_code
def yX11_refusal : MethodName := ⟨RX11, "refusal", "(III)I"⟩
abbrev cX11_refused : ByteArray := prog_13_method_115_code
def yX11_refused : MethodName := ⟨RX11, "refused", "(II)I"⟩
abbrev cX11_seen : ByteArray := prog_13_method_116_code
def yX11_seen : MethodName := ⟨RX11, "seen", "(III)I"⟩
abbrev cX11_forget : ByteArray := prog_13_method_117_code
def yX11_forget : MethodName := ⟨RX11, "forget", "()I"⟩
abbrev cX11_isSeenSo : ByteArray := prog_13_method_118_code
def yX11_isSeenSo : MethodName := ⟨RX11, "isSeenSo", "(I)Z"⟩
abbrev cX11_latestSeen : ByteArray := prog_13_method_119_code
def yX11_latestSeen : MethodName := ⟨RX11, "latestSeen", "()I"⟩
abbrev cX11_doesExplain : ByteArray := prog_13_method_120_code
def yX11_doesExplain : MethodName := ⟨RX11, "doesExplain", "(II)Z"⟩
abbrev cX11_names : ByteArray := prog_13_method_121_code
def yX11_names : MethodName := ⟨RX11, "names", "(III)V"⟩
abbrev cX11_seeks : ByteArray := prog_13_method_122_code
def yX11_seeks : MethodName := ⟨RX11, "seeks", "(I)V"⟩
abbrev cX11_name : ByteArray := prog_13_method_123_code
def yX11_name : MethodName := ⟨RX11, "name", "(I)I"⟩
abbrev cX11_named : ByteArray := prog_13_method_124_code
def yX11_named : MethodName := ⟨RX11, "named", "(II)I"⟩
abbrev cX11_puts : ByteArray := prog_13_method_125_code
def yX11_puts : MethodName := ⟨RX11, "puts", "(I)V"⟩
abbrev cX11_feed : ByteArray := prog_13_method_126_code
def yX11_feed : MethodName := ⟨RX11, "feed", "(IIIII)I"⟩
abbrev cX11_isOf : ByteArray := prog_13_method_127_code
def yX11_isOf : MethodName := ⟨RX11, "isOf", "(III)Z"⟩
abbrev cX11_reads : ByteArray := prog_13_method_128_code
def yX11_reads : MethodName := ⟨RX11, "reads", "()V"⟩
abbrev cX11_must : ByteArray := prog_13_method_129_code
def yX11_must : MethodName := ⟨RX11, "must", "(ZI)V"⟩
abbrev cX11_isWord : ByteArray := prog_13_method_130_code
def yX11_isWord : MethodName := ⟨RX11, "isWord", "(I)Z"⟩
abbrev cX11_isSign : ByteArray := prog_13_method_131_code
def yX11_isSign : MethodName := ⟨RX11, "isSign", "(C)Z"⟩
abbrev cX11_takes : ByteArray := prog_13_method_132_code
def yX11_takes : MethodName := ⟨RX11, "takes", "(Z)V"⟩
abbrev cX11_needsNumber : ByteArray := prog_13_method_133_code
def yX11_needsNumber : MethodName := ⟨RX11, "needsNumber", "(II)V"⟩
abbrev cX11_takesNumber : ByteArray := prog_13_method_134_code
def yX11_takesNumber : MethodName := ⟨RX11, "takesNumber", "(II)I"⟩
abbrev cX11_readsSwitch : ByteArray := prog_13_method_135_code
def yX11_readsSwitch : MethodName := ⟨RX11, "readsSwitch", "()V"⟩
abbrev cX11_readsBobbin : ByteArray := prog_13_method_136_code
def yX11_readsBobbin : MethodName := ⟨RX11, "readsBobbin", "()V"⟩
abbrev cX11_readsStuck : ByteArray := prog_13_method_137_code
def yX11_readsStuck : MethodName := ⟨RX11, "readsStuck", "()V"⟩
abbrev cX11_readsFree : ByteArray := prog_13_method_138_code
def yX11_readsFree : MethodName := ⟨RX11, "readsFree", "()V"⟩
abbrev cX11_readsPlace : ByteArray := prog_13_method_139_code
def yX11_readsPlace : MethodName := ⟨RX11, "readsPlace", "()V"⟩
abbrev cX11_readsWord : ByteArray := prog_13_method_140_code
def yX11_readsWord : MethodName := ⟨RX11, "readsWord", "()V"⟩
abbrev cX11_line : ByteArray := prog_13_method_141_code
def yX11_line : MethodName := ⟨RX11, "line", "()V"⟩
abbrev cX11_readsAll : ByteArray := prog_13_method_142_code
def yX11_readsAll : MethodName := ⟨RX11, "readsAll", "()V"⟩
abbrev cX11_load : ByteArray := prog_13_method_143_code
def yX11_load : MethodName := ⟨RX11, "load", "(I)I"⟩
abbrev cX11_fault : ByteArray := prog_13_method_144_code
def yX11_fault : MethodName := ⟨RX11, "fault", "(I)I"⟩
abbrev cX11_tells : ByteArray := prog_13_method_145_code
def yX11_tells : MethodName := ⟨RX11, "tells", "(I)V"⟩
abbrev cX11_says : ByteArray := prog_13_method_146_code
def yX11_says : MethodName := ⟨RX11, "says", "(Ljava/lang/String;)V"⟩
abbrev cX11_saysNumber : ByteArray := prog_13_method_147_code
def yX11_saysNumber : MethodName := ⟨RX11, "saysNumber", "(I)V"⟩
abbrev cX11_saysLine : ByteArray := prog_13_method_148_code
def yX11_saysLine : MethodName := ⟨RX11, "saysLine", "(Ljava/lang/String;I)V"⟩
abbrev cX11_saysSwitches : ByteArray := prog_13_method_149_code
def yX11_saysSwitches : MethodName := ⟨RX11, "saysSwitches", "()V"⟩
abbrev cX11_saysWord : ByteArray := prog_13_method_150_code
def yX11_saysWord : MethodName := ⟨RX11, "saysWord", "()V"⟩
abbrev cX11_saysAll : ByteArray := prog_13_method_151_code
def yX11_saysAll : MethodName := ⟨RX11, "saysAll", "()V"⟩
abbrev cX11_print : ByteArray := prog_13_method_152_code
def yX11_print : MethodName := ⟨RX11, "print", "()I"⟩
abbrev cX11_out : ByteArray := prog_13_method_153_code
def yX11_out : MethodName := ⟨RX11, "out", "(I)I"⟩
def RJ9 : String := "java/lang/Math"
abbrev cJ9_floorMod_7cf53 : ByteArray := prog_14_method_50_code
def yJ9_floorMod_7cf53 : MethodName := ⟨RJ9, "floorMod", "(II)I"⟩
abbrev cJ9_abs_0f7a4 : ByteArray := prog_14_method_59_code
def yJ9_abs_0f7a4 : MethodName := ⟨RJ9, "abs", "(I)I"⟩
abbrev cJ9_abs_067f4 : ByteArray := prog_14_method_61_code
def yJ9_abs_067f4 : MethodName := ⟨RJ9, "abs", "(J)J"⟩
abbrev cJ9_max_7cf53 : ByteArray := prog_14_method_65_code
def yJ9_max_7cf53 : MethodName := ⟨RJ9, "max", "(II)I"⟩
abbrev cJ9_min_7cf53 : ByteArray := prog_14_method_69_code
def yJ9_min_7cf53 : MethodName := ⟨RJ9, "min", "(II)I"⟩
def RJ0 : String := "java/lang/String"
abbrev cJ0_length_8abf5 : ByteArray := prog_15_method_54_code
def yJ0_length_8abf5 : MethodName := ⟨RJ0, "length", "()I"⟩
abbrev cJ0_charAt_5068e : ByteArray := prog_15_method_56_code
def yJ0_charAt_5068e : MethodName := ⟨RJ0, "charAt", "(I)C"⟩
abbrev cJ0_coder_7d493 : ByteArray := prog_15_method_152_code
def yJ0_coder_7d493 : MethodName := ⟨RJ0, "coder", "()B"⟩
abbrev cJ0_isLatin1_aae02 : ByteArray := prog_15_method_154_code
def yJ0_isLatin1_aae02 : MethodName := ⟨RJ0, "isLatin1", "()Z"⟩
abbrev cJ0_checkIndex_df160 : ByteArray := prog_15_method_155_code
def yJ0_checkIndex_df160 : MethodName := ⟨RJ0, "checkIndex", "(II)V"⟩
def RJ1 : String := "java/lang/StringLatin1"
abbrev cJ1_charAt_3b067 : ByteArray := prog_16_method_2_code
def yJ1_charAt_3b067 : MethodName := ⟨RJ1, "charAt", "([BI)C"⟩
def RJ2 : String := "java/lang/StringUTF16"
abbrev cJ2_getChar_3b067 : ByteArray := prog_17_method_5_code
def yJ2_getChar_3b067 : MethodName := ⟨RJ2, "getChar", "([BI)C"⟩
abbrev cJ2_length_9d52b : ByteArray := prog_17_method_6_code
def yJ2_length_9d52b : MethodName := ⟨RJ2, "length", "([B)I"⟩
abbrev cJ2_charAt_3b067 : ByteArray := prog_17_method_83_code
def yJ2_charAt_3b067 : MethodName := ⟨RJ2, "charAt", "([BI)C"⟩
abbrev cJ2_checkIndex_2214a : ByteArray := prog_17_method_91_code
def yJ2_checkIndex_2214a : MethodName := ⟨RJ2, "checkIndex", "(I[B)V"⟩
def RJ3 : String := "jdk/internal/util/Preconditions"
abbrev cJ3_checkIndex_8e157 : ByteArray := prog_18_method_11_code
def yJ3_checkIndex_8e157 : MethodName := ⟨RJ3, "checkIndex", "(IILjava/util/function/BiFunction;)I"⟩
def RL : String := "HornBraiderLaw"
abbrev cL_law : ByteArray := code
def yL_law : MethodName := ⟨RL, "law", "([I)Z"⟩
abbrev vwCl : List vw_C := [(RX0, TX0, 3), (RX1, TX1, 11), (RX2, TX2, 6), (RX3, TX3, 10), (RX4, TX4, 4), (RX5, TX5, 9), (RX6, TX6, 7), (RX7, TX7, 11), (RX8, TX8, 4), (RX9, TX9, 2), (RX10, TX10, 13), (RX11, TX11, 49)]
/-- each method: its name, its code, its answer, its class -/
abbrev zMe : Type := MethodName × ByteArray × Option FieldType × String
noncomputable def zMeth0 : List zMe := [(yL_law, cL_law, some .boolean, RL), (yX0_init, cX0_init, none, RX0), (yX0_begin, cX0_begin, none, RX0), (yX0_follow, cX0_follow, none, RX0), (yX0_followBack, cX0_followBack, none, RX0), (yX0_act, cX0_act, none, RX0), (yX0_wipe, cX0_wipe, none, RX0), (yX0_addTo, cX0_addTo, none, RX0)]
noncomputable def zMeth1 : List zMe := [(yX0_addUpper, cX0_addUpper, none, RX0), (yX0_addLower, cX0_addLower, none, RX0), (yX0_isBelowZero, cX0_isBelowZero, some .boolean, RX0), (yX0_swap, cX0_swap, none, RX0), (yX0_isBig, cX0_isBig, some .boolean, RX0), (yX0_widen, cX0_widen, none, RX0), (yX0_matches, cX0_matches, some .boolean, RX0), (yX1_init, cX1_init, none, RX1)]
noncomputable def zMeth2 : List zMe := [(yX1_build, cX1_build, none, RX1), (yX1_slotOf, cX1_slotOf, some .int, RX1), (yX1_buildWheel, cX1_buildWheel, none, RX1), (yX1_join, cX1_join, none, RX1), (yX1_rank, cX1_rank, some .int, RX1), (yX1_moved, cX1_moved, some .int, RX1), (yX2_init, cX2_init, none, RX2), (yX2_work, cX2_work, none, RX2)]
noncomputable def zMeth3 : List zMe := [(yX2_workBehind, cX2_workBehind, none, RX2), (yX2_keep, cX2_keep, none, RX2), (yX2_member, cX2_member, some .int, RX2), (yX2_explains, cX2_explains, some .boolean, RX2), (yX2_heldOpen, cX2_heldOpen, some .int, RX2), (yX2_heldShut, cX2_heldShut, some .int, RX2), (yX3_init, cX3_init, none, RX3), (yX3_clear, cX3_clear, none, RX3)]
noncomputable def zMeth4 : List zMe := [(yX3_addBobbin, cX3_addBobbin, none, RX3), (yX3_dropBobbin, cX3_dropBobbin, none, RX3), (yX3_hasStartAt, cX3_hasStartAt, some .boolean, RX3), (yX3_countFree, cX3_countFree, some .int, RX3), (yX3_countStuck, cX3_countStuck, some .int, RX3), (yX3_period, cX3_period, some .int, RX3), (yX3_tellsOpen, cX3_tellsOpen, some .boolean, RX3), (yX3_opens, cX3_opens, some .boolean, RX3)]
noncomputable def zMeth5 : List zMe := [(yX3_fillOpen, cX3_fillOpen, none, RX3), (yX3_fillPrograms, cX3_fillPrograms, none, RX3), (yX3_opened, cX3_opened, some .int, RX3), (yX3_shut, cX3_shut, some .int, RX3), (yX3_heldBy, cX3_heldBy, some .int, RX3), (yX4_init, cX4_init, none, RX4), (yX4_write, cX4_write, some .boolean, RX4), (yX4_writeAll, cX4_writeAll, none, RX4)]
noncomputable def zMeth6 : List zMe := [(yX4_writeSwitches, cX4_writeSwitches, none, RX4), (yX4_writeStuck, cX4_writeStuck, none, RX4), (yX4_writeFree, cX4_writeFree, none, RX4), (yX4_writePlaces, cX4_writePlaces, none, RX4), (yX4_writeWished, cX4_writeWished, none, RX4), (yX4_writeText, cX4_writeText, none, RX4), (yX4_writeNumber, cX4_writeNumber, none, RX4), (yX4_writeByte, cX4_writeByte, none, RX4)]
noncomputable def zMeth7 : List zMe := [(yX5_init, cX5_init, none, RX5), (yX5_append, cX5_append, none, RX5), (yX5_readAll, cX5_readAll, some .boolean, RX5), (yX5_fail, cX5_fail, some .boolean, RX5), (yX5_readSize, cX5_readSize, some .boolean, RX5), (yX5_readLine, cX5_readLine, some .boolean, RX5), (yX5_readSwitch, cX5_readSwitch, some .boolean, RX5), (yX5_readBobbin, cX5_readBobbin, some .boolean, RX5)]
noncomputable def zMeth8 : List zMe := [(yX5_readStuck, cX5_readStuck, some .boolean, RX5), (yX5_readFree, cX5_readFree, some .boolean, RX5), (yX5_readPlace, cX5_readPlace, some .boolean, RX5), (yX5_readWished, cX5_readWished, some .boolean, RX5), (yX5_takeSemicolon, cX5_takeSemicolon, some .boolean, RX5), (yX5_takeNumber, cX5_takeNumber, some .boolean, RX5), (yX5_isNumber, cX5_isNumber, some .boolean, RX5), (yX5_misfit, cX5_misfit, some .int, RX5)]
noncomputable def zMeth9 : List zMe := [(yX5_isWord, cX5_isWord, some .boolean, RX5), (yX5_advance, cX5_advance, none, RX5), (yX5_weighNumber, cX5_weighNumber, none, RX5), (yX5_kindOf, cX5_kindOf, some .int, RX5), (yX6_init, cX6_init, none, RX6), (yX6_lay, cX6_lay, none, RX6), (yX6_markTrack, cX6_markTrack, none, RX6), (yX6_countTracks, cX6_countTracks, some .int, RX6)]
noncomputable def zMeth10 : List zMe := [(yX6_greatestLength, cX6_greatestLength, some .int, RX6), (yX6_allHome, cX6_allHome, some .long, RX6), (yX6_findFoes, cX6_findFoes, none, RX6), (yX6_markFoes, cX6_markFoes, none, RX6), (yX6_areFoes, cX6_areFoes, some .boolean, RX6), (yX7_init, cX7_init, none, RX7), (yX7_begin, cX7_begin, none, RX7), (yX7_enterLine, cX7_enterLine, none, RX7)]
noncomputable def zMeth11 : List zMe := [(yX7_copyPlaces, cX7_copyPlaces, none, RX7), (yX7_bobbinIn, cX7_bobbinIn, some .int, RX7), (yX7_standOf, cX7_standOf, some .int, RX7), (yX7_turnAll, cX7_turnAll, some .boolean, RX7), (yX7_leastClash, cX7_leastClash, some .int, RX7), (yX7_weave, cX7_weave, none, RX7), (yX7_exchange, cX7_exchange, none, RX7), (yX7_isInFront, cX7_isInFront, some .boolean, RX7)]
noncomputable def zMeth12 : List zMe := [(yX7_settle, cX7_settle, none, RX7), (yX7_keepWoven, cX7_keepWoven, none, RX7), (yX7_runAll, cX7_runAll, some .boolean, RX7), (yX7_chase, cX7_chase, none, RX7), (yX7_firstTurnedTo, cX7_firstTurnedTo, some .int, RX7), (yX8_init, cX8_init, none, RX8), (yX8_add, cX8_add, none, RX8), (yX8_drop, cX8_drop, none, RX8)]
noncomputable def zMeth13 : List zMe := [(yX8_latest, cX8_latest, some .int, RX8), (yX8_agree, cX8_agree, some .boolean, RX8), (yX9_init, cX9_init, none, RX9), (yX9_add, cX9_add, none, RX9), (yX9_kept, cX9_kept, some .int, RX9), (yX9_fits, cX9_fits, some .boolean, RX9), (yX9_balance, cX9_balance, some .int, RX9), (yX9_passed, cX9_passed, some .int, RX9)]
noncomputable def zMeth14 : List zMe := [(yX9_endOf, cX9_endOf, some .int, RX9), (yX9_loops, cX9_loops, some .int, RX9), (yX9_changesOf, cX9_changesOf, some .int, RX9), (yX9_partsOf, cX9_partsOf, some .int, RX9), (yX9_greatestPlaceOf, cX9_greatestPlaceOf, some .int, RX9), (yX9_leastPlaceOf, cX9_leastPlaceOf, some .int, RX9), (yX10_init, cX10_init, none, RX10), (yX10_status, cX10_status, some .int, RX10)]
noncomputable def zMeth15 : List zMe := [(yX10_feed, cX10_feed, some .int, RX10), (yX10_load, cX10_load, some .int, RX10), (yX10_fault, cX10_fault, some .int, RX10), (yX10_many, cX10_many, some .int, RX10), (yX10_gate, cX10_gate, some .int, RX10), (yX10_bit, cX10_bit, some .int, RX10), (yX10_bobbin, cX10_bobbin, some .int, RX10), (yX10_at, cX10_at, some .int, RX10)]
noncomputable def zMeth16 : List zMe := [(yX10_faces, cX10_faces, some .int, RX10), (yX10_program, cX10_program, some .int, RX10), (yX10_stick, cX10_stick, some .int, RX10), (yX10_free, cX10_free, some .int, RX10), (yX10_put, cX10_put, some .int, RX10), (yX10_take, cX10_take, some .int, RX10), (yX10_wish, cX10_wish, some .int, RX10), (yX10_step, cX10_step, some .int, RX10)]
noncomputable def zMeth17 : List zMe := [(yX10_reset, cX10_reset, some .int, RX10), (yX10_cut, cX10_cut, some .int, RX10), (yX10_print, cX10_print, some .int, RX10), (yX10_out, cX10_out, some .int, RX10), (yX10_map, cX10_map, some .int, RX10), (yX10_ride, cX10_ride, some .int, RX10), (yX10_round, cX10_round, some .int, RX10), (yX10_track, cX10_track, some .int, RX10)]
noncomputable def zMeth18 : List zMe := [(yX10_tracks, cX10_tracks, some .int, RX10), (yX10_ofLength, cX10_ofLength, some .int, RX10), (yX10_meets, cX10_meets, some .int, RX10), (yX10_crash, cX10_crash, some .int, RX10), (yX10_repeat, cX10_repeat, some .int, RX10), (yX10_laid, cX10_laid, some .int, RX10), (yX10_letter, cX10_letter, some .int, RX10), (yX10_wished, cX10_wished, some .int, RX10)]
noncomputable def zMeth19 : List zMe := [(yX10_braid, cX10_braid, some .int, RX10), (yX10_ends, cX10_ends, some .int, RX10), (yX10_pair, cX10_pair, some .int, RX10), (yX10_thread, cX10_thread, some .int, RX10), (yX10_times, cX10_times, some .int, RX10), (yX10_search, cX10_search, some .int, RX10), (yX10_refusal, cX10_refusal, some .int, RX10), (yX10_refused, cX10_refused, some .int, RX10)]
noncomputable def zMeth20 : List zMe := [(yX10_seen, cX10_seen, some .int, RX10), (yX10_forget, cX10_forget, some .int, RX10), (yX10_name, cX10_name, some .int, RX10), (yX10_named, cX10_named, some .int, RX10), (yX10_give, cX10_give, some .int, RX10), (yX10_refuse, cX10_refuse, some .int, RX10), (yX10_hasSwitch, cX10_hasSwitch, some .boolean, RX10), (yX10_hasSlot, cX10_hasSlot, some .boolean, RX10)]
noncomputable def zMeth21 : List zMe := [(yX10_hasBobbin, cX10_hasBobbin, some .boolean, RX10), (yX10_hasPlace, cX10_hasPlace, some .boolean, RX10), (yX10_advance, cX10_advance, some .int, RX10), (yX10_layRounds, cX10_layRounds, none, RX10), (yX10_startsOnTrack, cX10_startsOnTrack, some .int, RX10), (yX10_foesAmongBobbins, cX10_foesAmongBobbins, some .boolean, RX10), (yX10_kthLaid, cX10_kthLaid, some .int, RX10), (yX10_fitsLaid, cX10_fitsLaid, some .boolean, RX10)]
noncomputable def zMeth22 : List zMe := [(yX10_letterOf, cX10_letterOf, some .int, RX10), (yX10_isEmptyBraid, cX10_isEmptyBraid, some .boolean, RX10), (yX10_isWishedBraid, cX10_isWishedBraid, some .boolean, RX10), (yX10_isMirrored, cX10_isMirrored, some .boolean, RX10), (yX10_isBackwards, cX10_isBackwards, some .boolean, RX10), (yX10_isEitherWayRound, cX10_isEitherWayRound, some .boolean, RX10), (yX10_prepareSearch, cX10_prepareSearch, none, RX10), (yX10_whyRefused, cX10_whyRefused, some .int, RX10)]
noncomputable def zMeth23 : List zMe := [(yX10_firstMisplaced, cX10_firstMisplaced, some .int, RX10), (yX10_trialMatchesWished, cX10_trialMatchesWished, some .boolean, RX10), (yX10_phase, cX10_phase, some .int, RX10), (yX10_leastCommon, cX10_leastCommon, some .long, RX10), (yX11_init, cX11_init, none, RX11), (yX11_status, cX11_status, some .int, RX11), (yX11_refuse, cX11_refuse, some .int, RX11), (yX11_is, cX11_is, some .boolean, RX11)]
noncomputable def zMeth24 : List zMe := [(yX11_isIn, cX11_isIn, some .boolean, RX11), (yX11_clears, cX11_clears, none, RX11), (yX11_slots, cX11_slots, some .int, RX11), (yX11_across, cX11_across, some .int, RX11), (yX11_gates, cX11_gates, some .int, RX11), (yX11_isSlot, cX11_isSlot, some .boolean, RX11), (yX11_isGate, cX11_isGate, some .boolean, RX11), (yX11_isBobbin, cX11_isBobbin, some .boolean, RX11)]
noncomputable def zMeth25 : List zMe := [(yX11_firstOf, cX11_firstOf, some .int, RX11), (yX11_secondOf, cX11_secondOf, some .int, RX11), (yX11_gateAt, cX11_gateAt, some .int, RX11), (yX11_facing, cX11_facing, some .int, RX11), (yX11_turned, cX11_turned, some .int, RX11), (yX11_xOf, cX11_xOf, some .int, RX11), (yX11_yOf, cX11_yOf, some .int, RX11), (yX11_isAhead, cX11_isAhead, some .boolean, RX11)]
noncomputable def zMeth26 : List zMe := [(yX11_howStuck, cX11_howStuck, some .int, RX11), (yX11_freeNumber, cX11_freeNumber, some .int, RX11), (yX11_isOpen, cX11_isOpen, some .boolean, RX11), (yX11_over, cX11_over, some .int, RX11), (yX11_mapped, cX11_mapped, some .int, RX11), (yX11_common, cX11_common, some .int, RX11), (yX11_multiple, cX11_multiple, some .int, RX11), (yX11_period, cX11_period, some .int, RX11)]
noncomputable def zMeth27 : List zMe := [(yX11_rounded, cX11_rounded, some .int, RX11), (yX11_lengthOf, cX11_lengthOf, some .int, RX11), (yX11_meeting, cX11_meeting, some .int, RX11), (yX11_tries, cX11_tries, some .boolean, RX11), (yX11_isInFront, cX11_isInFront, some .boolean, RX11), (yX11_stands, cX11_stands, none, RX11), (yX11_spells, cX11_spells, none, RX11), (yX11_spellsStep, cX11_spellsStep, none, RX11)]
noncomputable def zMeth28 : List zMe := [(yX11_goes, cX11_goes, none, RX11), (yX11_begins, cX11_begins, none, RX11), (yX11_goesTo, cX11_goesTo, some .int, RX11), (yX11_lays, cX11_lays, none, RX11), (yX11_isBegun, cX11_isBegun, some .boolean, RX11), (yX11_comesFrom, cX11_comesFrom, some .int, RX11), (yX11_isEnded, cX11_isEnded, some .boolean, RX11), (yX11_isNothing, cX11_isNothing, some .boolean, RX11)]
noncomputable def zMeth29 : List zMe := [(yX11_isHalfTurn, cX11_isHalfTurn, some .boolean, RX11), (yX11_shares, cX11_shares, some .boolean, RX11), (yX11_leavesOut, cX11_leavesOut, none, RX11), (yX11_mirrors, cX11_mirrors, none, RX11), (yX11_settles, cX11_settles, none, RX11), (yX11_joins, cX11_joins, none, RX11), (yX11_beginsBraid, cX11_beginsBraid, none, RX11), (yX11_isNoBraid, cX11_isNoBraid, some .boolean, RX11)]
noncomputable def zMeth30 : List zMe := [(yX11_joinsWord, cX11_joinsWord, none, RX11), (yX11_joinsWished, cX11_joinsWished, none, RX11), (yX11_unjoinsWished, cX11_unjoinsWished, none, RX11), (yX11_unjoinsWord, cX11_unjoinsWord, none, RX11), (yX11_canBeWished, cX11_canBeWished, some .boolean, RX11), (yX11_isWishedAgain, cX11_isWishedAgain, some .boolean, RX11), (yX11_isItselfSo, cX11_isItselfSo, some .boolean, RX11), (yX11_goEitherWay, cX11_goEitherWay, some .boolean, RX11)]
noncomputable def zMeth31 : List zMe := [(yX11_beginsThreads, cX11_beginsThreads, none, RX11), (yX11_placeOf, cX11_placeOf, some .int, RX11), (yX11_crosses, cX11_crosses, none, RX11), (yX11_loops, cX11_loops, some .int, RX11), (yX11_twist, cX11_twist, some .int, RX11), (yX11_braid, cX11_braid, some .int, RX11), (yX11_isPlace, cX11_isPlace, some .boolean, RX11), (yX11_ends, cX11_ends, some .int, RX11)]
noncomputable def zMeth32 : List zMe := [(yX11_pair, cX11_pair, some .int, RX11), (yX11_thread, cX11_thread, some .int, RX11), (yX11_times, cX11_times, some .int, RX11), (yX11_letter, cX11_letter, some .int, RX11), (yX11_wished, cX11_wished, some .int, RX11), (yX11_counted, cX11_counted, some .int, RX11), (yX11_many, cX11_many, some .int, RX11), (yX11_gate, cX11_gate, some .int, RX11)]
noncomputable def zMeth33 : List zMe := [(yX11_bit, cX11_bit, some .int, RX11), (yX11_standing, cX11_standing, some .int, RX11), (yX11_bobbin, cX11_bobbin, some .int, RX11), (yX11_bobbinIn, cX11_bobbinIn, some .int, RX11), (yX11_at, cX11_at, some .int, RX11), (yX11_faces, cX11_faces, some .int, RX11), (yX11_program, cX11_program, some .int, RX11), (yX11_stick, cX11_stick, some .int, RX11)]
noncomputable def zMeth34 : List zMe := [(yX11_free, cX11_free, some .int, RX11), (yX11_isTakenStart, cX11_isTakenStart, some .boolean, RX11), (yX11_comesNew, cX11_comesNew, some .int, RX11), (yX11_put, cX11_put, some .int, RX11), (yX11_take, cX11_take, some .int, RX11), (yX11_wish, cX11_wish, some .int, RX11), (yX11_standsNow, cX11_standsNow, none, RX11), (yX11_step, cX11_step, some .int, RX11)]
noncomputable def zMeth35 : List zMe := [(yX11_reset, cX11_reset, some .int, RX11), (yX11_cut, cX11_cut, some .int, RX11), (yX11_map, cX11_map, some .int, RX11), (yX11_ride, cX11_ride, some .int, RX11), (yX11_round, cX11_round, some .int, RX11), (yX11_leastOf, cX11_leastOf, some .int, RX11), (yX11_startsIn, cX11_startsIn, some .int, RX11), (yX11_track, cX11_track, some .int, RX11)]
noncomputable def zMeth36 : List zMe := [(yX11_tracks, cX11_tracks, some .int, RX11), (yX11_ofLength, cX11_ofLength, some .int, RX11), (yX11_meetsFrom, cX11_meetsFrom, some .int, RX11), (yX11_meets, cX11_meets, some .int, RX11), (yX11_crash, cX11_crash, some .int, RX11), (yX11_repeat, cX11_repeat, some .int, RX11), (yX11_laid, cX11_laid, some .int, RX11), (yX11_settings, cX11_settings, some .int, RX11)]
noncomputable def zMeth37 : List zMe := [(yX11_isSpelledWished, cX11_isSpelledWished, some .boolean, RX11), (yX11_whyOf, cX11_whyOf, some .int, RX11), (yX11_isSearch, cX11_isSearch, some .boolean, RX11), (yX11_search, cX11_search, some .int, RX11), (yX11_refusal, cX11_refusal, some .int, RX11), (yX11_refused, cX11_refused, some .int, RX11), (yX11_seen, cX11_seen, some .int, RX11), (yX11_forget, cX11_forget, some .int, RX11)]
noncomputable def zMeth38 : List zMe := [(yX11_isSeenSo, cX11_isSeenSo, some .boolean, RX11), (yX11_latestSeen, cX11_latestSeen, some .int, RX11), (yX11_doesExplain, cX11_doesExplain, some .boolean, RX11), (yX11_names, cX11_names, none, RX11), (yX11_seeks, cX11_seeks, none, RX11), (yX11_name, cX11_name, some .int, RX11), (yX11_named, cX11_named, some .int, RX11), (yX11_puts, cX11_puts, none, RX11)]
noncomputable def zMeth39 : List zMe := [(yX11_feed, cX11_feed, some .int, RX11), (yX11_isOf, cX11_isOf, some .boolean, RX11), (yX11_reads, cX11_reads, none, RX11), (yX11_must, cX11_must, none, RX11), (yX11_isWord, cX11_isWord, some .boolean, RX11), (yX11_isSign, cX11_isSign, some .boolean, RX11), (yX11_takes, cX11_takes, none, RX11), (yX11_needsNumber, cX11_needsNumber, none, RX11)]
noncomputable def zMeth40 : List zMe := [(yX11_takesNumber, cX11_takesNumber, some .int, RX11), (yX11_readsSwitch, cX11_readsSwitch, none, RX11), (yX11_readsBobbin, cX11_readsBobbin, none, RX11), (yX11_readsStuck, cX11_readsStuck, none, RX11), (yX11_readsFree, cX11_readsFree, none, RX11), (yX11_readsPlace, cX11_readsPlace, none, RX11), (yX11_readsWord, cX11_readsWord, none, RX11), (yX11_line, cX11_line, none, RX11)]
noncomputable def zMeth41 : List zMe := [(yX11_readsAll, cX11_readsAll, none, RX11), (yX11_load, cX11_load, some .int, RX11), (yX11_fault, cX11_fault, some .int, RX11), (yX11_tells, cX11_tells, none, RX11), (yX11_says, cX11_says, none, RX11), (yX11_saysNumber, cX11_saysNumber, none, RX11), (yX11_saysLine, cX11_saysLine, none, RX11), (yX11_saysSwitches, cX11_saysSwitches, none, RX11)]
noncomputable def zMeth42 : List zMe := [(yX11_saysWord, cX11_saysWord, none, RX11), (yX11_saysAll, cX11_saysAll, none, RX11), (yX11_print, cX11_print, some .int, RX11), (yX11_out, cX11_out, some .int, RX11), (yJ9_floorMod_7cf53, cJ9_floorMod_7cf53, some .int, RJ9), (yJ9_abs_0f7a4, cJ9_abs_0f7a4, some .int, RJ9), (yJ9_abs_067f4, cJ9_abs_067f4, some .long, RJ9), (yJ9_max_7cf53, cJ9_max_7cf53, some .int, RJ9)]
noncomputable def zMeth43 : List zMe := [(yJ9_min_7cf53, cJ9_min_7cf53, some .int, RJ9), (yJ0_length_8abf5, cJ0_length_8abf5, some .int, RJ0), (yJ0_charAt_5068e, cJ0_charAt_5068e, some .char, RJ0), (yJ0_coder_7d493, cJ0_coder_7d493, some .byte, RJ0), (yJ0_isLatin1_aae02, cJ0_isLatin1_aae02, some .boolean, RJ0), (yJ0_checkIndex_df160, cJ0_checkIndex_df160, none, RJ0), (yJ1_charAt_3b067, cJ1_charAt_3b067, some .char, RJ1), (yJ2_getChar_3b067, cJ2_getChar_3b067, some .char, RJ2)]
noncomputable def zMeth44 : List zMe := [(yJ2_length_9d52b, cJ2_length_9d52b, some .int, RJ2), (yJ2_charAt_3b067, cJ2_charAt_3b067, some .char, RJ2), (yJ2_checkIndex_2214a, cJ2_checkIndex_2214a, none, RJ2), (yJ3_checkIndex_8e157, cJ3_checkIndex_8e157, some .int, RJ3)]
noncomputable def zMeth : List (List (List zMe)) := [[zMeth0, zMeth1, zMeth2, zMeth3, zMeth4, zMeth5, zMeth6, zMeth7], [zMeth8, zMeth9, zMeth10, zMeth11, zMeth12, zMeth13, zMeth14, zMeth15], [zMeth16, zMeth17, zMeth18, zMeth19, zMeth20, zMeth21, zMeth22, zMeth23], [zMeth24, zMeth25, zMeth26, zMeth27, zMeth28, zMeth29, zMeth30, zMeth31], [zMeth32, zMeth33, zMeth34, zMeth35, zMeth36, zMeth37, zMeth38, zMeth39], [zMeth40, zMeth41, zMeth42, zMeth43, zMeth44]]
/-- classes by their numbers -/
def zcn (c : Nat) : String := match c with
  | 0 => RX0
  | 1 => RX1
  | 2 => RX2
  | 3 => RX3
  | 4 => RX4
  | 5 => RX5
  | 6 => RX6
  | 7 => RX7
  | 8 => RX8
  | 9 => RX9
  | 10 => RX10
  | 11 => RX11
  | 12 => RJ9
  | 13 => RJ0
  | 14 => RJ1
  | 15 => RJ2
  | 16 => RJ3
  | _ => RL
def zTX (c : Nat) : u_T := match c with
  | 0 => TX0
  | 1 => TX1
  | 2 => TX2
  | 3 => TX3
  | 4 => TX4
  | 5 => TX5
  | 6 => TX6
  | 7 => TX7
  | 8 => TX8
  | 9 => TX9
  | 10 => TX10
  | _ => TX11
def ztyX (c : Nat) : Nat → FieldType := match c with
  | 0 => tyX0
  | 1 => tyX1
  | 2 => tyX2
  | 3 => tyX3
  | 4 => tyX4
  | 5 => tyX5
  | 6 => tyX6
  | 7 => tyX7
  | 8 => tyX8
  | 9 => tyX9
  | 10 => tyX10
  | _ => tyX11
/-- the texts: class and entry of the pool, and the text -/
def zskey (i : Nat) : String × Nat × String := match i with
  | 0 => (RX5, 47, "size")
  | 1 => (RX5, 77, "switch")
  | 2 => (RX5, 82, "bobbin")
  | 3 => (RX5, 87, "stuck")
  | 4 => (RX5, 138, "open")
  | 5 => (RX5, 142, "shut")
  | 6 => (RX5, 92, "free")
  | 7 => (RX5, 97, "place")
  | 8 => (RX5, 101, "word")
  | 9 => (RX4, 30, "size")
  | 10 => (RX4, 53, ";")
  | 11 => (RX4, 96, "switch")
  | 12 => (RX4, 61, "bobbin")
  | 13 => (RX4, 101, "stuck")
  | 14 => (RX4, 102, " open;")
  | 15 => (RX4, 104, " shut;")
  | 16 => (RX4, 110, "free")
  | 17 => (RX4, 115, "place")
  | 18 => (RX4, 117, "word")
  | 19 => (RX4, 128, " -")
  | 20 => (RX11, 521, "size")
  | 21 => (RX11, 515, "switch")
  | 22 => (RX11, 526, "bobbin")
  | 23 => (RX11, 532, "stuck")
  | 24 => (RX11, 534, " open;")
  | 25 => (RX11, 536, " shut;")
  | 26 => (RX11, 538, "free")
  | 27 => (RX11, 540, "place")
  | 28 => (RX11, 517, "word")
  | _ => (RX11, 519, " -")
/-- words by their pieces: 0 those of the private methods, then those of the tables -/
def zchunk (k : Nat) : List Cond := match k with
  | 0 => k2_sels lw_privs
  | 1 => tables_1_1
  | 2 => tables_1_2
  | 3 => tables_1_3
  | 4 => tables_1_4
  | 5 => tables_1_5
  | 6 => tables_1_6
  | 7 => tables_1_7
  | 8 => tables_1_8
  | _ => tables_1_9
def zwd (p : Nat) : Option Cond := (zchunk (p / 1000))[p % 1000]?
theorem zchunk_mem (k : Nat) : ∀ w ∈ zchunk k, w ∈ lw_tbl := by
  intro w hw
  unfold zchunk at hw
  unfold lw_tbl tables_1
  simp only [List.mem_append]
  split at hw <;> simp [hw]
theorem zwd_mem {p : Nat} {w : Cond} (h : zwd p = some w) : w ∈ lw_tbl := zchunk_mem _ w (List.mem_of_getElem? h)
