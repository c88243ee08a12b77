section
-- ===== PART A: goes FIRST, ahead of the names: the tables' words, and 'selects' of the private methods out of them =====
/-- a private method of a class that the tables say can be made, by its rows of tables_1 -/
def lw_okq (q : MethodName × Nat) : Prop := (q.1.cls ≠ "java/lang/invoke/MethodHandle" ∧ q.1.cls ≠ "java/lang/invoke/VarHandle") ∧ Cond.instantiable q.1.cls q.2 ∈ tables_1 ∧ Cond.privateMethod q.1 ∈ tables_1 ∧ Cond.instanceMethod q.1 ∈ tables_1
theorem lw_p0 : lw_okq (⟨"NineActs$Script", "advance", "()V"⟩, 6) := ⟨⟨by decide +kernel, by decide +kernel⟩, List.mem_of_getElem? (i := 25) (by decide +kernel), List.mem_of_getElem? (i := 364) (by decide +kernel), List.mem_of_getElem? (i := 365) (by decide +kernel)⟩
theorem lw_p1 : lw_okq (⟨"NineActs$Script", "readWord", "()V"⟩, 6) := ⟨⟨by decide +kernel, by decide +kernel⟩, List.mem_of_getElem? (i := 25) (by decide +kernel), List.mem_of_getElem? (i := 371) (by decide +kernel), List.mem_of_getElem? (i := 372) (by decide +kernel)⟩
theorem lw_p2 : lw_okq (⟨"NineActs$Script", "spells", "(Ljava/lang/String;)Z"⟩, 6) := ⟨⟨by decide +kernel, by decide +kernel⟩, List.mem_of_getElem? (i := 25) (by decide +kernel), List.mem_of_getElem? (i := 376) (by decide +kernel), List.mem_of_getElem? (i := 377) (by decide +kernel)⟩
theorem lw_p3 : lw_okq (⟨"NineActs$Script", "readNumber", "()V"⟩, 6) := ⟨⟨by decide +kernel, by decide +kernel⟩, List.mem_of_getElem? (i := 25) (by decide +kernel), List.mem_of_getElem? (i := 437) (by decide +kernel), List.mem_of_getElem? (i := 438) (by decide +kernel)⟩
theorem lw_p4 : lw_okq (⟨"NineActs$Script", "tellAct", "(LNineActs$Cast;)Z"⟩, 6) := ⟨⟨by decide +kernel, by decide +kernel⟩, List.mem_of_getElem? (i := 25) (by decide +kernel), List.mem_of_getElem? (i := 444) (by decide +kernel), List.mem_of_getElem? (i := 445) (by decide +kernel)⟩
theorem lw_p5 : lw_okq (⟨"NineActs$Script", "tellFigures", "(LNineActs$Act;)Z"⟩, 6) := ⟨⟨by decide +kernel, by decide +kernel⟩, List.mem_of_getElem? (i := 25) (by decide +kernel), List.mem_of_getElem? (i := 452) (by decide +kernel), List.mem_of_getElem? (i := 453) (by decide +kernel)⟩
theorem lw_p6 : lw_okq (⟨"NineActs$Script", "isNumber", "(II)Z"⟩, 6) := ⟨⟨by decide +kernel, by decide +kernel⟩, List.mem_of_getElem? (i := 25) (by decide +kernel), List.mem_of_getElem? (i := 456) (by decide +kernel), List.mem_of_getElem? (i := 457) (by decide +kernel)⟩
theorem lw_p7 : lw_okq (⟨"NineActs$Script", "tellStage", "(LNineActs$Act;)Z"⟩, 6) := ⟨⟨by decide +kernel, by decide +kernel⟩, List.mem_of_getElem? (i := 25) (by decide +kernel), List.mem_of_getElem? (i := 460) (by decide +kernel), List.mem_of_getElem? (i := 461) (by decide +kernel)⟩
theorem lw_p8 : lw_okq (⟨"NineActs$Script", "tellTone", "(LNineActs$Act;)V"⟩, 6) := ⟨⟨by decide +kernel, by decide +kernel⟩, List.mem_of_getElem? (i := 25) (by decide +kernel), List.mem_of_getElem? (i := 464) (by decide +kernel), List.mem_of_getElem? (i := 465) (by decide +kernel)⟩
theorem lw_p9 : lw_okq (⟨"NineActs$Script", "tellTrain", "(LNineActs$Act;)Z"⟩, 6) := ⟨⟨by decide +kernel, by decide +kernel⟩, List.mem_of_getElem? (i := 25) (by decide +kernel), List.mem_of_getElem? (i := 468) (by decide +kernel), List.mem_of_getElem? (i := 469) (by decide +kernel)⟩
theorem lw_p10 : lw_okq (⟨"NineActs$Script", "tellFeud", "(LNineActs$Cast;)Z"⟩, 6) := ⟨⟨by decide +kernel, by decide +kernel⟩, List.mem_of_getElem? (i := 25) (by decide +kernel), List.mem_of_getElem? (i := 472) (by decide +kernel), List.mem_of_getElem? (i := 473) (by decide +kernel)⟩
theorem lw_p11 : lw_okq (⟨"NineActs", "isAct", "(I)Z"⟩, 13) := ⟨⟨by decide +kernel, by decide +kernel⟩, List.mem_of_getElem? (i := 17) (by decide +kernel), List.mem_of_getElem? (i := 493) (by decide +kernel), List.mem_of_getElem? (i := 494) (by decide +kernel)⟩
theorem lw_p12 : lw_okq (⟨"NineActs", "play", "([II)V"⟩, 13) := ⟨⟨by decide +kernel, by decide +kernel⟩, List.mem_of_getElem? (i := 17) (by decide +kernel), List.mem_of_getElem? (i := 549) (by decide +kernel), List.mem_of_getElem? (i := 550) (by decide +kernel)⟩
theorem lw_p13 : lw_okq (⟨"NineActs$Show", "pausesAhead", "(I)Z"⟩, 14) := ⟨⟨by decide +kernel, by decide +kernel⟩, List.mem_of_getElem? (i := 167) (by decide +kernel), List.mem_of_getElem? (i := 561) (by decide +kernel), List.mem_of_getElem? (i := 562) (by decide +kernel)⟩
theorem lw_p14 : lw_okq (⟨"NineActs$Show", "clapsBy", "(II)I"⟩, 14) := ⟨⟨by decide +kernel, by decide +kernel⟩, List.mem_of_getElem? (i := 167) (by decide +kernel), List.mem_of_getElem? (i := 575) (by decide +kernel), List.mem_of_getElem? (i := 576) (by decide +kernel)⟩
theorem lw_p15 : lw_okq (⟨"NineActs$Show", "fails", "(II)Z"⟩, 14) := ⟨⟨by decide +kernel, by decide +kernel⟩, List.mem_of_getElem? (i := 167) (by decide +kernel), List.mem_of_getElem? (i := 588) (by decide +kernel), List.mem_of_getElem? (i := 589) (by decide +kernel)⟩
def lw_privs_1 : List (MethodName × Nat) := [(⟨"NineActs$Script", "advance", "()V"⟩, 6), (⟨"NineActs$Script", "readWord", "()V"⟩, 6), (⟨"NineActs$Script", "spells", "(Ljava/lang/String;)Z"⟩, 6), (⟨"NineActs$Script", "readNumber", "()V"⟩, 6), (⟨"NineActs$Script", "tellAct", "(LNineActs$Cast;)Z"⟩, 6), (⟨"NineActs$Script", "tellFigures", "(LNineActs$Act;)Z"⟩, 6), (⟨"NineActs$Script", "isNumber", "(II)Z"⟩, 6), (⟨"NineActs$Script", "tellStage", "(LNineActs$Act;)Z"⟩, 6), (⟨"NineActs$Script", "tellTone", "(LNineActs$Act;)V"⟩, 6), (⟨"NineActs$Script", "tellTrain", "(LNineActs$Act;)Z"⟩, 6), (⟨"NineActs$Script", "tellFeud", "(LNineActs$Cast;)Z"⟩, 6), (⟨"NineActs", "isAct", "(I)Z"⟩, 13), (⟨"NineActs", "play", "([II)V"⟩, 13), (⟨"NineActs$Show", "pausesAhead", "(I)Z"⟩, 14), (⟨"NineActs$Show", "clapsBy", "(II)I"⟩, 14), (⟨"NineActs$Show", "fails", "(II)Z"⟩, 14)]
theorem lw_r1 : ∀ q ∈ lw_privs_1, lw_okq q := List.forall_mem_cons.mpr ⟨lw_p0, List.forall_mem_cons.mpr ⟨lw_p1, List.forall_mem_cons.mpr ⟨lw_p2, List.forall_mem_cons.mpr ⟨lw_p3, List.forall_mem_cons.mpr ⟨lw_p4, List.forall_mem_cons.mpr ⟨lw_p5, List.forall_mem_cons.mpr ⟨lw_p6, List.forall_mem_cons.mpr ⟨lw_p7, List.forall_mem_cons.mpr ⟨lw_p8, List.forall_mem_cons.mpr ⟨lw_p9, List.forall_mem_cons.mpr ⟨lw_p10, List.forall_mem_cons.mpr ⟨lw_p11, List.forall_mem_cons.mpr ⟨lw_p12, List.forall_mem_cons.mpr ⟨lw_p13, List.forall_mem_cons.mpr ⟨lw_p14, List.forall_mem_cons.mpr ⟨lw_p15, fun _ h => absurd h List.not_mem_nil⟩⟩⟩⟩⟩⟩⟩⟩⟩⟩⟩⟩⟩⟩⟩⟩
theorem lw_p16 : lw_okq (⟨"NineActs", "searchBest", "()V"⟩, 13) := ⟨⟨by decide +kernel, by decide +kernel⟩, List.mem_of_getElem? (i := 17) (by decide +kernel), List.mem_of_getElem? (i := 609) (by decide +kernel), List.mem_of_getElem? (i := 610) (by decide +kernel)⟩
theorem lw_p17 : lw_okq (⟨"NineActs", "lineUp", "(I)I"⟩, 13) := ⟨⟨by decide +kernel, by decide +kernel⟩, List.mem_of_getElem? (i := 17) (by decide +kernel), List.mem_of_getElem? (i := 613) (by decide +kernel), List.mem_of_getElem? (i := 614) (by decide +kernel)⟩
theorem lw_p18 : lw_okq (⟨"NineActs$Search", "extend", "(LNineActs$Show;IIII)V"⟩, 8) := ⟨⟨by decide +kernel, by decide +kernel⟩, List.mem_of_getElem? (i := 236) (by decide +kernel), List.mem_of_getElem? (i := 626) (by decide +kernel), List.mem_of_getElem? (i := 627) (by decide +kernel)⟩
theorem lw_p19 : lw_okq (⟨"NineActs$Search", "weigh", "(LNineActs$Show;II)V"⟩, 8) := ⟨⟨by decide +kernel, by decide +kernel⟩, List.mem_of_getElem? (i := 236) (by decide +kernel), List.mem_of_getElem? (i := 630) (by decide +kernel), List.mem_of_getElem? (i := 631) (by decide +kernel)⟩
theorem lw_p20 : lw_okq (⟨"NineActs$Search", "isBetter", "(III)Z"⟩, 8) := ⟨⟨by decide +kernel, by decide +kernel⟩, List.mem_of_getElem? (i := 236) (by decide +kernel), List.mem_of_getElem? (i := 635) (by decide +kernel), List.mem_of_getElem? (i := 636) (by decide +kernel)⟩
theorem lw_p21 : lw_okq (⟨"NineActs$Search", "attempt", "(LNineActs$Show;IIIII)V"⟩, 8) := ⟨⟨by decide +kernel, by decide +kernel⟩, List.mem_of_getElem? (i := 236) (by decide +kernel), List.mem_of_getElem? (i := 639) (by decide +kernel), List.mem_of_getElem? (i := 640) (by decide +kernel)⟩
theorem lw_p22 : lw_okq (⟨"NineActs", "sortByStrength", "()V"⟩, 13) := ⟨⟨by decide +kernel, by decide +kernel⟩, List.mem_of_getElem? (i := 17) (by decide +kernel), List.mem_of_getElem? (i := 653) (by decide +kernel), List.mem_of_getElem? (i := 654) (by decide +kernel)⟩
theorem lw_p23 : lw_okq (⟨"NineActs", "isWeaker", "(II)Z"⟩, 13) := ⟨⟨by decide +kernel, by decide +kernel⟩, List.mem_of_getElem? (i := 17) (by decide +kernel), List.mem_of_getElem? (i := 657) (by decide +kernel), List.mem_of_getElem? (i := 658) (by decide +kernel)⟩
theorem lw_p24 : lw_okq (⟨"NineActs", "swapAhead", "(I)V"⟩, 13) := ⟨⟨by decide +kernel, by decide +kernel⟩, List.mem_of_getElem? (i := 17) (by decide +kernel), List.mem_of_getElem? (i := 661) (by decide +kernel), List.mem_of_getElem? (i := 662) (by decide +kernel)⟩
theorem lw_p25 : lw_okq (⟨"NineActs", "searchWithout", "(II)V"⟩, 13) := ⟨⟨by decide +kernel, by decide +kernel⟩, List.mem_of_getElem? (i := 17) (by decide +kernel), List.mem_of_getElem? (i := 678) (by decide +kernel), List.mem_of_getElem? (i := 679) (by decide +kernel)⟩
theorem lw_p26 : lw_okq (⟨"NineActs", "isHall", "(II)Z"⟩, 13) := ⟨⟨by decide +kernel, by decide +kernel⟩, List.mem_of_getElem? (i := 17) (by decide +kernel), List.mem_of_getElem? (i := 690) (by decide +kernel), List.mem_of_getElem? (i := 691) (by decide +kernel)⟩
theorem lw_p27 : lw_okq (⟨"NineActs", "hasOneOfAKind", "(I)Z"⟩, 13) := ⟨⟨by decide +kernel, by decide +kernel⟩, List.mem_of_getElem? (i := 17) (by decide +kernel), List.mem_of_getElem? (i := 700) (by decide +kernel), List.mem_of_getElem? (i := 701) (by decide +kernel)⟩
theorem lw_p28 : lw_okq (⟨"NineActs", "apart", "(II)I"⟩, 13) := ⟨⟨by decide +kernel, by decide +kernel⟩, List.mem_of_getElem? (i := 17) (by decide +kernel), List.mem_of_getElem? (i := 704) (by decide +kernel), List.mem_of_getElem? (i := 705) (by decide +kernel)⟩
theorem lw_p29 : lw_okq (⟨"NineActs", "playWithGuest", "(I)V"⟩, 13) := ⟨⟨by decide +kernel, by decide +kernel⟩, List.mem_of_getElem? (i := 17) (by decide +kernel), List.mem_of_getElem? (i := 715) (by decide +kernel), List.mem_of_getElem? (i := 716) (by decide +kernel)⟩
theorem lw_p30 : lw_okq (⟨"NineActs$Marks", "addPlace", "(II)V"⟩, 5) := ⟨⟨by decide +kernel, by decide +kernel⟩, List.mem_of_getElem? (i := 275) (by decide +kernel), List.mem_of_getElem? (i := 740) (by decide +kernel), List.mem_of_getElem? (i := 741) (by decide +kernel)⟩
theorem lw_p31 : lw_okq (⟨"NineActs$Marks", "reduce", "()V"⟩, 5) := ⟨⟨by decide +kernel, by decide +kernel⟩, List.mem_of_getElem? (i := 275) (by decide +kernel), List.mem_of_getElem? (i := 744) (by decide +kernel), List.mem_of_getElem? (i := 745) (by decide +kernel)⟩
def lw_privs_2 : List (MethodName × Nat) := [(⟨"NineActs", "searchBest", "()V"⟩, 13), (⟨"NineActs", "lineUp", "(I)I"⟩, 13), (⟨"NineActs$Search", "extend", "(LNineActs$Show;IIII)V"⟩, 8), (⟨"NineActs$Search", "weigh", "(LNineActs$Show;II)V"⟩, 8), (⟨"NineActs$Search", "isBetter", "(III)Z"⟩, 8), (⟨"NineActs$Search", "attempt", "(LNineActs$Show;IIIII)V"⟩, 8), (⟨"NineActs", "sortByStrength", "()V"⟩, 13), (⟨"NineActs", "isWeaker", "(II)Z"⟩, 13), (⟨"NineActs", "swapAhead", "(I)V"⟩, 13), (⟨"NineActs", "searchWithout", "(II)V"⟩, 13), (⟨"NineActs", "isHall", "(II)Z"⟩, 13), (⟨"NineActs", "hasOneOfAKind", "(I)Z"⟩, 13), (⟨"NineActs", "apart", "(II)I"⟩, 13), (⟨"NineActs", "playWithGuest", "(I)V"⟩, 13), (⟨"NineActs$Marks", "addPlace", "(II)V"⟩, 5), (⟨"NineActs$Marks", "reduce", "()V"⟩, 5)]
theorem lw_r2 : ∀ q ∈ lw_privs_2, lw_okq q := List.forall_mem_cons.mpr ⟨lw_p16, List.forall_mem_cons.mpr ⟨lw_p17, List.forall_mem_cons.mpr ⟨lw_p18, List.forall_mem_cons.mpr ⟨lw_p19, List.forall_mem_cons.mpr ⟨lw_p20, List.forall_mem_cons.mpr ⟨lw_p21, List.forall_mem_cons.mpr ⟨lw_p22, List.forall_mem_cons.mpr ⟨lw_p23, List.forall_mem_cons.mpr ⟨lw_p24, List.forall_mem_cons.mpr ⟨lw_p25, List.forall_mem_cons.mpr ⟨lw_p26, List.forall_mem_cons.mpr ⟨lw_p27, List.forall_mem_cons.mpr ⟨lw_p28, List.forall_mem_cons.mpr ⟨lw_p29, List.forall_mem_cons.mpr ⟨lw_p30, List.forall_mem_cons.mpr ⟨lw_p31, fun _ h => absurd h List.not_mem_nil⟩⟩⟩⟩⟩⟩⟩⟩⟩⟩⟩⟩⟩⟩⟩⟩
theorem lw_p32 : lw_okq (⟨"NineActs", "opensAhead", "(II)Z"⟩, 13) := ⟨⟨by decide +kernel, by decide +kernel⟩, List.mem_of_getElem? (i := 17) (by decide +kernel), List.mem_of_getElem? (i := 757) (by decide +kernel), List.mem_of_getElem? (i := 758) (by decide +kernel)⟩
theorem lw_p33 : lw_okq (⟨"NineActs", "sortByFamilies", "()V"⟩, 13) := ⟨⟨by decide +kernel, by decide +kernel⟩, List.mem_of_getElem? (i := 17) (by decide +kernel), List.mem_of_getElem? (i := 765) (by decide +kernel), List.mem_of_getElem? (i := 766) (by decide +kernel)⟩
theorem lw_p34 : lw_okq (⟨"NineActs", "holdsLess", "(II)Z"⟩, 13) := ⟨⟨by decide +kernel, by decide +kernel⟩, List.mem_of_getElem? (i := 17) (by decide +kernel), List.mem_of_getElem? (i := 769) (by decide +kernel), List.mem_of_getElem? (i := 770) (by decide +kernel)⟩
theorem lw_p35 : lw_okq (⟨"NineActs", "ratePlace", "(LNineActs$Act;)I"⟩, 13) := ⟨⟨by decide +kernel, by decide +kernel⟩, List.mem_of_getElem? (i := 17) (by decide +kernel), List.mem_of_getElem? (i := 790) (by decide +kernel), List.mem_of_getElem? (i := 791) (by decide +kernel)⟩
theorem lw_p36 : lw_okq (⟨"NineActs", "rateOpening", "(LNineActs$Act;)I"⟩, 13) := ⟨⟨by decide +kernel, by decide +kernel⟩, List.mem_of_getElem? (i := 17) (by decide +kernel), List.mem_of_getElem? (i := 794) (by decide +kernel), List.mem_of_getElem? (i := 795) (by decide +kernel)⟩
theorem lw_p37 : lw_okq (⟨"NineActs", "rateFrontCloth", "(LNineActs$Act;)I"⟩, 13) := ⟨⟨by decide +kernel, by decide +kernel⟩, List.mem_of_getElem? (i := 17) (by decide +kernel), List.mem_of_getElem? (i := 799) (by decide +kernel), List.mem_of_getElem? (i := 800) (by decide +kernel)⟩
theorem lw_p38 : lw_okq (⟨"NineActs", "rateSecond", "(LNineActs$Act;)I"⟩, 13) := ⟨⟨by decide +kernel, by decide +kernel⟩, List.mem_of_getElem? (i := 17) (by decide +kernel), List.mem_of_getElem? (i := 804) (by decide +kernel), List.mem_of_getElem? (i := 805) (by decide +kernel)⟩
theorem lw_p39 : lw_okq (⟨"NineActs", "rateDraw", "(LNineActs$Act;)I"⟩, 13) := ⟨⟨by decide +kernel, by decide +kernel⟩, List.mem_of_getElem? (i := 17) (by decide +kernel), List.mem_of_getElem? (i := 809) (by decide +kernel), List.mem_of_getElem? (i := 810) (by decide +kernel)⟩
theorem lw_p40 : lw_okq (⟨"NineActs", "rateClosing", "(LNineActs$Act;)I"⟩, 13) := ⟨⟨by decide +kernel, by decide +kernel⟩, List.mem_of_getElem? (i := 17) (by decide +kernel), List.mem_of_getElem? (i := 814) (by decide +kernel), List.mem_of_getElem? (i := 815) (by decide +kernel)⟩
theorem lw_p41 : lw_okq (⟨"NineActsModel", "advances", "()V"⟩, 41) := ⟨⟨by decide +kernel, by decide +kernel⟩, List.mem_of_getElem? (i := 839) (by decide +kernel), List.mem_of_getElem? (i := 986) (by decide +kernel), List.mem_of_getElem? (i := 987) (by decide +kernel)⟩
theorem lw_p42 : lw_okq (⟨"NineActsModel", "byteAt", "(I)I"⟩, 41) := ⟨⟨by decide +kernel, by decide +kernel⟩, List.mem_of_getElem? (i := 839) (by decide +kernel), List.mem_of_getElem? (i := 990) (by decide +kernel), List.mem_of_getElem? (i := 991) (by decide +kernel)⟩
theorem lw_p43 : lw_okq (⟨"NineActsModel", "isWell", "()Z"⟩, 41) := ⟨⟨by decide +kernel, by decide +kernel⟩, List.mem_of_getElem? (i := 839) (by decide +kernel), List.mem_of_getElem? (i := 1004) (by decide +kernel), List.mem_of_getElem? (i := 1005) (by decide +kernel)⟩
theorem lw_p44 : lw_okq (⟨"NineActsModel", "takes", "(Z)I"⟩, 41) := ⟨⟨by decide +kernel, by decide +kernel⟩, List.mem_of_getElem? (i := 839) (by decide +kernel), List.mem_of_getElem? (i := 1008) (by decide +kernel), List.mem_of_getElem? (i := 1009) (by decide +kernel)⟩
theorem lw_p45 : lw_okq (⟨"NineActsModel", "readsAct", "()V"⟩, 41) := ⟨⟨by decide +kernel, by decide +kernel⟩, List.mem_of_getElem? (i := 839) (by decide +kernel), List.mem_of_getElem? (i := 1012) (by decide +kernel), List.mem_of_getElem? (i := 1013) (by decide +kernel)⟩
theorem lw_p46 : lw_okq (⟨"NineActsModel", "number", "(II)I"⟩, 41) := ⟨⟨by decide +kernel, by decide +kernel⟩, List.mem_of_getElem? (i := 839) (by decide +kernel), List.mem_of_getElem? (i := 1016) (by decide +kernel), List.mem_of_getElem? (i := 1017) (by decide +kernel)⟩
theorem lw_p47 : lw_okq (⟨"NineActsModel", "isWord", "(I)Z"⟩, 41) := ⟨⟨by decide +kernel, by decide +kernel⟩, List.mem_of_getElem? (i := 839) (by decide +kernel), List.mem_of_getElem? (i := 1020) (by decide +kernel), List.mem_of_getElem? (i := 1021) (by decide +kernel)⟩
def lw_privs_3 : List (MethodName × Nat) := [(⟨"NineActs", "opensAhead", "(II)Z"⟩, 13), (⟨"NineActs", "sortByFamilies", "()V"⟩, 13), (⟨"NineActs", "holdsLess", "(II)Z"⟩, 13), (⟨"NineActs", "ratePlace", "(LNineActs$Act;)I"⟩, 13), (⟨"NineActs", "rateOpening", "(LNineActs$Act;)I"⟩, 13), (⟨"NineActs", "rateFrontCloth", "(LNineActs$Act;)I"⟩, 13), (⟨"NineActs", "rateSecond", "(LNineActs$Act;)I"⟩, 13), (⟨"NineActs", "rateDraw", "(LNineActs$Act;)I"⟩, 13), (⟨"NineActs", "rateClosing", "(LNineActs$Act;)I"⟩, 13), (⟨"NineActsModel", "advances", "()V"⟩, 41), (⟨"NineActsModel", "byteAt", "(I)I"⟩, 41), (⟨"NineActsModel", "isWell", "()Z"⟩, 41), (⟨"NineActsModel", "takes", "(Z)I"⟩, 41), (⟨"NineActsModel", "readsAct", "()V"⟩, 41), (⟨"NineActsModel", "number", "(II)I"⟩, 41), (⟨"NineActsModel", "isWord", "(I)Z"⟩, 41)]
theorem lw_r3 : ∀ q ∈ lw_privs_3, lw_okq q := List.forall_mem_cons.mpr ⟨lw_p32, List.forall_mem_cons.mpr ⟨lw_p33, List.forall_mem_cons.mpr ⟨lw_p34, List.forall_mem_cons.mpr ⟨lw_p35, List.forall_mem_cons.mpr ⟨lw_p36, List.forall_mem_cons.mpr ⟨lw_p37, List.forall_mem_cons.mpr ⟨lw_p38, List.forall_mem_cons.mpr ⟨lw_p39, List.forall_mem_cons.mpr ⟨lw_p40, List.forall_mem_cons.mpr ⟨lw_p41, List.forall_mem_cons.mpr ⟨lw_p42, List.forall_mem_cons.mpr ⟨lw_p43, List.forall_mem_cons.mpr ⟨lw_p44, List.forall_mem_cons.mpr ⟨lw_p45, List.forall_mem_cons.mpr ⟨lw_p46, List.forall_mem_cons.mpr ⟨lw_p47, fun _ h => absurd h List.not_mem_nil⟩⟩⟩⟩⟩⟩⟩⟩⟩⟩⟩⟩⟩⟩⟩⟩
theorem lw_p48 : lw_okq (⟨"NineActsModel", "readsFeud", "()V"⟩, 41) := ⟨⟨by decide +kernel, by decide +kernel⟩, List.mem_of_getElem? (i := 839) (by decide +kernel), List.mem_of_getElem? (i := 1024) (by decide +kernel), List.mem_of_getElem? (i := 1025) (by decide +kernel)⟩
theorem lw_p49 : lw_okq (⟨"NineActsModel", "isAct", "(I)Z"⟩, 41) := ⟨⟨by decide +kernel, by decide +kernel⟩, List.mem_of_getElem? (i := 839) (by decide +kernel), List.mem_of_getElem? (i := 1032) (by decide +kernel), List.mem_of_getElem? (i := 1033) (by decide +kernel)⟩
theorem lw_p50 : lw_okq (⟨"NineActsModel", "of", "(II)I"⟩, 41) := ⟨⟨by decide +kernel, by decide +kernel⟩, List.mem_of_getElem? (i := 839) (by decide +kernel), List.mem_of_getElem? (i := 1036) (by decide +kernel), List.mem_of_getElem? (i := 1037) (by decide +kernel)⟩
theorem lw_p51 : lw_okq (⟨"NineActsModel", "placeOf", "(I)I"⟩, 41) := ⟨⟨by decide +kernel, by decide +kernel⟩, List.mem_of_getElem? (i := 839) (by decide +kernel), List.mem_of_getElem? (i := 1056) (by decide +kernel), List.mem_of_getElem? (i := 1057) (by decide +kernel)⟩
theorem lw_p52 : lw_okq (⟨"NineActsModel", "isPlace", "(I)Z"⟩, 41) := ⟨⟨by decide +kernel, by decide +kernel⟩, List.mem_of_getElem? (i := 839) (by decide +kernel), List.mem_of_getElem? (i := 1072) (by decide +kernel), List.mem_of_getElem? (i := 1073) (by decide +kernel)⟩
theorem lw_p53 : lw_okq (⟨"NineActsModel", "asBilled", "()V"⟩, 41) := ⟨⟨by decide +kernel, by decide +kernel⟩, List.mem_of_getElem? (i := 839) (by decide +kernel), List.mem_of_getElem? (i := 1080) (by decide +kernel), List.mem_of_getElem? (i := 1081) (by decide +kernel)⟩
theorem lw_p54 : lw_okq (⟨"NineActsModel", "lays", "()V"⟩, 41) := ⟨⟨by decide +kernel, by decide +kernel⟩, List.mem_of_getElem? (i := 839) (by decide +kernel), List.mem_of_getElem? (i := 1084) (by decide +kernel), List.mem_of_getElem? (i := 1085) (by decide +kernel)⟩
theorem lw_p55 : lw_okq (⟨"NineActsModel", "gapOf", "(I)I"⟩, 41) := ⟨⟨by decide +kernel, by decide +kernel⟩, List.mem_of_getElem? (i := 839) (by decide +kernel), List.mem_of_getElem? (i := 1088) (by decide +kernel), List.mem_of_getElem? (i := 1089) (by decide +kernel)⟩
theorem lw_p56 : lw_okq (⟨"NineActsModel", "isFront", "(I)Z"⟩, 41) := ⟨⟨by decide +kernel, by decide +kernel⟩, List.mem_of_getElem? (i := 839) (by decide +kernel), List.mem_of_getElem? (i := 1092) (by decide +kernel), List.mem_of_getElem? (i := 1093) (by decide +kernel)⟩
theorem lw_p57 : lw_okq (⟨"NineActsModel", "end", "(I)I"⟩, 41) := ⟨⟨by decide +kernel, by decide +kernel⟩, List.mem_of_getElem? (i := 839) (by decide +kernel), List.mem_of_getElem? (i := 1096) (by decide +kernel), List.mem_of_getElem? (i := 1097) (by decide +kernel)⟩
theorem lw_p58 : lw_okq (⟨"NineActsModel", "isStaged", "()Z"⟩, 41) := ⟨⟨by decide +kernel, by decide +kernel⟩, List.mem_of_getElem? (i := 839) (by decide +kernel), List.mem_of_getElem? (i := 1104) (by decide +kernel), List.mem_of_getElem? (i := 1105) (by decide +kernel)⟩
theorem lw_p59 : lw_okq (⟨"NineActsModel", "nightOf", "(Z)I"⟩, 41) := ⟨⟨by decide +kernel, by decide +kernel⟩, List.mem_of_getElem? (i := 839) (by decide +kernel), List.mem_of_getElem? (i := 1112) (by decide +kernel), List.mem_of_getElem? (i := 1113) (by decide +kernel)⟩
theorem lw_p60 : lw_okq (⟨"NineActsModel", "draws", "()I"⟩, 41) := ⟨⟨by decide +kernel, by decide +kernel⟩, List.mem_of_getElem? (i := 839) (by decide +kernel), List.mem_of_getElem? (i := 1119) (by decide +kernel), List.mem_of_getElem? (i := 1120) (by decide +kernel)⟩
theorem lw_p61 : lw_okq (⟨"NineActsModel", "goesThrough", "()V"⟩, 41) := ⟨⟨by decide +kernel, by decide +kernel⟩, List.mem_of_getElem? (i := 839) (by decide +kernel), List.mem_of_getElem? (i := 1133) (by decide +kernel), List.mem_of_getElem? (i := 1134) (by decide +kernel)⟩
theorem lw_p62 : lw_okq (⟨"NineActsModel", "sortsRow", "()V"⟩, 41) := ⟨⟨by decide +kernel, by decide +kernel⟩, List.mem_of_getElem? (i := 839) (by decide +kernel), List.mem_of_getElem? (i := 1137) (by decide +kernel), List.mem_of_getElem? (i := 1138) (by decide +kernel)⟩
theorem lw_p63 : lw_okq (⟨"NineActsModel", "swaps", "(II)V"⟩, 41) := ⟨⟨by decide +kernel, by decide +kernel⟩, List.mem_of_getElem? (i := 839) (by decide +kernel), List.mem_of_getElem? (i := 1141) (by decide +kernel), List.mem_of_getElem? (i := 1142) (by decide +kernel)⟩
def lw_privs_4 : List (MethodName × Nat) := [(⟨"NineActsModel", "readsFeud", "()V"⟩, 41), (⟨"NineActsModel", "isAct", "(I)Z"⟩, 41), (⟨"NineActsModel", "of", "(II)I"⟩, 41), (⟨"NineActsModel", "placeOf", "(I)I"⟩, 41), (⟨"NineActsModel", "isPlace", "(I)Z"⟩, 41), (⟨"NineActsModel", "asBilled", "()V"⟩, 41), (⟨"NineActsModel", "lays", "()V"⟩, 41), (⟨"NineActsModel", "gapOf", "(I)I"⟩, 41), (⟨"NineActsModel", "isFront", "(I)Z"⟩, 41), (⟨"NineActsModel", "end", "(I)I"⟩, 41), (⟨"NineActsModel", "isStaged", "()Z"⟩, 41), (⟨"NineActsModel", "nightOf", "(Z)I"⟩, 41), (⟨"NineActsModel", "draws", "()I"⟩, 41), (⟨"NineActsModel", "goesThrough", "()V"⟩, 41), (⟨"NineActsModel", "sortsRow", "()V"⟩, 41), (⟨"NineActsModel", "swaps", "(II)V"⟩, 41)]
theorem lw_r4 : ∀ q ∈ lw_privs_4, lw_okq q := List.forall_mem_cons.mpr ⟨lw_p48, List.forall_mem_cons.mpr ⟨lw_p49, List.forall_mem_cons.mpr ⟨lw_p50, List.forall_mem_cons.mpr ⟨lw_p51, List.forall_mem_cons.mpr ⟨lw_p52, List.forall_mem_cons.mpr ⟨lw_p53, List.forall_mem_cons.mpr ⟨lw_p54, List.forall_mem_cons.mpr ⟨lw_p55, List.forall_mem_cons.mpr ⟨lw_p56, List.forall_mem_cons.mpr ⟨lw_p57, List.forall_mem_cons.mpr ⟨lw_p58, List.forall_mem_cons.mpr ⟨lw_p59, List.forall_mem_cons.mpr ⟨lw_p60, List.forall_mem_cons.mpr ⟨lw_p61, List.forall_mem_cons.mpr ⟨lw_p62, List.forall_mem_cons.mpr ⟨lw_p63, fun _ h => absurd h List.not_mem_nil⟩⟩⟩⟩⟩⟩⟩⟩⟩⟩⟩⟩⟩⟩⟩⟩
theorem lw_p64 : lw_okq (⟨"NineActsModel", "orderOf", "()I"⟩, 41) := ⟨⟨by decide +kernel, by decide +kernel⟩, List.mem_of_getElem? (i := 839) (by decide +kernel), List.mem_of_getElem? (i := 1145) (by decide +kernel), List.mem_of_getElem? (i := 1146) (by decide +kernel)⟩
theorem lw_p65 : lw_okq (⟨"NineActsModel", "goesOn", "()Z"⟩, 41) := ⟨⟨by decide +kernel, by decide +kernel⟩, List.mem_of_getElem? (i := 839) (by decide +kernel), List.mem_of_getElem? (i := 1149) (by decide +kernel), List.mem_of_getElem? (i := 1150) (by decide +kernel)⟩
theorem lw_p66 : lw_okq (⟨"NineActsModel", "movedOf", "()I"⟩, 41) := ⟨⟨by decide +kernel, by decide +kernel⟩, List.mem_of_getElem? (i := 839) (by decide +kernel), List.mem_of_getElem? (i := 1165) (by decide +kernel), List.mem_of_getElem? (i := 1166) (by decide +kernel)⟩
theorem lw_p67 : lw_okq (⟨"NineActsModel", "hallsOf", "(III)I"⟩, 41) := ⟨⟨by decide +kernel, by decide +kernel⟩, List.mem_of_getElem? (i := 839) (by decide +kernel), List.mem_of_getElem? (i := 1173) (by decide +kernel), List.mem_of_getElem? (i := 1174) (by decide +kernel)⟩
def lw_privs_5 : List (MethodName × Nat) := [(⟨"NineActsModel", "orderOf", "()I"⟩, 41), (⟨"NineActsModel", "goesOn", "()Z"⟩, 41), (⟨"NineActsModel", "movedOf", "()I"⟩, 41), (⟨"NineActsModel", "hallsOf", "(III)I"⟩, 41)]
theorem lw_r5 : ∀ q ∈ lw_privs_5, lw_okq q := List.forall_mem_cons.mpr ⟨lw_p64, List.forall_mem_cons.mpr ⟨lw_p65, List.forall_mem_cons.mpr ⟨lw_p66, List.forall_mem_cons.mpr ⟨lw_p67, fun _ h => absurd h List.not_mem_nil⟩⟩⟩⟩
def lw_privs : List (MethodName × Nat) := lw_privs_1 ++ (lw_privs_2 ++ (lw_privs_3 ++ (lw_privs_4 ++ (lw_privs_5))))
def lw_tbl : List Cond := k2_sels lw_privs ++ tables_1
theorem lw_privs_ok : ∀ q ∈ lw_privs, lw_okq q := by
  show ∀ q ∈ lw_privs_1 ++ (lw_privs_2 ++ (lw_privs_3 ++ (lw_privs_4 ++ (lw_privs_5)))), lw_okq q
  exact List.forall_mem_append.mpr ⟨lw_r1, List.forall_mem_append.mpr ⟨lw_r2, List.forall_mem_append.mpr ⟨lw_r3, List.forall_mem_append.mpr ⟨lw_r4, lw_r5⟩⟩⟩⟩
end
section
def RX0 : String := "NineActs$Act"
def TX0 : u_T := fun k => match k with
  | 0 => ("NineActs$Act", "number", "I", true)
  | 1 => ("NineActs$Act", "kind", "I", false)
  | 2 => ("NineActs$Act", "minutes", "I", false)
  | 3 => ("NineActs$Act", "strength", "I", false)
  | 4 => ("NineActs$Act", "front", "Z", false)
  | 5 => ("NineActs$Act", "set", "I", false)
  | 6 => ("NineActs$Act", "strike", "I", false)
  | 7 => ("NineActs$Act", "tone", "I", false)
  | 8 => ("NineActs$Act", "train", "I", false)
  | 9 => ("NineActs$Act", "families", "I", false)
  | _ => ("NineActs$Act", "feuds", "I", false)
def tyX0 : Nat → FieldType := fun k => match k with
  | 0 => .int
  | 1 => .int
  | 2 => .int
  | 3 => .int
  | 4 => .boolean
  | 5 => .int
  | 6 => .int
  | 7 => .int
  | 8 => .int
  | 9 => .int
  | _ => .int
abbrev wsX00 : List Cond := u_ws RX0 TX0 11
theorem nmX0 : ∀ a, a < 11 → ∀ b, b < 11 → a ≠ b → (TX0 a).2.1 ≠ (TX0 b).2.1 := by decide +kernel
theorem tyX0_ok : ∀ k, k < 11 → parseFieldDescriptor (TX0 k).2.2.1 = some (tyX0 k) := by decide +kernel
abbrev cX0_init : ByteArray := prog_2_method_1_code
def yX0_init : MethodName := ⟨RX0, "<init>", "(I)V"⟩
abbrev cX0_forget : ByteArray := prog_2_method_2_code
def yX0_forget : MethodName := ⟨RX0, "forget", "()V"⟩
abbrev cX0_hates : ByteArray := prog_2_method_3_code
def yX0_hates : MethodName := ⟨RX0, "hates", "(I)Z"⟩
def RX1 : String := "NineActs$Bill"
def TX1 : u_T := fun k => match k with
  | 0 => ("NineActs$Bill", "row", "[I", true)
  | 1 => ("NineActs$Bill", "size", "I", false)
  | 2 => ("NineActs$Bill", "pause", "I", false)
  | 3 => ("NineActs$Bill", "draws", "I", false)
  | _ => ("NineActs$Bill", "kept", "Z", false)
def tyX1 : Nat → FieldType := fun k => match k with
  | 0 => .array .int
  | 1 => .int
  | 2 => .int
  | 3 => .int
  | _ => .boolean
abbrev wsX10 : List Cond := u_ws RX1 TX1 5
theorem nmX1 : ∀ a, a < 5 → ∀ b, b < 5 → a ≠ b → (TX1 a).2.1 ≠ (TX1 b).2.1 := by decide +kernel
theorem tyX1_ok : ∀ k, k < 5 → parseFieldDescriptor (TX1 k).2.2.1 = some (tyX1 k) := by decide +kernel
abbrev cX1_init : ByteArray := prog_3_method_1_code
def yX1_init : MethodName := ⟨RX1, "<init>", "()V"⟩
abbrev cX1_hasPlace : ByteArray := prog_3_method_2_code
def yX1_hasPlace : MethodName := ⟨RX1, "hasPlace", "(I)Z"⟩
abbrev cX1_placeOf : ByteArray := prog_3_method_3_code
def yX1_placeOf : MethodName := ⟨RX1, "placeOf", "(I)I"⟩
abbrev cX1_append : ByteArray := prog_3_method_4_code
def yX1_append : MethodName := ⟨RX1, "append", "(I)V"⟩
abbrev cX1_strip : ByteArray := prog_3_method_5_code
def yX1_strip : MethodName := ⟨RX1, "strip", "()V"⟩
abbrev cX1_bits : ByteArray := prog_3_method_6_code
def yX1_bits : MethodName := ⟨RX1, "bits", "()I"⟩
abbrev cX1_draw : ByteArray := prog_3_method_7_code
def yX1_draw : MethodName := ⟨RX1, "draw", "()I"⟩
abbrev cX1_copy : ByteArray := prog_3_method_8_code
def yX1_copy : MethodName := ⟨RX1, "copy", "(LNineActs$Bill;)V"⟩
def RX2 : String := "NineActs$Cast"
def TX2 : u_T := fun k => match k with
  | 0 => ("NineActs$Cast", "members", "[LNineActs$Act;", true)
  | _ => ("NineActs$Cast", "size", "I", false)
def tyX2 : Nat → FieldType := fun k => match k with
  | 0 => .array (.object "NineActs$Act")
  | _ => .int
abbrev wsX20 : List Cond := u_ws RX2 TX2 2
theorem nmX2 : ∀ a, a < 2 → ∀ b, b < 2 → a ≠ b → (TX2 a).2.1 ≠ (TX2 b).2.1 := by decide +kernel
theorem tyX2_ok : ∀ k, k < 2 → parseFieldDescriptor (TX2 k).2.2.1 = some (tyX2 k) := by decide +kernel
abbrev cX2_init : ByteArray := prog_4_method_1_code
def yX2_init : MethodName := ⟨RX2, "<init>", "()V"⟩
abbrev cX2_fallOut : ByteArray := prog_4_method_2_code
def yX2_fallOut : MethodName := ⟨RX2, "fallOut", "(II)V"⟩
def RX3 : String := "NineActs$Marks"
def TX3 : u_T := fun k => match k with
  | 0 => ("NineActs$Marks", "times", "[I", true)
  | 1 => ("NineActs$Marks", "claps", "[I", true)
  | 2 => ("NineActs$Marks", "size", "I", false)
  | 3 => ("NineActs$Marks", "upper", "J", false)
  | _ => ("NineActs$Marks", "lower", "J", false)
def tyX3 : Nat → FieldType := fun k => match k with
  | 0 => .array .int
  | 1 => .array .int
  | 2 => .int
  | 3 => .long
  | _ => .long
abbrev wsX30 : List Cond := u_ws RX3 TX3 5
theorem nmX3 : ∀ a, a < 5 → ∀ b, b < 5 → a ≠ b → (TX3 a).2.1 ≠ (TX3 b).2.1 := by decide +kernel
theorem tyX3_ok : ∀ k, k < 5 → parseFieldDescriptor (TX3 k).2.2.1 = some (tyX3 k) := by decide +kernel
abbrev cX3_init : ByteArray := prog_5_method_1_code
def yX3_init : MethodName := ⟨RX3, "<init>", "()V"⟩
abbrev cX3_forget : ByteArray := prog_5_method_2_code
def yX3_forget : MethodName := ⟨RX3, "forget", "()V"⟩
abbrev cX3_append : ByteArray := prog_5_method_3_code
def yX3_append : MethodName := ⟨RX3, "append", "(III)V"⟩
abbrev cX3_timesOf : ByteArray := prog_5_method_4_code
def yX3_timesOf : MethodName := ⟨RX3, "timesOf", "(I)I"⟩
abbrev cX3_part : ByteArray := prog_5_method_5_code
def yX3_part : MethodName := ⟨RX3, "part", "(I)V"⟩
abbrev cX3_addPlace : ByteArray := prog_5_method_6_code
def yX3_addPlace : MethodName := ⟨RX3, "addPlace", "(II)V"⟩
abbrev cX3_reduce : ByteArray := prog_5_method_7_code
def yX3_reduce : MethodName := ⟨RX3, "reduce", "()V"⟩
def RX4 : String := "NineActs$Script"
def TX4 : u_T := fun k => match k with
  | 0 => ("NineActs$Script", "text", "[C", true)
  | 1 => ("NineActs$Script", "length", "I", false)
  | 2 => ("NineActs$Script", "token", "I", false)
  | 3 => ("NineActs$Script", "tokenAt", "I", false)
  | 4 => ("NineActs$Script", "tokenValue", "I", false)
  | _ => ("NineActs$Script", "next", "I", false)
def tyX4 : Nat → FieldType := fun k => match k with
  | 0 => .array .char
  | 1 => .int
  | 2 => .int
  | 3 => .int
  | 4 => .int
  | _ => .int
abbrev wsX40 : List Cond := u_ws RX4 TX4 6
theorem nmX4 : ∀ a, a < 6 → ∀ b, b < 6 → a ≠ b → (TX4 a).2.1 ≠ (TX4 b).2.1 := by decide +kernel
theorem tyX4_ok : ∀ k, k < 6 → parseFieldDescriptor (TX4 k).2.2.1 = some (tyX4 k) := by decide +kernel
abbrev cX4_init : ByteArray := prog_6_method_1_code
def yX4_init : MethodName := ⟨RX4, "<init>", "()V"⟩
abbrev cX4_append : ByteArray := prog_6_method_2_code
def yX4_append : MethodName := ⟨RX4, "append", "(JI)V"⟩
abbrev cX4_tell : ByteArray := prog_6_method_3_code
def yX4_tell : MethodName := ⟨RX4, "tell", "(LNineActs$Cast;)I"⟩
abbrev cX4_tellAct : ByteArray := prog_6_method_4_code
def yX4_tellAct : MethodName := ⟨RX4, "tellAct", "(LNineActs$Cast;)Z"⟩
abbrev cX4_tellFigures : ByteArray := prog_6_method_5_code
def yX4_tellFigures : MethodName := ⟨RX4, "tellFigures", "(LNineActs$Act;)Z"⟩
abbrev cX4_tellStage : ByteArray := prog_6_method_6_code
def yX4_tellStage : MethodName := ⟨RX4, "tellStage", "(LNineActs$Act;)Z"⟩
abbrev cX4_tellTone : ByteArray := prog_6_method_7_code
def yX4_tellTone : MethodName := ⟨RX4, "tellTone", "(LNineActs$Act;)V"⟩
abbrev cX4_tellTrain : ByteArray := prog_6_method_8_code
def yX4_tellTrain : MethodName := ⟨RX4, "tellTrain", "(LNineActs$Act;)Z"⟩
abbrev cX4_tellFeud : ByteArray := prog_6_method_9_code
def yX4_tellFeud : MethodName := ⟨RX4, "tellFeud", "(LNineActs$Cast;)Z"⟩
abbrev cX4_isNumber : ByteArray := prog_6_method_10_code
def yX4_isNumber : MethodName := ⟨RX4, "isNumber", "(II)Z"⟩
abbrev cX4_advance : ByteArray := prog_6_method_11_code
def yX4_advance : MethodName := ⟨RX4, "advance", "()V"⟩
abbrev cX4_readWord : ByteArray := prog_6_method_12_code
def yX4_readWord : MethodName := ⟨RX4, "readWord", "()V"⟩
abbrev cX4_spells : ByteArray := prog_6_method_13_code
def yX4_spells : MethodName := ⟨RX4, "spells", "(Ljava/lang/String;)Z"⟩
abbrev cX4_readNumber : ByteArray := prog_6_method_14_code
def yX4_readNumber : MethodName := ⟨RX4, "readNumber", "()V"⟩
abbrev cX4_isLetter : ByteArray := prog_6_method_15_code
def yX4_isLetter : MethodName := ⟨RX4, "isLetter", "(C)Z"⟩
abbrev cX4_isDigit : ByteArray := prog_6_method_16_code
def yX4_isDigit : MethodName := ⟨RX4, "isDigit", "(C)Z"⟩
def RX5 : String := "NineActs$Search"
def TX5 : u_T := fun k => match k with
  | 0 => ("NineActs$Search", "pool", "[LNineActs$Act;", true)
  | 1 => ("NineActs$Search", "home", "[I", true)
  | 2 => ("NineActs$Search", "size", "I", false)
  | 3 => ("NineActs$Search", "found", "I", false)
  | 4 => ("NineActs$Search", "moved", "I", false)
  | 5 => ("NineActs$Search", "total", "I", false)
  | 6 => ("NineActs$Search", "order", "I", false)
  | _ => ("NineActs$Search", "pause", "I", false)
def tyX5 : Nat → FieldType := fun k => match k with
  | 0 => .array (.object "NineActs$Act")
  | 1 => .array .int
  | 2 => .int
  | 3 => .int
  | 4 => .int
  | 5 => .int
  | 6 => .int
  | _ => .int
abbrev wsX50 : List Cond := u_ws RX5 TX5 8
theorem nmX5 : ∀ a, a < 8 → ∀ b, b < 8 → a ≠ b → (TX5 a).2.1 ≠ (TX5 b).2.1 := by decide +kernel
theorem tyX5_ok : ∀ k, k < 8 → parseFieldDescriptor (TX5 k).2.2.1 = some (tyX5 k) := by decide +kernel
abbrev cX5_init : ByteArray := prog_7_method_1_code
def yX5_init : MethodName := ⟨RX5, "<init>", "()V"⟩
abbrev cX5_begin : ByteArray := prog_7_method_2_code
def yX5_begin : MethodName := ⟨RX5, "begin", "(I)V"⟩
abbrev cX5_run : ByteArray := prog_7_method_3_code
def yX5_run : MethodName := ⟨RX5, "run", "(LNineActs$Show;)V"⟩
abbrev cX5_extend : ByteArray := prog_7_method_4_code
def yX5_extend : MethodName := ⟨RX5, "extend", "(LNineActs$Show;IIII)V"⟩
abbrev cX5_attempt : ByteArray := prog_7_method_5_code
def yX5_attempt : MethodName := ⟨RX5, "attempt", "(LNineActs$Show;IIIII)V"⟩
abbrev cX5_weigh : ByteArray := prog_7_method_6_code
def yX5_weigh : MethodName := ⟨RX5, "weigh", "(LNineActs$Show;II)V"⟩
abbrev cX5_isBetter : ByteArray := prog_7_method_7_code
def yX5_isBetter : MethodName := ⟨RX5, "isBetter", "(III)Z"⟩
def RX6 : String := "NineActs$Show"
def TX6 : u_T := fun k => match k with
  | 0 => ("NineActs$Show", "tunes", "[I", true)
  | 1 => ("NineActs$Show", "row", "[LNineActs$Act;", true)
  | 2 => ("NineActs$Show", "gap", "[I", true)
  | 3 => ("NineActs$Show", "start", "[I", true)
  | 4 => ("NineActs$Show", "end", "[I", true)
  | 5 => ("NineActs$Show", "toStrike", "[I", true)
  | 6 => ("NineActs$Show", "heatAt", "[I", true)
  | 7 => ("NineActs$Show", "claps", "[I", true)
  | 8 => ("NineActs$Show", "heatBehind", "[I", true)
  | 9 => ("NineActs$Show", "people", "[I", true)
  | 10 => ("NineActs$Show", "clapsSoFar", "[I", true)
  | 11 => ("NineActs$Show", "size", "I", false)
  | 12 => ("NineActs$Show", "pause", "I", false)
  | _ => ("NineActs$Show", "ices", "I", false)
def tyX6 : Nat → FieldType := fun k => match k with
  | 0 => .array .int
  | 1 => .array (.object "NineActs$Act")
  | 2 => .array .int
  | 3 => .array .int
  | 4 => .array .int
  | 5 => .array .int
  | 6 => .array .int
  | 7 => .array .int
  | 8 => .array .int
  | 9 => .array .int
  | 10 => .array .int
  | 11 => .int
  | 12 => .int
  | _ => .int
abbrev wsX60 : List Cond := u_ws RX6 TX6 14
theorem nmX6 : ∀ a, a < 14 → ∀ b, b < 14 → a ≠ b → (TX6 a).2.1 ≠ (TX6 b).2.1 := by decide +kernel
theorem tyX6_ok : ∀ k, k < 14 → parseFieldDescriptor (TX6 k).2.2.1 = some (tyX6 k) := by decide +kernel
abbrev cX6_init : ByteArray := prog_8_method_1_code
def yX6_init : MethodName := ⟨RX6, "<init>", "()V"⟩
abbrev cX6_open : ByteArray := prog_8_method_2_code
def yX6_open : MethodName := ⟨RX6, "open", "(II)V"⟩
abbrev cX6_seat : ByteArray := prog_8_method_3_code
def yX6_seat : MethodName := ⟨RX6, "seat", "(ILNineActs$Act;)V"⟩
abbrev cX6_applaud : ByteArray := prog_8_method_4_code
def yX6_applaud : MethodName := ⟨RX6, "applaud", "(II)V"⟩
abbrev cX6_pausesAhead : ByteArray := prog_8_method_5_code
def yX6_pausesAhead : MethodName := ⟨RX6, "pausesAhead", "(I)Z"⟩
abbrev cX6_damping : ByteArray := prog_8_method_6_code
def yX6_damping : MethodName := ⟨RX6, "damping", "(II)I"⟩
abbrev cX6_clapsBy : ByteArray := prog_8_method_7_code
def yX6_clapsBy : MethodName := ⟨RX6, "clapsBy", "(II)I"⟩
abbrev cX6_total : ByteArray := prog_8_method_8_code
def yX6_total : MethodName := ⟨RX6, "total", "()I"⟩
abbrev cX6_firstFailing : ByteArray := prog_8_method_9_code
def yX6_firstFailing : MethodName := ⟨RX6, "firstFailing", "(I)I"⟩
abbrev cX6_fails : ByteArray := prog_8_method_10_code
def yX6_fails : MethodName := ⟨RX6, "fails", "(II)Z"⟩
abbrev cX6_isStaged : ByteArray := prog_8_method_11_code
def yX6_isStaged : MethodName := ⟨RX6, "isStaged", "()Z"⟩
abbrev cX6_fits : ByteArray := prog_8_method_12_code
def yX6_fits : MethodName := ⟨RX6, "fits", "(I)Z"⟩
def RX7 : String := "NineActs"
def TX7 : u_T := fun k => match k with
  | 0 => ("NineActs", "script", "LNineActs$Script;", true)
  | 1 => ("NineActs", "cast", "LNineActs$Cast;", false)
  | 2 => ("NineActs", "draft", "LNineActs$Cast;", false)
  | 3 => ("NineActs", "bill", "LNineActs$Bill;", true)
  | 4 => ("NineActs", "images", "[LNineActs$Bill;", true)
  | 5 => ("NineActs", "show", "LNineActs$Show;", true)
  | 6 => ("NineActs", "bestSearch", "LNineActs$Search;", true)
  | 7 => ("NineActs", "illSearch", "LNineActs$Search;", true)
  | 8 => ("NineActs", "marks", "LNineActs$Marks;", true)
  | 9 => ("NineActs", "guest", "LNineActs$Act;", true)
  | 10 => ("NineActs", "line", "[I", true)
  | 11 => ("NineActs", "bestIsKnown", "Z", false)
  | _ => ("NineActs", "traced", "J", false)
def tyX7 : Nat → FieldType := fun k => match k with
  | 0 => .object "NineActs$Script"
  | 1 => .object "NineActs$Cast"
  | 2 => .object "NineActs$Cast"
  | 3 => .object "NineActs$Bill"
  | 4 => .array (.object "NineActs$Bill")
  | 5 => .object "NineActs$Show"
  | 6 => .object "NineActs$Search"
  | 7 => .object "NineActs$Search"
  | 8 => .object "NineActs$Marks"
  | 9 => .object "NineActs$Act"
  | 10 => .array .int
  | 11 => .boolean
  | _ => .long
abbrev wsX70 : List Cond := u_ws RX7 TX7 13
theorem nmX7 : ∀ a, a < 13 → ∀ b, b < 13 → a ≠ b → (TX7 a).2.1 ≠ (TX7 b).2.1 := by decide +kernel
theorem tyX7_ok : ∀ k, k < 13 → parseFieldDescriptor (TX7 k).2.2.1 = some (tyX7 k) := by decide +kernel
abbrev cX7_init : ByteArray := prog_1_method_1_code
def yX7_init : MethodName := ⟨RX7, "<init>", "()V"⟩
abbrev cX7_type : ByteArray := prog_1_method_2_code
def yX7_type : MethodName := ⟨RX7, "type", "(JI)I"⟩
abbrev cX7_clear : ByteArray := prog_1_method_3_code
def yX7_clear : MethodName := ⟨RX7, "clear", "()I"⟩
abbrev cX7_acts : ByteArray := prog_1_method_4_code
def yX7_acts : MethodName := ⟨RX7, "acts", "()I"⟩
abbrev cX7_act : ByteArray := prog_1_method_5_code
def yX7_act : MethodName := ⟨RX7, "act", "(II)I"⟩
abbrev cX7_feud : ByteArray := prog_1_method_6_code
def yX7_feud : MethodName := ⟨RX7, "feud", "(II)I"⟩
abbrev cX7_tune : ByteArray := prog_1_method_7_code
def yX7_tune : MethodName := ⟨RX7, "tune", "(II)I"⟩
abbrev cX7_family : ByteArray := prog_1_method_8_code
def yX7_family : MethodName := ⟨RX7, "family", "(II)I"⟩
abbrev cX7_place : ByteArray := prog_1_method_9_code
def yX7_place : MethodName := ⟨RX7, "place", "(I)I"⟩
abbrev cX7_empty : ByteArray := prog_1_method_10_code
def yX7_empty : MethodName := ⟨RX7, "empty", "()I"⟩
abbrev cX7_rest : ByteArray := prog_1_method_11_code
def yX7_rest : MethodName := ⟨RX7, "rest", "(I)I"⟩
abbrev cX7_on : ByteArray := prog_1_method_12_code
def yX7_on : MethodName := ⟨RX7, "on", "(I)I"⟩
abbrev cX7_minute : ByteArray := prog_1_method_13_code
def yX7_minute : MethodName := ⟨RX7, "minute", "(II)I"⟩
abbrev cX7_staged : ByteArray := prog_1_method_14_code
def yX7_staged : MethodName := ⟨RX7, "staged", "(I)I"⟩
abbrev cX7_night : ByteArray := prog_1_method_15_code
def yX7_night : MethodName := ⟨RX7, "night", "(II)I"⟩
abbrev cX7_worth : ByteArray := prog_1_method_16_code
def yX7_worth : MethodName := ⟨RX7, "worth", "(I)I"⟩
abbrev cX7_best : ByteArray := prog_1_method_17_code
def yX7_best : MethodName := ⟨RX7, "best", "(I)I"⟩
abbrev cX7_custom : ByteArray := prog_1_method_18_code
def yX7_custom : MethodName := ⟨RX7, "custom", "()I"⟩
abbrev cX7_when : ByteArray := prog_1_method_19_code
def yX7_when : MethodName := ⟨RX7, "when", "()I"⟩
abbrev cX7_ill : ByteArray := prog_1_method_20_code
def yX7_ill : MethodName := ⟨RX7, "ill", "(II)I"⟩
abbrev cX7_halves : ByteArray := prog_1_method_21_code
def yX7_halves : MethodName := ⟨RX7, "halves", "(I)I"⟩
abbrev cX7_tryout : ByteArray := prog_1_method_22_code
def yX7_tryout : MethodName := ⟨RX7, "tryout", "(IIII)I"⟩
abbrev cX7_mark : ByteArray := prog_1_method_23_code
def yX7_mark : MethodName := ⟨RX7, "mark", "(III)I"⟩
abbrev cX7_parted : ByteArray := prog_1_method_24_code
def yX7_parted : MethodName := ⟨RX7, "parted", "(II)I"⟩
abbrev cX7_opener : ByteArray := prog_1_method_25_code
def yX7_opener : MethodName := ⟨RX7, "opener", "()I"⟩
abbrev cX7_hold : ByteArray := prog_1_method_26_code
def yX7_hold : MethodName := ⟨RX7, "hold", "(I)I"⟩
abbrev cX7_drawn : ByteArray := prog_1_method_27_code
def yX7_drawn : MethodName := ⟨RX7, "drawn", "()I"⟩
abbrev cX7_lot : ByteArray := prog_1_method_28_code
def yX7_lot : MethodName := ⟨RX7, "lot", "(I)I"⟩
abbrev cX7_rate : ByteArray := prog_1_method_29_code
def yX7_rate : MethodName := ⟨RX7, "rate", "(II)I"⟩
abbrev cX7_keep : ByteArray := prog_1_method_30_code
def yX7_keep : MethodName := ⟨RX7, "keep", "(I)I"⟩
abbrev cX7_back : ByteArray := prog_1_method_31_code
def yX7_back : MethodName := ⟨RX7, "back", "(I)I"⟩
abbrev cX7_count : ByteArray := prog_1_method_32_code
def yX7_count : MethodName := ⟨RX7, "count", "(I)I"⟩
abbrev cX7_trace : ByteArray := prog_1_method_33_code
def yX7_trace : MethodName := ⟨RX7, "trace", "()J"⟩
abbrev cX7_isAct : ByteArray := prog_1_method_34_code
def yX7_isAct : MethodName := ⟨RX7, "isAct", "(I)Z"⟩
abbrev cX7_play : ByteArray := prog_1_method_35_code
def yX7_play : MethodName := ⟨RX7, "play", "([II)V"⟩
abbrev cX7_playWithGuest : ByteArray := prog_1_method_36_code
def yX7_playWithGuest : MethodName := ⟨RX7, "playWithGuest", "(I)V"⟩
abbrev cX7_lineUp : ByteArray := prog_1_method_37_code
def yX7_lineUp : MethodName := ⟨RX7, "lineUp", "(I)I"⟩
abbrev cX7_searchBest : ByteArray := prog_1_method_38_code
def yX7_searchBest : MethodName := ⟨RX7, "searchBest", "()V"⟩
abbrev cX7_searchWithout : ByteArray := prog_1_method_39_code
def yX7_searchWithout : MethodName := ⟨RX7, "searchWithout", "(II)V"⟩
abbrev cX7_isHall : ByteArray := prog_1_method_40_code
def yX7_isHall : MethodName := ⟨RX7, "isHall", "(II)Z"⟩
abbrev cX7_hasOneOfAKind : ByteArray := prog_1_method_41_code
def yX7_hasOneOfAKind : MethodName := ⟨RX7, "hasOneOfAKind", "(I)Z"⟩
abbrev cX7_apart : ByteArray := prog_1_method_42_code
def yX7_apart : MethodName := ⟨RX7, "apart", "(II)I"⟩
abbrev cX7_opensAhead : ByteArray := prog_1_method_43_code
def yX7_opensAhead : MethodName := ⟨RX7, "opensAhead", "(II)Z"⟩
abbrev cX7_sortByStrength : ByteArray := prog_1_method_44_code
def yX7_sortByStrength : MethodName := ⟨RX7, "sortByStrength", "()V"⟩
abbrev cX7_sortByFamilies : ByteArray := prog_1_method_45_code
def yX7_sortByFamilies : MethodName := ⟨RX7, "sortByFamilies", "()V"⟩
abbrev cX7_isWeaker : ByteArray := prog_1_method_46_code
def yX7_isWeaker : MethodName := ⟨RX7, "isWeaker", "(II)Z"⟩
abbrev cX7_holdsLess : ByteArray := prog_1_method_47_code
def yX7_holdsLess : MethodName := ⟨RX7, "holdsLess", "(II)Z"⟩
abbrev cX7_swapAhead : ByteArray := prog_1_method_48_code
def yX7_swapAhead : MethodName := ⟨RX7, "swapAhead", "(I)V"⟩
abbrev cX7_ratePlace : ByteArray := prog_1_method_49_code
def yX7_ratePlace : MethodName := ⟨RX7, "ratePlace", "(LNineActs$Act;)I"⟩
abbrev cX7_rateOpening : ByteArray := prog_1_method_50_code
def yX7_rateOpening : MethodName := ⟨RX7, "rateOpening", "(LNineActs$Act;)I"⟩
abbrev cX7_rateFrontCloth : ByteArray := prog_1_method_51_code
def yX7_rateFrontCloth : MethodName := ⟨RX7, "rateFrontCloth", "(LNineActs$Act;)I"⟩
abbrev cX7_rateSecond : ByteArray := prog_1_method_52_code
def yX7_rateSecond : MethodName := ⟨RX7, "rateSecond", "(LNineActs$Act;)I"⟩
abbrev cX7_rateDraw : ByteArray := prog_1_method_53_code
def yX7_rateDraw : MethodName := ⟨RX7, "rateDraw", "(LNineActs$Act;)I"⟩
abbrev cX7_rateClosing : ByteArray := prog_1_method_54_code
def yX7_rateClosing : MethodName := ⟨RX7, "rateClosing", "(LNineActs$Act;)I"⟩
def RX8 : String := "NineActsModel"
def TX8 : u_T := fun k => match k with
  | 0 => ("NineActsModel", "thrown", "I", false)
  | 1 => ("NineActsModel", "trace", "J", false)
  | 2 => ("NineActsModel", "text", "[I", true)
  | 3 => ("NineActsModel", "typed", "I", false)
  | 4 => ("NineActsModel", "next", "I", false)
  | 5 => ("NineActsModel", "token", "I", false)
  | 6 => ("NineActsModel", "place", "I", false)
  | 7 => ("NineActsModel", "value", "I", false)
  | 8 => ("NineActsModel", "fault", "I", false)
  | 9 => ("NineActsModel", "act", "[I", true)
  | 10 => ("NineActsModel", "acts", "I", false)
  | 11 => ("NineActsModel", "draftActs", "I", false)
  | 12 => ("NineActsModel", "tunes", "[I", true)
  | 13 => ("NineActsModel", "families", "[I", true)
  | 14 => ("NineActsModel", "s", "[I", true)
  | 15 => ("NineActsModel", "kept", "[I", true)
  | 16 => ("NineActsModel", "isKept", "[Z", true)
  | 17 => ("NineActsModel", "row", "[I", true)
  | 18 => ("NineActsModel", "many", "I", false)
  | 19 => ("NineActsModel", "rest", "I", false)
  | 20 => ("NineActsModel", "gaps", "[I", true)
  | 21 => ("NineActsModel", "starts", "[I", true)
  | 22 => ("NineActsModel", "heats", "[I", true)
  | 23 => ("NineActsModel", "claps", "[I", true)
  | 24 => ("NineActsModel", "heatsThen", "[I", true)
  | 25 => ("NineActsModel", "peopleThen", "[I", true)
  | 26 => ("NineActsModel", "ices", "I", false)
  | 27 => ("NineActsModel", "worth", "I", false)
  | 28 => ("NineActsModel", "failed", "I", false)
  | 29 => ("NineActsModel", "failedAt", "I", false)
  | 30 => ("NineActsModel", "markAct", "[I", true)
  | 31 => ("NineActsModel", "markPlace", "[I", true)
  | 32 => ("NineActsModel", "markClaps", "[I", true)
  | 33 => ("NineActsModel", "marks", "I", false)
  | 34 => ("NineActsModel", "bestValue", "I", false)
  | 35 => ("NineActsModel", "bestOrder", "I", false)
  | 36 => ("NineActsModel", "bestRest", "I", false)
  | 37 => ("NineActsModel", "bestMoved", "I", false)
  | 38 => ("NineActsModel", "stagedMany", "I", false)
  | 39 => ("NineActsModel", "closed", "[I", true)
  | _ => ("NineActsModel", "mosts", "[I", true)
def tyX8 : Nat → FieldType := fun k => match k with
  | 0 => .int
  | 1 => .long
  | 2 => .array .int
  | 3 => .int
  | 4 => .int
  | 5 => .int
  | 6 => .int
  | 7 => .int
  | 8 => .int
  | 9 => .array .int
  | 10 => .int
  | 11 => .int
  | 12 => .array .int
  | 13 => .array .int
  | 14 => .array .int
  | 15 => .array .int
  | 16 => .array .boolean
  | 17 => .array .int
  | 18 => .int
  | 19 => .int
  | 20 => .array .int
  | 21 => .array .int
  | 22 => .array .int
  | 23 => .array .int
  | 24 => .array .int
  | 25 => .array .int
  | 26 => .int
  | 27 => .int
  | 28 => .int
  | 29 => .int
  | 30 => .array .int
  | 31 => .array .int
  | 32 => .array .int
  | 33 => .int
  | 34 => .int
  | 35 => .int
  | 36 => .int
  | 37 => .int
  | 38 => .int
  | 39 => .array .int
  | _ => .array .int
abbrev wsX80 : List Cond := u_ws RX8 TX8 41
theorem nmX8 : ∀ a, a < 41 → ∀ b, b < 41 → a ≠ b → (TX8 a).2.1 ≠ (TX8 b).2.1 := by decide +kernel
theorem tyX8_ok : ∀ k, k < 41 → parseFieldDescriptor (TX8 k).2.2.1 = some (tyX8 k) := by decide +kernel
abbrev cX8_init : ByteArray := prog_10_method_1_code
def yX8_init : MethodName := ⟨RX8, "<init>", "()V"⟩
abbrev cX8_in : ByteArray := prog_10_method_3_code
def yX8_in : MethodName := ⟨RX8, "in", "(III)Z"⟩
abbrev cX8_of : ByteArray := prog_10_method_4_code
def yX8_of : MethodName := ⟨RX8, "of", "(II)I"⟩
abbrev cX8_type : ByteArray := prog_10_method_5_code
def yX8_type : MethodName := ⟨RX8, "type", "(JI)I"⟩
abbrev cX8_clear : ByteArray := prog_10_method_6_code
def yX8_clear : MethodName := ⟨RX8, "clear", "()I"⟩
abbrev cX8_byteAt : ByteArray := prog_10_method_7_code
def yX8_byteAt : MethodName := ⟨RX8, "byteAt", "(I)I"⟩
abbrev cX8_add : ByteArray := prog_10_method_8_code
def yX8_add : MethodName := ⟨RX8, "add", "(JI)J"⟩
abbrev cX8_word : ByteArray := prog_10_method_9_code
def yX8_word : MethodName := ⟨RX8, "word", "(IIIII)J"⟩
abbrev cX8_wordOf : ByteArray := prog_10_method_10_code
def yX8_wordOf : MethodName := ⟨RX8, "wordOf", "(J)I"⟩
abbrev cX8_advances : ByteArray := prog_10_method_11_code
def yX8_advances : MethodName := ⟨RX8, "advances", "()V"⟩
abbrev cX8_isWell : ByteArray := prog_10_method_12_code
def yX8_isWell : MethodName := ⟨RX8, "isWell", "()Z"⟩
abbrev cX8_takes : ByteArray := prog_10_method_13_code
def yX8_takes : MethodName := ⟨RX8, "takes", "(Z)I"⟩
abbrev cX8_number : ByteArray := prog_10_method_14_code
def yX8_number : MethodName := ⟨RX8, "number", "(II)I"⟩
abbrev cX8_isWord : ByteArray := prog_10_method_15_code
def yX8_isWord : MethodName := ⟨RX8, "isWord", "(I)Z"⟩
abbrev cX8_readsAct : ByteArray := prog_10_method_16_code
def yX8_readsAct : MethodName := ⟨RX8, "readsAct", "()V"⟩
abbrev cX8_readsFeud : ByteArray := prog_10_method_17_code
def yX8_readsFeud : MethodName := ⟨RX8, "readsFeud", "()V"⟩
abbrev cX8_acts : ByteArray := prog_10_method_18_code
def yX8_acts : MethodName := ⟨RX8, "acts", "()I"⟩
abbrev cX8_isAct : ByteArray := prog_10_method_19_code
def yX8_isAct : MethodName := ⟨RX8, "isAct", "(I)Z"⟩
abbrev cX8_act : ByteArray := prog_10_method_20_code
def yX8_act : MethodName := ⟨RX8, "act", "(II)I"⟩
abbrev cX8_feud : ByteArray := prog_10_method_21_code
def yX8_feud : MethodName := ⟨RX8, "feud", "(II)I"⟩
abbrev cX8_tune : ByteArray := prog_10_method_22_code
def yX8_tune : MethodName := ⟨RX8, "tune", "(II)I"⟩
abbrev cX8_family : ByteArray := prog_10_method_23_code
def yX8_family : MethodName := ⟨RX8, "family", "(II)I"⟩
abbrev cX8_placeOf : ByteArray := prog_10_method_24_code
def yX8_placeOf : MethodName := ⟨RX8, "placeOf", "(I)I"⟩
abbrev cX8_place : ByteArray := prog_10_method_25_code
def yX8_place : MethodName := ⟨RX8, "place", "(I)I"⟩
abbrev cX8_empty : ByteArray := prog_10_method_26_code
def yX8_empty : MethodName := ⟨RX8, "empty", "()I"⟩
abbrev cX8_rest : ByteArray := prog_10_method_27_code
def yX8_rest : MethodName := ⟨RX8, "rest", "(I)I"⟩
abbrev cX8_isPlace : ByteArray := prog_10_method_28_code
def yX8_isPlace : MethodName := ⟨RX8, "isPlace", "(I)Z"⟩
abbrev cX8_on : ByteArray := prog_10_method_29_code
def yX8_on : MethodName := ⟨RX8, "on", "(I)I"⟩
abbrev cX8_asBilled : ByteArray := prog_10_method_30_code
def yX8_asBilled : MethodName := ⟨RX8, "asBilled", "()V"⟩
abbrev cX8_end : ByteArray := prog_10_method_31_code
def yX8_end : MethodName := ⟨RX8, "end", "(I)I"⟩
abbrev cX8_isFront : ByteArray := prog_10_method_32_code
def yX8_isFront : MethodName := ⟨RX8, "isFront", "(I)Z"⟩
abbrev cX8_gapOf : ByteArray := prog_10_method_33_code
def yX8_gapOf : MethodName := ⟨RX8, "gapOf", "(I)I"⟩
abbrev cX8_lays : ByteArray := prog_10_method_34_code
def yX8_lays : MethodName := ⟨RX8, "lays", "()V"⟩
abbrev cX8_minute : ByteArray := prog_10_method_35_code
def yX8_minute : MethodName := ⟨RX8, "minute", "(II)I"⟩
abbrev cX8_isStaged : ByteArray := prog_10_method_36_code
def yX8_isStaged : MethodName := ⟨RX8, "isStaged", "()Z"⟩
abbrev cX8_staged : ByteArray := prog_10_method_37_code
def yX8_staged : MethodName := ⟨RX8, "staged", "(I)I"⟩
abbrev cX8_draws : ByteArray := prog_10_method_38_code
def yX8_draws : MethodName := ⟨RX8, "draws", "()I"⟩
abbrev cX8_nightOf : ByteArray := prog_10_method_39_code
def yX8_nightOf : MethodName := ⟨RX8, "nightOf", "(Z)I"⟩
abbrev cX8_less : ByteArray := prog_10_method_40_code
def yX8_less : MethodName := ⟨RX8, "less", "(II)I"⟩
abbrev cX8_night : ByteArray := prog_10_method_41_code
def yX8_night : MethodName := ⟨RX8, "night", "(II)I"⟩
abbrev cX8_worth : ByteArray := prog_10_method_42_code
def yX8_worth : MethodName := ⟨RX8, "worth", "(I)I"⟩
abbrev cX8_goesOn : ByteArray := prog_10_method_43_code
def yX8_goesOn : MethodName := ⟨RX8, "goesOn", "()Z"⟩
abbrev cX8_swaps : ByteArray := prog_10_method_44_code
def yX8_swaps : MethodName := ⟨RX8, "swaps", "(II)V"⟩
abbrev cX8_sortsRow : ByteArray := prog_10_method_45_code
def yX8_sortsRow : MethodName := ⟨RX8, "sortsRow", "()V"⟩
abbrev cX8_orderOf : ByteArray := prog_10_method_46_code
def yX8_orderOf : MethodName := ⟨RX8, "orderOf", "()I"⟩
abbrev cX8_goesThrough : ByteArray := prog_10_method_47_code
def yX8_goesThrough : MethodName := ⟨RX8, "goesThrough", "()V"⟩
abbrev cX8_best : ByteArray := prog_10_method_48_code
def yX8_best : MethodName := ⟨RX8, "best", "(I)I"⟩
abbrev cX8_custom : ByteArray := prog_10_method_49_code
def yX8_custom : MethodName := ⟨RX8, "custom", "()I"⟩
abbrev cX8_when : ByteArray := prog_10_method_50_code
def yX8_when : MethodName := ⟨RX8, "when", "()I"⟩
abbrev cX8_movedOf : ByteArray := prog_10_method_51_code
def yX8_movedOf : MethodName := ⟨RX8, "movedOf", "()I"⟩
abbrev cX8_ill : ByteArray := prog_10_method_52_code
def yX8_ill : MethodName := ⟨RX8, "ill", "(II)I"⟩
abbrev cX8_halves : ByteArray := prog_10_method_53_code
def yX8_halves : MethodName := ⟨RX8, "halves", "(I)I"⟩
abbrev cX8_hallsOf : ByteArray := prog_10_method_54_code
def yX8_hallsOf : MethodName := ⟨RX8, "hallsOf", "(III)I"⟩
abbrev cX8_tryout : ByteArray := prog_10_method_55_code
def yX8_tryout : MethodName := ⟨RX8, "tryout", "(IIII)I"⟩
abbrev cX8_mark : ByteArray := prog_10_method_56_code
def yX8_mark : MethodName := ⟨RX8, "mark", "(III)I"⟩
abbrev cX8_gcd : ByteArray := prog_10_method_57_code
def yX8_gcd : MethodName := ⟨RX8, "gcd", "(JJ)J"⟩
abbrev cX8_parted : ByteArray := prog_10_method_58_code
def yX8_parted : MethodName := ⟨RX8, "parted", "(II)I"⟩
abbrev cX8_opener : ByteArray := prog_10_method_59_code
def yX8_opener : MethodName := ⟨RX8, "opener", "()I"⟩
abbrev cX8_hold : ByteArray := prog_10_method_60_code
def yX8_hold : MethodName := ⟨RX8, "hold", "(I)I"⟩
abbrev cX8_drawn : ByteArray := prog_10_method_61_code
def yX8_drawn : MethodName := ⟨RX8, "drawn", "()I"⟩
abbrev cX8_lot : ByteArray := prog_10_method_62_code
def yX8_lot : MethodName := ⟨RX8, "lot", "(I)I"⟩
abbrev cX8_rate : ByteArray := prog_10_method_63_code
def yX8_rate : MethodName := ⟨RX8, "rate", "(II)I"⟩
abbrev cX8_keep : ByteArray := prog_10_method_64_code
def yX8_keep : MethodName := ⟨RX8, "keep", "(I)I"⟩
abbrev cX8_back : ByteArray := prog_10_method_65_code
def yX8_back : MethodName := ⟨RX8, "back", "(I)I"⟩
abbrev cX8_count : ByteArray := prog_10_method_66_code
def yX8_count : MethodName := ⟨RX8, "count", "(I)I"⟩
abbrev cX8_trace : ByteArray := prog_10_method_67_code
def yX8_trace : MethodName := ⟨RX8, "trace", "()J"⟩
def RJx8e188 : String := "java/lang/Cloneable"
def TJx8e188 : u_T := fun k => match k with
  | _ => ("", "", "", false)
def tyJx8e188 : Nat → FieldType := fun k => match k with
  | _ => .int
abbrev wsJx8e1880 : List Cond := u_ws RJx8e188 TJx8e188 0
theorem nmJx8e188 : ∀ a, a < 0 → ∀ b, b < 0 → a ≠ b → (TJx8e188 a).2.1 ≠ (TJx8e188 b).2.1 := by decide +kernel
theorem tyJx8e188_ok : ∀ k, k < 0 → parseFieldDescriptor (TJx8e188 k).2.2.1 = some (tyJx8e188 k) := by decide +kernel
def RJ6 : String := "java/lang/Integer"
def TJ6 : u_T := fun k => match k with
  | _ => ("", "", "", false)
def tyJ6 : Nat → FieldType := fun k => match k with
  | _ => .int
abbrev wsJ60 : List Cond := u_ws RJ6 TJ6 0
theorem nmJ6 : ∀ a, a < 0 → ∀ b, b < 0 → a ≠ b → (TJ6 a).2.1 ≠ (TJ6 b).2.1 := by decide +kernel
theorem tyJ6_ok : ∀ k, k < 0 → parseFieldDescriptor (TJ6 k).2.2.1 = some (tyJ6 k) := by decide +kernel
abbrev cJ6_bitCount_0f7a4 : ByteArray := prog_12_method_49_code
def yJ6_bitCount_0f7a4 : MethodName := ⟨RJ6, "bitCount", "(I)I"⟩
def RJ9 : String := "java/lang/Math"
def TJ9 : u_T := fun k => match k with
  | _ => ("", "", "", false)
def tyJ9 : Nat → FieldType := fun k => match k with
  | _ => .int
abbrev wsJ90 : List Cond := u_ws RJ9 TJ9 0
theorem nmJ9 : ∀ a, a < 0 → ∀ b, b < 0 → a ≠ b → (TJ9 a).2.1 ≠ (TJ9 b).2.1 := by decide +kernel
theorem tyJ9_ok : ∀ k, k < 0 → parseFieldDescriptor (TJ9 k).2.2.1 = some (tyJ9 k) := by decide +kernel
abbrev cJ9_abs_0f7a4 : ByteArray := prog_13_method_59_code
def yJ9_abs_0f7a4 : MethodName := ⟨RJ9, "abs", "(I)I"⟩
abbrev cJ9_abs_067f4 : ByteArray := prog_13_method_61_code
def yJ9_abs_067f4 : MethodName := ⟨RJ9, "abs", "(J)J"⟩
abbrev cJ9_max_7cf53 : ByteArray := prog_13_method_65_code
def yJ9_max_7cf53 : MethodName := ⟨RJ9, "max", "(II)I"⟩
abbrev cJ9_min_7cf53 : ByteArray := prog_13_method_69_code
def yJ9_min_7cf53 : MethodName := ⟨RJ9, "min", "(II)I"⟩
def RJ0 : String := "java/lang/String"
def TJ0 : u_T := fun k => match k with
  | _ => ("", "", "", false)
def tyJ0 : Nat → FieldType := fun k => match k with
  | _ => .int
abbrev wsJ00 : List Cond := u_ws RJ0 TJ0 0
theorem nmJ0 : ∀ a, a < 0 → ∀ b, b < 0 → a ≠ b → (TJ0 a).2.1 ≠ (TJ0 b).2.1 := by decide +kernel
theorem tyJ0_ok : ∀ k, k < 0 → parseFieldDescriptor (TJ0 k).2.2.1 = some (tyJ0 k) := by decide +kernel
abbrev cJ0_length_8abf5 : ByteArray := prog_14_method_54_code
def yJ0_length_8abf5 : MethodName := ⟨RJ0, "length", "()I"⟩
abbrev cJ0_charAt_5068e : ByteArray := prog_14_method_56_code
def yJ0_charAt_5068e : MethodName := ⟨RJ0, "charAt", "(I)C"⟩
abbrev cJ0_coder_7d493 : ByteArray := prog_14_method_152_code
def yJ0_coder_7d493 : MethodName := ⟨RJ0, "coder", "()B"⟩
abbrev cJ0_isLatin1_aae02 : ByteArray := prog_14_method_154_code
def yJ0_isLatin1_aae02 : MethodName := ⟨RJ0, "isLatin1", "()Z"⟩
abbrev cJ0_checkIndex_df160 : ByteArray := prog_14_method_155_code
def yJ0_checkIndex_df160 : MethodName := ⟨RJ0, "checkIndex", "(II)V"⟩
def RJ1 : String := "java/lang/StringLatin1"
def TJ1 : u_T := fun k => match k with
  | _ => ("", "", "", false)
def tyJ1 : Nat → FieldType := fun k => match k with
  | _ => .int
abbrev wsJ10 : List Cond := u_ws RJ1 TJ1 0
theorem nmJ1 : ∀ a, a < 0 → ∀ b, b < 0 → a ≠ b → (TJ1 a).2.1 ≠ (TJ1 b).2.1 := by decide +kernel
theorem tyJ1_ok : ∀ k, k < 0 → parseFieldDescriptor (TJ1 k).2.2.1 = some (tyJ1 k) := by decide +kernel
abbrev cJ1_charAt_3b067 : ByteArray := prog_15_method_2_code
def yJ1_charAt_3b067 : MethodName := ⟨RJ1, "charAt", "([BI)C"⟩
def RJ2 : String := "java/lang/StringUTF16"
def TJ2 : u_T := fun k => match k with
  | _ => ("", "", "", false)
def tyJ2 : Nat → FieldType := fun k => match k with
  | _ => .int
abbrev wsJ20 : List Cond := u_ws RJ2 TJ2 0
theorem nmJ2 : ∀ a, a < 0 → ∀ b, b < 0 → a ≠ b → (TJ2 a).2.1 ≠ (TJ2 b).2.1 := by decide +kernel
theorem tyJ2_ok : ∀ k, k < 0 → parseFieldDescriptor (TJ2 k).2.2.1 = some (tyJ2 k) := by decide +kernel
abbrev cJ2_getChar_3b067 : ByteArray := prog_16_method_5_code
def yJ2_getChar_3b067 : MethodName := ⟨RJ2, "getChar", "([BI)C"⟩
abbrev cJ2_length_9d52b : ByteArray := prog_16_method_6_code
def yJ2_length_9d52b : MethodName := ⟨RJ2, "length", "([B)I"⟩
abbrev cJ2_charAt_3b067 : ByteArray := prog_16_method_83_code
def yJ2_charAt_3b067 : MethodName := ⟨RJ2, "charAt", "([BI)C"⟩
abbrev cJ2_checkIndex_2214a : ByteArray := prog_16_method_91_code
def yJ2_checkIndex_2214a : MethodName := ⟨RJ2, "checkIndex", "(I[B)V"⟩
def RJ3 : String := "jdk/internal/util/Preconditions"
def TJ3 : u_T := fun k => match k with
  | _ => ("", "", "", false)
def tyJ3 : Nat → FieldType := fun k => match k with
  | _ => .int
abbrev wsJ30 : List Cond := u_ws RJ3 TJ3 0
theorem nmJ3 : ∀ a, a < 0 → ∀ b, b < 0 → a ≠ b → (TJ3 a).2.1 ≠ (TJ3 b).2.1 := by decide +kernel
theorem tyJ3_ok : ∀ k, k < 0 → parseFieldDescriptor (TJ3 k).2.2.1 = some (tyJ3 k) := by decide +kernel
abbrev cJ3_checkIndex_8e157 : ByteArray := prog_17_method_11_code
def yJ3_checkIndex_8e157 : MethodName := ⟨RJ3, "checkIndex", "(IILjava/util/function/BiFunction;)I"⟩
def RL : String := "NineActsLaw"
abbrev cL_law : ByteArray := code
def yL_law : MethodName := ⟨RL, "law", "([I)Z"⟩
abbrev vwCl : List vw_C := [(RX0, TX0, 11), (RX1, TX1, 5), (RX2, TX2, 2), (RX3, TX3, 5), (RX4, TX4, 6), (RX5, TX5, 8), (RX6, TX6, 14), (RX7, TX7, 13), (RX8, TX8, 41)]
/-- an instruction and the pc behind it -/
def dcd (c : ByteArray) (pc : Nat) : Option (Instr × Nat) := match decode c pc with
  | .ok q => some (q.1, pc + q.2)
  | _ => none
theorem dcd_ok {c : ByteArray} {pc n : Nat} {i : Instr} (h : dcd c pc = some (i, n)) : ∃ k, decode c pc = .ok (i, k) ∧ n = pc + k := by
  unfold dcd at h
  split at h
  · next q hq => cases h; exact ⟨q.2, hq, rfl⟩
  · cases h
end
section
theorem dX0_init_0 : dcd cX0_init 0 = some (.aload_n 0, 1) := by decide +kernel
theorem dX0_init_1 : dcd cX0_init 1 = some (.invokespecial 3, 4) := by decide +kernel
theorem dX0_init_4 : dcd cX0_init 4 = some (.aload_n 0, 5) := by decide +kernel
theorem dX0_init_5 : dcd cX0_init 5 = some (.iload_n 1, 6) := by decide +kernel
theorem dX0_init_6 : dcd cX0_init 6 = some (.putfield 9, 9) := by decide +kernel
theorem dX0_init_9 : dcd cX0_init 9 = some (.return_, 10) := by decide +kernel
theorem dX0_forget_0 : dcd cX0_forget 0 = some (.aload_n 0, 1) := by decide +kernel
theorem dX0_forget_1 : dcd cX0_forget 1 = some (.iconst 0, 2) := by decide +kernel
theorem dX0_forget_2 : dcd cX0_forget 2 = some (.putfield 15, 5) := by decide +kernel
theorem dX0_forget_5 : dcd cX0_forget 5 = some (.aload_n 0, 6) := by decide +kernel
theorem dX0_forget_6 : dcd cX0_forget 6 = some (.iconst 0, 7) := by decide +kernel
theorem dX0_forget_7 : dcd cX0_forget 7 = some (.putfield 18, 10) := by decide +kernel
theorem dX0_forget_10 : dcd cX0_forget 10 = some (.aload_n 0, 11) := by decide +kernel
theorem dX0_forget_11 : dcd cX0_forget 11 = some (.iconst 0, 12) := by decide +kernel
theorem dX0_forget_12 : dcd cX0_forget 12 = some (.putfield 21, 15) := by decide +kernel
theorem dX0_forget_15 : dcd cX0_forget 15 = some (.aload_n 0, 16) := by decide +kernel
theorem dX0_forget_16 : dcd cX0_forget 16 = some (.iconst 0, 17) := by decide +kernel
theorem dX0_forget_17 : dcd cX0_forget 17 = some (.putfield 24, 20) := by decide +kernel
theorem dX0_forget_20 : dcd cX0_forget 20 = some (.aload_n 0, 21) := by decide +kernel
theorem dX0_forget_21 : dcd cX0_forget 21 = some (.iconst 0, 22) := by decide +kernel
theorem dX0_forget_22 : dcd cX0_forget 22 = some (.putfield 28, 25) := by decide +kernel
theorem dX0_forget_25 : dcd cX0_forget 25 = some (.aload_n 0, 26) := by decide +kernel
theorem dX0_forget_26 : dcd cX0_forget 26 = some (.iconst 0, 27) := by decide +kernel
theorem dX0_forget_27 : dcd cX0_forget 27 = some (.putfield 31, 30) := by decide +kernel
theorem dX0_forget_30 : dcd cX0_forget 30 = some (.aload_n 0, 31) := by decide +kernel
theorem dX0_forget_31 : dcd cX0_forget 31 = some (.iconst 0, 32) := by decide +kernel
theorem dX0_forget_32 : dcd cX0_forget 32 = some (.putfield 34, 35) := by decide +kernel
theorem dX0_forget_35 : dcd cX0_forget 35 = some (.aload_n 0, 36) := by decide +kernel
theorem dX0_forget_36 : dcd cX0_forget 36 = some (.iconst 0, 37) := by decide +kernel
theorem dX0_forget_37 : dcd cX0_forget 37 = some (.putfield 37, 40) := by decide +kernel
theorem dX0_forget_40 : dcd cX0_forget 40 = some (.aload_n 0, 41) := by decide +kernel
theorem dX0_forget_41 : dcd cX0_forget 41 = some (.iconst 0, 42) := by decide +kernel
theorem dX0_forget_42 : dcd cX0_forget 42 = some (.putfield 40, 45) := by decide +kernel
theorem dX0_forget_45 : dcd cX0_forget 45 = some (.aload_n 0, 46) := by decide +kernel
theorem dX0_forget_46 : dcd cX0_forget 46 = some (.iconst 0, 47) := by decide +kernel
theorem dX0_forget_47 : dcd cX0_forget 47 = some (.putfield 43, 50) := by decide +kernel
theorem dX0_forget_50 : dcd cX0_forget 50 = some (.return_, 51) := by decide +kernel
theorem dX0_hates_0 : dcd cX0_hates 0 = some (.aload_n 0, 1) := by decide +kernel
theorem dX0_hates_1 : dcd cX0_hates 1 = some (.getfield 43, 4) := by decide +kernel
theorem dX0_hates_4 : dcd cX0_hates 4 = some (.iload_n 1, 5) := by decide +kernel
theorem dX0_hates_5 : dcd cX0_hates 5 = some (.ishr, 6) := by decide +kernel
theorem dX0_hates_6 : dcd cX0_hates 6 = some (.iconst 1, 7) := by decide +kernel
theorem dX0_hates_7 : dcd cX0_hates 7 = some (.iand, 8) := by decide +kernel
theorem dX0_hates_8 : dcd cX0_hates 8 = some (.iconst 1, 9) := by decide +kernel
theorem dX0_hates_9 : dcd cX0_hates 9 = some (.if_icmp .ne 7, 12) := by decide +kernel
theorem dX0_hates_12 : dcd cX0_hates 12 = some (.iconst 1, 13) := by decide +kernel
theorem dX0_hates_13 : dcd cX0_hates 13 = some (.goto 4, 16) := by decide +kernel
theorem dX0_hates_16 : dcd cX0_hates 16 = some (.iconst 0, 17) := by decide +kernel
theorem dX0_hates_17 : dcd cX0_hates 17 = some (.ireturn, 18) := by decide +kernel
theorem dX1_init_0 : dcd cX1_init 0 = some (.aload_n 0, 1) := by decide +kernel
theorem dX1_init_1 : dcd cX1_init 1 = some (.invokespecial 3, 4) := by decide +kernel
theorem dX1_init_4 : dcd cX1_init 4 = some (.aload_n 0, 5) := by decide +kernel
theorem dX1_init_5 : dcd cX1_init 5 = some (.bipush 9, 7) := by decide +kernel
theorem dX1_init_7 : dcd cX1_init 7 = some (.newarray .int, 9) := by decide +kernel
theorem dX1_init_9 : dcd cX1_init 9 = some (.putfield 9, 12) := by decide +kernel
theorem dX1_init_12 : dcd cX1_init 12 = some (.return_, 13) := by decide +kernel
theorem dX1_hasPlace_0 : dcd cX1_hasPlace 0 = some (.iload_n 1, 1) := by decide +kernel
theorem dX1_hasPlace_1 : dcd cX1_hasPlace 1 = some (.ifCond .lt 15, 4) := by decide +kernel
theorem dX1_hasPlace_4 : dcd cX1_hasPlace 4 = some (.iload_n 1, 5) := by decide +kernel
theorem dX1_hasPlace_5 : dcd cX1_hasPlace 5 = some (.aload_n 0, 6) := by decide +kernel
theorem dX1_hasPlace_6 : dcd cX1_hasPlace 6 = some (.getfield 15, 9) := by decide +kernel
theorem dX1_hasPlace_9 : dcd cX1_hasPlace 9 = some (.if_icmp .ge 7, 12) := by decide +kernel
theorem dX1_hasPlace_12 : dcd cX1_hasPlace 12 = some (.iconst 1, 13) := by decide +kernel
theorem dX1_hasPlace_13 : dcd cX1_hasPlace 13 = some (.goto 4, 16) := by decide +kernel
theorem dX1_hasPlace_16 : dcd cX1_hasPlace 16 = some (.iconst 0, 17) := by decide +kernel
theorem dX1_hasPlace_17 : dcd cX1_hasPlace 17 = some (.ireturn, 18) := by decide +kernel
theorem dX1_placeOf_0 : dcd cX1_placeOf 0 = some (.iconst 0, 1) := by decide +kernel
theorem dX1_placeOf_1 : dcd cX1_placeOf 1 = some (.istore_n 2, 2) := by decide +kernel
theorem dX1_placeOf_2 : dcd cX1_placeOf 2 = some (.iload_n 2, 3) := by decide +kernel
theorem dX1_placeOf_3 : dcd cX1_placeOf 3 = some (.aload_n 0, 4) := by decide +kernel
theorem dX1_placeOf_4 : dcd cX1_placeOf 4 = some (.getfield 15, 7) := by decide +kernel
theorem dX1_placeOf_7 : dcd cX1_placeOf 7 = some (.if_icmp .ge 21, 10) := by decide +kernel
theorem dX1_placeOf_10 : dcd cX1_placeOf 10 = some (.aload_n 0, 11) := by decide +kernel
theorem dX1_placeOf_11 : dcd cX1_placeOf 11 = some (.getfield 9, 14) := by decide +kernel
theorem dX1_placeOf_14 : dcd cX1_placeOf 14 = some (.iload_n 2, 15) := by decide +kernel
theorem dX1_placeOf_15 : dcd cX1_placeOf 15 = some (.iaload, 16) := by decide +kernel
theorem dX1_placeOf_16 : dcd cX1_placeOf 16 = some (.iload_n 1, 17) := by decide +kernel
theorem dX1_placeOf_17 : dcd cX1_placeOf 17 = some (.if_icmp .ne 5, 20) := by decide +kernel
theorem dX1_placeOf_20 : dcd cX1_placeOf 20 = some (.iload_n 2, 21) := by decide +kernel
theorem dX1_placeOf_21 : dcd cX1_placeOf 21 = some (.ireturn, 22) := by decide +kernel
theorem dX1_placeOf_22 : dcd cX1_placeOf 22 = some (.iinc 2 1, 25) := by decide +kernel
theorem dX1_placeOf_25 : dcd cX1_placeOf 25 = some (.goto (-23), 28) := by decide +kernel
theorem dX1_placeOf_28 : dcd cX1_placeOf 28 = some (.bipush (-9), 30) := by decide +kernel
theorem dX1_placeOf_30 : dcd cX1_placeOf 30 = some (.ireturn, 31) := by decide +kernel
theorem dX1_append_0 : dcd cX1_append 0 = some (.aload_n 0, 1) := by decide +kernel
theorem dX1_append_1 : dcd cX1_append 1 = some (.getfield 15, 4) := by decide +kernel
theorem dX1_append_4 : dcd cX1_append 4 = some (.bipush 9, 6) := by decide +kernel
theorem dX1_append_6 : dcd cX1_append 6 = some (.if_icmp .ge 23, 9) := by decide +kernel
theorem dX1_append_9 : dcd cX1_append 9 = some (.aload_n 0, 10) := by decide +kernel
theorem dX1_append_10 : dcd cX1_append 10 = some (.getfield 9, 13) := by decide +kernel
theorem dX1_append_13 : dcd cX1_append 13 = some (.aload_n 0, 14) := by decide +kernel
theorem dX1_append_14 : dcd cX1_append 14 = some (.getfield 15, 17) := by decide +kernel
theorem dX1_append_17 : dcd cX1_append 17 = some (.iload_n 1, 18) := by decide +kernel
theorem dX1_append_18 : dcd cX1_append 18 = some (.iastore, 19) := by decide +kernel
theorem dX1_append_19 : dcd cX1_append 19 = some (.aload_n 0, 20) := by decide +kernel
theorem dX1_append_20 : dcd cX1_append 20 = some (.dup, 21) := by decide +kernel
theorem dX1_append_21 : dcd cX1_append 21 = some (.getfield 15, 24) := by decide +kernel
theorem dX1_append_24 : dcd cX1_append 24 = some (.iconst 1, 25) := by decide +kernel
theorem dX1_append_25 : dcd cX1_append 25 = some (.iadd, 26) := by decide +kernel
theorem dX1_append_26 : dcd cX1_append 26 = some (.putfield 15, 29) := by decide +kernel
theorem dX1_append_29 : dcd cX1_append 29 = some (.return_, 30) := by decide +kernel
theorem dX1_strip_0 : dcd cX1_strip 0 = some (.aload_n 0, 1) := by decide +kernel
theorem dX1_strip_1 : dcd cX1_strip 1 = some (.iconst 0, 2) := by decide +kernel
theorem dX1_strip_2 : dcd cX1_strip 2 = some (.putfield 15, 5) := by decide +kernel
theorem dX1_strip_5 : dcd cX1_strip 5 = some (.aload_n 0, 6) := by decide +kernel
theorem dX1_strip_6 : dcd cX1_strip 6 = some (.iconst 0, 7) := by decide +kernel
theorem dX1_strip_7 : dcd cX1_strip 7 = some (.putfield 19, 10) := by decide +kernel
theorem dX1_strip_10 : dcd cX1_strip 10 = some (.return_, 11) := by decide +kernel
theorem dX1_bits_0 : dcd cX1_bits 0 = some (.iconst 0, 1) := by decide +kernel
theorem dX1_bits_1 : dcd cX1_bits 1 = some (.istore_n 1, 2) := by decide +kernel
theorem dX1_bits_2 : dcd cX1_bits 2 = some (.iconst 0, 3) := by decide +kernel
theorem dX1_bits_3 : dcd cX1_bits 3 = some (.istore_n 2, 4) := by decide +kernel
theorem dX1_bits_4 : dcd cX1_bits 4 = some (.iload_n 2, 5) := by decide +kernel
theorem dX1_bits_5 : dcd cX1_bits 5 = some (.aload_n 0, 6) := by decide +kernel
theorem dX1_bits_6 : dcd cX1_bits 6 = some (.getfield 15, 9) := by decide +kernel
theorem dX1_bits_9 : dcd cX1_bits 9 = some (.if_icmp .ge 20, 12) := by decide +kernel
theorem dX1_bits_12 : dcd cX1_bits 12 = some (.iload_n 1, 13) := by decide +kernel
theorem dX1_bits_13 : dcd cX1_bits 13 = some (.iconst 1, 14) := by decide +kernel
theorem dX1_bits_14 : dcd cX1_bits 14 = some (.aload_n 0, 15) := by decide +kernel
theorem dX1_bits_15 : dcd cX1_bits 15 = some (.getfield 9, 18) := by decide +kernel
theorem dX1_bits_18 : dcd cX1_bits 18 = some (.iload_n 2, 19) := by decide +kernel
theorem dX1_bits_19 : dcd cX1_bits 19 = some (.iaload, 20) := by decide +kernel
theorem dX1_bits_20 : dcd cX1_bits 20 = some (.ishl, 21) := by decide +kernel
theorem dX1_bits_21 : dcd cX1_bits 21 = some (.ior, 22) := by decide +kernel
theorem dX1_bits_22 : dcd cX1_bits 22 = some (.istore_n 1, 23) := by decide +kernel
theorem dX1_bits_23 : dcd cX1_bits 23 = some (.iinc 2 1, 26) := by decide +kernel
theorem dX1_bits_26 : dcd cX1_bits 26 = some (.goto (-22), 29) := by decide +kernel
theorem dX1_bits_29 : dcd cX1_bits 29 = some (.iload_n 1, 30) := by decide +kernel
theorem dX1_bits_30 : dcd cX1_bits 30 = some (.ireturn, 31) := by decide +kernel
theorem dX1_draw_0 : dcd cX1_draw 0 = some (.aload_n 0, 1) := by decide +kernel
theorem dX1_draw_1 : dcd cX1_draw 1 = some (.aload_n 0, 2) := by decide +kernel
theorem dX1_draw_2 : dcd cX1_draw 2 = some (.getfield 22, 5) := by decide +kernel
theorem dX1_draw_5 : dcd cX1_draw 5 = some (.ldc 25, 7) := by decide +kernel
theorem dX1_draw_7 : dcd cX1_draw 7 = some (.imul, 8) := by decide +kernel
theorem dX1_draw_8 : dcd cX1_draw 8 = some (.sipush 12345, 11) := by decide +kernel
theorem dX1_draw_11 : dcd cX1_draw 11 = some (.iadd, 12) := by decide +kernel
theorem dX1_draw_12 : dcd cX1_draw 12 = some (.putfield 22, 15) := by decide +kernel
theorem dX1_draw_15 : dcd cX1_draw 15 = some (.aload_n 0, 16) := by decide +kernel
theorem dX1_draw_16 : dcd cX1_draw 16 = some (.getfield 22, 19) := by decide +kernel
theorem dX1_draw_19 : dcd cX1_draw 19 = some (.bipush 16, 21) := by decide +kernel
theorem dX1_draw_21 : dcd cX1_draw 21 = some (.iushr, 22) := by decide +kernel
theorem dX1_draw_22 : dcd cX1_draw 22 = some (.iconst 5, 23) := by decide +kernel
theorem dX1_draw_23 : dcd cX1_draw 23 = some (.irem, 24) := by decide +kernel
theorem dX1_draw_24 : dcd cX1_draw 24 = some (.ireturn, 25) := by decide +kernel
theorem dX1_copy_0 : dcd cX1_copy 0 = some (.iconst 0, 1) := by decide +kernel
theorem dX1_copy_1 : dcd cX1_copy 1 = some (.istore_n 2, 2) := by decide +kernel
theorem dX1_copy_2 : dcd cX1_copy 2 = some (.iload_n 2, 3) := by decide +kernel
theorem dX1_copy_3 : dcd cX1_copy 3 = some (.aload_n 1, 4) := by decide +kernel
theorem dX1_copy_4 : dcd cX1_copy 4 = some (.getfield 15, 7) := by decide +kernel
theorem dX1_copy_7 : dcd cX1_copy 7 = some (.if_icmp .ge 21, 10) := by decide +kernel
theorem dX1_copy_10 : dcd cX1_copy 10 = some (.aload_n 0, 11) := by decide +kernel
theorem dX1_copy_11 : dcd cX1_copy 11 = some (.getfield 9, 14) := by decide +kernel
theorem dX1_copy_14 : dcd cX1_copy 14 = some (.iload_n 2, 15) := by decide +kernel
theorem dX1_copy_15 : dcd cX1_copy 15 = some (.aload_n 1, 16) := by decide +kernel
theorem dX1_copy_16 : dcd cX1_copy 16 = some (.getfield 9, 19) := by decide +kernel
theorem dX1_copy_19 : dcd cX1_copy 19 = some (.iload_n 2, 20) := by decide +kernel
theorem dX1_copy_20 : dcd cX1_copy 20 = some (.iaload, 21) := by decide +kernel
theorem dX1_copy_21 : dcd cX1_copy 21 = some (.iastore, 22) := by decide +kernel
theorem dX1_copy_22 : dcd cX1_copy 22 = some (.iinc 2 1, 25) := by decide +kernel
theorem dX1_copy_25 : dcd cX1_copy 25 = some (.goto (-23), 28) := by decide +kernel
theorem dX1_copy_28 : dcd cX1_copy 28 = some (.aload_n 0, 29) := by decide +kernel
theorem dX1_copy_29 : dcd cX1_copy 29 = some (.aload_n 1, 30) := by decide +kernel
theorem dX1_copy_30 : dcd cX1_copy 30 = some (.getfield 15, 33) := by decide +kernel
theorem dX1_copy_33 : dcd cX1_copy 33 = some (.putfield 15, 36) := by decide +kernel
theorem dX1_copy_36 : dcd cX1_copy 36 = some (.aload_n 0, 37) := by decide +kernel
theorem dX1_copy_37 : dcd cX1_copy 37 = some (.aload_n 1, 38) := by decide +kernel
theorem dX1_copy_38 : dcd cX1_copy 38 = some (.getfield 19, 41) := by decide +kernel
theorem dX1_copy_41 : dcd cX1_copy 41 = some (.putfield 19, 44) := by decide +kernel
theorem dX1_copy_44 : dcd cX1_copy 44 = some (.aload_n 0, 45) := by decide +kernel
theorem dX1_copy_45 : dcd cX1_copy 45 = some (.aload_n 1, 46) := by decide +kernel
theorem dX1_copy_46 : dcd cX1_copy 46 = some (.getfield 22, 49) := by decide +kernel
theorem dX1_copy_49 : dcd cX1_copy 49 = some (.putfield 22, 52) := by decide +kernel
theorem dX1_copy_52 : dcd cX1_copy 52 = some (.return_, 53) := by decide +kernel
theorem dX2_init_0 : dcd cX2_init 0 = some (.aload_n 0, 1) := by decide +kernel
theorem dX2_init_1 : dcd cX2_init 1 = some (.invokespecial 3, 4) := by decide +kernel
theorem dX2_init_4 : dcd cX2_init 4 = some (.aload_n 0, 5) := by decide +kernel
theorem dX2_init_5 : dcd cX2_init 5 = some (.bipush 9, 7) := by decide +kernel
theorem dX2_init_7 : dcd cX2_init 7 = some (.anewarray 9, 10) := by decide +kernel
theorem dX2_init_10 : dcd cX2_init 10 = some (.putfield 11, 13) := by decide +kernel
theorem dX2_init_13 : dcd cX2_init 13 = some (.iconst 0, 14) := by decide +kernel
theorem dX2_init_14 : dcd cX2_init 14 = some (.istore_n 1, 15) := by decide +kernel
theorem dX2_init_15 : dcd cX2_init 15 = some (.iload_n 1, 16) := by decide +kernel
theorem dX2_init_16 : dcd cX2_init 16 = some (.bipush 9, 18) := by decide +kernel
theorem dX2_init_18 : dcd cX2_init 18 = some (.if_icmp .ge 23, 21) := by decide +kernel
theorem dX2_init_21 : dcd cX2_init 21 = some (.aload_n 0, 22) := by decide +kernel
theorem dX2_init_22 : dcd cX2_init 22 = some (.getfield 11, 25) := by decide +kernel
theorem dX2_init_25 : dcd cX2_init 25 = some (.iload_n 1, 26) := by decide +kernel
theorem dX2_init_26 : dcd cX2_init 26 = some (.new 9, 29) := by decide +kernel
theorem dX2_init_29 : dcd cX2_init 29 = some (.dup, 30) := by decide +kernel
theorem dX2_init_30 : dcd cX2_init 30 = some (.iload_n 1, 31) := by decide +kernel
theorem dX2_init_31 : dcd cX2_init 31 = some (.invokespecial 17, 34) := by decide +kernel
theorem dX2_init_34 : dcd cX2_init 34 = some (.aastore, 35) := by decide +kernel
theorem dX2_init_35 : dcd cX2_init 35 = some (.iinc 1 1, 38) := by decide +kernel
theorem dX2_init_38 : dcd cX2_init 38 = some (.goto (-23), 41) := by decide +kernel
theorem dX2_init_41 : dcd cX2_init 41 = some (.aload_n 0, 42) := by decide +kernel
theorem dX2_init_42 : dcd cX2_init 42 = some (.iconst 0, 43) := by decide +kernel
theorem dX2_init_43 : dcd cX2_init 43 = some (.putfield 20, 46) := by decide +kernel
theorem dX2_init_46 : dcd cX2_init 46 = some (.return_, 47) := by decide +kernel
theorem dX2_fallOut_0 : dcd cX2_fallOut 0 = some (.aload_n 0, 1) := by decide +kernel
theorem dX2_fallOut_1 : dcd cX2_fallOut 1 = some (.getfield 11, 4) := by decide +kernel
theorem dX2_fallOut_4 : dcd cX2_fallOut 4 = some (.iload_n 1, 5) := by decide +kernel
theorem dX2_fallOut_5 : dcd cX2_fallOut 5 = some (.aaload, 6) := by decide +kernel
theorem dX2_fallOut_6 : dcd cX2_fallOut 6 = some (.dup, 7) := by decide +kernel
theorem dX2_fallOut_7 : dcd cX2_fallOut 7 = some (.getfield 24, 10) := by decide +kernel
theorem dX2_fallOut_10 : dcd cX2_fallOut 10 = some (.iconst 1, 11) := by decide +kernel
theorem dX2_fallOut_11 : dcd cX2_fallOut 11 = some (.iload_n 2, 12) := by decide +kernel
theorem dX2_fallOut_12 : dcd cX2_fallOut 12 = some (.ishl, 13) := by decide +kernel
theorem dX2_fallOut_13 : dcd cX2_fallOut 13 = some (.ior, 14) := by decide +kernel
theorem dX2_fallOut_14 : dcd cX2_fallOut 14 = some (.putfield 24, 17) := by decide +kernel
theorem dX2_fallOut_17 : dcd cX2_fallOut 17 = some (.aload_n 0, 18) := by decide +kernel
theorem dX2_fallOut_18 : dcd cX2_fallOut 18 = some (.getfield 11, 21) := by decide +kernel
theorem dX2_fallOut_21 : dcd cX2_fallOut 21 = some (.iload_n 2, 22) := by decide +kernel
theorem dX2_fallOut_22 : dcd cX2_fallOut 22 = some (.aaload, 23) := by decide +kernel
theorem dX2_fallOut_23 : dcd cX2_fallOut 23 = some (.dup, 24) := by decide +kernel
theorem dX2_fallOut_24 : dcd cX2_fallOut 24 = some (.getfield 24, 27) := by decide +kernel
theorem dX2_fallOut_27 : dcd cX2_fallOut 27 = some (.iconst 1, 28) := by decide +kernel
theorem dX2_fallOut_28 : dcd cX2_fallOut 28 = some (.iload_n 1, 29) := by decide +kernel
theorem dX2_fallOut_29 : dcd cX2_fallOut 29 = some (.ishl, 30) := by decide +kernel
theorem dX2_fallOut_30 : dcd cX2_fallOut 30 = some (.ior, 31) := by decide +kernel
theorem dX2_fallOut_31 : dcd cX2_fallOut 31 = some (.putfield 24, 34) := by decide +kernel
theorem dX2_fallOut_34 : dcd cX2_fallOut 34 = some (.return_, 35) := by decide +kernel
theorem dX3_init_0 : dcd cX3_init 0 = some (.aload_n 0, 1) := by decide +kernel
theorem dX3_init_1 : dcd cX3_init 1 = some (.invokespecial 3, 4) := by decide +kernel
theorem dX3_init_4 : dcd cX3_init 4 = some (.aload_n 0, 5) := by decide +kernel
theorem dX3_init_5 : dcd cX3_init 5 = some (.bipush 81, 7) := by decide +kernel
theorem dX3_init_7 : dcd cX3_init 7 = some (.newarray .int, 9) := by decide +kernel
theorem dX3_init_9 : dcd cX3_init 9 = some (.putfield 9, 12) := by decide +kernel
theorem dX3_init_12 : dcd cX3_init 12 = some (.aload_n 0, 13) := by decide +kernel
theorem dX3_init_13 : dcd cX3_init 13 = some (.bipush 81, 15) := by decide +kernel
theorem dX3_init_15 : dcd cX3_init 15 = some (.newarray .int, 17) := by decide +kernel
theorem dX3_init_17 : dcd cX3_init 17 = some (.putfield 15, 20) := by decide +kernel
theorem dX3_init_20 : dcd cX3_init 20 = some (.aload_n 0, 21) := by decide +kernel
theorem dX3_init_21 : dcd cX3_init 21 = some (.lconst 1, 22) := by decide +kernel
theorem dX3_init_22 : dcd cX3_init 22 = some (.putfield 18, 25) := by decide +kernel
theorem dX3_init_25 : dcd cX3_init 25 = some (.return_, 26) := by decide +kernel
theorem dX3_forget_0 : dcd cX3_forget 0 = some (.iconst 0, 1) := by decide +kernel
theorem dX3_forget_1 : dcd cX3_forget 1 = some (.istore_n 1, 2) := by decide +kernel
theorem dX3_forget_2 : dcd cX3_forget 2 = some (.iload_n 1, 3) := by decide +kernel
theorem dX3_forget_3 : dcd cX3_forget 3 = some (.bipush 81, 5) := by decide +kernel
theorem dX3_forget_5 : dcd cX3_forget 5 = some (.if_icmp .ge 23, 8) := by decide +kernel
theorem dX3_forget_8 : dcd cX3_forget 8 = some (.aload_n 0, 9) := by decide +kernel
theorem dX3_forget_9 : dcd cX3_forget 9 = some (.getfield 9, 12) := by decide +kernel
theorem dX3_forget_12 : dcd cX3_forget 12 = some (.iload_n 1, 13) := by decide +kernel
theorem dX3_forget_13 : dcd cX3_forget 13 = some (.iconst 0, 14) := by decide +kernel
theorem dX3_forget_14 : dcd cX3_forget 14 = some (.iastore, 15) := by decide +kernel
theorem dX3_forget_15 : dcd cX3_forget 15 = some (.aload_n 0, 16) := by decide +kernel
theorem dX3_forget_16 : dcd cX3_forget 16 = some (.getfield 15, 19) := by decide +kernel
theorem dX3_forget_19 : dcd cX3_forget 19 = some (.iload_n 1, 20) := by decide +kernel
theorem dX3_forget_20 : dcd cX3_forget 20 = some (.iconst 0, 21) := by decide +kernel
theorem dX3_forget_21 : dcd cX3_forget 21 = some (.iastore, 22) := by decide +kernel
theorem dX3_forget_22 : dcd cX3_forget 22 = some (.iinc 1 1, 25) := by decide +kernel
theorem dX3_forget_25 : dcd cX3_forget 25 = some (.goto (-23), 28) := by decide +kernel
theorem dX3_forget_28 : dcd cX3_forget 28 = some (.aload_n 0, 29) := by decide +kernel
theorem dX3_forget_29 : dcd cX3_forget 29 = some (.iconst 0, 30) := by decide +kernel
theorem dX3_forget_30 : dcd cX3_forget 30 = some (.putfield 22, 33) := by decide +kernel
theorem dX3_forget_33 : dcd cX3_forget 33 = some (.return_, 34) := by decide +kernel
theorem dX3_append_0 : dcd cX3_append 0 = some (.aload_n 0, 1) := by decide +kernel
theorem dX3_append_1 : dcd cX3_append 1 = some (.getfield 9, 4) := by decide +kernel
theorem dX3_append_4 : dcd cX3_append 4 = some (.iload_n 1, 5) := by decide +kernel
theorem dX3_append_5 : dcd cX3_append 5 = some (.bipush 9, 7) := by decide +kernel
theorem dX3_append_7 : dcd cX3_append 7 = some (.imul, 8) := by decide +kernel
theorem dX3_append_8 : dcd cX3_append 8 = some (.iload_n 2, 9) := by decide +kernel
theorem dX3_append_9 : dcd cX3_append 9 = some (.iadd, 10) := by decide +kernel
theorem dX3_append_10 : dcd cX3_append 10 = some (.dup2, 11) := by decide +kernel
theorem dX3_append_11 : dcd cX3_append 11 = some (.iaload, 12) := by decide +kernel
theorem dX3_append_12 : dcd cX3_append 12 = some (.iconst 1, 13) := by decide +kernel
theorem dX3_append_13 : dcd cX3_append 13 = some (.iadd, 14) := by decide +kernel
theorem dX3_append_14 : dcd cX3_append 14 = some (.iastore, 15) := by decide +kernel
theorem dX3_append_15 : dcd cX3_append 15 = some (.aload_n 0, 16) := by decide +kernel
theorem dX3_append_16 : dcd cX3_append 16 = some (.getfield 15, 19) := by decide +kernel
theorem dX3_append_19 : dcd cX3_append 19 = some (.iload_n 1, 20) := by decide +kernel
theorem dX3_append_20 : dcd cX3_append 20 = some (.bipush 9, 22) := by decide +kernel
theorem dX3_append_22 : dcd cX3_append 22 = some (.imul, 23) := by decide +kernel
theorem dX3_append_23 : dcd cX3_append 23 = some (.iload_n 2, 24) := by decide +kernel
theorem dX3_append_24 : dcd cX3_append 24 = some (.iadd, 25) := by decide +kernel
theorem dX3_append_25 : dcd cX3_append 25 = some (.dup2, 26) := by decide +kernel
theorem dX3_append_26 : dcd cX3_append 26 = some (.iaload, 27) := by decide +kernel
theorem dX3_append_27 : dcd cX3_append 27 = some (.iload_n 3, 28) := by decide +kernel
theorem dX3_append_28 : dcd cX3_append 28 = some (.iadd, 29) := by decide +kernel
theorem dX3_append_29 : dcd cX3_append 29 = some (.iastore, 30) := by decide +kernel
theorem dX3_append_30 : dcd cX3_append 30 = some (.aload_n 0, 31) := by decide +kernel
theorem dX3_append_31 : dcd cX3_append 31 = some (.dup, 32) := by decide +kernel
theorem dX3_append_32 : dcd cX3_append 32 = some (.getfield 22, 35) := by decide +kernel
theorem dX3_append_35 : dcd cX3_append 35 = some (.iconst 1, 36) := by decide +kernel
theorem dX3_append_36 : dcd cX3_append 36 = some (.iadd, 37) := by decide +kernel
theorem dX3_append_37 : dcd cX3_append 37 = some (.putfield 22, 40) := by decide +kernel
theorem dX3_append_40 : dcd cX3_append 40 = some (.return_, 41) := by decide +kernel
theorem dX3_timesOf_0 : dcd cX3_timesOf 0 = some (.iconst 0, 1) := by decide +kernel
theorem dX3_timesOf_1 : dcd cX3_timesOf 1 = some (.istore_n 2, 2) := by decide +kernel
theorem dX3_timesOf_2 : dcd cX3_timesOf 2 = some (.iconst 0, 3) := by decide +kernel
theorem dX3_timesOf_3 : dcd cX3_timesOf 3 = some (.istore_n 3, 4) := by decide +kernel
theorem dX3_timesOf_4 : dcd cX3_timesOf 4 = some (.iload_n 3, 5) := by decide +kernel
theorem dX3_timesOf_5 : dcd cX3_timesOf 5 = some (.bipush 9, 7) := by decide +kernel
theorem dX3_timesOf_7 : dcd cX3_timesOf 7 = some (.if_icmp .ge 23, 10) := by decide +kernel
theorem dX3_timesOf_10 : dcd cX3_timesOf 10 = some (.iload_n 2, 11) := by decide +kernel
theorem dX3_timesOf_11 : dcd cX3_timesOf 11 = some (.aload_n 0, 12) := by decide +kernel
theorem dX3_timesOf_12 : dcd cX3_timesOf 12 = some (.getfield 9, 15) := by decide +kernel
theorem dX3_timesOf_15 : dcd cX3_timesOf 15 = some (.iload_n 1, 16) := by decide +kernel
theorem dX3_timesOf_16 : dcd cX3_timesOf 16 = some (.bipush 9, 18) := by decide +kernel
theorem dX3_timesOf_18 : dcd cX3_timesOf 18 = some (.imul, 19) := by decide +kernel
theorem dX3_timesOf_19 : dcd cX3_timesOf 19 = some (.iload_n 3, 20) := by decide +kernel
theorem dX3_timesOf_20 : dcd cX3_timesOf 20 = some (.iadd, 21) := by decide +kernel
theorem dX3_timesOf_21 : dcd cX3_timesOf 21 = some (.iaload, 22) := by decide +kernel
theorem dX3_timesOf_22 : dcd cX3_timesOf 22 = some (.iadd, 23) := by decide +kernel
theorem dX3_timesOf_23 : dcd cX3_timesOf 23 = some (.istore_n 2, 24) := by decide +kernel
theorem dX3_timesOf_24 : dcd cX3_timesOf 24 = some (.iinc 3 1, 27) := by decide +kernel
theorem dX3_timesOf_27 : dcd cX3_timesOf 27 = some (.goto (-23), 30) := by decide +kernel
theorem dX3_timesOf_30 : dcd cX3_timesOf 30 = some (.iload_n 2, 31) := by decide +kernel
theorem dX3_timesOf_31 : dcd cX3_timesOf 31 = some (.ireturn, 32) := by decide +kernel
theorem dX3_part_0 : dcd cX3_part 0 = some (.aload_n 0, 1) := by decide +kernel
theorem dX3_part_1 : dcd cX3_part 1 = some (.lconst 0, 2) := by decide +kernel
theorem dX3_part_2 : dcd cX3_part 2 = some (.putfield 26, 5) := by decide +kernel
theorem dX3_part_5 : dcd cX3_part 5 = some (.aload_n 0, 6) := by decide +kernel
theorem dX3_part_6 : dcd cX3_part 6 = some (.lconst 1, 7) := by decide +kernel
theorem dX3_part_7 : dcd cX3_part 7 = some (.putfield 18, 10) := by decide +kernel
theorem dX3_part_10 : dcd cX3_part 10 = some (.iconst 0, 11) := by decide +kernel
theorem dX3_part_11 : dcd cX3_part 11 = some (.istore_n 2, 12) := by decide +kernel
theorem dX3_part_12 : dcd cX3_part 12 = some (.iload_n 2, 13) := by decide +kernel
theorem dX3_part_13 : dcd cX3_part 13 = some (.bipush 9, 15) := by decide +kernel
theorem dX3_part_15 : dcd cX3_part 15 = some (.if_icmp .ge 29, 18) := by decide +kernel
theorem dX3_part_18 : dcd cX3_part 18 = some (.aload_n 0, 19) := by decide +kernel
theorem dX3_part_19 : dcd cX3_part 19 = some (.getfield 9, 22) := by decide +kernel
theorem dX3_part_22 : dcd cX3_part 22 = some (.iload_n 1, 23) := by decide +kernel
theorem dX3_part_23 : dcd cX3_part 23 = some (.bipush 9, 25) := by decide +kernel
theorem dX3_part_25 : dcd cX3_part 25 = some (.imul, 26) := by decide +kernel
theorem dX3_part_26 : dcd cX3_part 26 = some (.iload_n 2, 27) := by decide +kernel
theorem dX3_part_27 : dcd cX3_part 27 = some (.iadd, 28) := by decide +kernel
theorem dX3_part_28 : dcd cX3_part 28 = some (.iaload, 29) := by decide +kernel
theorem dX3_part_29 : dcd cX3_part 29 = some (.ifCond .le 9, 32) := by decide +kernel
theorem dX3_part_32 : dcd cX3_part 32 = some (.aload_n 0, 33) := by decide +kernel
theorem dX3_part_33 : dcd cX3_part 33 = some (.iload_n 1, 34) := by decide +kernel
theorem dX3_part_34 : dcd cX3_part 34 = some (.iload_n 2, 35) := by decide +kernel
theorem dX3_part_35 : dcd cX3_part 35 = some (.invokevirtual 29, 38) := by decide +kernel
theorem dX3_part_38 : dcd cX3_part 38 = some (.iinc 2 1, 41) := by decide +kernel
theorem dX3_part_41 : dcd cX3_part 41 = some (.goto (-29), 44) := by decide +kernel
theorem dX3_part_44 : dcd cX3_part 44 = some (.aload_n 0, 45) := by decide +kernel
theorem dX3_part_45 : dcd cX3_part 45 = some (.dup, 46) := by decide +kernel
theorem dX3_part_46 : dcd cX3_part 46 = some (.getfield 18, 49) := by decide +kernel
theorem dX3_part_49 : dcd cX3_part 49 = some (.iconst 1, 50) := by decide +kernel
theorem dX3_part_50 : dcd cX3_part 50 = some (.aload_n 0, 51) := by decide +kernel
theorem dX3_part_51 : dcd cX3_part 51 = some (.iload_n 1, 52) := by decide +kernel
theorem dX3_part_52 : dcd cX3_part 52 = some (.invokevirtual 33, 55) := by decide +kernel
theorem dX3_part_55 : dcd cX3_part 55 = some (.invokestatic 37, 58) := by decide +kernel
theorem dX3_part_58 : dcd cX3_part 58 = some (.i2l, 59) := by decide +kernel
theorem dX3_part_59 : dcd cX3_part 59 = some (.lmul, 60) := by decide +kernel
theorem dX3_part_60 : dcd cX3_part 60 = some (.putfield 18, 63) := by decide +kernel
theorem dX3_part_63 : dcd cX3_part 63 = some (.aload_n 0, 64) := by decide +kernel
theorem dX3_part_64 : dcd cX3_part 64 = some (.invokevirtual 43, 67) := by decide +kernel
theorem dX3_part_67 : dcd cX3_part 67 = some (.return_, 68) := by decide +kernel
theorem dX3_addPlace_0 : dcd cX3_addPlace 0 = some (.iconst 0, 1) := by decide +kernel
theorem dX3_addPlace_1 : dcd cX3_addPlace 1 = some (.istore_n 3, 2) := by decide +kernel
theorem dX3_addPlace_2 : dcd cX3_addPlace 2 = some (.iconst 0, 3) := by decide +kernel
theorem dX3_addPlace_3 : dcd cX3_addPlace 3 = some (.istore 4, 5) := by decide +kernel
theorem dX3_addPlace_5 : dcd cX3_addPlace 5 = some (.iconst 0, 6) := by decide +kernel
theorem dX3_addPlace_6 : dcd cX3_addPlace 6 = some (.istore 5, 8) := by decide +kernel
theorem dX3_addPlace_8 : dcd cX3_addPlace 8 = some (.iload 5, 10) := by decide +kernel
theorem dX3_addPlace_10 : dcd cX3_addPlace 10 = some (.bipush 9, 12) := by decide +kernel
theorem dX3_addPlace_12 : dcd cX3_addPlace 12 = some (.if_icmp .ge 41, 15) := by decide +kernel
theorem dX3_addPlace_15 : dcd cX3_addPlace 15 = some (.iload_n 3, 16) := by decide +kernel
theorem dX3_addPlace_16 : dcd cX3_addPlace 16 = some (.aload_n 0, 17) := by decide +kernel
theorem dX3_addPlace_17 : dcd cX3_addPlace 17 = some (.getfield 9, 20) := by decide +kernel
theorem dX3_addPlace_20 : dcd cX3_addPlace 20 = some (.iload 5, 22) := by decide +kernel
theorem dX3_addPlace_22 : dcd cX3_addPlace 22 = some (.bipush 9, 24) := by decide +kernel
theorem dX3_addPlace_24 : dcd cX3_addPlace 24 = some (.imul, 25) := by decide +kernel
theorem dX3_addPlace_25 : dcd cX3_addPlace 25 = some (.iload_n 2, 26) := by decide +kernel
theorem dX3_addPlace_26 : dcd cX3_addPlace 26 = some (.iadd, 27) := by decide +kernel
theorem dX3_addPlace_27 : dcd cX3_addPlace 27 = some (.iaload, 28) := by decide +kernel
theorem dX3_addPlace_28 : dcd cX3_addPlace 28 = some (.iadd, 29) := by decide +kernel
theorem dX3_addPlace_29 : dcd cX3_addPlace 29 = some (.istore_n 3, 30) := by decide +kernel
theorem dX3_addPlace_30 : dcd cX3_addPlace 30 = some (.iload 4, 32) := by decide +kernel
theorem dX3_addPlace_32 : dcd cX3_addPlace 32 = some (.aload_n 0, 33) := by decide +kernel
theorem dX3_addPlace_33 : dcd cX3_addPlace 33 = some (.getfield 15, 36) := by decide +kernel
theorem dX3_addPlace_36 : dcd cX3_addPlace 36 = some (.iload 5, 38) := by decide +kernel
theorem dX3_addPlace_38 : dcd cX3_addPlace 38 = some (.bipush 9, 40) := by decide +kernel
theorem dX3_addPlace_40 : dcd cX3_addPlace 40 = some (.imul, 41) := by decide +kernel
theorem dX3_addPlace_41 : dcd cX3_addPlace 41 = some (.iload_n 2, 42) := by decide +kernel
theorem dX3_addPlace_42 : dcd cX3_addPlace 42 = some (.iadd, 43) := by decide +kernel
theorem dX3_addPlace_43 : dcd cX3_addPlace 43 = some (.iaload, 44) := by decide +kernel
theorem dX3_addPlace_44 : dcd cX3_addPlace 44 = some (.iadd, 45) := by decide +kernel
theorem dX3_addPlace_45 : dcd cX3_addPlace 45 = some (.istore 4, 47) := by decide +kernel
theorem dX3_addPlace_47 : dcd cX3_addPlace 47 = some (.iinc 5 1, 50) := by decide +kernel
theorem dX3_addPlace_50 : dcd cX3_addPlace 50 = some (.goto (-42), 53) := by decide +kernel
theorem dX3_addPlace_53 : dcd cX3_addPlace 53 = some (.iload_n 1, 54) := by decide +kernel
theorem dX3_addPlace_54 : dcd cX3_addPlace 54 = some (.bipush 9, 56) := by decide +kernel
theorem dX3_addPlace_56 : dcd cX3_addPlace 56 = some (.imul, 57) := by decide +kernel
theorem dX3_addPlace_57 : dcd cX3_addPlace 57 = some (.iload_n 2, 58) := by decide +kernel
theorem dX3_addPlace_58 : dcd cX3_addPlace 58 = some (.iadd, 59) := by decide +kernel
theorem dX3_addPlace_59 : dcd cX3_addPlace 59 = some (.istore 5, 61) := by decide +kernel
theorem dX3_addPlace_61 : dcd cX3_addPlace 61 = some (.aload_n 0, 62) := by decide +kernel
theorem dX3_addPlace_62 : dcd cX3_addPlace 62 = some (.getfield 15, 65) := by decide +kernel
theorem dX3_addPlace_65 : dcd cX3_addPlace 65 = some (.iload 5, 67) := by decide +kernel
theorem dX3_addPlace_67 : dcd cX3_addPlace 67 = some (.iaload, 68) := by decide +kernel
theorem dX3_addPlace_68 : dcd cX3_addPlace 68 = some (.i2l, 69) := by decide +kernel
theorem dX3_addPlace_69 : dcd cX3_addPlace 69 = some (.iload_n 3, 70) := by decide +kernel
theorem dX3_addPlace_70 : dcd cX3_addPlace 70 = some (.i2l, 71) := by decide +kernel
theorem dX3_addPlace_71 : dcd cX3_addPlace 71 = some (.lmul, 72) := by decide +kernel
theorem dX3_addPlace_72 : dcd cX3_addPlace 72 = some (.aload_n 0, 73) := by decide +kernel
theorem dX3_addPlace_73 : dcd cX3_addPlace 73 = some (.getfield 9, 76) := by decide +kernel
theorem dX3_addPlace_76 : dcd cX3_addPlace 76 = some (.iload 5, 78) := by decide +kernel
theorem dX3_addPlace_78 : dcd cX3_addPlace 78 = some (.iaload, 79) := by decide +kernel
theorem dX3_addPlace_79 : dcd cX3_addPlace 79 = some (.i2l, 80) := by decide +kernel
theorem dX3_addPlace_80 : dcd cX3_addPlace 80 = some (.iload 4, 82) := by decide +kernel
theorem dX3_addPlace_82 : dcd cX3_addPlace 82 = some (.i2l, 83) := by decide +kernel
theorem dX3_addPlace_83 : dcd cX3_addPlace 83 = some (.lmul, 84) := by decide +kernel
theorem dX3_addPlace_84 : dcd cX3_addPlace 84 = some (.lsub, 85) := by decide +kernel
theorem dX3_addPlace_85 : dcd cX3_addPlace 85 = some (.lstore 6, 87) := by decide +kernel
theorem dX3_addPlace_87 : dcd cX3_addPlace 87 = some (.aload_n 0, 88) := by decide +kernel
theorem dX3_addPlace_88 : dcd cX3_addPlace 88 = some (.aload_n 0, 89) := by decide +kernel
theorem dX3_addPlace_89 : dcd cX3_addPlace 89 = some (.getfield 26, 92) := by decide +kernel
theorem dX3_addPlace_92 : dcd cX3_addPlace 92 = some (.iload_n 3, 93) := by decide +kernel
theorem dX3_addPlace_93 : dcd cX3_addPlace 93 = some (.i2l, 94) := by decide +kernel
theorem dX3_addPlace_94 : dcd cX3_addPlace 94 = some (.lmul, 95) := by decide +kernel
theorem dX3_addPlace_95 : dcd cX3_addPlace 95 = some (.lload 6, 97) := by decide +kernel
theorem dX3_addPlace_97 : dcd cX3_addPlace 97 = some (.aload_n 0, 98) := by decide +kernel
theorem dX3_addPlace_98 : dcd cX3_addPlace 98 = some (.getfield 18, 101) := by decide +kernel
theorem dX3_addPlace_101 : dcd cX3_addPlace 101 = some (.lmul, 102) := by decide +kernel
theorem dX3_addPlace_102 : dcd cX3_addPlace 102 = some (.ladd, 103) := by decide +kernel
theorem dX3_addPlace_103 : dcd cX3_addPlace 103 = some (.putfield 26, 106) := by decide +kernel
theorem dX3_addPlace_106 : dcd cX3_addPlace 106 = some (.aload_n 0, 107) := by decide +kernel
theorem dX3_addPlace_107 : dcd cX3_addPlace 107 = some (.aload_n 0, 108) := by decide +kernel
theorem dX3_addPlace_108 : dcd cX3_addPlace 108 = some (.getfield 18, 111) := by decide +kernel
theorem dX3_addPlace_111 : dcd cX3_addPlace 111 = some (.iload_n 3, 112) := by decide +kernel
theorem dX3_addPlace_112 : dcd cX3_addPlace 112 = some (.i2l, 113) := by decide +kernel
theorem dX3_addPlace_113 : dcd cX3_addPlace 113 = some (.lmul, 114) := by decide +kernel
theorem dX3_addPlace_114 : dcd cX3_addPlace 114 = some (.putfield 18, 117) := by decide +kernel
theorem dX3_addPlace_117 : dcd cX3_addPlace 117 = some (.aload_n 0, 118) := by decide +kernel
theorem dX3_addPlace_118 : dcd cX3_addPlace 118 = some (.invokevirtual 43, 121) := by decide +kernel
theorem dX3_addPlace_121 : dcd cX3_addPlace 121 = some (.return_, 122) := by decide +kernel
theorem dX3_reduce_0 : dcd cX3_reduce 0 = some (.aload_n 0, 1) := by decide +kernel
theorem dX3_reduce_1 : dcd cX3_reduce 1 = some (.getfield 26, 4) := by decide +kernel
theorem dX3_reduce_4 : dcd cX3_reduce 4 = some (.invokestatic 46, 7) := by decide +kernel
theorem dX3_reduce_7 : dcd cX3_reduce 7 = some (.lstore_n 1, 8) := by decide +kernel
theorem dX3_reduce_8 : dcd cX3_reduce 8 = some (.aload_n 0, 9) := by decide +kernel
theorem dX3_reduce_9 : dcd cX3_reduce 9 = some (.getfield 18, 12) := by decide +kernel
theorem dX3_reduce_12 : dcd cX3_reduce 12 = some (.lstore_n 3, 13) := by decide +kernel
theorem dX3_reduce_13 : dcd cX3_reduce 13 = some (.iconst 0, 14) := by decide +kernel
theorem dX3_reduce_14 : dcd cX3_reduce 14 = some (.istore 5, 16) := by decide +kernel
theorem dX3_reduce_16 : dcd cX3_reduce 16 = some (.iload 5, 18) := by decide +kernel
theorem dX3_reduce_18 : dcd cX3_reduce 18 = some (.bipush 100, 20) := by decide +kernel
theorem dX3_reduce_20 : dcd cX3_reduce 20 = some (.if_icmp .ge 25, 23) := by decide +kernel
theorem dX3_reduce_23 : dcd cX3_reduce 23 = some (.lload_n 3, 24) := by decide +kernel
theorem dX3_reduce_24 : dcd cX3_reduce 24 = some (.lconst 0, 25) := by decide +kernel
theorem dX3_reduce_25 : dcd cX3_reduce 25 = some (.lcmp, 26) := by decide +kernel
theorem dX3_reduce_26 : dcd cX3_reduce 26 = some (.ifCond .eq 19, 29) := by decide +kernel
theorem dX3_reduce_29 : dcd cX3_reduce 29 = some (.lload_n 1, 30) := by decide +kernel
theorem dX3_reduce_30 : dcd cX3_reduce 30 = some (.lload_n 3, 31) := by decide +kernel
theorem dX3_reduce_31 : dcd cX3_reduce 31 = some (.lrem, 32) := by decide +kernel
theorem dX3_reduce_32 : dcd cX3_reduce 32 = some (.lstore 6, 34) := by decide +kernel
theorem dX3_reduce_34 : dcd cX3_reduce 34 = some (.lload_n 3, 35) := by decide +kernel
theorem dX3_reduce_35 : dcd cX3_reduce 35 = some (.lstore_n 1, 36) := by decide +kernel
theorem dX3_reduce_36 : dcd cX3_reduce 36 = some (.lload 6, 38) := by decide +kernel
theorem dX3_reduce_38 : dcd cX3_reduce 38 = some (.lstore_n 3, 39) := by decide +kernel
theorem dX3_reduce_39 : dcd cX3_reduce 39 = some (.iinc 5 1, 42) := by decide +kernel
theorem dX3_reduce_42 : dcd cX3_reduce 42 = some (.goto (-26), 45) := by decide +kernel
theorem dX3_reduce_45 : dcd cX3_reduce 45 = some (.lload_n 1, 46) := by decide +kernel
theorem dX3_reduce_46 : dcd cX3_reduce 46 = some (.lconst 1, 47) := by decide +kernel
theorem dX3_reduce_47 : dcd cX3_reduce 47 = some (.lcmp, 48) := by decide +kernel
theorem dX3_reduce_48 : dcd cX3_reduce 48 = some (.ifCond .le 23, 51) := by decide +kernel
theorem dX3_reduce_51 : dcd cX3_reduce 51 = some (.aload_n 0, 52) := by decide +kernel
theorem dX3_reduce_52 : dcd cX3_reduce 52 = some (.dup, 53) := by decide +kernel
theorem dX3_reduce_53 : dcd cX3_reduce 53 = some (.getfield 26, 56) := by decide +kernel
theorem dX3_reduce_56 : dcd cX3_reduce 56 = some (.lload_n 1, 57) := by decide +kernel
theorem dX3_reduce_57 : dcd cX3_reduce 57 = some (.ldiv, 58) := by decide +kernel
theorem dX3_reduce_58 : dcd cX3_reduce 58 = some (.putfield 26, 61) := by decide +kernel
theorem dX3_reduce_61 : dcd cX3_reduce 61 = some (.aload_n 0, 62) := by decide +kernel
theorem dX3_reduce_62 : dcd cX3_reduce 62 = some (.dup, 63) := by decide +kernel
theorem dX3_reduce_63 : dcd cX3_reduce 63 = some (.getfield 18, 66) := by decide +kernel
theorem dX3_reduce_66 : dcd cX3_reduce 66 = some (.lload_n 1, 67) := by decide +kernel
theorem dX3_reduce_67 : dcd cX3_reduce 67 = some (.ldiv, 68) := by decide +kernel
theorem dX3_reduce_68 : dcd cX3_reduce 68 = some (.putfield 18, 71) := by decide +kernel
theorem dX3_reduce_71 : dcd cX3_reduce 71 = some (.return_, 72) := by decide +kernel
theorem dX4_init_0 : dcd cX4_init 0 = some (.aload_n 0, 1) := by decide +kernel
theorem dX4_init_1 : dcd cX4_init 1 = some (.invokespecial 3, 4) := by decide +kernel
theorem dX4_init_4 : dcd cX4_init 4 = some (.aload_n 0, 5) := by decide +kernel
theorem dX4_init_5 : dcd cX4_init 5 = some (.sipush 400, 8) := by decide +kernel
theorem dX4_init_8 : dcd cX4_init 8 = some (.newarray .char, 10) := by decide +kernel
theorem dX4_init_10 : dcd cX4_init 10 = some (.putfield 9, 13) := by decide +kernel
theorem dX4_init_13 : dcd cX4_init 13 = some (.return_, 14) := by decide +kernel
theorem dX4_append_0 : dcd cX4_append 0 = some (.iload_n 3, 1) := by decide +kernel
theorem dX4_append_1 : dcd cX4_append 1 = some (.iconst 1, 2) := by decide +kernel
theorem dX4_append_2 : dcd cX4_append 2 = some (.isub, 3) := by decide +kernel
theorem dX4_append_3 : dcd cX4_append 3 = some (.istore 4, 5) := by decide +kernel
theorem dX4_append_5 : dcd cX4_append 5 = some (.iload 4, 7) := by decide +kernel
theorem dX4_append_7 : dcd cX4_append 7 = some (.ifCond .lt 51, 10) := by decide +kernel
theorem dX4_append_10 : dcd cX4_append 10 = some (.aload_n 0, 11) := by decide +kernel
theorem dX4_append_11 : dcd cX4_append 11 = some (.getfield 15, 14) := by decide +kernel
theorem dX4_append_14 : dcd cX4_append 14 = some (.sipush 400, 17) := by decide +kernel
theorem dX4_append_17 : dcd cX4_append 17 = some (.if_icmp .ge 41, 20) := by decide +kernel
theorem dX4_append_20 : dcd cX4_append 20 = some (.aload_n 0, 21) := by decide +kernel
theorem dX4_append_21 : dcd cX4_append 21 = some (.getfield 9, 24) := by decide +kernel
theorem dX4_append_24 : dcd cX4_append 24 = some (.aload_n 0, 25) := by decide +kernel
theorem dX4_append_25 : dcd cX4_append 25 = some (.getfield 15, 28) := by decide +kernel
theorem dX4_append_28 : dcd cX4_append 28 = some (.lload_n 1, 29) := by decide +kernel
theorem dX4_append_29 : dcd cX4_append 29 = some (.bipush 8, 31) := by decide +kernel
theorem dX4_append_31 : dcd cX4_append 31 = some (.iload 4, 33) := by decide +kernel
theorem dX4_append_33 : dcd cX4_append 33 = some (.imul, 34) := by decide +kernel
theorem dX4_append_34 : dcd cX4_append 34 = some (.lushr, 35) := by decide +kernel
theorem dX4_append_35 : dcd cX4_append 35 = some (.ldc2_w 19, 38) := by decide +kernel
theorem dX4_append_38 : dcd cX4_append 38 = some (.land, 39) := by decide +kernel
theorem dX4_append_39 : dcd cX4_append 39 = some (.l2i, 40) := by decide +kernel
theorem dX4_append_40 : dcd cX4_append 40 = some (.i2c, 41) := by decide +kernel
theorem dX4_append_41 : dcd cX4_append 41 = some (.castore, 42) := by decide +kernel
theorem dX4_append_42 : dcd cX4_append 42 = some (.aload_n 0, 43) := by decide +kernel
theorem dX4_append_43 : dcd cX4_append 43 = some (.dup, 44) := by decide +kernel
theorem dX4_append_44 : dcd cX4_append 44 = some (.getfield 15, 47) := by decide +kernel
theorem dX4_append_47 : dcd cX4_append 47 = some (.iconst 1, 48) := by decide +kernel
theorem dX4_append_48 : dcd cX4_append 48 = some (.iadd, 49) := by decide +kernel
theorem dX4_append_49 : dcd cX4_append 49 = some (.putfield 15, 52) := by decide +kernel
theorem dX4_append_52 : dcd cX4_append 52 = some (.iinc 4 (-1), 55) := by decide +kernel
theorem dX4_append_55 : dcd cX4_append 55 = some (.goto (-50), 58) := by decide +kernel
theorem dX4_append_58 : dcd cX4_append 58 = some (.return_, 59) := by decide +kernel
theorem dX4_tell_0 : dcd cX4_tell 0 = some (.aload_n 1, 1) := by decide +kernel
theorem dX4_tell_1 : dcd cX4_tell 1 = some (.iconst 0, 2) := by decide +kernel
theorem dX4_tell_2 : dcd cX4_tell 2 = some (.putfield 21, 5) := by decide +kernel
theorem dX4_tell_5 : dcd cX4_tell 5 = some (.aload_n 0, 6) := by decide +kernel
theorem dX4_tell_6 : dcd cX4_tell 6 = some (.iconst 0, 7) := by decide +kernel
theorem dX4_tell_7 : dcd cX4_tell 7 = some (.putfield 26, 10) := by decide +kernel
theorem dX4_tell_10 : dcd cX4_tell 10 = some (.aload_n 0, 11) := by decide +kernel
theorem dX4_tell_11 : dcd cX4_tell 11 = some (.invokevirtual 29, 14) := by decide +kernel
theorem dX4_tell_14 : dcd cX4_tell 14 = some (.iconst 0, 15) := by decide +kernel
theorem dX4_tell_15 : dcd cX4_tell 15 = some (.istore_n 2, 16) := by decide +kernel
theorem dX4_tell_16 : dcd cX4_tell 16 = some (.aload_n 0, 17) := by decide +kernel
theorem dX4_tell_17 : dcd cX4_tell 17 = some (.getfield 32, 20) := by decide +kernel
theorem dX4_tell_20 : dcd cX4_tell 20 = some (.ifCond .eq 71, 23) := by decide +kernel
theorem dX4_tell_23 : dcd cX4_tell 23 = some (.iload_n 2, 24) := by decide +kernel
theorem dX4_tell_24 : dcd cX4_tell 24 = some (.sipush 400, 27) := by decide +kernel
theorem dX4_tell_27 : dcd cX4_tell 27 = some (.if_icmp .ge 64, 30) := by decide +kernel
theorem dX4_tell_30 : dcd cX4_tell 30 = some (.aload_n 0, 31) := by decide +kernel
theorem dX4_tell_31 : dcd cX4_tell 31 = some (.getfield 32, 34) := by decide +kernel
theorem dX4_tell_34 : dcd cX4_tell 34 = some (.iconst 4, 35) := by decide +kernel
theorem dX4_tell_35 : dcd cX4_tell 35 = some (.if_icmp .ne 16, 38) := by decide +kernel
theorem dX4_tell_38 : dcd cX4_tell 38 = some (.aload_n 1, 39) := by decide +kernel
theorem dX4_tell_39 : dcd cX4_tell 39 = some (.getfield 21, 42) := by decide +kernel
theorem dX4_tell_42 : dcd cX4_tell 42 = some (.bipush 9, 44) := by decide +kernel
theorem dX4_tell_44 : dcd cX4_tell 44 = some (.if_icmp .ge 7, 47) := by decide +kernel
theorem dX4_tell_47 : dcd cX4_tell 47 = some (.iconst 1, 48) := by decide +kernel
theorem dX4_tell_48 : dcd cX4_tell 48 = some (.goto 4, 51) := by decide +kernel
theorem dX4_tell_51 : dcd cX4_tell 51 = some (.iconst 0, 52) := by decide +kernel
theorem dX4_tell_52 : dcd cX4_tell 52 = some (.istore_n 3, 53) := by decide +kernel
theorem dX4_tell_53 : dcd cX4_tell 53 = some (.iload_n 3, 54) := by decide +kernel
theorem dX4_tell_54 : dcd cX4_tell 54 = some (.ifCond .eq 11, 57) := by decide +kernel
theorem dX4_tell_57 : dcd cX4_tell 57 = some (.aload_n 0, 58) := by decide +kernel
theorem dX4_tell_58 : dcd cX4_tell 58 = some (.aload_n 1, 59) := by decide +kernel
theorem dX4_tell_59 : dcd cX4_tell 59 = some (.invokevirtual 35, 62) := by decide +kernel
theorem dX4_tell_62 : dcd cX4_tell 62 = some (.goto 8, 65) := by decide +kernel
theorem dX4_tell_65 : dcd cX4_tell 65 = some (.aload_n 0, 66) := by decide +kernel
theorem dX4_tell_66 : dcd cX4_tell 66 = some (.aload_n 1, 67) := by decide +kernel
theorem dX4_tell_67 : dcd cX4_tell 67 = some (.invokevirtual 39, 70) := by decide +kernel
theorem dX4_tell_70 : dcd cX4_tell 70 = some (.istore 4, 72) := by decide +kernel
theorem dX4_tell_72 : dcd cX4_tell 72 = some (.iload 4, 74) := by decide +kernel
theorem dX4_tell_74 : dcd cX4_tell 74 = some (.ifCond .ne 11, 77) := by decide +kernel
theorem dX4_tell_77 : dcd cX4_tell 77 = some (.bipush (-10), 79) := by decide +kernel
theorem dX4_tell_79 : dcd cX4_tell 79 = some (.aload_n 0, 80) := by decide +kernel
theorem dX4_tell_80 : dcd cX4_tell 80 = some (.getfield 42, 83) := by decide +kernel
theorem dX4_tell_83 : dcd cX4_tell 83 = some (.isub, 84) := by decide +kernel
theorem dX4_tell_84 : dcd cX4_tell 84 = some (.ireturn, 85) := by decide +kernel
theorem dX4_tell_85 : dcd cX4_tell 85 = some (.iinc 2 1, 88) := by decide +kernel
theorem dX4_tell_88 : dcd cX4_tell 88 = some (.goto (-72), 91) := by decide +kernel
theorem dX4_tell_91 : dcd cX4_tell 91 = some (.iload_n 2, 92) := by decide +kernel
theorem dX4_tell_92 : dcd cX4_tell 92 = some (.ireturn, 93) := by decide +kernel
theorem dX4_tellAct_0 : dcd cX4_tellAct 0 = some (.aload_n 1, 1) := by decide +kernel
theorem dX4_tellAct_1 : dcd cX4_tellAct 1 = some (.getfield 45, 4) := by decide +kernel
theorem dX4_tellAct_4 : dcd cX4_tellAct 4 = some (.aload_n 1, 5) := by decide +kernel
theorem dX4_tellAct_5 : dcd cX4_tellAct 5 = some (.getfield 21, 8) := by decide +kernel
theorem dX4_tellAct_8 : dcd cX4_tellAct 8 = some (.aaload, 9) := by decide +kernel
theorem dX4_tellAct_9 : dcd cX4_tellAct 9 = some (.astore_n 2, 10) := by decide +kernel
theorem dX4_tellAct_10 : dcd cX4_tellAct 10 = some (.aload_n 2, 11) := by decide +kernel
theorem dX4_tellAct_11 : dcd cX4_tellAct 11 = some (.invokevirtual 49, 14) := by decide +kernel
theorem dX4_tellAct_14 : dcd cX4_tellAct 14 = some (.aload_n 0, 15) := by decide +kernel
theorem dX4_tellAct_15 : dcd cX4_tellAct 15 = some (.invokevirtual 29, 18) := by decide +kernel
theorem dX4_tellAct_18 : dcd cX4_tellAct 18 = some (.aload_n 0, 19) := by decide +kernel
theorem dX4_tellAct_19 : dcd cX4_tellAct 19 = some (.aload_n 2, 20) := by decide +kernel
theorem dX4_tellAct_20 : dcd cX4_tellAct 20 = some (.invokevirtual 54, 23) := by decide +kernel
theorem dX4_tellAct_23 : dcd cX4_tellAct 23 = some (.ifCond .eq 11, 26) := by decide +kernel
theorem dX4_tellAct_26 : dcd cX4_tellAct 26 = some (.aload_n 0, 27) := by decide +kernel
theorem dX4_tellAct_27 : dcd cX4_tellAct 27 = some (.aload_n 2, 28) := by decide +kernel
theorem dX4_tellAct_28 : dcd cX4_tellAct 28 = some (.invokevirtual 58, 31) := by decide +kernel
theorem dX4_tellAct_31 : dcd cX4_tellAct 31 = some (.ifCond .ne 5, 34) := by decide +kernel
theorem dX4_tellAct_34 : dcd cX4_tellAct 34 = some (.iconst 0, 35) := by decide +kernel
theorem dX4_tellAct_35 : dcd cX4_tellAct 35 = some (.ireturn, 36) := by decide +kernel
theorem dX4_tellAct_36 : dcd cX4_tellAct 36 = some (.aload_n 0, 37) := by decide +kernel
theorem dX4_tellAct_37 : dcd cX4_tellAct 37 = some (.aload_n 2, 38) := by decide +kernel
theorem dX4_tellAct_38 : dcd cX4_tellAct 38 = some (.invokevirtual 61, 41) := by decide +kernel
theorem dX4_tellAct_41 : dcd cX4_tellAct 41 = some (.aload_n 0, 42) := by decide +kernel
theorem dX4_tellAct_42 : dcd cX4_tellAct 42 = some (.aload_n 2, 43) := by decide +kernel
theorem dX4_tellAct_43 : dcd cX4_tellAct 43 = some (.invokevirtual 65, 46) := by decide +kernel
theorem dX4_tellAct_46 : dcd cX4_tellAct 46 = some (.ifCond .eq 11, 49) := by decide +kernel
theorem dX4_tellAct_49 : dcd cX4_tellAct 49 = some (.aload_n 0, 50) := by decide +kernel
theorem dX4_tellAct_50 : dcd cX4_tellAct 50 = some (.getfield 32, 53) := by decide +kernel
theorem dX4_tellAct_53 : dcd cX4_tellAct 53 = some (.iconst 3, 54) := by decide +kernel
theorem dX4_tellAct_54 : dcd cX4_tellAct 54 = some (.if_icmp .eq 5, 57) := by decide +kernel
theorem dX4_tellAct_57 : dcd cX4_tellAct 57 = some (.iconst 0, 58) := by decide +kernel
theorem dX4_tellAct_58 : dcd cX4_tellAct 58 = some (.ireturn, 59) := by decide +kernel
theorem dX4_tellAct_59 : dcd cX4_tellAct 59 = some (.aload_n 1, 60) := by decide +kernel
theorem dX4_tellAct_60 : dcd cX4_tellAct 60 = some (.dup, 61) := by decide +kernel
theorem dX4_tellAct_61 : dcd cX4_tellAct 61 = some (.getfield 21, 64) := by decide +kernel
theorem dX4_tellAct_64 : dcd cX4_tellAct 64 = some (.iconst 1, 65) := by decide +kernel
theorem dX4_tellAct_65 : dcd cX4_tellAct 65 = some (.iadd, 66) := by decide +kernel
theorem dX4_tellAct_66 : dcd cX4_tellAct 66 = some (.putfield 21, 69) := by decide +kernel
theorem dX4_tellAct_69 : dcd cX4_tellAct 69 = some (.aload_n 0, 70) := by decide +kernel
theorem dX4_tellAct_70 : dcd cX4_tellAct 70 = some (.invokevirtual 29, 73) := by decide +kernel
theorem dX4_tellAct_73 : dcd cX4_tellAct 73 = some (.iconst 1, 74) := by decide +kernel
theorem dX4_tellAct_74 : dcd cX4_tellAct 74 = some (.ireturn, 75) := by decide +kernel
theorem dX4_tellFigures_0 : dcd cX4_tellFigures 0 = some (.aload_n 0, 1) := by decide +kernel
theorem dX4_tellFigures_1 : dcd cX4_tellFigures 1 = some (.iconst 0, 2) := by decide +kernel
theorem dX4_tellFigures_2 : dcd cX4_tellFigures 2 = some (.iconst 5, 3) := by decide +kernel
theorem dX4_tellFigures_3 : dcd cX4_tellFigures 3 = some (.invokevirtual 68, 6) := by decide +kernel
theorem dX4_tellFigures_6 : dcd cX4_tellFigures 6 = some (.ifCond .ne 5, 9) := by decide +kernel
theorem dX4_tellFigures_9 : dcd cX4_tellFigures 9 = some (.iconst 0, 10) := by decide +kernel
theorem dX4_tellFigures_10 : dcd cX4_tellFigures 10 = some (.ireturn, 11) := by decide +kernel
theorem dX4_tellFigures_11 : dcd cX4_tellFigures 11 = some (.aload_n 1, 12) := by decide +kernel
theorem dX4_tellFigures_12 : dcd cX4_tellFigures 12 = some (.aload_n 0, 13) := by decide +kernel
theorem dX4_tellFigures_13 : dcd cX4_tellFigures 13 = some (.getfield 72, 16) := by decide +kernel
theorem dX4_tellFigures_16 : dcd cX4_tellFigures 16 = some (.putfield 75, 19) := by decide +kernel
theorem dX4_tellFigures_19 : dcd cX4_tellFigures 19 = some (.aload_n 0, 20) := by decide +kernel
theorem dX4_tellFigures_20 : dcd cX4_tellFigures 20 = some (.invokevirtual 29, 23) := by decide +kernel
theorem dX4_tellFigures_23 : dcd cX4_tellFigures 23 = some (.aload_n 0, 24) := by decide +kernel
theorem dX4_tellFigures_24 : dcd cX4_tellFigures 24 = some (.iconst 1, 25) := by decide +kernel
theorem dX4_tellFigures_25 : dcd cX4_tellFigures 25 = some (.bipush 30, 27) := by decide +kernel
theorem dX4_tellFigures_27 : dcd cX4_tellFigures 27 = some (.invokevirtual 68, 30) := by decide +kernel
theorem dX4_tellFigures_30 : dcd cX4_tellFigures 30 = some (.ifCond .ne 5, 33) := by decide +kernel
theorem dX4_tellFigures_33 : dcd cX4_tellFigures 33 = some (.iconst 0, 34) := by decide +kernel
theorem dX4_tellFigures_34 : dcd cX4_tellFigures 34 = some (.ireturn, 35) := by decide +kernel
theorem dX4_tellFigures_35 : dcd cX4_tellFigures 35 = some (.aload_n 1, 36) := by decide +kernel
theorem dX4_tellFigures_36 : dcd cX4_tellFigures 36 = some (.aload_n 0, 37) := by decide +kernel
theorem dX4_tellFigures_37 : dcd cX4_tellFigures 37 = some (.getfield 72, 40) := by decide +kernel
theorem dX4_tellFigures_40 : dcd cX4_tellFigures 40 = some (.putfield 78, 43) := by decide +kernel
theorem dX4_tellFigures_43 : dcd cX4_tellFigures 43 = some (.aload_n 0, 44) := by decide +kernel
theorem dX4_tellFigures_44 : dcd cX4_tellFigures 44 = some (.invokevirtual 29, 47) := by decide +kernel
theorem dX4_tellFigures_47 : dcd cX4_tellFigures 47 = some (.aload_n 0, 48) := by decide +kernel
theorem dX4_tellFigures_48 : dcd cX4_tellFigures 48 = some (.iconst 0, 49) := by decide +kernel
theorem dX4_tellFigures_49 : dcd cX4_tellFigures 49 = some (.bipush 30, 51) := by decide +kernel
theorem dX4_tellFigures_51 : dcd cX4_tellFigures 51 = some (.invokevirtual 68, 54) := by decide +kernel
theorem dX4_tellFigures_54 : dcd cX4_tellFigures 54 = some (.ifCond .ne 5, 57) := by decide +kernel
theorem dX4_tellFigures_57 : dcd cX4_tellFigures 57 = some (.iconst 0, 58) := by decide +kernel
theorem dX4_tellFigures_58 : dcd cX4_tellFigures 58 = some (.ireturn, 59) := by decide +kernel
theorem dX4_tellFigures_59 : dcd cX4_tellFigures 59 = some (.aload_n 1, 60) := by decide +kernel
theorem dX4_tellFigures_60 : dcd cX4_tellFigures 60 = some (.aload_n 0, 61) := by decide +kernel
theorem dX4_tellFigures_61 : dcd cX4_tellFigures 61 = some (.getfield 72, 64) := by decide +kernel
theorem dX4_tellFigures_64 : dcd cX4_tellFigures 64 = some (.putfield 81, 67) := by decide +kernel
theorem dX4_tellFigures_67 : dcd cX4_tellFigures 67 = some (.aload_n 0, 68) := by decide +kernel
theorem dX4_tellFigures_68 : dcd cX4_tellFigures 68 = some (.invokevirtual 29, 71) := by decide +kernel
theorem dX4_tellFigures_71 : dcd cX4_tellFigures 71 = some (.iconst 1, 72) := by decide +kernel
theorem dX4_tellFigures_72 : dcd cX4_tellFigures 72 = some (.ireturn, 73) := by decide +kernel
theorem dX4_tellStage_0 : dcd cX4_tellStage 0 = some (.aload_n 0, 1) := by decide +kernel
theorem dX4_tellStage_1 : dcd cX4_tellStage 1 = some (.getfield 32, 4) := by decide +kernel
theorem dX4_tellStage_4 : dcd cX4_tellStage 4 = some (.iconst 5, 5) := by decide +kernel
theorem dX4_tellStage_5 : dcd cX4_tellStage 5 = some (.if_icmp .ne 14, 8) := by decide +kernel
theorem dX4_tellStage_8 : dcd cX4_tellStage 8 = some (.aload_n 1, 9) := by decide +kernel
theorem dX4_tellStage_9 : dcd cX4_tellStage 9 = some (.iconst 1, 10) := by decide +kernel
theorem dX4_tellStage_10 : dcd cX4_tellStage 10 = some (.putfield 84, 13) := by decide +kernel
theorem dX4_tellStage_13 : dcd cX4_tellStage 13 = some (.aload_n 0, 14) := by decide +kernel
theorem dX4_tellStage_14 : dcd cX4_tellStage 14 = some (.invokevirtual 29, 17) := by decide +kernel
theorem dX4_tellStage_17 : dcd cX4_tellStage 17 = some (.iconst 1, 18) := by decide +kernel
theorem dX4_tellStage_18 : dcd cX4_tellStage 18 = some (.ireturn, 19) := by decide +kernel
theorem dX4_tellStage_19 : dcd cX4_tellStage 19 = some (.aload_n 0, 20) := by decide +kernel
theorem dX4_tellStage_20 : dcd cX4_tellStage 20 = some (.getfield 32, 23) := by decide +kernel
theorem dX4_tellStage_23 : dcd cX4_tellStage 23 = some (.bipush 6, 25) := by decide +kernel
theorem dX4_tellStage_25 : dcd cX4_tellStage 25 = some (.if_icmp .eq 5, 28) := by decide +kernel
theorem dX4_tellStage_28 : dcd cX4_tellStage 28 = some (.iconst 1, 29) := by decide +kernel
theorem dX4_tellStage_29 : dcd cX4_tellStage 29 = some (.ireturn, 30) := by decide +kernel
theorem dX4_tellStage_30 : dcd cX4_tellStage 30 = some (.aload_n 0, 31) := by decide +kernel
theorem dX4_tellStage_31 : dcd cX4_tellStage 31 = some (.invokevirtual 29, 34) := by decide +kernel
theorem dX4_tellStage_34 : dcd cX4_tellStage 34 = some (.aload_n 0, 35) := by decide +kernel
theorem dX4_tellStage_35 : dcd cX4_tellStage 35 = some (.iconst 0, 36) := by decide +kernel
theorem dX4_tellStage_36 : dcd cX4_tellStage 36 = some (.bipush 9, 38) := by decide +kernel
theorem dX4_tellStage_38 : dcd cX4_tellStage 38 = some (.invokevirtual 68, 41) := by decide +kernel
theorem dX4_tellStage_41 : dcd cX4_tellStage 41 = some (.ifCond .ne 5, 44) := by decide +kernel
theorem dX4_tellStage_44 : dcd cX4_tellStage 44 = some (.iconst 0, 45) := by decide +kernel
theorem dX4_tellStage_45 : dcd cX4_tellStage 45 = some (.ireturn, 46) := by decide +kernel
theorem dX4_tellStage_46 : dcd cX4_tellStage 46 = some (.aload_n 1, 47) := by decide +kernel
theorem dX4_tellStage_47 : dcd cX4_tellStage 47 = some (.aload_n 0, 48) := by decide +kernel
theorem dX4_tellStage_48 : dcd cX4_tellStage 48 = some (.getfield 72, 51) := by decide +kernel
theorem dX4_tellStage_51 : dcd cX4_tellStage 51 = some (.putfield 88, 54) := by decide +kernel
theorem dX4_tellStage_54 : dcd cX4_tellStage 54 = some (.aload_n 0, 55) := by decide +kernel
theorem dX4_tellStage_55 : dcd cX4_tellStage 55 = some (.invokevirtual 29, 58) := by decide +kernel
theorem dX4_tellStage_58 : dcd cX4_tellStage 58 = some (.aload_n 0, 59) := by decide +kernel
theorem dX4_tellStage_59 : dcd cX4_tellStage 59 = some (.iconst 0, 60) := by decide +kernel
theorem dX4_tellStage_60 : dcd cX4_tellStage 60 = some (.bipush 9, 62) := by decide +kernel
theorem dX4_tellStage_62 : dcd cX4_tellStage 62 = some (.invokevirtual 68, 65) := by decide +kernel
theorem dX4_tellStage_65 : dcd cX4_tellStage 65 = some (.ifCond .ne 5, 68) := by decide +kernel
theorem dX4_tellStage_68 : dcd cX4_tellStage 68 = some (.iconst 0, 69) := by decide +kernel
theorem dX4_tellStage_69 : dcd cX4_tellStage 69 = some (.ireturn, 70) := by decide +kernel
theorem dX4_tellStage_70 : dcd cX4_tellStage 70 = some (.aload_n 1, 71) := by decide +kernel
theorem dX4_tellStage_71 : dcd cX4_tellStage 71 = some (.aload_n 0, 72) := by decide +kernel
theorem dX4_tellStage_72 : dcd cX4_tellStage 72 = some (.getfield 72, 75) := by decide +kernel
theorem dX4_tellStage_75 : dcd cX4_tellStage 75 = some (.putfield 91, 78) := by decide +kernel
theorem dX4_tellStage_78 : dcd cX4_tellStage 78 = some (.aload_n 0, 79) := by decide +kernel
theorem dX4_tellStage_79 : dcd cX4_tellStage 79 = some (.invokevirtual 29, 82) := by decide +kernel
theorem dX4_tellStage_82 : dcd cX4_tellStage 82 = some (.iconst 1, 83) := by decide +kernel
theorem dX4_tellStage_83 : dcd cX4_tellStage 83 = some (.ireturn, 84) := by decide +kernel
theorem dX4_tellTone_0 : dcd cX4_tellTone 0 = some (.aload_n 0, 1) := by decide +kernel
theorem dX4_tellTone_1 : dcd cX4_tellTone 1 = some (.getfield 32, 4) := by decide +kernel
theorem dX4_tellTone_4 : dcd cX4_tellTone 4 = some (.bipush 7, 6) := by decide +kernel
theorem dX4_tellTone_6 : dcd cX4_tellTone 6 = some (.if_icmp .eq 12, 9) := by decide +kernel
theorem dX4_tellTone_9 : dcd cX4_tellTone 9 = some (.aload_n 0, 10) := by decide +kernel
theorem dX4_tellTone_10 : dcd cX4_tellTone 10 = some (.getfield 32, 13) := by decide +kernel
theorem dX4_tellTone_13 : dcd cX4_tellTone 13 = some (.bipush 8, 15) := by decide +kernel
theorem dX4_tellTone_15 : dcd cX4_tellTone 15 = some (.if_icmp .ne 25, 18) := by decide +kernel
theorem dX4_tellTone_18 : dcd cX4_tellTone 18 = some (.aload_n 1, 19) := by decide +kernel
theorem dX4_tellTone_19 : dcd cX4_tellTone 19 = some (.aload_n 0, 20) := by decide +kernel
theorem dX4_tellTone_20 : dcd cX4_tellTone 20 = some (.getfield 32, 23) := by decide +kernel
theorem dX4_tellTone_23 : dcd cX4_tellTone 23 = some (.bipush 7, 25) := by decide +kernel
theorem dX4_tellTone_25 : dcd cX4_tellTone 25 = some (.if_icmp .ne 7, 28) := by decide +kernel
theorem dX4_tellTone_28 : dcd cX4_tellTone 28 = some (.iconst 1, 29) := by decide +kernel
theorem dX4_tellTone_29 : dcd cX4_tellTone 29 = some (.goto 4, 32) := by decide +kernel
theorem dX4_tellTone_32 : dcd cX4_tellTone 32 = some (.iconst 2, 33) := by decide +kernel
theorem dX4_tellTone_33 : dcd cX4_tellTone 33 = some (.putfield 94, 36) := by decide +kernel
theorem dX4_tellTone_36 : dcd cX4_tellTone 36 = some (.aload_n 0, 37) := by decide +kernel
theorem dX4_tellTone_37 : dcd cX4_tellTone 37 = some (.invokevirtual 29, 40) := by decide +kernel
theorem dX4_tellTone_40 : dcd cX4_tellTone 40 = some (.return_, 41) := by decide +kernel
theorem dX4_tellTrain_0 : dcd cX4_tellTrain 0 = some (.aload_n 0, 1) := by decide +kernel
theorem dX4_tellTrain_1 : dcd cX4_tellTrain 1 = some (.getfield 32, 4) := by decide +kernel
theorem dX4_tellTrain_4 : dcd cX4_tellTrain 4 = some (.bipush 9, 6) := by decide +kernel
theorem dX4_tellTrain_6 : dcd cX4_tellTrain 6 = some (.if_icmp .eq 5, 9) := by decide +kernel
theorem dX4_tellTrain_9 : dcd cX4_tellTrain 9 = some (.iconst 1, 10) := by decide +kernel
theorem dX4_tellTrain_10 : dcd cX4_tellTrain 10 = some (.ireturn, 11) := by decide +kernel
theorem dX4_tellTrain_11 : dcd cX4_tellTrain 11 = some (.aload_n 0, 12) := by decide +kernel
theorem dX4_tellTrain_12 : dcd cX4_tellTrain 12 = some (.invokevirtual 29, 15) := by decide +kernel
theorem dX4_tellTrain_15 : dcd cX4_tellTrain 15 = some (.aload_n 0, 16) := by decide +kernel
theorem dX4_tellTrain_16 : dcd cX4_tellTrain 16 = some (.iconst 1, 17) := by decide +kernel
theorem dX4_tellTrain_17 : dcd cX4_tellTrain 17 = some (.sipush 250, 20) := by decide +kernel
theorem dX4_tellTrain_20 : dcd cX4_tellTrain 20 = some (.invokevirtual 68, 23) := by decide +kernel
theorem dX4_tellTrain_23 : dcd cX4_tellTrain 23 = some (.ifCond .ne 5, 26) := by decide +kernel
theorem dX4_tellTrain_26 : dcd cX4_tellTrain 26 = some (.iconst 0, 27) := by decide +kernel
theorem dX4_tellTrain_27 : dcd cX4_tellTrain 27 = some (.ireturn, 28) := by decide +kernel
theorem dX4_tellTrain_28 : dcd cX4_tellTrain 28 = some (.aload_n 1, 29) := by decide +kernel
theorem dX4_tellTrain_29 : dcd cX4_tellTrain 29 = some (.aload_n 0, 30) := by decide +kernel
theorem dX4_tellTrain_30 : dcd cX4_tellTrain 30 = some (.getfield 72, 33) := by decide +kernel
theorem dX4_tellTrain_33 : dcd cX4_tellTrain 33 = some (.putfield 97, 36) := by decide +kernel
theorem dX4_tellTrain_36 : dcd cX4_tellTrain 36 = some (.aload_n 0, 37) := by decide +kernel
theorem dX4_tellTrain_37 : dcd cX4_tellTrain 37 = some (.invokevirtual 29, 40) := by decide +kernel
theorem dX4_tellTrain_40 : dcd cX4_tellTrain 40 = some (.iconst 1, 41) := by decide +kernel
theorem dX4_tellTrain_41 : dcd cX4_tellTrain 41 = some (.ireturn, 42) := by decide +kernel
theorem dX4_tellFeud_0 : dcd cX4_tellFeud 0 = some (.aload_n 0, 1) := by decide +kernel
theorem dX4_tellFeud_1 : dcd cX4_tellFeud 1 = some (.getfield 32, 4) := by decide +kernel
theorem dX4_tellFeud_4 : dcd cX4_tellFeud 4 = some (.bipush 10, 6) := by decide +kernel
theorem dX4_tellFeud_6 : dcd cX4_tellFeud 6 = some (.if_icmp .eq 5, 9) := by decide +kernel
theorem dX4_tellFeud_9 : dcd cX4_tellFeud 9 = some (.iconst 0, 10) := by decide +kernel
theorem dX4_tellFeud_10 : dcd cX4_tellFeud 10 = some (.ireturn, 11) := by decide +kernel
theorem dX4_tellFeud_11 : dcd cX4_tellFeud 11 = some (.aload_n 0, 12) := by decide +kernel
theorem dX4_tellFeud_12 : dcd cX4_tellFeud 12 = some (.invokevirtual 29, 15) := by decide +kernel
theorem dX4_tellFeud_15 : dcd cX4_tellFeud 15 = some (.aload_n 0, 16) := by decide +kernel
theorem dX4_tellFeud_16 : dcd cX4_tellFeud 16 = some (.iconst 0, 17) := by decide +kernel
theorem dX4_tellFeud_17 : dcd cX4_tellFeud 17 = some (.aload_n 1, 18) := by decide +kernel
theorem dX4_tellFeud_18 : dcd cX4_tellFeud 18 = some (.getfield 21, 21) := by decide +kernel
theorem dX4_tellFeud_21 : dcd cX4_tellFeud 21 = some (.iconst 1, 22) := by decide +kernel
theorem dX4_tellFeud_22 : dcd cX4_tellFeud 22 = some (.isub, 23) := by decide +kernel
theorem dX4_tellFeud_23 : dcd cX4_tellFeud 23 = some (.invokevirtual 68, 26) := by decide +kernel
theorem dX4_tellFeud_26 : dcd cX4_tellFeud 26 = some (.ifCond .ne 5, 29) := by decide +kernel
theorem dX4_tellFeud_29 : dcd cX4_tellFeud 29 = some (.iconst 0, 30) := by decide +kernel
theorem dX4_tellFeud_30 : dcd cX4_tellFeud 30 = some (.ireturn, 31) := by decide +kernel
theorem dX4_tellFeud_31 : dcd cX4_tellFeud 31 = some (.aload_n 0, 32) := by decide +kernel
theorem dX4_tellFeud_32 : dcd cX4_tellFeud 32 = some (.getfield 72, 35) := by decide +kernel
theorem dX4_tellFeud_35 : dcd cX4_tellFeud 35 = some (.istore_n 2, 36) := by decide +kernel
theorem dX4_tellFeud_36 : dcd cX4_tellFeud 36 = some (.aload_n 0, 37) := by decide +kernel
theorem dX4_tellFeud_37 : dcd cX4_tellFeud 37 = some (.invokevirtual 29, 40) := by decide +kernel
theorem dX4_tellFeud_40 : dcd cX4_tellFeud 40 = some (.aload_n 0, 41) := by decide +kernel
theorem dX4_tellFeud_41 : dcd cX4_tellFeud 41 = some (.iconst 0, 42) := by decide +kernel
theorem dX4_tellFeud_42 : dcd cX4_tellFeud 42 = some (.aload_n 1, 43) := by decide +kernel
theorem dX4_tellFeud_43 : dcd cX4_tellFeud 43 = some (.getfield 21, 46) := by decide +kernel
theorem dX4_tellFeud_46 : dcd cX4_tellFeud 46 = some (.iconst 1, 47) := by decide +kernel
theorem dX4_tellFeud_47 : dcd cX4_tellFeud 47 = some (.isub, 48) := by decide +kernel
theorem dX4_tellFeud_48 : dcd cX4_tellFeud 48 = some (.invokevirtual 68, 51) := by decide +kernel
theorem dX4_tellFeud_51 : dcd cX4_tellFeud 51 = some (.ifCond .eq 11, 54) := by decide +kernel
theorem dX4_tellFeud_54 : dcd cX4_tellFeud 54 = some (.aload_n 0, 55) := by decide +kernel
theorem dX4_tellFeud_55 : dcd cX4_tellFeud 55 = some (.getfield 72, 58) := by decide +kernel
theorem dX4_tellFeud_58 : dcd cX4_tellFeud 58 = some (.iload_n 2, 59) := by decide +kernel
theorem dX4_tellFeud_59 : dcd cX4_tellFeud 59 = some (.if_icmp .ne 5, 62) := by decide +kernel
theorem dX4_tellFeud_62 : dcd cX4_tellFeud 62 = some (.iconst 0, 63) := by decide +kernel
theorem dX4_tellFeud_63 : dcd cX4_tellFeud 63 = some (.ireturn, 64) := by decide +kernel
theorem dX4_tellFeud_64 : dcd cX4_tellFeud 64 = some (.aload_n 0, 65) := by decide +kernel
theorem dX4_tellFeud_65 : dcd cX4_tellFeud 65 = some (.getfield 72, 68) := by decide +kernel
theorem dX4_tellFeud_68 : dcd cX4_tellFeud 68 = some (.istore_n 3, 69) := by decide +kernel
theorem dX4_tellFeud_69 : dcd cX4_tellFeud 69 = some (.aload_n 0, 70) := by decide +kernel
theorem dX4_tellFeud_70 : dcd cX4_tellFeud 70 = some (.invokevirtual 29, 73) := by decide +kernel
theorem dX4_tellFeud_73 : dcd cX4_tellFeud 73 = some (.aload_n 0, 74) := by decide +kernel
theorem dX4_tellFeud_74 : dcd cX4_tellFeud 74 = some (.getfield 32, 77) := by decide +kernel
theorem dX4_tellFeud_77 : dcd cX4_tellFeud 77 = some (.iconst 3, 78) := by decide +kernel
theorem dX4_tellFeud_78 : dcd cX4_tellFeud 78 = some (.if_icmp .eq 5, 81) := by decide +kernel
theorem dX4_tellFeud_81 : dcd cX4_tellFeud 81 = some (.iconst 0, 82) := by decide +kernel
theorem dX4_tellFeud_82 : dcd cX4_tellFeud 82 = some (.ireturn, 83) := by decide +kernel
theorem dX4_tellFeud_83 : dcd cX4_tellFeud 83 = some (.aload_n 1, 84) := by decide +kernel
theorem dX4_tellFeud_84 : dcd cX4_tellFeud 84 = some (.iload_n 2, 85) := by decide +kernel
theorem dX4_tellFeud_85 : dcd cX4_tellFeud 85 = some (.iload_n 3, 86) := by decide +kernel
theorem dX4_tellFeud_86 : dcd cX4_tellFeud 86 = some (.invokevirtual 100, 89) := by decide +kernel
theorem dX4_tellFeud_89 : dcd cX4_tellFeud 89 = some (.aload_n 0, 90) := by decide +kernel
theorem dX4_tellFeud_90 : dcd cX4_tellFeud 90 = some (.invokevirtual 29, 93) := by decide +kernel
theorem dX4_tellFeud_93 : dcd cX4_tellFeud 93 = some (.iconst 1, 94) := by decide +kernel
theorem dX4_tellFeud_94 : dcd cX4_tellFeud 94 = some (.ireturn, 95) := by decide +kernel
theorem dX4_isNumber_0 : dcd cX4_isNumber 0 = some (.aload_n 0, 1) := by decide +kernel
theorem dX4_isNumber_1 : dcd cX4_isNumber 1 = some (.getfield 32, 4) := by decide +kernel
theorem dX4_isNumber_4 : dcd cX4_isNumber 4 = some (.iconst 2, 5) := by decide +kernel
theorem dX4_isNumber_5 : dcd cX4_isNumber 5 = some (.if_icmp .ne 23, 8) := by decide +kernel
theorem dX4_isNumber_8 : dcd cX4_isNumber 8 = some (.aload_n 0, 9) := by decide +kernel
theorem dX4_isNumber_9 : dcd cX4_isNumber 9 = some (.getfield 72, 12) := by decide +kernel
theorem dX4_isNumber_12 : dcd cX4_isNumber 12 = some (.iload_n 1, 13) := by decide +kernel
theorem dX4_isNumber_13 : dcd cX4_isNumber 13 = some (.if_icmp .lt 15, 16) := by decide +kernel
theorem dX4_isNumber_16 : dcd cX4_isNumber 16 = some (.aload_n 0, 17) := by decide +kernel
theorem dX4_isNumber_17 : dcd cX4_isNumber 17 = some (.getfield 72, 20) := by decide +kernel
theorem dX4_isNumber_20 : dcd cX4_isNumber 20 = some (.iload_n 2, 21) := by decide +kernel
theorem dX4_isNumber_21 : dcd cX4_isNumber 21 = some (.if_icmp .gt 7, 24) := by decide +kernel
theorem dX4_isNumber_24 : dcd cX4_isNumber 24 = some (.iconst 1, 25) := by decide +kernel
theorem dX4_isNumber_25 : dcd cX4_isNumber 25 = some (.goto 4, 28) := by decide +kernel
theorem dX4_isNumber_28 : dcd cX4_isNumber 28 = some (.iconst 0, 29) := by decide +kernel
theorem dX4_isNumber_29 : dcd cX4_isNumber 29 = some (.ireturn, 30) := by decide +kernel
theorem dX4_advance_0 : dcd cX4_advance 0 = some (.aload_n 0, 1) := by decide +kernel
theorem dX4_advance_1 : dcd cX4_advance 1 = some (.getfield 26, 4) := by decide +kernel
theorem dX4_advance_4 : dcd cX4_advance 4 = some (.aload_n 0, 5) := by decide +kernel
theorem dX4_advance_5 : dcd cX4_advance 5 = some (.getfield 15, 8) := by decide +kernel
theorem dX4_advance_8 : dcd cX4_advance 8 = some (.if_icmp .ge 30, 11) := by decide +kernel
theorem dX4_advance_11 : dcd cX4_advance 11 = some (.aload_n 0, 12) := by decide +kernel
theorem dX4_advance_12 : dcd cX4_advance 12 = some (.getfield 9, 15) := by decide +kernel
theorem dX4_advance_15 : dcd cX4_advance 15 = some (.aload_n 0, 16) := by decide +kernel
theorem dX4_advance_16 : dcd cX4_advance 16 = some (.getfield 26, 19) := by decide +kernel
theorem dX4_advance_19 : dcd cX4_advance 19 = some (.caload, 20) := by decide +kernel
theorem dX4_advance_20 : dcd cX4_advance 20 = some (.bipush 32, 22) := by decide +kernel
theorem dX4_advance_22 : dcd cX4_advance 22 = some (.if_icmp .ne 16, 25) := by decide +kernel
theorem dX4_advance_25 : dcd cX4_advance 25 = some (.aload_n 0, 26) := by decide +kernel
theorem dX4_advance_26 : dcd cX4_advance 26 = some (.dup, 27) := by decide +kernel
theorem dX4_advance_27 : dcd cX4_advance 27 = some (.getfield 26, 30) := by decide +kernel
theorem dX4_advance_30 : dcd cX4_advance 30 = some (.iconst 1, 31) := by decide +kernel
theorem dX4_advance_31 : dcd cX4_advance 31 = some (.iadd, 32) := by decide +kernel
theorem dX4_advance_32 : dcd cX4_advance 32 = some (.putfield 26, 35) := by decide +kernel
theorem dX4_advance_35 : dcd cX4_advance 35 = some (.goto (-35), 38) := by decide +kernel
theorem dX4_advance_38 : dcd cX4_advance 38 = some (.aload_n 0, 39) := by decide +kernel
theorem dX4_advance_39 : dcd cX4_advance 39 = some (.aload_n 0, 40) := by decide +kernel
theorem dX4_advance_40 : dcd cX4_advance 40 = some (.getfield 26, 43) := by decide +kernel
theorem dX4_advance_43 : dcd cX4_advance 43 = some (.putfield 42, 46) := by decide +kernel
theorem dX4_advance_46 : dcd cX4_advance 46 = some (.aload_n 0, 47) := by decide +kernel
theorem dX4_advance_47 : dcd cX4_advance 47 = some (.getfield 26, 50) := by decide +kernel
theorem dX4_advance_50 : dcd cX4_advance 50 = some (.aload_n 0, 51) := by decide +kernel
theorem dX4_advance_51 : dcd cX4_advance 51 = some (.getfield 15, 54) := by decide +kernel
theorem dX4_advance_54 : dcd cX4_advance 54 = some (.if_icmp .lt 11, 57) := by decide +kernel
theorem dX4_advance_57 : dcd cX4_advance 57 = some (.aload_n 0, 58) := by decide +kernel
theorem dX4_advance_58 : dcd cX4_advance 58 = some (.iconst 0, 59) := by decide +kernel
theorem dX4_advance_59 : dcd cX4_advance 59 = some (.putfield 32, 62) := by decide +kernel
theorem dX4_advance_62 : dcd cX4_advance 62 = some (.goto 80, 65) := by decide +kernel
theorem dX4_advance_65 : dcd cX4_advance 65 = some (.aload_n 0, 66) := by decide +kernel
theorem dX4_advance_66 : dcd cX4_advance 66 = some (.getfield 9, 69) := by decide +kernel
theorem dX4_advance_69 : dcd cX4_advance 69 = some (.aload_n 0, 70) := by decide +kernel
theorem dX4_advance_70 : dcd cX4_advance 70 = some (.getfield 26, 73) := by decide +kernel
theorem dX4_advance_73 : dcd cX4_advance 73 = some (.caload, 74) := by decide +kernel
theorem dX4_advance_74 : dcd cX4_advance 74 = some (.invokestatic 104, 77) := by decide +kernel
theorem dX4_advance_77 : dcd cX4_advance 77 = some (.ifCond .eq 10, 80) := by decide +kernel
theorem dX4_advance_80 : dcd cX4_advance 80 = some (.aload_n 0, 81) := by decide +kernel
theorem dX4_advance_81 : dcd cX4_advance 81 = some (.invokevirtual 108, 84) := by decide +kernel
theorem dX4_advance_84 : dcd cX4_advance 84 = some (.goto 58, 87) := by decide +kernel
theorem dX4_advance_87 : dcd cX4_advance 87 = some (.aload_n 0, 88) := by decide +kernel
theorem dX4_advance_88 : dcd cX4_advance 88 = some (.getfield 9, 91) := by decide +kernel
theorem dX4_advance_91 : dcd cX4_advance 91 = some (.aload_n 0, 92) := by decide +kernel
theorem dX4_advance_92 : dcd cX4_advance 92 = some (.getfield 26, 95) := by decide +kernel
theorem dX4_advance_95 : dcd cX4_advance 95 = some (.caload, 96) := by decide +kernel
theorem dX4_advance_96 : dcd cX4_advance 96 = some (.invokestatic 111, 99) := by decide +kernel
theorem dX4_advance_99 : dcd cX4_advance 99 = some (.ifCond .eq 10, 102) := by decide +kernel
theorem dX4_advance_102 : dcd cX4_advance 102 = some (.aload_n 0, 103) := by decide +kernel
theorem dX4_advance_103 : dcd cX4_advance 103 = some (.invokevirtual 114, 106) := by decide +kernel
theorem dX4_advance_106 : dcd cX4_advance 106 = some (.goto 36, 109) := by decide +kernel
theorem dX4_advance_109 : dcd cX4_advance 109 = some (.aload_n 0, 110) := by decide +kernel
theorem dX4_advance_110 : dcd cX4_advance 110 = some (.aload_n 0, 111) := by decide +kernel
theorem dX4_advance_111 : dcd cX4_advance 111 = some (.getfield 9, 114) := by decide +kernel
theorem dX4_advance_114 : dcd cX4_advance 114 = some (.aload_n 0, 115) := by decide +kernel
theorem dX4_advance_115 : dcd cX4_advance 115 = some (.getfield 26, 118) := by decide +kernel
theorem dX4_advance_118 : dcd cX4_advance 118 = some (.caload, 119) := by decide +kernel
theorem dX4_advance_119 : dcd cX4_advance 119 = some (.bipush 59, 121) := by decide +kernel
theorem dX4_advance_121 : dcd cX4_advance 121 = some (.if_icmp .ne 7, 124) := by decide +kernel
theorem dX4_advance_124 : dcd cX4_advance 124 = some (.iconst 3, 125) := by decide +kernel
theorem dX4_advance_125 : dcd cX4_advance 125 = some (.goto 4, 128) := by decide +kernel
theorem dX4_advance_128 : dcd cX4_advance 128 = some (.iconst 1, 129) := by decide +kernel
theorem dX4_advance_129 : dcd cX4_advance 129 = some (.putfield 32, 132) := by decide +kernel
theorem dX4_advance_132 : dcd cX4_advance 132 = some (.aload_n 0, 133) := by decide +kernel
theorem dX4_advance_133 : dcd cX4_advance 133 = some (.dup, 134) := by decide +kernel
theorem dX4_advance_134 : dcd cX4_advance 134 = some (.getfield 26, 137) := by decide +kernel
theorem dX4_advance_137 : dcd cX4_advance 137 = some (.iconst 1, 138) := by decide +kernel
theorem dX4_advance_138 : dcd cX4_advance 138 = some (.iadd, 139) := by decide +kernel
theorem dX4_advance_139 : dcd cX4_advance 139 = some (.putfield 26, 142) := by decide +kernel
theorem dX4_advance_142 : dcd cX4_advance 142 = some (.return_, 143) := by decide +kernel
theorem dX4_readWord_0 : dcd cX4_readWord 0 = some (.aload_n 0, 1) := by decide +kernel
theorem dX4_readWord_1 : dcd cX4_readWord 1 = some (.getfield 26, 4) := by decide +kernel
theorem dX4_readWord_4 : dcd cX4_readWord 4 = some (.aload_n 0, 5) := by decide +kernel
theorem dX4_readWord_5 : dcd cX4_readWord 5 = some (.getfield 15, 8) := by decide +kernel
theorem dX4_readWord_8 : dcd cX4_readWord 8 = some (.if_icmp .ge 31, 11) := by decide +kernel
theorem dX4_readWord_11 : dcd cX4_readWord 11 = some (.aload_n 0, 12) := by decide +kernel
theorem dX4_readWord_12 : dcd cX4_readWord 12 = some (.getfield 9, 15) := by decide +kernel
theorem dX4_readWord_15 : dcd cX4_readWord 15 = some (.aload_n 0, 16) := by decide +kernel
theorem dX4_readWord_16 : dcd cX4_readWord 16 = some (.getfield 26, 19) := by decide +kernel
theorem dX4_readWord_19 : dcd cX4_readWord 19 = some (.caload, 20) := by decide +kernel
theorem dX4_readWord_20 : dcd cX4_readWord 20 = some (.invokestatic 104, 23) := by decide +kernel
theorem dX4_readWord_23 : dcd cX4_readWord 23 = some (.ifCond .eq 16, 26) := by decide +kernel
theorem dX4_readWord_26 : dcd cX4_readWord 26 = some (.aload_n 0, 27) := by decide +kernel
theorem dX4_readWord_27 : dcd cX4_readWord 27 = some (.dup, 28) := by decide +kernel
theorem dX4_readWord_28 : dcd cX4_readWord 28 = some (.getfield 26, 31) := by decide +kernel
theorem dX4_readWord_31 : dcd cX4_readWord 31 = some (.iconst 1, 32) := by decide +kernel
theorem dX4_readWord_32 : dcd cX4_readWord 32 = some (.iadd, 33) := by decide +kernel
theorem dX4_readWord_33 : dcd cX4_readWord 33 = some (.putfield 26, 36) := by decide +kernel
theorem dX4_readWord_36 : dcd cX4_readWord 36 = some (.goto (-36), 39) := by decide +kernel
theorem dX4_readWord_39 : dcd cX4_readWord 39 = some (.aload_n 0, 40) := by decide +kernel
theorem dX4_readWord_40 : dcd cX4_readWord 40 = some (.ldc 117, 42) := by decide +kernel
theorem dX4_readWord_42 : dcd cX4_readWord 42 = some (.invokevirtual 119, 45) := by decide +kernel
theorem dX4_readWord_45 : dcd cX4_readWord 45 = some (.ifCond .eq 11, 48) := by decide +kernel
theorem dX4_readWord_48 : dcd cX4_readWord 48 = some (.aload_n 0, 49) := by decide +kernel
theorem dX4_readWord_49 : dcd cX4_readWord 49 = some (.iconst 4, 50) := by decide +kernel
theorem dX4_readWord_50 : dcd cX4_readWord 50 = some (.putfield 32, 53) := by decide +kernel
theorem dX4_readWord_53 : dcd cX4_readWord 53 = some (.goto 111, 56) := by decide +kernel
theorem dX4_readWord_56 : dcd cX4_readWord 56 = some (.aload_n 0, 57) := by decide +kernel
theorem dX4_readWord_57 : dcd cX4_readWord 57 = some (.ldc 123, 59) := by decide +kernel
theorem dX4_readWord_59 : dcd cX4_readWord 59 = some (.invokevirtual 119, 62) := by decide +kernel
theorem dX4_readWord_62 : dcd cX4_readWord 62 = some (.ifCond .eq 11, 65) := by decide +kernel
theorem dX4_readWord_65 : dcd cX4_readWord 65 = some (.aload_n 0, 66) := by decide +kernel
theorem dX4_readWord_66 : dcd cX4_readWord 66 = some (.iconst 5, 67) := by decide +kernel
theorem dX4_readWord_67 : dcd cX4_readWord 67 = some (.putfield 32, 70) := by decide +kernel
theorem dX4_readWord_70 : dcd cX4_readWord 70 = some (.goto 94, 73) := by decide +kernel
theorem dX4_readWord_73 : dcd cX4_readWord 73 = some (.aload_n 0, 74) := by decide +kernel
theorem dX4_readWord_74 : dcd cX4_readWord 74 = some (.ldc 124, 76) := by decide +kernel
theorem dX4_readWord_76 : dcd cX4_readWord 76 = some (.invokevirtual 119, 79) := by decide +kernel
theorem dX4_readWord_79 : dcd cX4_readWord 79 = some (.ifCond .eq 12, 82) := by decide +kernel
theorem dX4_readWord_82 : dcd cX4_readWord 82 = some (.aload_n 0, 83) := by decide +kernel
theorem dX4_readWord_83 : dcd cX4_readWord 83 = some (.bipush 6, 85) := by decide +kernel
theorem dX4_readWord_85 : dcd cX4_readWord 85 = some (.putfield 32, 88) := by decide +kernel
theorem dX4_readWord_88 : dcd cX4_readWord 88 = some (.goto 76, 91) := by decide +kernel
theorem dX4_readWord_91 : dcd cX4_readWord 91 = some (.aload_n 0, 92) := by decide +kernel
theorem dX4_readWord_92 : dcd cX4_readWord 92 = some (.ldc 125, 94) := by decide +kernel
theorem dX4_readWord_94 : dcd cX4_readWord 94 = some (.invokevirtual 119, 97) := by decide +kernel
theorem dX4_readWord_97 : dcd cX4_readWord 97 = some (.ifCond .eq 12, 100) := by decide +kernel
theorem dX4_readWord_100 : dcd cX4_readWord 100 = some (.aload_n 0, 101) := by decide +kernel
theorem dX4_readWord_101 : dcd cX4_readWord 101 = some (.bipush 7, 103) := by decide +kernel
theorem dX4_readWord_103 : dcd cX4_readWord 103 = some (.putfield 32, 106) := by decide +kernel
theorem dX4_readWord_106 : dcd cX4_readWord 106 = some (.goto 58, 109) := by decide +kernel
theorem dX4_readWord_109 : dcd cX4_readWord 109 = some (.aload_n 0, 110) := by decide +kernel
theorem dX4_readWord_110 : dcd cX4_readWord 110 = some (.ldc 127, 112) := by decide +kernel
theorem dX4_readWord_112 : dcd cX4_readWord 112 = some (.invokevirtual 119, 115) := by decide +kernel
theorem dX4_readWord_115 : dcd cX4_readWord 115 = some (.ifCond .eq 12, 118) := by decide +kernel
theorem dX4_readWord_118 : dcd cX4_readWord 118 = some (.aload_n 0, 119) := by decide +kernel
theorem dX4_readWord_119 : dcd cX4_readWord 119 = some (.bipush 8, 121) := by decide +kernel
theorem dX4_readWord_121 : dcd cX4_readWord 121 = some (.putfield 32, 124) := by decide +kernel
theorem dX4_readWord_124 : dcd cX4_readWord 124 = some (.goto 40, 127) := by decide +kernel
theorem dX4_readWord_127 : dcd cX4_readWord 127 = some (.aload_n 0, 128) := by decide +kernel
theorem dX4_readWord_128 : dcd cX4_readWord 128 = some (.ldc 129, 130) := by decide +kernel
theorem dX4_readWord_130 : dcd cX4_readWord 130 = some (.invokevirtual 119, 133) := by decide +kernel
theorem dX4_readWord_133 : dcd cX4_readWord 133 = some (.ifCond .eq 12, 136) := by decide +kernel
theorem dX4_readWord_136 : dcd cX4_readWord 136 = some (.aload_n 0, 137) := by decide +kernel
theorem dX4_readWord_137 : dcd cX4_readWord 137 = some (.bipush 9, 139) := by decide +kernel
theorem dX4_readWord_139 : dcd cX4_readWord 139 = some (.putfield 32, 142) := by decide +kernel
theorem dX4_readWord_142 : dcd cX4_readWord 142 = some (.goto 22, 145) := by decide +kernel
theorem dX4_readWord_145 : dcd cX4_readWord 145 = some (.aload_n 0, 146) := by decide +kernel
theorem dX4_readWord_146 : dcd cX4_readWord 146 = some (.aload_n 0, 147) := by decide +kernel
theorem dX4_readWord_147 : dcd cX4_readWord 147 = some (.ldc 130, 149) := by decide +kernel
theorem dX4_readWord_149 : dcd cX4_readWord 149 = some (.invokevirtual 119, 152) := by decide +kernel
theorem dX4_readWord_152 : dcd cX4_readWord 152 = some (.ifCond .eq 8, 155) := by decide +kernel
theorem dX4_readWord_155 : dcd cX4_readWord 155 = some (.bipush 10, 157) := by decide +kernel
theorem dX4_readWord_157 : dcd cX4_readWord 157 = some (.goto 4, 160) := by decide +kernel
theorem dX4_readWord_160 : dcd cX4_readWord 160 = some (.iconst 1, 161) := by decide +kernel
theorem dX4_readWord_161 : dcd cX4_readWord 161 = some (.putfield 32, 164) := by decide +kernel
theorem dX4_readWord_164 : dcd cX4_readWord 164 = some (.return_, 165) := by decide +kernel
theorem dX4_spells_0 : dcd cX4_spells 0 = some (.aload_n 0, 1) := by decide +kernel
theorem dX4_spells_1 : dcd cX4_spells 1 = some (.getfield 26, 4) := by decide +kernel
theorem dX4_spells_4 : dcd cX4_spells 4 = some (.aload_n 0, 5) := by decide +kernel
theorem dX4_spells_5 : dcd cX4_spells 5 = some (.getfield 42, 8) := by decide +kernel
theorem dX4_spells_8 : dcd cX4_spells 8 = some (.isub, 9) := by decide +kernel
theorem dX4_spells_9 : dcd cX4_spells 9 = some (.aload_n 1, 10) := by decide +kernel
theorem dX4_spells_10 : dcd cX4_spells 10 = some (.invokevirtual 132, 13) := by decide +kernel
theorem dX4_spells_13 : dcd cX4_spells 13 = some (.if_icmp .eq 5, 16) := by decide +kernel
theorem dX4_spells_16 : dcd cX4_spells 16 = some (.iconst 0, 17) := by decide +kernel
theorem dX4_spells_17 : dcd cX4_spells 17 = some (.ireturn, 18) := by decide +kernel
theorem dX4_spells_18 : dcd cX4_spells 18 = some (.iconst 0, 19) := by decide +kernel
theorem dX4_spells_19 : dcd cX4_spells 19 = some (.istore_n 2, 20) := by decide +kernel
theorem dX4_spells_20 : dcd cX4_spells 20 = some (.iload_n 2, 21) := by decide +kernel
theorem dX4_spells_21 : dcd cX4_spells 21 = some (.aload_n 1, 22) := by decide +kernel
theorem dX4_spells_22 : dcd cX4_spells 22 = some (.invokevirtual 132, 25) := by decide +kernel
theorem dX4_spells_25 : dcd cX4_spells 25 = some (.if_icmp .ge 30, 28) := by decide +kernel
theorem dX4_spells_28 : dcd cX4_spells 28 = some (.aload_n 0, 29) := by decide +kernel
theorem dX4_spells_29 : dcd cX4_spells 29 = some (.getfield 9, 32) := by decide +kernel
theorem dX4_spells_32 : dcd cX4_spells 32 = some (.aload_n 0, 33) := by decide +kernel
theorem dX4_spells_33 : dcd cX4_spells 33 = some (.getfield 42, 36) := by decide +kernel
theorem dX4_spells_36 : dcd cX4_spells 36 = some (.iload_n 2, 37) := by decide +kernel
theorem dX4_spells_37 : dcd cX4_spells 37 = some (.iadd, 38) := by decide +kernel
theorem dX4_spells_38 : dcd cX4_spells 38 = some (.caload, 39) := by decide +kernel
theorem dX4_spells_39 : dcd cX4_spells 39 = some (.aload_n 1, 40) := by decide +kernel
theorem dX4_spells_40 : dcd cX4_spells 40 = some (.iload_n 2, 41) := by decide +kernel
theorem dX4_spells_41 : dcd cX4_spells 41 = some (.invokevirtual 137, 44) := by decide +kernel
theorem dX4_spells_44 : dcd cX4_spells 44 = some (.if_icmp .eq 5, 47) := by decide +kernel
theorem dX4_spells_47 : dcd cX4_spells 47 = some (.iconst 0, 48) := by decide +kernel
theorem dX4_spells_48 : dcd cX4_spells 48 = some (.ireturn, 49) := by decide +kernel
theorem dX4_spells_49 : dcd cX4_spells 49 = some (.iinc 2 1, 52) := by decide +kernel
theorem dX4_spells_52 : dcd cX4_spells 52 = some (.goto (-32), 55) := by decide +kernel
theorem dX4_spells_55 : dcd cX4_spells 55 = some (.iconst 1, 56) := by decide +kernel
theorem dX4_spells_56 : dcd cX4_spells 56 = some (.ireturn, 57) := by decide +kernel
theorem dX4_readNumber_0 : dcd cX4_readNumber 0 = some (.aload_n 0, 1) := by decide +kernel
theorem dX4_readNumber_1 : dcd cX4_readNumber 1 = some (.iconst 0, 2) := by decide +kernel
theorem dX4_readNumber_2 : dcd cX4_readNumber 2 = some (.putfield 72, 5) := by decide +kernel
theorem dX4_readNumber_5 : dcd cX4_readNumber 5 = some (.aload_n 0, 6) := by decide +kernel
theorem dX4_readNumber_6 : dcd cX4_readNumber 6 = some (.getfield 26, 9) := by decide +kernel
theorem dX4_readNumber_9 : dcd cX4_readNumber 9 = some (.aload_n 0, 10) := by decide +kernel
theorem dX4_readNumber_10 : dcd cX4_readNumber 10 = some (.getfield 15, 13) := by decide +kernel
theorem dX4_readNumber_13 : dcd cX4_readNumber 13 = some (.if_icmp .ge 61, 16) := by decide +kernel
theorem dX4_readNumber_16 : dcd cX4_readNumber 16 = some (.aload_n 0, 17) := by decide +kernel
theorem dX4_readNumber_17 : dcd cX4_readNumber 17 = some (.getfield 9, 20) := by decide +kernel
theorem dX4_readNumber_20 : dcd cX4_readNumber 20 = some (.aload_n 0, 21) := by decide +kernel
theorem dX4_readNumber_21 : dcd cX4_readNumber 21 = some (.getfield 26, 24) := by decide +kernel
theorem dX4_readNumber_24 : dcd cX4_readNumber 24 = some (.caload, 25) := by decide +kernel
theorem dX4_readNumber_25 : dcd cX4_readNumber 25 = some (.invokestatic 111, 28) := by decide +kernel
theorem dX4_readNumber_28 : dcd cX4_readNumber 28 = some (.ifCond .eq 46, 31) := by decide +kernel
theorem dX4_readNumber_31 : dcd cX4_readNumber 31 = some (.aload_n 0, 32) := by decide +kernel
theorem dX4_readNumber_32 : dcd cX4_readNumber 32 = some (.aload_n 0, 33) := by decide +kernel
theorem dX4_readNumber_33 : dcd cX4_readNumber 33 = some (.getfield 72, 36) := by decide +kernel
theorem dX4_readNumber_36 : dcd cX4_readNumber 36 = some (.bipush 10, 38) := by decide +kernel
theorem dX4_readNumber_38 : dcd cX4_readNumber 38 = some (.imul, 39) := by decide +kernel
theorem dX4_readNumber_39 : dcd cX4_readNumber 39 = some (.aload_n 0, 40) := by decide +kernel
theorem dX4_readNumber_40 : dcd cX4_readNumber 40 = some (.getfield 9, 43) := by decide +kernel
theorem dX4_readNumber_43 : dcd cX4_readNumber 43 = some (.aload_n 0, 44) := by decide +kernel
theorem dX4_readNumber_44 : dcd cX4_readNumber 44 = some (.getfield 26, 47) := by decide +kernel
theorem dX4_readNumber_47 : dcd cX4_readNumber 47 = some (.caload, 48) := by decide +kernel
theorem dX4_readNumber_48 : dcd cX4_readNumber 48 = some (.bipush 48, 50) := by decide +kernel
theorem dX4_readNumber_50 : dcd cX4_readNumber 50 = some (.isub, 51) := by decide +kernel
theorem dX4_readNumber_51 : dcd cX4_readNumber 51 = some (.iadd, 52) := by decide +kernel
theorem dX4_readNumber_52 : dcd cX4_readNumber 52 = some (.sipush 1000, 55) := by decide +kernel
theorem dX4_readNumber_55 : dcd cX4_readNumber 55 = some (.invokestatic 141, 58) := by decide +kernel
theorem dX4_readNumber_58 : dcd cX4_readNumber 58 = some (.putfield 72, 61) := by decide +kernel
theorem dX4_readNumber_61 : dcd cX4_readNumber 61 = some (.aload_n 0, 62) := by decide +kernel
theorem dX4_readNumber_62 : dcd cX4_readNumber 62 = some (.dup, 63) := by decide +kernel
theorem dX4_readNumber_63 : dcd cX4_readNumber 63 = some (.getfield 26, 66) := by decide +kernel
theorem dX4_readNumber_66 : dcd cX4_readNumber 66 = some (.iconst 1, 67) := by decide +kernel
theorem dX4_readNumber_67 : dcd cX4_readNumber 67 = some (.iadd, 68) := by decide +kernel
theorem dX4_readNumber_68 : dcd cX4_readNumber 68 = some (.putfield 26, 71) := by decide +kernel
theorem dX4_readNumber_71 : dcd cX4_readNumber 71 = some (.goto (-66), 74) := by decide +kernel
theorem dX4_readNumber_74 : dcd cX4_readNumber 74 = some (.aload_n 0, 75) := by decide +kernel
theorem dX4_readNumber_75 : dcd cX4_readNumber 75 = some (.getfield 9, 78) := by decide +kernel
theorem dX4_readNumber_78 : dcd cX4_readNumber 78 = some (.aload_n 0, 79) := by decide +kernel
theorem dX4_readNumber_79 : dcd cX4_readNumber 79 = some (.getfield 42, 82) := by decide +kernel
theorem dX4_readNumber_82 : dcd cX4_readNumber 82 = some (.caload, 83) := by decide +kernel
theorem dX4_readNumber_83 : dcd cX4_readNumber 83 = some (.bipush 48, 85) := by decide +kernel
theorem dX4_readNumber_85 : dcd cX4_readNumber 85 = some (.if_icmp .ne 20, 88) := by decide +kernel
theorem dX4_readNumber_88 : dcd cX4_readNumber 88 = some (.aload_n 0, 89) := by decide +kernel
theorem dX4_readNumber_89 : dcd cX4_readNumber 89 = some (.getfield 26, 92) := by decide +kernel
theorem dX4_readNumber_92 : dcd cX4_readNumber 92 = some (.aload_n 0, 93) := by decide +kernel
theorem dX4_readNumber_93 : dcd cX4_readNumber 93 = some (.getfield 42, 96) := by decide +kernel
theorem dX4_readNumber_96 : dcd cX4_readNumber 96 = some (.isub, 97) := by decide +kernel
theorem dX4_readNumber_97 : dcd cX4_readNumber 97 = some (.iconst 1, 98) := by decide +kernel
theorem dX4_readNumber_98 : dcd cX4_readNumber 98 = some (.if_icmp .le 7, 101) := by decide +kernel
theorem dX4_readNumber_101 : dcd cX4_readNumber 101 = some (.iconst 1, 102) := by decide +kernel
theorem dX4_readNumber_102 : dcd cX4_readNumber 102 = some (.goto 4, 105) := by decide +kernel
theorem dX4_readNumber_105 : dcd cX4_readNumber 105 = some (.iconst 0, 106) := by decide +kernel
theorem dX4_readNumber_106 : dcd cX4_readNumber 106 = some (.istore_n 1, 107) := by decide +kernel
theorem dX4_readNumber_107 : dcd cX4_readNumber 107 = some (.aload_n 0, 108) := by decide +kernel
theorem dX4_readNumber_108 : dcd cX4_readNumber 108 = some (.iload_n 1, 109) := by decide +kernel
theorem dX4_readNumber_109 : dcd cX4_readNumber 109 = some (.ifCond .ne 13, 112) := by decide +kernel
theorem dX4_readNumber_112 : dcd cX4_readNumber 112 = some (.aload_n 0, 113) := by decide +kernel
theorem dX4_readNumber_113 : dcd cX4_readNumber 113 = some (.getfield 72, 116) := by decide +kernel
theorem dX4_readNumber_116 : dcd cX4_readNumber 116 = some (.sipush 250, 119) := by decide +kernel
theorem dX4_readNumber_119 : dcd cX4_readNumber 119 = some (.if_icmp .le 7, 122) := by decide +kernel
theorem dX4_readNumber_122 : dcd cX4_readNumber 122 = some (.iconst 1, 123) := by decide +kernel
theorem dX4_readNumber_123 : dcd cX4_readNumber 123 = some (.goto 4, 126) := by decide +kernel
theorem dX4_readNumber_126 : dcd cX4_readNumber 126 = some (.iconst 2, 127) := by decide +kernel
theorem dX4_readNumber_127 : dcd cX4_readNumber 127 = some (.putfield 32, 130) := by decide +kernel
theorem dX4_readNumber_130 : dcd cX4_readNumber 130 = some (.return_, 131) := by decide +kernel
theorem dX4_isLetter_0 : dcd cX4_isLetter 0 = some (.iload_n 0, 1) := by decide +kernel
theorem dX4_isLetter_1 : dcd cX4_isLetter 1 = some (.bipush 97, 3) := by decide +kernel
theorem dX4_isLetter_3 : dcd cX4_isLetter 3 = some (.if_icmp .lt 13, 6) := by decide +kernel
theorem dX4_isLetter_6 : dcd cX4_isLetter 6 = some (.iload_n 0, 7) := by decide +kernel
theorem dX4_isLetter_7 : dcd cX4_isLetter 7 = some (.bipush 122, 9) := by decide +kernel
theorem dX4_isLetter_9 : dcd cX4_isLetter 9 = some (.if_icmp .gt 7, 12) := by decide +kernel
theorem dX4_isLetter_12 : dcd cX4_isLetter 12 = some (.iconst 1, 13) := by decide +kernel
theorem dX4_isLetter_13 : dcd cX4_isLetter 13 = some (.goto 4, 16) := by decide +kernel
theorem dX4_isLetter_16 : dcd cX4_isLetter 16 = some (.iconst 0, 17) := by decide +kernel
theorem dX4_isLetter_17 : dcd cX4_isLetter 17 = some (.ireturn, 18) := by decide +kernel
theorem dX4_isDigit_0 : dcd cX4_isDigit 0 = some (.iload_n 0, 1) := by decide +kernel
theorem dX4_isDigit_1 : dcd cX4_isDigit 1 = some (.bipush 48, 3) := by decide +kernel
theorem dX4_isDigit_3 : dcd cX4_isDigit 3 = some (.if_icmp .lt 13, 6) := by decide +kernel
theorem dX4_isDigit_6 : dcd cX4_isDigit 6 = some (.iload_n 0, 7) := by decide +kernel
theorem dX4_isDigit_7 : dcd cX4_isDigit 7 = some (.bipush 57, 9) := by decide +kernel
theorem dX4_isDigit_9 : dcd cX4_isDigit 9 = some (.if_icmp .gt 7, 12) := by decide +kernel
theorem dX4_isDigit_12 : dcd cX4_isDigit 12 = some (.iconst 1, 13) := by decide +kernel
theorem dX4_isDigit_13 : dcd cX4_isDigit 13 = some (.goto 4, 16) := by decide +kernel
theorem dX4_isDigit_16 : dcd cX4_isDigit 16 = some (.iconst 0, 17) := by decide +kernel
theorem dX4_isDigit_17 : dcd cX4_isDigit 17 = some (.ireturn, 18) := by decide +kernel
theorem dX5_init_0 : dcd cX5_init 0 = some (.aload_n 0, 1) := by decide +kernel
theorem dX5_init_1 : dcd cX5_init 1 = some (.invokespecial 3, 4) := by decide +kernel
theorem dX5_init_4 : dcd cX5_init 4 = some (.aload_n 0, 5) := by decide +kernel
theorem dX5_init_5 : dcd cX5_init 5 = some (.bipush 7, 7) := by decide +kernel
theorem dX5_init_7 : dcd cX5_init 7 = some (.anewarray 9, 10) := by decide +kernel
theorem dX5_init_10 : dcd cX5_init 10 = some (.putfield 11, 13) := by decide +kernel
theorem dX5_init_13 : dcd cX5_init 13 = some (.aload_n 0, 14) := by decide +kernel
theorem dX5_init_14 : dcd cX5_init 14 = some (.bipush 7, 16) := by decide +kernel
theorem dX5_init_16 : dcd cX5_init 16 = some (.newarray .int, 18) := by decide +kernel
theorem dX5_init_18 : dcd cX5_init 18 = some (.putfield 17, 21) := by decide +kernel
theorem dX5_init_21 : dcd cX5_init 21 = some (.return_, 22) := by decide +kernel
theorem dX5_begin_0 : dcd cX5_begin 0 = some (.aload_n 0, 1) := by decide +kernel
theorem dX5_begin_1 : dcd cX5_begin 1 = some (.iload_n 1, 2) := by decide +kernel
theorem dX5_begin_2 : dcd cX5_begin 2 = some (.bipush 7, 4) := by decide +kernel
theorem dX5_begin_4 : dcd cX5_begin 4 = some (.invokestatic 21, 7) := by decide +kernel
theorem dX5_begin_7 : dcd cX5_begin 7 = some (.putfield 27, 10) := by decide +kernel
theorem dX5_begin_10 : dcd cX5_begin 10 = some (.aload_n 0, 11) := by decide +kernel
theorem dX5_begin_11 : dcd cX5_begin 11 = some (.iconst 0, 12) := by decide +kernel
theorem dX5_begin_12 : dcd cX5_begin 12 = some (.putfield 31, 15) := by decide +kernel
theorem dX5_begin_15 : dcd cX5_begin 15 = some (.return_, 16) := by decide +kernel
theorem dX5_run_0 : dcd cX5_run 0 = some (.aload_n 0, 1) := by decide +kernel
theorem dX5_run_1 : dcd cX5_run 1 = some (.aload_n 1, 2) := by decide +kernel
theorem dX5_run_2 : dcd cX5_run 2 = some (.iconst 0, 3) := by decide +kernel
theorem dX5_run_3 : dcd cX5_run 3 = some (.iconst 0, 4) := by decide +kernel
theorem dX5_run_4 : dcd cX5_run 4 = some (.iconst 0, 5) := by decide +kernel
theorem dX5_run_5 : dcd cX5_run 5 = some (.iconst 0, 6) := by decide +kernel
theorem dX5_run_6 : dcd cX5_run 6 = some (.invokevirtual 34, 9) := by decide +kernel
theorem dX5_run_9 : dcd cX5_run 9 = some (.return_, 10) := by decide +kernel
theorem dX5_extend_0 : dcd cX5_extend 0 = some (.iload_n 2, 1) := by decide +kernel
theorem dX5_extend_1 : dcd cX5_extend 1 = some (.aload_n 0, 2) := by decide +kernel
theorem dX5_extend_2 : dcd cX5_extend 2 = some (.getfield 27, 5) := by decide +kernel
theorem dX5_extend_5 : dcd cX5_extend 5 = some (.if_icmp .lt 13, 8) := by decide +kernel
theorem dX5_extend_8 : dcd cX5_extend 8 = some (.aload_n 0, 9) := by decide +kernel
theorem dX5_extend_9 : dcd cX5_extend 9 = some (.aload_n 1, 10) := by decide +kernel
theorem dX5_extend_10 : dcd cX5_extend 10 = some (.iload 4, 12) := by decide +kernel
theorem dX5_extend_12 : dcd cX5_extend 12 = some (.iload 5, 14) := by decide +kernel
theorem dX5_extend_14 : dcd cX5_extend 14 = some (.invokevirtual 38, 17) := by decide +kernel
theorem dX5_extend_17 : dcd cX5_extend 17 = some (.return_, 18) := by decide +kernel
theorem dX5_extend_18 : dcd cX5_extend 18 = some (.iconst 0, 19) := by decide +kernel
theorem dX5_extend_19 : dcd cX5_extend 19 = some (.istore 6, 21) := by decide +kernel
theorem dX5_extend_21 : dcd cX5_extend 21 = some (.iload 6, 23) := by decide +kernel
theorem dX5_extend_23 : dcd cX5_extend 23 = some (.aload_n 0, 24) := by decide +kernel
theorem dX5_extend_24 : dcd cX5_extend 24 = some (.getfield 27, 27) := by decide +kernel
theorem dX5_extend_27 : dcd cX5_extend 27 = some (.if_icmp .ge 31, 30) := by decide +kernel
theorem dX5_extend_30 : dcd cX5_extend 30 = some (.iload_n 3, 31) := by decide +kernel
theorem dX5_extend_31 : dcd cX5_extend 31 = some (.iload 6, 33) := by decide +kernel
theorem dX5_extend_33 : dcd cX5_extend 33 = some (.ishr, 34) := by decide +kernel
theorem dX5_extend_34 : dcd cX5_extend 34 = some (.iconst 1, 35) := by decide +kernel
theorem dX5_extend_35 : dcd cX5_extend 35 = some (.iand, 36) := by decide +kernel
theorem dX5_extend_36 : dcd cX5_extend 36 = some (.ifCond .ne 16, 39) := by decide +kernel
theorem dX5_extend_39 : dcd cX5_extend 39 = some (.aload_n 0, 40) := by decide +kernel
theorem dX5_extend_40 : dcd cX5_extend 40 = some (.aload_n 1, 41) := by decide +kernel
theorem dX5_extend_41 : dcd cX5_extend 41 = some (.iload_n 2, 42) := by decide +kernel
theorem dX5_extend_42 : dcd cX5_extend 42 = some (.iload 6, 44) := by decide +kernel
theorem dX5_extend_44 : dcd cX5_extend 44 = some (.iload_n 3, 45) := by decide +kernel
theorem dX5_extend_45 : dcd cX5_extend 45 = some (.iload 4, 47) := by decide +kernel
theorem dX5_extend_47 : dcd cX5_extend 47 = some (.iload 5, 49) := by decide +kernel
theorem dX5_extend_49 : dcd cX5_extend 49 = some (.invokevirtual 42, 52) := by decide +kernel
theorem dX5_extend_52 : dcd cX5_extend 52 = some (.iinc 6 1, 55) := by decide +kernel
theorem dX5_extend_55 : dcd cX5_extend 55 = some (.goto (-34), 58) := by decide +kernel
theorem dX5_extend_58 : dcd cX5_extend 58 = some (.return_, 59) := by decide +kernel
theorem dX5_attempt_0 : dcd cX5_attempt 0 = some (.aload_n 0, 1) := by decide +kernel
theorem dX5_attempt_1 : dcd cX5_attempt 1 = some (.getfield 11, 4) := by decide +kernel
theorem dX5_attempt_4 : dcd cX5_attempt 4 = some (.iload_n 3, 5) := by decide +kernel
theorem dX5_attempt_5 : dcd cX5_attempt 5 = some (.aaload, 6) := by decide +kernel
theorem dX5_attempt_6 : dcd cX5_attempt 6 = some (.astore 7, 8) := by decide +kernel
theorem dX5_attempt_8 : dcd cX5_attempt 8 = some (.aload_n 1, 9) := by decide +kernel
theorem dX5_attempt_9 : dcd cX5_attempt 9 = some (.iload_n 2, 10) := by decide +kernel
theorem dX5_attempt_10 : dcd cX5_attempt 10 = some (.aload 7, 12) := by decide +kernel
theorem dX5_attempt_12 : dcd cX5_attempt 12 = some (.invokevirtual 46, 15) := by decide +kernel
theorem dX5_attempt_15 : dcd cX5_attempt 15 = some (.aload_n 1, 16) := by decide +kernel
theorem dX5_attempt_16 : dcd cX5_attempt 16 = some (.iload_n 2, 17) := by decide +kernel
theorem dX5_attempt_17 : dcd cX5_attempt 17 = some (.invokevirtual 52, 20) := by decide +kernel
theorem dX5_attempt_20 : dcd cX5_attempt 20 = some (.ifCond .ne 4, 23) := by decide +kernel
theorem dX5_attempt_23 : dcd cX5_attempt 23 = some (.return_, 24) := by decide +kernel
theorem dX5_attempt_24 : dcd cX5_attempt 24 = some (.aload_n 1, 25) := by decide +kernel
theorem dX5_attempt_25 : dcd cX5_attempt 25 = some (.iload_n 2, 26) := by decide +kernel
theorem dX5_attempt_26 : dcd cX5_attempt 26 = some (.iconst 0, 27) := by decide +kernel
theorem dX5_attempt_27 : dcd cX5_attempt 27 = some (.invokevirtual 56, 30) := by decide +kernel
theorem dX5_attempt_30 : dcd cX5_attempt 30 = some (.aload_n 0, 31) := by decide +kernel
theorem dX5_attempt_31 : dcd cX5_attempt 31 = some (.getfield 17, 34) := by decide +kernel
theorem dX5_attempt_34 : dcd cX5_attempt 34 = some (.iload_n 2, 35) := by decide +kernel
theorem dX5_attempt_35 : dcd cX5_attempt 35 = some (.iaload, 36) := by decide +kernel
theorem dX5_attempt_36 : dcd cX5_attempt 36 = some (.bipush (-9), 38) := by decide +kernel
theorem dX5_attempt_38 : dcd cX5_attempt 38 = some (.if_icmp .eq 17, 41) := by decide +kernel
theorem dX5_attempt_41 : dcd cX5_attempt 41 = some (.aload_n 0, 42) := by decide +kernel
theorem dX5_attempt_42 : dcd cX5_attempt 42 = some (.getfield 17, 45) := by decide +kernel
theorem dX5_attempt_45 : dcd cX5_attempt 45 = some (.iload_n 2, 46) := by decide +kernel
theorem dX5_attempt_46 : dcd cX5_attempt 46 = some (.iaload, 47) := by decide +kernel
theorem dX5_attempt_47 : dcd cX5_attempt 47 = some (.aload 7, 49) := by decide +kernel
theorem dX5_attempt_49 : dcd cX5_attempt 49 = some (.getfield 60, 52) := by decide +kernel
theorem dX5_attempt_52 : dcd cX5_attempt 52 = some (.if_icmp .ne 7, 55) := by decide +kernel
theorem dX5_attempt_55 : dcd cX5_attempt 55 = some (.iconst 0, 56) := by decide +kernel
theorem dX5_attempt_56 : dcd cX5_attempt 56 = some (.goto 4, 59) := by decide +kernel
theorem dX5_attempt_59 : dcd cX5_attempt 59 = some (.iconst 1, 60) := by decide +kernel
theorem dX5_attempt_60 : dcd cX5_attempt 60 = some (.istore 8, 62) := by decide +kernel
theorem dX5_attempt_62 : dcd cX5_attempt 62 = some (.aload_n 0, 63) := by decide +kernel
theorem dX5_attempt_63 : dcd cX5_attempt 63 = some (.aload_n 1, 64) := by decide +kernel
theorem dX5_attempt_64 : dcd cX5_attempt 64 = some (.iload_n 2, 65) := by decide +kernel
theorem dX5_attempt_65 : dcd cX5_attempt 65 = some (.iconst 1, 66) := by decide +kernel
theorem dX5_attempt_66 : dcd cX5_attempt 66 = some (.iadd, 67) := by decide +kernel
theorem dX5_attempt_67 : dcd cX5_attempt 67 = some (.iload 4, 69) := by decide +kernel
theorem dX5_attempt_69 : dcd cX5_attempt 69 = some (.iconst 1, 70) := by decide +kernel
theorem dX5_attempt_70 : dcd cX5_attempt 70 = some (.iload_n 3, 71) := by decide +kernel
theorem dX5_attempt_71 : dcd cX5_attempt 71 = some (.ishl, 72) := by decide +kernel
theorem dX5_attempt_72 : dcd cX5_attempt 72 = some (.ior, 73) := by decide +kernel
theorem dX5_attempt_73 : dcd cX5_attempt 73 = some (.iload 5, 75) := by decide +kernel
theorem dX5_attempt_75 : dcd cX5_attempt 75 = some (.iload 8, 77) := by decide +kernel
theorem dX5_attempt_77 : dcd cX5_attempt 77 = some (.iadd, 78) := by decide +kernel
theorem dX5_attempt_78 : dcd cX5_attempt 78 = some (.iload 6, 80) := by decide +kernel
theorem dX5_attempt_80 : dcd cX5_attempt 80 = some (.bipush 10, 82) := by decide +kernel
theorem dX5_attempt_82 : dcd cX5_attempt 82 = some (.imul, 83) := by decide +kernel
theorem dX5_attempt_83 : dcd cX5_attempt 83 = some (.aload 7, 85) := by decide +kernel
theorem dX5_attempt_85 : dcd cX5_attempt 85 = some (.getfield 60, 88) := by decide +kernel
theorem dX5_attempt_88 : dcd cX5_attempt 88 = some (.iadd, 89) := by decide +kernel
theorem dX5_attempt_89 : dcd cX5_attempt 89 = some (.invokevirtual 34, 92) := by decide +kernel
theorem dX5_attempt_92 : dcd cX5_attempt 92 = some (.return_, 93) := by decide +kernel
theorem dX5_weigh_0 : dcd cX5_weigh 0 = some (.aload_n 1, 1) := by decide +kernel
theorem dX5_weigh_1 : dcd cX5_weigh 1 = some (.invokevirtual 63, 4) := by decide +kernel
theorem dX5_weigh_4 : dcd cX5_weigh 4 = some (.istore 4, 6) := by decide +kernel
theorem dX5_weigh_6 : dcd cX5_weigh 6 = some (.aload_n 0, 7) := by decide +kernel
theorem dX5_weigh_7 : dcd cX5_weigh 7 = some (.getfield 31, 10) := by decide +kernel
theorem dX5_weigh_10 : dcd cX5_weigh 10 = some (.ifCond .eq 14, 13) := by decide +kernel
theorem dX5_weigh_13 : dcd cX5_weigh 13 = some (.aload_n 0, 14) := by decide +kernel
theorem dX5_weigh_14 : dcd cX5_weigh 14 = some (.iload_n 2, 15) := by decide +kernel
theorem dX5_weigh_15 : dcd cX5_weigh 15 = some (.iload 4, 17) := by decide +kernel
theorem dX5_weigh_17 : dcd cX5_weigh 17 = some (.iload_n 3, 18) := by decide +kernel
theorem dX5_weigh_18 : dcd cX5_weigh 18 = some (.invokevirtual 67, 21) := by decide +kernel
theorem dX5_weigh_21 : dcd cX5_weigh 21 = some (.ifCond .eq 27, 24) := by decide +kernel
theorem dX5_weigh_24 : dcd cX5_weigh 24 = some (.aload_n 0, 25) := by decide +kernel
theorem dX5_weigh_25 : dcd cX5_weigh 25 = some (.iload_n 2, 26) := by decide +kernel
theorem dX5_weigh_26 : dcd cX5_weigh 26 = some (.putfield 71, 29) := by decide +kernel
theorem dX5_weigh_29 : dcd cX5_weigh 29 = some (.aload_n 0, 30) := by decide +kernel
theorem dX5_weigh_30 : dcd cX5_weigh 30 = some (.iload 4, 32) := by decide +kernel
theorem dX5_weigh_32 : dcd cX5_weigh 32 = some (.putfield 74, 35) := by decide +kernel
theorem dX5_weigh_35 : dcd cX5_weigh 35 = some (.aload_n 0, 36) := by decide +kernel
theorem dX5_weigh_36 : dcd cX5_weigh 36 = some (.iload_n 3, 37) := by decide +kernel
theorem dX5_weigh_37 : dcd cX5_weigh 37 = some (.putfield 76, 40) := by decide +kernel
theorem dX5_weigh_40 : dcd cX5_weigh 40 = some (.aload_n 0, 41) := by decide +kernel
theorem dX5_weigh_41 : dcd cX5_weigh 41 = some (.aload_n 1, 42) := by decide +kernel
theorem dX5_weigh_42 : dcd cX5_weigh 42 = some (.getfield 79, 45) := by decide +kernel
theorem dX5_weigh_45 : dcd cX5_weigh 45 = some (.putfield 82, 48) := by decide +kernel
theorem dX5_weigh_48 : dcd cX5_weigh 48 = some (.aload_n 0, 49) := by decide +kernel
theorem dX5_weigh_49 : dcd cX5_weigh 49 = some (.dup, 50) := by decide +kernel
theorem dX5_weigh_50 : dcd cX5_weigh 50 = some (.getfield 31, 53) := by decide +kernel
theorem dX5_weigh_53 : dcd cX5_weigh 53 = some (.iconst 1, 54) := by decide +kernel
theorem dX5_weigh_54 : dcd cX5_weigh 54 = some (.iadd, 55) := by decide +kernel
theorem dX5_weigh_55 : dcd cX5_weigh 55 = some (.putfield 31, 58) := by decide +kernel
theorem dX5_weigh_58 : dcd cX5_weigh 58 = some (.return_, 59) := by decide +kernel
theorem dX5_isBetter_0 : dcd cX5_isBetter 0 = some (.iload_n 1, 1) := by decide +kernel
theorem dX5_isBetter_1 : dcd cX5_isBetter 1 = some (.aload_n 0, 2) := by decide +kernel
theorem dX5_isBetter_2 : dcd cX5_isBetter 2 = some (.getfield 71, 5) := by decide +kernel
theorem dX5_isBetter_5 : dcd cX5_isBetter 5 = some (.if_icmp .eq 17, 8) := by decide +kernel
theorem dX5_isBetter_8 : dcd cX5_isBetter 8 = some (.iload_n 1, 9) := by decide +kernel
theorem dX5_isBetter_9 : dcd cX5_isBetter 9 = some (.aload_n 0, 10) := by decide +kernel
theorem dX5_isBetter_10 : dcd cX5_isBetter 10 = some (.getfield 71, 13) := by decide +kernel
theorem dX5_isBetter_13 : dcd cX5_isBetter 13 = some (.if_icmp .ge 7, 16) := by decide +kernel
theorem dX5_isBetter_16 : dcd cX5_isBetter 16 = some (.iconst 1, 17) := by decide +kernel
theorem dX5_isBetter_17 : dcd cX5_isBetter 17 = some (.goto 4, 20) := by decide +kernel
theorem dX5_isBetter_20 : dcd cX5_isBetter 20 = some (.iconst 0, 21) := by decide +kernel
theorem dX5_isBetter_21 : dcd cX5_isBetter 21 = some (.ireturn, 22) := by decide +kernel
theorem dX5_isBetter_22 : dcd cX5_isBetter 22 = some (.iload_n 2, 23) := by decide +kernel
theorem dX5_isBetter_23 : dcd cX5_isBetter 23 = some (.aload_n 0, 24) := by decide +kernel
theorem dX5_isBetter_24 : dcd cX5_isBetter 24 = some (.getfield 74, 27) := by decide +kernel
theorem dX5_isBetter_27 : dcd cX5_isBetter 27 = some (.if_icmp .eq 17, 30) := by decide +kernel
theorem dX5_isBetter_30 : dcd cX5_isBetter 30 = some (.iload_n 2, 31) := by decide +kernel
theorem dX5_isBetter_31 : dcd cX5_isBetter 31 = some (.aload_n 0, 32) := by decide +kernel
theorem dX5_isBetter_32 : dcd cX5_isBetter 32 = some (.getfield 74, 35) := by decide +kernel
theorem dX5_isBetter_35 : dcd cX5_isBetter 35 = some (.if_icmp .le 7, 38) := by decide +kernel
theorem dX5_isBetter_38 : dcd cX5_isBetter 38 = some (.iconst 1, 39) := by decide +kernel
theorem dX5_isBetter_39 : dcd cX5_isBetter 39 = some (.goto 4, 42) := by decide +kernel
theorem dX5_isBetter_42 : dcd cX5_isBetter 42 = some (.iconst 0, 43) := by decide +kernel
theorem dX5_isBetter_43 : dcd cX5_isBetter 43 = some (.ireturn, 44) := by decide +kernel
theorem dX5_isBetter_44 : dcd cX5_isBetter 44 = some (.iload_n 3, 45) := by decide +kernel
theorem dX5_isBetter_45 : dcd cX5_isBetter 45 = some (.aload_n 0, 46) := by decide +kernel
theorem dX5_isBetter_46 : dcd cX5_isBetter 46 = some (.getfield 76, 49) := by decide +kernel
theorem dX5_isBetter_49 : dcd cX5_isBetter 49 = some (.if_icmp .ge 7, 52) := by decide +kernel
theorem dX5_isBetter_52 : dcd cX5_isBetter 52 = some (.iconst 1, 53) := by decide +kernel
theorem dX5_isBetter_53 : dcd cX5_isBetter 53 = some (.goto 4, 56) := by decide +kernel
theorem dX5_isBetter_56 : dcd cX5_isBetter 56 = some (.iconst 0, 57) := by decide +kernel
theorem dX5_isBetter_57 : dcd cX5_isBetter 57 = some (.ireturn, 58) := by decide +kernel
theorem dX6_init_0 : dcd cX6_init 0 = some (.aload_n 0, 1) := by decide +kernel
theorem dX6_init_1 : dcd cX6_init 1 = some (.invokespecial 3, 4) := by decide +kernel
theorem dX6_init_4 : dcd cX6_init 4 = some (.aload_n 0, 5) := by decide +kernel
theorem dX6_init_5 : dcd cX6_init 5 = some (.getstatic 9, 8) := by decide +kernel
theorem dX6_init_8 : dcd cX6_init 8 = some (.invokevirtual 13, 11) := by decide +kernel
theorem dX6_init_11 : dcd cX6_init 11 = some (.checkcast 14, 14) := by decide +kernel
theorem dX6_init_14 : dcd cX6_init 14 = some (.putfield 18, 17) := by decide +kernel
theorem dX6_init_17 : dcd cX6_init 17 = some (.aload_n 0, 18) := by decide +kernel
theorem dX6_init_18 : dcd cX6_init 18 = some (.bipush 10, 20) := by decide +kernel
theorem dX6_init_20 : dcd cX6_init 20 = some (.anewarray 23, 23) := by decide +kernel
theorem dX6_init_23 : dcd cX6_init 23 = some (.putfield 25, 26) := by decide +kernel
theorem dX6_init_26 : dcd cX6_init 26 = some (.aload_n 0, 27) := by decide +kernel
theorem dX6_init_27 : dcd cX6_init 27 = some (.bipush 10, 29) := by decide +kernel
theorem dX6_init_29 : dcd cX6_init 29 = some (.newarray .int, 31) := by decide +kernel
theorem dX6_init_31 : dcd cX6_init 31 = some (.putfield 29, 34) := by decide +kernel
theorem dX6_init_34 : dcd cX6_init 34 = some (.aload_n 0, 35) := by decide +kernel
theorem dX6_init_35 : dcd cX6_init 35 = some (.bipush 10, 37) := by decide +kernel
theorem dX6_init_37 : dcd cX6_init 37 = some (.newarray .int, 39) := by decide +kernel
theorem dX6_init_39 : dcd cX6_init 39 = some (.putfield 32, 42) := by decide +kernel
theorem dX6_init_42 : dcd cX6_init 42 = some (.aload_n 0, 43) := by decide +kernel
theorem dX6_init_43 : dcd cX6_init 43 = some (.bipush 10, 45) := by decide +kernel
theorem dX6_init_45 : dcd cX6_init 45 = some (.newarray .int, 47) := by decide +kernel
theorem dX6_init_47 : dcd cX6_init 47 = some (.putfield 35, 50) := by decide +kernel
theorem dX6_init_50 : dcd cX6_init 50 = some (.aload_n 0, 51) := by decide +kernel
theorem dX6_init_51 : dcd cX6_init 51 = some (.bipush 10, 53) := by decide +kernel
theorem dX6_init_53 : dcd cX6_init 53 = some (.newarray .int, 55) := by decide +kernel
theorem dX6_init_55 : dcd cX6_init 55 = some (.putfield 38, 58) := by decide +kernel
theorem dX6_init_58 : dcd cX6_init 58 = some (.aload_n 0, 59) := by decide +kernel
theorem dX6_init_59 : dcd cX6_init 59 = some (.bipush 10, 61) := by decide +kernel
theorem dX6_init_61 : dcd cX6_init 61 = some (.newarray .int, 63) := by decide +kernel
theorem dX6_init_63 : dcd cX6_init 63 = some (.putfield 41, 66) := by decide +kernel
theorem dX6_init_66 : dcd cX6_init 66 = some (.aload_n 0, 67) := by decide +kernel
theorem dX6_init_67 : dcd cX6_init 67 = some (.bipush 10, 69) := by decide +kernel
theorem dX6_init_69 : dcd cX6_init 69 = some (.newarray .int, 71) := by decide +kernel
theorem dX6_init_71 : dcd cX6_init 71 = some (.putfield 44, 74) := by decide +kernel
theorem dX6_init_74 : dcd cX6_init 74 = some (.aload_n 0, 75) := by decide +kernel
theorem dX6_init_75 : dcd cX6_init 75 = some (.bipush 10, 77) := by decide +kernel
theorem dX6_init_77 : dcd cX6_init 77 = some (.newarray .int, 79) := by decide +kernel
theorem dX6_init_79 : dcd cX6_init 79 = some (.putfield 47, 82) := by decide +kernel
theorem dX6_init_82 : dcd cX6_init 82 = some (.aload_n 0, 83) := by decide +kernel
theorem dX6_init_83 : dcd cX6_init 83 = some (.bipush 10, 85) := by decide +kernel
theorem dX6_init_85 : dcd cX6_init 85 = some (.newarray .int, 87) := by decide +kernel
theorem dX6_init_87 : dcd cX6_init 87 = some (.putfield 50, 90) := by decide +kernel
theorem dX6_init_90 : dcd cX6_init 90 = some (.aload_n 0, 91) := by decide +kernel
theorem dX6_init_91 : dcd cX6_init 91 = some (.bipush 10, 93) := by decide +kernel
theorem dX6_init_93 : dcd cX6_init 93 = some (.newarray .int, 95) := by decide +kernel
theorem dX6_init_95 : dcd cX6_init 95 = some (.putfield 53, 98) := by decide +kernel
theorem dX6_init_98 : dcd cX6_init 98 = some (.return_, 99) := by decide +kernel
theorem dX6_open_0 : dcd cX6_open 0 = some (.aload_n 0, 1) := by decide +kernel
theorem dX6_open_1 : dcd cX6_open 1 = some (.iload_n 1, 2) := by decide +kernel
theorem dX6_open_2 : dcd cX6_open 2 = some (.putfield 56, 5) := by decide +kernel
theorem dX6_open_5 : dcd cX6_open 5 = some (.aload_n 0, 6) := by decide +kernel
theorem dX6_open_6 : dcd cX6_open 6 = some (.iload_n 2, 7) := by decide +kernel
theorem dX6_open_7 : dcd cX6_open 7 = some (.putfield 60, 10) := by decide +kernel
theorem dX6_open_10 : dcd cX6_open 10 = some (.aload_n 0, 11) := by decide +kernel
theorem dX6_open_11 : dcd cX6_open 11 = some (.iconst 0, 12) := by decide +kernel
theorem dX6_open_12 : dcd cX6_open 12 = some (.putfield 63, 15) := by decide +kernel
theorem dX6_open_15 : dcd cX6_open 15 = some (.return_, 16) := by decide +kernel
theorem dX6_seat_0 : dcd cX6_seat 0 = some (.aload_n 0, 1) := by decide +kernel
theorem dX6_seat_1 : dcd cX6_seat 1 = some (.getfield 25, 4) := by decide +kernel
theorem dX6_seat_4 : dcd cX6_seat 4 = some (.iload_n 1, 5) := by decide +kernel
theorem dX6_seat_5 : dcd cX6_seat 5 = some (.aload_n 2, 6) := by decide +kernel
theorem dX6_seat_6 : dcd cX6_seat 6 = some (.aastore, 7) := by decide +kernel
theorem dX6_seat_7 : dcd cX6_seat 7 = some (.iload_n 1, 8) := by decide +kernel
theorem dX6_seat_8 : dcd cX6_seat 8 = some (.ifCond .le 14, 11) := by decide +kernel
theorem dX6_seat_11 : dcd cX6_seat 11 = some (.aload_n 0, 12) := by decide +kernel
theorem dX6_seat_12 : dcd cX6_seat 12 = some (.getfield 35, 15) := by decide +kernel
theorem dX6_seat_15 : dcd cX6_seat 15 = some (.iload_n 1, 16) := by decide +kernel
theorem dX6_seat_16 : dcd cX6_seat 16 = some (.iconst 1, 17) := by decide +kernel
theorem dX6_seat_17 : dcd cX6_seat 17 = some (.isub, 18) := by decide +kernel
theorem dX6_seat_18 : dcd cX6_seat 18 = some (.iaload, 19) := by decide +kernel
theorem dX6_seat_19 : dcd cX6_seat 19 = some (.goto 4, 22) := by decide +kernel
theorem dX6_seat_22 : dcd cX6_seat 22 = some (.iconst 0, 23) := by decide +kernel
theorem dX6_seat_23 : dcd cX6_seat 23 = some (.istore_n 3, 24) := by decide +kernel
theorem dX6_seat_24 : dcd cX6_seat 24 = some (.iload_n 1, 25) := by decide +kernel
theorem dX6_seat_25 : dcd cX6_seat 25 = some (.ifCond .le 14, 28) := by decide +kernel
theorem dX6_seat_28 : dcd cX6_seat 28 = some (.aload_n 0, 29) := by decide +kernel
theorem dX6_seat_29 : dcd cX6_seat 29 = some (.getfield 38, 32) := by decide +kernel
theorem dX6_seat_32 : dcd cX6_seat 32 = some (.iload_n 1, 33) := by decide +kernel
theorem dX6_seat_33 : dcd cX6_seat 33 = some (.iconst 1, 34) := by decide +kernel
theorem dX6_seat_34 : dcd cX6_seat 34 = some (.isub, 35) := by decide +kernel
theorem dX6_seat_35 : dcd cX6_seat 35 = some (.iaload, 36) := by decide +kernel
theorem dX6_seat_36 : dcd cX6_seat 36 = some (.goto 4, 39) := by decide +kernel
theorem dX6_seat_39 : dcd cX6_seat 39 = some (.iconst 0, 40) := by decide +kernel
theorem dX6_seat_40 : dcd cX6_seat 40 = some (.istore 4, 42) := by decide +kernel
theorem dX6_seat_42 : dcd cX6_seat 42 = some (.aload_n 0, 43) := by decide +kernel
theorem dX6_seat_43 : dcd cX6_seat 43 = some (.iload_n 1, 44) := by decide +kernel
theorem dX6_seat_44 : dcd cX6_seat 44 = some (.invokevirtual 66, 47) := by decide +kernel
theorem dX6_seat_47 : dcd cX6_seat 47 = some (.ifCond .eq 23, 50) := by decide +kernel
theorem dX6_seat_50 : dcd cX6_seat 50 = some (.iload_n 3, 51) := by decide +kernel
theorem dX6_seat_51 : dcd cX6_seat 51 = some (.aload_n 0, 52) := by decide +kernel
theorem dX6_seat_52 : dcd cX6_seat 52 = some (.getfield 18, 55) := by decide +kernel
theorem dX6_seat_55 : dcd cX6_seat 55 = some (.iconst 2, 56) := by decide +kernel
theorem dX6_seat_56 : dcd cX6_seat 56 = some (.iaload, 57) := by decide +kernel
theorem dX6_seat_57 : dcd cX6_seat 57 = some (.iadd, 58) := by decide +kernel
theorem dX6_seat_58 : dcd cX6_seat 58 = some (.istore_n 3, 59) := by decide +kernel
theorem dX6_seat_59 : dcd cX6_seat 59 = some (.iload 4, 61) := by decide +kernel
theorem dX6_seat_61 : dcd cX6_seat 61 = some (.aload_n 0, 62) := by decide +kernel
theorem dX6_seat_62 : dcd cX6_seat 62 = some (.getfield 18, 65) := by decide +kernel
theorem dX6_seat_65 : dcd cX6_seat 65 = some (.iconst 2, 66) := by decide +kernel
theorem dX6_seat_66 : dcd cX6_seat 66 = some (.iaload, 67) := by decide +kernel
theorem dX6_seat_67 : dcd cX6_seat 67 = some (.isub, 68) := by decide +kernel
theorem dX6_seat_68 : dcd cX6_seat 68 = some (.istore 4, 70) := by decide +kernel
theorem dX6_seat_70 : dcd cX6_seat 70 = some (.aload_n 0, 71) := by decide +kernel
theorem dX6_seat_71 : dcd cX6_seat 71 = some (.getfield 29, 74) := by decide +kernel
theorem dX6_seat_74 : dcd cX6_seat 74 = some (.iload_n 1, 75) := by decide +kernel
theorem dX6_seat_75 : dcd cX6_seat 75 = some (.aload_n 2, 76) := by decide +kernel
theorem dX6_seat_76 : dcd cX6_seat 76 = some (.getfield 70, 79) := by decide +kernel
theorem dX6_seat_79 : dcd cX6_seat 79 = some (.ifCond .eq 7, 82) := by decide +kernel
theorem dX6_seat_82 : dcd cX6_seat 82 = some (.iconst 0, 83) := by decide +kernel
theorem dX6_seat_83 : dcd cX6_seat 83 = some (.goto 14, 86) := by decide +kernel
theorem dX6_seat_86 : dcd cX6_seat 86 = some (.iconst 0, 87) := by decide +kernel
theorem dX6_seat_87 : dcd cX6_seat 87 = some (.aload_n 2, 88) := by decide +kernel
theorem dX6_seat_88 : dcd cX6_seat 88 = some (.getfield 74, 91) := by decide +kernel
theorem dX6_seat_91 : dcd cX6_seat 91 = some (.iload 4, 93) := by decide +kernel
theorem dX6_seat_93 : dcd cX6_seat 93 = some (.iadd, 94) := by decide +kernel
theorem dX6_seat_94 : dcd cX6_seat 94 = some (.invokestatic 77, 97) := by decide +kernel
theorem dX6_seat_97 : dcd cX6_seat 97 = some (.iastore, 98) := by decide +kernel
theorem dX6_seat_98 : dcd cX6_seat 98 = some (.aload_n 0, 99) := by decide +kernel
theorem dX6_seat_99 : dcd cX6_seat 99 = some (.getfield 32, 102) := by decide +kernel
theorem dX6_seat_102 : dcd cX6_seat 102 = some (.iload_n 1, 103) := by decide +kernel
theorem dX6_seat_103 : dcd cX6_seat 103 = some (.iload_n 3, 104) := by decide +kernel
theorem dX6_seat_104 : dcd cX6_seat 104 = some (.aload_n 0, 105) := by decide +kernel
theorem dX6_seat_105 : dcd cX6_seat 105 = some (.getfield 29, 108) := by decide +kernel
theorem dX6_seat_108 : dcd cX6_seat 108 = some (.iload_n 1, 109) := by decide +kernel
theorem dX6_seat_109 : dcd cX6_seat 109 = some (.iaload, 110) := by decide +kernel
theorem dX6_seat_110 : dcd cX6_seat 110 = some (.iadd, 111) := by decide +kernel
theorem dX6_seat_111 : dcd cX6_seat 111 = some (.iastore, 112) := by decide +kernel
theorem dX6_seat_112 : dcd cX6_seat 112 = some (.aload_n 0, 113) := by decide +kernel
theorem dX6_seat_113 : dcd cX6_seat 113 = some (.getfield 35, 116) := by decide +kernel
theorem dX6_seat_116 : dcd cX6_seat 116 = some (.iload_n 1, 117) := by decide +kernel
theorem dX6_seat_117 : dcd cX6_seat 117 = some (.aload_n 0, 118) := by decide +kernel
theorem dX6_seat_118 : dcd cX6_seat 118 = some (.getfield 32, 121) := by decide +kernel
theorem dX6_seat_121 : dcd cX6_seat 121 = some (.iload_n 1, 122) := by decide +kernel
theorem dX6_seat_122 : dcd cX6_seat 122 = some (.iaload, 123) := by decide +kernel
theorem dX6_seat_123 : dcd cX6_seat 123 = some (.aload_n 2, 124) := by decide +kernel
theorem dX6_seat_124 : dcd cX6_seat 124 = some (.getfield 83, 127) := by decide +kernel
theorem dX6_seat_127 : dcd cX6_seat 127 = some (.iadd, 128) := by decide +kernel
theorem dX6_seat_128 : dcd cX6_seat 128 = some (.iastore, 129) := by decide +kernel
theorem dX6_seat_129 : dcd cX6_seat 129 = some (.aload_n 0, 130) := by decide +kernel
theorem dX6_seat_130 : dcd cX6_seat 130 = some (.getfield 38, 133) := by decide +kernel
theorem dX6_seat_133 : dcd cX6_seat 133 = some (.iload_n 1, 134) := by decide +kernel
theorem dX6_seat_134 : dcd cX6_seat 134 = some (.aload_n 2, 135) := by decide +kernel
theorem dX6_seat_135 : dcd cX6_seat 135 = some (.getfield 70, 138) := by decide +kernel
theorem dX6_seat_138 : dcd cX6_seat 138 = some (.ifCond .eq 13, 141) := by decide +kernel
theorem dX6_seat_141 : dcd cX6_seat 141 = some (.iload 4, 143) := by decide +kernel
theorem dX6_seat_143 : dcd cX6_seat 143 = some (.aload_n 2, 144) := by decide +kernel
theorem dX6_seat_144 : dcd cX6_seat 144 = some (.getfield 83, 147) := by decide +kernel
theorem dX6_seat_147 : dcd cX6_seat 147 = some (.isub, 148) := by decide +kernel
theorem dX6_seat_148 : dcd cX6_seat 148 = some (.goto 7, 151) := by decide +kernel
theorem dX6_seat_151 : dcd cX6_seat 151 = some (.aload_n 2, 152) := by decide +kernel
theorem dX6_seat_152 : dcd cX6_seat 152 = some (.getfield 86, 155) := by decide +kernel
theorem dX6_seat_155 : dcd cX6_seat 155 = some (.iastore, 156) := by decide +kernel
theorem dX6_seat_156 : dcd cX6_seat 156 = some (.return_, 157) := by decide +kernel
theorem dX6_applaud_0 : dcd cX6_applaud 0 = some (.iload_n 1, 1) := by decide +kernel
theorem dX6_applaud_1 : dcd cX6_applaud 1 = some (.ifCond .le 14, 4) := by decide +kernel
theorem dX6_applaud_4 : dcd cX6_applaud 4 = some (.aload_n 0, 5) := by decide +kernel
theorem dX6_applaud_5 : dcd cX6_applaud 5 = some (.getfield 47, 8) := by decide +kernel
theorem dX6_applaud_8 : dcd cX6_applaud 8 = some (.iload_n 1, 9) := by decide +kernel
theorem dX6_applaud_9 : dcd cX6_applaud 9 = some (.iconst 1, 10) := by decide +kernel
theorem dX6_applaud_10 : dcd cX6_applaud 10 = some (.isub, 11) := by decide +kernel
theorem dX6_applaud_11 : dcd cX6_applaud 11 = some (.iaload, 12) := by decide +kernel
theorem dX6_applaud_12 : dcd cX6_applaud 12 = some (.goto 10, 15) := by decide +kernel
theorem dX6_applaud_15 : dcd cX6_applaud 15 = some (.aload_n 0, 16) := by decide +kernel
theorem dX6_applaud_16 : dcd cX6_applaud 16 = some (.getfield 18, 19) := by decide +kernel
theorem dX6_applaud_19 : dcd cX6_applaud 19 = some (.bipush 6, 21) := by decide +kernel
theorem dX6_applaud_21 : dcd cX6_applaud 21 = some (.iaload, 22) := by decide +kernel
theorem dX6_applaud_22 : dcd cX6_applaud 22 = some (.istore_n 3, 23) := by decide +kernel
theorem dX6_applaud_23 : dcd cX6_applaud 23 = some (.iload_n 1, 24) := by decide +kernel
theorem dX6_applaud_24 : dcd cX6_applaud 24 = some (.ifCond .le 14, 27) := by decide +kernel
theorem dX6_applaud_27 : dcd cX6_applaud 27 = some (.aload_n 0, 28) := by decide +kernel
theorem dX6_applaud_28 : dcd cX6_applaud 28 = some (.getfield 50, 31) := by decide +kernel
theorem dX6_applaud_31 : dcd cX6_applaud 31 = some (.iload_n 1, 32) := by decide +kernel
theorem dX6_applaud_32 : dcd cX6_applaud 32 = some (.iconst 1, 33) := by decide +kernel
theorem dX6_applaud_33 : dcd cX6_applaud 33 = some (.isub, 34) := by decide +kernel
theorem dX6_applaud_34 : dcd cX6_applaud 34 = some (.iaload, 35) := by decide +kernel
theorem dX6_applaud_35 : dcd cX6_applaud 35 = some (.goto 10, 38) := by decide +kernel
theorem dX6_applaud_38 : dcd cX6_applaud 38 = some (.aload_n 0, 39) := by decide +kernel
theorem dX6_applaud_39 : dcd cX6_applaud 39 = some (.getfield 18, 42) := by decide +kernel
theorem dX6_applaud_42 : dcd cX6_applaud 42 = some (.bipush 7, 44) := by decide +kernel
theorem dX6_applaud_44 : dcd cX6_applaud 44 = some (.iaload, 45) := by decide +kernel
theorem dX6_applaud_45 : dcd cX6_applaud 45 = some (.istore 4, 47) := by decide +kernel
theorem dX6_applaud_47 : dcd cX6_applaud 47 = some (.aload_n 0, 48) := by decide +kernel
theorem dX6_applaud_48 : dcd cX6_applaud 48 = some (.iload_n 1, 49) := by decide +kernel
theorem dX6_applaud_49 : dcd cX6_applaud 49 = some (.invokevirtual 66, 52) := by decide +kernel
theorem dX6_applaud_52 : dcd cX6_applaud 52 = some (.istore 5, 54) := by decide +kernel
theorem dX6_applaud_54 : dcd cX6_applaud 54 = some (.iload 5, 56) := by decide +kernel
theorem dX6_applaud_56 : dcd cX6_applaud 56 = some (.ifCond .eq 19, 59) := by decide +kernel
theorem dX6_applaud_59 : dcd cX6_applaud 59 = some (.aload_n 0, 60) := by decide +kernel
theorem dX6_applaud_60 : dcd cX6_applaud 60 = some (.iload 4, 62) := by decide +kernel
theorem dX6_applaud_62 : dcd cX6_applaud 62 = some (.iload_n 3, 63) := by decide +kernel
theorem dX6_applaud_63 : dcd cX6_applaud 63 = some (.imul, 64) := by decide +kernel
theorem dX6_applaud_64 : dcd cX6_applaud 64 = some (.sipush 1000, 67) := by decide +kernel
theorem dX6_applaud_67 : dcd cX6_applaud 67 = some (.idiv, 68) := by decide +kernel
theorem dX6_applaud_68 : dcd cX6_applaud 68 = some (.putfield 63, 71) := by decide +kernel
theorem dX6_applaud_71 : dcd cX6_applaud 71 = some (.iload_n 3, 72) := by decide +kernel
theorem dX6_applaud_72 : dcd cX6_applaud 72 = some (.iconst 2, 73) := by decide +kernel
theorem dX6_applaud_73 : dcd cX6_applaud 73 = some (.idiv, 74) := by decide +kernel
theorem dX6_applaud_74 : dcd cX6_applaud 74 = some (.istore_n 3, 75) := by decide +kernel
theorem dX6_applaud_75 : dcd cX6_applaud 75 = some (.iconst 0, 76) := by decide +kernel
theorem dX6_applaud_76 : dcd cX6_applaud 76 = some (.iload_n 3, 77) := by decide +kernel
theorem dX6_applaud_77 : dcd cX6_applaud 77 = some (.aload_n 0, 78) := by decide +kernel
theorem dX6_applaud_78 : dcd cX6_applaud 78 = some (.getfield 18, 81) := by decide +kernel
theorem dX6_applaud_81 : dcd cX6_applaud 81 = some (.iconst 3, 82) := by decide +kernel
theorem dX6_applaud_82 : dcd cX6_applaud 82 = some (.iaload, 83) := by decide +kernel
theorem dX6_applaud_83 : dcd cX6_applaud 83 = some (.aload_n 0, 84) := by decide +kernel
theorem dX6_applaud_84 : dcd cX6_applaud 84 = some (.getfield 29, 87) := by decide +kernel
theorem dX6_applaud_87 : dcd cX6_applaud 87 = some (.iload_n 1, 88) := by decide +kernel
theorem dX6_applaud_88 : dcd cX6_applaud 88 = some (.iaload, 89) := by decide +kernel
theorem dX6_applaud_89 : dcd cX6_applaud 89 = some (.imul, 90) := by decide +kernel
theorem dX6_applaud_90 : dcd cX6_applaud 90 = some (.isub, 91) := by decide +kernel
theorem dX6_applaud_91 : dcd cX6_applaud 91 = some (.invokestatic 77, 94) := by decide +kernel
theorem dX6_applaud_94 : dcd cX6_applaud 94 = some (.istore_n 3, 95) := by decide +kernel
theorem dX6_applaud_95 : dcd cX6_applaud 95 = some (.iload_n 1, 96) := by decide +kernel
theorem dX6_applaud_96 : dcd cX6_applaud 96 = some (.ifCond .le 38, 99) := by decide +kernel
theorem dX6_applaud_99 : dcd cX6_applaud 99 = some (.iload 5, 101) := by decide +kernel
theorem dX6_applaud_101 : dcd cX6_applaud 101 = some (.ifCond .ne 33, 104) := by decide +kernel
theorem dX6_applaud_104 : dcd cX6_applaud 104 = some (.iconst 0, 105) := by decide +kernel
theorem dX6_applaud_105 : dcd cX6_applaud 105 = some (.iload_n 3, 106) := by decide +kernel
theorem dX6_applaud_106 : dcd cX6_applaud 106 = some (.aload_n 0, 107) := by decide +kernel
theorem dX6_applaud_107 : dcd cX6_applaud 107 = some (.getfield 25, 110) := by decide +kernel
theorem dX6_applaud_110 : dcd cX6_applaud 110 = some (.iload_n 1, 111) := by decide +kernel
theorem dX6_applaud_111 : dcd cX6_applaud 111 = some (.iconst 1, 112) := by decide +kernel
theorem dX6_applaud_112 : dcd cX6_applaud 112 = some (.isub, 113) := by decide +kernel
theorem dX6_applaud_113 : dcd cX6_applaud 113 = some (.aaload, 114) := by decide +kernel
theorem dX6_applaud_114 : dcd cX6_applaud 114 = some (.getfield 89, 117) := by decide +kernel
theorem dX6_applaud_117 : dcd cX6_applaud 117 = some (.aload_n 0, 118) := by decide +kernel
theorem dX6_applaud_118 : dcd cX6_applaud 118 = some (.getfield 25, 121) := by decide +kernel
theorem dX6_applaud_121 : dcd cX6_applaud 121 = some (.iload_n 1, 122) := by decide +kernel
theorem dX6_applaud_122 : dcd cX6_applaud 122 = some (.aaload, 123) := by decide +kernel
theorem dX6_applaud_123 : dcd cX6_applaud 123 = some (.getfield 89, 126) := by decide +kernel
theorem dX6_applaud_126 : dcd cX6_applaud 126 = some (.invokestatic 92, 129) := by decide +kernel
theorem dX6_applaud_129 : dcd cX6_applaud 129 = some (.isub, 130) := by decide +kernel
theorem dX6_applaud_130 : dcd cX6_applaud 130 = some (.invokestatic 77, 133) := by decide +kernel
theorem dX6_applaud_133 : dcd cX6_applaud 133 = some (.istore_n 3, 134) := by decide +kernel
theorem dX6_applaud_134 : dcd cX6_applaud 134 = some (.iconst 0, 135) := by decide +kernel
theorem dX6_applaud_135 : dcd cX6_applaud 135 = some (.aload_n 0, 136) := by decide +kernel
theorem dX6_applaud_136 : dcd cX6_applaud 136 = some (.iload_n 1, 137) := by decide +kernel
theorem dX6_applaud_137 : dcd cX6_applaud 137 = some (.iload_n 3, 138) := by decide +kernel
theorem dX6_applaud_138 : dcd cX6_applaud 138 = some (.invokevirtual 95, 141) := by decide +kernel
theorem dX6_applaud_141 : dcd cX6_applaud 141 = some (.iload_n 2, 142) := by decide +kernel
theorem dX6_applaud_142 : dcd cX6_applaud 142 = some (.iadd, 143) := by decide +kernel
theorem dX6_applaud_143 : dcd cX6_applaud 143 = some (.invokestatic 77, 146) := by decide +kernel
theorem dX6_applaud_146 : dcd cX6_applaud 146 = some (.istore 6, 148) := by decide +kernel
theorem dX6_applaud_148 : dcd cX6_applaud 148 = some (.aload_n 0, 149) := by decide +kernel
theorem dX6_applaud_149 : dcd cX6_applaud 149 = some (.getfield 41, 152) := by decide +kernel
theorem dX6_applaud_152 : dcd cX6_applaud 152 = some (.iload_n 1, 153) := by decide +kernel
theorem dX6_applaud_153 : dcd cX6_applaud 153 = some (.iload_n 3, 154) := by decide +kernel
theorem dX6_applaud_154 : dcd cX6_applaud 154 = some (.iastore, 155) := by decide +kernel
theorem dX6_applaud_155 : dcd cX6_applaud 155 = some (.aload_n 0, 156) := by decide +kernel
theorem dX6_applaud_156 : dcd cX6_applaud 156 = some (.getfield 44, 159) := by decide +kernel
theorem dX6_applaud_159 : dcd cX6_applaud 159 = some (.iload_n 1, 160) := by decide +kernel
theorem dX6_applaud_160 : dcd cX6_applaud 160 = some (.iload 6, 162) := by decide +kernel
theorem dX6_applaud_162 : dcd cX6_applaud 162 = some (.iastore, 163) := by decide +kernel
theorem dX6_applaud_163 : dcd cX6_applaud 163 = some (.aload_n 0, 164) := by decide +kernel
theorem dX6_applaud_164 : dcd cX6_applaud 164 = some (.getfield 47, 167) := by decide +kernel
theorem dX6_applaud_167 : dcd cX6_applaud 167 = some (.iload_n 1, 168) := by decide +kernel
theorem dX6_applaud_168 : dcd cX6_applaud 168 = some (.iconst 0, 169) := by decide +kernel
theorem dX6_applaud_169 : dcd cX6_applaud 169 = some (.bipush 100, 171) := by decide +kernel
theorem dX6_applaud_171 : dcd cX6_applaud 171 = some (.iload_n 3, 172) := by decide +kernel
theorem dX6_applaud_172 : dcd cX6_applaud 172 = some (.iload 6, 174) := by decide +kernel
theorem dX6_applaud_174 : dcd cX6_applaud 174 = some (.iadd, 175) := by decide +kernel
theorem dX6_applaud_175 : dcd cX6_applaud 175 = some (.bipush 12, 177) := by decide +kernel
theorem dX6_applaud_177 : dcd cX6_applaud 177 = some (.isub, 178) := by decide +kernel
theorem dX6_applaud_178 : dcd cX6_applaud 178 = some (.invokestatic 98, 181) := by decide +kernel
theorem dX6_applaud_181 : dcd cX6_applaud 181 = some (.invokestatic 77, 184) := by decide +kernel
theorem dX6_applaud_184 : dcd cX6_applaud 184 = some (.iastore, 185) := by decide +kernel
theorem dX6_applaud_185 : dcd cX6_applaud 185 = some (.aload_n 0, 186) := by decide +kernel
theorem dX6_applaud_186 : dcd cX6_applaud 186 = some (.getfield 50, 189) := by decide +kernel
theorem dX6_applaud_189 : dcd cX6_applaud 189 = some (.iload_n 1, 190) := by decide +kernel
theorem dX6_applaud_190 : dcd cX6_applaud 190 = some (.iload 6, 192) := by decide +kernel
theorem dX6_applaud_192 : dcd cX6_applaud 192 = some (.bipush 8, 194) := by decide +kernel
theorem dX6_applaud_194 : dcd cX6_applaud 194 = some (.if_icmp .ge 20, 197) := by decide +kernel
theorem dX6_applaud_197 : dcd cX6_applaud 197 = some (.iload 4, 199) := by decide +kernel
theorem dX6_applaud_199 : dcd cX6_applaud 199 = some (.iload 4, 201) := by decide +kernel
theorem dX6_applaud_201 : dcd cX6_applaud 201 = some (.bipush 8, 203) := by decide +kernel
theorem dX6_applaud_203 : dcd cX6_applaud 203 = some (.iload 6, 205) := by decide +kernel
theorem dX6_applaud_205 : dcd cX6_applaud 205 = some (.isub, 206) := by decide +kernel
theorem dX6_applaud_206 : dcd cX6_applaud 206 = some (.imul, 207) := by decide +kernel
theorem dX6_applaud_207 : dcd cX6_applaud 207 = some (.bipush 100, 209) := by decide +kernel
theorem dX6_applaud_209 : dcd cX6_applaud 209 = some (.idiv, 210) := by decide +kernel
theorem dX6_applaud_210 : dcd cX6_applaud 210 = some (.isub, 211) := by decide +kernel
theorem dX6_applaud_211 : dcd cX6_applaud 211 = some (.goto 5, 214) := by decide +kernel
theorem dX6_applaud_214 : dcd cX6_applaud 214 = some (.iload 4, 216) := by decide +kernel
theorem dX6_applaud_216 : dcd cX6_applaud 216 = some (.iastore, 217) := by decide +kernel
theorem dX6_applaud_217 : dcd cX6_applaud 217 = some (.aload_n 0, 218) := by decide +kernel
theorem dX6_applaud_218 : dcd cX6_applaud 218 = some (.getfield 53, 221) := by decide +kernel
theorem dX6_applaud_221 : dcd cX6_applaud 221 = some (.iload_n 1, 222) := by decide +kernel
theorem dX6_applaud_222 : dcd cX6_applaud 222 = some (.iload 6, 224) := by decide +kernel
theorem dX6_applaud_224 : dcd cX6_applaud 224 = some (.iload_n 1, 225) := by decide +kernel
theorem dX6_applaud_225 : dcd cX6_applaud 225 = some (.ifCond .le 14, 228) := by decide +kernel
theorem dX6_applaud_228 : dcd cX6_applaud 228 = some (.aload_n 0, 229) := by decide +kernel
theorem dX6_applaud_229 : dcd cX6_applaud 229 = some (.getfield 53, 232) := by decide +kernel
theorem dX6_applaud_232 : dcd cX6_applaud 232 = some (.iload_n 1, 233) := by decide +kernel
theorem dX6_applaud_233 : dcd cX6_applaud 233 = some (.iconst 1, 234) := by decide +kernel
theorem dX6_applaud_234 : dcd cX6_applaud 234 = some (.isub, 235) := by decide +kernel
theorem dX6_applaud_235 : dcd cX6_applaud 235 = some (.iaload, 236) := by decide +kernel
theorem dX6_applaud_236 : dcd cX6_applaud 236 = some (.goto 4, 239) := by decide +kernel
theorem dX6_applaud_239 : dcd cX6_applaud 239 = some (.iconst 0, 240) := by decide +kernel
theorem dX6_applaud_240 : dcd cX6_applaud 240 = some (.iadd, 241) := by decide +kernel
theorem dX6_applaud_241 : dcd cX6_applaud 241 = some (.iastore, 242) := by decide +kernel
theorem dX6_applaud_242 : dcd cX6_applaud 242 = some (.return_, 243) := by decide +kernel
theorem dX6_pausesAhead_0 : dcd cX6_pausesAhead 0 = some (.iload_n 1, 1) := by decide +kernel
theorem dX6_pausesAhead_1 : dcd cX6_pausesAhead 1 = some (.ifCond .le 15, 4) := by decide +kernel
theorem dX6_pausesAhead_4 : dcd cX6_pausesAhead 4 = some (.iload_n 1, 5) := by decide +kernel
theorem dX6_pausesAhead_5 : dcd cX6_pausesAhead 5 = some (.aload_n 0, 6) := by decide +kernel
theorem dX6_pausesAhead_6 : dcd cX6_pausesAhead 6 = some (.getfield 60, 9) := by decide +kernel
theorem dX6_pausesAhead_9 : dcd cX6_pausesAhead 9 = some (.if_icmp .ne 7, 12) := by decide +kernel
theorem dX6_pausesAhead_12 : dcd cX6_pausesAhead 12 = some (.iconst 1, 13) := by decide +kernel
theorem dX6_pausesAhead_13 : dcd cX6_pausesAhead 13 = some (.goto 4, 16) := by decide +kernel
theorem dX6_pausesAhead_16 : dcd cX6_pausesAhead 16 = some (.iconst 0, 17) := by decide +kernel
theorem dX6_pausesAhead_17 : dcd cX6_pausesAhead 17 = some (.ireturn, 18) := by decide +kernel
theorem dX6_damping_0 : dcd cX6_damping 0 = some (.iload_n 1, 1) := by decide +kernel
theorem dX6_damping_1 : dcd cX6_damping 1 = some (.iload_n 0, 2) := by decide +kernel
theorem dX6_damping_2 : dcd cX6_damping 2 = some (.if_icmp .ne 10, 5) := by decide +kernel
theorem dX6_damping_5 : dcd cX6_damping 5 = some (.iload_n 1, 6) := by decide +kernel
theorem dX6_damping_6 : dcd cX6_damping 6 = some (.ifCond .eq 6, 9) := by decide +kernel
theorem dX6_damping_9 : dcd cX6_damping 9 = some (.bipush 10, 11) := by decide +kernel
theorem dX6_damping_11 : dcd cX6_damping 11 = some (.ireturn, 12) := by decide +kernel
theorem dX6_damping_12 : dcd cX6_damping 12 = some (.iload_n 1, 13) := by decide +kernel
theorem dX6_damping_13 : dcd cX6_damping 13 = some (.iconst 2, 14) := by decide +kernel
theorem dX6_damping_14 : dcd cX6_damping 14 = some (.if_icmp .ne 12, 17) := by decide +kernel
theorem dX6_damping_17 : dcd cX6_damping 17 = some (.iload_n 0, 18) := by decide +kernel
theorem dX6_damping_18 : dcd cX6_damping 18 = some (.iconst 1, 19) := by decide +kernel
theorem dX6_damping_19 : dcd cX6_damping 19 = some (.if_icmp .ne 7, 22) := by decide +kernel
theorem dX6_damping_22 : dcd cX6_damping 22 = some (.iconst 5, 23) := by decide +kernel
theorem dX6_damping_23 : dcd cX6_damping 23 = some (.goto 4, 26) := by decide +kernel
theorem dX6_damping_26 : dcd cX6_damping 26 = some (.iconst 0, 27) := by decide +kernel
theorem dX6_damping_27 : dcd cX6_damping 27 = some (.ireturn, 28) := by decide +kernel
theorem dX6_clapsBy_0 : dcd cX6_clapsBy 0 = some (.bipush 10, 2) := by decide +kernel
theorem dX6_clapsBy_2 : dcd cX6_clapsBy 2 = some (.istore_n 3, 3) := by decide +kernel
theorem dX6_clapsBy_3 : dcd cX6_clapsBy 3 = some (.iload_n 1, 4) := by decide +kernel
theorem dX6_clapsBy_4 : dcd cX6_clapsBy 4 = some (.iconst 2, 5) := by decide +kernel
theorem dX6_clapsBy_5 : dcd cX6_clapsBy 5 = some (.if_icmp .ge 28, 8) := by decide +kernel
theorem dX6_clapsBy_8 : dcd cX6_clapsBy 8 = some (.iload_n 1, 9) := by decide +kernel
theorem dX6_clapsBy_9 : dcd cX6_clapsBy 9 = some (.ifCond .ne 12, 12) := by decide +kernel
theorem dX6_clapsBy_12 : dcd cX6_clapsBy 12 = some (.aload_n 0, 13) := by decide +kernel
theorem dX6_clapsBy_13 : dcd cX6_clapsBy 13 = some (.getfield 18, 16) := by decide +kernel
theorem dX6_clapsBy_16 : dcd cX6_clapsBy 16 = some (.iconst 4, 17) := by decide +kernel
theorem dX6_clapsBy_17 : dcd cX6_clapsBy 17 = some (.iaload, 18) := by decide +kernel
theorem dX6_clapsBy_18 : dcd cX6_clapsBy 18 = some (.goto 14, 21) := by decide +kernel
theorem dX6_clapsBy_21 : dcd cX6_clapsBy 21 = some (.aload_n 0, 22) := by decide +kernel
theorem dX6_clapsBy_22 : dcd cX6_clapsBy 22 = some (.getfield 18, 25) := by decide +kernel
theorem dX6_clapsBy_25 : dcd cX6_clapsBy 25 = some (.iconst 4, 26) := by decide +kernel
theorem dX6_clapsBy_26 : dcd cX6_clapsBy 26 = some (.iaload, 27) := by decide +kernel
theorem dX6_clapsBy_27 : dcd cX6_clapsBy 27 = some (.bipush 10, 29) := by decide +kernel
theorem dX6_clapsBy_29 : dcd cX6_clapsBy 29 = some (.iadd, 30) := by decide +kernel
theorem dX6_clapsBy_30 : dcd cX6_clapsBy 30 = some (.iconst 2, 31) := by decide +kernel
theorem dX6_clapsBy_31 : dcd cX6_clapsBy 31 = some (.idiv, 32) := by decide +kernel
theorem dX6_clapsBy_32 : dcd cX6_clapsBy 32 = some (.istore_n 3, 33) := by decide +kernel
theorem dX6_clapsBy_33 : dcd cX6_clapsBy 33 = some (.aload_n 0, 34) := by decide +kernel
theorem dX6_clapsBy_34 : dcd cX6_clapsBy 34 = some (.getfield 25, 37) := by decide +kernel
theorem dX6_clapsBy_37 : dcd cX6_clapsBy 37 = some (.iload_n 1, 38) := by decide +kernel
theorem dX6_clapsBy_38 : dcd cX6_clapsBy 38 = some (.aaload, 39) := by decide +kernel
theorem dX6_clapsBy_39 : dcd cX6_clapsBy 39 = some (.getfield 101, 42) := by decide +kernel
theorem dX6_clapsBy_42 : dcd cX6_clapsBy 42 = some (.bipush 100, 44) := by decide +kernel
theorem dX6_clapsBy_44 : dcd cX6_clapsBy 44 = some (.iload_n 2, 45) := by decide +kernel
theorem dX6_clapsBy_45 : dcd cX6_clapsBy 45 = some (.iadd, 46) := by decide +kernel
theorem dX6_clapsBy_46 : dcd cX6_clapsBy 46 = some (.imul, 47) := by decide +kernel
theorem dX6_clapsBy_47 : dcd cX6_clapsBy 47 = some (.bipush 100, 49) := by decide +kernel
theorem dX6_clapsBy_49 : dcd cX6_clapsBy 49 = some (.idiv, 50) := by decide +kernel
theorem dX6_clapsBy_50 : dcd cX6_clapsBy 50 = some (.istore 4, 52) := by decide +kernel
theorem dX6_clapsBy_52 : dcd cX6_clapsBy 52 = some (.iload_n 1, 53) := by decide +kernel
theorem dX6_clapsBy_53 : dcd cX6_clapsBy 53 = some (.iconst 5, 54) := by decide +kernel
theorem dX6_clapsBy_54 : dcd cX6_clapsBy 54 = some (.if_icmp .le 16, 57) := by decide +kernel
theorem dX6_clapsBy_57 : dcd cX6_clapsBy 57 = some (.aload_n 0, 58) := by decide +kernel
theorem dX6_clapsBy_58 : dcd cX6_clapsBy 58 = some (.getfield 18, 61) := by decide +kernel
theorem dX6_clapsBy_61 : dcd cX6_clapsBy 61 = some (.iconst 5, 62) := by decide +kernel
theorem dX6_clapsBy_62 : dcd cX6_clapsBy 62 = some (.iaload, 63) := by decide +kernel
theorem dX6_clapsBy_63 : dcd cX6_clapsBy 63 = some (.iload_n 1, 64) := by decide +kernel
theorem dX6_clapsBy_64 : dcd cX6_clapsBy 64 = some (.iconst 5, 65) := by decide +kernel
theorem dX6_clapsBy_65 : dcd cX6_clapsBy 65 = some (.isub, 66) := by decide +kernel
theorem dX6_clapsBy_66 : dcd cX6_clapsBy 66 = some (.imul, 67) := by decide +kernel
theorem dX6_clapsBy_67 : dcd cX6_clapsBy 67 = some (.goto 4, 70) := by decide +kernel
theorem dX6_clapsBy_70 : dcd cX6_clapsBy 70 = some (.iconst 0, 71) := by decide +kernel
theorem dX6_clapsBy_71 : dcd cX6_clapsBy 71 = some (.istore 5, 73) := by decide +kernel
theorem dX6_clapsBy_73 : dcd cX6_clapsBy 73 = some (.iconst 0, 74) := by decide +kernel
theorem dX6_clapsBy_74 : dcd cX6_clapsBy 74 = some (.iload 4, 76) := by decide +kernel
theorem dX6_clapsBy_76 : dcd cX6_clapsBy 76 = some (.iload_n 3, 77) := by decide +kernel
theorem dX6_clapsBy_77 : dcd cX6_clapsBy 77 = some (.imul, 78) := by decide +kernel
theorem dX6_clapsBy_78 : dcd cX6_clapsBy 78 = some (.bipush 10, 80) := by decide +kernel
theorem dX6_clapsBy_80 : dcd cX6_clapsBy 80 = some (.idiv, 81) := by decide +kernel
theorem dX6_clapsBy_81 : dcd cX6_clapsBy 81 = some (.iload 5, 83) := by decide +kernel
theorem dX6_clapsBy_83 : dcd cX6_clapsBy 83 = some (.isub, 84) := by decide +kernel
theorem dX6_clapsBy_84 : dcd cX6_clapsBy 84 = some (.invokestatic 77, 87) := by decide +kernel
theorem dX6_clapsBy_87 : dcd cX6_clapsBy 87 = some (.ireturn, 88) := by decide +kernel
theorem dX6_total_0 : dcd cX6_total 0 = some (.aload_n 0, 1) := by decide +kernel
theorem dX6_total_1 : dcd cX6_total 1 = some (.getfield 56, 4) := by decide +kernel
theorem dX6_total_4 : dcd cX6_total 4 = some (.iconst 1, 5) := by decide +kernel
theorem dX6_total_5 : dcd cX6_total 5 = some (.if_icmp .ge 5, 8) := by decide +kernel
theorem dX6_total_8 : dcd cX6_total 8 = some (.iconst 0, 9) := by decide +kernel
theorem dX6_total_9 : dcd cX6_total 9 = some (.ireturn, 10) := by decide +kernel
theorem dX6_total_10 : dcd cX6_total 10 = some (.aload_n 0, 11) := by decide +kernel
theorem dX6_total_11 : dcd cX6_total 11 = some (.getfield 53, 14) := by decide +kernel
theorem dX6_total_14 : dcd cX6_total 14 = some (.aload_n 0, 15) := by decide +kernel
theorem dX6_total_15 : dcd cX6_total 15 = some (.getfield 56, 18) := by decide +kernel
theorem dX6_total_18 : dcd cX6_total 18 = some (.iconst 1, 19) := by decide +kernel
theorem dX6_total_19 : dcd cX6_total 19 = some (.isub, 20) := by decide +kernel
theorem dX6_total_20 : dcd cX6_total 20 = some (.iaload, 21) := by decide +kernel
theorem dX6_total_21 : dcd cX6_total 21 = some (.aload_n 0, 22) := by decide +kernel
theorem dX6_total_22 : dcd cX6_total 22 = some (.getfield 44, 25) := by decide +kernel
theorem dX6_total_25 : dcd cX6_total 25 = some (.aload_n 0, 26) := by decide +kernel
theorem dX6_total_26 : dcd cX6_total 26 = some (.getfield 56, 29) := by decide +kernel
theorem dX6_total_29 : dcd cX6_total 29 = some (.iconst 1, 30) := by decide +kernel
theorem dX6_total_30 : dcd cX6_total 30 = some (.isub, 31) := by decide +kernel
theorem dX6_total_31 : dcd cX6_total 31 = some (.iaload, 32) := by decide +kernel
theorem dX6_total_32 : dcd cX6_total 32 = some (.iadd, 33) := by decide +kernel
theorem dX6_total_33 : dcd cX6_total 33 = some (.aload_n 0, 34) := by decide +kernel
theorem dX6_total_34 : dcd cX6_total 34 = some (.getfield 63, 37) := by decide +kernel
theorem dX6_total_37 : dcd cX6_total 37 = some (.iadd, 38) := by decide +kernel
theorem dX6_total_38 : dcd cX6_total 38 = some (.ireturn, 39) := by decide +kernel
theorem dX6_firstFailing_0 : dcd cX6_firstFailing 0 = some (.iconst 0, 1) := by decide +kernel
theorem dX6_firstFailing_1 : dcd cX6_firstFailing 1 = some (.istore_n 2, 2) := by decide +kernel
theorem dX6_firstFailing_2 : dcd cX6_firstFailing 2 = some (.iload_n 2, 3) := by decide +kernel
theorem dX6_firstFailing_3 : dcd cX6_firstFailing 3 = some (.aload_n 0, 4) := by decide +kernel
theorem dX6_firstFailing_4 : dcd cX6_firstFailing 4 = some (.getfield 56, 7) := by decide +kernel
theorem dX6_firstFailing_7 : dcd cX6_firstFailing 7 = some (.if_icmp .ge 20, 10) := by decide +kernel
theorem dX6_firstFailing_10 : dcd cX6_firstFailing 10 = some (.aload_n 0, 11) := by decide +kernel
theorem dX6_firstFailing_11 : dcd cX6_firstFailing 11 = some (.iload_n 1, 12) := by decide +kernel
theorem dX6_firstFailing_12 : dcd cX6_firstFailing 12 = some (.iload_n 2, 13) := by decide +kernel
theorem dX6_firstFailing_13 : dcd cX6_firstFailing 13 = some (.invokevirtual 104, 16) := by decide +kernel
theorem dX6_firstFailing_16 : dcd cX6_firstFailing 16 = some (.ifCond .eq 5, 19) := by decide +kernel
theorem dX6_firstFailing_19 : dcd cX6_firstFailing 19 = some (.iload_n 2, 20) := by decide +kernel
theorem dX6_firstFailing_20 : dcd cX6_firstFailing 20 = some (.ireturn, 21) := by decide +kernel
theorem dX6_firstFailing_21 : dcd cX6_firstFailing 21 = some (.iinc 2 1, 24) := by decide +kernel
theorem dX6_firstFailing_24 : dcd cX6_firstFailing 24 = some (.goto (-22), 27) := by decide +kernel
theorem dX6_firstFailing_27 : dcd cX6_firstFailing 27 = some (.bipush (-9), 29) := by decide +kernel
theorem dX6_firstFailing_29 : dcd cX6_firstFailing 29 = some (.ireturn, 30) := by decide +kernel
theorem dX6_fails_0 : dcd cX6_fails 0 = some (.iload_n 1, 1) := by decide +kernel
theorem dX6_fails_1 : dcd cX6_fails 1 = some (.tableswitch 162 1 4 #[31, 52, 93, 126], 32) := by decide +kernel
theorem dX6_fails_32 : dcd cX6_fails 32 = some (.aload_n 0, 33) := by decide +kernel
theorem dX6_fails_33 : dcd cX6_fails 33 = some (.getfield 29, 36) := by decide +kernel
theorem dX6_fails_36 : dcd cX6_fails 36 = some (.iload_n 2, 37) := by decide +kernel
theorem dX6_fails_37 : dcd cX6_fails 37 = some (.iaload, 38) := by decide +kernel
theorem dX6_fails_38 : dcd cX6_fails 38 = some (.aload_n 0, 39) := by decide +kernel
theorem dX6_fails_39 : dcd cX6_fails 39 = some (.getfield 18, 42) := by decide +kernel
theorem dX6_fails_42 : dcd cX6_fails 42 = some (.iconst 0, 43) := by decide +kernel
theorem dX6_fails_43 : dcd cX6_fails 43 = some (.iaload, 44) := by decide +kernel
theorem dX6_fails_44 : dcd cX6_fails 44 = some (.if_icmp .le 7, 47) := by decide +kernel
theorem dX6_fails_47 : dcd cX6_fails 47 = some (.iconst 1, 48) := by decide +kernel
theorem dX6_fails_48 : dcd cX6_fails 48 = some (.goto 4, 51) := by decide +kernel
theorem dX6_fails_51 : dcd cX6_fails 51 = some (.iconst 0, 52) := by decide +kernel
theorem dX6_fails_52 : dcd cX6_fails 52 = some (.ireturn, 53) := by decide +kernel
theorem dX6_fails_53 : dcd cX6_fails 53 = some (.iload_n 2, 54) := by decide +kernel
theorem dX6_fails_54 : dcd cX6_fails 54 = some (.ifCond .le 38, 57) := by decide +kernel
theorem dX6_fails_57 : dcd cX6_fails 57 = some (.aload_n 0, 58) := by decide +kernel
theorem dX6_fails_58 : dcd cX6_fails 58 = some (.iload_n 2, 59) := by decide +kernel
theorem dX6_fails_59 : dcd cX6_fails 59 = some (.invokevirtual 66, 62) := by decide +kernel
theorem dX6_fails_62 : dcd cX6_fails 62 = some (.ifCond .ne 30, 65) := by decide +kernel
theorem dX6_fails_65 : dcd cX6_fails 65 = some (.aload_n 0, 66) := by decide +kernel
theorem dX6_fails_66 : dcd cX6_fails 66 = some (.getfield 25, 69) := by decide +kernel
theorem dX6_fails_69 : dcd cX6_fails 69 = some (.iload_n 2, 70) := by decide +kernel
theorem dX6_fails_70 : dcd cX6_fails 70 = some (.aaload, 71) := by decide +kernel
theorem dX6_fails_71 : dcd cX6_fails 71 = some (.getfield 108, 74) := by decide +kernel
theorem dX6_fails_74 : dcd cX6_fails 74 = some (.aload_n 0, 75) := by decide +kernel
theorem dX6_fails_75 : dcd cX6_fails 75 = some (.getfield 25, 78) := by decide +kernel
theorem dX6_fails_78 : dcd cX6_fails 78 = some (.iload_n 2, 79) := by decide +kernel
theorem dX6_fails_79 : dcd cX6_fails 79 = some (.iconst 1, 80) := by decide +kernel
theorem dX6_fails_80 : dcd cX6_fails 80 = some (.isub, 81) := by decide +kernel
theorem dX6_fails_81 : dcd cX6_fails 81 = some (.aaload, 82) := by decide +kernel
theorem dX6_fails_82 : dcd cX6_fails 82 = some (.getfield 108, 85) := by decide +kernel
theorem dX6_fails_85 : dcd cX6_fails 85 = some (.if_icmp .ne 7, 88) := by decide +kernel
theorem dX6_fails_88 : dcd cX6_fails 88 = some (.iconst 1, 89) := by decide +kernel
theorem dX6_fails_89 : dcd cX6_fails 89 = some (.goto 4, 92) := by decide +kernel
theorem dX6_fails_92 : dcd cX6_fails 92 = some (.iconst 0, 93) := by decide +kernel
theorem dX6_fails_93 : dcd cX6_fails 93 = some (.ireturn, 94) := by decide +kernel
theorem dX6_fails_94 : dcd cX6_fails 94 = some (.iload_n 2, 95) := by decide +kernel
theorem dX6_fails_95 : dcd cX6_fails 95 = some (.ifCond .le 30, 98) := by decide +kernel
theorem dX6_fails_98 : dcd cX6_fails 98 = some (.aload_n 0, 99) := by decide +kernel
theorem dX6_fails_99 : dcd cX6_fails 99 = some (.getfield 25, 102) := by decide +kernel
theorem dX6_fails_102 : dcd cX6_fails 102 = some (.iload_n 2, 103) := by decide +kernel
theorem dX6_fails_103 : dcd cX6_fails 103 = some (.aaload, 104) := by decide +kernel
theorem dX6_fails_104 : dcd cX6_fails 104 = some (.aload_n 0, 105) := by decide +kernel
theorem dX6_fails_105 : dcd cX6_fails 105 = some (.getfield 25, 108) := by decide +kernel
theorem dX6_fails_108 : dcd cX6_fails 108 = some (.iload_n 2, 109) := by decide +kernel
theorem dX6_fails_109 : dcd cX6_fails 109 = some (.iconst 1, 110) := by decide +kernel
theorem dX6_fails_110 : dcd cX6_fails 110 = some (.isub, 111) := by decide +kernel
theorem dX6_fails_111 : dcd cX6_fails 111 = some (.aaload, 112) := by decide +kernel
theorem dX6_fails_112 : dcd cX6_fails 112 = some (.getfield 111, 115) := by decide +kernel
theorem dX6_fails_115 : dcd cX6_fails 115 = some (.invokevirtual 114, 118) := by decide +kernel
theorem dX6_fails_118 : dcd cX6_fails 118 = some (.ifCond .eq 7, 121) := by decide +kernel
theorem dX6_fails_121 : dcd cX6_fails 121 = some (.iconst 1, 122) := by decide +kernel
theorem dX6_fails_122 : dcd cX6_fails 122 = some (.goto 4, 125) := by decide +kernel
theorem dX6_fails_125 : dcd cX6_fails 125 = some (.iconst 0, 126) := by decide +kernel
theorem dX6_fails_126 : dcd cX6_fails 126 = some (.ireturn, 127) := by decide +kernel
theorem dX6_fails_127 : dcd cX6_fails 127 = some (.aload_n 0, 128) := by decide +kernel
theorem dX6_fails_128 : dcd cX6_fails 128 = some (.getfield 25, 131) := by decide +kernel
theorem dX6_fails_131 : dcd cX6_fails 131 = some (.iload_n 2, 132) := by decide +kernel
theorem dX6_fails_132 : dcd cX6_fails 132 = some (.aaload, 133) := by decide +kernel
theorem dX6_fails_133 : dcd cX6_fails 133 = some (.getfield 117, 136) := by decide +kernel
theorem dX6_fails_136 : dcd cX6_fails 136 = some (.ifCond .le 25, 139) := by decide +kernel
theorem dX6_fails_139 : dcd cX6_fails 139 = some (.aload_n 0, 140) := by decide +kernel
theorem dX6_fails_140 : dcd cX6_fails 140 = some (.getfield 35, 143) := by decide +kernel
theorem dX6_fails_143 : dcd cX6_fails 143 = some (.iload_n 2, 144) := by decide +kernel
theorem dX6_fails_144 : dcd cX6_fails 144 = some (.iaload, 145) := by decide +kernel
theorem dX6_fails_145 : dcd cX6_fails 145 = some (.aload_n 0, 146) := by decide +kernel
theorem dX6_fails_146 : dcd cX6_fails 146 = some (.getfield 25, 149) := by decide +kernel
theorem dX6_fails_149 : dcd cX6_fails 149 = some (.iload_n 2, 150) := by decide +kernel
theorem dX6_fails_150 : dcd cX6_fails 150 = some (.aaload, 151) := by decide +kernel
theorem dX6_fails_151 : dcd cX6_fails 151 = some (.getfield 117, 154) := by decide +kernel
theorem dX6_fails_154 : dcd cX6_fails 154 = some (.if_icmp .le 7, 157) := by decide +kernel
theorem dX6_fails_157 : dcd cX6_fails 157 = some (.iconst 1, 158) := by decide +kernel
theorem dX6_fails_158 : dcd cX6_fails 158 = some (.goto 4, 161) := by decide +kernel
theorem dX6_fails_161 : dcd cX6_fails 161 = some (.iconst 0, 162) := by decide +kernel
theorem dX6_fails_162 : dcd cX6_fails 162 = some (.ireturn, 163) := by decide +kernel
theorem dX6_fails_163 : dcd cX6_fails 163 = some (.iload_n 2, 164) := by decide +kernel
theorem dX6_fails_164 : dcd cX6_fails 164 = some (.aload_n 0, 165) := by decide +kernel
theorem dX6_fails_165 : dcd cX6_fails 165 = some (.getfield 56, 168) := by decide +kernel
theorem dX6_fails_168 : dcd cX6_fails 168 = some (.iconst 1, 169) := by decide +kernel
theorem dX6_fails_169 : dcd cX6_fails 169 = some (.isub, 170) := by decide +kernel
theorem dX6_fails_170 : dcd cX6_fails 170 = some (.if_icmp .ne 22, 173) := by decide +kernel
theorem dX6_fails_173 : dcd cX6_fails 173 = some (.aload_n 0, 174) := by decide +kernel
theorem dX6_fails_174 : dcd cX6_fails 174 = some (.getfield 35, 177) := by decide +kernel
theorem dX6_fails_177 : dcd cX6_fails 177 = some (.iload_n 2, 178) := by decide +kernel
theorem dX6_fails_178 : dcd cX6_fails 178 = some (.iaload, 179) := by decide +kernel
theorem dX6_fails_179 : dcd cX6_fails 179 = some (.aload_n 0, 180) := by decide +kernel
theorem dX6_fails_180 : dcd cX6_fails 180 = some (.getfield 18, 183) := by decide +kernel
theorem dX6_fails_183 : dcd cX6_fails 183 = some (.iconst 1, 184) := by decide +kernel
theorem dX6_fails_184 : dcd cX6_fails 184 = some (.iaload, 185) := by decide +kernel
theorem dX6_fails_185 : dcd cX6_fails 185 = some (.if_icmp .le 7, 188) := by decide +kernel
theorem dX6_fails_188 : dcd cX6_fails 188 = some (.iconst 1, 189) := by decide +kernel
theorem dX6_fails_189 : dcd cX6_fails 189 = some (.goto 4, 192) := by decide +kernel
theorem dX6_fails_192 : dcd cX6_fails 192 = some (.iconst 0, 193) := by decide +kernel
theorem dX6_fails_193 : dcd cX6_fails 193 = some (.ireturn, 194) := by decide +kernel
theorem dX6_isStaged_0 : dcd cX6_isStaged 0 = some (.iconst 0, 1) := by decide +kernel
theorem dX6_isStaged_1 : dcd cX6_isStaged 1 = some (.istore_n 1, 2) := by decide +kernel
theorem dX6_isStaged_2 : dcd cX6_isStaged 2 = some (.iload_n 1, 3) := by decide +kernel
theorem dX6_isStaged_3 : dcd cX6_isStaged 3 = some (.aload_n 0, 4) := by decide +kernel
theorem dX6_isStaged_4 : dcd cX6_isStaged 4 = some (.getfield 56, 7) := by decide +kernel
theorem dX6_isStaged_7 : dcd cX6_isStaged 7 = some (.if_icmp .ge 19, 10) := by decide +kernel
theorem dX6_isStaged_10 : dcd cX6_isStaged 10 = some (.aload_n 0, 11) := by decide +kernel
theorem dX6_isStaged_11 : dcd cX6_isStaged 11 = some (.iload_n 1, 12) := by decide +kernel
theorem dX6_isStaged_12 : dcd cX6_isStaged 12 = some (.invokevirtual 120, 15) := by decide +kernel
theorem dX6_isStaged_15 : dcd cX6_isStaged 15 = some (.ifCond .ne 5, 18) := by decide +kernel
theorem dX6_isStaged_18 : dcd cX6_isStaged 18 = some (.iconst 0, 19) := by decide +kernel
theorem dX6_isStaged_19 : dcd cX6_isStaged 19 = some (.ireturn, 20) := by decide +kernel
theorem dX6_isStaged_20 : dcd cX6_isStaged 20 = some (.iinc 1 1, 23) := by decide +kernel
theorem dX6_isStaged_23 : dcd cX6_isStaged 23 = some (.goto (-21), 26) := by decide +kernel
theorem dX6_isStaged_26 : dcd cX6_isStaged 26 = some (.iconst 1, 27) := by decide +kernel
theorem dX6_isStaged_27 : dcd cX6_isStaged 27 = some (.ireturn, 28) := by decide +kernel
theorem dX6_fits_0 : dcd cX6_fits 0 = some (.aload_n 0, 1) := by decide +kernel
theorem dX6_fits_1 : dcd cX6_fits 1 = some (.iconst 1, 2) := by decide +kernel
theorem dX6_fits_2 : dcd cX6_fits 2 = some (.iload_n 1, 3) := by decide +kernel
theorem dX6_fits_3 : dcd cX6_fits 3 = some (.invokevirtual 104, 6) := by decide +kernel
theorem dX6_fits_6 : dcd cX6_fits 6 = some (.ifCond .ne 49, 9) := by decide +kernel
theorem dX6_fits_9 : dcd cX6_fits 9 = some (.aload_n 0, 10) := by decide +kernel
theorem dX6_fits_10 : dcd cX6_fits 10 = some (.iconst 2, 11) := by decide +kernel
theorem dX6_fits_11 : dcd cX6_fits 11 = some (.iload_n 1, 12) := by decide +kernel
theorem dX6_fits_12 : dcd cX6_fits 12 = some (.invokevirtual 104, 15) := by decide +kernel
theorem dX6_fits_15 : dcd cX6_fits 15 = some (.ifCond .ne 40, 18) := by decide +kernel
theorem dX6_fits_18 : dcd cX6_fits 18 = some (.aload_n 0, 19) := by decide +kernel
theorem dX6_fits_19 : dcd cX6_fits 19 = some (.iconst 3, 20) := by decide +kernel
theorem dX6_fits_20 : dcd cX6_fits 20 = some (.iload_n 1, 21) := by decide +kernel
theorem dX6_fits_21 : dcd cX6_fits 21 = some (.invokevirtual 104, 24) := by decide +kernel
theorem dX6_fits_24 : dcd cX6_fits 24 = some (.ifCond .ne 31, 27) := by decide +kernel
theorem dX6_fits_27 : dcd cX6_fits 27 = some (.aload_n 0, 28) := by decide +kernel
theorem dX6_fits_28 : dcd cX6_fits 28 = some (.iconst 4, 29) := by decide +kernel
theorem dX6_fits_29 : dcd cX6_fits 29 = some (.iload_n 1, 30) := by decide +kernel
theorem dX6_fits_30 : dcd cX6_fits 30 = some (.invokevirtual 104, 33) := by decide +kernel
theorem dX6_fits_33 : dcd cX6_fits 33 = some (.ifCond .ne 22, 36) := by decide +kernel
theorem dX6_fits_36 : dcd cX6_fits 36 = some (.aload_n 0, 37) := by decide +kernel
theorem dX6_fits_37 : dcd cX6_fits 37 = some (.getfield 35, 40) := by decide +kernel
theorem dX6_fits_40 : dcd cX6_fits 40 = some (.iload_n 1, 41) := by decide +kernel
theorem dX6_fits_41 : dcd cX6_fits 41 = some (.iaload, 42) := by decide +kernel
theorem dX6_fits_42 : dcd cX6_fits 42 = some (.aload_n 0, 43) := by decide +kernel
theorem dX6_fits_43 : dcd cX6_fits 43 = some (.getfield 18, 46) := by decide +kernel
theorem dX6_fits_46 : dcd cX6_fits 46 = some (.iconst 1, 47) := by decide +kernel
theorem dX6_fits_47 : dcd cX6_fits 47 = some (.iaload, 48) := by decide +kernel
theorem dX6_fits_48 : dcd cX6_fits 48 = some (.if_icmp .gt 7, 51) := by decide +kernel
theorem dX6_fits_51 : dcd cX6_fits 51 = some (.iconst 1, 52) := by decide +kernel
theorem dX6_fits_52 : dcd cX6_fits 52 = some (.goto 4, 55) := by decide +kernel
theorem dX6_fits_55 : dcd cX6_fits 55 = some (.iconst 0, 56) := by decide +kernel
theorem dX6_fits_56 : dcd cX6_fits 56 = some (.ireturn, 57) := by decide +kernel
theorem dX7_init_0 : dcd cX7_init 0 = some (.aload_n 0, 1) := by decide +kernel
theorem dX7_init_1 : dcd cX7_init 1 = some (.invokespecial 1, 4) := by decide +kernel
theorem dX7_init_4 : dcd cX7_init 4 = some (.aload_n 0, 5) := by decide +kernel
theorem dX7_init_5 : dcd cX7_init 5 = some (.new 7, 8) := by decide +kernel
theorem dX7_init_8 : dcd cX7_init 8 = some (.dup, 9) := by decide +kernel
theorem dX7_init_9 : dcd cX7_init 9 = some (.invokespecial 9, 12) := by decide +kernel
theorem dX7_init_12 : dcd cX7_init 12 = some (.putfield 10, 15) := by decide +kernel
theorem dX7_init_15 : dcd cX7_init 15 = some (.aload_n 0, 16) := by decide +kernel
theorem dX7_init_16 : dcd cX7_init 16 = some (.new 16, 19) := by decide +kernel
theorem dX7_init_19 : dcd cX7_init 19 = some (.dup, 20) := by decide +kernel
theorem dX7_init_20 : dcd cX7_init 20 = some (.invokespecial 18, 23) := by decide +kernel
theorem dX7_init_23 : dcd cX7_init 23 = some (.putfield 19, 26) := by decide +kernel
theorem dX7_init_26 : dcd cX7_init 26 = some (.aload_n 0, 27) := by decide +kernel
theorem dX7_init_27 : dcd cX7_init 27 = some (.new 16, 30) := by decide +kernel
theorem dX7_init_30 : dcd cX7_init 30 = some (.dup, 31) := by decide +kernel
theorem dX7_init_31 : dcd cX7_init 31 = some (.invokespecial 18, 34) := by decide +kernel
theorem dX7_init_34 : dcd cX7_init 34 = some (.putfield 23, 37) := by decide +kernel
theorem dX7_init_37 : dcd cX7_init 37 = some (.aload_n 0, 38) := by decide +kernel
theorem dX7_init_38 : dcd cX7_init 38 = some (.new 26, 41) := by decide +kernel
theorem dX7_init_41 : dcd cX7_init 41 = some (.dup, 42) := by decide +kernel
theorem dX7_init_42 : dcd cX7_init 42 = some (.invokespecial 28, 45) := by decide +kernel
theorem dX7_init_45 : dcd cX7_init 45 = some (.putfield 29, 48) := by decide +kernel
theorem dX7_init_48 : dcd cX7_init 48 = some (.aload_n 0, 49) := by decide +kernel
theorem dX7_init_49 : dcd cX7_init 49 = some (.iconst 2, 50) := by decide +kernel
theorem dX7_init_50 : dcd cX7_init 50 = some (.anewarray 26, 53) := by decide +kernel
theorem dX7_init_53 : dcd cX7_init 53 = some (.putfield 33, 56) := by decide +kernel
theorem dX7_init_56 : dcd cX7_init 56 = some (.iconst 0, 57) := by decide +kernel
theorem dX7_init_57 : dcd cX7_init 57 = some (.istore_n 1, 58) := by decide +kernel
theorem dX7_init_58 : dcd cX7_init 58 = some (.iload_n 1, 59) := by decide +kernel
theorem dX7_init_59 : dcd cX7_init 59 = some (.iconst 2, 60) := by decide +kernel
theorem dX7_init_60 : dcd cX7_init 60 = some (.if_icmp .ge 22, 63) := by decide +kernel
theorem dX7_init_63 : dcd cX7_init 63 = some (.aload_n 0, 64) := by decide +kernel
theorem dX7_init_64 : dcd cX7_init 64 = some (.getfield 33, 67) := by decide +kernel
theorem dX7_init_67 : dcd cX7_init 67 = some (.iload_n 1, 68) := by decide +kernel
theorem dX7_init_68 : dcd cX7_init 68 = some (.new 26, 71) := by decide +kernel
theorem dX7_init_71 : dcd cX7_init 71 = some (.dup, 72) := by decide +kernel
theorem dX7_init_72 : dcd cX7_init 72 = some (.invokespecial 28, 75) := by decide +kernel
theorem dX7_init_75 : dcd cX7_init 75 = some (.aastore, 76) := by decide +kernel
theorem dX7_init_76 : dcd cX7_init 76 = some (.iinc 1 1, 79) := by decide +kernel
theorem dX7_init_79 : dcd cX7_init 79 = some (.goto (-21), 82) := by decide +kernel
theorem dX7_init_82 : dcd cX7_init 82 = some (.aload_n 0, 83) := by decide +kernel
theorem dX7_init_83 : dcd cX7_init 83 = some (.new 37, 86) := by decide +kernel
theorem dX7_init_86 : dcd cX7_init 86 = some (.dup, 87) := by decide +kernel
theorem dX7_init_87 : dcd cX7_init 87 = some (.invokespecial 39, 90) := by decide +kernel
theorem dX7_init_90 : dcd cX7_init 90 = some (.putfield 40, 93) := by decide +kernel
theorem dX7_init_93 : dcd cX7_init 93 = some (.aload_n 0, 94) := by decide +kernel
theorem dX7_init_94 : dcd cX7_init 94 = some (.new 44, 97) := by decide +kernel
theorem dX7_init_97 : dcd cX7_init 97 = some (.dup, 98) := by decide +kernel
theorem dX7_init_98 : dcd cX7_init 98 = some (.invokespecial 46, 101) := by decide +kernel
theorem dX7_init_101 : dcd cX7_init 101 = some (.putfield 47, 104) := by decide +kernel
theorem dX7_init_104 : dcd cX7_init 104 = some (.aload_n 0, 105) := by decide +kernel
theorem dX7_init_105 : dcd cX7_init 105 = some (.new 44, 108) := by decide +kernel
theorem dX7_init_108 : dcd cX7_init 108 = some (.dup, 109) := by decide +kernel
theorem dX7_init_109 : dcd cX7_init 109 = some (.invokespecial 46, 112) := by decide +kernel
theorem dX7_init_112 : dcd cX7_init 112 = some (.putfield 51, 115) := by decide +kernel
theorem dX7_init_115 : dcd cX7_init 115 = some (.aload_n 0, 116) := by decide +kernel
theorem dX7_init_116 : dcd cX7_init 116 = some (.new 54, 119) := by decide +kernel
theorem dX7_init_119 : dcd cX7_init 119 = some (.dup, 120) := by decide +kernel
theorem dX7_init_120 : dcd cX7_init 120 = some (.invokespecial 56, 123) := by decide +kernel
theorem dX7_init_123 : dcd cX7_init 123 = some (.putfield 57, 126) := by decide +kernel
theorem dX7_init_126 : dcd cX7_init 126 = some (.aload_n 0, 127) := by decide +kernel
theorem dX7_init_127 : dcd cX7_init 127 = some (.new 61, 130) := by decide +kernel
theorem dX7_init_130 : dcd cX7_init 130 = some (.dup, 131) := by decide +kernel
theorem dX7_init_131 : dcd cX7_init 131 = some (.bipush 9, 133) := by decide +kernel
theorem dX7_init_133 : dcd cX7_init 133 = some (.invokespecial 63, 136) := by decide +kernel
theorem dX7_init_136 : dcd cX7_init 136 = some (.putfield 66, 139) := by decide +kernel
theorem dX7_init_139 : dcd cX7_init 139 = some (.aload_n 0, 140) := by decide +kernel
theorem dX7_init_140 : dcd cX7_init 140 = some (.bipush 9, 142) := by decide +kernel
theorem dX7_init_142 : dcd cX7_init 142 = some (.newarray .int, 144) := by decide +kernel
theorem dX7_init_144 : dcd cX7_init 144 = some (.putfield 70, 147) := by decide +kernel
theorem dX7_init_147 : dcd cX7_init 147 = some (.aload_n 0, 148) := by decide +kernel
theorem dX7_init_148 : dcd cX7_init 148 = some (.iconst 0, 149) := by decide +kernel
theorem dX7_init_149 : dcd cX7_init 149 = some (.putfield 74, 152) := by decide +kernel
theorem dX7_init_152 : dcd cX7_init 152 = some (.aload_n 0, 153) := by decide +kernel
theorem dX7_init_153 : dcd cX7_init 153 = some (.lconst 0, 154) := by decide +kernel
theorem dX7_init_154 : dcd cX7_init 154 = some (.putfield 78, 157) := by decide +kernel
theorem dX7_init_157 : dcd cX7_init 157 = some (.aload_n 0, 158) := by decide +kernel
theorem dX7_init_158 : dcd cX7_init 158 = some (.getfield 29, 161) := by decide +kernel
theorem dX7_init_161 : dcd cX7_init 161 = some (.iconst 1, 162) := by decide +kernel
theorem dX7_init_162 : dcd cX7_init 162 = some (.putfield 82, 165) := by decide +kernel
theorem dX7_init_165 : dcd cX7_init 165 = some (.return_, 166) := by decide +kernel
theorem dX7_type_0 : dcd cX7_type 0 = some (.iload_n 3, 1) := by decide +kernel
theorem dX7_type_1 : dcd cX7_type 1 = some (.iconst 1, 2) := by decide +kernel
theorem dX7_type_2 : dcd cX7_type 2 = some (.if_icmp .lt 9, 5) := by decide +kernel
theorem dX7_type_5 : dcd cX7_type 5 = some (.iload_n 3, 6) := by decide +kernel
theorem dX7_type_6 : dcd cX7_type 6 = some (.bipush 8, 8) := by decide +kernel
theorem dX7_type_8 : dcd cX7_type 8 = some (.if_icmp .le 5, 11) := by decide +kernel
theorem dX7_type_11 : dcd cX7_type 11 = some (.iconst (-1), 12) := by decide +kernel
theorem dX7_type_12 : dcd cX7_type 12 = some (.ireturn, 13) := by decide +kernel
theorem dX7_type_13 : dcd cX7_type 13 = some (.aload_n 0, 14) := by decide +kernel
theorem dX7_type_14 : dcd cX7_type 14 = some (.getfield 10, 17) := by decide +kernel
theorem dX7_type_17 : dcd cX7_type 17 = some (.getfield 86, 20) := by decide +kernel
theorem dX7_type_20 : dcd cX7_type 20 = some (.iload_n 3, 21) := by decide +kernel
theorem dX7_type_21 : dcd cX7_type 21 = some (.iadd, 22) := by decide +kernel
theorem dX7_type_22 : dcd cX7_type 22 = some (.sipush 400, 25) := by decide +kernel
theorem dX7_type_25 : dcd cX7_type 25 = some (.if_icmp .le 6, 28) := by decide +kernel
theorem dX7_type_28 : dcd cX7_type 28 = some (.bipush (-3), 30) := by decide +kernel
theorem dX7_type_30 : dcd cX7_type 30 = some (.ireturn, 31) := by decide +kernel
theorem dX7_type_31 : dcd cX7_type 31 = some (.aload_n 0, 32) := by decide +kernel
theorem dX7_type_32 : dcd cX7_type 32 = some (.getfield 10, 35) := by decide +kernel
theorem dX7_type_35 : dcd cX7_type 35 = some (.lload_n 1, 36) := by decide +kernel
theorem dX7_type_36 : dcd cX7_type 36 = some (.iload_n 3, 37) := by decide +kernel
theorem dX7_type_37 : dcd cX7_type 37 = some (.invokevirtual 89, 40) := by decide +kernel
theorem dX7_type_40 : dcd cX7_type 40 = some (.aload_n 0, 41) := by decide +kernel
theorem dX7_type_41 : dcd cX7_type 41 = some (.getfield 10, 44) := by decide +kernel
theorem dX7_type_44 : dcd cX7_type 44 = some (.getfield 86, 47) := by decide +kernel
theorem dX7_type_47 : dcd cX7_type 47 = some (.ireturn, 48) := by decide +kernel
theorem dX7_clear_0 : dcd cX7_clear 0 = some (.aload_n 0, 1) := by decide +kernel
theorem dX7_clear_1 : dcd cX7_clear 1 = some (.getfield 10, 4) := by decide +kernel
theorem dX7_clear_4 : dcd cX7_clear 4 = some (.getfield 86, 7) := by decide +kernel
theorem dX7_clear_7 : dcd cX7_clear 7 = some (.istore_n 1, 8) := by decide +kernel
theorem dX7_clear_8 : dcd cX7_clear 8 = some (.aload_n 0, 9) := by decide +kernel
theorem dX7_clear_9 : dcd cX7_clear 9 = some (.getfield 10, 12) := by decide +kernel
theorem dX7_clear_12 : dcd cX7_clear 12 = some (.iconst 0, 13) := by decide +kernel
theorem dX7_clear_13 : dcd cX7_clear 13 = some (.putfield 86, 16) := by decide +kernel
theorem dX7_clear_16 : dcd cX7_clear 16 = some (.iload_n 1, 17) := by decide +kernel
theorem dX7_clear_17 : dcd cX7_clear 17 = some (.ireturn, 18) := by decide +kernel
theorem dX7_acts_0 : dcd cX7_acts 0 = some (.aload_n 0, 1) := by decide +kernel
theorem dX7_acts_1 : dcd cX7_acts 1 = some (.getfield 10, 4) := by decide +kernel
theorem dX7_acts_4 : dcd cX7_acts 4 = some (.aload_n 0, 5) := by decide +kernel
theorem dX7_acts_5 : dcd cX7_acts 5 = some (.getfield 23, 8) := by decide +kernel
theorem dX7_acts_8 : dcd cX7_acts 8 = some (.invokevirtual 93, 11) := by decide +kernel
theorem dX7_acts_11 : dcd cX7_acts 11 = some (.istore_n 1, 12) := by decide +kernel
theorem dX7_acts_12 : dcd cX7_acts 12 = some (.iload_n 1, 13) := by decide +kernel
theorem dX7_acts_13 : dcd cX7_acts 13 = some (.ifCond .ge 5, 16) := by decide +kernel
theorem dX7_acts_16 : dcd cX7_acts 16 = some (.iload_n 1, 17) := by decide +kernel
theorem dX7_acts_17 : dcd cX7_acts 17 = some (.ireturn, 18) := by decide +kernel
theorem dX7_acts_18 : dcd cX7_acts 18 = some (.aload_n 0, 19) := by decide +kernel
theorem dX7_acts_19 : dcd cX7_acts 19 = some (.getfield 19, 22) := by decide +kernel
theorem dX7_acts_22 : dcd cX7_acts 22 = some (.astore_n 2, 23) := by decide +kernel
theorem dX7_acts_23 : dcd cX7_acts 23 = some (.aload_n 0, 24) := by decide +kernel
theorem dX7_acts_24 : dcd cX7_acts 24 = some (.aload_n 0, 25) := by decide +kernel
theorem dX7_acts_25 : dcd cX7_acts 25 = some (.getfield 23, 28) := by decide +kernel
theorem dX7_acts_28 : dcd cX7_acts 28 = some (.putfield 19, 31) := by decide +kernel
theorem dX7_acts_31 : dcd cX7_acts 31 = some (.aload_n 0, 32) := by decide +kernel
theorem dX7_acts_32 : dcd cX7_acts 32 = some (.aload_n 2, 33) := by decide +kernel
theorem dX7_acts_33 : dcd cX7_acts 33 = some (.putfield 23, 36) := by decide +kernel
theorem dX7_acts_36 : dcd cX7_acts 36 = some (.aload_n 0, 37) := by decide +kernel
theorem dX7_acts_37 : dcd cX7_acts 37 = some (.getfield 10, 40) := by decide +kernel
theorem dX7_acts_40 : dcd cX7_acts 40 = some (.iconst 0, 41) := by decide +kernel
theorem dX7_acts_41 : dcd cX7_acts 41 = some (.putfield 86, 44) := by decide +kernel
theorem dX7_acts_44 : dcd cX7_acts 44 = some (.aload_n 0, 45) := by decide +kernel
theorem dX7_acts_45 : dcd cX7_acts 45 = some (.getfield 29, 48) := by decide +kernel
theorem dX7_acts_48 : dcd cX7_acts 48 = some (.invokevirtual 97, 51) := by decide +kernel
theorem dX7_acts_51 : dcd cX7_acts 51 = some (.aload_n 0, 52) := by decide +kernel
theorem dX7_acts_52 : dcd cX7_acts 52 = some (.getfield 57, 55) := by decide +kernel
theorem dX7_acts_55 : dcd cX7_acts 55 = some (.invokevirtual 100, 58) := by decide +kernel
theorem dX7_acts_58 : dcd cX7_acts 58 = some (.iconst 0, 59) := by decide +kernel
theorem dX7_acts_59 : dcd cX7_acts 59 = some (.istore_n 3, 60) := by decide +kernel
theorem dX7_acts_60 : dcd cX7_acts 60 = some (.iload_n 3, 61) := by decide +kernel
theorem dX7_acts_61 : dcd cX7_acts 61 = some (.iconst 2, 62) := by decide +kernel
theorem dX7_acts_62 : dcd cX7_acts 62 = some (.if_icmp .ge 19, 65) := by decide +kernel
theorem dX7_acts_65 : dcd cX7_acts 65 = some (.aload_n 0, 66) := by decide +kernel
theorem dX7_acts_66 : dcd cX7_acts 66 = some (.getfield 33, 69) := by decide +kernel
theorem dX7_acts_69 : dcd cX7_acts 69 = some (.iload_n 3, 70) := by decide +kernel
theorem dX7_acts_70 : dcd cX7_acts 70 = some (.aaload, 71) := by decide +kernel
theorem dX7_acts_71 : dcd cX7_acts 71 = some (.iconst 0, 72) := by decide +kernel
theorem dX7_acts_72 : dcd cX7_acts 72 = some (.putfield 103, 75) := by decide +kernel
theorem dX7_acts_75 : dcd cX7_acts 75 = some (.iinc 3 1, 78) := by decide +kernel
theorem dX7_acts_78 : dcd cX7_acts 78 = some (.goto (-18), 81) := by decide +kernel
theorem dX7_acts_81 : dcd cX7_acts 81 = some (.aload_n 0, 82) := by decide +kernel
theorem dX7_acts_82 : dcd cX7_acts 82 = some (.iconst 0, 83) := by decide +kernel
theorem dX7_acts_83 : dcd cX7_acts 83 = some (.putfield 74, 86) := by decide +kernel
theorem dX7_acts_86 : dcd cX7_acts 86 = some (.iload_n 1, 87) := by decide +kernel
theorem dX7_acts_87 : dcd cX7_acts 87 = some (.ireturn, 88) := by decide +kernel
theorem dX7_act_0 : dcd cX7_act 0 = some (.aload_n 0, 1) := by decide +kernel
theorem dX7_act_1 : dcd cX7_act 1 = some (.iload_n 1, 2) := by decide +kernel
theorem dX7_act_2 : dcd cX7_act 2 = some (.invokevirtual 106, 5) := by decide +kernel
theorem dX7_act_5 : dcd cX7_act 5 = some (.ifCond .ne 5, 8) := by decide +kernel
theorem dX7_act_8 : dcd cX7_act 8 = some (.iconst (-1), 9) := by decide +kernel
theorem dX7_act_9 : dcd cX7_act 9 = some (.ireturn, 10) := by decide +kernel
theorem dX7_act_10 : dcd cX7_act 10 = some (.aload_n 0, 11) := by decide +kernel
theorem dX7_act_11 : dcd cX7_act 11 = some (.getfield 19, 14) := by decide +kernel
theorem dX7_act_14 : dcd cX7_act 14 = some (.getfield 110, 17) := by decide +kernel
theorem dX7_act_17 : dcd cX7_act 17 = some (.iload_n 1, 18) := by decide +kernel
theorem dX7_act_18 : dcd cX7_act 18 = some (.aaload, 19) := by decide +kernel
theorem dX7_act_19 : dcd cX7_act 19 = some (.astore_n 3, 20) := by decide +kernel
theorem dX7_act_20 : dcd cX7_act 20 = some (.iload_n 2, 21) := by decide +kernel
theorem dX7_act_21 : dcd cX7_act 21 = some (.tableswitch 104 0 8 #[51, 56, 61, 66, 79, 84, 89, 94, 99], 72) := by decide +kernel
theorem dX7_act_72 : dcd cX7_act 72 = some (.aload_n 3, 73) := by decide +kernel
theorem dX7_act_73 : dcd cX7_act 73 = some (.getfield 114, 76) := by decide +kernel
theorem dX7_act_76 : dcd cX7_act 76 = some (.ireturn, 77) := by decide +kernel
theorem dX7_act_77 : dcd cX7_act 77 = some (.aload_n 3, 78) := by decide +kernel
theorem dX7_act_78 : dcd cX7_act 78 = some (.getfield 117, 81) := by decide +kernel
theorem dX7_act_81 : dcd cX7_act 81 = some (.ireturn, 82) := by decide +kernel
theorem dX7_act_82 : dcd cX7_act 82 = some (.aload_n 3, 83) := by decide +kernel
theorem dX7_act_83 : dcd cX7_act 83 = some (.getfield 120, 86) := by decide +kernel
theorem dX7_act_86 : dcd cX7_act 86 = some (.ireturn, 87) := by decide +kernel
theorem dX7_act_87 : dcd cX7_act 87 = some (.aload_n 3, 88) := by decide +kernel
theorem dX7_act_88 : dcd cX7_act 88 = some (.getfield 123, 91) := by decide +kernel
theorem dX7_act_91 : dcd cX7_act 91 = some (.ifCond .eq 7, 94) := by decide +kernel
theorem dX7_act_94 : dcd cX7_act 94 = some (.iconst 1, 95) := by decide +kernel
theorem dX7_act_95 : dcd cX7_act 95 = some (.goto 4, 98) := by decide +kernel
theorem dX7_act_98 : dcd cX7_act 98 = some (.iconst 0, 99) := by decide +kernel
theorem dX7_act_99 : dcd cX7_act 99 = some (.ireturn, 100) := by decide +kernel
theorem dX7_act_100 : dcd cX7_act 100 = some (.aload_n 3, 101) := by decide +kernel
theorem dX7_act_101 : dcd cX7_act 101 = some (.getfield 126, 104) := by decide +kernel
theorem dX7_act_104 : dcd cX7_act 104 = some (.ireturn, 105) := by decide +kernel
theorem dX7_act_105 : dcd cX7_act 105 = some (.aload_n 3, 106) := by decide +kernel
theorem dX7_act_106 : dcd cX7_act 106 = some (.getfield 129, 109) := by decide +kernel
theorem dX7_act_109 : dcd cX7_act 109 = some (.ireturn, 110) := by decide +kernel
theorem dX7_act_110 : dcd cX7_act 110 = some (.aload_n 3, 111) := by decide +kernel
theorem dX7_act_111 : dcd cX7_act 111 = some (.getfield 132, 114) := by decide +kernel
theorem dX7_act_114 : dcd cX7_act 114 = some (.ireturn, 115) := by decide +kernel
theorem dX7_act_115 : dcd cX7_act 115 = some (.aload_n 3, 116) := by decide +kernel
theorem dX7_act_116 : dcd cX7_act 116 = some (.getfield 135, 119) := by decide +kernel
theorem dX7_act_119 : dcd cX7_act 119 = some (.ireturn, 120) := by decide +kernel
theorem dX7_act_120 : dcd cX7_act 120 = some (.aload_n 3, 121) := by decide +kernel
theorem dX7_act_121 : dcd cX7_act 121 = some (.getfield 138, 124) := by decide +kernel
theorem dX7_act_124 : dcd cX7_act 124 = some (.ireturn, 125) := by decide +kernel
theorem dX7_act_125 : dcd cX7_act 125 = some (.iconst (-1), 126) := by decide +kernel
theorem dX7_act_126 : dcd cX7_act 126 = some (.ireturn, 127) := by decide +kernel
theorem dX7_feud_0 : dcd cX7_feud 0 = some (.aload_n 0, 1) := by decide +kernel
theorem dX7_feud_1 : dcd cX7_feud 1 = some (.iload_n 1, 2) := by decide +kernel
theorem dX7_feud_2 : dcd cX7_feud 2 = some (.invokevirtual 106, 5) := by decide +kernel
theorem dX7_feud_5 : dcd cX7_feud 5 = some (.ifCond .eq 16, 8) := by decide +kernel
theorem dX7_feud_8 : dcd cX7_feud 8 = some (.aload_n 0, 9) := by decide +kernel
theorem dX7_feud_9 : dcd cX7_feud 9 = some (.iload_n 2, 10) := by decide +kernel
theorem dX7_feud_10 : dcd cX7_feud 10 = some (.invokevirtual 106, 13) := by decide +kernel
theorem dX7_feud_13 : dcd cX7_feud 13 = some (.ifCond .eq 8, 16) := by decide +kernel
theorem dX7_feud_16 : dcd cX7_feud 16 = some (.iload_n 1, 17) := by decide +kernel
theorem dX7_feud_17 : dcd cX7_feud 17 = some (.iload_n 2, 18) := by decide +kernel
theorem dX7_feud_18 : dcd cX7_feud 18 = some (.if_icmp .ne 5, 21) := by decide +kernel
theorem dX7_feud_21 : dcd cX7_feud 21 = some (.iconst (-1), 22) := by decide +kernel
theorem dX7_feud_22 : dcd cX7_feud 22 = some (.ireturn, 23) := by decide +kernel
theorem dX7_feud_23 : dcd cX7_feud 23 = some (.aload_n 0, 24) := by decide +kernel
theorem dX7_feud_24 : dcd cX7_feud 24 = some (.getfield 19, 27) := by decide +kernel
theorem dX7_feud_27 : dcd cX7_feud 27 = some (.getfield 110, 30) := by decide +kernel
theorem dX7_feud_30 : dcd cX7_feud 30 = some (.iload_n 1, 31) := by decide +kernel
theorem dX7_feud_31 : dcd cX7_feud 31 = some (.aaload, 32) := by decide +kernel
theorem dX7_feud_32 : dcd cX7_feud 32 = some (.iload_n 2, 33) := by decide +kernel
theorem dX7_feud_33 : dcd cX7_feud 33 = some (.invokevirtual 141, 36) := by decide +kernel
theorem dX7_feud_36 : dcd cX7_feud 36 = some (.ifCond .eq 7, 39) := by decide +kernel
theorem dX7_feud_39 : dcd cX7_feud 39 = some (.iconst 1, 40) := by decide +kernel
theorem dX7_feud_40 : dcd cX7_feud 40 = some (.goto 4, 43) := by decide +kernel
theorem dX7_feud_43 : dcd cX7_feud 43 = some (.iconst 0, 44) := by decide +kernel
theorem dX7_feud_44 : dcd cX7_feud 44 = some (.ireturn, 45) := by decide +kernel
end
section
theorem dX7_tune_0 : dcd cX7_tune 0 = some (.iload_n 1, 1) := by decide +kernel
theorem dX7_tune_1 : dcd cX7_tune 1 = some (.ifCond .lt 27, 4) := by decide +kernel
theorem dX7_tune_4 : dcd cX7_tune 4 = some (.iload_n 1, 5) := by decide +kernel
theorem dX7_tune_5 : dcd cX7_tune 5 = some (.bipush 8, 7) := by decide +kernel
theorem dX7_tune_7 : dcd cX7_tune 7 = some (.if_icmp .ge 21, 10) := by decide +kernel
theorem dX7_tune_10 : dcd cX7_tune 10 = some (.iload_n 2, 11) := by decide +kernel
theorem dX7_tune_11 : dcd cX7_tune 11 = some (.getstatic 144, 14) := by decide +kernel
theorem dX7_tune_14 : dcd cX7_tune 14 = some (.iload_n 1, 15) := by decide +kernel
theorem dX7_tune_15 : dcd cX7_tune 15 = some (.iaload, 16) := by decide +kernel
theorem dX7_tune_16 : dcd cX7_tune 16 = some (.if_icmp .lt 12, 19) := by decide +kernel
theorem dX7_tune_19 : dcd cX7_tune 19 = some (.iload_n 2, 20) := by decide +kernel
theorem dX7_tune_20 : dcd cX7_tune 20 = some (.getstatic 147, 23) := by decide +kernel
theorem dX7_tune_23 : dcd cX7_tune 23 = some (.iload_n 1, 24) := by decide +kernel
theorem dX7_tune_24 : dcd cX7_tune 24 = some (.iaload, 25) := by decide +kernel
theorem dX7_tune_25 : dcd cX7_tune 25 = some (.if_icmp .le 5, 28) := by decide +kernel
theorem dX7_tune_28 : dcd cX7_tune 28 = some (.iconst (-1), 29) := by decide +kernel
theorem dX7_tune_29 : dcd cX7_tune 29 = some (.ireturn, 30) := by decide +kernel
theorem dX7_tune_30 : dcd cX7_tune 30 = some (.aload_n 0, 31) := by decide +kernel
theorem dX7_tune_31 : dcd cX7_tune 31 = some (.getfield 40, 34) := by decide +kernel
theorem dX7_tune_34 : dcd cX7_tune 34 = some (.getfield 150, 37) := by decide +kernel
theorem dX7_tune_37 : dcd cX7_tune 37 = some (.iload_n 1, 38) := by decide +kernel
theorem dX7_tune_38 : dcd cX7_tune 38 = some (.iaload, 39) := by decide +kernel
theorem dX7_tune_39 : dcd cX7_tune 39 = some (.istore_n 3, 40) := by decide +kernel
theorem dX7_tune_40 : dcd cX7_tune 40 = some (.aload_n 0, 41) := by decide +kernel
theorem dX7_tune_41 : dcd cX7_tune 41 = some (.getfield 40, 44) := by decide +kernel
theorem dX7_tune_44 : dcd cX7_tune 44 = some (.getfield 150, 47) := by decide +kernel
theorem dX7_tune_47 : dcd cX7_tune 47 = some (.iload_n 1, 48) := by decide +kernel
theorem dX7_tune_48 : dcd cX7_tune 48 = some (.iload_n 2, 49) := by decide +kernel
theorem dX7_tune_49 : dcd cX7_tune 49 = some (.iastore, 50) := by decide +kernel
theorem dX7_tune_50 : dcd cX7_tune 50 = some (.aload_n 0, 51) := by decide +kernel
theorem dX7_tune_51 : dcd cX7_tune 51 = some (.iconst 0, 52) := by decide +kernel
theorem dX7_tune_52 : dcd cX7_tune 52 = some (.putfield 74, 55) := by decide +kernel
theorem dX7_tune_55 : dcd cX7_tune 55 = some (.iload_n 3, 56) := by decide +kernel
theorem dX7_tune_56 : dcd cX7_tune 56 = some (.ireturn, 57) := by decide +kernel
theorem dX7_family_0 : dcd cX7_family 0 = some (.aload_n 0, 1) := by decide +kernel
theorem dX7_family_1 : dcd cX7_family 1 = some (.iload_n 1, 2) := by decide +kernel
theorem dX7_family_2 : dcd cX7_family 2 = some (.invokevirtual 106, 5) := by decide +kernel
theorem dX7_family_5 : dcd cX7_family 5 = some (.ifCond .eq 13, 8) := by decide +kernel
theorem dX7_family_8 : dcd cX7_family 8 = some (.iload_n 2, 9) := by decide +kernel
theorem dX7_family_9 : dcd cX7_family 9 = some (.ifCond .lt 9, 12) := by decide +kernel
theorem dX7_family_12 : dcd cX7_family 12 = some (.iload_n 2, 13) := by decide +kernel
theorem dX7_family_13 : dcd cX7_family 13 = some (.bipush 99, 15) := by decide +kernel
theorem dX7_family_15 : dcd cX7_family 15 = some (.if_icmp .le 5, 18) := by decide +kernel
theorem dX7_family_18 : dcd cX7_family 18 = some (.iconst (-1), 19) := by decide +kernel
theorem dX7_family_19 : dcd cX7_family 19 = some (.ireturn, 20) := by decide +kernel
theorem dX7_family_20 : dcd cX7_family 20 = some (.aload_n 0, 21) := by decide +kernel
theorem dX7_family_21 : dcd cX7_family 21 = some (.getfield 19, 24) := by decide +kernel
theorem dX7_family_24 : dcd cX7_family 24 = some (.getfield 110, 27) := by decide +kernel
theorem dX7_family_27 : dcd cX7_family 27 = some (.iload_n 1, 28) := by decide +kernel
theorem dX7_family_28 : dcd cX7_family 28 = some (.aaload, 29) := by decide +kernel
theorem dX7_family_29 : dcd cX7_family 29 = some (.getfield 138, 32) := by decide +kernel
theorem dX7_family_32 : dcd cX7_family 32 = some (.istore_n 3, 33) := by decide +kernel
theorem dX7_family_33 : dcd cX7_family 33 = some (.aload_n 0, 34) := by decide +kernel
theorem dX7_family_34 : dcd cX7_family 34 = some (.getfield 19, 37) := by decide +kernel
theorem dX7_family_37 : dcd cX7_family 37 = some (.getfield 110, 40) := by decide +kernel
theorem dX7_family_40 : dcd cX7_family 40 = some (.iload_n 1, 41) := by decide +kernel
theorem dX7_family_41 : dcd cX7_family 41 = some (.aaload, 42) := by decide +kernel
theorem dX7_family_42 : dcd cX7_family 42 = some (.iload_n 2, 43) := by decide +kernel
theorem dX7_family_43 : dcd cX7_family 43 = some (.putfield 138, 46) := by decide +kernel
theorem dX7_family_46 : dcd cX7_family 46 = some (.iload_n 3, 47) := by decide +kernel
theorem dX7_family_47 : dcd cX7_family 47 = some (.ireturn, 48) := by decide +kernel
theorem dX7_place_0 : dcd cX7_place 0 = some (.aload_n 0, 1) := by decide +kernel
theorem dX7_place_1 : dcd cX7_place 1 = some (.iload_n 1, 2) := by decide +kernel
theorem dX7_place_2 : dcd cX7_place 2 = some (.invokevirtual 106, 5) := by decide +kernel
theorem dX7_place_5 : dcd cX7_place 5 = some (.ifCond .ne 5, 8) := by decide +kernel
theorem dX7_place_8 : dcd cX7_place 8 = some (.iconst (-1), 9) := by decide +kernel
theorem dX7_place_9 : dcd cX7_place 9 = some (.ireturn, 10) := by decide +kernel
theorem dX7_place_10 : dcd cX7_place 10 = some (.aload_n 0, 11) := by decide +kernel
theorem dX7_place_11 : dcd cX7_place 11 = some (.getfield 29, 14) := by decide +kernel
theorem dX7_place_14 : dcd cX7_place 14 = some (.iload_n 1, 15) := by decide +kernel
theorem dX7_place_15 : dcd cX7_place 15 = some (.invokevirtual 153, 18) := by decide +kernel
theorem dX7_place_18 : dcd cX7_place 18 = some (.bipush (-9), 20) := by decide +kernel
theorem dX7_place_20 : dcd cX7_place 20 = some (.if_icmp .eq 6, 23) := by decide +kernel
theorem dX7_place_23 : dcd cX7_place 23 = some (.bipush (-2), 25) := by decide +kernel
theorem dX7_place_25 : dcd cX7_place 25 = some (.ireturn, 26) := by decide +kernel
theorem dX7_place_26 : dcd cX7_place 26 = some (.aload_n 0, 27) := by decide +kernel
theorem dX7_place_27 : dcd cX7_place 27 = some (.getfield 29, 30) := by decide +kernel
theorem dX7_place_30 : dcd cX7_place 30 = some (.iload_n 1, 31) := by decide +kernel
theorem dX7_place_31 : dcd cX7_place 31 = some (.invokevirtual 157, 34) := by decide +kernel
theorem dX7_place_34 : dcd cX7_place 34 = some (.aload_n 0, 35) := by decide +kernel
theorem dX7_place_35 : dcd cX7_place 35 = some (.iconst 0, 36) := by decide +kernel
theorem dX7_place_36 : dcd cX7_place 36 = some (.putfield 74, 39) := by decide +kernel
theorem dX7_place_39 : dcd cX7_place 39 = some (.aload_n 0, 40) := by decide +kernel
theorem dX7_place_40 : dcd cX7_place 40 = some (.getfield 29, 43) := by decide +kernel
theorem dX7_place_43 : dcd cX7_place 43 = some (.getfield 159, 46) := by decide +kernel
theorem dX7_place_46 : dcd cX7_place 46 = some (.ireturn, 47) := by decide +kernel
theorem dX7_empty_0 : dcd cX7_empty 0 = some (.aload_n 0, 1) := by decide +kernel
theorem dX7_empty_1 : dcd cX7_empty 1 = some (.getfield 29, 4) := by decide +kernel
theorem dX7_empty_4 : dcd cX7_empty 4 = some (.getfield 159, 7) := by decide +kernel
theorem dX7_empty_7 : dcd cX7_empty 7 = some (.istore_n 1, 8) := by decide +kernel
theorem dX7_empty_8 : dcd cX7_empty 8 = some (.aload_n 0, 9) := by decide +kernel
theorem dX7_empty_9 : dcd cX7_empty 9 = some (.getfield 29, 12) := by decide +kernel
theorem dX7_empty_12 : dcd cX7_empty 12 = some (.invokevirtual 97, 15) := by decide +kernel
theorem dX7_empty_15 : dcd cX7_empty 15 = some (.aload_n 0, 16) := by decide +kernel
theorem dX7_empty_16 : dcd cX7_empty 16 = some (.iconst 0, 17) := by decide +kernel
theorem dX7_empty_17 : dcd cX7_empty 17 = some (.putfield 74, 20) := by decide +kernel
theorem dX7_empty_20 : dcd cX7_empty 20 = some (.iload_n 1, 21) := by decide +kernel
theorem dX7_empty_21 : dcd cX7_empty 21 = some (.ireturn, 22) := by decide +kernel
theorem dX7_rest_0 : dcd cX7_rest 0 = some (.iload_n 1, 1) := by decide +kernel
theorem dX7_rest_1 : dcd cX7_rest 1 = some (.ifCond .lt 14, 4) := by decide +kernel
theorem dX7_rest_4 : dcd cX7_rest 4 = some (.iload_n 1, 5) := by decide +kernel
theorem dX7_rest_5 : dcd cX7_rest 5 = some (.aload_n 0, 6) := by decide +kernel
theorem dX7_rest_6 : dcd cX7_rest 6 = some (.getfield 29, 9) := by decide +kernel
theorem dX7_rest_9 : dcd cX7_rest 9 = some (.getfield 159, 12) := by decide +kernel
theorem dX7_rest_12 : dcd cX7_rest 12 = some (.if_icmp .lt 5, 15) := by decide +kernel
theorem dX7_rest_15 : dcd cX7_rest 15 = some (.iconst (-1), 16) := by decide +kernel
theorem dX7_rest_16 : dcd cX7_rest 16 = some (.ireturn, 17) := by decide +kernel
theorem dX7_rest_17 : dcd cX7_rest 17 = some (.aload_n 0, 18) := by decide +kernel
theorem dX7_rest_18 : dcd cX7_rest 18 = some (.getfield 29, 21) := by decide +kernel
theorem dX7_rest_21 : dcd cX7_rest 21 = some (.getfield 162, 24) := by decide +kernel
theorem dX7_rest_24 : dcd cX7_rest 24 = some (.istore_n 2, 25) := by decide +kernel
theorem dX7_rest_25 : dcd cX7_rest 25 = some (.aload_n 0, 26) := by decide +kernel
theorem dX7_rest_26 : dcd cX7_rest 26 = some (.getfield 29, 29) := by decide +kernel
theorem dX7_rest_29 : dcd cX7_rest 29 = some (.iload_n 1, 30) := by decide +kernel
theorem dX7_rest_30 : dcd cX7_rest 30 = some (.putfield 162, 33) := by decide +kernel
theorem dX7_rest_33 : dcd cX7_rest 33 = some (.iload_n 2, 34) := by decide +kernel
theorem dX7_rest_34 : dcd cX7_rest 34 = some (.ireturn, 35) := by decide +kernel
theorem dX7_on_0 : dcd cX7_on 0 = some (.aload_n 0, 1) := by decide +kernel
theorem dX7_on_1 : dcd cX7_on 1 = some (.getfield 29, 4) := by decide +kernel
theorem dX7_on_4 : dcd cX7_on 4 = some (.iload_n 1, 5) := by decide +kernel
theorem dX7_on_5 : dcd cX7_on 5 = some (.invokevirtual 165, 8) := by decide +kernel
theorem dX7_on_8 : dcd cX7_on 8 = some (.ifCond .eq 15, 11) := by decide +kernel
theorem dX7_on_11 : dcd cX7_on 11 = some (.aload_n 0, 12) := by decide +kernel
theorem dX7_on_12 : dcd cX7_on 12 = some (.getfield 29, 15) := by decide +kernel
theorem dX7_on_15 : dcd cX7_on 15 = some (.getfield 168, 18) := by decide +kernel
theorem dX7_on_18 : dcd cX7_on 18 = some (.iload_n 1, 19) := by decide +kernel
theorem dX7_on_19 : dcd cX7_on 19 = some (.iaload, 20) := by decide +kernel
theorem dX7_on_20 : dcd cX7_on 20 = some (.goto 4, 23) := by decide +kernel
theorem dX7_on_23 : dcd cX7_on 23 = some (.iconst (-1), 24) := by decide +kernel
theorem dX7_on_24 : dcd cX7_on 24 = some (.ireturn, 25) := by decide +kernel
theorem dX7_minute_0 : dcd cX7_minute 0 = some (.aload_n 0, 1) := by decide +kernel
theorem dX7_minute_1 : dcd cX7_minute 1 = some (.getfield 29, 4) := by decide +kernel
theorem dX7_minute_4 : dcd cX7_minute 4 = some (.iload_n 1, 5) := by decide +kernel
theorem dX7_minute_5 : dcd cX7_minute 5 = some (.invokevirtual 165, 8) := by decide +kernel
theorem dX7_minute_8 : dcd cX7_minute 8 = some (.ifCond .eq 12, 11) := by decide +kernel
theorem dX7_minute_11 : dcd cX7_minute 11 = some (.iload_n 2, 12) := by decide +kernel
theorem dX7_minute_12 : dcd cX7_minute 12 = some (.ifCond .lt 8, 15) := by decide +kernel
theorem dX7_minute_15 : dcd cX7_minute 15 = some (.iload_n 2, 16) := by decide +kernel
theorem dX7_minute_16 : dcd cX7_minute 16 = some (.iconst 2, 17) := by decide +kernel
theorem dX7_minute_17 : dcd cX7_minute 17 = some (.if_icmp .le 5, 20) := by decide +kernel
theorem dX7_minute_20 : dcd cX7_minute 20 = some (.iconst (-1), 21) := by decide +kernel
theorem dX7_minute_21 : dcd cX7_minute 21 = some (.ireturn, 22) := by decide +kernel
theorem dX7_minute_22 : dcd cX7_minute 22 = some (.aload_n 0, 23) := by decide +kernel
theorem dX7_minute_23 : dcd cX7_minute 23 = some (.aload_n 0, 24) := by decide +kernel
theorem dX7_minute_24 : dcd cX7_minute 24 = some (.getfield 29, 27) := by decide +kernel
theorem dX7_minute_27 : dcd cX7_minute 27 = some (.getfield 168, 30) := by decide +kernel
theorem dX7_minute_30 : dcd cX7_minute 30 = some (.aload_n 0, 31) := by decide +kernel
theorem dX7_minute_31 : dcd cX7_minute 31 = some (.getfield 29, 34) := by decide +kernel
theorem dX7_minute_34 : dcd cX7_minute 34 = some (.getfield 162, 37) := by decide +kernel
theorem dX7_minute_37 : dcd cX7_minute 37 = some (.invokevirtual 171, 40) := by decide +kernel
theorem dX7_minute_40 : dcd cX7_minute 40 = some (.iload_n 2, 41) := by decide +kernel
theorem dX7_minute_41 : dcd cX7_minute 41 = some (.lookupswitch 47 #[(0, 27), (1, 37)], 68) := by decide +kernel
theorem dX7_minute_68 : dcd cX7_minute 68 = some (.aload_n 0, 69) := by decide +kernel
theorem dX7_minute_69 : dcd cX7_minute 69 = some (.getfield 40, 72) := by decide +kernel
theorem dX7_minute_72 : dcd cX7_minute 72 = some (.getfield 175, 75) := by decide +kernel
theorem dX7_minute_75 : dcd cX7_minute 75 = some (.iload_n 1, 76) := by decide +kernel
theorem dX7_minute_76 : dcd cX7_minute 76 = some (.iaload, 77) := by decide +kernel
theorem dX7_minute_77 : dcd cX7_minute 77 = some (.ireturn, 78) := by decide +kernel
theorem dX7_minute_78 : dcd cX7_minute 78 = some (.aload_n 0, 79) := by decide +kernel
theorem dX7_minute_79 : dcd cX7_minute 79 = some (.getfield 40, 82) := by decide +kernel
theorem dX7_minute_82 : dcd cX7_minute 82 = some (.getfield 178, 85) := by decide +kernel
theorem dX7_minute_85 : dcd cX7_minute 85 = some (.iload_n 1, 86) := by decide +kernel
theorem dX7_minute_86 : dcd cX7_minute 86 = some (.iaload, 87) := by decide +kernel
theorem dX7_minute_87 : dcd cX7_minute 87 = some (.ireturn, 88) := by decide +kernel
theorem dX7_minute_88 : dcd cX7_minute 88 = some (.aload_n 0, 89) := by decide +kernel
theorem dX7_minute_89 : dcd cX7_minute 89 = some (.getfield 40, 92) := by decide +kernel
theorem dX7_minute_92 : dcd cX7_minute 92 = some (.getfield 181, 95) := by decide +kernel
theorem dX7_minute_95 : dcd cX7_minute 95 = some (.iload_n 1, 96) := by decide +kernel
theorem dX7_minute_96 : dcd cX7_minute 96 = some (.iaload, 97) := by decide +kernel
theorem dX7_minute_97 : dcd cX7_minute 97 = some (.ireturn, 98) := by decide +kernel
theorem dX7_staged_0 : dcd cX7_staged 0 = some (.iload_n 1, 1) := by decide +kernel
theorem dX7_staged_1 : dcd cX7_staged 1 = some (.ifCond .lt 8, 4) := by decide +kernel
theorem dX7_staged_4 : dcd cX7_staged 4 = some (.iload_n 1, 5) := by decide +kernel
theorem dX7_staged_5 : dcd cX7_staged 5 = some (.iconst 1, 6) := by decide +kernel
theorem dX7_staged_6 : dcd cX7_staged 6 = some (.if_icmp .le 5, 9) := by decide +kernel
theorem dX7_staged_9 : dcd cX7_staged 9 = some (.iconst (-1), 10) := by decide +kernel
theorem dX7_staged_10 : dcd cX7_staged 10 = some (.ireturn, 11) := by decide +kernel
theorem dX7_staged_11 : dcd cX7_staged 11 = some (.aload_n 0, 12) := by decide +kernel
theorem dX7_staged_12 : dcd cX7_staged 12 = some (.getfield 29, 15) := by decide +kernel
theorem dX7_staged_15 : dcd cX7_staged 15 = some (.getfield 159, 18) := by decide +kernel
theorem dX7_staged_18 : dcd cX7_staged 18 = some (.ifCond .ne 6, 21) := by decide +kernel
theorem dX7_staged_21 : dcd cX7_staged 21 = some (.bipush (-2), 23) := by decide +kernel
theorem dX7_staged_23 : dcd cX7_staged 23 = some (.ireturn, 24) := by decide +kernel
theorem dX7_staged_24 : dcd cX7_staged 24 = some (.aload_n 0, 25) := by decide +kernel
theorem dX7_staged_25 : dcd cX7_staged 25 = some (.aload_n 0, 26) := by decide +kernel
theorem dX7_staged_26 : dcd cX7_staged 26 = some (.getfield 29, 29) := by decide +kernel
theorem dX7_staged_29 : dcd cX7_staged 29 = some (.getfield 168, 32) := by decide +kernel
theorem dX7_staged_32 : dcd cX7_staged 32 = some (.aload_n 0, 33) := by decide +kernel
theorem dX7_staged_33 : dcd cX7_staged 33 = some (.getfield 29, 36) := by decide +kernel
theorem dX7_staged_36 : dcd cX7_staged 36 = some (.getfield 162, 39) := by decide +kernel
theorem dX7_staged_39 : dcd cX7_staged 39 = some (.invokevirtual 171, 42) := by decide +kernel
theorem dX7_staged_42 : dcd cX7_staged 42 = some (.iconst 1, 43) := by decide +kernel
theorem dX7_staged_43 : dcd cX7_staged 43 = some (.istore_n 2, 44) := by decide +kernel
theorem dX7_staged_44 : dcd cX7_staged 44 = some (.iload_n 2, 45) := by decide +kernel
theorem dX7_staged_45 : dcd cX7_staged 45 = some (.iconst 5, 46) := by decide +kernel
theorem dX7_staged_46 : dcd cX7_staged 46 = some (.if_icmp .gt 34, 49) := by decide +kernel
theorem dX7_staged_49 : dcd cX7_staged 49 = some (.aload_n 0, 50) := by decide +kernel
theorem dX7_staged_50 : dcd cX7_staged 50 = some (.getfield 40, 53) := by decide +kernel
theorem dX7_staged_53 : dcd cX7_staged 53 = some (.iload_n 2, 54) := by decide +kernel
theorem dX7_staged_54 : dcd cX7_staged 54 = some (.invokevirtual 184, 57) := by decide +kernel
theorem dX7_staged_57 : dcd cX7_staged 57 = some (.istore_n 3, 58) := by decide +kernel
theorem dX7_staged_58 : dcd cX7_staged 58 = some (.iload_n 3, 59) := by decide +kernel
theorem dX7_staged_59 : dcd cX7_staged 59 = some (.bipush (-9), 61) := by decide +kernel
theorem dX7_staged_61 : dcd cX7_staged 61 = some (.if_icmp .eq 13, 64) := by decide +kernel
theorem dX7_staged_64 : dcd cX7_staged 64 = some (.iload_n 1, 65) := by decide +kernel
theorem dX7_staged_65 : dcd cX7_staged 65 = some (.ifCond .ne 7, 68) := by decide +kernel
theorem dX7_staged_68 : dcd cX7_staged 68 = some (.iload_n 2, 69) := by decide +kernel
theorem dX7_staged_69 : dcd cX7_staged 69 = some (.goto 4, 72) := by decide +kernel
theorem dX7_staged_72 : dcd cX7_staged 72 = some (.iload_n 3, 73) := by decide +kernel
theorem dX7_staged_73 : dcd cX7_staged 73 = some (.ireturn, 74) := by decide +kernel
theorem dX7_staged_74 : dcd cX7_staged 74 = some (.iinc 2 1, 77) := by decide +kernel
theorem dX7_staged_77 : dcd cX7_staged 77 = some (.goto (-33), 80) := by decide +kernel
theorem dX7_staged_80 : dcd cX7_staged 80 = some (.bipush (-9), 82) := by decide +kernel
theorem dX7_staged_82 : dcd cX7_staged 82 = some (.ireturn, 83) := by decide +kernel
theorem dX7_night_0 : dcd cX7_night 0 = some (.aload_n 0, 1) := by decide +kernel
theorem dX7_night_1 : dcd cX7_night 1 = some (.getfield 29, 4) := by decide +kernel
theorem dX7_night_4 : dcd cX7_night 4 = some (.iload_n 1, 5) := by decide +kernel
theorem dX7_night_5 : dcd cX7_night 5 = some (.invokevirtual 165, 8) := by decide +kernel
theorem dX7_night_8 : dcd cX7_night 8 = some (.ifCond .eq 12, 11) := by decide +kernel
theorem dX7_night_11 : dcd cX7_night 11 = some (.iload_n 2, 12) := by decide +kernel
theorem dX7_night_12 : dcd cX7_night 12 = some (.ifCond .lt 8, 15) := by decide +kernel
theorem dX7_night_15 : dcd cX7_night 15 = some (.iload_n 2, 16) := by decide +kernel
theorem dX7_night_16 : dcd cX7_night 16 = some (.iconst 3, 17) := by decide +kernel
theorem dX7_night_17 : dcd cX7_night 17 = some (.if_icmp .le 5, 20) := by decide +kernel
theorem dX7_night_20 : dcd cX7_night 20 = some (.iconst (-1), 21) := by decide +kernel
theorem dX7_night_21 : dcd cX7_night 21 = some (.ireturn, 22) := by decide +kernel
theorem dX7_night_22 : dcd cX7_night 22 = some (.aload_n 0, 23) := by decide +kernel
theorem dX7_night_23 : dcd cX7_night 23 = some (.aload_n 0, 24) := by decide +kernel
theorem dX7_night_24 : dcd cX7_night 24 = some (.getfield 29, 27) := by decide +kernel
theorem dX7_night_27 : dcd cX7_night 27 = some (.getfield 168, 30) := by decide +kernel
theorem dX7_night_30 : dcd cX7_night 30 = some (.aload_n 0, 31) := by decide +kernel
theorem dX7_night_31 : dcd cX7_night 31 = some (.getfield 29, 34) := by decide +kernel
theorem dX7_night_34 : dcd cX7_night 34 = some (.getfield 162, 37) := by decide +kernel
theorem dX7_night_37 : dcd cX7_night 37 = some (.invokevirtual 171, 40) := by decide +kernel
theorem dX7_night_40 : dcd cX7_night 40 = some (.iload_n 2, 41) := by decide +kernel
theorem dX7_night_41 : dcd cX7_night 41 = some (.tableswitch 57 0 2 #[27, 37, 47], 68) := by decide +kernel
theorem dX7_night_68 : dcd cX7_night 68 = some (.aload_n 0, 69) := by decide +kernel
theorem dX7_night_69 : dcd cX7_night 69 = some (.getfield 40, 72) := by decide +kernel
theorem dX7_night_72 : dcd cX7_night 72 = some (.getfield 187, 75) := by decide +kernel
theorem dX7_night_75 : dcd cX7_night 75 = some (.iload_n 1, 76) := by decide +kernel
theorem dX7_night_76 : dcd cX7_night 76 = some (.iaload, 77) := by decide +kernel
theorem dX7_night_77 : dcd cX7_night 77 = some (.ireturn, 78) := by decide +kernel
theorem dX7_night_78 : dcd cX7_night 78 = some (.aload_n 0, 79) := by decide +kernel
theorem dX7_night_79 : dcd cX7_night 79 = some (.getfield 40, 82) := by decide +kernel
theorem dX7_night_82 : dcd cX7_night 82 = some (.getfield 190, 85) := by decide +kernel
theorem dX7_night_85 : dcd cX7_night 85 = some (.iload_n 1, 86) := by decide +kernel
theorem dX7_night_86 : dcd cX7_night 86 = some (.iaload, 87) := by decide +kernel
theorem dX7_night_87 : dcd cX7_night 87 = some (.ireturn, 88) := by decide +kernel
theorem dX7_night_88 : dcd cX7_night 88 = some (.aload_n 0, 89) := by decide +kernel
theorem dX7_night_89 : dcd cX7_night 89 = some (.getfield 40, 92) := by decide +kernel
theorem dX7_night_92 : dcd cX7_night 92 = some (.getfield 193, 95) := by decide +kernel
theorem dX7_night_95 : dcd cX7_night 95 = some (.iload_n 1, 96) := by decide +kernel
theorem dX7_night_96 : dcd cX7_night 96 = some (.iaload, 97) := by decide +kernel
theorem dX7_night_97 : dcd cX7_night 97 = some (.ireturn, 98) := by decide +kernel
theorem dX7_night_98 : dcd cX7_night 98 = some (.aload_n 0, 99) := by decide +kernel
theorem dX7_night_99 : dcd cX7_night 99 = some (.getfield 40, 102) := by decide +kernel
theorem dX7_night_102 : dcd cX7_night 102 = some (.getfield 196, 105) := by decide +kernel
theorem dX7_night_105 : dcd cX7_night 105 = some (.iload_n 1, 106) := by decide +kernel
theorem dX7_night_106 : dcd cX7_night 106 = some (.iaload, 107) := by decide +kernel
theorem dX7_night_107 : dcd cX7_night 107 = some (.ireturn, 108) := by decide +kernel
theorem dX7_worth_0 : dcd cX7_worth 0 = some (.iload_n 1, 1) := by decide +kernel
theorem dX7_worth_1 : dcd cX7_worth 1 = some (.ifCond .lt 8, 4) := by decide +kernel
theorem dX7_worth_4 : dcd cX7_worth 4 = some (.iload_n 1, 5) := by decide +kernel
theorem dX7_worth_5 : dcd cX7_worth 5 = some (.iconst 3, 6) := by decide +kernel
theorem dX7_worth_6 : dcd cX7_worth 6 = some (.if_icmp .le 5, 9) := by decide +kernel
theorem dX7_worth_9 : dcd cX7_worth 9 = some (.iconst (-1), 10) := by decide +kernel
theorem dX7_worth_10 : dcd cX7_worth 10 = some (.ireturn, 11) := by decide +kernel
theorem dX7_worth_11 : dcd cX7_worth 11 = some (.aload_n 0, 12) := by decide +kernel
theorem dX7_worth_12 : dcd cX7_worth 12 = some (.getfield 29, 15) := by decide +kernel
theorem dX7_worth_15 : dcd cX7_worth 15 = some (.getfield 159, 18) := by decide +kernel
theorem dX7_worth_18 : dcd cX7_worth 18 = some (.ifCond .ne 6, 21) := by decide +kernel
theorem dX7_worth_21 : dcd cX7_worth 21 = some (.bipush (-2), 23) := by decide +kernel
theorem dX7_worth_23 : dcd cX7_worth 23 = some (.ireturn, 24) := by decide +kernel
theorem dX7_worth_24 : dcd cX7_worth 24 = some (.aload_n 0, 25) := by decide +kernel
theorem dX7_worth_25 : dcd cX7_worth 25 = some (.aload_n 0, 26) := by decide +kernel
theorem dX7_worth_26 : dcd cX7_worth 26 = some (.getfield 29, 29) := by decide +kernel
theorem dX7_worth_29 : dcd cX7_worth 29 = some (.getfield 168, 32) := by decide +kernel
theorem dX7_worth_32 : dcd cX7_worth 32 = some (.aload_n 0, 33) := by decide +kernel
theorem dX7_worth_33 : dcd cX7_worth 33 = some (.getfield 29, 36) := by decide +kernel
theorem dX7_worth_36 : dcd cX7_worth 36 = some (.getfield 162, 39) := by decide +kernel
theorem dX7_worth_39 : dcd cX7_worth 39 = some (.invokevirtual 171, 42) := by decide +kernel
theorem dX7_worth_42 : dcd cX7_worth 42 = some (.aload_n 0, 43) := by decide +kernel
theorem dX7_worth_43 : dcd cX7_worth 43 = some (.getfield 29, 46) := by decide +kernel
theorem dX7_worth_46 : dcd cX7_worth 46 = some (.getfield 159, 49) := by decide +kernel
theorem dX7_worth_49 : dcd cX7_worth 49 = some (.iconst 1, 50) := by decide +kernel
theorem dX7_worth_50 : dcd cX7_worth 50 = some (.isub, 51) := by decide +kernel
theorem dX7_worth_51 : dcd cX7_worth 51 = some (.istore_n 2, 52) := by decide +kernel
theorem dX7_worth_52 : dcd cX7_worth 52 = some (.iload_n 1, 53) := by decide +kernel
theorem dX7_worth_53 : dcd cX7_worth 53 = some (.tableswitch 53 0 2 #[27, 35, 43], 80) := by decide +kernel
theorem dX7_worth_80 : dcd cX7_worth 80 = some (.aload_n 0, 81) := by decide +kernel
theorem dX7_worth_81 : dcd cX7_worth 81 = some (.getfield 40, 84) := by decide +kernel
theorem dX7_worth_84 : dcd cX7_worth 84 = some (.invokevirtual 199, 87) := by decide +kernel
theorem dX7_worth_87 : dcd cX7_worth 87 = some (.ireturn, 88) := by decide +kernel
theorem dX7_worth_88 : dcd cX7_worth 88 = some (.aload_n 0, 89) := by decide +kernel
theorem dX7_worth_89 : dcd cX7_worth 89 = some (.getfield 40, 92) := by decide +kernel
theorem dX7_worth_92 : dcd cX7_worth 92 = some (.getfield 203, 95) := by decide +kernel
theorem dX7_worth_95 : dcd cX7_worth 95 = some (.ireturn, 96) := by decide +kernel
theorem dX7_worth_96 : dcd cX7_worth 96 = some (.aload_n 0, 97) := by decide +kernel
theorem dX7_worth_97 : dcd cX7_worth 97 = some (.getfield 40, 100) := by decide +kernel
theorem dX7_worth_100 : dcd cX7_worth 100 = some (.getfield 196, 103) := by decide +kernel
theorem dX7_worth_103 : dcd cX7_worth 103 = some (.iload_n 2, 104) := by decide +kernel
theorem dX7_worth_104 : dcd cX7_worth 104 = some (.iaload, 105) := by decide +kernel
theorem dX7_worth_105 : dcd cX7_worth 105 = some (.ireturn, 106) := by decide +kernel
theorem dX7_worth_106 : dcd cX7_worth 106 = some (.aload_n 0, 107) := by decide +kernel
theorem dX7_worth_107 : dcd cX7_worth 107 = some (.getfield 40, 110) := by decide +kernel
theorem dX7_worth_110 : dcd cX7_worth 110 = some (.getfield 181, 113) := by decide +kernel
theorem dX7_worth_113 : dcd cX7_worth 113 = some (.iload_n 2, 114) := by decide +kernel
theorem dX7_worth_114 : dcd cX7_worth 114 = some (.iaload, 115) := by decide +kernel
theorem dX7_worth_115 : dcd cX7_worth 115 = some (.ireturn, 116) := by decide +kernel
theorem dX7_best_0 : dcd cX7_best 0 = some (.iload_n 1, 1) := by decide +kernel
theorem dX7_best_1 : dcd cX7_best 1 = some (.ifCond .lt 8, 4) := by decide +kernel
theorem dX7_best_4 : dcd cX7_best 4 = some (.iload_n 1, 5) := by decide +kernel
theorem dX7_best_5 : dcd cX7_best 5 = some (.iconst 3, 6) := by decide +kernel
theorem dX7_best_6 : dcd cX7_best 6 = some (.if_icmp .le 5, 9) := by decide +kernel
theorem dX7_best_9 : dcd cX7_best 9 = some (.iconst (-1), 10) := by decide +kernel
theorem dX7_best_10 : dcd cX7_best 10 = some (.ireturn, 11) := by decide +kernel
theorem dX7_best_11 : dcd cX7_best 11 = some (.aload_n 0, 12) := by decide +kernel
theorem dX7_best_12 : dcd cX7_best 12 = some (.getfield 29, 15) := by decide +kernel
theorem dX7_best_15 : dcd cX7_best 15 = some (.getfield 159, 18) := by decide +kernel
theorem dX7_best_18 : dcd cX7_best 18 = some (.ifCond .eq 15, 21) := by decide +kernel
theorem dX7_best_21 : dcd cX7_best 21 = some (.aload_n 0, 22) := by decide +kernel
theorem dX7_best_22 : dcd cX7_best 22 = some (.getfield 29, 25) := by decide +kernel
theorem dX7_best_25 : dcd cX7_best 25 = some (.getfield 159, 28) := by decide +kernel
theorem dX7_best_28 : dcd cX7_best 28 = some (.bipush 7, 30) := by decide +kernel
theorem dX7_best_30 : dcd cX7_best 30 = some (.if_icmp .le 6, 33) := by decide +kernel
theorem dX7_best_33 : dcd cX7_best 33 = some (.bipush (-2), 35) := by decide +kernel
theorem dX7_best_35 : dcd cX7_best 35 = some (.ireturn, 36) := by decide +kernel
theorem dX7_best_36 : dcd cX7_best 36 = some (.aload_n 0, 37) := by decide +kernel
theorem dX7_best_37 : dcd cX7_best 37 = some (.invokevirtual 206, 40) := by decide +kernel
theorem dX7_best_40 : dcd cX7_best 40 = some (.iload_n 1, 41) := by decide +kernel
theorem dX7_best_41 : dcd cX7_best 41 = some (.iconst 3, 42) := by decide +kernel
theorem dX7_best_42 : dcd cX7_best 42 = some (.if_icmp .ne 11, 45) := by decide +kernel
theorem dX7_best_45 : dcd cX7_best 45 = some (.aload_n 0, 46) := by decide +kernel
theorem dX7_best_46 : dcd cX7_best 46 = some (.getfield 47, 49) := by decide +kernel
theorem dX7_best_49 : dcd cX7_best 49 = some (.getfield 209, 52) := by decide +kernel
theorem dX7_best_52 : dcd cX7_best 52 = some (.ireturn, 53) := by decide +kernel
theorem dX7_best_53 : dcd cX7_best 53 = some (.aload_n 0, 54) := by decide +kernel
theorem dX7_best_54 : dcd cX7_best 54 = some (.getfield 47, 57) := by decide +kernel
theorem dX7_best_57 : dcd cX7_best 57 = some (.getfield 209, 60) := by decide +kernel
theorem dX7_best_60 : dcd cX7_best 60 = some (.ifCond .ne 6, 63) := by decide +kernel
theorem dX7_best_63 : dcd cX7_best 63 = some (.bipush (-9), 65) := by decide +kernel
theorem dX7_best_65 : dcd cX7_best 65 = some (.ireturn, 66) := by decide +kernel
theorem dX7_best_66 : dcd cX7_best 66 = some (.iload_n 1, 67) := by decide +kernel
theorem dX7_best_67 : dcd cX7_best 67 = some (.lookupswitch 41 #[(0, 25), (1, 33)], 92) := by decide +kernel
theorem dX7_best_92 : dcd cX7_best 92 = some (.aload_n 0, 93) := by decide +kernel
theorem dX7_best_93 : dcd cX7_best 93 = some (.getfield 47, 96) := by decide +kernel
theorem dX7_best_96 : dcd cX7_best 96 = some (.getfield 212, 99) := by decide +kernel
theorem dX7_best_99 : dcd cX7_best 99 = some (.ireturn, 100) := by decide +kernel
theorem dX7_best_100 : dcd cX7_best 100 = some (.aload_n 0, 101) := by decide +kernel
theorem dX7_best_101 : dcd cX7_best 101 = some (.getfield 47, 104) := by decide +kernel
theorem dX7_best_104 : dcd cX7_best 104 = some (.getfield 214, 107) := by decide +kernel
theorem dX7_best_107 : dcd cX7_best 107 = some (.ireturn, 108) := by decide +kernel
theorem dX7_best_108 : dcd cX7_best 108 = some (.aload_n 0, 109) := by decide +kernel
theorem dX7_best_109 : dcd cX7_best 109 = some (.getfield 47, 112) := by decide +kernel
theorem dX7_best_112 : dcd cX7_best 112 = some (.getfield 217, 115) := by decide +kernel
theorem dX7_best_115 : dcd cX7_best 115 = some (.ireturn, 116) := by decide +kernel
theorem dX7_custom_0 : dcd cX7_custom 0 = some (.aload_n 0, 1) := by decide +kernel
theorem dX7_custom_1 : dcd cX7_custom 1 = some (.getfield 29, 4) := by decide +kernel
theorem dX7_custom_4 : dcd cX7_custom 4 = some (.getfield 159, 7) := by decide +kernel
theorem dX7_custom_7 : dcd cX7_custom 7 = some (.ifCond .ne 6, 10) := by decide +kernel
theorem dX7_custom_10 : dcd cX7_custom 10 = some (.bipush (-2), 12) := by decide +kernel
theorem dX7_custom_12 : dcd cX7_custom 12 = some (.ireturn, 13) := by decide +kernel
theorem dX7_custom_13 : dcd cX7_custom 13 = some (.aload_n 0, 14) := by decide +kernel
theorem dX7_custom_14 : dcd cX7_custom 14 = some (.bipush (-9), 16) := by decide +kernel
theorem dX7_custom_16 : dcd cX7_custom 16 = some (.invokevirtual 218, 19) := by decide +kernel
theorem dX7_custom_19 : dcd cX7_custom 19 = some (.pop, 20) := by decide +kernel
theorem dX7_custom_20 : dcd cX7_custom 20 = some (.aload_n 0, 21) := by decide +kernel
theorem dX7_custom_21 : dcd cX7_custom 21 = some (.invokevirtual 221, 24) := by decide +kernel
theorem dX7_custom_24 : dcd cX7_custom 24 = some (.aload_n 0, 25) := by decide +kernel
theorem dX7_custom_25 : dcd cX7_custom 25 = some (.getfield 29, 28) := by decide +kernel
theorem dX7_custom_28 : dcd cX7_custom 28 = some (.getfield 159, 31) := by decide +kernel
theorem dX7_custom_31 : dcd cX7_custom 31 = some (.iconst 1, 32) := by decide +kernel
theorem dX7_custom_32 : dcd cX7_custom 32 = some (.isub, 33) := by decide +kernel
theorem dX7_custom_33 : dcd cX7_custom 33 = some (.istore_n 1, 34) := by decide +kernel
theorem dX7_custom_34 : dcd cX7_custom 34 = some (.iload_n 1, 35) := by decide +kernel
theorem dX7_custom_35 : dcd cX7_custom 35 = some (.ifCond .le 33, 38) := by decide +kernel
theorem dX7_custom_38 : dcd cX7_custom 38 = some (.aload_n 0, 39) := by decide +kernel
theorem dX7_custom_39 : dcd cX7_custom 39 = some (.getfield 70, 42) := by decide +kernel
theorem dX7_custom_42 : dcd cX7_custom 42 = some (.iload_n 1, 43) := by decide +kernel
theorem dX7_custom_43 : dcd cX7_custom 43 = some (.iaload, 44) := by decide +kernel
theorem dX7_custom_44 : dcd cX7_custom 44 = some (.istore_n 2, 45) := by decide +kernel
theorem dX7_custom_45 : dcd cX7_custom 45 = some (.aload_n 0, 46) := by decide +kernel
theorem dX7_custom_46 : dcd cX7_custom 46 = some (.getfield 70, 49) := by decide +kernel
theorem dX7_custom_49 : dcd cX7_custom 49 = some (.iload_n 1, 50) := by decide +kernel
theorem dX7_custom_50 : dcd cX7_custom 50 = some (.aload_n 0, 51) := by decide +kernel
theorem dX7_custom_51 : dcd cX7_custom 51 = some (.getfield 70, 54) := by decide +kernel
theorem dX7_custom_54 : dcd cX7_custom 54 = some (.iload_n 1, 55) := by decide +kernel
theorem dX7_custom_55 : dcd cX7_custom 55 = some (.iconst 1, 56) := by decide +kernel
theorem dX7_custom_56 : dcd cX7_custom 56 = some (.isub, 57) := by decide +kernel
theorem dX7_custom_57 : dcd cX7_custom 57 = some (.iaload, 58) := by decide +kernel
theorem dX7_custom_58 : dcd cX7_custom 58 = some (.iastore, 59) := by decide +kernel
theorem dX7_custom_59 : dcd cX7_custom 59 = some (.aload_n 0, 60) := by decide +kernel
theorem dX7_custom_60 : dcd cX7_custom 60 = some (.getfield 70, 63) := by decide +kernel
theorem dX7_custom_63 : dcd cX7_custom 63 = some (.iload_n 1, 64) := by decide +kernel
theorem dX7_custom_64 : dcd cX7_custom 64 = some (.iconst 1, 65) := by decide +kernel
theorem dX7_custom_65 : dcd cX7_custom 65 = some (.isub, 66) := by decide +kernel
theorem dX7_custom_66 : dcd cX7_custom 66 = some (.iload_n 2, 67) := by decide +kernel
theorem dX7_custom_67 : dcd cX7_custom 67 = some (.iastore, 68) := by decide +kernel
theorem dX7_custom_68 : dcd cX7_custom 68 = some (.aload_n 0, 69) := by decide +kernel
theorem dX7_custom_69 : dcd cX7_custom 69 = some (.aload_n 0, 70) := by decide +kernel
theorem dX7_custom_70 : dcd cX7_custom 70 = some (.getfield 70, 73) := by decide +kernel
theorem dX7_custom_73 : dcd cX7_custom 73 = some (.aload_n 0, 74) := by decide +kernel
theorem dX7_custom_74 : dcd cX7_custom 74 = some (.getfield 29, 77) := by decide +kernel
theorem dX7_custom_77 : dcd cX7_custom 77 = some (.getfield 162, 80) := by decide +kernel
theorem dX7_custom_80 : dcd cX7_custom 80 = some (.invokevirtual 171, 83) := by decide +kernel
theorem dX7_custom_83 : dcd cX7_custom 83 = some (.aload_n 0, 84) := by decide +kernel
theorem dX7_custom_84 : dcd cX7_custom 84 = some (.getfield 40, 87) := by decide +kernel
theorem dX7_custom_87 : dcd cX7_custom 87 = some (.invokevirtual 199, 90) := by decide +kernel
theorem dX7_custom_90 : dcd cX7_custom 90 = some (.ireturn, 91) := by decide +kernel
theorem dX7_when_0 : dcd cX7_when 0 = some (.aload_n 0, 1) := by decide +kernel
theorem dX7_when_1 : dcd cX7_when 1 = some (.getfield 29, 4) := by decide +kernel
theorem dX7_when_4 : dcd cX7_when 4 = some (.getfield 159, 7) := by decide +kernel
theorem dX7_when_7 : dcd cX7_when 7 = some (.ifCond .ne 6, 10) := by decide +kernel
theorem dX7_when_10 : dcd cX7_when 10 = some (.bipush (-2), 12) := by decide +kernel
theorem dX7_when_12 : dcd cX7_when 12 = some (.ireturn, 13) := by decide +kernel
theorem dX7_when_13 : dcd cX7_when 13 = some (.bipush (-9), 15) := by decide +kernel
theorem dX7_when_15 : dcd cX7_when 15 = some (.istore_n 1, 16) := by decide +kernel
theorem dX7_when_16 : dcd cX7_when 16 = some (.iconst 0, 17) := by decide +kernel
theorem dX7_when_17 : dcd cX7_when 17 = some (.istore_n 2, 18) := by decide +kernel
theorem dX7_when_18 : dcd cX7_when 18 = some (.iconst 0, 19) := by decide +kernel
theorem dX7_when_19 : dcd cX7_when 19 = some (.istore_n 3, 20) := by decide +kernel
theorem dX7_when_20 : dcd cX7_when 20 = some (.iload_n 3, 21) := by decide +kernel
theorem dX7_when_21 : dcd cX7_when 21 = some (.aload_n 0, 22) := by decide +kernel
theorem dX7_when_22 : dcd cX7_when 22 = some (.getfield 29, 25) := by decide +kernel
theorem dX7_when_25 : dcd cX7_when 25 = some (.getfield 159, 28) := by decide +kernel
theorem dX7_when_28 : dcd cX7_when 28 = some (.if_icmp .ge 58, 31) := by decide +kernel
theorem dX7_when_31 : dcd cX7_when 31 = some (.aload_n 0, 32) := by decide +kernel
theorem dX7_when_32 : dcd cX7_when 32 = some (.aload_n 0, 33) := by decide +kernel
theorem dX7_when_33 : dcd cX7_when 33 = some (.getfield 29, 36) := by decide +kernel
theorem dX7_when_36 : dcd cX7_when 36 = some (.getfield 168, 39) := by decide +kernel
theorem dX7_when_39 : dcd cX7_when 39 = some (.iload_n 3, 40) := by decide +kernel
theorem dX7_when_40 : dcd cX7_when 40 = some (.invokevirtual 171, 43) := by decide +kernel
theorem dX7_when_43 : dcd cX7_when 43 = some (.aload_n 0, 44) := by decide +kernel
theorem dX7_when_44 : dcd cX7_when 44 = some (.getfield 40, 47) := by decide +kernel
theorem dX7_when_47 : dcd cX7_when 47 = some (.invokevirtual 224, 50) := by decide +kernel
theorem dX7_when_50 : dcd cX7_when 50 = some (.ifCond .eq 30, 53) := by decide +kernel
theorem dX7_when_53 : dcd cX7_when 53 = some (.iload_n 1, 54) := by decide +kernel
theorem dX7_when_54 : dcd cX7_when 54 = some (.bipush (-9), 56) := by decide +kernel
theorem dX7_when_56 : dcd cX7_when 56 = some (.if_icmp .eq 14, 59) := by decide +kernel
theorem dX7_when_59 : dcd cX7_when 59 = some (.aload_n 0, 60) := by decide +kernel
theorem dX7_when_60 : dcd cX7_when 60 = some (.getfield 40, 63) := by decide +kernel
theorem dX7_when_63 : dcd cX7_when 63 = some (.invokevirtual 199, 66) := by decide +kernel
theorem dX7_when_66 : dcd cX7_when 66 = some (.iload_n 2, 67) := by decide +kernel
theorem dX7_when_67 : dcd cX7_when 67 = some (.if_icmp .le 13, 70) := by decide +kernel
theorem dX7_when_70 : dcd cX7_when 70 = some (.iload_n 3, 71) := by decide +kernel
theorem dX7_when_71 : dcd cX7_when 71 = some (.istore_n 1, 72) := by decide +kernel
theorem dX7_when_72 : dcd cX7_when 72 = some (.aload_n 0, 73) := by decide +kernel
theorem dX7_when_73 : dcd cX7_when 73 = some (.getfield 40, 76) := by decide +kernel
theorem dX7_when_76 : dcd cX7_when 76 = some (.invokevirtual 199, 79) := by decide +kernel
theorem dX7_when_79 : dcd cX7_when 79 = some (.istore_n 2, 80) := by decide +kernel
theorem dX7_when_80 : dcd cX7_when 80 = some (.iinc 3 1, 83) := by decide +kernel
theorem dX7_when_83 : dcd cX7_when 83 = some (.goto (-63), 86) := by decide +kernel
theorem dX7_when_86 : dcd cX7_when 86 = some (.iload_n 1, 87) := by decide +kernel
theorem dX7_when_87 : dcd cX7_when 87 = some (.ireturn, 88) := by decide +kernel
theorem dX7_ill_0 : dcd cX7_ill 0 = some (.aload_n 0, 1) := by decide +kernel
theorem dX7_ill_1 : dcd cX7_ill 1 = some (.iload_n 1, 2) := by decide +kernel
theorem dX7_ill_2 : dcd cX7_ill 2 = some (.invokevirtual 106, 5) := by decide +kernel
theorem dX7_ill_5 : dcd cX7_ill 5 = some (.ifCond .eq 14, 8) := by decide +kernel
theorem dX7_ill_8 : dcd cX7_ill 8 = some (.aload_n 0, 9) := by decide +kernel
theorem dX7_ill_9 : dcd cX7_ill 9 = some (.getfield 29, 12) := by decide +kernel
theorem dX7_ill_12 : dcd cX7_ill 12 = some (.iload_n 1, 13) := by decide +kernel
theorem dX7_ill_13 : dcd cX7_ill 13 = some (.invokevirtual 153, 16) := by decide +kernel
theorem dX7_ill_16 : dcd cX7_ill 16 = some (.goto 5, 19) := by decide +kernel
theorem dX7_ill_19 : dcd cX7_ill 19 = some (.bipush (-9), 21) := by decide +kernel
theorem dX7_ill_21 : dcd cX7_ill 21 = some (.istore_n 3, 22) := by decide +kernel
theorem dX7_ill_22 : dcd cX7_ill 22 = some (.iload_n 3, 23) := by decide +kernel
theorem dX7_ill_23 : dcd cX7_ill 23 = some (.bipush (-9), 25) := by decide +kernel
theorem dX7_ill_25 : dcd cX7_ill 25 = some (.if_icmp .eq 12, 28) := by decide +kernel
theorem dX7_ill_28 : dcd cX7_ill 28 = some (.iload_n 2, 29) := by decide +kernel
theorem dX7_ill_29 : dcd cX7_ill 29 = some (.ifCond .lt 8, 32) := by decide +kernel
theorem dX7_ill_32 : dcd cX7_ill 32 = some (.iload_n 2, 33) := by decide +kernel
theorem dX7_ill_33 : dcd cX7_ill 33 = some (.iconst 2, 34) := by decide +kernel
theorem dX7_ill_34 : dcd cX7_ill 34 = some (.if_icmp .le 5, 37) := by decide +kernel
theorem dX7_ill_37 : dcd cX7_ill 37 = some (.iconst (-1), 38) := by decide +kernel
theorem dX7_ill_38 : dcd cX7_ill 38 = some (.ireturn, 39) := by decide +kernel
theorem dX7_ill_39 : dcd cX7_ill 39 = some (.aload_n 0, 40) := by decide +kernel
theorem dX7_ill_40 : dcd cX7_ill 40 = some (.getfield 29, 43) := by decide +kernel
theorem dX7_ill_43 : dcd cX7_ill 43 = some (.getfield 159, 46) := by decide +kernel
theorem dX7_ill_46 : dcd cX7_ill 46 = some (.bipush 7, 48) := by decide +kernel
theorem dX7_ill_48 : dcd cX7_ill 48 = some (.if_icmp .gt 14, 51) := by decide +kernel
theorem dX7_ill_51 : dcd cX7_ill 51 = some (.aload_n 0, 52) := by decide +kernel
theorem dX7_ill_52 : dcd cX7_ill 52 = some (.getfield 29, 55) := by decide +kernel
theorem dX7_ill_55 : dcd cX7_ill 55 = some (.getfield 159, 58) := by decide +kernel
theorem dX7_ill_58 : dcd cX7_ill 58 = some (.iconst 2, 59) := by decide +kernel
theorem dX7_ill_59 : dcd cX7_ill 59 = some (.if_icmp .ge 6, 62) := by decide +kernel
theorem dX7_ill_62 : dcd cX7_ill 62 = some (.bipush (-2), 64) := by decide +kernel
theorem dX7_ill_64 : dcd cX7_ill 64 = some (.ireturn, 65) := by decide +kernel
theorem dX7_ill_65 : dcd cX7_ill 65 = some (.aload_n 0, 66) := by decide +kernel
theorem dX7_ill_66 : dcd cX7_ill 66 = some (.iload_n 1, 67) := by decide +kernel
theorem dX7_ill_67 : dcd cX7_ill 67 = some (.iload_n 3, 68) := by decide +kernel
theorem dX7_ill_68 : dcd cX7_ill 68 = some (.invokevirtual 228, 71) := by decide +kernel
theorem dX7_ill_71 : dcd cX7_ill 71 = some (.aload_n 0, 72) := by decide +kernel
theorem dX7_ill_72 : dcd cX7_ill 72 = some (.getfield 51, 75) := by decide +kernel
theorem dX7_ill_75 : dcd cX7_ill 75 = some (.getfield 209, 78) := by decide +kernel
theorem dX7_ill_78 : dcd cX7_ill 78 = some (.ifCond .ne 6, 81) := by decide +kernel
theorem dX7_ill_81 : dcd cX7_ill 81 = some (.bipush (-9), 83) := by decide +kernel
theorem dX7_ill_83 : dcd cX7_ill 83 = some (.ireturn, 84) := by decide +kernel
theorem dX7_ill_84 : dcd cX7_ill 84 = some (.iload_n 2, 85) := by decide +kernel
theorem dX7_ill_85 : dcd cX7_ill 85 = some (.lookupswitch 43 #[(0, 27), (1, 35)], 112) := by decide +kernel
theorem dX7_ill_112 : dcd cX7_ill 112 = some (.aload_n 0, 113) := by decide +kernel
theorem dX7_ill_113 : dcd cX7_ill 113 = some (.getfield 51, 116) := by decide +kernel
theorem dX7_ill_116 : dcd cX7_ill 116 = some (.getfield 232, 119) := by decide +kernel
theorem dX7_ill_119 : dcd cX7_ill 119 = some (.ireturn, 120) := by decide +kernel
theorem dX7_ill_120 : dcd cX7_ill 120 = some (.aload_n 0, 121) := by decide +kernel
theorem dX7_ill_121 : dcd cX7_ill 121 = some (.getfield 51, 124) := by decide +kernel
theorem dX7_ill_124 : dcd cX7_ill 124 = some (.getfield 214, 127) := by decide +kernel
theorem dX7_ill_127 : dcd cX7_ill 127 = some (.ireturn, 128) := by decide +kernel
theorem dX7_ill_128 : dcd cX7_ill 128 = some (.aload_n 0, 129) := by decide +kernel
theorem dX7_ill_129 : dcd cX7_ill 129 = some (.getfield 51, 132) := by decide +kernel
theorem dX7_ill_132 : dcd cX7_ill 132 = some (.getfield 212, 135) := by decide +kernel
theorem dX7_ill_135 : dcd cX7_ill 135 = some (.ireturn, 136) := by decide +kernel
theorem dX7_halves_0 : dcd cX7_halves 0 = some (.iload_n 1, 1) := by decide +kernel
theorem dX7_halves_1 : dcd cX7_halves 1 = some (.ifCond .lt 8, 4) := by decide +kernel
theorem dX7_halves_4 : dcd cX7_halves 4 = some (.iload_n 1, 5) := by decide +kernel
theorem dX7_halves_5 : dcd cX7_halves 5 = some (.iconst 1, 6) := by decide +kernel
theorem dX7_halves_6 : dcd cX7_halves 6 = some (.if_icmp .le 5, 9) := by decide +kernel
theorem dX7_halves_9 : dcd cX7_halves 9 = some (.iconst (-1), 10) := by decide +kernel
theorem dX7_halves_10 : dcd cX7_halves 10 = some (.ireturn, 11) := by decide +kernel
theorem dX7_halves_11 : dcd cX7_halves 11 = some (.aload_n 0, 12) := by decide +kernel
theorem dX7_halves_12 : dcd cX7_halves 12 = some (.getfield 29, 15) := by decide +kernel
theorem dX7_halves_15 : dcd cX7_halves 15 = some (.getfield 159, 18) := by decide +kernel
theorem dX7_halves_18 : dcd cX7_halves 18 = some (.iconst 2, 19) := by decide +kernel
theorem dX7_halves_19 : dcd cX7_halves 19 = some (.if_icmp .ge 6, 22) := by decide +kernel
theorem dX7_halves_22 : dcd cX7_halves 22 = some (.bipush (-2), 24) := by decide +kernel
theorem dX7_halves_24 : dcd cX7_halves 24 = some (.ireturn, 25) := by decide +kernel
theorem dX7_halves_25 : dcd cX7_halves 25 = some (.aload_n 0, 26) := by decide +kernel
theorem dX7_halves_26 : dcd cX7_halves 26 = some (.getfield 29, 29) := by decide +kernel
theorem dX7_halves_29 : dcd cX7_halves 29 = some (.invokevirtual 235, 32) := by decide +kernel
theorem dX7_halves_32 : dcd cX7_halves 32 = some (.istore_n 2, 33) := by decide +kernel
theorem dX7_halves_33 : dcd cX7_halves 33 = some (.bipush (-9), 35) := by decide +kernel
theorem dX7_halves_35 : dcd cX7_halves 35 = some (.istore_n 3, 36) := by decide +kernel
theorem dX7_halves_36 : dcd cX7_halves 36 = some (.iconst 1, 37) := by decide +kernel
theorem dX7_halves_37 : dcd cX7_halves 37 = some (.istore 4, 39) := by decide +kernel
theorem dX7_halves_39 : dcd cX7_halves 39 = some (.iload 4, 41) := by decide +kernel
theorem dX7_halves_41 : dcd cX7_halves 41 = some (.iload_n 2, 42) := by decide +kernel
theorem dX7_halves_42 : dcd cX7_halves 42 = some (.if_icmp .gt 44, 45) := by decide +kernel
theorem dX7_halves_45 : dcd cX7_halves 45 = some (.aload_n 0, 46) := by decide +kernel
theorem dX7_halves_46 : dcd cX7_halves 46 = some (.iload 4, 48) := by decide +kernel
theorem dX7_halves_48 : dcd cX7_halves 48 = some (.iload_n 2, 49) := by decide +kernel
theorem dX7_halves_49 : dcd cX7_halves 49 = some (.invokevirtual 238, 52) := by decide +kernel
theorem dX7_halves_52 : dcd cX7_halves 52 = some (.ifCond .eq 28, 55) := by decide +kernel
theorem dX7_halves_55 : dcd cX7_halves 55 = some (.iload_n 3, 56) := by decide +kernel
theorem dX7_halves_56 : dcd cX7_halves 56 = some (.bipush (-9), 58) := by decide +kernel
theorem dX7_halves_58 : dcd cX7_halves 58 = some (.if_icmp .eq 19, 61) := by decide +kernel
theorem dX7_halves_61 : dcd cX7_halves 61 = some (.aload_n 0, 62) := by decide +kernel
theorem dX7_halves_62 : dcd cX7_halves 62 = some (.iload 4, 64) := by decide +kernel
theorem dX7_halves_64 : dcd cX7_halves 64 = some (.iload_n 2, 65) := by decide +kernel
theorem dX7_halves_65 : dcd cX7_halves 65 = some (.invokevirtual 242, 68) := by decide +kernel
theorem dX7_halves_68 : dcd cX7_halves 68 = some (.aload_n 0, 69) := by decide +kernel
theorem dX7_halves_69 : dcd cX7_halves 69 = some (.iload_n 3, 70) := by decide +kernel
theorem dX7_halves_70 : dcd cX7_halves 70 = some (.iload_n 2, 71) := by decide +kernel
theorem dX7_halves_71 : dcd cX7_halves 71 = some (.invokevirtual 242, 74) := by decide +kernel
theorem dX7_halves_74 : dcd cX7_halves 74 = some (.if_icmp .ge 6, 77) := by decide +kernel
theorem dX7_halves_77 : dcd cX7_halves 77 = some (.iload 4, 79) := by decide +kernel
theorem dX7_halves_79 : dcd cX7_halves 79 = some (.istore_n 3, 80) := by decide +kernel
theorem dX7_halves_80 : dcd cX7_halves 80 = some (.iinc 4 1, 83) := by decide +kernel
theorem dX7_halves_83 : dcd cX7_halves 83 = some (.goto (-44), 86) := by decide +kernel
theorem dX7_halves_86 : dcd cX7_halves 86 = some (.iload_n 3, 87) := by decide +kernel
theorem dX7_halves_87 : dcd cX7_halves 87 = some (.bipush (-9), 89) := by decide +kernel
theorem dX7_halves_89 : dcd cX7_halves 89 = some (.if_icmp .ne 6, 92) := by decide +kernel
theorem dX7_halves_92 : dcd cX7_halves 92 = some (.bipush (-9), 94) := by decide +kernel
theorem dX7_halves_94 : dcd cX7_halves 94 = some (.ireturn, 95) := by decide +kernel
theorem dX7_halves_95 : dcd cX7_halves 95 = some (.iload_n 1, 96) := by decide +kernel
theorem dX7_halves_96 : dcd cX7_halves 96 = some (.ifCond .ne 7, 99) := by decide +kernel
theorem dX7_halves_99 : dcd cX7_halves 99 = some (.iload_n 3, 100) := by decide +kernel
theorem dX7_halves_100 : dcd cX7_halves 100 = some (.goto 9, 103) := by decide +kernel
theorem dX7_halves_103 : dcd cX7_halves 103 = some (.aload_n 0, 104) := by decide +kernel
theorem dX7_halves_104 : dcd cX7_halves 104 = some (.iload_n 3, 105) := by decide +kernel
theorem dX7_halves_105 : dcd cX7_halves 105 = some (.iload_n 2, 106) := by decide +kernel
theorem dX7_halves_106 : dcd cX7_halves 106 = some (.invokevirtual 242, 109) := by decide +kernel
theorem dX7_halves_109 : dcd cX7_halves 109 = some (.ireturn, 110) := by decide +kernel
theorem dX7_tryout_0 : dcd cX7_tryout 0 = some (.iload_n 1, 1) := by decide +kernel
theorem dX7_tryout_1 : dcd cX7_tryout 1 = some (.ifCond .lt 19, 4) := by decide +kernel
theorem dX7_tryout_4 : dcd cX7_tryout 4 = some (.iload_n 1, 5) := by decide +kernel
theorem dX7_tryout_5 : dcd cX7_tryout 5 = some (.iconst 5, 6) := by decide +kernel
theorem dX7_tryout_6 : dcd cX7_tryout 6 = some (.if_icmp .gt 14, 9) := by decide +kernel
theorem dX7_tryout_9 : dcd cX7_tryout 9 = some (.iload_n 2, 10) := by decide +kernel
theorem dX7_tryout_10 : dcd cX7_tryout 10 = some (.iconst 1, 11) := by decide +kernel
theorem dX7_tryout_11 : dcd cX7_tryout 11 = some (.if_icmp .lt 9, 14) := by decide +kernel
theorem dX7_tryout_14 : dcd cX7_tryout 14 = some (.iload_n 2, 15) := by decide +kernel
theorem dX7_tryout_15 : dcd cX7_tryout 15 = some (.bipush 30, 17) := by decide +kernel
theorem dX7_tryout_17 : dcd cX7_tryout 17 = some (.if_icmp .le 5, 20) := by decide +kernel
theorem dX7_tryout_20 : dcd cX7_tryout 20 = some (.iconst (-1), 21) := by decide +kernel
theorem dX7_tryout_21 : dcd cX7_tryout 21 = some (.ireturn, 22) := by decide +kernel
theorem dX7_tryout_22 : dcd cX7_tryout 22 = some (.iload_n 3, 23) := by decide +kernel
theorem dX7_tryout_23 : dcd cX7_tryout 23 = some (.ifCond .lt 20, 26) := by decide +kernel
theorem dX7_tryout_26 : dcd cX7_tryout 26 = some (.iload_n 3, 27) := by decide +kernel
theorem dX7_tryout_27 : dcd cX7_tryout 27 = some (.bipush 30, 29) := by decide +kernel
theorem dX7_tryout_29 : dcd cX7_tryout 29 = some (.if_icmp .gt 14, 32) := by decide +kernel
theorem dX7_tryout_32 : dcd cX7_tryout 32 = some (.iload 4, 34) := by decide +kernel
theorem dX7_tryout_34 : dcd cX7_tryout 34 = some (.ifCond .lt 9, 37) := by decide +kernel
theorem dX7_tryout_37 : dcd cX7_tryout 37 = some (.iload 4, 39) := by decide +kernel
theorem dX7_tryout_39 : dcd cX7_tryout 39 = some (.iconst 1, 40) := by decide +kernel
theorem dX7_tryout_40 : dcd cX7_tryout 40 = some (.if_icmp .le 5, 43) := by decide +kernel
theorem dX7_tryout_43 : dcd cX7_tryout 43 = some (.iconst (-1), 44) := by decide +kernel
theorem dX7_tryout_44 : dcd cX7_tryout 44 = some (.ireturn, 45) := by decide +kernel
theorem dX7_tryout_45 : dcd cX7_tryout 45 = some (.aload_n 0, 46) := by decide +kernel
theorem dX7_tryout_46 : dcd cX7_tryout 46 = some (.getfield 66, 49) := by decide +kernel
theorem dX7_tryout_49 : dcd cX7_tryout 49 = some (.iload_n 1, 50) := by decide +kernel
theorem dX7_tryout_50 : dcd cX7_tryout 50 = some (.putfield 114, 53) := by decide +kernel
theorem dX7_tryout_53 : dcd cX7_tryout 53 = some (.aload_n 0, 54) := by decide +kernel
theorem dX7_tryout_54 : dcd cX7_tryout 54 = some (.getfield 66, 57) := by decide +kernel
theorem dX7_tryout_57 : dcd cX7_tryout 57 = some (.iload_n 2, 58) := by decide +kernel
theorem dX7_tryout_58 : dcd cX7_tryout 58 = some (.putfield 117, 61) := by decide +kernel
theorem dX7_tryout_61 : dcd cX7_tryout 61 = some (.aload_n 0, 62) := by decide +kernel
theorem dX7_tryout_62 : dcd cX7_tryout 62 = some (.getfield 66, 65) := by decide +kernel
theorem dX7_tryout_65 : dcd cX7_tryout 65 = some (.iload_n 3, 66) := by decide +kernel
theorem dX7_tryout_66 : dcd cX7_tryout 66 = some (.putfield 120, 69) := by decide +kernel
theorem dX7_tryout_69 : dcd cX7_tryout 69 = some (.bipush (-9), 71) := by decide +kernel
theorem dX7_tryout_71 : dcd cX7_tryout 71 = some (.istore 5, 73) := by decide +kernel
theorem dX7_tryout_73 : dcd cX7_tryout 73 = some (.iconst 0, 74) := by decide +kernel
theorem dX7_tryout_74 : dcd cX7_tryout 74 = some (.istore 6, 76) := by decide +kernel
theorem dX7_tryout_76 : dcd cX7_tryout 76 = some (.iconst 0, 77) := by decide +kernel
theorem dX7_tryout_77 : dcd cX7_tryout 77 = some (.istore 7, 79) := by decide +kernel
theorem dX7_tryout_79 : dcd cX7_tryout 79 = some (.iload 7, 81) := by decide +kernel
theorem dX7_tryout_81 : dcd cX7_tryout 81 = some (.aload_n 0, 82) := by decide +kernel
theorem dX7_tryout_82 : dcd cX7_tryout 82 = some (.getfield 29, 85) := by decide +kernel
theorem dX7_tryout_85 : dcd cX7_tryout 85 = some (.getfield 159, 88) := by decide +kernel
theorem dX7_tryout_88 : dcd cX7_tryout 88 = some (.if_icmp .gt 57, 91) := by decide +kernel
theorem dX7_tryout_91 : dcd cX7_tryout 91 = some (.aload_n 0, 92) := by decide +kernel
theorem dX7_tryout_92 : dcd cX7_tryout 92 = some (.iload 7, 94) := by decide +kernel
theorem dX7_tryout_94 : dcd cX7_tryout 94 = some (.invokevirtual 246, 97) := by decide +kernel
theorem dX7_tryout_97 : dcd cX7_tryout 97 = some (.aload_n 0, 98) := by decide +kernel
theorem dX7_tryout_98 : dcd cX7_tryout 98 = some (.getfield 40, 101) := by decide +kernel
theorem dX7_tryout_101 : dcd cX7_tryout 101 = some (.invokevirtual 224, 104) := by decide +kernel
theorem dX7_tryout_104 : dcd cX7_tryout 104 = some (.ifCond .eq 35, 107) := by decide +kernel
theorem dX7_tryout_107 : dcd cX7_tryout 107 = some (.iload 5, 109) := by decide +kernel
theorem dX7_tryout_109 : dcd cX7_tryout 109 = some (.bipush (-9), 111) := by decide +kernel
theorem dX7_tryout_111 : dcd cX7_tryout 111 = some (.if_icmp .eq 15, 114) := by decide +kernel
theorem dX7_tryout_114 : dcd cX7_tryout 114 = some (.aload_n 0, 115) := by decide +kernel
theorem dX7_tryout_115 : dcd cX7_tryout 115 = some (.getfield 40, 118) := by decide +kernel
theorem dX7_tryout_118 : dcd cX7_tryout 118 = some (.invokevirtual 199, 121) := by decide +kernel
theorem dX7_tryout_121 : dcd cX7_tryout 121 = some (.iload 6, 123) := by decide +kernel
theorem dX7_tryout_123 : dcd cX7_tryout 123 = some (.if_icmp .le 16, 126) := by decide +kernel
theorem dX7_tryout_126 : dcd cX7_tryout 126 = some (.iload 7, 128) := by decide +kernel
theorem dX7_tryout_128 : dcd cX7_tryout 128 = some (.istore 5, 130) := by decide +kernel
theorem dX7_tryout_130 : dcd cX7_tryout 130 = some (.aload_n 0, 131) := by decide +kernel
theorem dX7_tryout_131 : dcd cX7_tryout 131 = some (.getfield 40, 134) := by decide +kernel
theorem dX7_tryout_134 : dcd cX7_tryout 134 = some (.invokevirtual 199, 137) := by decide +kernel
theorem dX7_tryout_137 : dcd cX7_tryout 137 = some (.istore 6, 139) := by decide +kernel
theorem dX7_tryout_139 : dcd cX7_tryout 139 = some (.iinc 7 1, 142) := by decide +kernel
theorem dX7_tryout_142 : dcd cX7_tryout 142 = some (.goto (-63), 145) := by decide +kernel
theorem dX7_tryout_145 : dcd cX7_tryout 145 = some (.iload 5, 147) := by decide +kernel
theorem dX7_tryout_147 : dcd cX7_tryout 147 = some (.bipush (-9), 149) := by decide +kernel
theorem dX7_tryout_149 : dcd cX7_tryout 149 = some (.if_icmp .eq 8, 152) := by decide +kernel
theorem dX7_tryout_152 : dcd cX7_tryout 152 = some (.iload 4, 154) := by decide +kernel
theorem dX7_tryout_154 : dcd cX7_tryout 154 = some (.ifCond .ne 8, 157) := by decide +kernel
theorem dX7_tryout_157 : dcd cX7_tryout 157 = some (.iload 5, 159) := by decide +kernel
theorem dX7_tryout_159 : dcd cX7_tryout 159 = some (.goto 5, 162) := by decide +kernel
theorem dX7_tryout_162 : dcd cX7_tryout 162 = some (.iload 6, 164) := by decide +kernel
theorem dX7_tryout_164 : dcd cX7_tryout 164 = some (.ireturn, 165) := by decide +kernel
theorem dX7_mark_0 : dcd cX7_mark 0 = some (.aload_n 0, 1) := by decide +kernel
theorem dX7_mark_1 : dcd cX7_mark 1 = some (.iload_n 1, 2) := by decide +kernel
theorem dX7_mark_2 : dcd cX7_mark 2 = some (.invokevirtual 106, 5) := by decide +kernel
theorem dX7_mark_5 : dcd cX7_mark 5 = some (.ifCond .eq 23, 8) := by decide +kernel
theorem dX7_mark_8 : dcd cX7_mark 8 = some (.iload_n 2, 9) := by decide +kernel
theorem dX7_mark_9 : dcd cX7_mark 9 = some (.ifCond .lt 19, 12) := by decide +kernel
theorem dX7_mark_12 : dcd cX7_mark 12 = some (.iload_n 2, 13) := by decide +kernel
theorem dX7_mark_13 : dcd cX7_mark 13 = some (.bipush 9, 15) := by decide +kernel
theorem dX7_mark_15 : dcd cX7_mark 15 = some (.if_icmp .ge 13, 18) := by decide +kernel
theorem dX7_mark_18 : dcd cX7_mark 18 = some (.iload_n 3, 19) := by decide +kernel
theorem dX7_mark_19 : dcd cX7_mark 19 = some (.ifCond .lt 9, 22) := by decide +kernel
theorem dX7_mark_22 : dcd cX7_mark 22 = some (.iload_n 3, 23) := by decide +kernel
theorem dX7_mark_23 : dcd cX7_mark 23 = some (.bipush 99, 25) := by decide +kernel
theorem dX7_mark_25 : dcd cX7_mark 25 = some (.if_icmp .le 5, 28) := by decide +kernel
theorem dX7_mark_28 : dcd cX7_mark 28 = some (.iconst (-1), 29) := by decide +kernel
theorem dX7_mark_29 : dcd cX7_mark 29 = some (.ireturn, 30) := by decide +kernel
theorem dX7_mark_30 : dcd cX7_mark 30 = some (.aload_n 0, 31) := by decide +kernel
theorem dX7_mark_31 : dcd cX7_mark 31 = some (.getfield 57, 34) := by decide +kernel
theorem dX7_mark_34 : dcd cX7_mark 34 = some (.getfield 249, 37) := by decide +kernel
theorem dX7_mark_37 : dcd cX7_mark 37 = some (.bipush 60, 39) := by decide +kernel
theorem dX7_mark_39 : dcd cX7_mark 39 = some (.if_icmp .lt 6, 42) := by decide +kernel
theorem dX7_mark_42 : dcd cX7_mark 42 = some (.bipush (-3), 44) := by decide +kernel
theorem dX7_mark_44 : dcd cX7_mark 44 = some (.ireturn, 45) := by decide +kernel
theorem dX7_mark_45 : dcd cX7_mark 45 = some (.aload_n 0, 46) := by decide +kernel
theorem dX7_mark_46 : dcd cX7_mark 46 = some (.getfield 57, 49) := by decide +kernel
theorem dX7_mark_49 : dcd cX7_mark 49 = some (.iload_n 1, 50) := by decide +kernel
theorem dX7_mark_50 : dcd cX7_mark 50 = some (.iload_n 2, 51) := by decide +kernel
theorem dX7_mark_51 : dcd cX7_mark 51 = some (.iload_n 3, 52) := by decide +kernel
theorem dX7_mark_52 : dcd cX7_mark 52 = some (.invokevirtual 250, 55) := by decide +kernel
theorem dX7_mark_55 : dcd cX7_mark 55 = some (.aload_n 0, 56) := by decide +kernel
theorem dX7_mark_56 : dcd cX7_mark 56 = some (.getfield 57, 59) := by decide +kernel
theorem dX7_mark_59 : dcd cX7_mark 59 = some (.getfield 249, 62) := by decide +kernel
theorem dX7_mark_62 : dcd cX7_mark 62 = some (.ireturn, 63) := by decide +kernel
theorem dX7_parted_0 : dcd cX7_parted 0 = some (.aload_n 0, 1) := by decide +kernel
theorem dX7_parted_1 : dcd cX7_parted 1 = some (.iload_n 1, 2) := by decide +kernel
theorem dX7_parted_2 : dcd cX7_parted 2 = some (.invokevirtual 106, 5) := by decide +kernel
theorem dX7_parted_5 : dcd cX7_parted 5 = some (.ifCond .eq 23, 8) := by decide +kernel
theorem dX7_parted_8 : dcd cX7_parted 8 = some (.iload_n 2, 9) := by decide +kernel
theorem dX7_parted_9 : dcd cX7_parted 9 = some (.ifCond .lt 19, 12) := by decide +kernel
theorem dX7_parted_12 : dcd cX7_parted 12 = some (.iload_n 2, 13) := by decide +kernel
theorem dX7_parted_13 : dcd cX7_parted 13 = some (.iconst 1, 14) := by decide +kernel
theorem dX7_parted_14 : dcd cX7_parted 14 = some (.if_icmp .gt 14, 17) := by decide +kernel
theorem dX7_parted_17 : dcd cX7_parted 17 = some (.aload_n 0, 18) := by decide +kernel
theorem dX7_parted_18 : dcd cX7_parted 18 = some (.getfield 57, 21) := by decide +kernel
theorem dX7_parted_21 : dcd cX7_parted 21 = some (.iload_n 1, 22) := by decide +kernel
theorem dX7_parted_22 : dcd cX7_parted 22 = some (.invokevirtual 253, 25) := by decide +kernel
theorem dX7_parted_25 : dcd cX7_parted 25 = some (.ifCond .ne 7, 28) := by decide +kernel
theorem dX7_parted_28 : dcd cX7_parted 28 = some (.ldc_w 256, 31) := by decide +kernel
theorem dX7_parted_31 : dcd cX7_parted 31 = some (.ireturn, 32) := by decide +kernel
theorem dX7_parted_32 : dcd cX7_parted 32 = some (.aload_n 0, 33) := by decide +kernel
theorem dX7_parted_33 : dcd cX7_parted 33 = some (.getfield 57, 36) := by decide +kernel
theorem dX7_parted_36 : dcd cX7_parted 36 = some (.iload_n 1, 37) := by decide +kernel
theorem dX7_parted_37 : dcd cX7_parted 37 = some (.invokevirtual 257, 40) := by decide +kernel
theorem dX7_parted_40 : dcd cX7_parted 40 = some (.iload_n 2, 41) := by decide +kernel
theorem dX7_parted_41 : dcd cX7_parted 41 = some (.ifCond .ne 13, 44) := by decide +kernel
theorem dX7_parted_44 : dcd cX7_parted 44 = some (.aload_n 0, 45) := by decide +kernel
theorem dX7_parted_45 : dcd cX7_parted 45 = some (.getfield 57, 48) := by decide +kernel
theorem dX7_parted_48 : dcd cX7_parted 48 = some (.getfield 260, 51) := by decide +kernel
theorem dX7_parted_51 : dcd cX7_parted 51 = some (.goto 10, 54) := by decide +kernel
theorem dX7_parted_54 : dcd cX7_parted 54 = some (.aload_n 0, 55) := by decide +kernel
theorem dX7_parted_55 : dcd cX7_parted 55 = some (.getfield 57, 58) := by decide +kernel
theorem dX7_parted_58 : dcd cX7_parted 58 = some (.getfield 263, 61) := by decide +kernel
theorem dX7_parted_61 : dcd cX7_parted 61 = some (.l2i, 62) := by decide +kernel
theorem dX7_parted_62 : dcd cX7_parted 62 = some (.ireturn, 63) := by decide +kernel
theorem dX7_opener_0 : dcd cX7_opener 0 = some (.bipush (-9), 2) := by decide +kernel
theorem dX7_opener_2 : dcd cX7_opener 2 = some (.istore_n 1, 3) := by decide +kernel
theorem dX7_opener_3 : dcd cX7_opener 3 = some (.iconst 0, 4) := by decide +kernel
theorem dX7_opener_4 : dcd cX7_opener 4 = some (.istore_n 2, 5) := by decide +kernel
theorem dX7_opener_5 : dcd cX7_opener 5 = some (.iload_n 2, 6) := by decide +kernel
theorem dX7_opener_6 : dcd cX7_opener 6 = some (.aload_n 0, 7) := by decide +kernel
theorem dX7_opener_7 : dcd cX7_opener 7 = some (.getfield 19, 10) := by decide +kernel
theorem dX7_opener_10 : dcd cX7_opener 10 = some (.getfield 266, 13) := by decide +kernel
theorem dX7_opener_13 : dcd cX7_opener 13 = some (.if_icmp .ge 26, 16) := by decide +kernel
theorem dX7_opener_16 : dcd cX7_opener 16 = some (.iload_n 1, 17) := by decide +kernel
theorem dX7_opener_17 : dcd cX7_opener 17 = some (.bipush (-9), 19) := by decide +kernel
theorem dX7_opener_19 : dcd cX7_opener 19 = some (.if_icmp .eq 12, 22) := by decide +kernel
theorem dX7_opener_22 : dcd cX7_opener 22 = some (.aload_n 0, 23) := by decide +kernel
theorem dX7_opener_23 : dcd cX7_opener 23 = some (.iload_n 2, 24) := by decide +kernel
theorem dX7_opener_24 : dcd cX7_opener 24 = some (.iload_n 1, 25) := by decide +kernel
theorem dX7_opener_25 : dcd cX7_opener 25 = some (.invokevirtual 267, 28) := by decide +kernel
theorem dX7_opener_28 : dcd cX7_opener 28 = some (.ifCond .eq 5, 31) := by decide +kernel
theorem dX7_opener_31 : dcd cX7_opener 31 = some (.iload_n 2, 32) := by decide +kernel
theorem dX7_opener_32 : dcd cX7_opener 32 = some (.istore_n 1, 33) := by decide +kernel
theorem dX7_opener_33 : dcd cX7_opener 33 = some (.iinc 2 1, 36) := by decide +kernel
theorem dX7_opener_36 : dcd cX7_opener 36 = some (.goto (-31), 39) := by decide +kernel
theorem dX7_opener_39 : dcd cX7_opener 39 = some (.iload_n 1, 40) := by decide +kernel
theorem dX7_opener_40 : dcd cX7_opener 40 = some (.ireturn, 41) := by decide +kernel
theorem dX7_hold_0 : dcd cX7_hold 0 = some (.iload_n 1, 1) := by decide +kernel
theorem dX7_hold_1 : dcd cX7_hold 1 = some (.ifCond .lt 8, 4) := by decide +kernel
theorem dX7_hold_4 : dcd cX7_hold 4 = some (.iload_n 1, 5) := by decide +kernel
theorem dX7_hold_5 : dcd cX7_hold 5 = some (.iconst 1, 6) := by decide +kernel
theorem dX7_hold_6 : dcd cX7_hold 6 = some (.if_icmp .le 5, 9) := by decide +kernel
theorem dX7_hold_9 : dcd cX7_hold 9 = some (.iconst (-1), 10) := by decide +kernel
theorem dX7_hold_10 : dcd cX7_hold 10 = some (.ireturn, 11) := by decide +kernel
theorem dX7_hold_11 : dcd cX7_hold 11 = some (.aload_n 0, 12) := by decide +kernel
theorem dX7_hold_12 : dcd cX7_hold 12 = some (.getfield 29, 15) := by decide +kernel
theorem dX7_hold_15 : dcd cX7_hold 15 = some (.getfield 159, 18) := by decide +kernel
theorem dX7_hold_18 : dcd cX7_hold 18 = some (.ifCond .ne 6, 21) := by decide +kernel
theorem dX7_hold_21 : dcd cX7_hold 21 = some (.bipush (-2), 23) := by decide +kernel
theorem dX7_hold_23 : dcd cX7_hold 23 = some (.ireturn, 24) := by decide +kernel
theorem dX7_hold_24 : dcd cX7_hold 24 = some (.aload_n 0, 25) := by decide +kernel
theorem dX7_hold_25 : dcd cX7_hold 25 = some (.bipush (-9), 27) := by decide +kernel
theorem dX7_hold_27 : dcd cX7_hold 27 = some (.invokevirtual 218, 30) := by decide +kernel
theorem dX7_hold_30 : dcd cX7_hold 30 = some (.pop, 31) := by decide +kernel
theorem dX7_hold_31 : dcd cX7_hold 31 = some (.aload_n 0, 32) := by decide +kernel
theorem dX7_hold_32 : dcd cX7_hold 32 = some (.invokevirtual 270, 35) := by decide +kernel
theorem dX7_hold_35 : dcd cX7_hold 35 = some (.iconst 0, 36) := by decide +kernel
theorem dX7_hold_36 : dcd cX7_hold 36 = some (.istore_n 2, 37) := by decide +kernel
theorem dX7_hold_37 : dcd cX7_hold 37 = some (.iconst 0, 38) := by decide +kernel
theorem dX7_hold_38 : dcd cX7_hold 38 = some (.istore_n 3, 39) := by decide +kernel
theorem dX7_hold_39 : dcd cX7_hold 39 = some (.iconst 0, 40) := by decide +kernel
theorem dX7_hold_40 : dcd cX7_hold 40 = some (.istore 4, 42) := by decide +kernel
theorem dX7_hold_42 : dcd cX7_hold 42 = some (.iconst 0, 43) := by decide +kernel
theorem dX7_hold_43 : dcd cX7_hold 43 = some (.istore 5, 45) := by decide +kernel
theorem dX7_hold_45 : dcd cX7_hold 45 = some (.iload 5, 47) := by decide +kernel
theorem dX7_hold_47 : dcd cX7_hold 47 = some (.aload_n 0, 48) := by decide +kernel
theorem dX7_hold_48 : dcd cX7_hold 48 = some (.getfield 29, 51) := by decide +kernel
theorem dX7_hold_51 : dcd cX7_hold 51 = some (.getfield 159, 54) := by decide +kernel
theorem dX7_hold_54 : dcd cX7_hold 54 = some (.if_icmp .ge 57, 57) := by decide +kernel
theorem dX7_hold_57 : dcd cX7_hold 57 = some (.aload_n 0, 58) := by decide +kernel
theorem dX7_hold_58 : dcd cX7_hold 58 = some (.getfield 19, 61) := by decide +kernel
theorem dX7_hold_61 : dcd cX7_hold 61 = some (.getfield 110, 64) := by decide +kernel
theorem dX7_hold_64 : dcd cX7_hold 64 = some (.aload_n 0, 65) := by decide +kernel
theorem dX7_hold_65 : dcd cX7_hold 65 = some (.getfield 70, 68) := by decide +kernel
theorem dX7_hold_68 : dcd cX7_hold 68 = some (.iload 5, 70) := by decide +kernel
theorem dX7_hold_70 : dcd cX7_hold 70 = some (.iaload, 71) := by decide +kernel
theorem dX7_hold_71 : dcd cX7_hold 71 = some (.aaload, 72) := by decide +kernel
theorem dX7_hold_72 : dcd cX7_hold 72 = some (.astore 6, 74) := by decide +kernel
theorem dX7_hold_74 : dcd cX7_hold 74 = some (.iload_n 2, 75) := by decide +kernel
theorem dX7_hold_75 : dcd cX7_hold 75 = some (.aload 6, 77) := by decide +kernel
theorem dX7_hold_77 : dcd cX7_hold 77 = some (.getfield 117, 80) := by decide +kernel
theorem dX7_hold_80 : dcd cX7_hold 80 = some (.iadd, 81) := by decide +kernel
theorem dX7_hold_81 : dcd cX7_hold 81 = some (.istore_n 2, 82) := by decide +kernel
theorem dX7_hold_82 : dcd cX7_hold 82 = some (.iload_n 3, 83) := by decide +kernel
theorem dX7_hold_83 : dcd cX7_hold 83 = some (.aload 6, 85) := by decide +kernel
theorem dX7_hold_85 : dcd cX7_hold 85 = some (.getfield 138, 88) := by decide +kernel
theorem dX7_hold_88 : dcd cX7_hold 88 = some (.iload_n 2, 89) := by decide +kernel
theorem dX7_hold_89 : dcd cX7_hold 89 = some (.imul, 90) := by decide +kernel
theorem dX7_hold_90 : dcd cX7_hold 90 = some (.iadd, 91) := by decide +kernel
theorem dX7_hold_91 : dcd cX7_hold 91 = some (.istore_n 3, 92) := by decide +kernel
theorem dX7_hold_92 : dcd cX7_hold 92 = some (.iload 4, 94) := by decide +kernel
theorem dX7_hold_94 : dcd cX7_hold 94 = some (.bipush 10, 96) := by decide +kernel
theorem dX7_hold_96 : dcd cX7_hold 96 = some (.imul, 97) := by decide +kernel
theorem dX7_hold_97 : dcd cX7_hold 97 = some (.aload 6, 99) := by decide +kernel
theorem dX7_hold_99 : dcd cX7_hold 99 = some (.getfield 273, 102) := by decide +kernel
theorem dX7_hold_102 : dcd cX7_hold 102 = some (.iadd, 103) := by decide +kernel
theorem dX7_hold_103 : dcd cX7_hold 103 = some (.istore 4, 105) := by decide +kernel
theorem dX7_hold_105 : dcd cX7_hold 105 = some (.iinc 5 1, 108) := by decide +kernel
theorem dX7_hold_108 : dcd cX7_hold 108 = some (.goto (-63), 111) := by decide +kernel
theorem dX7_hold_111 : dcd cX7_hold 111 = some (.iload_n 1, 112) := by decide +kernel
theorem dX7_hold_112 : dcd cX7_hold 112 = some (.ifCond .ne 7, 115) := by decide +kernel
theorem dX7_hold_115 : dcd cX7_hold 115 = some (.iload_n 3, 116) := by decide +kernel
theorem dX7_hold_116 : dcd cX7_hold 116 = some (.goto 5, 119) := by decide +kernel
theorem dX7_hold_119 : dcd cX7_hold 119 = some (.iload 4, 121) := by decide +kernel
theorem dX7_hold_121 : dcd cX7_hold 121 = some (.ireturn, 122) := by decide +kernel
theorem dX7_drawn_0 : dcd cX7_drawn 0 = some (.aload_n 0, 1) := by decide +kernel
theorem dX7_drawn_1 : dcd cX7_drawn 1 = some (.getfield 29, 4) := by decide +kernel
theorem dX7_drawn_4 : dcd cX7_drawn 4 = some (.getfield 159, 7) := by decide +kernel
theorem dX7_drawn_7 : dcd cX7_drawn 7 = some (.ifCond .ne 6, 10) := by decide +kernel
theorem dX7_drawn_10 : dcd cX7_drawn 10 = some (.bipush (-2), 12) := by decide +kernel
theorem dX7_drawn_12 : dcd cX7_drawn 12 = some (.ireturn, 13) := by decide +kernel
theorem dX7_drawn_13 : dcd cX7_drawn 13 = some (.aload_n 0, 14) := by decide +kernel
theorem dX7_drawn_14 : dcd cX7_drawn 14 = some (.getfield 40, 17) := by decide +kernel
theorem dX7_drawn_17 : dcd cX7_drawn 17 = some (.aload_n 0, 18) := by decide +kernel
theorem dX7_drawn_18 : dcd cX7_drawn 18 = some (.getfield 29, 21) := by decide +kernel
theorem dX7_drawn_21 : dcd cX7_drawn 21 = some (.getfield 159, 24) := by decide +kernel
theorem dX7_drawn_24 : dcd cX7_drawn 24 = some (.aload_n 0, 25) := by decide +kernel
theorem dX7_drawn_25 : dcd cX7_drawn 25 = some (.getfield 29, 28) := by decide +kernel
theorem dX7_drawn_28 : dcd cX7_drawn 28 = some (.getfield 162, 31) := by decide +kernel
theorem dX7_drawn_31 : dcd cX7_drawn 31 = some (.invokevirtual 276, 34) := by decide +kernel
theorem dX7_drawn_34 : dcd cX7_drawn 34 = some (.iconst 0, 35) := by decide +kernel
theorem dX7_drawn_35 : dcd cX7_drawn 35 = some (.istore_n 1, 36) := by decide +kernel
theorem dX7_drawn_36 : dcd cX7_drawn 36 = some (.iload_n 1, 37) := by decide +kernel
theorem dX7_drawn_37 : dcd cX7_drawn 37 = some (.aload_n 0, 38) := by decide +kernel
theorem dX7_drawn_38 : dcd cX7_drawn 38 = some (.getfield 29, 41) := by decide +kernel
theorem dX7_drawn_41 : dcd cX7_drawn 41 = some (.getfield 159, 44) := by decide +kernel
theorem dX7_drawn_44 : dcd cX7_drawn 44 = some (.if_icmp .ge 51, 47) := by decide +kernel
theorem dX7_drawn_47 : dcd cX7_drawn 47 = some (.aload_n 0, 48) := by decide +kernel
theorem dX7_drawn_48 : dcd cX7_drawn 48 = some (.getfield 40, 51) := by decide +kernel
theorem dX7_drawn_51 : dcd cX7_drawn 51 = some (.iload_n 1, 52) := by decide +kernel
theorem dX7_drawn_52 : dcd cX7_drawn 52 = some (.aload_n 0, 53) := by decide +kernel
theorem dX7_drawn_53 : dcd cX7_drawn 53 = some (.getfield 19, 56) := by decide +kernel
theorem dX7_drawn_56 : dcd cX7_drawn 56 = some (.getfield 110, 59) := by decide +kernel
theorem dX7_drawn_59 : dcd cX7_drawn 59 = some (.aload_n 0, 60) := by decide +kernel
theorem dX7_drawn_60 : dcd cX7_drawn 60 = some (.getfield 29, 63) := by decide +kernel
theorem dX7_drawn_63 : dcd cX7_drawn 63 = some (.getfield 168, 66) := by decide +kernel
theorem dX7_drawn_66 : dcd cX7_drawn 66 = some (.iload_n 1, 67) := by decide +kernel
theorem dX7_drawn_67 : dcd cX7_drawn 67 = some (.iaload, 68) := by decide +kernel
theorem dX7_drawn_68 : dcd cX7_drawn 68 = some (.aaload, 69) := by decide +kernel
theorem dX7_drawn_69 : dcd cX7_drawn 69 = some (.invokevirtual 279, 72) := by decide +kernel
theorem dX7_drawn_72 : dcd cX7_drawn 72 = some (.aload_n 0, 73) := by decide +kernel
theorem dX7_drawn_73 : dcd cX7_drawn 73 = some (.getfield 40, 76) := by decide +kernel
theorem dX7_drawn_76 : dcd cX7_drawn 76 = some (.iload_n 1, 77) := by decide +kernel
theorem dX7_drawn_77 : dcd cX7_drawn 77 = some (.aload_n 0, 78) := by decide +kernel
theorem dX7_drawn_78 : dcd cX7_drawn 78 = some (.getfield 29, 81) := by decide +kernel
theorem dX7_drawn_81 : dcd cX7_drawn 81 = some (.invokevirtual 283, 84) := by decide +kernel
theorem dX7_drawn_84 : dcd cX7_drawn 84 = some (.iconst 2, 85) := by decide +kernel
theorem dX7_drawn_85 : dcd cX7_drawn 85 = some (.isub, 86) := by decide +kernel
theorem dX7_drawn_86 : dcd cX7_drawn 86 = some (.invokevirtual 286, 89) := by decide +kernel
theorem dX7_drawn_89 : dcd cX7_drawn 89 = some (.iinc 1 1, 92) := by decide +kernel
theorem dX7_drawn_92 : dcd cX7_drawn 92 = some (.goto (-56), 95) := by decide +kernel
theorem dX7_drawn_95 : dcd cX7_drawn 95 = some (.aload_n 0, 96) := by decide +kernel
theorem dX7_drawn_96 : dcd cX7_drawn 96 = some (.getfield 40, 99) := by decide +kernel
theorem dX7_drawn_99 : dcd cX7_drawn 99 = some (.invokevirtual 199, 102) := by decide +kernel
theorem dX7_drawn_102 : dcd cX7_drawn 102 = some (.ireturn, 103) := by decide +kernel
theorem dX7_lot_0 : dcd cX7_lot 0 = some (.aload_n 0, 1) := by decide +kernel
theorem dX7_lot_1 : dcd cX7_lot 1 = some (.getfield 29, 4) := by decide +kernel
theorem dX7_lot_4 : dcd cX7_lot 4 = some (.getfield 82, 7) := by decide +kernel
theorem dX7_lot_7 : dcd cX7_lot 7 = some (.istore_n 2, 8) := by decide +kernel
theorem dX7_lot_8 : dcd cX7_lot 8 = some (.aload_n 0, 9) := by decide +kernel
theorem dX7_lot_9 : dcd cX7_lot 9 = some (.getfield 29, 12) := by decide +kernel
theorem dX7_lot_12 : dcd cX7_lot 12 = some (.iload_n 1, 13) := by decide +kernel
theorem dX7_lot_13 : dcd cX7_lot 13 = some (.putfield 82, 16) := by decide +kernel
theorem dX7_lot_16 : dcd cX7_lot 16 = some (.iload_n 2, 17) := by decide +kernel
theorem dX7_lot_17 : dcd cX7_lot 17 = some (.ireturn, 18) := by decide +kernel
theorem dX7_rate_0 : dcd cX7_rate 0 = some (.aload_n 0, 1) := by decide +kernel
theorem dX7_rate_1 : dcd cX7_rate 1 = some (.iload_n 2, 2) := by decide +kernel
theorem dX7_rate_2 : dcd cX7_rate 2 = some (.invokevirtual 106, 5) := by decide +kernel
theorem dX7_rate_5 : dcd cX7_rate 5 = some (.ifCond .ne 7, 8) := by decide +kernel
theorem dX7_rate_8 : dcd cX7_rate 8 = some (.ldc_w 256, 11) := by decide +kernel
theorem dX7_rate_11 : dcd cX7_rate 11 = some (.ireturn, 12) := by decide +kernel
theorem dX7_rate_12 : dcd cX7_rate 12 = some (.aload_n 0, 13) := by decide +kernel
theorem dX7_rate_13 : dcd cX7_rate 13 = some (.getfield 19, 16) := by decide +kernel
theorem dX7_rate_16 : dcd cX7_rate 16 = some (.getfield 110, 19) := by decide +kernel
theorem dX7_rate_19 : dcd cX7_rate 19 = some (.iload_n 2, 20) := by decide +kernel
theorem dX7_rate_20 : dcd cX7_rate 20 = some (.aaload, 21) := by decide +kernel
theorem dX7_rate_21 : dcd cX7_rate 21 = some (.astore_n 3, 22) := by decide +kernel
theorem dX7_rate_22 : dcd cX7_rate 22 = some (.iload_n 1, 23) := by decide +kernel
theorem dX7_rate_23 : dcd cX7_rate 23 = some (.tableswitch 73 0 5 #[37, 43, 49, 55, 61, 67], 60) := by decide +kernel
theorem dX7_rate_60 : dcd cX7_rate 60 = some (.aload_n 0, 61) := by decide +kernel
theorem dX7_rate_61 : dcd cX7_rate 61 = some (.aload_n 3, 62) := by decide +kernel
theorem dX7_rate_62 : dcd cX7_rate 62 = some (.invokevirtual 289, 65) := by decide +kernel
theorem dX7_rate_65 : dcd cX7_rate 65 = some (.ireturn, 66) := by decide +kernel
theorem dX7_rate_66 : dcd cX7_rate 66 = some (.aload_n 0, 67) := by decide +kernel
theorem dX7_rate_67 : dcd cX7_rate 67 = some (.aload_n 3, 68) := by decide +kernel
theorem dX7_rate_68 : dcd cX7_rate 68 = some (.invokevirtual 293, 71) := by decide +kernel
theorem dX7_rate_71 : dcd cX7_rate 71 = some (.ireturn, 72) := by decide +kernel
theorem dX7_rate_72 : dcd cX7_rate 72 = some (.aload_n 0, 73) := by decide +kernel
theorem dX7_rate_73 : dcd cX7_rate 73 = some (.aload_n 3, 74) := by decide +kernel
theorem dX7_rate_74 : dcd cX7_rate 74 = some (.invokevirtual 296, 77) := by decide +kernel
theorem dX7_rate_77 : dcd cX7_rate 77 = some (.ireturn, 78) := by decide +kernel
theorem dX7_rate_78 : dcd cX7_rate 78 = some (.aload_n 0, 79) := by decide +kernel
theorem dX7_rate_79 : dcd cX7_rate 79 = some (.aload_n 3, 80) := by decide +kernel
theorem dX7_rate_80 : dcd cX7_rate 80 = some (.invokevirtual 299, 83) := by decide +kernel
theorem dX7_rate_83 : dcd cX7_rate 83 = some (.ireturn, 84) := by decide +kernel
theorem dX7_rate_84 : dcd cX7_rate 84 = some (.aload_n 0, 85) := by decide +kernel
theorem dX7_rate_85 : dcd cX7_rate 85 = some (.aload_n 3, 86) := by decide +kernel
theorem dX7_rate_86 : dcd cX7_rate 86 = some (.invokevirtual 302, 89) := by decide +kernel
theorem dX7_rate_89 : dcd cX7_rate 89 = some (.ireturn, 90) := by decide +kernel
theorem dX7_rate_90 : dcd cX7_rate 90 = some (.aload_n 0, 91) := by decide +kernel
theorem dX7_rate_91 : dcd cX7_rate 91 = some (.aload_n 3, 92) := by decide +kernel
theorem dX7_rate_92 : dcd cX7_rate 92 = some (.invokevirtual 305, 95) := by decide +kernel
theorem dX7_rate_95 : dcd cX7_rate 95 = some (.ireturn, 96) := by decide +kernel
theorem dX7_rate_96 : dcd cX7_rate 96 = some (.ldc_w 256, 99) := by decide +kernel
theorem dX7_rate_99 : dcd cX7_rate 99 = some (.ireturn, 100) := by decide +kernel
theorem dX7_keep_0 : dcd cX7_keep 0 = some (.iload_n 1, 1) := by decide +kernel
theorem dX7_keep_1 : dcd cX7_keep 1 = some (.ifCond .lt 8, 4) := by decide +kernel
theorem dX7_keep_4 : dcd cX7_keep 4 = some (.iload_n 1, 5) := by decide +kernel
theorem dX7_keep_5 : dcd cX7_keep 5 = some (.iconst 2, 6) := by decide +kernel
theorem dX7_keep_6 : dcd cX7_keep 6 = some (.if_icmp .lt 5, 9) := by decide +kernel
theorem dX7_keep_9 : dcd cX7_keep 9 = some (.iconst (-1), 10) := by decide +kernel
theorem dX7_keep_10 : dcd cX7_keep 10 = some (.ireturn, 11) := by decide +kernel
theorem dX7_keep_11 : dcd cX7_keep 11 = some (.aload_n 0, 12) := by decide +kernel
theorem dX7_keep_12 : dcd cX7_keep 12 = some (.getfield 33, 15) := by decide +kernel
theorem dX7_keep_15 : dcd cX7_keep 15 = some (.iload_n 1, 16) := by decide +kernel
theorem dX7_keep_16 : dcd cX7_keep 16 = some (.aaload, 17) := by decide +kernel
theorem dX7_keep_17 : dcd cX7_keep 17 = some (.aload_n 0, 18) := by decide +kernel
theorem dX7_keep_18 : dcd cX7_keep 18 = some (.getfield 29, 21) := by decide +kernel
theorem dX7_keep_21 : dcd cX7_keep 21 = some (.invokevirtual 308, 24) := by decide +kernel
theorem dX7_keep_24 : dcd cX7_keep 24 = some (.aload_n 0, 25) := by decide +kernel
theorem dX7_keep_25 : dcd cX7_keep 25 = some (.getfield 33, 28) := by decide +kernel
theorem dX7_keep_28 : dcd cX7_keep 28 = some (.iload_n 1, 29) := by decide +kernel
theorem dX7_keep_29 : dcd cX7_keep 29 = some (.aaload, 30) := by decide +kernel
theorem dX7_keep_30 : dcd cX7_keep 30 = some (.iconst 1, 31) := by decide +kernel
theorem dX7_keep_31 : dcd cX7_keep 31 = some (.putfield 103, 34) := by decide +kernel
theorem dX7_keep_34 : dcd cX7_keep 34 = some (.aload_n 0, 35) := by decide +kernel
theorem dX7_keep_35 : dcd cX7_keep 35 = some (.getfield 29, 38) := by decide +kernel
theorem dX7_keep_38 : dcd cX7_keep 38 = some (.getfield 159, 41) := by decide +kernel
theorem dX7_keep_41 : dcd cX7_keep 41 = some (.ireturn, 42) := by decide +kernel
theorem dX7_back_0 : dcd cX7_back 0 = some (.iload_n 1, 1) := by decide +kernel
theorem dX7_back_1 : dcd cX7_back 1 = some (.ifCond .lt 8, 4) := by decide +kernel
theorem dX7_back_4 : dcd cX7_back 4 = some (.iload_n 1, 5) := by decide +kernel
theorem dX7_back_5 : dcd cX7_back 5 = some (.iconst 2, 6) := by decide +kernel
theorem dX7_back_6 : dcd cX7_back 6 = some (.if_icmp .lt 5, 9) := by decide +kernel
theorem dX7_back_9 : dcd cX7_back 9 = some (.iconst (-1), 10) := by decide +kernel
theorem dX7_back_10 : dcd cX7_back 10 = some (.ireturn, 11) := by decide +kernel
theorem dX7_back_11 : dcd cX7_back 11 = some (.aload_n 0, 12) := by decide +kernel
theorem dX7_back_12 : dcd cX7_back 12 = some (.getfield 33, 15) := by decide +kernel
theorem dX7_back_15 : dcd cX7_back 15 = some (.iload_n 1, 16) := by decide +kernel
theorem dX7_back_16 : dcd cX7_back 16 = some (.aaload, 17) := by decide +kernel
theorem dX7_back_17 : dcd cX7_back 17 = some (.getfield 103, 20) := by decide +kernel
theorem dX7_back_20 : dcd cX7_back 20 = some (.ifCond .ne 6, 23) := by decide +kernel
theorem dX7_back_23 : dcd cX7_back 23 = some (.bipush (-2), 25) := by decide +kernel
theorem dX7_back_25 : dcd cX7_back 25 = some (.ireturn, 26) := by decide +kernel
theorem dX7_back_26 : dcd cX7_back 26 = some (.aload_n 0, 27) := by decide +kernel
theorem dX7_back_27 : dcd cX7_back 27 = some (.getfield 29, 30) := by decide +kernel
theorem dX7_back_30 : dcd cX7_back 30 = some (.aload_n 0, 31) := by decide +kernel
theorem dX7_back_31 : dcd cX7_back 31 = some (.getfield 33, 34) := by decide +kernel
theorem dX7_back_34 : dcd cX7_back 34 = some (.iload_n 1, 35) := by decide +kernel
theorem dX7_back_35 : dcd cX7_back 35 = some (.aaload, 36) := by decide +kernel
theorem dX7_back_36 : dcd cX7_back 36 = some (.invokevirtual 308, 39) := by decide +kernel
theorem dX7_back_39 : dcd cX7_back 39 = some (.aload_n 0, 40) := by decide +kernel
theorem dX7_back_40 : dcd cX7_back 40 = some (.iconst 0, 41) := by decide +kernel
theorem dX7_back_41 : dcd cX7_back 41 = some (.putfield 74, 44) := by decide +kernel
theorem dX7_back_44 : dcd cX7_back 44 = some (.aload_n 0, 45) := by decide +kernel
theorem dX7_back_45 : dcd cX7_back 45 = some (.getfield 29, 48) := by decide +kernel
theorem dX7_back_48 : dcd cX7_back 48 = some (.getfield 159, 51) := by decide +kernel
theorem dX7_back_51 : dcd cX7_back 51 = some (.ireturn, 52) := by decide +kernel
theorem dX7_count_0 : dcd cX7_count 0 = some (.iload_n 1, 1) := by decide +kernel
theorem dX7_count_1 : dcd cX7_count 1 = some (.tableswitch 75 0 4 #[35, 43, 51, 59, 67], 36) := by decide +kernel
theorem dX7_count_36 : dcd cX7_count 36 = some (.aload_n 0, 37) := by decide +kernel
theorem dX7_count_37 : dcd cX7_count 37 = some (.getfield 19, 40) := by decide +kernel
theorem dX7_count_40 : dcd cX7_count 40 = some (.getfield 266, 43) := by decide +kernel
theorem dX7_count_43 : dcd cX7_count 43 = some (.ireturn, 44) := by decide +kernel
theorem dX7_count_44 : dcd cX7_count 44 = some (.aload_n 0, 45) := by decide +kernel
theorem dX7_count_45 : dcd cX7_count 45 = some (.getfield 29, 48) := by decide +kernel
theorem dX7_count_48 : dcd cX7_count 48 = some (.getfield 159, 51) := by decide +kernel
theorem dX7_count_51 : dcd cX7_count 51 = some (.ireturn, 52) := by decide +kernel
theorem dX7_count_52 : dcd cX7_count 52 = some (.aload_n 0, 53) := by decide +kernel
theorem dX7_count_53 : dcd cX7_count 53 = some (.getfield 29, 56) := by decide +kernel
theorem dX7_count_56 : dcd cX7_count 56 = some (.getfield 162, 59) := by decide +kernel
theorem dX7_count_59 : dcd cX7_count 59 = some (.ireturn, 60) := by decide +kernel
theorem dX7_count_60 : dcd cX7_count 60 = some (.aload_n 0, 61) := by decide +kernel
theorem dX7_count_61 : dcd cX7_count 61 = some (.getfield 57, 64) := by decide +kernel
theorem dX7_count_64 : dcd cX7_count 64 = some (.getfield 249, 67) := by decide +kernel
theorem dX7_count_67 : dcd cX7_count 67 = some (.ireturn, 68) := by decide +kernel
theorem dX7_count_68 : dcd cX7_count 68 = some (.aload_n 0, 69) := by decide +kernel
theorem dX7_count_69 : dcd cX7_count 69 = some (.getfield 10, 72) := by decide +kernel
theorem dX7_count_72 : dcd cX7_count 72 = some (.getfield 86, 75) := by decide +kernel
theorem dX7_count_75 : dcd cX7_count 75 = some (.ireturn, 76) := by decide +kernel
theorem dX7_count_76 : dcd cX7_count 76 = some (.iconst (-1), 77) := by decide +kernel
theorem dX7_count_77 : dcd cX7_count 77 = some (.ireturn, 78) := by decide +kernel
theorem dX7_trace_0 : dcd cX7_trace 0 = some (.aload_n 0, 1) := by decide +kernel
theorem dX7_trace_1 : dcd cX7_trace 1 = some (.getfield 78, 4) := by decide +kernel
theorem dX7_trace_4 : dcd cX7_trace 4 = some (.lreturn, 5) := by decide +kernel
theorem dX7_isAct_0 : dcd cX7_isAct 0 = some (.iload_n 1, 1) := by decide +kernel
theorem dX7_isAct_1 : dcd cX7_isAct 1 = some (.ifCond .lt 18, 4) := by decide +kernel
theorem dX7_isAct_4 : dcd cX7_isAct 4 = some (.iload_n 1, 5) := by decide +kernel
theorem dX7_isAct_5 : dcd cX7_isAct 5 = some (.aload_n 0, 6) := by decide +kernel
theorem dX7_isAct_6 : dcd cX7_isAct 6 = some (.getfield 19, 9) := by decide +kernel
theorem dX7_isAct_9 : dcd cX7_isAct 9 = some (.getfield 266, 12) := by decide +kernel
theorem dX7_isAct_12 : dcd cX7_isAct 12 = some (.if_icmp .ge 7, 15) := by decide +kernel
theorem dX7_isAct_15 : dcd cX7_isAct 15 = some (.iconst 1, 16) := by decide +kernel
theorem dX7_isAct_16 : dcd cX7_isAct 16 = some (.goto 4, 19) := by decide +kernel
theorem dX7_isAct_19 : dcd cX7_isAct 19 = some (.iconst 0, 20) := by decide +kernel
theorem dX7_isAct_20 : dcd cX7_isAct 20 = some (.ireturn, 21) := by decide +kernel
theorem dX7_play_0 : dcd cX7_play 0 = some (.aload_n 0, 1) := by decide +kernel
theorem dX7_play_1 : dcd cX7_play 1 = some (.getfield 40, 4) := by decide +kernel
theorem dX7_play_4 : dcd cX7_play 4 = some (.aload_n 0, 5) := by decide +kernel
theorem dX7_play_5 : dcd cX7_play 5 = some (.getfield 29, 8) := by decide +kernel
theorem dX7_play_8 : dcd cX7_play 8 = some (.getfield 159, 11) := by decide +kernel
theorem dX7_play_11 : dcd cX7_play 11 = some (.iload_n 2, 12) := by decide +kernel
theorem dX7_play_12 : dcd cX7_play 12 = some (.invokevirtual 276, 15) := by decide +kernel
theorem dX7_play_15 : dcd cX7_play 15 = some (.iconst 0, 16) := by decide +kernel
theorem dX7_play_16 : dcd cX7_play 16 = some (.istore_n 3, 17) := by decide +kernel
theorem dX7_play_17 : dcd cX7_play 17 = some (.iload_n 3, 18) := by decide +kernel
theorem dX7_play_18 : dcd cX7_play 18 = some (.aload_n 0, 19) := by decide +kernel
theorem dX7_play_19 : dcd cX7_play 19 = some (.getfield 29, 22) := by decide +kernel
theorem dX7_play_22 : dcd cX7_play 22 = some (.getfield 159, 25) := by decide +kernel
theorem dX7_play_25 : dcd cX7_play 25 = some (.if_icmp .ge 37, 28) := by decide +kernel
theorem dX7_play_28 : dcd cX7_play 28 = some (.aload_n 0, 29) := by decide +kernel
theorem dX7_play_29 : dcd cX7_play 29 = some (.getfield 40, 32) := by decide +kernel
theorem dX7_play_32 : dcd cX7_play 32 = some (.iload_n 3, 33) := by decide +kernel
theorem dX7_play_33 : dcd cX7_play 33 = some (.aload_n 0, 34) := by decide +kernel
theorem dX7_play_34 : dcd cX7_play 34 = some (.getfield 19, 37) := by decide +kernel
theorem dX7_play_37 : dcd cX7_play 37 = some (.getfield 110, 40) := by decide +kernel
theorem dX7_play_40 : dcd cX7_play 40 = some (.aload_n 1, 41) := by decide +kernel
theorem dX7_play_41 : dcd cX7_play 41 = some (.iload_n 3, 42) := by decide +kernel
theorem dX7_play_42 : dcd cX7_play 42 = some (.iaload, 43) := by decide +kernel
theorem dX7_play_43 : dcd cX7_play 43 = some (.aaload, 44) := by decide +kernel
theorem dX7_play_44 : dcd cX7_play 44 = some (.invokevirtual 279, 47) := by decide +kernel
theorem dX7_play_47 : dcd cX7_play 47 = some (.aload_n 0, 48) := by decide +kernel
theorem dX7_play_48 : dcd cX7_play 48 = some (.getfield 40, 51) := by decide +kernel
theorem dX7_play_51 : dcd cX7_play 51 = some (.iload_n 3, 52) := by decide +kernel
theorem dX7_play_52 : dcd cX7_play 52 = some (.iconst 0, 53) := by decide +kernel
theorem dX7_play_53 : dcd cX7_play 53 = some (.invokevirtual 286, 56) := by decide +kernel
theorem dX7_play_56 : dcd cX7_play 56 = some (.iinc 3 1, 59) := by decide +kernel
theorem dX7_play_59 : dcd cX7_play 59 = some (.goto (-42), 62) := by decide +kernel
theorem dX7_play_62 : dcd cX7_play 62 = some (.return_, 63) := by decide +kernel
theorem dX7_playWithGuest_0 : dcd cX7_playWithGuest 0 = some (.aload_n 0, 1) := by decide +kernel
theorem dX7_playWithGuest_1 : dcd cX7_playWithGuest 1 = some (.getfield 29, 4) := by decide +kernel
theorem dX7_playWithGuest_4 : dcd cX7_playWithGuest 4 = some (.getfield 162, 7) := by decide +kernel
theorem dX7_playWithGuest_7 : dcd cX7_playWithGuest 7 = some (.iload_n 1, 8) := by decide +kernel
theorem dX7_playWithGuest_8 : dcd cX7_playWithGuest 8 = some (.if_icmp .le 15, 11) := by decide +kernel
theorem dX7_playWithGuest_11 : dcd cX7_playWithGuest 11 = some (.aload_n 0, 12) := by decide +kernel
theorem dX7_playWithGuest_12 : dcd cX7_playWithGuest 12 = some (.getfield 29, 15) := by decide +kernel
theorem dX7_playWithGuest_15 : dcd cX7_playWithGuest 15 = some (.getfield 162, 18) := by decide +kernel
theorem dX7_playWithGuest_18 : dcd cX7_playWithGuest 18 = some (.iconst 1, 19) := by decide +kernel
theorem dX7_playWithGuest_19 : dcd cX7_playWithGuest 19 = some (.iadd, 20) := by decide +kernel
theorem dX7_playWithGuest_20 : dcd cX7_playWithGuest 20 = some (.goto 10, 23) := by decide +kernel
theorem dX7_playWithGuest_23 : dcd cX7_playWithGuest 23 = some (.aload_n 0, 24) := by decide +kernel
theorem dX7_playWithGuest_24 : dcd cX7_playWithGuest 24 = some (.getfield 29, 27) := by decide +kernel
theorem dX7_playWithGuest_27 : dcd cX7_playWithGuest 27 = some (.getfield 162, 30) := by decide +kernel
theorem dX7_playWithGuest_30 : dcd cX7_playWithGuest 30 = some (.istore_n 2, 31) := by decide +kernel
theorem dX7_playWithGuest_31 : dcd cX7_playWithGuest 31 = some (.aload_n 0, 32) := by decide +kernel
theorem dX7_playWithGuest_32 : dcd cX7_playWithGuest 32 = some (.getfield 40, 35) := by decide +kernel
theorem dX7_playWithGuest_35 : dcd cX7_playWithGuest 35 = some (.aload_n 0, 36) := by decide +kernel
theorem dX7_playWithGuest_36 : dcd cX7_playWithGuest 36 = some (.getfield 29, 39) := by decide +kernel
theorem dX7_playWithGuest_39 : dcd cX7_playWithGuest 39 = some (.getfield 159, 42) := by decide +kernel
theorem dX7_playWithGuest_42 : dcd cX7_playWithGuest 42 = some (.iconst 1, 43) := by decide +kernel
theorem dX7_playWithGuest_43 : dcd cX7_playWithGuest 43 = some (.iadd, 44) := by decide +kernel
theorem dX7_playWithGuest_44 : dcd cX7_playWithGuest 44 = some (.iload_n 2, 45) := by decide +kernel
theorem dX7_playWithGuest_45 : dcd cX7_playWithGuest 45 = some (.invokevirtual 276, 48) := by decide +kernel
theorem dX7_playWithGuest_48 : dcd cX7_playWithGuest 48 = some (.iconst 0, 49) := by decide +kernel
theorem dX7_playWithGuest_49 : dcd cX7_playWithGuest 49 = some (.istore_n 3, 50) := by decide +kernel
theorem dX7_playWithGuest_50 : dcd cX7_playWithGuest 50 = some (.iload_n 3, 51) := by decide +kernel
theorem dX7_playWithGuest_51 : dcd cX7_playWithGuest 51 = some (.iload_n 1, 52) := by decide +kernel
theorem dX7_playWithGuest_52 : dcd cX7_playWithGuest 52 = some (.if_icmp .ge 43, 55) := by decide +kernel
theorem dX7_playWithGuest_55 : dcd cX7_playWithGuest 55 = some (.aload_n 0, 56) := by decide +kernel
theorem dX7_playWithGuest_56 : dcd cX7_playWithGuest 56 = some (.getfield 40, 59) := by decide +kernel
theorem dX7_playWithGuest_59 : dcd cX7_playWithGuest 59 = some (.iload_n 3, 60) := by decide +kernel
theorem dX7_playWithGuest_60 : dcd cX7_playWithGuest 60 = some (.aload_n 0, 61) := by decide +kernel
theorem dX7_playWithGuest_61 : dcd cX7_playWithGuest 61 = some (.getfield 19, 64) := by decide +kernel
theorem dX7_playWithGuest_64 : dcd cX7_playWithGuest 64 = some (.getfield 110, 67) := by decide +kernel
theorem dX7_playWithGuest_67 : dcd cX7_playWithGuest 67 = some (.aload_n 0, 68) := by decide +kernel
theorem dX7_playWithGuest_68 : dcd cX7_playWithGuest 68 = some (.getfield 29, 71) := by decide +kernel
theorem dX7_playWithGuest_71 : dcd cX7_playWithGuest 71 = some (.getfield 168, 74) := by decide +kernel
theorem dX7_playWithGuest_74 : dcd cX7_playWithGuest 74 = some (.iload_n 3, 75) := by decide +kernel
theorem dX7_playWithGuest_75 : dcd cX7_playWithGuest 75 = some (.iaload, 76) := by decide +kernel
theorem dX7_playWithGuest_76 : dcd cX7_playWithGuest 76 = some (.aaload, 77) := by decide +kernel
theorem dX7_playWithGuest_77 : dcd cX7_playWithGuest 77 = some (.invokevirtual 279, 80) := by decide +kernel
theorem dX7_playWithGuest_80 : dcd cX7_playWithGuest 80 = some (.aload_n 0, 81) := by decide +kernel
theorem dX7_playWithGuest_81 : dcd cX7_playWithGuest 81 = some (.getfield 40, 84) := by decide +kernel
theorem dX7_playWithGuest_84 : dcd cX7_playWithGuest 84 = some (.iload_n 3, 85) := by decide +kernel
theorem dX7_playWithGuest_85 : dcd cX7_playWithGuest 85 = some (.iconst 0, 86) := by decide +kernel
theorem dX7_playWithGuest_86 : dcd cX7_playWithGuest 86 = some (.invokevirtual 286, 89) := by decide +kernel
theorem dX7_playWithGuest_89 : dcd cX7_playWithGuest 89 = some (.iinc 3 1, 92) := by decide +kernel
theorem dX7_playWithGuest_92 : dcd cX7_playWithGuest 92 = some (.goto (-42), 95) := by decide +kernel
theorem dX7_playWithGuest_95 : dcd cX7_playWithGuest 95 = some (.aload_n 0, 96) := by decide +kernel
theorem dX7_playWithGuest_96 : dcd cX7_playWithGuest 96 = some (.getfield 40, 99) := by decide +kernel
theorem dX7_playWithGuest_99 : dcd cX7_playWithGuest 99 = some (.iload_n 1, 100) := by decide +kernel
theorem dX7_playWithGuest_100 : dcd cX7_playWithGuest 100 = some (.aload_n 0, 101) := by decide +kernel
theorem dX7_playWithGuest_101 : dcd cX7_playWithGuest 101 = some (.getfield 66, 104) := by decide +kernel
theorem dX7_playWithGuest_104 : dcd cX7_playWithGuest 104 = some (.invokevirtual 279, 107) := by decide +kernel
theorem dX7_playWithGuest_107 : dcd cX7_playWithGuest 107 = some (.aload_n 0, 108) := by decide +kernel
theorem dX7_playWithGuest_108 : dcd cX7_playWithGuest 108 = some (.getfield 40, 111) := by decide +kernel
theorem dX7_playWithGuest_111 : dcd cX7_playWithGuest 111 = some (.iload_n 1, 112) := by decide +kernel
theorem dX7_playWithGuest_112 : dcd cX7_playWithGuest 112 = some (.iconst 0, 113) := by decide +kernel
theorem dX7_playWithGuest_113 : dcd cX7_playWithGuest 113 = some (.invokevirtual 286, 116) := by decide +kernel
theorem dX7_playWithGuest_116 : dcd cX7_playWithGuest 116 = some (.iload_n 1, 117) := by decide +kernel
theorem dX7_playWithGuest_117 : dcd cX7_playWithGuest 117 = some (.istore_n 3, 118) := by decide +kernel
theorem dX7_playWithGuest_118 : dcd cX7_playWithGuest 118 = some (.iload_n 3, 119) := by decide +kernel
theorem dX7_playWithGuest_119 : dcd cX7_playWithGuest 119 = some (.aload_n 0, 120) := by decide +kernel
theorem dX7_playWithGuest_120 : dcd cX7_playWithGuest 120 = some (.getfield 29, 123) := by decide +kernel
theorem dX7_playWithGuest_123 : dcd cX7_playWithGuest 123 = some (.getfield 159, 126) := by decide +kernel
theorem dX7_playWithGuest_126 : dcd cX7_playWithGuest 126 = some (.if_icmp .ge 47, 129) := by decide +kernel
theorem dX7_playWithGuest_129 : dcd cX7_playWithGuest 129 = some (.aload_n 0, 130) := by decide +kernel
theorem dX7_playWithGuest_130 : dcd cX7_playWithGuest 130 = some (.getfield 40, 133) := by decide +kernel
theorem dX7_playWithGuest_133 : dcd cX7_playWithGuest 133 = some (.iload_n 3, 134) := by decide +kernel
theorem dX7_playWithGuest_134 : dcd cX7_playWithGuest 134 = some (.iconst 1, 135) := by decide +kernel
theorem dX7_playWithGuest_135 : dcd cX7_playWithGuest 135 = some (.iadd, 136) := by decide +kernel
theorem dX7_playWithGuest_136 : dcd cX7_playWithGuest 136 = some (.aload_n 0, 137) := by decide +kernel
theorem dX7_playWithGuest_137 : dcd cX7_playWithGuest 137 = some (.getfield 19, 140) := by decide +kernel
theorem dX7_playWithGuest_140 : dcd cX7_playWithGuest 140 = some (.getfield 110, 143) := by decide +kernel
theorem dX7_playWithGuest_143 : dcd cX7_playWithGuest 143 = some (.aload_n 0, 144) := by decide +kernel
theorem dX7_playWithGuest_144 : dcd cX7_playWithGuest 144 = some (.getfield 29, 147) := by decide +kernel
theorem dX7_playWithGuest_147 : dcd cX7_playWithGuest 147 = some (.getfield 168, 150) := by decide +kernel
theorem dX7_playWithGuest_150 : dcd cX7_playWithGuest 150 = some (.iload_n 3, 151) := by decide +kernel
theorem dX7_playWithGuest_151 : dcd cX7_playWithGuest 151 = some (.iaload, 152) := by decide +kernel
theorem dX7_playWithGuest_152 : dcd cX7_playWithGuest 152 = some (.aaload, 153) := by decide +kernel
theorem dX7_playWithGuest_153 : dcd cX7_playWithGuest 153 = some (.invokevirtual 279, 156) := by decide +kernel
theorem dX7_playWithGuest_156 : dcd cX7_playWithGuest 156 = some (.aload_n 0, 157) := by decide +kernel
theorem dX7_playWithGuest_157 : dcd cX7_playWithGuest 157 = some (.getfield 40, 160) := by decide +kernel
theorem dX7_playWithGuest_160 : dcd cX7_playWithGuest 160 = some (.iload_n 3, 161) := by decide +kernel
theorem dX7_playWithGuest_161 : dcd cX7_playWithGuest 161 = some (.iconst 1, 162) := by decide +kernel
theorem dX7_playWithGuest_162 : dcd cX7_playWithGuest 162 = some (.iadd, 163) := by decide +kernel
theorem dX7_playWithGuest_163 : dcd cX7_playWithGuest 163 = some (.iconst 0, 164) := by decide +kernel
theorem dX7_playWithGuest_164 : dcd cX7_playWithGuest 164 = some (.invokevirtual 286, 167) := by decide +kernel
theorem dX7_playWithGuest_167 : dcd cX7_playWithGuest 167 = some (.iinc 3 1, 170) := by decide +kernel
theorem dX7_playWithGuest_170 : dcd cX7_playWithGuest 170 = some (.goto (-52), 173) := by decide +kernel
theorem dX7_playWithGuest_173 : dcd cX7_playWithGuest 173 = some (.return_, 174) := by decide +kernel
theorem dX7_lineUp_0 : dcd cX7_lineUp 0 = some (.iconst 0, 1) := by decide +kernel
theorem dX7_lineUp_1 : dcd cX7_lineUp 1 = some (.istore_n 2, 2) := by decide +kernel
theorem dX7_lineUp_2 : dcd cX7_lineUp 2 = some (.iconst 0, 3) := by decide +kernel
theorem dX7_lineUp_3 : dcd cX7_lineUp 3 = some (.istore_n 3, 4) := by decide +kernel
theorem dX7_lineUp_4 : dcd cX7_lineUp 4 = some (.iload_n 3, 5) := by decide +kernel
theorem dX7_lineUp_5 : dcd cX7_lineUp 5 = some (.aload_n 0, 6) := by decide +kernel
theorem dX7_lineUp_6 : dcd cX7_lineUp 6 = some (.getfield 19, 9) := by decide +kernel
theorem dX7_lineUp_9 : dcd cX7_lineUp 9 = some (.getfield 266, 12) := by decide +kernel
theorem dX7_lineUp_12 : dcd cX7_lineUp 12 = some (.if_icmp .ge 37, 15) := by decide +kernel
theorem dX7_lineUp_15 : dcd cX7_lineUp 15 = some (.iload_n 3, 16) := by decide +kernel
theorem dX7_lineUp_16 : dcd cX7_lineUp 16 = some (.iload_n 1, 17) := by decide +kernel
theorem dX7_lineUp_17 : dcd cX7_lineUp 17 = some (.if_icmp .eq 26, 20) := by decide +kernel
theorem dX7_lineUp_20 : dcd cX7_lineUp 20 = some (.aload_n 0, 21) := by decide +kernel
theorem dX7_lineUp_21 : dcd cX7_lineUp 21 = some (.getfield 29, 24) := by decide +kernel
theorem dX7_lineUp_24 : dcd cX7_lineUp 24 = some (.iload_n 3, 25) := by decide +kernel
theorem dX7_lineUp_25 : dcd cX7_lineUp 25 = some (.invokevirtual 153, 28) := by decide +kernel
theorem dX7_lineUp_28 : dcd cX7_lineUp 28 = some (.bipush (-9), 30) := by decide +kernel
theorem dX7_lineUp_30 : dcd cX7_lineUp 30 = some (.if_icmp .eq 13, 33) := by decide +kernel
theorem dX7_lineUp_33 : dcd cX7_lineUp 33 = some (.aload_n 0, 34) := by decide +kernel
theorem dX7_lineUp_34 : dcd cX7_lineUp 34 = some (.getfield 70, 37) := by decide +kernel
theorem dX7_lineUp_37 : dcd cX7_lineUp 37 = some (.iload_n 2, 38) := by decide +kernel
theorem dX7_lineUp_38 : dcd cX7_lineUp 38 = some (.iload_n 3, 39) := by decide +kernel
theorem dX7_lineUp_39 : dcd cX7_lineUp 39 = some (.iastore, 40) := by decide +kernel
theorem dX7_lineUp_40 : dcd cX7_lineUp 40 = some (.iinc 2 1, 43) := by decide +kernel
theorem dX7_lineUp_43 : dcd cX7_lineUp 43 = some (.iinc 3 1, 46) := by decide +kernel
theorem dX7_lineUp_46 : dcd cX7_lineUp 46 = some (.goto (-42), 49) := by decide +kernel
theorem dX7_lineUp_49 : dcd cX7_lineUp 49 = some (.iload_n 2, 50) := by decide +kernel
theorem dX7_lineUp_50 : dcd cX7_lineUp 50 = some (.ireturn, 51) := by decide +kernel
theorem dX7_searchBest_0 : dcd cX7_searchBest 0 = some (.aload_n 0, 1) := by decide +kernel
theorem dX7_searchBest_1 : dcd cX7_searchBest 1 = some (.getfield 74, 4) := by decide +kernel
theorem dX7_searchBest_4 : dcd cX7_searchBest 4 = some (.ifCond .eq 4, 7) := by decide +kernel
theorem dX7_searchBest_7 : dcd cX7_searchBest 7 = some (.return_, 8) := by decide +kernel
theorem dX7_searchBest_8 : dcd cX7_searchBest 8 = some (.aload_n 0, 9) := by decide +kernel
theorem dX7_searchBest_9 : dcd cX7_searchBest 9 = some (.bipush (-9), 11) := by decide +kernel
theorem dX7_searchBest_11 : dcd cX7_searchBest 11 = some (.invokevirtual 218, 14) := by decide +kernel
theorem dX7_searchBest_14 : dcd cX7_searchBest 14 = some (.istore_n 1, 15) := by decide +kernel
theorem dX7_searchBest_15 : dcd cX7_searchBest 15 = some (.aload_n 0, 16) := by decide +kernel
theorem dX7_searchBest_16 : dcd cX7_searchBest 16 = some (.getfield 47, 19) := by decide +kernel
theorem dX7_searchBest_19 : dcd cX7_searchBest 19 = some (.iload_n 1, 20) := by decide +kernel
theorem dX7_searchBest_20 : dcd cX7_searchBest 20 = some (.invokevirtual 312, 23) := by decide +kernel
theorem dX7_searchBest_23 : dcd cX7_searchBest 23 = some (.iconst 0, 24) := by decide +kernel
theorem dX7_searchBest_24 : dcd cX7_searchBest 24 = some (.istore_n 2, 25) := by decide +kernel
theorem dX7_searchBest_25 : dcd cX7_searchBest 25 = some (.iload_n 2, 26) := by decide +kernel
theorem dX7_searchBest_26 : dcd cX7_searchBest 26 = some (.iload_n 1, 27) := by decide +kernel
theorem dX7_searchBest_27 : dcd cX7_searchBest 27 = some (.if_icmp .ge 43, 30) := by decide +kernel
theorem dX7_searchBest_30 : dcd cX7_searchBest 30 = some (.aload_n 0, 31) := by decide +kernel
theorem dX7_searchBest_31 : dcd cX7_searchBest 31 = some (.getfield 47, 34) := by decide +kernel
theorem dX7_searchBest_34 : dcd cX7_searchBest 34 = some (.getfield 315, 37) := by decide +kernel
theorem dX7_searchBest_37 : dcd cX7_searchBest 37 = some (.iload_n 2, 38) := by decide +kernel
theorem dX7_searchBest_38 : dcd cX7_searchBest 38 = some (.aload_n 0, 39) := by decide +kernel
theorem dX7_searchBest_39 : dcd cX7_searchBest 39 = some (.getfield 19, 42) := by decide +kernel
theorem dX7_searchBest_42 : dcd cX7_searchBest 42 = some (.getfield 110, 45) := by decide +kernel
theorem dX7_searchBest_45 : dcd cX7_searchBest 45 = some (.aload_n 0, 46) := by decide +kernel
theorem dX7_searchBest_46 : dcd cX7_searchBest 46 = some (.getfield 70, 49) := by decide +kernel
theorem dX7_searchBest_49 : dcd cX7_searchBest 49 = some (.iload_n 2, 50) := by decide +kernel
theorem dX7_searchBest_50 : dcd cX7_searchBest 50 = some (.iaload, 51) := by decide +kernel
theorem dX7_searchBest_51 : dcd cX7_searchBest 51 = some (.aaload, 52) := by decide +kernel
theorem dX7_searchBest_52 : dcd cX7_searchBest 52 = some (.aastore, 53) := by decide +kernel
theorem dX7_searchBest_53 : dcd cX7_searchBest 53 = some (.aload_n 0, 54) := by decide +kernel
theorem dX7_searchBest_54 : dcd cX7_searchBest 54 = some (.getfield 47, 57) := by decide +kernel
theorem dX7_searchBest_57 : dcd cX7_searchBest 57 = some (.getfield 318, 60) := by decide +kernel
theorem dX7_searchBest_60 : dcd cX7_searchBest 60 = some (.iload_n 2, 61) := by decide +kernel
theorem dX7_searchBest_61 : dcd cX7_searchBest 61 = some (.bipush (-9), 63) := by decide +kernel
theorem dX7_searchBest_63 : dcd cX7_searchBest 63 = some (.iastore, 64) := by decide +kernel
theorem dX7_searchBest_64 : dcd cX7_searchBest 64 = some (.iinc 2 1, 67) := by decide +kernel
theorem dX7_searchBest_67 : dcd cX7_searchBest 67 = some (.goto (-42), 70) := by decide +kernel
theorem dX7_searchBest_70 : dcd cX7_searchBest 70 = some (.iconst 0, 71) := by decide +kernel
theorem dX7_searchBest_71 : dcd cX7_searchBest 71 = some (.istore_n 2, 72) := by decide +kernel
theorem dX7_searchBest_72 : dcd cX7_searchBest 72 = some (.iload_n 2, 73) := by decide +kernel
theorem dX7_searchBest_73 : dcd cX7_searchBest 73 = some (.iload_n 1, 74) := by decide +kernel
theorem dX7_searchBest_74 : dcd cX7_searchBest 74 = some (.if_icmp .ge 29, 77) := by decide +kernel
theorem dX7_searchBest_77 : dcd cX7_searchBest 77 = some (.aload_n 0, 78) := by decide +kernel
theorem dX7_searchBest_78 : dcd cX7_searchBest 78 = some (.getfield 40, 81) := by decide +kernel
theorem dX7_searchBest_81 : dcd cX7_searchBest 81 = some (.iload_n 1, 82) := by decide +kernel
theorem dX7_searchBest_82 : dcd cX7_searchBest 82 = some (.iload_n 2, 83) := by decide +kernel
theorem dX7_searchBest_83 : dcd cX7_searchBest 83 = some (.invokevirtual 276, 86) := by decide +kernel
theorem dX7_searchBest_86 : dcd cX7_searchBest 86 = some (.aload_n 0, 87) := by decide +kernel
theorem dX7_searchBest_87 : dcd cX7_searchBest 87 = some (.getfield 47, 90) := by decide +kernel
theorem dX7_searchBest_90 : dcd cX7_searchBest 90 = some (.aload_n 0, 91) := by decide +kernel
theorem dX7_searchBest_91 : dcd cX7_searchBest 91 = some (.getfield 40, 94) := by decide +kernel
theorem dX7_searchBest_94 : dcd cX7_searchBest 94 = some (.invokevirtual 321, 97) := by decide +kernel
theorem dX7_searchBest_97 : dcd cX7_searchBest 97 = some (.iinc 2 1, 100) := by decide +kernel
theorem dX7_searchBest_100 : dcd cX7_searchBest 100 = some (.goto (-28), 103) := by decide +kernel
theorem dX7_searchBest_103 : dcd cX7_searchBest 103 = some (.aload_n 0, 104) := by decide +kernel
theorem dX7_searchBest_104 : dcd cX7_searchBest 104 = some (.iconst 1, 105) := by decide +kernel
theorem dX7_searchBest_105 : dcd cX7_searchBest 105 = some (.putfield 74, 108) := by decide +kernel
theorem dX7_searchBest_108 : dcd cX7_searchBest 108 = some (.return_, 109) := by decide +kernel
theorem dX7_searchWithout_0 : dcd cX7_searchWithout 0 = some (.aload_n 0, 1) := by decide +kernel
theorem dX7_searchWithout_1 : dcd cX7_searchWithout 1 = some (.iload_n 1, 2) := by decide +kernel
theorem dX7_searchWithout_2 : dcd cX7_searchWithout 2 = some (.invokevirtual 218, 5) := by decide +kernel
theorem dX7_searchWithout_5 : dcd cX7_searchWithout 5 = some (.istore_n 3, 6) := by decide +kernel
theorem dX7_searchWithout_6 : dcd cX7_searchWithout 6 = some (.aload_n 0, 7) := by decide +kernel
theorem dX7_searchWithout_7 : dcd cX7_searchWithout 7 = some (.getfield 51, 10) := by decide +kernel
theorem dX7_searchWithout_10 : dcd cX7_searchWithout 10 = some (.iload_n 3, 11) := by decide +kernel
theorem dX7_searchWithout_11 : dcd cX7_searchWithout 11 = some (.invokevirtual 312, 14) := by decide +kernel
theorem dX7_searchWithout_14 : dcd cX7_searchWithout 14 = some (.iconst 0, 15) := by decide +kernel
theorem dX7_searchWithout_15 : dcd cX7_searchWithout 15 = some (.istore 4, 17) := by decide +kernel
theorem dX7_searchWithout_17 : dcd cX7_searchWithout 17 = some (.iload 4, 19) := by decide +kernel
theorem dX7_searchWithout_19 : dcd cX7_searchWithout 19 = some (.iload_n 3, 20) := by decide +kernel
theorem dX7_searchWithout_20 : dcd cX7_searchWithout 20 = some (.if_icmp .ge 67, 23) := by decide +kernel
theorem dX7_searchWithout_23 : dcd cX7_searchWithout 23 = some (.aload_n 0, 24) := by decide +kernel
theorem dX7_searchWithout_24 : dcd cX7_searchWithout 24 = some (.getfield 51, 27) := by decide +kernel
theorem dX7_searchWithout_27 : dcd cX7_searchWithout 27 = some (.getfield 315, 30) := by decide +kernel
theorem dX7_searchWithout_30 : dcd cX7_searchWithout 30 = some (.iload 4, 32) := by decide +kernel
theorem dX7_searchWithout_32 : dcd cX7_searchWithout 32 = some (.aload_n 0, 33) := by decide +kernel
theorem dX7_searchWithout_33 : dcd cX7_searchWithout 33 = some (.getfield 19, 36) := by decide +kernel
theorem dX7_searchWithout_36 : dcd cX7_searchWithout 36 = some (.getfield 110, 39) := by decide +kernel
theorem dX7_searchWithout_39 : dcd cX7_searchWithout 39 = some (.aload_n 0, 40) := by decide +kernel
theorem dX7_searchWithout_40 : dcd cX7_searchWithout 40 = some (.getfield 70, 43) := by decide +kernel
theorem dX7_searchWithout_43 : dcd cX7_searchWithout 43 = some (.iload 4, 45) := by decide +kernel
theorem dX7_searchWithout_45 : dcd cX7_searchWithout 45 = some (.iaload, 46) := by decide +kernel
theorem dX7_searchWithout_46 : dcd cX7_searchWithout 46 = some (.aaload, 47) := by decide +kernel
theorem dX7_searchWithout_47 : dcd cX7_searchWithout 47 = some (.aastore, 48) := by decide +kernel
theorem dX7_searchWithout_48 : dcd cX7_searchWithout 48 = some (.aload_n 0, 49) := by decide +kernel
theorem dX7_searchWithout_49 : dcd cX7_searchWithout 49 = some (.getfield 51, 52) := by decide +kernel
theorem dX7_searchWithout_52 : dcd cX7_searchWithout 52 = some (.getfield 318, 55) := by decide +kernel
theorem dX7_searchWithout_55 : dcd cX7_searchWithout 55 = some (.iload 4, 57) := by decide +kernel
theorem dX7_searchWithout_57 : dcd cX7_searchWithout 57 = some (.aload_n 0, 58) := by decide +kernel
theorem dX7_searchWithout_58 : dcd cX7_searchWithout 58 = some (.getfield 29, 61) := by decide +kernel
theorem dX7_searchWithout_61 : dcd cX7_searchWithout 61 = some (.getfield 168, 64) := by decide +kernel
theorem dX7_searchWithout_64 : dcd cX7_searchWithout 64 = some (.iload 4, 66) := by decide +kernel
theorem dX7_searchWithout_66 : dcd cX7_searchWithout 66 = some (.iload_n 2, 67) := by decide +kernel
theorem dX7_searchWithout_67 : dcd cX7_searchWithout 67 = some (.if_icmp .ge 8, 70) := by decide +kernel
theorem dX7_searchWithout_70 : dcd cX7_searchWithout 70 = some (.iload 4, 72) := by decide +kernel
theorem dX7_searchWithout_72 : dcd cX7_searchWithout 72 = some (.goto 7, 75) := by decide +kernel
theorem dX7_searchWithout_75 : dcd cX7_searchWithout 75 = some (.iload 4, 77) := by decide +kernel
theorem dX7_searchWithout_77 : dcd cX7_searchWithout 77 = some (.iconst 1, 78) := by decide +kernel
theorem dX7_searchWithout_78 : dcd cX7_searchWithout 78 = some (.iadd, 79) := by decide +kernel
theorem dX7_searchWithout_79 : dcd cX7_searchWithout 79 = some (.iaload, 80) := by decide +kernel
theorem dX7_searchWithout_80 : dcd cX7_searchWithout 80 = some (.iastore, 81) := by decide +kernel
theorem dX7_searchWithout_81 : dcd cX7_searchWithout 81 = some (.iinc 4 1, 84) := by decide +kernel
theorem dX7_searchWithout_84 : dcd cX7_searchWithout 84 = some (.goto (-67), 87) := by decide +kernel
theorem dX7_searchWithout_87 : dcd cX7_searchWithout 87 = some (.iload_n 2, 88) := by decide +kernel
theorem dX7_searchWithout_88 : dcd cX7_searchWithout 88 = some (.aload_n 0, 89) := by decide +kernel
theorem dX7_searchWithout_89 : dcd cX7_searchWithout 89 = some (.getfield 29, 92) := by decide +kernel
theorem dX7_searchWithout_92 : dcd cX7_searchWithout 92 = some (.getfield 162, 95) := by decide +kernel
theorem dX7_searchWithout_95 : dcd cX7_searchWithout 95 = some (.if_icmp .ge 15, 98) := by decide +kernel
theorem dX7_searchWithout_98 : dcd cX7_searchWithout 98 = some (.aload_n 0, 99) := by decide +kernel
theorem dX7_searchWithout_99 : dcd cX7_searchWithout 99 = some (.getfield 29, 102) := by decide +kernel
theorem dX7_searchWithout_102 : dcd cX7_searchWithout 102 = some (.getfield 162, 105) := by decide +kernel
theorem dX7_searchWithout_105 : dcd cX7_searchWithout 105 = some (.iconst 1, 106) := by decide +kernel
theorem dX7_searchWithout_106 : dcd cX7_searchWithout 106 = some (.isub, 107) := by decide +kernel
theorem dX7_searchWithout_107 : dcd cX7_searchWithout 107 = some (.goto 10, 110) := by decide +kernel
theorem dX7_searchWithout_110 : dcd cX7_searchWithout 110 = some (.aload_n 0, 111) := by decide +kernel
theorem dX7_searchWithout_111 : dcd cX7_searchWithout 111 = some (.getfield 29, 114) := by decide +kernel
theorem dX7_searchWithout_114 : dcd cX7_searchWithout 114 = some (.getfield 162, 117) := by decide +kernel
theorem dX7_searchWithout_117 : dcd cX7_searchWithout 117 = some (.istore 4, 119) := by decide +kernel
theorem dX7_searchWithout_119 : dcd cX7_searchWithout 119 = some (.aload_n 0, 120) := by decide +kernel
theorem dX7_searchWithout_120 : dcd cX7_searchWithout 120 = some (.getfield 40, 123) := by decide +kernel
theorem dX7_searchWithout_123 : dcd cX7_searchWithout 123 = some (.iload_n 3, 124) := by decide +kernel
theorem dX7_searchWithout_124 : dcd cX7_searchWithout 124 = some (.iload 4, 126) := by decide +kernel
theorem dX7_searchWithout_126 : dcd cX7_searchWithout 126 = some (.iload_n 3, 127) := by decide +kernel
theorem dX7_searchWithout_127 : dcd cX7_searchWithout 127 = some (.if_icmp .ge 8, 130) := by decide +kernel
theorem dX7_searchWithout_130 : dcd cX7_searchWithout 130 = some (.iload 4, 132) := by decide +kernel
theorem dX7_searchWithout_132 : dcd cX7_searchWithout 132 = some (.goto 4, 135) := by decide +kernel
theorem dX7_searchWithout_135 : dcd cX7_searchWithout 135 = some (.iconst 0, 136) := by decide +kernel
theorem dX7_searchWithout_136 : dcd cX7_searchWithout 136 = some (.invokevirtual 276, 139) := by decide +kernel
theorem dX7_searchWithout_139 : dcd cX7_searchWithout 139 = some (.aload_n 0, 140) := by decide +kernel
theorem dX7_searchWithout_140 : dcd cX7_searchWithout 140 = some (.getfield 51, 143) := by decide +kernel
theorem dX7_searchWithout_143 : dcd cX7_searchWithout 143 = some (.aload_n 0, 144) := by decide +kernel
theorem dX7_searchWithout_144 : dcd cX7_searchWithout 144 = some (.getfield 40, 147) := by decide +kernel
theorem dX7_searchWithout_147 : dcd cX7_searchWithout 147 = some (.invokevirtual 321, 150) := by decide +kernel
theorem dX7_searchWithout_150 : dcd cX7_searchWithout 150 = some (.return_, 151) := by decide +kernel
theorem dX7_isHall_0 : dcd cX7_isHall 0 = some (.iload_n 2, 1) := by decide +kernel
theorem dX7_isHall_1 : dcd cX7_isHall 1 = some (.iload_n 1, 2) := by decide +kernel
theorem dX7_isHall_2 : dcd cX7_isHall 2 = some (.iconst (-1), 3) := by decide +kernel
theorem dX7_isHall_3 : dcd cX7_isHall 3 = some (.ixor, 4) := by decide +kernel
theorem dX7_isHall_4 : dcd cX7_isHall 4 = some (.iand, 5) := by decide +kernel
theorem dX7_isHall_5 : dcd cX7_isHall 5 = some (.istore_n 3, 6) := by decide +kernel
theorem dX7_isHall_6 : dcd cX7_isHall 6 = some (.iload_n 2, 7) := by decide +kernel
theorem dX7_isHall_7 : dcd cX7_isHall 7 = some (.iload_n 2, 8) := by decide +kernel
theorem dX7_isHall_8 : dcd cX7_isHall 8 = some (.ineg, 9) := by decide +kernel
theorem dX7_isHall_9 : dcd cX7_isHall 9 = some (.iand, 10) := by decide +kernel
theorem dX7_isHall_10 : dcd cX7_isHall 10 = some (.istore 4, 12) := by decide +kernel
theorem dX7_isHall_12 : dcd cX7_isHall 12 = some (.iload_n 1, 13) := by decide +kernel
theorem dX7_isHall_13 : dcd cX7_isHall 13 = some (.iload_n 2, 14) := by decide +kernel
theorem dX7_isHall_14 : dcd cX7_isHall 14 = some (.iconst (-1), 15) := by decide +kernel
theorem dX7_isHall_15 : dcd cX7_isHall 15 = some (.ixor, 16) := by decide +kernel
theorem dX7_isHall_16 : dcd cX7_isHall 16 = some (.iand, 17) := by decide +kernel
theorem dX7_isHall_17 : dcd cX7_isHall 17 = some (.ifCond .ne 10, 20) := by decide +kernel
theorem dX7_isHall_20 : dcd cX7_isHall 20 = some (.iload_n 1, 21) := by decide +kernel
theorem dX7_isHall_21 : dcd cX7_isHall 21 = some (.iload 4, 23) := by decide +kernel
theorem dX7_isHall_23 : dcd cX7_isHall 23 = some (.iand, 24) := by decide +kernel
theorem dX7_isHall_24 : dcd cX7_isHall 24 = some (.ifCond .ne 5, 27) := by decide +kernel
theorem dX7_isHall_27 : dcd cX7_isHall 27 = some (.iconst 0, 28) := by decide +kernel
theorem dX7_isHall_28 : dcd cX7_isHall 28 = some (.ireturn, 29) := by decide +kernel
theorem dX7_isHall_29 : dcd cX7_isHall 29 = some (.iload_n 1, 30) := by decide +kernel
theorem dX7_isHall_30 : dcd cX7_isHall 30 = some (.invokestatic 325, 33) := by decide +kernel
theorem dX7_isHall_33 : dcd cX7_isHall 33 = some (.iload_n 3, 34) := by decide +kernel
theorem dX7_isHall_34 : dcd cX7_isHall 34 = some (.invokestatic 325, 37) := by decide +kernel
theorem dX7_isHall_37 : dcd cX7_isHall 37 = some (.isub, 38) := by decide +kernel
theorem dX7_isHall_38 : dcd cX7_isHall 38 = some (.istore 5, 40) := by decide +kernel
theorem dX7_isHall_40 : dcd cX7_isHall 40 = some (.iload 5, 42) := by decide +kernel
theorem dX7_isHall_42 : dcd cX7_isHall 42 = some (.iconst (-1), 43) := by decide +kernel
theorem dX7_isHall_43 : dcd cX7_isHall 43 = some (.if_icmp .lt 29, 46) := by decide +kernel
theorem dX7_isHall_46 : dcd cX7_isHall 46 = some (.iload 5, 48) := by decide +kernel
theorem dX7_isHall_48 : dcd cX7_isHall 48 = some (.iconst 1, 49) := by decide +kernel
theorem dX7_isHall_49 : dcd cX7_isHall 49 = some (.if_icmp .gt 23, 52) := by decide +kernel
theorem dX7_isHall_52 : dcd cX7_isHall 52 = some (.aload_n 0, 53) := by decide +kernel
theorem dX7_isHall_53 : dcd cX7_isHall 53 = some (.iload_n 1, 54) := by decide +kernel
theorem dX7_isHall_54 : dcd cX7_isHall 54 = some (.invokevirtual 330, 57) := by decide +kernel
theorem dX7_isHall_57 : dcd cX7_isHall 57 = some (.ifCond .eq 15, 60) := by decide +kernel
theorem dX7_isHall_60 : dcd cX7_isHall 60 = some (.aload_n 0, 61) := by decide +kernel
theorem dX7_isHall_61 : dcd cX7_isHall 61 = some (.iload_n 3, 62) := by decide +kernel
theorem dX7_isHall_62 : dcd cX7_isHall 62 = some (.invokevirtual 330, 65) := by decide +kernel
theorem dX7_isHall_65 : dcd cX7_isHall 65 = some (.ifCond .eq 7, 68) := by decide +kernel
theorem dX7_isHall_68 : dcd cX7_isHall 68 = some (.iconst 1, 69) := by decide +kernel
theorem dX7_isHall_69 : dcd cX7_isHall 69 = some (.goto 4, 72) := by decide +kernel
theorem dX7_isHall_72 : dcd cX7_isHall 72 = some (.iconst 0, 73) := by decide +kernel
theorem dX7_isHall_73 : dcd cX7_isHall 73 = some (.ireturn, 74) := by decide +kernel
theorem dX7_hasOneOfAKind_0 : dcd cX7_hasOneOfAKind 0 = some (.iconst 0, 1) := by decide +kernel
theorem dX7_hasOneOfAKind_1 : dcd cX7_hasOneOfAKind 1 = some (.istore_n 2, 2) := by decide +kernel
theorem dX7_hasOneOfAKind_2 : dcd cX7_hasOneOfAKind 2 = some (.iconst 0, 3) := by decide +kernel
theorem dX7_hasOneOfAKind_3 : dcd cX7_hasOneOfAKind 3 = some (.istore_n 3, 4) := by decide +kernel
theorem dX7_hasOneOfAKind_4 : dcd cX7_hasOneOfAKind 4 = some (.iload_n 3, 5) := by decide +kernel
theorem dX7_hasOneOfAKind_5 : dcd cX7_hasOneOfAKind 5 = some (.aload_n 0, 6) := by decide +kernel
theorem dX7_hasOneOfAKind_6 : dcd cX7_hasOneOfAKind 6 = some (.getfield 19, 9) := by decide +kernel
theorem dX7_hasOneOfAKind_9 : dcd cX7_hasOneOfAKind 9 = some (.getfield 266, 12) := by decide +kernel
theorem dX7_hasOneOfAKind_12 : dcd cX7_hasOneOfAKind 12 = some (.if_icmp .ge 48, 15) := by decide +kernel
theorem dX7_hasOneOfAKind_15 : dcd cX7_hasOneOfAKind 15 = some (.iload_n 1, 16) := by decide +kernel
theorem dX7_hasOneOfAKind_16 : dcd cX7_hasOneOfAKind 16 = some (.iload_n 3, 17) := by decide +kernel
theorem dX7_hasOneOfAKind_17 : dcd cX7_hasOneOfAKind 17 = some (.ishr, 18) := by decide +kernel
theorem dX7_hasOneOfAKind_18 : dcd cX7_hasOneOfAKind 18 = some (.iconst 1, 19) := by decide +kernel
theorem dX7_hasOneOfAKind_19 : dcd cX7_hasOneOfAKind 19 = some (.iand, 20) := by decide +kernel
theorem dX7_hasOneOfAKind_20 : dcd cX7_hasOneOfAKind 20 = some (.iconst 1, 21) := by decide +kernel
theorem dX7_hasOneOfAKind_21 : dcd cX7_hasOneOfAKind 21 = some (.if_icmp .ne 33, 24) := by decide +kernel
theorem dX7_hasOneOfAKind_24 : dcd cX7_hasOneOfAKind 24 = some (.iconst 1, 25) := by decide +kernel
theorem dX7_hasOneOfAKind_25 : dcd cX7_hasOneOfAKind 25 = some (.aload_n 0, 26) := by decide +kernel
theorem dX7_hasOneOfAKind_26 : dcd cX7_hasOneOfAKind 26 = some (.getfield 19, 29) := by decide +kernel
theorem dX7_hasOneOfAKind_29 : dcd cX7_hasOneOfAKind 29 = some (.getfield 110, 32) := by decide +kernel
theorem dX7_hasOneOfAKind_32 : dcd cX7_hasOneOfAKind 32 = some (.iload_n 3, 33) := by decide +kernel
theorem dX7_hasOneOfAKind_33 : dcd cX7_hasOneOfAKind 33 = some (.aaload, 34) := by decide +kernel
theorem dX7_hasOneOfAKind_34 : dcd cX7_hasOneOfAKind 34 = some (.getfield 114, 37) := by decide +kernel
theorem dX7_hasOneOfAKind_37 : dcd cX7_hasOneOfAKind 37 = some (.ishl, 38) := by decide +kernel
theorem dX7_hasOneOfAKind_38 : dcd cX7_hasOneOfAKind 38 = some (.istore 4, 40) := by decide +kernel
theorem dX7_hasOneOfAKind_40 : dcd cX7_hasOneOfAKind 40 = some (.iload_n 2, 41) := by decide +kernel
theorem dX7_hasOneOfAKind_41 : dcd cX7_hasOneOfAKind 41 = some (.iload 4, 43) := by decide +kernel
theorem dX7_hasOneOfAKind_43 : dcd cX7_hasOneOfAKind 43 = some (.iand, 44) := by decide +kernel
theorem dX7_hasOneOfAKind_44 : dcd cX7_hasOneOfAKind 44 = some (.ifCond .eq 5, 47) := by decide +kernel
theorem dX7_hasOneOfAKind_47 : dcd cX7_hasOneOfAKind 47 = some (.iconst 0, 48) := by decide +kernel
theorem dX7_hasOneOfAKind_48 : dcd cX7_hasOneOfAKind 48 = some (.ireturn, 49) := by decide +kernel
theorem dX7_hasOneOfAKind_49 : dcd cX7_hasOneOfAKind 49 = some (.iload_n 2, 50) := by decide +kernel
theorem dX7_hasOneOfAKind_50 : dcd cX7_hasOneOfAKind 50 = some (.iload 4, 52) := by decide +kernel
theorem dX7_hasOneOfAKind_52 : dcd cX7_hasOneOfAKind 52 = some (.ior, 53) := by decide +kernel
theorem dX7_hasOneOfAKind_53 : dcd cX7_hasOneOfAKind 53 = some (.istore_n 2, 54) := by decide +kernel
theorem dX7_hasOneOfAKind_54 : dcd cX7_hasOneOfAKind 54 = some (.iinc 3 1, 57) := by decide +kernel
theorem dX7_hasOneOfAKind_57 : dcd cX7_hasOneOfAKind 57 = some (.goto (-53), 60) := by decide +kernel
theorem dX7_hasOneOfAKind_60 : dcd cX7_hasOneOfAKind 60 = some (.iconst 1, 61) := by decide +kernel
theorem dX7_hasOneOfAKind_61 : dcd cX7_hasOneOfAKind 61 = some (.ireturn, 62) := by decide +kernel
theorem dX7_apart_0 : dcd cX7_apart 0 = some (.iconst 0, 1) := by decide +kernel
theorem dX7_apart_1 : dcd cX7_apart 1 = some (.istore_n 3, 2) := by decide +kernel
theorem dX7_apart_2 : dcd cX7_apart 2 = some (.iconst 0, 3) := by decide +kernel
theorem dX7_apart_3 : dcd cX7_apart 3 = some (.istore 4, 5) := by decide +kernel
theorem dX7_apart_5 : dcd cX7_apart 5 = some (.iload 4, 7) := by decide +kernel
theorem dX7_apart_7 : dcd cX7_apart 7 = some (.aload_n 0, 8) := by decide +kernel
theorem dX7_apart_8 : dcd cX7_apart 8 = some (.getfield 19, 11) := by decide +kernel
theorem dX7_apart_11 : dcd cX7_apart 11 = some (.getfield 266, 14) := by decide +kernel
theorem dX7_apart_14 : dcd cX7_apart 14 = some (.if_icmp .ge 64, 17) := by decide +kernel
theorem dX7_apart_17 : dcd cX7_apart 17 = some (.iload_n 1, 18) := by decide +kernel
theorem dX7_apart_18 : dcd cX7_apart 18 = some (.iload 4, 20) := by decide +kernel
theorem dX7_apart_20 : dcd cX7_apart 20 = some (.ishr, 21) := by decide +kernel
theorem dX7_apart_21 : dcd cX7_apart 21 = some (.iconst 1, 22) := by decide +kernel
theorem dX7_apart_22 : dcd cX7_apart 22 = some (.iand, 23) := by decide +kernel
theorem dX7_apart_23 : dcd cX7_apart 23 = some (.iconst 1, 24) := by decide +kernel
theorem dX7_apart_24 : dcd cX7_apart 24 = some (.if_icmp .ne 22, 27) := by decide +kernel
theorem dX7_apart_27 : dcd cX7_apart 27 = some (.iload_n 3, 28) := by decide +kernel
theorem dX7_apart_28 : dcd cX7_apart 28 = some (.aload_n 0, 29) := by decide +kernel
theorem dX7_apart_29 : dcd cX7_apart 29 = some (.getfield 19, 32) := by decide +kernel
theorem dX7_apart_32 : dcd cX7_apart 32 = some (.getfield 110, 35) := by decide +kernel
theorem dX7_apart_35 : dcd cX7_apart 35 = some (.iload 4, 37) := by decide +kernel
theorem dX7_apart_37 : dcd cX7_apart 37 = some (.aaload, 38) := by decide +kernel
theorem dX7_apart_38 : dcd cX7_apart 38 = some (.getfield 120, 41) := by decide +kernel
theorem dX7_apart_41 : dcd cX7_apart 41 = some (.iadd, 42) := by decide +kernel
theorem dX7_apart_42 : dcd cX7_apart 42 = some (.istore_n 3, 43) := by decide +kernel
theorem dX7_apart_43 : dcd cX7_apart 43 = some (.goto 29, 46) := by decide +kernel
theorem dX7_apart_46 : dcd cX7_apart 46 = some (.iload_n 2, 47) := by decide +kernel
theorem dX7_apart_47 : dcd cX7_apart 47 = some (.iload 4, 49) := by decide +kernel
theorem dX7_apart_49 : dcd cX7_apart 49 = some (.ishr, 50) := by decide +kernel
theorem dX7_apart_50 : dcd cX7_apart 50 = some (.iconst 1, 51) := by decide +kernel
theorem dX7_apart_51 : dcd cX7_apart 51 = some (.iand, 52) := by decide +kernel
theorem dX7_apart_52 : dcd cX7_apart 52 = some (.iconst 1, 53) := by decide +kernel
theorem dX7_apart_53 : dcd cX7_apart 53 = some (.if_icmp .ne 19, 56) := by decide +kernel
theorem dX7_apart_56 : dcd cX7_apart 56 = some (.iload_n 3, 57) := by decide +kernel
theorem dX7_apart_57 : dcd cX7_apart 57 = some (.aload_n 0, 58) := by decide +kernel
theorem dX7_apart_58 : dcd cX7_apart 58 = some (.getfield 19, 61) := by decide +kernel
theorem dX7_apart_61 : dcd cX7_apart 61 = some (.getfield 110, 64) := by decide +kernel
theorem dX7_apart_64 : dcd cX7_apart 64 = some (.iload 4, 66) := by decide +kernel
theorem dX7_apart_66 : dcd cX7_apart 66 = some (.aaload, 67) := by decide +kernel
theorem dX7_apart_67 : dcd cX7_apart 67 = some (.getfield 120, 70) := by decide +kernel
theorem dX7_apart_70 : dcd cX7_apart 70 = some (.isub, 71) := by decide +kernel
theorem dX7_apart_71 : dcd cX7_apart 71 = some (.istore_n 3, 72) := by decide +kernel
theorem dX7_apart_72 : dcd cX7_apart 72 = some (.iinc 4 1, 75) := by decide +kernel
theorem dX7_apart_75 : dcd cX7_apart 75 = some (.goto (-70), 78) := by decide +kernel
theorem dX7_apart_78 : dcd cX7_apart 78 = some (.iload_n 3, 79) := by decide +kernel
theorem dX7_apart_79 : dcd cX7_apart 79 = some (.invokestatic 333, 82) := by decide +kernel
theorem dX7_apart_82 : dcd cX7_apart 82 = some (.ireturn, 83) := by decide +kernel
theorem dX7_opensAhead_0 : dcd cX7_opensAhead 0 = some (.aload_n 0, 1) := by decide +kernel
theorem dX7_opensAhead_1 : dcd cX7_opensAhead 1 = some (.getfield 57, 4) := by decide +kernel
theorem dX7_opensAhead_4 : dcd cX7_opensAhead 4 = some (.getfield 338, 7) := by decide +kernel
theorem dX7_opensAhead_7 : dcd cX7_opensAhead 7 = some (.iload_n 1, 8) := by decide +kernel
theorem dX7_opensAhead_8 : dcd cX7_opensAhead 8 = some (.bipush 9, 10) := by decide +kernel
theorem dX7_opensAhead_10 : dcd cX7_opensAhead 10 = some (.imul, 11) := by decide +kernel
theorem dX7_opensAhead_11 : dcd cX7_opensAhead 11 = some (.iaload, 12) := by decide +kernel
theorem dX7_opensAhead_12 : dcd cX7_opensAhead 12 = some (.aload_n 0, 13) := by decide +kernel
theorem dX7_opensAhead_13 : dcd cX7_opensAhead 13 = some (.getfield 57, 16) := by decide +kernel
theorem dX7_opensAhead_16 : dcd cX7_opensAhead 16 = some (.getfield 338, 19) := by decide +kernel
theorem dX7_opensAhead_19 : dcd cX7_opensAhead 19 = some (.iload_n 2, 20) := by decide +kernel
theorem dX7_opensAhead_20 : dcd cX7_opensAhead 20 = some (.bipush 9, 22) := by decide +kernel
theorem dX7_opensAhead_22 : dcd cX7_opensAhead 22 = some (.imul, 23) := by decide +kernel
theorem dX7_opensAhead_23 : dcd cX7_opensAhead 23 = some (.iaload, 24) := by decide +kernel
theorem dX7_opensAhead_24 : dcd cX7_opensAhead 24 = some (.isub, 25) := by decide +kernel
theorem dX7_opensAhead_25 : dcd cX7_opensAhead 25 = some (.istore_n 3, 26) := by decide +kernel
theorem dX7_opensAhead_26 : dcd cX7_opensAhead 26 = some (.iload_n 3, 27) := by decide +kernel
theorem dX7_opensAhead_27 : dcd cX7_opensAhead 27 = some (.ifCond .eq 13, 30) := by decide +kernel
theorem dX7_opensAhead_30 : dcd cX7_opensAhead 30 = some (.iload_n 3, 31) := by decide +kernel
theorem dX7_opensAhead_31 : dcd cX7_opensAhead 31 = some (.ifCond .ge 7, 34) := by decide +kernel
theorem dX7_opensAhead_34 : dcd cX7_opensAhead 34 = some (.iconst 1, 35) := by decide +kernel
theorem dX7_opensAhead_35 : dcd cX7_opensAhead 35 = some (.goto 4, 38) := by decide +kernel
theorem dX7_opensAhead_38 : dcd cX7_opensAhead 38 = some (.iconst 0, 39) := by decide +kernel
theorem dX7_opensAhead_39 : dcd cX7_opensAhead 39 = some (.ireturn, 40) := by decide +kernel
theorem dX7_opensAhead_40 : dcd cX7_opensAhead 40 = some (.aload_n 0, 41) := by decide +kernel
theorem dX7_opensAhead_41 : dcd cX7_opensAhead 41 = some (.getfield 19, 44) := by decide +kernel
theorem dX7_opensAhead_44 : dcd cX7_opensAhead 44 = some (.getfield 110, 47) := by decide +kernel
theorem dX7_opensAhead_47 : dcd cX7_opensAhead 47 = some (.iload_n 1, 48) := by decide +kernel
theorem dX7_opensAhead_48 : dcd cX7_opensAhead 48 = some (.aaload, 49) := by decide +kernel
theorem dX7_opensAhead_49 : dcd cX7_opensAhead 49 = some (.getfield 120, 52) := by decide +kernel
theorem dX7_opensAhead_52 : dcd cX7_opensAhead 52 = some (.aload_n 0, 53) := by decide +kernel
theorem dX7_opensAhead_53 : dcd cX7_opensAhead 53 = some (.getfield 19, 56) := by decide +kernel
theorem dX7_opensAhead_56 : dcd cX7_opensAhead 56 = some (.getfield 110, 59) := by decide +kernel
theorem dX7_opensAhead_59 : dcd cX7_opensAhead 59 = some (.iload_n 2, 60) := by decide +kernel
theorem dX7_opensAhead_60 : dcd cX7_opensAhead 60 = some (.aaload, 61) := by decide +kernel
theorem dX7_opensAhead_61 : dcd cX7_opensAhead 61 = some (.getfield 120, 64) := by decide +kernel
theorem dX7_opensAhead_64 : dcd cX7_opensAhead 64 = some (.if_icmp .ge 7, 67) := by decide +kernel
theorem dX7_opensAhead_67 : dcd cX7_opensAhead 67 = some (.iconst 1, 68) := by decide +kernel
theorem dX7_opensAhead_68 : dcd cX7_opensAhead 68 = some (.goto 4, 71) := by decide +kernel
theorem dX7_opensAhead_71 : dcd cX7_opensAhead 71 = some (.iconst 0, 72) := by decide +kernel
theorem dX7_opensAhead_72 : dcd cX7_opensAhead 72 = some (.ireturn, 73) := by decide +kernel
theorem dX7_sortByStrength_0 : dcd cX7_sortByStrength 0 = some (.iconst 1, 1) := by decide +kernel
theorem dX7_sortByStrength_1 : dcd cX7_sortByStrength 1 = some (.istore_n 1, 2) := by decide +kernel
theorem dX7_sortByStrength_2 : dcd cX7_sortByStrength 2 = some (.iload_n 1, 3) := by decide +kernel
theorem dX7_sortByStrength_3 : dcd cX7_sortByStrength 3 = some (.aload_n 0, 4) := by decide +kernel
theorem dX7_sortByStrength_4 : dcd cX7_sortByStrength 4 = some (.getfield 29, 7) := by decide +kernel
theorem dX7_sortByStrength_7 : dcd cX7_sortByStrength 7 = some (.getfield 159, 10) := by decide +kernel
theorem dX7_sortByStrength_10 : dcd cX7_sortByStrength 10 = some (.if_icmp .ge 47, 13) := by decide +kernel
theorem dX7_sortByStrength_13 : dcd cX7_sortByStrength 13 = some (.iload_n 1, 14) := by decide +kernel
theorem dX7_sortByStrength_14 : dcd cX7_sortByStrength 14 = some (.istore_n 2, 15) := by decide +kernel
theorem dX7_sortByStrength_15 : dcd cX7_sortByStrength 15 = some (.iload_n 2, 16) := by decide +kernel
theorem dX7_sortByStrength_16 : dcd cX7_sortByStrength 16 = some (.ifCond .le 35, 19) := by decide +kernel
theorem dX7_sortByStrength_19 : dcd cX7_sortByStrength 19 = some (.aload_n 0, 20) := by decide +kernel
theorem dX7_sortByStrength_20 : dcd cX7_sortByStrength 20 = some (.aload_n 0, 21) := by decide +kernel
theorem dX7_sortByStrength_21 : dcd cX7_sortByStrength 21 = some (.getfield 70, 24) := by decide +kernel
theorem dX7_sortByStrength_24 : dcd cX7_sortByStrength 24 = some (.iload_n 2, 25) := by decide +kernel
theorem dX7_sortByStrength_25 : dcd cX7_sortByStrength 25 = some (.iaload, 26) := by decide +kernel
theorem dX7_sortByStrength_26 : dcd cX7_sortByStrength 26 = some (.aload_n 0, 27) := by decide +kernel
theorem dX7_sortByStrength_27 : dcd cX7_sortByStrength 27 = some (.getfield 70, 30) := by decide +kernel
theorem dX7_sortByStrength_30 : dcd cX7_sortByStrength 30 = some (.iload_n 2, 31) := by decide +kernel
theorem dX7_sortByStrength_31 : dcd cX7_sortByStrength 31 = some (.iconst 1, 32) := by decide +kernel
theorem dX7_sortByStrength_32 : dcd cX7_sortByStrength 32 = some (.isub, 33) := by decide +kernel
theorem dX7_sortByStrength_33 : dcd cX7_sortByStrength 33 = some (.iaload, 34) := by decide +kernel
theorem dX7_sortByStrength_34 : dcd cX7_sortByStrength 34 = some (.invokevirtual 341, 37) := by decide +kernel
theorem dX7_sortByStrength_37 : dcd cX7_sortByStrength 37 = some (.ifCond .eq 14, 40) := by decide +kernel
theorem dX7_sortByStrength_40 : dcd cX7_sortByStrength 40 = some (.aload_n 0, 41) := by decide +kernel
theorem dX7_sortByStrength_41 : dcd cX7_sortByStrength 41 = some (.iload_n 2, 42) := by decide +kernel
theorem dX7_sortByStrength_42 : dcd cX7_sortByStrength 42 = some (.invokevirtual 344, 45) := by decide +kernel
theorem dX7_sortByStrength_45 : dcd cX7_sortByStrength 45 = some (.iinc 2 (-1), 48) := by decide +kernel
theorem dX7_sortByStrength_48 : dcd cX7_sortByStrength 48 = some (.goto (-33), 51) := by decide +kernel
theorem dX7_sortByStrength_51 : dcd cX7_sortByStrength 51 = some (.iinc 1 1, 54) := by decide +kernel
theorem dX7_sortByStrength_54 : dcd cX7_sortByStrength 54 = some (.goto (-52), 57) := by decide +kernel
theorem dX7_sortByStrength_57 : dcd cX7_sortByStrength 57 = some (.return_, 58) := by decide +kernel
theorem dX7_sortByFamilies_0 : dcd cX7_sortByFamilies 0 = some (.iconst 1, 1) := by decide +kernel
theorem dX7_sortByFamilies_1 : dcd cX7_sortByFamilies 1 = some (.istore_n 1, 2) := by decide +kernel
theorem dX7_sortByFamilies_2 : dcd cX7_sortByFamilies 2 = some (.iload_n 1, 3) := by decide +kernel
theorem dX7_sortByFamilies_3 : dcd cX7_sortByFamilies 3 = some (.aload_n 0, 4) := by decide +kernel
theorem dX7_sortByFamilies_4 : dcd cX7_sortByFamilies 4 = some (.getfield 29, 7) := by decide +kernel
theorem dX7_sortByFamilies_7 : dcd cX7_sortByFamilies 7 = some (.getfield 159, 10) := by decide +kernel
theorem dX7_sortByFamilies_10 : dcd cX7_sortByFamilies 10 = some (.if_icmp .ge 47, 13) := by decide +kernel
theorem dX7_sortByFamilies_13 : dcd cX7_sortByFamilies 13 = some (.iload_n 1, 14) := by decide +kernel
theorem dX7_sortByFamilies_14 : dcd cX7_sortByFamilies 14 = some (.istore_n 2, 15) := by decide +kernel
theorem dX7_sortByFamilies_15 : dcd cX7_sortByFamilies 15 = some (.iload_n 2, 16) := by decide +kernel
theorem dX7_sortByFamilies_16 : dcd cX7_sortByFamilies 16 = some (.ifCond .le 35, 19) := by decide +kernel
theorem dX7_sortByFamilies_19 : dcd cX7_sortByFamilies 19 = some (.aload_n 0, 20) := by decide +kernel
theorem dX7_sortByFamilies_20 : dcd cX7_sortByFamilies 20 = some (.aload_n 0, 21) := by decide +kernel
theorem dX7_sortByFamilies_21 : dcd cX7_sortByFamilies 21 = some (.getfield 70, 24) := by decide +kernel
theorem dX7_sortByFamilies_24 : dcd cX7_sortByFamilies 24 = some (.iload_n 2, 25) := by decide +kernel
theorem dX7_sortByFamilies_25 : dcd cX7_sortByFamilies 25 = some (.iaload, 26) := by decide +kernel
theorem dX7_sortByFamilies_26 : dcd cX7_sortByFamilies 26 = some (.aload_n 0, 27) := by decide +kernel
theorem dX7_sortByFamilies_27 : dcd cX7_sortByFamilies 27 = some (.getfield 70, 30) := by decide +kernel
theorem dX7_sortByFamilies_30 : dcd cX7_sortByFamilies 30 = some (.iload_n 2, 31) := by decide +kernel
theorem dX7_sortByFamilies_31 : dcd cX7_sortByFamilies 31 = some (.iconst 1, 32) := by decide +kernel
theorem dX7_sortByFamilies_32 : dcd cX7_sortByFamilies 32 = some (.isub, 33) := by decide +kernel
theorem dX7_sortByFamilies_33 : dcd cX7_sortByFamilies 33 = some (.iaload, 34) := by decide +kernel
theorem dX7_sortByFamilies_34 : dcd cX7_sortByFamilies 34 = some (.invokevirtual 347, 37) := by decide +kernel
theorem dX7_sortByFamilies_37 : dcd cX7_sortByFamilies 37 = some (.ifCond .eq 14, 40) := by decide +kernel
theorem dX7_sortByFamilies_40 : dcd cX7_sortByFamilies 40 = some (.aload_n 0, 41) := by decide +kernel
theorem dX7_sortByFamilies_41 : dcd cX7_sortByFamilies 41 = some (.iload_n 2, 42) := by decide +kernel
theorem dX7_sortByFamilies_42 : dcd cX7_sortByFamilies 42 = some (.invokevirtual 344, 45) := by decide +kernel
theorem dX7_sortByFamilies_45 : dcd cX7_sortByFamilies 45 = some (.iinc 2 (-1), 48) := by decide +kernel
theorem dX7_sortByFamilies_48 : dcd cX7_sortByFamilies 48 = some (.goto (-33), 51) := by decide +kernel
theorem dX7_sortByFamilies_51 : dcd cX7_sortByFamilies 51 = some (.iinc 1 1, 54) := by decide +kernel
theorem dX7_sortByFamilies_54 : dcd cX7_sortByFamilies 54 = some (.goto (-52), 57) := by decide +kernel
theorem dX7_sortByFamilies_57 : dcd cX7_sortByFamilies 57 = some (.return_, 58) := by decide +kernel
theorem dX7_isWeaker_0 : dcd cX7_isWeaker 0 = some (.aload_n 0, 1) := by decide +kernel
theorem dX7_isWeaker_1 : dcd cX7_isWeaker 1 = some (.getfield 19, 4) := by decide +kernel
theorem dX7_isWeaker_4 : dcd cX7_isWeaker 4 = some (.getfield 110, 7) := by decide +kernel
theorem dX7_isWeaker_7 : dcd cX7_isWeaker 7 = some (.iload_n 1, 8) := by decide +kernel
theorem dX7_isWeaker_8 : dcd cX7_isWeaker 8 = some (.aaload, 9) := by decide +kernel
theorem dX7_isWeaker_9 : dcd cX7_isWeaker 9 = some (.getfield 120, 12) := by decide +kernel
theorem dX7_isWeaker_12 : dcd cX7_isWeaker 12 = some (.aload_n 0, 13) := by decide +kernel
theorem dX7_isWeaker_13 : dcd cX7_isWeaker 13 = some (.getfield 19, 16) := by decide +kernel
theorem dX7_isWeaker_16 : dcd cX7_isWeaker 16 = some (.getfield 110, 19) := by decide +kernel
theorem dX7_isWeaker_19 : dcd cX7_isWeaker 19 = some (.iload_n 2, 20) := by decide +kernel
theorem dX7_isWeaker_20 : dcd cX7_isWeaker 20 = some (.aaload, 21) := by decide +kernel
theorem dX7_isWeaker_21 : dcd cX7_isWeaker 21 = some (.getfield 120, 24) := by decide +kernel
theorem dX7_isWeaker_24 : dcd cX7_isWeaker 24 = some (.if_icmp .ge 7, 27) := by decide +kernel
theorem dX7_isWeaker_27 : dcd cX7_isWeaker 27 = some (.iconst 1, 28) := by decide +kernel
theorem dX7_isWeaker_28 : dcd cX7_isWeaker 28 = some (.goto 4, 31) := by decide +kernel
theorem dX7_isWeaker_31 : dcd cX7_isWeaker 31 = some (.iconst 0, 32) := by decide +kernel
theorem dX7_isWeaker_32 : dcd cX7_isWeaker 32 = some (.ireturn, 33) := by decide +kernel
theorem dX7_holdsLess_0 : dcd cX7_holdsLess 0 = some (.aload_n 0, 1) := by decide +kernel
theorem dX7_holdsLess_1 : dcd cX7_holdsLess 1 = some (.getfield 19, 4) := by decide +kernel
theorem dX7_holdsLess_4 : dcd cX7_holdsLess 4 = some (.getfield 110, 7) := by decide +kernel
theorem dX7_holdsLess_7 : dcd cX7_holdsLess 7 = some (.iload_n 1, 8) := by decide +kernel
theorem dX7_holdsLess_8 : dcd cX7_holdsLess 8 = some (.aaload, 9) := by decide +kernel
theorem dX7_holdsLess_9 : dcd cX7_holdsLess 9 = some (.astore_n 3, 10) := by decide +kernel
theorem dX7_holdsLess_10 : dcd cX7_holdsLess 10 = some (.aload_n 0, 11) := by decide +kernel
theorem dX7_holdsLess_11 : dcd cX7_holdsLess 11 = some (.getfield 19, 14) := by decide +kernel
theorem dX7_holdsLess_14 : dcd cX7_holdsLess 14 = some (.getfield 110, 17) := by decide +kernel
theorem dX7_holdsLess_17 : dcd cX7_holdsLess 17 = some (.iload_n 2, 18) := by decide +kernel
theorem dX7_holdsLess_18 : dcd cX7_holdsLess 18 = some (.aaload, 19) := by decide +kernel
theorem dX7_holdsLess_19 : dcd cX7_holdsLess 19 = some (.astore 4, 21) := by decide +kernel
theorem dX7_holdsLess_21 : dcd cX7_holdsLess 21 = some (.aload_n 3, 22) := by decide +kernel
theorem dX7_holdsLess_22 : dcd cX7_holdsLess 22 = some (.getfield 138, 25) := by decide +kernel
theorem dX7_holdsLess_25 : dcd cX7_holdsLess 25 = some (.aload 4, 27) := by decide +kernel
theorem dX7_holdsLess_27 : dcd cX7_holdsLess 27 = some (.getfield 117, 30) := by decide +kernel
theorem dX7_holdsLess_30 : dcd cX7_holdsLess 30 = some (.imul, 31) := by decide +kernel
theorem dX7_holdsLess_31 : dcd cX7_holdsLess 31 = some (.aload 4, 33) := by decide +kernel
theorem dX7_holdsLess_33 : dcd cX7_holdsLess 33 = some (.getfield 138, 36) := by decide +kernel
theorem dX7_holdsLess_36 : dcd cX7_holdsLess 36 = some (.aload_n 3, 37) := by decide +kernel
theorem dX7_holdsLess_37 : dcd cX7_holdsLess 37 = some (.getfield 117, 40) := by decide +kernel
theorem dX7_holdsLess_40 : dcd cX7_holdsLess 40 = some (.imul, 41) := by decide +kernel
theorem dX7_holdsLess_41 : dcd cX7_holdsLess 41 = some (.if_icmp .ge 7, 44) := by decide +kernel
theorem dX7_holdsLess_44 : dcd cX7_holdsLess 44 = some (.iconst 1, 45) := by decide +kernel
theorem dX7_holdsLess_45 : dcd cX7_holdsLess 45 = some (.goto 4, 48) := by decide +kernel
theorem dX7_holdsLess_48 : dcd cX7_holdsLess 48 = some (.iconst 0, 49) := by decide +kernel
theorem dX7_holdsLess_49 : dcd cX7_holdsLess 49 = some (.ireturn, 50) := by decide +kernel
theorem dX7_swapAhead_0 : dcd cX7_swapAhead 0 = some (.aload_n 0, 1) := by decide +kernel
theorem dX7_swapAhead_1 : dcd cX7_swapAhead 1 = some (.getfield 70, 4) := by decide +kernel
theorem dX7_swapAhead_4 : dcd cX7_swapAhead 4 = some (.iload_n 1, 5) := by decide +kernel
theorem dX7_swapAhead_5 : dcd cX7_swapAhead 5 = some (.iaload, 6) := by decide +kernel
theorem dX7_swapAhead_6 : dcd cX7_swapAhead 6 = some (.istore_n 2, 7) := by decide +kernel
theorem dX7_swapAhead_7 : dcd cX7_swapAhead 7 = some (.aload_n 0, 8) := by decide +kernel
theorem dX7_swapAhead_8 : dcd cX7_swapAhead 8 = some (.getfield 70, 11) := by decide +kernel
theorem dX7_swapAhead_11 : dcd cX7_swapAhead 11 = some (.iload_n 1, 12) := by decide +kernel
theorem dX7_swapAhead_12 : dcd cX7_swapAhead 12 = some (.aload_n 0, 13) := by decide +kernel
theorem dX7_swapAhead_13 : dcd cX7_swapAhead 13 = some (.getfield 70, 16) := by decide +kernel
theorem dX7_swapAhead_16 : dcd cX7_swapAhead 16 = some (.iload_n 1, 17) := by decide +kernel
theorem dX7_swapAhead_17 : dcd cX7_swapAhead 17 = some (.iconst 1, 18) := by decide +kernel
theorem dX7_swapAhead_18 : dcd cX7_swapAhead 18 = some (.isub, 19) := by decide +kernel
theorem dX7_swapAhead_19 : dcd cX7_swapAhead 19 = some (.iaload, 20) := by decide +kernel
theorem dX7_swapAhead_20 : dcd cX7_swapAhead 20 = some (.iastore, 21) := by decide +kernel
theorem dX7_swapAhead_21 : dcd cX7_swapAhead 21 = some (.aload_n 0, 22) := by decide +kernel
theorem dX7_swapAhead_22 : dcd cX7_swapAhead 22 = some (.getfield 70, 25) := by decide +kernel
theorem dX7_swapAhead_25 : dcd cX7_swapAhead 25 = some (.iload_n 1, 26) := by decide +kernel
theorem dX7_swapAhead_26 : dcd cX7_swapAhead 26 = some (.iconst 1, 27) := by decide +kernel
theorem dX7_swapAhead_27 : dcd cX7_swapAhead 27 = some (.isub, 28) := by decide +kernel
theorem dX7_swapAhead_28 : dcd cX7_swapAhead 28 = some (.iload_n 2, 29) := by decide +kernel
theorem dX7_swapAhead_29 : dcd cX7_swapAhead 29 = some (.iastore, 30) := by decide +kernel
theorem dX7_swapAhead_30 : dcd cX7_swapAhead 30 = some (.return_, 31) := by decide +kernel
theorem dX7_ratePlace_0 : dcd cX7_ratePlace 0 = some (.aload_n 0, 1) := by decide +kernel
theorem dX7_ratePlace_1 : dcd cX7_ratePlace 1 = some (.dup, 2) := by decide +kernel
theorem dX7_ratePlace_2 : dcd cX7_ratePlace 2 = some (.getfield 78, 5) := by decide +kernel
theorem dX7_ratePlace_5 : dcd cX7_ratePlace 5 = some (.lconst 1, 6) := by decide +kernel
theorem dX7_ratePlace_6 : dcd cX7_ratePlace 6 = some (.ladd, 7) := by decide +kernel
theorem dX7_ratePlace_7 : dcd cX7_ratePlace 7 = some (.putfield 78, 10) := by decide +kernel
theorem dX7_ratePlace_10 : dcd cX7_ratePlace 10 = some (.aload_n 1, 11) := by decide +kernel
theorem dX7_ratePlace_11 : dcd cX7_ratePlace 11 = some (.getfield 120, 14) := by decide +kernel
theorem dX7_ratePlace_14 : dcd cX7_ratePlace 14 = some (.ireturn, 15) := by decide +kernel
theorem dX7_rateOpening_0 : dcd cX7_rateOpening 0 = some (.aload_n 0, 1) := by decide +kernel
theorem dX7_rateOpening_1 : dcd cX7_rateOpening 1 = some (.dup, 2) := by decide +kernel
theorem dX7_rateOpening_2 : dcd cX7_rateOpening 2 = some (.getfield 78, 5) := by decide +kernel
theorem dX7_rateOpening_5 : dcd cX7_rateOpening 5 = some (.ldc2_w 350, 8) := by decide +kernel
theorem dX7_rateOpening_8 : dcd cX7_rateOpening 8 = some (.ladd, 9) := by decide +kernel
theorem dX7_rateOpening_9 : dcd cX7_rateOpening 9 = some (.putfield 78, 12) := by decide +kernel
theorem dX7_rateOpening_12 : dcd cX7_rateOpening 12 = some (.aload_n 0, 13) := by decide +kernel
theorem dX7_rateOpening_13 : dcd cX7_rateOpening 13 = some (.aload_n 1, 14) := by decide +kernel
theorem dX7_rateOpening_14 : dcd cX7_rateOpening 14 = some (.invokevirtual 289, 17) := by decide +kernel
theorem dX7_rateOpening_17 : dcd cX7_rateOpening 17 = some (.aload_n 0, 18) := by decide +kernel
theorem dX7_rateOpening_18 : dcd cX7_rateOpening 18 = some (.getfield 40, 21) := by decide +kernel
theorem dX7_rateOpening_21 : dcd cX7_rateOpening 21 = some (.getfield 150, 24) := by decide +kernel
theorem dX7_rateOpening_24 : dcd cX7_rateOpening 24 = some (.iconst 4, 25) := by decide +kernel
theorem dX7_rateOpening_25 : dcd cX7_rateOpening 25 = some (.iaload, 26) := by decide +kernel
theorem dX7_rateOpening_26 : dcd cX7_rateOpening 26 = some (.iadd, 27) := by decide +kernel
theorem dX7_rateOpening_27 : dcd cX7_rateOpening 27 = some (.ireturn, 28) := by decide +kernel
theorem dX7_rateFrontCloth_0 : dcd cX7_rateFrontCloth 0 = some (.aload_n 0, 1) := by decide +kernel
theorem dX7_rateFrontCloth_1 : dcd cX7_rateFrontCloth 1 = some (.dup, 2) := by decide +kernel
theorem dX7_rateFrontCloth_2 : dcd cX7_rateFrontCloth 2 = some (.getfield 78, 5) := by decide +kernel
theorem dX7_rateFrontCloth_5 : dcd cX7_rateFrontCloth 5 = some (.ldc2_w 352, 8) := by decide +kernel
theorem dX7_rateFrontCloth_8 : dcd cX7_rateFrontCloth 8 = some (.ladd, 9) := by decide +kernel
theorem dX7_rateFrontCloth_9 : dcd cX7_rateFrontCloth 9 = some (.putfield 78, 12) := by decide +kernel
theorem dX7_rateFrontCloth_12 : dcd cX7_rateFrontCloth 12 = some (.aload_n 0, 13) := by decide +kernel
theorem dX7_rateFrontCloth_13 : dcd cX7_rateFrontCloth 13 = some (.aload_n 1, 14) := by decide +kernel
theorem dX7_rateFrontCloth_14 : dcd cX7_rateFrontCloth 14 = some (.invokevirtual 289, 17) := by decide +kernel
theorem dX7_rateFrontCloth_17 : dcd cX7_rateFrontCloth 17 = some (.aload_n 1, 18) := by decide +kernel
theorem dX7_rateFrontCloth_18 : dcd cX7_rateFrontCloth 18 = some (.getfield 117, 21) := by decide +kernel
theorem dX7_rateFrontCloth_21 : dcd cX7_rateFrontCloth 21 = some (.iadd, 22) := by decide +kernel
theorem dX7_rateFrontCloth_22 : dcd cX7_rateFrontCloth 22 = some (.ireturn, 23) := by decide +kernel
theorem dX7_rateSecond_0 : dcd cX7_rateSecond 0 = some (.aload_n 0, 1) := by decide +kernel
theorem dX7_rateSecond_1 : dcd cX7_rateSecond 1 = some (.dup, 2) := by decide +kernel
theorem dX7_rateSecond_2 : dcd cX7_rateSecond 2 = some (.getfield 78, 5) := by decide +kernel
theorem dX7_rateSecond_5 : dcd cX7_rateSecond 5 = some (.ldc2_w 354, 8) := by decide +kernel
theorem dX7_rateSecond_8 : dcd cX7_rateSecond 8 = some (.ladd, 9) := by decide +kernel
theorem dX7_rateSecond_9 : dcd cX7_rateSecond 9 = some (.putfield 78, 12) := by decide +kernel
theorem dX7_rateSecond_12 : dcd cX7_rateSecond 12 = some (.iconst 2, 13) := by decide +kernel
theorem dX7_rateSecond_13 : dcd cX7_rateSecond 13 = some (.aload_n 0, 14) := by decide +kernel
theorem dX7_rateSecond_14 : dcd cX7_rateSecond 14 = some (.aload_n 1, 15) := by decide +kernel
theorem dX7_rateSecond_15 : dcd cX7_rateSecond 15 = some (.invokevirtual 293, 18) := by decide +kernel
theorem dX7_rateSecond_18 : dcd cX7_rateSecond 18 = some (.imul, 19) := by decide +kernel
theorem dX7_rateSecond_19 : dcd cX7_rateSecond 19 = some (.ireturn, 20) := by decide +kernel
theorem dX7_rateDraw_0 : dcd cX7_rateDraw 0 = some (.aload_n 0, 1) := by decide +kernel
theorem dX7_rateDraw_1 : dcd cX7_rateDraw 1 = some (.dup, 2) := by decide +kernel
theorem dX7_rateDraw_2 : dcd cX7_rateDraw 2 = some (.getfield 78, 5) := by decide +kernel
theorem dX7_rateDraw_5 : dcd cX7_rateDraw 5 = some (.ldc2_w 356, 8) := by decide +kernel
theorem dX7_rateDraw_8 : dcd cX7_rateDraw 8 = some (.ladd, 9) := by decide +kernel
theorem dX7_rateDraw_9 : dcd cX7_rateDraw 9 = some (.putfield 78, 12) := by decide +kernel
theorem dX7_rateDraw_12 : dcd cX7_rateDraw 12 = some (.aload_n 0, 13) := by decide +kernel
theorem dX7_rateDraw_13 : dcd cX7_rateDraw 13 = some (.aload_n 1, 14) := by decide +kernel
theorem dX7_rateDraw_14 : dcd cX7_rateDraw 14 = some (.invokevirtual 305, 17) := by decide +kernel
theorem dX7_rateDraw_17 : dcd cX7_rateDraw 17 = some (.aload_n 1, 18) := by decide +kernel
theorem dX7_rateDraw_18 : dcd cX7_rateDraw 18 = some (.getfield 138, 21) := by decide +kernel
theorem dX7_rateDraw_21 : dcd cX7_rateDraw 21 = some (.iadd, 22) := by decide +kernel
theorem dX7_rateDraw_22 : dcd cX7_rateDraw 22 = some (.ireturn, 23) := by decide +kernel
theorem dX7_rateClosing_0 : dcd cX7_rateClosing 0 = some (.aload_n 0, 1) := by decide +kernel
theorem dX7_rateClosing_1 : dcd cX7_rateClosing 1 = some (.dup, 2) := by decide +kernel
theorem dX7_rateClosing_2 : dcd cX7_rateClosing 2 = some (.getfield 78, 5) := by decide +kernel
theorem dX7_rateClosing_5 : dcd cX7_rateClosing 5 = some (.ldc2_w 358, 8) := by decide +kernel
theorem dX7_rateClosing_8 : dcd cX7_rateClosing 8 = some (.ladd, 9) := by decide +kernel
theorem dX7_rateClosing_9 : dcd cX7_rateClosing 9 = some (.putfield 78, 12) := by decide +kernel
theorem dX7_rateClosing_12 : dcd cX7_rateClosing 12 = some (.aload_n 0, 13) := by decide +kernel
theorem dX7_rateClosing_13 : dcd cX7_rateClosing 13 = some (.aload_n 1, 14) := by decide +kernel
theorem dX7_rateClosing_14 : dcd cX7_rateClosing 14 = some (.invokevirtual 289, 17) := by decide +kernel
theorem dX7_rateClosing_17 : dcd cX7_rateClosing 17 = some (.aload_n 1, 18) := by decide +kernel
theorem dX7_rateClosing_18 : dcd cX7_rateClosing 18 = some (.getfield 126, 21) := by decide +kernel
theorem dX7_rateClosing_21 : dcd cX7_rateClosing 21 = some (.aload_n 1, 22) := by decide +kernel
theorem dX7_rateClosing_22 : dcd cX7_rateClosing 22 = some (.getfield 129, 25) := by decide +kernel
theorem dX7_rateClosing_25 : dcd cX7_rateClosing 25 = some (.iadd, 26) := by decide +kernel
theorem dX7_rateClosing_26 : dcd cX7_rateClosing 26 = some (.isub, 27) := by decide +kernel
theorem dX7_rateClosing_27 : dcd cX7_rateClosing 27 = some (.ireturn, 28) := by decide +kernel
theorem dX8_init_0 : dcd cX8_init 0 = some (.aload_n 0, 1) := by decide +kernel
theorem dX8_init_1 : dcd cX8_init 1 = some (.invokespecial 1, 4) := by decide +kernel
theorem dX8_init_4 : dcd cX8_init 4 = some (.aload_n 0, 5) := by decide +kernel
theorem dX8_init_5 : dcd cX8_init 5 = some (.sipush 400, 8) := by decide +kernel
theorem dX8_init_8 : dcd cX8_init 8 = some (.newarray .int, 10) := by decide +kernel
theorem dX8_init_10 : dcd cX8_init 10 = some (.putfield 7, 13) := by decide +kernel
theorem dX8_init_13 : dcd cX8_init 13 = some (.aload_n 0, 14) := by decide +kernel
theorem dX8_init_14 : dcd cX8_init 14 = some (.sipush 180, 17) := by decide +kernel
theorem dX8_init_17 : dcd cX8_init 17 = some (.newarray .int, 19) := by decide +kernel
theorem dX8_init_19 : dcd cX8_init 19 = some (.putfield 13, 22) := by decide +kernel
theorem dX8_init_22 : dcd cX8_init 22 = some (.aload_n 0, 23) := by decide +kernel
theorem dX8_init_23 : dcd cX8_init 23 = some (.bipush 8, 25) := by decide +kernel
theorem dX8_init_25 : dcd cX8_init 25 = some (.newarray .int, 27) := by decide +kernel
theorem dX8_init_27 : dcd cX8_init 27 = some (.putfield 16, 30) := by decide +kernel
theorem dX8_init_30 : dcd cX8_init 30 = some (.aload_n 0, 31) := by decide +kernel
theorem dX8_init_31 : dcd cX8_init 31 = some (.bipush 9, 33) := by decide +kernel
theorem dX8_init_33 : dcd cX8_init 33 = some (.newarray .int, 35) := by decide +kernel
theorem dX8_init_35 : dcd cX8_init 35 = some (.putfield 19, 38) := by decide +kernel
theorem dX8_init_38 : dcd cX8_init 38 = some (.aload_n 0, 39) := by decide +kernel
theorem dX8_init_39 : dcd cX8_init 39 = some (.bipush 12, 41) := by decide +kernel
theorem dX8_init_41 : dcd cX8_init 41 = some (.newarray .int, 43) := by decide +kernel
theorem dX8_init_43 : dcd cX8_init 43 = some (.putfield 22, 46) := by decide +kernel
theorem dX8_init_46 : dcd cX8_init 46 = some (.aload_n 0, 47) := by decide +kernel
theorem dX8_init_47 : dcd cX8_init 47 = some (.bipush 24, 49) := by decide +kernel
theorem dX8_init_49 : dcd cX8_init 49 = some (.newarray .int, 51) := by decide +kernel
theorem dX8_init_51 : dcd cX8_init 51 = some (.putfield 25, 54) := by decide +kernel
theorem dX8_init_54 : dcd cX8_init 54 = some (.aload_n 0, 55) := by decide +kernel
theorem dX8_init_55 : dcd cX8_init 55 = some (.iconst 2, 56) := by decide +kernel
theorem dX8_init_56 : dcd cX8_init 56 = some (.newarray .boolean, 58) := by decide +kernel
theorem dX8_init_58 : dcd cX8_init 58 = some (.putfield 28, 61) := by decide +kernel
theorem dX8_init_61 : dcd cX8_init 61 = some (.aload_n 0, 62) := by decide +kernel
theorem dX8_init_62 : dcd cX8_init 62 = some (.bipush 10, 64) := by decide +kernel
theorem dX8_init_64 : dcd cX8_init 64 = some (.newarray .int, 66) := by decide +kernel
theorem dX8_init_66 : dcd cX8_init 66 = some (.putfield 32, 69) := by decide +kernel
theorem dX8_init_69 : dcd cX8_init 69 = some (.aload_n 0, 70) := by decide +kernel
theorem dX8_init_70 : dcd cX8_init 70 = some (.bipush 10, 72) := by decide +kernel
theorem dX8_init_72 : dcd cX8_init 72 = some (.newarray .int, 74) := by decide +kernel
theorem dX8_init_74 : dcd cX8_init 74 = some (.putfield 35, 77) := by decide +kernel
theorem dX8_init_77 : dcd cX8_init 77 = some (.aload_n 0, 78) := by decide +kernel
theorem dX8_init_78 : dcd cX8_init 78 = some (.bipush 10, 80) := by decide +kernel
theorem dX8_init_80 : dcd cX8_init 80 = some (.newarray .int, 82) := by decide +kernel
theorem dX8_init_82 : dcd cX8_init 82 = some (.putfield 38, 85) := by decide +kernel
theorem dX8_init_85 : dcd cX8_init 85 = some (.aload_n 0, 86) := by decide +kernel
theorem dX8_init_86 : dcd cX8_init 86 = some (.bipush 10, 88) := by decide +kernel
theorem dX8_init_88 : dcd cX8_init 88 = some (.newarray .int, 90) := by decide +kernel
theorem dX8_init_90 : dcd cX8_init 90 = some (.putfield 41, 93) := by decide +kernel
theorem dX8_init_93 : dcd cX8_init 93 = some (.aload_n 0, 94) := by decide +kernel
theorem dX8_init_94 : dcd cX8_init 94 = some (.bipush 10, 96) := by decide +kernel
theorem dX8_init_96 : dcd cX8_init 96 = some (.newarray .int, 98) := by decide +kernel
theorem dX8_init_98 : dcd cX8_init 98 = some (.putfield 44, 101) := by decide +kernel
theorem dX8_init_101 : dcd cX8_init 101 = some (.aload_n 0, 102) := by decide +kernel
theorem dX8_init_102 : dcd cX8_init 102 = some (.bipush 10, 104) := by decide +kernel
theorem dX8_init_104 : dcd cX8_init 104 = some (.newarray .int, 106) := by decide +kernel
theorem dX8_init_106 : dcd cX8_init 106 = some (.putfield 47, 109) := by decide +kernel
theorem dX8_init_109 : dcd cX8_init 109 = some (.aload_n 0, 110) := by decide +kernel
theorem dX8_init_110 : dcd cX8_init 110 = some (.bipush 10, 112) := by decide +kernel
theorem dX8_init_112 : dcd cX8_init 112 = some (.newarray .int, 114) := by decide +kernel
theorem dX8_init_114 : dcd cX8_init 114 = some (.putfield 50, 117) := by decide +kernel
theorem dX8_init_117 : dcd cX8_init 117 = some (.aload_n 0, 118) := by decide +kernel
theorem dX8_init_118 : dcd cX8_init 118 = some (.bipush 60, 120) := by decide +kernel
theorem dX8_init_120 : dcd cX8_init 120 = some (.newarray .int, 122) := by decide +kernel
theorem dX8_init_122 : dcd cX8_init 122 = some (.putfield 53, 125) := by decide +kernel
theorem dX8_init_125 : dcd cX8_init 125 = some (.aload_n 0, 126) := by decide +kernel
theorem dX8_init_126 : dcd cX8_init 126 = some (.bipush 60, 128) := by decide +kernel
theorem dX8_init_128 : dcd cX8_init 128 = some (.newarray .int, 130) := by decide +kernel
theorem dX8_init_130 : dcd cX8_init 130 = some (.putfield 56, 133) := by decide +kernel
theorem dX8_init_133 : dcd cX8_init 133 = some (.aload_n 0, 134) := by decide +kernel
theorem dX8_init_134 : dcd cX8_init 134 = some (.bipush 60, 136) := by decide +kernel
theorem dX8_init_136 : dcd cX8_init 136 = some (.newarray .int, 138) := by decide +kernel
theorem dX8_init_138 : dcd cX8_init 138 = some (.putfield 59, 141) := by decide +kernel
theorem dX8_init_141 : dcd cX8_init 141 = some (.aload_n 0, 142) := by decide +kernel
theorem dX8_init_142 : dcd cX8_init 142 = some (.bipush 10, 144) := by decide +kernel
theorem dX8_init_144 : dcd cX8_init 144 = some (.newarray .int, 146) := by decide +kernel
theorem dX8_init_146 : dcd cX8_init 146 = some (.putfield 62, 149) := by decide +kernel
theorem dX8_init_149 : dcd cX8_init 149 = some (.aload_n 0, 150) := by decide +kernel
theorem dX8_init_150 : dcd cX8_init 150 = some (.sipush 512, 153) := by decide +kernel
theorem dX8_init_153 : dcd cX8_init 153 = some (.newarray .int, 155) := by decide +kernel
theorem dX8_init_155 : dcd cX8_init 155 = some (.putfield 65, 158) := by decide +kernel
theorem dX8_init_158 : dcd cX8_init 158 = some (.aload_n 0, 159) := by decide +kernel
theorem dX8_init_159 : dcd cX8_init 159 = some (.getfield 16, 162) := by decide +kernel
theorem dX8_init_162 : dcd cX8_init 162 = some (.iconst 0, 163) := by decide +kernel
theorem dX8_init_163 : dcd cX8_init 163 = some (.iconst 2, 164) := by decide +kernel
theorem dX8_init_164 : dcd cX8_init 164 = some (.iastore, 165) := by decide +kernel
theorem dX8_init_165 : dcd cX8_init 165 = some (.aload_n 0, 166) := by decide +kernel
theorem dX8_init_166 : dcd cX8_init 166 = some (.getfield 16, 169) := by decide +kernel
theorem dX8_init_169 : dcd cX8_init 169 = some (.iconst 1, 170) := by decide +kernel
theorem dX8_init_170 : dcd cX8_init 170 = some (.sipush 180, 173) := by decide +kernel
theorem dX8_init_173 : dcd cX8_init 173 = some (.iastore, 174) := by decide +kernel
theorem dX8_init_174 : dcd cX8_init 174 = some (.aload_n 0, 175) := by decide +kernel
theorem dX8_init_175 : dcd cX8_init 175 = some (.getfield 16, 178) := by decide +kernel
theorem dX8_init_178 : dcd cX8_init 178 = some (.iconst 2, 179) := by decide +kernel
theorem dX8_init_179 : dcd cX8_init 179 = some (.bipush 10, 181) := by decide +kernel
theorem dX8_init_181 : dcd cX8_init 181 = some (.iastore, 182) := by decide +kernel
theorem dX8_init_182 : dcd cX8_init 182 = some (.aload_n 0, 183) := by decide +kernel
theorem dX8_init_183 : dcd cX8_init 183 = some (.getfield 16, 186) := by decide +kernel
theorem dX8_init_186 : dcd cX8_init 186 = some (.iconst 3, 187) := by decide +kernel
theorem dX8_init_187 : dcd cX8_init 187 = some (.iconst 2, 188) := by decide +kernel
theorem dX8_init_188 : dcd cX8_init 188 = some (.iastore, 189) := by decide +kernel
theorem dX8_init_189 : dcd cX8_init 189 = some (.aload_n 0, 190) := by decide +kernel
theorem dX8_init_190 : dcd cX8_init 190 = some (.getfield 16, 193) := by decide +kernel
theorem dX8_init_193 : dcd cX8_init 193 = some (.iconst 4, 194) := by decide +kernel
theorem dX8_init_194 : dcd cX8_init 194 = some (.iconst 5, 195) := by decide +kernel
theorem dX8_init_195 : dcd cX8_init 195 = some (.iastore, 196) := by decide +kernel
theorem dX8_init_196 : dcd cX8_init 196 = some (.aload_n 0, 197) := by decide +kernel
theorem dX8_init_197 : dcd cX8_init 197 = some (.getfield 16, 200) := by decide +kernel
theorem dX8_init_200 : dcd cX8_init 200 = some (.iconst 5, 201) := by decide +kernel
theorem dX8_init_201 : dcd cX8_init 201 = some (.iconst 1, 202) := by decide +kernel
theorem dX8_init_202 : dcd cX8_init 202 = some (.iastore, 203) := by decide +kernel
theorem dX8_init_203 : dcd cX8_init 203 = some (.aload_n 0, 204) := by decide +kernel
theorem dX8_init_204 : dcd cX8_init 204 = some (.getfield 16, 207) := by decide +kernel
theorem dX8_init_207 : dcd cX8_init 207 = some (.bipush 6, 209) := by decide +kernel
theorem dX8_init_209 : dcd cX8_init 209 = some (.bipush 20, 211) := by decide +kernel
theorem dX8_init_211 : dcd cX8_init 211 = some (.iastore, 212) := by decide +kernel
theorem dX8_init_212 : dcd cX8_init 212 = some (.aload_n 0, 213) := by decide +kernel
theorem dX8_init_213 : dcd cX8_init 213 = some (.getfield 16, 216) := by decide +kernel
theorem dX8_init_216 : dcd cX8_init 216 = some (.bipush 7, 218) := by decide +kernel
theorem dX8_init_218 : dcd cX8_init 218 = some (.sipush 400, 221) := by decide +kernel
theorem dX8_init_221 : dcd cX8_init 221 = some (.iastore, 222) := by decide +kernel
theorem dX8_init_222 : dcd cX8_init 222 = some (.aload_n 0, 223) := by decide +kernel
theorem dX8_init_223 : dcd cX8_init 223 = some (.getfield 22, 226) := by decide +kernel
theorem dX8_init_226 : dcd cX8_init 226 = some (.iconst 2, 227) := by decide +kernel
theorem dX8_init_227 : dcd cX8_init 227 = some (.iconst 1, 228) := by decide +kernel
theorem dX8_init_228 : dcd cX8_init 228 = some (.iastore, 229) := by decide +kernel
theorem dX8_init_229 : dcd cX8_init 229 = some (.return_, 230) := by decide +kernel
theorem dX8_in_0 : dcd cX8_in 0 = some (.iload_n 0, 1) := by decide +kernel
theorem dX8_in_1 : dcd cX8_in 1 = some (.iload_n 1, 2) := by decide +kernel
theorem dX8_in_2 : dcd cX8_in 2 = some (.if_icmp .lt 12, 5) := by decide +kernel
theorem dX8_in_5 : dcd cX8_in 5 = some (.iload_n 0, 6) := by decide +kernel
theorem dX8_in_6 : dcd cX8_in 6 = some (.iload_n 2, 7) := by decide +kernel
theorem dX8_in_7 : dcd cX8_in 7 = some (.if_icmp .gt 7, 10) := by decide +kernel
theorem dX8_in_10 : dcd cX8_in 10 = some (.iconst 1, 11) := by decide +kernel
theorem dX8_in_11 : dcd cX8_in 11 = some (.goto 4, 14) := by decide +kernel
theorem dX8_in_14 : dcd cX8_in 14 = some (.iconst 0, 15) := by decide +kernel
theorem dX8_in_15 : dcd cX8_in 15 = some (.ireturn, 16) := by decide +kernel
theorem dX8_of_0 : dcd cX8_of 0 = some (.aload_n 0, 1) := by decide +kernel
theorem dX8_of_1 : dcd cX8_of 1 = some (.getfield 13, 4) := by decide +kernel
theorem dX8_of_4 : dcd cX8_of 4 = some (.bipush 9, 6) := by decide +kernel
theorem dX8_of_6 : dcd cX8_of 6 = some (.iload_n 1, 7) := by decide +kernel
theorem dX8_of_7 : dcd cX8_of 7 = some (.imul, 8) := by decide +kernel
theorem dX8_of_8 : dcd cX8_of 8 = some (.iload_n 2, 9) := by decide +kernel
theorem dX8_of_9 : dcd cX8_of 9 = some (.iadd, 10) := by decide +kernel
theorem dX8_of_10 : dcd cX8_of 10 = some (.iaload, 11) := by decide +kernel
theorem dX8_of_11 : dcd cX8_of 11 = some (.ireturn, 12) := by decide +kernel
theorem dX8_type_0 : dcd cX8_type 0 = some (.aload_n 0, 1) := by decide +kernel
theorem dX8_type_1 : dcd cX8_type 1 = some (.iconst 0, 2) := by decide +kernel
theorem dX8_type_2 : dcd cX8_type 2 = some (.putfield 68, 5) := by decide +kernel
theorem dX8_type_5 : dcd cX8_type 5 = some (.iload_n 3, 6) := by decide +kernel
theorem dX8_type_6 : dcd cX8_type 6 = some (.iconst 1, 7) := by decide +kernel
theorem dX8_type_7 : dcd cX8_type 7 = some (.bipush 8, 9) := by decide +kernel
theorem dX8_type_9 : dcd cX8_type 9 = some (.invokestatic 72, 12) := by decide +kernel
theorem dX8_type_12 : dcd cX8_type 12 = some (.ifCond .ne 5, 15) := by decide +kernel
theorem dX8_type_15 : dcd cX8_type 15 = some (.iconst (-1), 16) := by decide +kernel
theorem dX8_type_16 : dcd cX8_type 16 = some (.ireturn, 17) := by decide +kernel
theorem dX8_type_17 : dcd cX8_type 17 = some (.aload_n 0, 18) := by decide +kernel
theorem dX8_type_18 : dcd cX8_type 18 = some (.getfield 76, 21) := by decide +kernel
theorem dX8_type_21 : dcd cX8_type 21 = some (.iload_n 3, 22) := by decide +kernel
theorem dX8_type_22 : dcd cX8_type 22 = some (.iadd, 23) := by decide +kernel
theorem dX8_type_23 : dcd cX8_type 23 = some (.sipush 400, 26) := by decide +kernel
theorem dX8_type_26 : dcd cX8_type 26 = some (.if_icmp .le 6, 29) := by decide +kernel
theorem dX8_type_29 : dcd cX8_type 29 = some (.bipush (-3), 31) := by decide +kernel
theorem dX8_type_31 : dcd cX8_type 31 = some (.ireturn, 32) := by decide +kernel
theorem dX8_type_32 : dcd cX8_type 32 = some (.iload_n 3, 33) := by decide +kernel
theorem dX8_type_33 : dcd cX8_type 33 = some (.iconst 1, 34) := by decide +kernel
theorem dX8_type_34 : dcd cX8_type 34 = some (.isub, 35) := by decide +kernel
theorem dX8_type_35 : dcd cX8_type 35 = some (.istore 4, 37) := by decide +kernel
theorem dX8_type_37 : dcd cX8_type 37 = some (.iload 4, 39) := by decide +kernel
theorem dX8_type_39 : dcd cX8_type 39 = some (.ifCond .lt 40, 42) := by decide +kernel
theorem dX8_type_42 : dcd cX8_type 42 = some (.aload_n 0, 43) := by decide +kernel
theorem dX8_type_43 : dcd cX8_type 43 = some (.getfield 7, 46) := by decide +kernel
theorem dX8_type_46 : dcd cX8_type 46 = some (.aload_n 0, 47) := by decide +kernel
theorem dX8_type_47 : dcd cX8_type 47 = some (.getfield 76, 50) := by decide +kernel
theorem dX8_type_50 : dcd cX8_type 50 = some (.lload_n 1, 51) := by decide +kernel
theorem dX8_type_51 : dcd cX8_type 51 = some (.bipush 8, 53) := by decide +kernel
theorem dX8_type_53 : dcd cX8_type 53 = some (.iload 4, 55) := by decide +kernel
theorem dX8_type_55 : dcd cX8_type 55 = some (.imul, 56) := by decide +kernel
theorem dX8_type_56 : dcd cX8_type 56 = some (.lshr, 57) := by decide +kernel
theorem dX8_type_57 : dcd cX8_type 57 = some (.ldc2_w 79, 60) := by decide +kernel
theorem dX8_type_60 : dcd cX8_type 60 = some (.land, 61) := by decide +kernel
theorem dX8_type_61 : dcd cX8_type 61 = some (.l2i, 62) := by decide +kernel
theorem dX8_type_62 : dcd cX8_type 62 = some (.iastore, 63) := by decide +kernel
theorem dX8_type_63 : dcd cX8_type 63 = some (.aload_n 0, 64) := by decide +kernel
theorem dX8_type_64 : dcd cX8_type 64 = some (.dup, 65) := by decide +kernel
theorem dX8_type_65 : dcd cX8_type 65 = some (.getfield 76, 68) := by decide +kernel
theorem dX8_type_68 : dcd cX8_type 68 = some (.iconst 1, 69) := by decide +kernel
theorem dX8_type_69 : dcd cX8_type 69 = some (.iadd, 70) := by decide +kernel
theorem dX8_type_70 : dcd cX8_type 70 = some (.putfield 76, 73) := by decide +kernel
theorem dX8_type_73 : dcd cX8_type 73 = some (.iinc 4 (-1), 76) := by decide +kernel
theorem dX8_type_76 : dcd cX8_type 76 = some (.goto (-39), 79) := by decide +kernel
theorem dX8_type_79 : dcd cX8_type 79 = some (.aload_n 0, 80) := by decide +kernel
theorem dX8_type_80 : dcd cX8_type 80 = some (.getfield 76, 83) := by decide +kernel
theorem dX8_type_83 : dcd cX8_type 83 = some (.ireturn, 84) := by decide +kernel
theorem dX8_clear_0 : dcd cX8_clear 0 = some (.aload_n 0, 1) := by decide +kernel
theorem dX8_clear_1 : dcd cX8_clear 1 = some (.iconst 0, 2) := by decide +kernel
theorem dX8_clear_2 : dcd cX8_clear 2 = some (.putfield 68, 5) := by decide +kernel
theorem dX8_clear_5 : dcd cX8_clear 5 = some (.aload_n 0, 6) := by decide +kernel
theorem dX8_clear_6 : dcd cX8_clear 6 = some (.getfield 76, 9) := by decide +kernel
theorem dX8_clear_9 : dcd cX8_clear 9 = some (.istore_n 1, 10) := by decide +kernel
theorem dX8_clear_10 : dcd cX8_clear 10 = some (.aload_n 0, 11) := by decide +kernel
theorem dX8_clear_11 : dcd cX8_clear 11 = some (.iconst 0, 12) := by decide +kernel
theorem dX8_clear_12 : dcd cX8_clear 12 = some (.putfield 76, 15) := by decide +kernel
theorem dX8_clear_15 : dcd cX8_clear 15 = some (.iload_n 1, 16) := by decide +kernel
theorem dX8_clear_16 : dcd cX8_clear 16 = some (.ireturn, 17) := by decide +kernel
theorem dX8_byteAt_0 : dcd cX8_byteAt 0 = some (.iload_n 1, 1) := by decide +kernel
theorem dX8_byteAt_1 : dcd cX8_byteAt 1 = some (.aload_n 0, 2) := by decide +kernel
theorem dX8_byteAt_2 : dcd cX8_byteAt 2 = some (.getfield 76, 5) := by decide +kernel
theorem dX8_byteAt_5 : dcd cX8_byteAt 5 = some (.if_icmp .ge 12, 8) := by decide +kernel
theorem dX8_byteAt_8 : dcd cX8_byteAt 8 = some (.aload_n 0, 9) := by decide +kernel
theorem dX8_byteAt_9 : dcd cX8_byteAt 9 = some (.getfield 7, 12) := by decide +kernel
theorem dX8_byteAt_12 : dcd cX8_byteAt 12 = some (.iload_n 1, 13) := by decide +kernel
theorem dX8_byteAt_13 : dcd cX8_byteAt 13 = some (.iaload, 14) := by decide +kernel
theorem dX8_byteAt_14 : dcd cX8_byteAt 14 = some (.goto 4, 17) := by decide +kernel
theorem dX8_byteAt_17 : dcd cX8_byteAt 17 = some (.iconst (-1), 18) := by decide +kernel
theorem dX8_byteAt_18 : dcd cX8_byteAt 18 = some (.ireturn, 19) := by decide +kernel
theorem dX8_add_0 : dcd cX8_add 0 = some (.iload_n 2, 1) := by decide +kernel
theorem dX8_add_1 : dcd cX8_add 1 = some (.ifCond .ne 7, 4) := by decide +kernel
theorem dX8_add_4 : dcd cX8_add 4 = some (.lload_n 0, 5) := by decide +kernel
theorem dX8_add_5 : dcd cX8_add 5 = some (.goto 11, 8) := by decide +kernel
theorem dX8_add_8 : dcd cX8_add 8 = some (.ldc2_w 81, 11) := by decide +kernel
theorem dX8_add_11 : dcd cX8_add 11 = some (.lload_n 0, 12) := by decide +kernel
theorem dX8_add_12 : dcd cX8_add 12 = some (.lmul, 13) := by decide +kernel
theorem dX8_add_13 : dcd cX8_add 13 = some (.iload_n 2, 14) := by decide +kernel
theorem dX8_add_14 : dcd cX8_add 14 = some (.i2l, 15) := by decide +kernel
theorem dX8_add_15 : dcd cX8_add 15 = some (.ladd, 16) := by decide +kernel
theorem dX8_add_16 : dcd cX8_add 16 = some (.lreturn, 17) := by decide +kernel
theorem dX8_word_0 : dcd cX8_word 0 = some (.lconst 0, 1) := by decide +kernel
theorem dX8_word_1 : dcd cX8_word 1 = some (.iload_n 0, 2) := by decide +kernel
theorem dX8_word_2 : dcd cX8_word 2 = some (.invokestatic 83, 5) := by decide +kernel
theorem dX8_word_5 : dcd cX8_word 5 = some (.iload_n 1, 6) := by decide +kernel
theorem dX8_word_6 : dcd cX8_word 6 = some (.invokestatic 83, 9) := by decide +kernel
theorem dX8_word_9 : dcd cX8_word 9 = some (.iload_n 2, 10) := by decide +kernel
theorem dX8_word_10 : dcd cX8_word 10 = some (.invokestatic 83, 13) := by decide +kernel
theorem dX8_word_13 : dcd cX8_word 13 = some (.iload_n 3, 14) := by decide +kernel
theorem dX8_word_14 : dcd cX8_word 14 = some (.invokestatic 83, 17) := by decide +kernel
theorem dX8_word_17 : dcd cX8_word 17 = some (.iload 4, 19) := by decide +kernel
theorem dX8_word_19 : dcd cX8_word 19 = some (.invokestatic 83, 22) := by decide +kernel
theorem dX8_word_22 : dcd cX8_word 22 = some (.lreturn, 23) := by decide +kernel
theorem dX8_wordOf_0 : dcd cX8_wordOf 0 = some (.lload_n 0, 1) := by decide +kernel
theorem dX8_wordOf_1 : dcd cX8_wordOf 1 = some (.bipush 97, 3) := by decide +kernel
theorem dX8_wordOf_3 : dcd cX8_wordOf 3 = some (.bipush 99, 5) := by decide +kernel
theorem dX8_wordOf_5 : dcd cX8_wordOf 5 = some (.bipush 116, 7) := by decide +kernel
theorem dX8_wordOf_7 : dcd cX8_wordOf 7 = some (.iconst 0, 8) := by decide +kernel
theorem dX8_wordOf_8 : dcd cX8_wordOf 8 = some (.iconst 0, 9) := by decide +kernel
theorem dX8_wordOf_9 : dcd cX8_wordOf 9 = some (.invokestatic 87, 12) := by decide +kernel
theorem dX8_wordOf_12 : dcd cX8_wordOf 12 = some (.lcmp, 13) := by decide +kernel
theorem dX8_wordOf_13 : dcd cX8_wordOf 13 = some (.ifCond .ne 7, 16) := by decide +kernel
theorem dX8_wordOf_16 : dcd cX8_wordOf 16 = some (.iconst 0, 17) := by decide +kernel
theorem dX8_wordOf_17 : dcd cX8_wordOf 17 = some (.goto 67, 20) := by decide +kernel
theorem dX8_wordOf_20 : dcd cX8_wordOf 20 = some (.lload_n 0, 21) := by decide +kernel
theorem dX8_wordOf_21 : dcd cX8_wordOf 21 = some (.bipush 102, 23) := by decide +kernel
theorem dX8_wordOf_23 : dcd cX8_wordOf 23 = some (.bipush 114, 25) := by decide +kernel
theorem dX8_wordOf_25 : dcd cX8_wordOf 25 = some (.bipush 111, 27) := by decide +kernel
theorem dX8_wordOf_27 : dcd cX8_wordOf 27 = some (.bipush 110, 29) := by decide +kernel
theorem dX8_wordOf_29 : dcd cX8_wordOf 29 = some (.bipush 116, 31) := by decide +kernel
theorem dX8_wordOf_31 : dcd cX8_wordOf 31 = some (.invokestatic 87, 34) := by decide +kernel
theorem dX8_wordOf_34 : dcd cX8_wordOf 34 = some (.lcmp, 35) := by decide +kernel
theorem dX8_wordOf_35 : dcd cX8_wordOf 35 = some (.ifCond .ne 7, 38) := by decide +kernel
theorem dX8_wordOf_38 : dcd cX8_wordOf 38 = some (.iconst 1, 39) := by decide +kernel
theorem dX8_wordOf_39 : dcd cX8_wordOf 39 = some (.goto 45, 42) := by decide +kernel
theorem dX8_wordOf_42 : dcd cX8_wordOf 42 = some (.lload_n 0, 43) := by decide +kernel
theorem dX8_wordOf_43 : dcd cX8_wordOf 43 = some (.bipush 115, 45) := by decide +kernel
theorem dX8_wordOf_45 : dcd cX8_wordOf 45 = some (.bipush 101, 47) := by decide +kernel
theorem dX8_wordOf_47 : dcd cX8_wordOf 47 = some (.bipush 116, 49) := by decide +kernel
theorem dX8_wordOf_49 : dcd cX8_wordOf 49 = some (.iconst 0, 50) := by decide +kernel
theorem dX8_wordOf_50 : dcd cX8_wordOf 50 = some (.iconst 0, 51) := by decide +kernel
theorem dX8_wordOf_51 : dcd cX8_wordOf 51 = some (.invokestatic 87, 54) := by decide +kernel
theorem dX8_wordOf_54 : dcd cX8_wordOf 54 = some (.lcmp, 55) := by decide +kernel
theorem dX8_wordOf_55 : dcd cX8_wordOf 55 = some (.ifCond .ne 7, 58) := by decide +kernel
theorem dX8_wordOf_58 : dcd cX8_wordOf 58 = some (.iconst 2, 59) := by decide +kernel
theorem dX8_wordOf_59 : dcd cX8_wordOf 59 = some (.goto 25, 62) := by decide +kernel
theorem dX8_wordOf_62 : dcd cX8_wordOf 62 = some (.lload_n 0, 63) := by decide +kernel
theorem dX8_wordOf_63 : dcd cX8_wordOf 63 = some (.bipush 115, 65) := by decide +kernel
theorem dX8_wordOf_65 : dcd cX8_wordOf 65 = some (.bipush 97, 67) := by decide +kernel
theorem dX8_wordOf_67 : dcd cX8_wordOf 67 = some (.bipush 100, 69) := by decide +kernel
theorem dX8_wordOf_69 : dcd cX8_wordOf 69 = some (.iconst 0, 70) := by decide +kernel
theorem dX8_wordOf_70 : dcd cX8_wordOf 70 = some (.iconst 0, 71) := by decide +kernel
theorem dX8_wordOf_71 : dcd cX8_wordOf 71 = some (.invokestatic 87, 74) := by decide +kernel
theorem dX8_wordOf_74 : dcd cX8_wordOf 74 = some (.lcmp, 75) := by decide +kernel
theorem dX8_wordOf_75 : dcd cX8_wordOf 75 = some (.ifCond .ne 7, 78) := by decide +kernel
theorem dX8_wordOf_78 : dcd cX8_wordOf 78 = some (.iconst 3, 79) := by decide +kernel
theorem dX8_wordOf_79 : dcd cX8_wordOf 79 = some (.goto 5, 82) := by decide +kernel
theorem dX8_wordOf_82 : dcd cX8_wordOf 82 = some (.bipush (-9), 84) := by decide +kernel
theorem dX8_wordOf_84 : dcd cX8_wordOf 84 = some (.istore_n 2, 85) := by decide +kernel
theorem dX8_wordOf_85 : dcd cX8_wordOf 85 = some (.iload_n 2, 86) := by decide +kernel
theorem dX8_wordOf_86 : dcd cX8_wordOf 86 = some (.bipush (-9), 88) := by decide +kernel
theorem dX8_wordOf_88 : dcd cX8_wordOf 88 = some (.if_icmp .eq 7, 91) := by decide +kernel
theorem dX8_wordOf_91 : dcd cX8_wordOf 91 = some (.iload_n 2, 92) := by decide +kernel
theorem dX8_wordOf_92 : dcd cX8_wordOf 92 = some (.goto 70, 95) := by decide +kernel
theorem dX8_wordOf_95 : dcd cX8_wordOf 95 = some (.lload_n 0, 96) := by decide +kernel
theorem dX8_wordOf_96 : dcd cX8_wordOf 96 = some (.bipush 108, 98) := by decide +kernel
theorem dX8_wordOf_98 : dcd cX8_wordOf 98 = some (.bipush 111, 100) := by decide +kernel
theorem dX8_wordOf_100 : dcd cX8_wordOf 100 = some (.bipush 117, 102) := by decide +kernel
theorem dX8_wordOf_102 : dcd cX8_wordOf 102 = some (.bipush 100, 104) := by decide +kernel
theorem dX8_wordOf_104 : dcd cX8_wordOf 104 = some (.iconst 0, 105) := by decide +kernel
theorem dX8_wordOf_105 : dcd cX8_wordOf 105 = some (.invokestatic 87, 108) := by decide +kernel
theorem dX8_wordOf_108 : dcd cX8_wordOf 108 = some (.lcmp, 109) := by decide +kernel
theorem dX8_wordOf_109 : dcd cX8_wordOf 109 = some (.ifCond .ne 7, 112) := by decide +kernel
theorem dX8_wordOf_112 : dcd cX8_wordOf 112 = some (.iconst 4, 113) := by decide +kernel
theorem dX8_wordOf_113 : dcd cX8_wordOf 113 = some (.goto 49, 116) := by decide +kernel
theorem dX8_wordOf_116 : dcd cX8_wordOf 116 = some (.lload_n 0, 117) := by decide +kernel
theorem dX8_wordOf_117 : dcd cX8_wordOf 117 = some (.bipush 116, 119) := by decide +kernel
theorem dX8_wordOf_119 : dcd cX8_wordOf 119 = some (.bipush 114, 121) := by decide +kernel
theorem dX8_wordOf_121 : dcd cX8_wordOf 121 = some (.bipush 97, 123) := by decide +kernel
theorem dX8_wordOf_123 : dcd cX8_wordOf 123 = some (.bipush 105, 125) := by decide +kernel
theorem dX8_wordOf_125 : dcd cX8_wordOf 125 = some (.bipush 110, 127) := by decide +kernel
theorem dX8_wordOf_127 : dcd cX8_wordOf 127 = some (.invokestatic 87, 130) := by decide +kernel
theorem dX8_wordOf_130 : dcd cX8_wordOf 130 = some (.lcmp, 131) := by decide +kernel
theorem dX8_wordOf_131 : dcd cX8_wordOf 131 = some (.ifCond .ne 7, 134) := by decide +kernel
theorem dX8_wordOf_134 : dcd cX8_wordOf 134 = some (.iconst 5, 135) := by decide +kernel
theorem dX8_wordOf_135 : dcd cX8_wordOf 135 = some (.goto 27, 138) := by decide +kernel
theorem dX8_wordOf_138 : dcd cX8_wordOf 138 = some (.lload_n 0, 139) := by decide +kernel
theorem dX8_wordOf_139 : dcd cX8_wordOf 139 = some (.bipush 102, 141) := by decide +kernel
theorem dX8_wordOf_141 : dcd cX8_wordOf 141 = some (.bipush 101, 143) := by decide +kernel
theorem dX8_wordOf_143 : dcd cX8_wordOf 143 = some (.bipush 117, 145) := by decide +kernel
theorem dX8_wordOf_145 : dcd cX8_wordOf 145 = some (.bipush 100, 147) := by decide +kernel
theorem dX8_wordOf_147 : dcd cX8_wordOf 147 = some (.iconst 0, 148) := by decide +kernel
theorem dX8_wordOf_148 : dcd cX8_wordOf 148 = some (.invokestatic 87, 151) := by decide +kernel
theorem dX8_wordOf_151 : dcd cX8_wordOf 151 = some (.lcmp, 152) := by decide +kernel
theorem dX8_wordOf_152 : dcd cX8_wordOf 152 = some (.ifCond .ne 8, 155) := by decide +kernel
theorem dX8_wordOf_155 : dcd cX8_wordOf 155 = some (.bipush 6, 157) := by decide +kernel
theorem dX8_wordOf_157 : dcd cX8_wordOf 157 = some (.goto 5, 160) := by decide +kernel
theorem dX8_wordOf_160 : dcd cX8_wordOf 160 = some (.bipush (-9), 162) := by decide +kernel
theorem dX8_wordOf_162 : dcd cX8_wordOf 162 = some (.ireturn, 163) := by decide +kernel
theorem dX8_advances_0 : dcd cX8_advances 0 = some (.aload_n 0, 1) := by decide +kernel
theorem dX8_advances_1 : dcd cX8_advances 1 = some (.aload_n 0, 2) := by decide +kernel
theorem dX8_advances_2 : dcd cX8_advances 2 = some (.getfield 91, 5) := by decide +kernel
theorem dX8_advances_5 : dcd cX8_advances 5 = some (.invokevirtual 94, 8) := by decide +kernel
theorem dX8_advances_8 : dcd cX8_advances 8 = some (.bipush 32, 10) := by decide +kernel
theorem dX8_advances_10 : dcd cX8_advances 10 = some (.if_icmp .ne 16, 13) := by decide +kernel
theorem dX8_advances_13 : dcd cX8_advances 13 = some (.aload_n 0, 14) := by decide +kernel
theorem dX8_advances_14 : dcd cX8_advances 14 = some (.dup, 15) := by decide +kernel
theorem dX8_advances_15 : dcd cX8_advances 15 = some (.getfield 91, 18) := by decide +kernel
theorem dX8_advances_18 : dcd cX8_advances 18 = some (.iconst 1, 19) := by decide +kernel
theorem dX8_advances_19 : dcd cX8_advances 19 = some (.iadd, 20) := by decide +kernel
theorem dX8_advances_20 : dcd cX8_advances 20 = some (.putfield 91, 23) := by decide +kernel
theorem dX8_advances_23 : dcd cX8_advances 23 = some (.goto (-23), 26) := by decide +kernel
theorem dX8_advances_26 : dcd cX8_advances 26 = some (.aload_n 0, 27) := by decide +kernel
theorem dX8_advances_27 : dcd cX8_advances 27 = some (.aload_n 0, 28) := by decide +kernel
theorem dX8_advances_28 : dcd cX8_advances 28 = some (.getfield 91, 31) := by decide +kernel
theorem dX8_advances_31 : dcd cX8_advances 31 = some (.putfield 98, 34) := by decide +kernel
theorem dX8_advances_34 : dcd cX8_advances 34 = some (.aload_n 0, 35) := by decide +kernel
theorem dX8_advances_35 : dcd cX8_advances 35 = some (.aload_n 0, 36) := by decide +kernel
theorem dX8_advances_36 : dcd cX8_advances 36 = some (.getfield 91, 39) := by decide +kernel
theorem dX8_advances_39 : dcd cX8_advances 39 = some (.invokevirtual 94, 42) := by decide +kernel
theorem dX8_advances_42 : dcd cX8_advances 42 = some (.istore_n 1, 43) := by decide +kernel
theorem dX8_advances_43 : dcd cX8_advances 43 = some (.iload_n 1, 44) := by decide +kernel
theorem dX8_advances_44 : dcd cX8_advances 44 = some (.ifCond .ge 11, 47) := by decide +kernel
theorem dX8_advances_47 : dcd cX8_advances 47 = some (.aload_n 0, 48) := by decide +kernel
theorem dX8_advances_48 : dcd cX8_advances 48 = some (.iconst 0, 49) := by decide +kernel
theorem dX8_advances_49 : dcd cX8_advances 49 = some (.putfield 101, 52) := by decide +kernel
theorem dX8_advances_52 : dcd cX8_advances 52 = some (.goto 260, 55) := by decide +kernel
theorem dX8_advances_55 : dcd cX8_advances 55 = some (.iload_n 1, 56) := by decide +kernel
theorem dX8_advances_56 : dcd cX8_advances 56 = some (.bipush 97, 58) := by decide +kernel
theorem dX8_advances_58 : dcd cX8_advances 58 = some (.bipush 122, 60) := by decide +kernel
theorem dX8_advances_60 : dcd cX8_advances 60 = some (.invokestatic 72, 63) := by decide +kernel
theorem dX8_advances_63 : dcd cX8_advances 63 = some (.ifCond .eq 96, 66) := by decide +kernel
theorem dX8_advances_66 : dcd cX8_advances 66 = some (.lconst 0, 67) := by decide +kernel
theorem dX8_advances_67 : dcd cX8_advances 67 = some (.lstore_n 2, 68) := by decide +kernel
theorem dX8_advances_68 : dcd cX8_advances 68 = some (.aload_n 0, 69) := by decide +kernel
theorem dX8_advances_69 : dcd cX8_advances 69 = some (.aload_n 0, 70) := by decide +kernel
theorem dX8_advances_70 : dcd cX8_advances 70 = some (.getfield 91, 73) := by decide +kernel
theorem dX8_advances_73 : dcd cX8_advances 73 = some (.invokevirtual 94, 76) := by decide +kernel
theorem dX8_advances_76 : dcd cX8_advances 76 = some (.bipush 97, 78) := by decide +kernel
theorem dX8_advances_78 : dcd cX8_advances 78 = some (.bipush 122, 80) := by decide +kernel
theorem dX8_advances_80 : dcd cX8_advances 80 = some (.invokestatic 72, 83) := by decide +kernel
theorem dX8_advances_83 : dcd cX8_advances 83 = some (.ifCond .eq 47, 86) := by decide +kernel
theorem dX8_advances_86 : dcd cX8_advances 86 = some (.aload_n 0, 87) := by decide +kernel
theorem dX8_advances_87 : dcd cX8_advances 87 = some (.getfield 91, 90) := by decide +kernel
theorem dX8_advances_90 : dcd cX8_advances 90 = some (.aload_n 0, 91) := by decide +kernel
theorem dX8_advances_91 : dcd cX8_advances 91 = some (.getfield 98, 94) := by decide +kernel
theorem dX8_advances_94 : dcd cX8_advances 94 = some (.isub, 95) := by decide +kernel
theorem dX8_advances_95 : dcd cX8_advances 95 = some (.bipush 6, 97) := by decide +kernel
theorem dX8_advances_97 : dcd cX8_advances 97 = some (.if_icmp .ge 18, 100) := by decide +kernel
theorem dX8_advances_100 : dcd cX8_advances 100 = some (.lload_n 2, 101) := by decide +kernel
theorem dX8_advances_101 : dcd cX8_advances 101 = some (.aload_n 0, 102) := by decide +kernel
theorem dX8_advances_102 : dcd cX8_advances 102 = some (.aload_n 0, 103) := by decide +kernel
theorem dX8_advances_103 : dcd cX8_advances 103 = some (.getfield 91, 106) := by decide +kernel
theorem dX8_advances_106 : dcd cX8_advances 106 = some (.invokevirtual 94, 109) := by decide +kernel
theorem dX8_advances_109 : dcd cX8_advances 109 = some (.invokestatic 83, 112) := by decide +kernel
theorem dX8_advances_112 : dcd cX8_advances 112 = some (.goto 4, 115) := by decide +kernel
theorem dX8_advances_115 : dcd cX8_advances 115 = some (.lload_n 2, 116) := by decide +kernel
theorem dX8_advances_116 : dcd cX8_advances 116 = some (.lstore_n 2, 117) := by decide +kernel
theorem dX8_advances_117 : dcd cX8_advances 117 = some (.aload_n 0, 118) := by decide +kernel
theorem dX8_advances_118 : dcd cX8_advances 118 = some (.dup, 119) := by decide +kernel
theorem dX8_advances_119 : dcd cX8_advances 119 = some (.getfield 91, 122) := by decide +kernel
theorem dX8_advances_122 : dcd cX8_advances 122 = some (.iconst 1, 123) := by decide +kernel
theorem dX8_advances_123 : dcd cX8_advances 123 = some (.iadd, 124) := by decide +kernel
theorem dX8_advances_124 : dcd cX8_advances 124 = some (.putfield 91, 127) := by decide +kernel
theorem dX8_advances_127 : dcd cX8_advances 127 = some (.goto (-59), 130) := by decide +kernel
theorem dX8_advances_130 : dcd cX8_advances 130 = some (.aload_n 0, 131) := by decide +kernel
theorem dX8_advances_131 : dcd cX8_advances 131 = some (.lload_n 2, 132) := by decide +kernel
theorem dX8_advances_132 : dcd cX8_advances 132 = some (.invokestatic 104, 135) := by decide +kernel
theorem dX8_advances_135 : dcd cX8_advances 135 = some (.putfield 108, 138) := by decide +kernel
theorem dX8_advances_138 : dcd cX8_advances 138 = some (.aload_n 0, 139) := by decide +kernel
theorem dX8_advances_139 : dcd cX8_advances 139 = some (.aload_n 0, 140) := by decide +kernel
theorem dX8_advances_140 : dcd cX8_advances 140 = some (.getfield 108, 143) := by decide +kernel
theorem dX8_advances_143 : dcd cX8_advances 143 = some (.bipush (-9), 145) := by decide +kernel
theorem dX8_advances_145 : dcd cX8_advances 145 = some (.if_icmp .ne 7, 148) := by decide +kernel
end
section
theorem dX8_advances_148 : dcd cX8_advances 148 = some (.iconst 4, 149) := by decide +kernel
theorem dX8_advances_149 : dcd cX8_advances 149 = some (.goto 4, 152) := by decide +kernel
theorem dX8_advances_152 : dcd cX8_advances 152 = some (.iconst 1, 153) := by decide +kernel
theorem dX8_advances_153 : dcd cX8_advances 153 = some (.putfield 101, 156) := by decide +kernel
theorem dX8_advances_156 : dcd cX8_advances 156 = some (.goto 156, 159) := by decide +kernel
theorem dX8_advances_159 : dcd cX8_advances 159 = some (.iload_n 1, 160) := by decide +kernel
theorem dX8_advances_160 : dcd cX8_advances 160 = some (.bipush 48, 162) := by decide +kernel
theorem dX8_advances_162 : dcd cX8_advances 162 = some (.bipush 57, 164) := by decide +kernel
theorem dX8_advances_164 : dcd cX8_advances 164 = some (.invokestatic 72, 167) := by decide +kernel
theorem dX8_advances_167 : dcd cX8_advances 167 = some (.ifCond .eq 120, 170) := by decide +kernel
theorem dX8_advances_170 : dcd cX8_advances 170 = some (.aload_n 0, 171) := by decide +kernel
theorem dX8_advances_171 : dcd cX8_advances 171 = some (.iconst 0, 172) := by decide +kernel
theorem dX8_advances_172 : dcd cX8_advances 172 = some (.putfield 108, 175) := by decide +kernel
theorem dX8_advances_175 : dcd cX8_advances 175 = some (.aload_n 0, 176) := by decide +kernel
theorem dX8_advances_176 : dcd cX8_advances 176 = some (.aload_n 0, 177) := by decide +kernel
theorem dX8_advances_177 : dcd cX8_advances 177 = some (.getfield 91, 180) := by decide +kernel
theorem dX8_advances_180 : dcd cX8_advances 180 = some (.invokevirtual 94, 183) := by decide +kernel
theorem dX8_advances_183 : dcd cX8_advances 183 = some (.bipush 48, 185) := by decide +kernel
theorem dX8_advances_185 : dcd cX8_advances 185 = some (.bipush 57, 187) := by decide +kernel
theorem dX8_advances_187 : dcd cX8_advances 187 = some (.invokestatic 72, 190) := by decide +kernel
theorem dX8_advances_190 : dcd cX8_advances 190 = some (.ifCond .eq 56, 193) := by decide +kernel
theorem dX8_advances_193 : dcd cX8_advances 193 = some (.aload_n 0, 194) := by decide +kernel
theorem dX8_advances_194 : dcd cX8_advances 194 = some (.aload_n 0, 195) := by decide +kernel
theorem dX8_advances_195 : dcd cX8_advances 195 = some (.getfield 108, 198) := by decide +kernel
theorem dX8_advances_198 : dcd cX8_advances 198 = some (.sipush 250, 201) := by decide +kernel
theorem dX8_advances_201 : dcd cX8_advances 201 = some (.if_icmp .le 10, 204) := by decide +kernel
theorem dX8_advances_204 : dcd cX8_advances 204 = some (.aload_n 0, 205) := by decide +kernel
theorem dX8_advances_205 : dcd cX8_advances 205 = some (.getfield 108, 208) := by decide +kernel
theorem dX8_advances_208 : dcd cX8_advances 208 = some (.goto 22, 211) := by decide +kernel
theorem dX8_advances_211 : dcd cX8_advances 211 = some (.bipush 10, 213) := by decide +kernel
theorem dX8_advances_213 : dcd cX8_advances 213 = some (.aload_n 0, 214) := by decide +kernel
theorem dX8_advances_214 : dcd cX8_advances 214 = some (.getfield 108, 217) := by decide +kernel
theorem dX8_advances_217 : dcd cX8_advances 217 = some (.imul, 218) := by decide +kernel
theorem dX8_advances_218 : dcd cX8_advances 218 = some (.aload_n 0, 219) := by decide +kernel
theorem dX8_advances_219 : dcd cX8_advances 219 = some (.aload_n 0, 220) := by decide +kernel
theorem dX8_advances_220 : dcd cX8_advances 220 = some (.getfield 91, 223) := by decide +kernel
theorem dX8_advances_223 : dcd cX8_advances 223 = some (.invokevirtual 94, 226) := by decide +kernel
theorem dX8_advances_226 : dcd cX8_advances 226 = some (.iadd, 227) := by decide +kernel
theorem dX8_advances_227 : dcd cX8_advances 227 = some (.bipush 48, 229) := by decide +kernel
theorem dX8_advances_229 : dcd cX8_advances 229 = some (.isub, 230) := by decide +kernel
theorem dX8_advances_230 : dcd cX8_advances 230 = some (.putfield 108, 233) := by decide +kernel
theorem dX8_advances_233 : dcd cX8_advances 233 = some (.aload_n 0, 234) := by decide +kernel
theorem dX8_advances_234 : dcd cX8_advances 234 = some (.dup, 235) := by decide +kernel
theorem dX8_advances_235 : dcd cX8_advances 235 = some (.getfield 91, 238) := by decide +kernel
theorem dX8_advances_238 : dcd cX8_advances 238 = some (.iconst 1, 239) := by decide +kernel
theorem dX8_advances_239 : dcd cX8_advances 239 = some (.iadd, 240) := by decide +kernel
theorem dX8_advances_240 : dcd cX8_advances 240 = some (.putfield 91, 243) := by decide +kernel
theorem dX8_advances_243 : dcd cX8_advances 243 = some (.goto (-68), 246) := by decide +kernel
theorem dX8_advances_246 : dcd cX8_advances 246 = some (.aload_n 0, 247) := by decide +kernel
theorem dX8_advances_247 : dcd cX8_advances 247 = some (.aload_n 0, 248) := by decide +kernel
theorem dX8_advances_248 : dcd cX8_advances 248 = some (.getfield 108, 251) := by decide +kernel
theorem dX8_advances_251 : dcd cX8_advances 251 = some (.sipush 250, 254) := by decide +kernel
theorem dX8_advances_254 : dcd cX8_advances 254 = some (.if_icmp .gt 22, 257) := by decide +kernel
theorem dX8_advances_257 : dcd cX8_advances 257 = some (.iload_n 1, 258) := by decide +kernel
theorem dX8_advances_258 : dcd cX8_advances 258 = some (.bipush 48, 260) := by decide +kernel
theorem dX8_advances_260 : dcd cX8_advances 260 = some (.if_icmp .ne 20, 263) := by decide +kernel
theorem dX8_advances_263 : dcd cX8_advances 263 = some (.aload_n 0, 264) := by decide +kernel
theorem dX8_advances_264 : dcd cX8_advances 264 = some (.getfield 91, 267) := by decide +kernel
theorem dX8_advances_267 : dcd cX8_advances 267 = some (.aload_n 0, 268) := by decide +kernel
theorem dX8_advances_268 : dcd cX8_advances 268 = some (.getfield 98, 271) := by decide +kernel
theorem dX8_advances_271 : dcd cX8_advances 271 = some (.isub, 272) := by decide +kernel
theorem dX8_advances_272 : dcd cX8_advances 272 = some (.iconst 1, 273) := by decide +kernel
theorem dX8_advances_273 : dcd cX8_advances 273 = some (.if_icmp .le 7, 276) := by decide +kernel
theorem dX8_advances_276 : dcd cX8_advances 276 = some (.iconst 4, 277) := by decide +kernel
theorem dX8_advances_277 : dcd cX8_advances 277 = some (.goto 4, 280) := by decide +kernel
theorem dX8_advances_280 : dcd cX8_advances 280 = some (.iconst 2, 281) := by decide +kernel
theorem dX8_advances_281 : dcd cX8_advances 281 = some (.putfield 101, 284) := by decide +kernel
theorem dX8_advances_284 : dcd cX8_advances 284 = some (.goto 28, 287) := by decide +kernel
theorem dX8_advances_287 : dcd cX8_advances 287 = some (.aload_n 0, 288) := by decide +kernel
theorem dX8_advances_288 : dcd cX8_advances 288 = some (.dup, 289) := by decide +kernel
theorem dX8_advances_289 : dcd cX8_advances 289 = some (.getfield 91, 292) := by decide +kernel
theorem dX8_advances_292 : dcd cX8_advances 292 = some (.iconst 1, 293) := by decide +kernel
theorem dX8_advances_293 : dcd cX8_advances 293 = some (.iadd, 294) := by decide +kernel
theorem dX8_advances_294 : dcd cX8_advances 294 = some (.putfield 91, 297) := by decide +kernel
theorem dX8_advances_297 : dcd cX8_advances 297 = some (.aload_n 0, 298) := by decide +kernel
theorem dX8_advances_298 : dcd cX8_advances 298 = some (.iload_n 1, 299) := by decide +kernel
theorem dX8_advances_299 : dcd cX8_advances 299 = some (.bipush 59, 301) := by decide +kernel
theorem dX8_advances_301 : dcd cX8_advances 301 = some (.if_icmp .ne 7, 304) := by decide +kernel
theorem dX8_advances_304 : dcd cX8_advances 304 = some (.iconst 3, 305) := by decide +kernel
theorem dX8_advances_305 : dcd cX8_advances 305 = some (.goto 4, 308) := by decide +kernel
theorem dX8_advances_308 : dcd cX8_advances 308 = some (.iconst 4, 309) := by decide +kernel
theorem dX8_advances_309 : dcd cX8_advances 309 = some (.putfield 101, 312) := by decide +kernel
theorem dX8_advances_312 : dcd cX8_advances 312 = some (.return_, 313) := by decide +kernel
theorem dX8_isWell_0 : dcd cX8_isWell 0 = some (.aload_n 0, 1) := by decide +kernel
theorem dX8_isWell_1 : dcd cX8_isWell 1 = some (.getfield 111, 4) := by decide +kernel
theorem dX8_isWell_4 : dcd cX8_isWell 4 = some (.ifCond .ge 7, 7) := by decide +kernel
theorem dX8_isWell_7 : dcd cX8_isWell 7 = some (.iconst 1, 8) := by decide +kernel
theorem dX8_isWell_8 : dcd cX8_isWell 8 = some (.goto 4, 11) := by decide +kernel
theorem dX8_isWell_11 : dcd cX8_isWell 11 = some (.iconst 0, 12) := by decide +kernel
theorem dX8_isWell_12 : dcd cX8_isWell 12 = some (.ireturn, 13) := by decide +kernel
theorem dX8_takes_0 : dcd cX8_takes 0 = some (.aload_n 0, 1) := by decide +kernel
theorem dX8_takes_1 : dcd cX8_takes 1 = some (.invokevirtual 114, 4) := by decide +kernel
theorem dX8_takes_4 : dcd cX8_takes 4 = some (.ifCond .ne 5, 7) := by decide +kernel
theorem dX8_takes_7 : dcd cX8_takes 7 = some (.iconst 0, 8) := by decide +kernel
theorem dX8_takes_8 : dcd cX8_takes 8 = some (.ireturn, 9) := by decide +kernel
theorem dX8_takes_9 : dcd cX8_takes 9 = some (.iload_n 1, 10) := by decide +kernel
theorem dX8_takes_10 : dcd cX8_takes 10 = some (.ifCond .ne 13, 13) := by decide +kernel
theorem dX8_takes_13 : dcd cX8_takes 13 = some (.aload_n 0, 14) := by decide +kernel
theorem dX8_takes_14 : dcd cX8_takes 14 = some (.aload_n 0, 15) := by decide +kernel
theorem dX8_takes_15 : dcd cX8_takes 15 = some (.getfield 98, 18) := by decide +kernel
theorem dX8_takes_18 : dcd cX8_takes 18 = some (.putfield 111, 21) := by decide +kernel
theorem dX8_takes_21 : dcd cX8_takes 21 = some (.iconst 0, 22) := by decide +kernel
theorem dX8_takes_22 : dcd cX8_takes 22 = some (.ireturn, 23) := by decide +kernel
theorem dX8_takes_23 : dcd cX8_takes 23 = some (.aload_n 0, 24) := by decide +kernel
theorem dX8_takes_24 : dcd cX8_takes 24 = some (.getfield 108, 27) := by decide +kernel
theorem dX8_takes_27 : dcd cX8_takes 27 = some (.istore_n 2, 28) := by decide +kernel
theorem dX8_takes_28 : dcd cX8_takes 28 = some (.aload_n 0, 29) := by decide +kernel
theorem dX8_takes_29 : dcd cX8_takes 29 = some (.invokevirtual 118, 32) := by decide +kernel
theorem dX8_takes_32 : dcd cX8_takes 32 = some (.iload_n 2, 33) := by decide +kernel
theorem dX8_takes_33 : dcd cX8_takes 33 = some (.ireturn, 34) := by decide +kernel
theorem dX8_number_0 : dcd cX8_number 0 = some (.aload_n 0, 1) := by decide +kernel
theorem dX8_number_1 : dcd cX8_number 1 = some (.aload_n 0, 2) := by decide +kernel
theorem dX8_number_2 : dcd cX8_number 2 = some (.getfield 101, 5) := by decide +kernel
theorem dX8_number_5 : dcd cX8_number 5 = some (.iconst 2, 6) := by decide +kernel
theorem dX8_number_6 : dcd cX8_number 6 = some (.if_icmp .ne 19, 9) := by decide +kernel
theorem dX8_number_9 : dcd cX8_number 9 = some (.aload_n 0, 10) := by decide +kernel
theorem dX8_number_10 : dcd cX8_number 10 = some (.getfield 108, 13) := by decide +kernel
theorem dX8_number_13 : dcd cX8_number 13 = some (.iload_n 1, 14) := by decide +kernel
theorem dX8_number_14 : dcd cX8_number 14 = some (.iload_n 2, 15) := by decide +kernel
theorem dX8_number_15 : dcd cX8_number 15 = some (.invokestatic 72, 18) := by decide +kernel
theorem dX8_number_18 : dcd cX8_number 18 = some (.ifCond .eq 7, 21) := by decide +kernel
theorem dX8_number_21 : dcd cX8_number 21 = some (.iconst 1, 22) := by decide +kernel
theorem dX8_number_22 : dcd cX8_number 22 = some (.goto 4, 25) := by decide +kernel
theorem dX8_number_25 : dcd cX8_number 25 = some (.iconst 0, 26) := by decide +kernel
theorem dX8_number_26 : dcd cX8_number 26 = some (.invokevirtual 121, 29) := by decide +kernel
theorem dX8_number_29 : dcd cX8_number 29 = some (.ireturn, 30) := by decide +kernel
theorem dX8_isWord_0 : dcd cX8_isWord 0 = some (.aload_n 0, 1) := by decide +kernel
theorem dX8_isWord_1 : dcd cX8_isWord 1 = some (.invokevirtual 114, 4) := by decide +kernel
theorem dX8_isWord_4 : dcd cX8_isWord 4 = some (.ifCond .eq 23, 7) := by decide +kernel
theorem dX8_isWord_7 : dcd cX8_isWord 7 = some (.aload_n 0, 8) := by decide +kernel
theorem dX8_isWord_8 : dcd cX8_isWord 8 = some (.getfield 101, 11) := by decide +kernel
theorem dX8_isWord_11 : dcd cX8_isWord 11 = some (.iconst 1, 12) := by decide +kernel
theorem dX8_isWord_12 : dcd cX8_isWord 12 = some (.if_icmp .ne 15, 15) := by decide +kernel
theorem dX8_isWord_15 : dcd cX8_isWord 15 = some (.aload_n 0, 16) := by decide +kernel
theorem dX8_isWord_16 : dcd cX8_isWord 16 = some (.getfield 108, 19) := by decide +kernel
theorem dX8_isWord_19 : dcd cX8_isWord 19 = some (.iload_n 1, 20) := by decide +kernel
theorem dX8_isWord_20 : dcd cX8_isWord 20 = some (.if_icmp .ne 7, 23) := by decide +kernel
theorem dX8_isWord_23 : dcd cX8_isWord 23 = some (.iconst 1, 24) := by decide +kernel
theorem dX8_isWord_24 : dcd cX8_isWord 24 = some (.goto 4, 27) := by decide +kernel
theorem dX8_isWord_27 : dcd cX8_isWord 27 = some (.iconst 0, 28) := by decide +kernel
theorem dX8_isWord_28 : dcd cX8_isWord 28 = some (.ireturn, 29) := by decide +kernel
theorem dX8_readsAct_0 : dcd cX8_readsAct 0 = some (.bipush 9, 2) := by decide +kernel
theorem dX8_readsAct_2 : dcd cX8_readsAct 2 = some (.bipush 10, 4) := by decide +kernel
theorem dX8_readsAct_4 : dcd cX8_readsAct 4 = some (.aload_n 0, 5) := by decide +kernel
theorem dX8_readsAct_5 : dcd cX8_readsAct 5 = some (.getfield 125, 8) := by decide +kernel
theorem dX8_readsAct_8 : dcd cX8_readsAct 8 = some (.iadd, 9) := by decide +kernel
theorem dX8_readsAct_9 : dcd cX8_readsAct 9 = some (.imul, 10) := by decide +kernel
theorem dX8_readsAct_10 : dcd cX8_readsAct 10 = some (.istore_n 1, 11) := by decide +kernel
theorem dX8_readsAct_11 : dcd cX8_readsAct 11 = some (.aload_n 0, 12) := by decide +kernel
theorem dX8_readsAct_12 : dcd cX8_readsAct 12 = some (.getfield 13, 15) := by decide +kernel
theorem dX8_readsAct_15 : dcd cX8_readsAct 15 = some (.iload_n 1, 16) := by decide +kernel
theorem dX8_readsAct_16 : dcd cX8_readsAct 16 = some (.iconst 0, 17) := by decide +kernel
theorem dX8_readsAct_17 : dcd cX8_readsAct 17 = some (.iadd, 18) := by decide +kernel
theorem dX8_readsAct_18 : dcd cX8_readsAct 18 = some (.aload_n 0, 19) := by decide +kernel
theorem dX8_readsAct_19 : dcd cX8_readsAct 19 = some (.iconst 0, 20) := by decide +kernel
theorem dX8_readsAct_20 : dcd cX8_readsAct 20 = some (.iconst 5, 21) := by decide +kernel
theorem dX8_readsAct_21 : dcd cX8_readsAct 21 = some (.invokevirtual 128, 24) := by decide +kernel
theorem dX8_readsAct_24 : dcd cX8_readsAct 24 = some (.iastore, 25) := by decide +kernel
theorem dX8_readsAct_25 : dcd cX8_readsAct 25 = some (.aload_n 0, 26) := by decide +kernel
theorem dX8_readsAct_26 : dcd cX8_readsAct 26 = some (.getfield 13, 29) := by decide +kernel
theorem dX8_readsAct_29 : dcd cX8_readsAct 29 = some (.iload_n 1, 30) := by decide +kernel
theorem dX8_readsAct_30 : dcd cX8_readsAct 30 = some (.iconst 1, 31) := by decide +kernel
theorem dX8_readsAct_31 : dcd cX8_readsAct 31 = some (.iadd, 32) := by decide +kernel
theorem dX8_readsAct_32 : dcd cX8_readsAct 32 = some (.aload_n 0, 33) := by decide +kernel
theorem dX8_readsAct_33 : dcd cX8_readsAct 33 = some (.iconst 1, 34) := by decide +kernel
theorem dX8_readsAct_34 : dcd cX8_readsAct 34 = some (.bipush 30, 36) := by decide +kernel
theorem dX8_readsAct_36 : dcd cX8_readsAct 36 = some (.invokevirtual 128, 39) := by decide +kernel
theorem dX8_readsAct_39 : dcd cX8_readsAct 39 = some (.iastore, 40) := by decide +kernel
theorem dX8_readsAct_40 : dcd cX8_readsAct 40 = some (.aload_n 0, 41) := by decide +kernel
theorem dX8_readsAct_41 : dcd cX8_readsAct 41 = some (.getfield 13, 44) := by decide +kernel
theorem dX8_readsAct_44 : dcd cX8_readsAct 44 = some (.iload_n 1, 45) := by decide +kernel
theorem dX8_readsAct_45 : dcd cX8_readsAct 45 = some (.iconst 2, 46) := by decide +kernel
theorem dX8_readsAct_46 : dcd cX8_readsAct 46 = some (.iadd, 47) := by decide +kernel
theorem dX8_readsAct_47 : dcd cX8_readsAct 47 = some (.aload_n 0, 48) := by decide +kernel
theorem dX8_readsAct_48 : dcd cX8_readsAct 48 = some (.iconst 0, 49) := by decide +kernel
theorem dX8_readsAct_49 : dcd cX8_readsAct 49 = some (.bipush 30, 51) := by decide +kernel
theorem dX8_readsAct_51 : dcd cX8_readsAct 51 = some (.invokevirtual 128, 54) := by decide +kernel
theorem dX8_readsAct_54 : dcd cX8_readsAct 54 = some (.iastore, 55) := by decide +kernel
theorem dX8_readsAct_55 : dcd cX8_readsAct 55 = some (.aload_n 0, 56) := by decide +kernel
theorem dX8_readsAct_56 : dcd cX8_readsAct 56 = some (.getfield 13, 59) := by decide +kernel
theorem dX8_readsAct_59 : dcd cX8_readsAct 59 = some (.iload_n 1, 60) := by decide +kernel
theorem dX8_readsAct_60 : dcd cX8_readsAct 60 = some (.iconst 3, 61) := by decide +kernel
theorem dX8_readsAct_61 : dcd cX8_readsAct 61 = some (.iadd, 62) := by decide +kernel
theorem dX8_readsAct_62 : dcd cX8_readsAct 62 = some (.iconst 0, 63) := by decide +kernel
theorem dX8_readsAct_63 : dcd cX8_readsAct 63 = some (.iastore, 64) := by decide +kernel
theorem dX8_readsAct_64 : dcd cX8_readsAct 64 = some (.aload_n 0, 65) := by decide +kernel
theorem dX8_readsAct_65 : dcd cX8_readsAct 65 = some (.getfield 13, 68) := by decide +kernel
theorem dX8_readsAct_68 : dcd cX8_readsAct 68 = some (.iload_n 1, 69) := by decide +kernel
theorem dX8_readsAct_69 : dcd cX8_readsAct 69 = some (.iconst 4, 70) := by decide +kernel
theorem dX8_readsAct_70 : dcd cX8_readsAct 70 = some (.iadd, 71) := by decide +kernel
theorem dX8_readsAct_71 : dcd cX8_readsAct 71 = some (.iconst 0, 72) := by decide +kernel
theorem dX8_readsAct_72 : dcd cX8_readsAct 72 = some (.iastore, 73) := by decide +kernel
theorem dX8_readsAct_73 : dcd cX8_readsAct 73 = some (.aload_n 0, 74) := by decide +kernel
theorem dX8_readsAct_74 : dcd cX8_readsAct 74 = some (.getfield 13, 77) := by decide +kernel
theorem dX8_readsAct_77 : dcd cX8_readsAct 77 = some (.iload_n 1, 78) := by decide +kernel
theorem dX8_readsAct_78 : dcd cX8_readsAct 78 = some (.iconst 5, 79) := by decide +kernel
theorem dX8_readsAct_79 : dcd cX8_readsAct 79 = some (.iadd, 80) := by decide +kernel
theorem dX8_readsAct_80 : dcd cX8_readsAct 80 = some (.iconst 0, 81) := by decide +kernel
theorem dX8_readsAct_81 : dcd cX8_readsAct 81 = some (.iastore, 82) := by decide +kernel
theorem dX8_readsAct_82 : dcd cX8_readsAct 82 = some (.aload_n 0, 83) := by decide +kernel
theorem dX8_readsAct_83 : dcd cX8_readsAct 83 = some (.getfield 13, 86) := by decide +kernel
theorem dX8_readsAct_86 : dcd cX8_readsAct 86 = some (.iload_n 1, 87) := by decide +kernel
theorem dX8_readsAct_87 : dcd cX8_readsAct 87 = some (.bipush 6, 89) := by decide +kernel
theorem dX8_readsAct_89 : dcd cX8_readsAct 89 = some (.iadd, 90) := by decide +kernel
theorem dX8_readsAct_90 : dcd cX8_readsAct 90 = some (.iconst 0, 91) := by decide +kernel
theorem dX8_readsAct_91 : dcd cX8_readsAct 91 = some (.iastore, 92) := by decide +kernel
theorem dX8_readsAct_92 : dcd cX8_readsAct 92 = some (.aload_n 0, 93) := by decide +kernel
theorem dX8_readsAct_93 : dcd cX8_readsAct 93 = some (.getfield 13, 96) := by decide +kernel
theorem dX8_readsAct_96 : dcd cX8_readsAct 96 = some (.iload_n 1, 97) := by decide +kernel
theorem dX8_readsAct_97 : dcd cX8_readsAct 97 = some (.bipush 7, 99) := by decide +kernel
theorem dX8_readsAct_99 : dcd cX8_readsAct 99 = some (.iadd, 100) := by decide +kernel
theorem dX8_readsAct_100 : dcd cX8_readsAct 100 = some (.iconst 0, 101) := by decide +kernel
theorem dX8_readsAct_101 : dcd cX8_readsAct 101 = some (.iastore, 102) := by decide +kernel
theorem dX8_readsAct_102 : dcd cX8_readsAct 102 = some (.aload_n 0, 103) := by decide +kernel
theorem dX8_readsAct_103 : dcd cX8_readsAct 103 = some (.getfield 13, 106) := by decide +kernel
theorem dX8_readsAct_106 : dcd cX8_readsAct 106 = some (.iload_n 1, 107) := by decide +kernel
theorem dX8_readsAct_107 : dcd cX8_readsAct 107 = some (.bipush 8, 109) := by decide +kernel
theorem dX8_readsAct_109 : dcd cX8_readsAct 109 = some (.iadd, 110) := by decide +kernel
theorem dX8_readsAct_110 : dcd cX8_readsAct 110 = some (.iconst 0, 111) := by decide +kernel
theorem dX8_readsAct_111 : dcd cX8_readsAct 111 = some (.iastore, 112) := by decide +kernel
theorem dX8_readsAct_112 : dcd cX8_readsAct 112 = some (.aload_n 0, 113) := by decide +kernel
theorem dX8_readsAct_113 : dcd cX8_readsAct 113 = some (.iconst 1, 114) := by decide +kernel
theorem dX8_readsAct_114 : dcd cX8_readsAct 114 = some (.invokevirtual 132, 117) := by decide +kernel
theorem dX8_readsAct_117 : dcd cX8_readsAct 117 = some (.ifCond .eq 19, 120) := by decide +kernel
theorem dX8_readsAct_120 : dcd cX8_readsAct 120 = some (.aload_n 0, 121) := by decide +kernel
theorem dX8_readsAct_121 : dcd cX8_readsAct 121 = some (.getfield 13, 124) := by decide +kernel
theorem dX8_readsAct_124 : dcd cX8_readsAct 124 = some (.iload_n 1, 125) := by decide +kernel
theorem dX8_readsAct_125 : dcd cX8_readsAct 125 = some (.iconst 3, 126) := by decide +kernel
theorem dX8_readsAct_126 : dcd cX8_readsAct 126 = some (.iadd, 127) := by decide +kernel
theorem dX8_readsAct_127 : dcd cX8_readsAct 127 = some (.iconst 1, 128) := by decide +kernel
theorem dX8_readsAct_128 : dcd cX8_readsAct 128 = some (.iastore, 129) := by decide +kernel
theorem dX8_readsAct_129 : dcd cX8_readsAct 129 = some (.aload_n 0, 130) := by decide +kernel
theorem dX8_readsAct_130 : dcd cX8_readsAct 130 = some (.invokevirtual 118, 133) := by decide +kernel
theorem dX8_readsAct_133 : dcd cX8_readsAct 133 = some (.goto 45, 136) := by decide +kernel
theorem dX8_readsAct_136 : dcd cX8_readsAct 136 = some (.aload_n 0, 137) := by decide +kernel
theorem dX8_readsAct_137 : dcd cX8_readsAct 137 = some (.iconst 2, 138) := by decide +kernel
theorem dX8_readsAct_138 : dcd cX8_readsAct 138 = some (.invokevirtual 132, 141) := by decide +kernel
theorem dX8_readsAct_141 : dcd cX8_readsAct 141 = some (.ifCond .eq 37, 144) := by decide +kernel
theorem dX8_readsAct_144 : dcd cX8_readsAct 144 = some (.aload_n 0, 145) := by decide +kernel
theorem dX8_readsAct_145 : dcd cX8_readsAct 145 = some (.invokevirtual 118, 148) := by decide +kernel
theorem dX8_readsAct_148 : dcd cX8_readsAct 148 = some (.aload_n 0, 149) := by decide +kernel
theorem dX8_readsAct_149 : dcd cX8_readsAct 149 = some (.getfield 13, 152) := by decide +kernel
theorem dX8_readsAct_152 : dcd cX8_readsAct 152 = some (.iload_n 1, 153) := by decide +kernel
theorem dX8_readsAct_153 : dcd cX8_readsAct 153 = some (.iconst 4, 154) := by decide +kernel
theorem dX8_readsAct_154 : dcd cX8_readsAct 154 = some (.iadd, 155) := by decide +kernel
theorem dX8_readsAct_155 : dcd cX8_readsAct 155 = some (.aload_n 0, 156) := by decide +kernel
theorem dX8_readsAct_156 : dcd cX8_readsAct 156 = some (.iconst 0, 157) := by decide +kernel
theorem dX8_readsAct_157 : dcd cX8_readsAct 157 = some (.bipush 9, 159) := by decide +kernel
theorem dX8_readsAct_159 : dcd cX8_readsAct 159 = some (.invokevirtual 128, 162) := by decide +kernel
theorem dX8_readsAct_162 : dcd cX8_readsAct 162 = some (.iastore, 163) := by decide +kernel
theorem dX8_readsAct_163 : dcd cX8_readsAct 163 = some (.aload_n 0, 164) := by decide +kernel
theorem dX8_readsAct_164 : dcd cX8_readsAct 164 = some (.getfield 13, 167) := by decide +kernel
theorem dX8_readsAct_167 : dcd cX8_readsAct 167 = some (.iload_n 1, 168) := by decide +kernel
theorem dX8_readsAct_168 : dcd cX8_readsAct 168 = some (.iconst 5, 169) := by decide +kernel
theorem dX8_readsAct_169 : dcd cX8_readsAct 169 = some (.iadd, 170) := by decide +kernel
theorem dX8_readsAct_170 : dcd cX8_readsAct 170 = some (.aload_n 0, 171) := by decide +kernel
theorem dX8_readsAct_171 : dcd cX8_readsAct 171 = some (.iconst 0, 172) := by decide +kernel
theorem dX8_readsAct_172 : dcd cX8_readsAct 172 = some (.bipush 9, 174) := by decide +kernel
theorem dX8_readsAct_174 : dcd cX8_readsAct 174 = some (.invokevirtual 128, 177) := by decide +kernel
theorem dX8_readsAct_177 : dcd cX8_readsAct 177 = some (.iastore, 178) := by decide +kernel
theorem dX8_readsAct_178 : dcd cX8_readsAct 178 = some (.aload_n 0, 179) := by decide +kernel
theorem dX8_readsAct_179 : dcd cX8_readsAct 179 = some (.iconst 3, 180) := by decide +kernel
theorem dX8_readsAct_180 : dcd cX8_readsAct 180 = some (.invokevirtual 132, 183) := by decide +kernel
theorem dX8_readsAct_183 : dcd cX8_readsAct 183 = some (.ifCond .ne 11, 186) := by decide +kernel
theorem dX8_readsAct_186 : dcd cX8_readsAct 186 = some (.aload_n 0, 187) := by decide +kernel
theorem dX8_readsAct_187 : dcd cX8_readsAct 187 = some (.iconst 4, 188) := by decide +kernel
theorem dX8_readsAct_188 : dcd cX8_readsAct 188 = some (.invokevirtual 132, 191) := by decide +kernel
theorem dX8_readsAct_191 : dcd cX8_readsAct 191 = some (.ifCond .eq 29, 194) := by decide +kernel
theorem dX8_readsAct_194 : dcd cX8_readsAct 194 = some (.aload_n 0, 195) := by decide +kernel
theorem dX8_readsAct_195 : dcd cX8_readsAct 195 = some (.getfield 13, 198) := by decide +kernel
theorem dX8_readsAct_198 : dcd cX8_readsAct 198 = some (.iload_n 1, 199) := by decide +kernel
theorem dX8_readsAct_199 : dcd cX8_readsAct 199 = some (.bipush 6, 201) := by decide +kernel
theorem dX8_readsAct_201 : dcd cX8_readsAct 201 = some (.iadd, 202) := by decide +kernel
theorem dX8_readsAct_202 : dcd cX8_readsAct 202 = some (.aload_n 0, 203) := by decide +kernel
theorem dX8_readsAct_203 : dcd cX8_readsAct 203 = some (.getfield 108, 206) := by decide +kernel
theorem dX8_readsAct_206 : dcd cX8_readsAct 206 = some (.iconst 3, 207) := by decide +kernel
theorem dX8_readsAct_207 : dcd cX8_readsAct 207 = some (.if_icmp .ne 7, 210) := by decide +kernel
theorem dX8_readsAct_210 : dcd cX8_readsAct 210 = some (.iconst 1, 211) := by decide +kernel
theorem dX8_readsAct_211 : dcd cX8_readsAct 211 = some (.goto 4, 214) := by decide +kernel
theorem dX8_readsAct_214 : dcd cX8_readsAct 214 = some (.iconst 2, 215) := by decide +kernel
theorem dX8_readsAct_215 : dcd cX8_readsAct 215 = some (.iastore, 216) := by decide +kernel
theorem dX8_readsAct_216 : dcd cX8_readsAct 216 = some (.aload_n 0, 217) := by decide +kernel
theorem dX8_readsAct_217 : dcd cX8_readsAct 217 = some (.invokevirtual 118, 220) := by decide +kernel
theorem dX8_readsAct_220 : dcd cX8_readsAct 220 = some (.aload_n 0, 221) := by decide +kernel
theorem dX8_readsAct_221 : dcd cX8_readsAct 221 = some (.iconst 5, 222) := by decide +kernel
theorem dX8_readsAct_222 : dcd cX8_readsAct 222 = some (.invokevirtual 132, 225) := by decide +kernel
theorem dX8_readsAct_225 : dcd cX8_readsAct 225 = some (.ifCond .eq 24, 228) := by decide +kernel
theorem dX8_readsAct_228 : dcd cX8_readsAct 228 = some (.aload_n 0, 229) := by decide +kernel
theorem dX8_readsAct_229 : dcd cX8_readsAct 229 = some (.invokevirtual 118, 232) := by decide +kernel
theorem dX8_readsAct_232 : dcd cX8_readsAct 232 = some (.aload_n 0, 233) := by decide +kernel
theorem dX8_readsAct_233 : dcd cX8_readsAct 233 = some (.getfield 13, 236) := by decide +kernel
theorem dX8_readsAct_236 : dcd cX8_readsAct 236 = some (.iload_n 1, 237) := by decide +kernel
theorem dX8_readsAct_237 : dcd cX8_readsAct 237 = some (.bipush 7, 239) := by decide +kernel
theorem dX8_readsAct_239 : dcd cX8_readsAct 239 = some (.iadd, 240) := by decide +kernel
theorem dX8_readsAct_240 : dcd cX8_readsAct 240 = some (.aload_n 0, 241) := by decide +kernel
theorem dX8_readsAct_241 : dcd cX8_readsAct 241 = some (.iconst 1, 242) := by decide +kernel
theorem dX8_readsAct_242 : dcd cX8_readsAct 242 = some (.sipush 250, 245) := by decide +kernel
theorem dX8_readsAct_245 : dcd cX8_readsAct 245 = some (.invokevirtual 128, 248) := by decide +kernel
theorem dX8_readsAct_248 : dcd cX8_readsAct 248 = some (.iastore, 249) := by decide +kernel
theorem dX8_readsAct_249 : dcd cX8_readsAct 249 = some (.aload_n 0, 250) := by decide +kernel
theorem dX8_readsAct_250 : dcd cX8_readsAct 250 = some (.dup, 251) := by decide +kernel
theorem dX8_readsAct_251 : dcd cX8_readsAct 251 = some (.getfield 125, 254) := by decide +kernel
theorem dX8_readsAct_254 : dcd cX8_readsAct 254 = some (.iconst 1, 255) := by decide +kernel
theorem dX8_readsAct_255 : dcd cX8_readsAct 255 = some (.iadd, 256) := by decide +kernel
theorem dX8_readsAct_256 : dcd cX8_readsAct 256 = some (.putfield 125, 259) := by decide +kernel
theorem dX8_readsAct_259 : dcd cX8_readsAct 259 = some (.return_, 260) := by decide +kernel
theorem dX8_readsFeud_0 : dcd cX8_readsFeud 0 = some (.aload_n 0, 1) := by decide +kernel
theorem dX8_readsFeud_1 : dcd cX8_readsFeud 1 = some (.iconst 0, 2) := by decide +kernel
theorem dX8_readsFeud_2 : dcd cX8_readsFeud 2 = some (.aload_n 0, 3) := by decide +kernel
theorem dX8_readsFeud_3 : dcd cX8_readsFeud 3 = some (.getfield 125, 6) := by decide +kernel
theorem dX8_readsFeud_6 : dcd cX8_readsFeud 6 = some (.iconst 1, 7) := by decide +kernel
theorem dX8_readsFeud_7 : dcd cX8_readsFeud 7 = some (.isub, 8) := by decide +kernel
theorem dX8_readsFeud_8 : dcd cX8_readsFeud 8 = some (.invokevirtual 128, 11) := by decide +kernel
theorem dX8_readsFeud_11 : dcd cX8_readsFeud 11 = some (.istore_n 1, 12) := by decide +kernel
theorem dX8_readsFeud_12 : dcd cX8_readsFeud 12 = some (.aload_n 0, 13) := by decide +kernel
theorem dX8_readsFeud_13 : dcd cX8_readsFeud 13 = some (.aload_n 0, 14) := by decide +kernel
theorem dX8_readsFeud_14 : dcd cX8_readsFeud 14 = some (.getfield 101, 17) := by decide +kernel
theorem dX8_readsFeud_17 : dcd cX8_readsFeud 17 = some (.iconst 2, 18) := by decide +kernel
theorem dX8_readsFeud_18 : dcd cX8_readsFeud 18 = some (.if_icmp .ne 32, 21) := by decide +kernel
theorem dX8_readsFeud_21 : dcd cX8_readsFeud 21 = some (.aload_n 0, 22) := by decide +kernel
theorem dX8_readsFeud_22 : dcd cX8_readsFeud 22 = some (.getfield 108, 25) := by decide +kernel
theorem dX8_readsFeud_25 : dcd cX8_readsFeud 25 = some (.iconst 0, 26) := by decide +kernel
theorem dX8_readsFeud_26 : dcd cX8_readsFeud 26 = some (.aload_n 0, 27) := by decide +kernel
theorem dX8_readsFeud_27 : dcd cX8_readsFeud 27 = some (.getfield 125, 30) := by decide +kernel
theorem dX8_readsFeud_30 : dcd cX8_readsFeud 30 = some (.iconst 1, 31) := by decide +kernel
theorem dX8_readsFeud_31 : dcd cX8_readsFeud 31 = some (.isub, 32) := by decide +kernel
theorem dX8_readsFeud_32 : dcd cX8_readsFeud 32 = some (.invokestatic 72, 35) := by decide +kernel
theorem dX8_readsFeud_35 : dcd cX8_readsFeud 35 = some (.ifCond .eq 15, 38) := by decide +kernel
theorem dX8_readsFeud_38 : dcd cX8_readsFeud 38 = some (.aload_n 0, 39) := by decide +kernel
theorem dX8_readsFeud_39 : dcd cX8_readsFeud 39 = some (.getfield 108, 42) := by decide +kernel
theorem dX8_readsFeud_42 : dcd cX8_readsFeud 42 = some (.iload_n 1, 43) := by decide +kernel
theorem dX8_readsFeud_43 : dcd cX8_readsFeud 43 = some (.if_icmp .eq 7, 46) := by decide +kernel
theorem dX8_readsFeud_46 : dcd cX8_readsFeud 46 = some (.iconst 1, 47) := by decide +kernel
theorem dX8_readsFeud_47 : dcd cX8_readsFeud 47 = some (.goto 4, 50) := by decide +kernel
theorem dX8_readsFeud_50 : dcd cX8_readsFeud 50 = some (.iconst 0, 51) := by decide +kernel
theorem dX8_readsFeud_51 : dcd cX8_readsFeud 51 = some (.invokevirtual 121, 54) := by decide +kernel
theorem dX8_readsFeud_54 : dcd cX8_readsFeud 54 = some (.istore_n 2, 55) := by decide +kernel
theorem dX8_readsFeud_55 : dcd cX8_readsFeud 55 = some (.aload_n 0, 56) := by decide +kernel
theorem dX8_readsFeud_56 : dcd cX8_readsFeud 56 = some (.invokevirtual 114, 59) := by decide +kernel
theorem dX8_readsFeud_59 : dcd cX8_readsFeud 59 = some (.ifCond .eq 45, 62) := by decide +kernel
theorem dX8_readsFeud_62 : dcd cX8_readsFeud 62 = some (.aload_n 0, 63) := by decide +kernel
theorem dX8_readsFeud_63 : dcd cX8_readsFeud 63 = some (.getfield 13, 66) := by decide +kernel
theorem dX8_readsFeud_66 : dcd cX8_readsFeud 66 = some (.bipush 9, 68) := by decide +kernel
theorem dX8_readsFeud_68 : dcd cX8_readsFeud 68 = some (.bipush 10, 70) := by decide +kernel
theorem dX8_readsFeud_70 : dcd cX8_readsFeud 70 = some (.iload_n 1, 71) := by decide +kernel
theorem dX8_readsFeud_71 : dcd cX8_readsFeud 71 = some (.iadd, 72) := by decide +kernel
theorem dX8_readsFeud_72 : dcd cX8_readsFeud 72 = some (.imul, 73) := by decide +kernel
theorem dX8_readsFeud_73 : dcd cX8_readsFeud 73 = some (.bipush 8, 75) := by decide +kernel
theorem dX8_readsFeud_75 : dcd cX8_readsFeud 75 = some (.iadd, 76) := by decide +kernel
theorem dX8_readsFeud_76 : dcd cX8_readsFeud 76 = some (.dup2, 77) := by decide +kernel
theorem dX8_readsFeud_77 : dcd cX8_readsFeud 77 = some (.iaload, 78) := by decide +kernel
theorem dX8_readsFeud_78 : dcd cX8_readsFeud 78 = some (.iconst 1, 79) := by decide +kernel
theorem dX8_readsFeud_79 : dcd cX8_readsFeud 79 = some (.iload_n 2, 80) := by decide +kernel
theorem dX8_readsFeud_80 : dcd cX8_readsFeud 80 = some (.ishl, 81) := by decide +kernel
theorem dX8_readsFeud_81 : dcd cX8_readsFeud 81 = some (.ior, 82) := by decide +kernel
theorem dX8_readsFeud_82 : dcd cX8_readsFeud 82 = some (.iastore, 83) := by decide +kernel
theorem dX8_readsFeud_83 : dcd cX8_readsFeud 83 = some (.aload_n 0, 84) := by decide +kernel
theorem dX8_readsFeud_84 : dcd cX8_readsFeud 84 = some (.getfield 13, 87) := by decide +kernel
theorem dX8_readsFeud_87 : dcd cX8_readsFeud 87 = some (.bipush 9, 89) := by decide +kernel
theorem dX8_readsFeud_89 : dcd cX8_readsFeud 89 = some (.bipush 10, 91) := by decide +kernel
theorem dX8_readsFeud_91 : dcd cX8_readsFeud 91 = some (.iload_n 2, 92) := by decide +kernel
theorem dX8_readsFeud_92 : dcd cX8_readsFeud 92 = some (.iadd, 93) := by decide +kernel
theorem dX8_readsFeud_93 : dcd cX8_readsFeud 93 = some (.imul, 94) := by decide +kernel
theorem dX8_readsFeud_94 : dcd cX8_readsFeud 94 = some (.bipush 8, 96) := by decide +kernel
theorem dX8_readsFeud_96 : dcd cX8_readsFeud 96 = some (.iadd, 97) := by decide +kernel
theorem dX8_readsFeud_97 : dcd cX8_readsFeud 97 = some (.dup2, 98) := by decide +kernel
theorem dX8_readsFeud_98 : dcd cX8_readsFeud 98 = some (.iaload, 99) := by decide +kernel
theorem dX8_readsFeud_99 : dcd cX8_readsFeud 99 = some (.iconst 1, 100) := by decide +kernel
theorem dX8_readsFeud_100 : dcd cX8_readsFeud 100 = some (.iload_n 1, 101) := by decide +kernel
theorem dX8_readsFeud_101 : dcd cX8_readsFeud 101 = some (.ishl, 102) := by decide +kernel
theorem dX8_readsFeud_102 : dcd cX8_readsFeud 102 = some (.ior, 103) := by decide +kernel
theorem dX8_readsFeud_103 : dcd cX8_readsFeud 103 = some (.iastore, 104) := by decide +kernel
theorem dX8_readsFeud_104 : dcd cX8_readsFeud 104 = some (.return_, 105) := by decide +kernel
theorem dX8_acts_0 : dcd cX8_acts 0 = some (.aload_n 0, 1) := by decide +kernel
theorem dX8_acts_1 : dcd cX8_acts 1 = some (.iconst 0, 2) := by decide +kernel
theorem dX8_acts_2 : dcd cX8_acts 2 = some (.putfield 68, 5) := by decide +kernel
theorem dX8_acts_5 : dcd cX8_acts 5 = some (.aload_n 0, 6) := by decide +kernel
theorem dX8_acts_6 : dcd cX8_acts 6 = some (.iconst (-1), 7) := by decide +kernel
theorem dX8_acts_7 : dcd cX8_acts 7 = some (.putfield 111, 10) := by decide +kernel
theorem dX8_acts_10 : dcd cX8_acts 10 = some (.aload_n 0, 11) := by decide +kernel
theorem dX8_acts_11 : dcd cX8_acts 11 = some (.iconst 0, 12) := by decide +kernel
theorem dX8_acts_12 : dcd cX8_acts 12 = some (.putfield 91, 15) := by decide +kernel
theorem dX8_acts_15 : dcd cX8_acts 15 = some (.iconst 0, 16) := by decide +kernel
theorem dX8_acts_16 : dcd cX8_acts 16 = some (.istore_n 1, 17) := by decide +kernel
theorem dX8_acts_17 : dcd cX8_acts 17 = some (.aload_n 0, 18) := by decide +kernel
theorem dX8_acts_18 : dcd cX8_acts 18 = some (.iconst 0, 19) := by decide +kernel
theorem dX8_acts_19 : dcd cX8_acts 19 = some (.putfield 125, 22) := by decide +kernel
theorem dX8_acts_22 : dcd cX8_acts 22 = some (.aload_n 0, 23) := by decide +kernel
theorem dX8_acts_23 : dcd cX8_acts 23 = some (.invokevirtual 118, 26) := by decide +kernel
theorem dX8_acts_26 : dcd cX8_acts 26 = some (.aload_n 0, 27) := by decide +kernel
theorem dX8_acts_27 : dcd cX8_acts 27 = some (.invokevirtual 114, 30) := by decide +kernel
theorem dX8_acts_30 : dcd cX8_acts 30 = some (.ifCond .eq 109, 33) := by decide +kernel
theorem dX8_acts_33 : dcd cX8_acts 33 = some (.aload_n 0, 34) := by decide +kernel
theorem dX8_acts_34 : dcd cX8_acts 34 = some (.getfield 101, 37) := by decide +kernel
theorem dX8_acts_37 : dcd cX8_acts 37 = some (.ifCond .eq 102, 40) := by decide +kernel
theorem dX8_acts_40 : dcd cX8_acts 40 = some (.aload_n 0, 41) := by decide +kernel
theorem dX8_acts_41 : dcd cX8_acts 41 = some (.aload_n 0, 42) := by decide +kernel
theorem dX8_acts_42 : dcd cX8_acts 42 = some (.getfield 101, 45) := by decide +kernel
theorem dX8_acts_45 : dcd cX8_acts 45 = some (.iconst 1, 46) := by decide +kernel
theorem dX8_acts_46 : dcd cX8_acts 46 = some (.if_icmp .ne 35, 49) := by decide +kernel
theorem dX8_acts_49 : dcd cX8_acts 49 = some (.aload_n 0, 50) := by decide +kernel
theorem dX8_acts_50 : dcd cX8_acts 50 = some (.getfield 108, 53) := by decide +kernel
theorem dX8_acts_53 : dcd cX8_acts 53 = some (.ifCond .ne 15, 56) := by decide +kernel
theorem dX8_acts_56 : dcd cX8_acts 56 = some (.aload_n 0, 57) := by decide +kernel
theorem dX8_acts_57 : dcd cX8_acts 57 = some (.getfield 125, 60) := by decide +kernel
theorem dX8_acts_60 : dcd cX8_acts 60 = some (.bipush 9, 62) := by decide +kernel
theorem dX8_acts_62 : dcd cX8_acts 62 = some (.if_icmp .ge 19, 65) := by decide +kernel
theorem dX8_acts_65 : dcd cX8_acts 65 = some (.goto 12, 68) := by decide +kernel
theorem dX8_acts_68 : dcd cX8_acts 68 = some (.aload_n 0, 69) := by decide +kernel
theorem dX8_acts_69 : dcd cX8_acts 69 = some (.getfield 108, 72) := by decide +kernel
theorem dX8_acts_72 : dcd cX8_acts 72 = some (.bipush 6, 74) := by decide +kernel
theorem dX8_acts_74 : dcd cX8_acts 74 = some (.if_icmp .ne 7, 77) := by decide +kernel
theorem dX8_acts_77 : dcd cX8_acts 77 = some (.iconst 1, 78) := by decide +kernel
theorem dX8_acts_78 : dcd cX8_acts 78 = some (.goto 4, 81) := by decide +kernel
theorem dX8_acts_81 : dcd cX8_acts 81 = some (.iconst 0, 82) := by decide +kernel
theorem dX8_acts_82 : dcd cX8_acts 82 = some (.invokevirtual 121, 85) := by decide +kernel
theorem dX8_acts_85 : dcd cX8_acts 85 = some (.istore_n 2, 86) := by decide +kernel
theorem dX8_acts_86 : dcd cX8_acts 86 = some (.aload_n 0, 87) := by decide +kernel
theorem dX8_acts_87 : dcd cX8_acts 87 = some (.invokevirtual 114, 90) := by decide +kernel
theorem dX8_acts_90 : dcd cX8_acts 90 = some (.ifCond .eq 14, 93) := by decide +kernel
theorem dX8_acts_93 : dcd cX8_acts 93 = some (.iload_n 2, 94) := by decide +kernel
theorem dX8_acts_94 : dcd cX8_acts 94 = some (.ifCond .ne 10, 97) := by decide +kernel
theorem dX8_acts_97 : dcd cX8_acts 97 = some (.aload_n 0, 98) := by decide +kernel
theorem dX8_acts_98 : dcd cX8_acts 98 = some (.invokevirtual 136, 101) := by decide +kernel
theorem dX8_acts_101 : dcd cX8_acts 101 = some (.goto 14, 104) := by decide +kernel
theorem dX8_acts_104 : dcd cX8_acts 104 = some (.aload_n 0, 105) := by decide +kernel
theorem dX8_acts_105 : dcd cX8_acts 105 = some (.invokevirtual 114, 108) := by decide +kernel
theorem dX8_acts_108 : dcd cX8_acts 108 = some (.ifCond .eq 7, 111) := by decide +kernel
theorem dX8_acts_111 : dcd cX8_acts 111 = some (.aload_n 0, 112) := by decide +kernel
theorem dX8_acts_112 : dcd cX8_acts 112 = some (.invokevirtual 139, 115) := by decide +kernel
theorem dX8_acts_115 : dcd cX8_acts 115 = some (.aload_n 0, 116) := by decide +kernel
theorem dX8_acts_116 : dcd cX8_acts 116 = some (.aload_n 0, 117) := by decide +kernel
theorem dX8_acts_117 : dcd cX8_acts 117 = some (.getfield 101, 120) := by decide +kernel
theorem dX8_acts_120 : dcd cX8_acts 120 = some (.iconst 3, 121) := by decide +kernel
theorem dX8_acts_121 : dcd cX8_acts 121 = some (.if_icmp .ne 7, 124) := by decide +kernel
theorem dX8_acts_124 : dcd cX8_acts 124 = some (.iconst 1, 125) := by decide +kernel
theorem dX8_acts_125 : dcd cX8_acts 125 = some (.goto 4, 128) := by decide +kernel
theorem dX8_acts_128 : dcd cX8_acts 128 = some (.iconst 0, 129) := by decide +kernel
theorem dX8_acts_129 : dcd cX8_acts 129 = some (.invokevirtual 121, 132) := by decide +kernel
theorem dX8_acts_132 : dcd cX8_acts 132 = some (.pop, 133) := by decide +kernel
theorem dX8_acts_133 : dcd cX8_acts 133 = some (.iinc 1 1, 136) := by decide +kernel
theorem dX8_acts_136 : dcd cX8_acts 136 = some (.goto (-110), 139) := by decide +kernel
theorem dX8_acts_139 : dcd cX8_acts 139 = some (.aload_n 0, 140) := by decide +kernel
theorem dX8_acts_140 : dcd cX8_acts 140 = some (.invokevirtual 114, 143) := by decide +kernel
theorem dX8_acts_143 : dcd cX8_acts 143 = some (.ifCond .ne 11, 146) := by decide +kernel
theorem dX8_acts_146 : dcd cX8_acts 146 = some (.bipush (-10), 148) := by decide +kernel
theorem dX8_acts_148 : dcd cX8_acts 148 = some (.aload_n 0, 149) := by decide +kernel
theorem dX8_acts_149 : dcd cX8_acts 149 = some (.getfield 111, 152) := by decide +kernel
theorem dX8_acts_152 : dcd cX8_acts 152 = some (.isub, 153) := by decide +kernel
theorem dX8_acts_153 : dcd cX8_acts 153 = some (.ireturn, 154) := by decide +kernel
theorem dX8_acts_154 : dcd cX8_acts 154 = some (.iconst 0, 155) := by decide +kernel
theorem dX8_acts_155 : dcd cX8_acts 155 = some (.istore_n 2, 156) := by decide +kernel
theorem dX8_acts_156 : dcd cX8_acts 156 = some (.iload_n 2, 157) := by decide +kernel
theorem dX8_acts_157 : dcd cX8_acts 157 = some (.bipush 81, 159) := by decide +kernel
theorem dX8_acts_159 : dcd cX8_acts 159 = some (.if_icmp .ge 24, 162) := by decide +kernel
theorem dX8_acts_162 : dcd cX8_acts 162 = some (.aload_n 0, 163) := by decide +kernel
theorem dX8_acts_163 : dcd cX8_acts 163 = some (.getfield 13, 166) := by decide +kernel
theorem dX8_acts_166 : dcd cX8_acts 166 = some (.iload_n 2, 167) := by decide +kernel
theorem dX8_acts_167 : dcd cX8_acts 167 = some (.aload_n 0, 168) := by decide +kernel
theorem dX8_acts_168 : dcd cX8_acts 168 = some (.getfield 13, 171) := by decide +kernel
theorem dX8_acts_171 : dcd cX8_acts 171 = some (.bipush 90, 173) := by decide +kernel
theorem dX8_acts_173 : dcd cX8_acts 173 = some (.iload_n 2, 174) := by decide +kernel
theorem dX8_acts_174 : dcd cX8_acts 174 = some (.iadd, 175) := by decide +kernel
theorem dX8_acts_175 : dcd cX8_acts 175 = some (.iaload, 176) := by decide +kernel
theorem dX8_acts_176 : dcd cX8_acts 176 = some (.iastore, 177) := by decide +kernel
theorem dX8_acts_177 : dcd cX8_acts 177 = some (.iinc 2 1, 180) := by decide +kernel
theorem dX8_acts_180 : dcd cX8_acts 180 = some (.goto (-24), 183) := by decide +kernel
theorem dX8_acts_183 : dcd cX8_acts 183 = some (.aload_n 0, 184) := by decide +kernel
theorem dX8_acts_184 : dcd cX8_acts 184 = some (.aload_n 0, 185) := by decide +kernel
theorem dX8_acts_185 : dcd cX8_acts 185 = some (.getfield 125, 188) := by decide +kernel
theorem dX8_acts_188 : dcd cX8_acts 188 = some (.putfield 142, 191) := by decide +kernel
theorem dX8_acts_191 : dcd cX8_acts 191 = some (.iconst 0, 192) := by decide +kernel
theorem dX8_acts_192 : dcd cX8_acts 192 = some (.istore_n 2, 193) := by decide +kernel
theorem dX8_acts_193 : dcd cX8_acts 193 = some (.iload_n 2, 194) := by decide +kernel
theorem dX8_acts_194 : dcd cX8_acts 194 = some (.bipush 9, 196) := by decide +kernel
theorem dX8_acts_196 : dcd cX8_acts 196 = some (.if_icmp .ge 16, 199) := by decide +kernel
theorem dX8_acts_199 : dcd cX8_acts 199 = some (.aload_n 0, 200) := by decide +kernel
theorem dX8_acts_200 : dcd cX8_acts 200 = some (.getfield 19, 203) := by decide +kernel
theorem dX8_acts_203 : dcd cX8_acts 203 = some (.iload_n 2, 204) := by decide +kernel
theorem dX8_acts_204 : dcd cX8_acts 204 = some (.iconst 0, 205) := by decide +kernel
theorem dX8_acts_205 : dcd cX8_acts 205 = some (.iastore, 206) := by decide +kernel
theorem dX8_acts_206 : dcd cX8_acts 206 = some (.iinc 2 1, 209) := by decide +kernel
theorem dX8_acts_209 : dcd cX8_acts 209 = some (.goto (-16), 212) := by decide +kernel
theorem dX8_acts_212 : dcd cX8_acts 212 = some (.aload_n 0, 213) := by decide +kernel
theorem dX8_acts_213 : dcd cX8_acts 213 = some (.getfield 22, 216) := by decide +kernel
theorem dX8_acts_216 : dcd cX8_acts 216 = some (.iconst 0, 217) := by decide +kernel
theorem dX8_acts_217 : dcd cX8_acts 217 = some (.iconst 0, 218) := by decide +kernel
theorem dX8_acts_218 : dcd cX8_acts 218 = some (.iastore, 219) := by decide +kernel
theorem dX8_acts_219 : dcd cX8_acts 219 = some (.aload_n 0, 220) := by decide +kernel
theorem dX8_acts_220 : dcd cX8_acts 220 = some (.getfield 22, 223) := by decide +kernel
theorem dX8_acts_223 : dcd cX8_acts 223 = some (.iconst 1, 224) := by decide +kernel
theorem dX8_acts_224 : dcd cX8_acts 224 = some (.iconst 0, 225) := by decide +kernel
theorem dX8_acts_225 : dcd cX8_acts 225 = some (.iastore, 226) := by decide +kernel
theorem dX8_acts_226 : dcd cX8_acts 226 = some (.aload_n 0, 227) := by decide +kernel
theorem dX8_acts_227 : dcd cX8_acts 227 = some (.iconst 0, 228) := by decide +kernel
theorem dX8_acts_228 : dcd cX8_acts 228 = some (.putfield 145, 231) := by decide +kernel
theorem dX8_acts_231 : dcd cX8_acts 231 = some (.aload_n 0, 232) := by decide +kernel
theorem dX8_acts_232 : dcd cX8_acts 232 = some (.getfield 28, 235) := by decide +kernel
theorem dX8_acts_235 : dcd cX8_acts 235 = some (.iconst 0, 236) := by decide +kernel
theorem dX8_acts_236 : dcd cX8_acts 236 = some (.iconst 0, 237) := by decide +kernel
theorem dX8_acts_237 : dcd cX8_acts 237 = some (.bastore, 238) := by decide +kernel
theorem dX8_acts_238 : dcd cX8_acts 238 = some (.aload_n 0, 239) := by decide +kernel
theorem dX8_acts_239 : dcd cX8_acts 239 = some (.getfield 28, 242) := by decide +kernel
theorem dX8_acts_242 : dcd cX8_acts 242 = some (.iconst 1, 243) := by decide +kernel
theorem dX8_acts_243 : dcd cX8_acts 243 = some (.iconst 0, 244) := by decide +kernel
theorem dX8_acts_244 : dcd cX8_acts 244 = some (.bastore, 245) := by decide +kernel
theorem dX8_acts_245 : dcd cX8_acts 245 = some (.aload_n 0, 246) := by decide +kernel
theorem dX8_acts_246 : dcd cX8_acts 246 = some (.iconst 0, 247) := by decide +kernel
theorem dX8_acts_247 : dcd cX8_acts 247 = some (.putfield 76, 250) := by decide +kernel
theorem dX8_acts_250 : dcd cX8_acts 250 = some (.iload_n 1, 251) := by decide +kernel
theorem dX8_acts_251 : dcd cX8_acts 251 = some (.ireturn, 252) := by decide +kernel
theorem dX8_isAct_0 : dcd cX8_isAct 0 = some (.iload_n 1, 1) := by decide +kernel
theorem dX8_isAct_1 : dcd cX8_isAct 1 = some (.iconst 0, 2) := by decide +kernel
theorem dX8_isAct_2 : dcd cX8_isAct 2 = some (.aload_n 0, 3) := by decide +kernel
theorem dX8_isAct_3 : dcd cX8_isAct 3 = some (.getfield 142, 6) := by decide +kernel
theorem dX8_isAct_6 : dcd cX8_isAct 6 = some (.iconst 1, 7) := by decide +kernel
theorem dX8_isAct_7 : dcd cX8_isAct 7 = some (.isub, 8) := by decide +kernel
theorem dX8_isAct_8 : dcd cX8_isAct 8 = some (.invokestatic 72, 11) := by decide +kernel
theorem dX8_isAct_11 : dcd cX8_isAct 11 = some (.ireturn, 12) := by decide +kernel
theorem dX8_act_0 : dcd cX8_act 0 = some (.aload_n 0, 1) := by decide +kernel
theorem dX8_act_1 : dcd cX8_act 1 = some (.iconst 0, 2) := by decide +kernel
theorem dX8_act_2 : dcd cX8_act 2 = some (.putfield 68, 5) := by decide +kernel
theorem dX8_act_5 : dcd cX8_act 5 = some (.aload_n 0, 6) := by decide +kernel
theorem dX8_act_6 : dcd cX8_act 6 = some (.iload_n 1, 7) := by decide +kernel
theorem dX8_act_7 : dcd cX8_act 7 = some (.invokevirtual 148, 10) := by decide +kernel
theorem dX8_act_10 : dcd cX8_act 10 = some (.ifCond .eq 13, 13) := by decide +kernel
theorem dX8_act_13 : dcd cX8_act 13 = some (.iload_n 2, 14) := by decide +kernel
theorem dX8_act_14 : dcd cX8_act 14 = some (.iconst 0, 15) := by decide +kernel
theorem dX8_act_15 : dcd cX8_act 15 = some (.bipush 8, 17) := by decide +kernel
theorem dX8_act_17 : dcd cX8_act 17 = some (.invokestatic 72, 20) := by decide +kernel
theorem dX8_act_20 : dcd cX8_act 20 = some (.ifCond .ne 7, 23) := by decide +kernel
theorem dX8_act_23 : dcd cX8_act 23 = some (.iconst (-1), 24) := by decide +kernel
theorem dX8_act_24 : dcd cX8_act 24 = some (.goto 24, 27) := by decide +kernel
theorem dX8_act_27 : dcd cX8_act 27 = some (.iload_n 2, 28) := by decide +kernel
theorem dX8_act_28 : dcd cX8_act 28 = some (.bipush 8, 30) := by decide +kernel
theorem dX8_act_30 : dcd cX8_act 30 = some (.if_icmp .ne 12, 33) := by decide +kernel
theorem dX8_act_33 : dcd cX8_act 33 = some (.aload_n 0, 34) := by decide +kernel
theorem dX8_act_34 : dcd cX8_act 34 = some (.getfield 19, 37) := by decide +kernel
theorem dX8_act_37 : dcd cX8_act 37 = some (.iload_n 1, 38) := by decide +kernel
theorem dX8_act_38 : dcd cX8_act 38 = some (.iaload, 39) := by decide +kernel
theorem dX8_act_39 : dcd cX8_act 39 = some (.goto 9, 42) := by decide +kernel
theorem dX8_act_42 : dcd cX8_act 42 = some (.aload_n 0, 43) := by decide +kernel
theorem dX8_act_43 : dcd cX8_act 43 = some (.iload_n 1, 44) := by decide +kernel
theorem dX8_act_44 : dcd cX8_act 44 = some (.iload_n 2, 45) := by decide +kernel
theorem dX8_act_45 : dcd cX8_act 45 = some (.invokevirtual 151, 48) := by decide +kernel
theorem dX8_act_48 : dcd cX8_act 48 = some (.ireturn, 49) := by decide +kernel
theorem dX8_feud_0 : dcd cX8_feud 0 = some (.aload_n 0, 1) := by decide +kernel
theorem dX8_feud_1 : dcd cX8_feud 1 = some (.iconst 0, 2) := by decide +kernel
theorem dX8_feud_2 : dcd cX8_feud 2 = some (.putfield 68, 5) := by decide +kernel
theorem dX8_feud_5 : dcd cX8_feud 5 = some (.aload_n 0, 6) := by decide +kernel
theorem dX8_feud_6 : dcd cX8_feud 6 = some (.iload_n 1, 7) := by decide +kernel
theorem dX8_feud_7 : dcd cX8_feud 7 = some (.invokevirtual 148, 10) := by decide +kernel
theorem dX8_feud_10 : dcd cX8_feud 10 = some (.ifCond .eq 30, 13) := by decide +kernel
theorem dX8_feud_13 : dcd cX8_feud 13 = some (.aload_n 0, 14) := by decide +kernel
theorem dX8_feud_14 : dcd cX8_feud 14 = some (.iload_n 2, 15) := by decide +kernel
theorem dX8_feud_15 : dcd cX8_feud 15 = some (.invokevirtual 148, 18) := by decide +kernel
theorem dX8_feud_18 : dcd cX8_feud 18 = some (.ifCond .eq 22, 21) := by decide +kernel
theorem dX8_feud_21 : dcd cX8_feud 21 = some (.iload_n 1, 22) := by decide +kernel
theorem dX8_feud_22 : dcd cX8_feud 22 = some (.iload_n 2, 23) := by decide +kernel
theorem dX8_feud_23 : dcd cX8_feud 23 = some (.if_icmp .eq 17, 26) := by decide +kernel
theorem dX8_feud_26 : dcd cX8_feud 26 = some (.aload_n 0, 27) := by decide +kernel
theorem dX8_feud_27 : dcd cX8_feud 27 = some (.iload_n 1, 28) := by decide +kernel
theorem dX8_feud_28 : dcd cX8_feud 28 = some (.bipush 8, 30) := by decide +kernel
theorem dX8_feud_30 : dcd cX8_feud 30 = some (.invokevirtual 151, 33) := by decide +kernel
theorem dX8_feud_33 : dcd cX8_feud 33 = some (.iload_n 2, 34) := by decide +kernel
theorem dX8_feud_34 : dcd cX8_feud 34 = some (.ishr, 35) := by decide +kernel
theorem dX8_feud_35 : dcd cX8_feud 35 = some (.iconst 1, 36) := by decide +kernel
theorem dX8_feud_36 : dcd cX8_feud 36 = some (.iand, 37) := by decide +kernel
theorem dX8_feud_37 : dcd cX8_feud 37 = some (.goto 4, 40) := by decide +kernel
theorem dX8_feud_40 : dcd cX8_feud 40 = some (.iconst (-1), 41) := by decide +kernel
theorem dX8_feud_41 : dcd cX8_feud 41 = some (.ireturn, 42) := by decide +kernel
theorem dX8_tune_0 : dcd cX8_tune 0 = some (.aload_n 0, 1) := by decide +kernel
theorem dX8_tune_1 : dcd cX8_tune 1 = some (.iconst 0, 2) := by decide +kernel
theorem dX8_tune_2 : dcd cX8_tune 2 = some (.putfield 68, 5) := by decide +kernel
theorem dX8_tune_5 : dcd cX8_tune 5 = some (.iload_n 1, 6) := by decide +kernel
theorem dX8_tune_6 : dcd cX8_tune 6 = some (.iconst 1, 7) := by decide +kernel
theorem dX8_tune_7 : dcd cX8_tune 7 = some (.if_icmp .ne 8, 10) := by decide +kernel
theorem dX8_tune_10 : dcd cX8_tune 10 = some (.bipush 10, 12) := by decide +kernel
theorem dX8_tune_12 : dcd cX8_tune 12 = some (.goto 4, 15) := by decide +kernel
theorem dX8_tune_15 : dcd cX8_tune 15 = some (.iconst 0, 16) := by decide +kernel
theorem dX8_tune_16 : dcd cX8_tune 16 = some (.istore_n 3, 17) := by decide +kernel
theorem dX8_tune_17 : dcd cX8_tune 17 = some (.iload_n 1, 18) := by decide +kernel
theorem dX8_tune_18 : dcd cX8_tune 18 = some (.iconst 1, 19) := by decide +kernel
theorem dX8_tune_19 : dcd cX8_tune 19 = some (.if_icmp .ne 9, 22) := by decide +kernel
theorem dX8_tune_22 : dcd cX8_tune 22 = some (.sipush 400, 25) := by decide +kernel
theorem dX8_tune_25 : dcd cX8_tune 25 = some (.goto 48, 28) := by decide +kernel
theorem dX8_tune_28 : dcd cX8_tune 28 = some (.iload_n 1, 29) := by decide +kernel
theorem dX8_tune_29 : dcd cX8_tune 29 = some (.iconst 2, 30) := by decide +kernel
theorem dX8_tune_30 : dcd cX8_tune 30 = some (.if_icmp .ne 8, 33) := by decide +kernel
theorem dX8_tune_33 : dcd cX8_tune 33 = some (.bipush 30, 35) := by decide +kernel
theorem dX8_tune_35 : dcd cX8_tune 35 = some (.goto 38, 38) := by decide +kernel
theorem dX8_tune_38 : dcd cX8_tune 38 = some (.iload_n 1, 39) := by decide +kernel
theorem dX8_tune_39 : dcd cX8_tune 39 = some (.iconst 4, 40) := by decide +kernel
theorem dX8_tune_40 : dcd cX8_tune 40 = some (.if_icmp .ne 8, 43) := by decide +kernel
theorem dX8_tune_43 : dcd cX8_tune 43 = some (.bipush 10, 45) := by decide +kernel
theorem dX8_tune_45 : dcd cX8_tune 45 = some (.goto 28, 48) := by decide +kernel
theorem dX8_tune_48 : dcd cX8_tune 48 = some (.iload_n 1, 49) := by decide +kernel
theorem dX8_tune_49 : dcd cX8_tune 49 = some (.bipush 6, 51) := by decide +kernel
theorem dX8_tune_51 : dcd cX8_tune 51 = some (.if_icmp .ne 8, 54) := by decide +kernel
theorem dX8_tune_54 : dcd cX8_tune 54 = some (.bipush 99, 56) := by decide +kernel
theorem dX8_tune_56 : dcd cX8_tune 56 = some (.goto 17, 59) := by decide +kernel
theorem dX8_tune_59 : dcd cX8_tune 59 = some (.iload_n 1, 60) := by decide +kernel
theorem dX8_tune_60 : dcd cX8_tune 60 = some (.bipush 7, 62) := by decide +kernel
theorem dX8_tune_62 : dcd cX8_tune 62 = some (.if_icmp .ne 9, 65) := by decide +kernel
theorem dX8_tune_65 : dcd cX8_tune 65 = some (.sipush 999, 68) := by decide +kernel
theorem dX8_tune_68 : dcd cX8_tune 68 = some (.goto 5, 71) := by decide +kernel
theorem dX8_tune_71 : dcd cX8_tune 71 = some (.bipush 9, 73) := by decide +kernel
theorem dX8_tune_73 : dcd cX8_tune 73 = some (.istore 4, 75) := by decide +kernel
theorem dX8_tune_75 : dcd cX8_tune 75 = some (.iload_n 1, 76) := by decide +kernel
theorem dX8_tune_76 : dcd cX8_tune 76 = some (.iconst 0, 77) := by decide +kernel
theorem dX8_tune_77 : dcd cX8_tune 77 = some (.bipush 7, 79) := by decide +kernel
theorem dX8_tune_79 : dcd cX8_tune 79 = some (.invokestatic 72, 82) := by decide +kernel
theorem dX8_tune_82 : dcd cX8_tune 82 = some (.ifCond .eq 13, 85) := by decide +kernel
theorem dX8_tune_85 : dcd cX8_tune 85 = some (.iload_n 2, 86) := by decide +kernel
theorem dX8_tune_86 : dcd cX8_tune 86 = some (.iload_n 3, 87) := by decide +kernel
theorem dX8_tune_87 : dcd cX8_tune 87 = some (.iload 4, 89) := by decide +kernel
theorem dX8_tune_89 : dcd cX8_tune 89 = some (.invokestatic 72, 92) := by decide +kernel
theorem dX8_tune_92 : dcd cX8_tune 92 = some (.ifCond .ne 5, 95) := by decide +kernel
theorem dX8_tune_95 : dcd cX8_tune 95 = some (.iconst (-1), 96) := by decide +kernel
theorem dX8_tune_96 : dcd cX8_tune 96 = some (.ireturn, 97) := by decide +kernel
theorem dX8_tune_97 : dcd cX8_tune 97 = some (.aload_n 0, 98) := by decide +kernel
theorem dX8_tune_98 : dcd cX8_tune 98 = some (.getfield 16, 101) := by decide +kernel
theorem dX8_tune_101 : dcd cX8_tune 101 = some (.iload_n 1, 102) := by decide +kernel
theorem dX8_tune_102 : dcd cX8_tune 102 = some (.iaload, 103) := by decide +kernel
theorem dX8_tune_103 : dcd cX8_tune 103 = some (.istore 5, 105) := by decide +kernel
theorem dX8_tune_105 : dcd cX8_tune 105 = some (.aload_n 0, 106) := by decide +kernel
theorem dX8_tune_106 : dcd cX8_tune 106 = some (.getfield 16, 109) := by decide +kernel
theorem dX8_tune_109 : dcd cX8_tune 109 = some (.iload_n 1, 110) := by decide +kernel
theorem dX8_tune_110 : dcd cX8_tune 110 = some (.iload_n 2, 111) := by decide +kernel
theorem dX8_tune_111 : dcd cX8_tune 111 = some (.iastore, 112) := by decide +kernel
theorem dX8_tune_112 : dcd cX8_tune 112 = some (.iload 5, 114) := by decide +kernel
theorem dX8_tune_114 : dcd cX8_tune 114 = some (.ireturn, 115) := by decide +kernel
theorem dX8_family_0 : dcd cX8_family 0 = some (.aload_n 0, 1) := by decide +kernel
theorem dX8_family_1 : dcd cX8_family 1 = some (.iconst 0, 2) := by decide +kernel
theorem dX8_family_2 : dcd cX8_family 2 = some (.putfield 68, 5) := by decide +kernel
theorem dX8_family_5 : dcd cX8_family 5 = some (.aload_n 0, 6) := by decide +kernel
theorem dX8_family_6 : dcd cX8_family 6 = some (.iload_n 1, 7) := by decide +kernel
theorem dX8_family_7 : dcd cX8_family 7 = some (.invokevirtual 148, 10) := by decide +kernel
theorem dX8_family_10 : dcd cX8_family 10 = some (.ifCond .eq 13, 13) := by decide +kernel
theorem dX8_family_13 : dcd cX8_family 13 = some (.iload_n 2, 14) := by decide +kernel
theorem dX8_family_14 : dcd cX8_family 14 = some (.iconst 0, 15) := by decide +kernel
theorem dX8_family_15 : dcd cX8_family 15 = some (.bipush 99, 17) := by decide +kernel
theorem dX8_family_17 : dcd cX8_family 17 = some (.invokestatic 72, 20) := by decide +kernel
theorem dX8_family_20 : dcd cX8_family 20 = some (.ifCond .ne 5, 23) := by decide +kernel
theorem dX8_family_23 : dcd cX8_family 23 = some (.iconst (-1), 24) := by decide +kernel
theorem dX8_family_24 : dcd cX8_family 24 = some (.ireturn, 25) := by decide +kernel
theorem dX8_family_25 : dcd cX8_family 25 = some (.aload_n 0, 26) := by decide +kernel
theorem dX8_family_26 : dcd cX8_family 26 = some (.getfield 19, 29) := by decide +kernel
theorem dX8_family_29 : dcd cX8_family 29 = some (.iload_n 1, 30) := by decide +kernel
theorem dX8_family_30 : dcd cX8_family 30 = some (.iaload, 31) := by decide +kernel
theorem dX8_family_31 : dcd cX8_family 31 = some (.istore_n 3, 32) := by decide +kernel
theorem dX8_family_32 : dcd cX8_family 32 = some (.aload_n 0, 33) := by decide +kernel
theorem dX8_family_33 : dcd cX8_family 33 = some (.getfield 19, 36) := by decide +kernel
theorem dX8_family_36 : dcd cX8_family 36 = some (.iload_n 1, 37) := by decide +kernel
theorem dX8_family_37 : dcd cX8_family 37 = some (.iload_n 2, 38) := by decide +kernel
theorem dX8_family_38 : dcd cX8_family 38 = some (.iastore, 39) := by decide +kernel
theorem dX8_family_39 : dcd cX8_family 39 = some (.iload_n 3, 40) := by decide +kernel
theorem dX8_family_40 : dcd cX8_family 40 = some (.ireturn, 41) := by decide +kernel
theorem dX8_placeOf_0 : dcd cX8_placeOf 0 = some (.iconst 0, 1) := by decide +kernel
theorem dX8_placeOf_1 : dcd cX8_placeOf 1 = some (.istore_n 2, 2) := by decide +kernel
theorem dX8_placeOf_2 : dcd cX8_placeOf 2 = some (.iload_n 2, 3) := by decide +kernel
theorem dX8_placeOf_3 : dcd cX8_placeOf 3 = some (.aload_n 0, 4) := by decide +kernel
theorem dX8_placeOf_4 : dcd cX8_placeOf 4 = some (.getfield 22, 7) := by decide +kernel
theorem dX8_placeOf_7 : dcd cX8_placeOf 7 = some (.iconst 0, 8) := by decide +kernel
theorem dX8_placeOf_8 : dcd cX8_placeOf 8 = some (.iaload, 9) := by decide +kernel
theorem dX8_placeOf_9 : dcd cX8_placeOf 9 = some (.if_icmp .ge 23, 12) := by decide +kernel
theorem dX8_placeOf_12 : dcd cX8_placeOf 12 = some (.aload_n 0, 13) := by decide +kernel
theorem dX8_placeOf_13 : dcd cX8_placeOf 13 = some (.getfield 22, 16) := by decide +kernel
theorem dX8_placeOf_16 : dcd cX8_placeOf 16 = some (.iconst 3, 17) := by decide +kernel
theorem dX8_placeOf_17 : dcd cX8_placeOf 17 = some (.iload_n 2, 18) := by decide +kernel
theorem dX8_placeOf_18 : dcd cX8_placeOf 18 = some (.iadd, 19) := by decide +kernel
theorem dX8_placeOf_19 : dcd cX8_placeOf 19 = some (.iaload, 20) := by decide +kernel
theorem dX8_placeOf_20 : dcd cX8_placeOf 20 = some (.iload_n 1, 21) := by decide +kernel
theorem dX8_placeOf_21 : dcd cX8_placeOf 21 = some (.if_icmp .ne 5, 24) := by decide +kernel
theorem dX8_placeOf_24 : dcd cX8_placeOf 24 = some (.iload_n 2, 25) := by decide +kernel
theorem dX8_placeOf_25 : dcd cX8_placeOf 25 = some (.ireturn, 26) := by decide +kernel
theorem dX8_placeOf_26 : dcd cX8_placeOf 26 = some (.iinc 2 1, 29) := by decide +kernel
theorem dX8_placeOf_29 : dcd cX8_placeOf 29 = some (.goto (-27), 32) := by decide +kernel
theorem dX8_placeOf_32 : dcd cX8_placeOf 32 = some (.bipush (-9), 34) := by decide +kernel
theorem dX8_placeOf_34 : dcd cX8_placeOf 34 = some (.ireturn, 35) := by decide +kernel
theorem dX8_place_0 : dcd cX8_place 0 = some (.aload_n 0, 1) := by decide +kernel
theorem dX8_place_1 : dcd cX8_place 1 = some (.iconst 0, 2) := by decide +kernel
theorem dX8_place_2 : dcd cX8_place 2 = some (.putfield 68, 5) := by decide +kernel
theorem dX8_place_5 : dcd cX8_place 5 = some (.aload_n 0, 6) := by decide +kernel
theorem dX8_place_6 : dcd cX8_place 6 = some (.iload_n 1, 7) := by decide +kernel
theorem dX8_place_7 : dcd cX8_place 7 = some (.invokevirtual 148, 10) := by decide +kernel
theorem dX8_place_10 : dcd cX8_place 10 = some (.ifCond .ne 5, 13) := by decide +kernel
theorem dX8_place_13 : dcd cX8_place 13 = some (.iconst (-1), 14) := by decide +kernel
theorem dX8_place_14 : dcd cX8_place 14 = some (.ireturn, 15) := by decide +kernel
theorem dX8_place_15 : dcd cX8_place 15 = some (.aload_n 0, 16) := by decide +kernel
theorem dX8_place_16 : dcd cX8_place 16 = some (.iload_n 1, 17) := by decide +kernel
theorem dX8_place_17 : dcd cX8_place 17 = some (.invokevirtual 154, 20) := by decide +kernel
theorem dX8_place_20 : dcd cX8_place 20 = some (.bipush (-9), 22) := by decide +kernel
theorem dX8_place_22 : dcd cX8_place 22 = some (.if_icmp .eq 6, 25) := by decide +kernel
theorem dX8_place_25 : dcd cX8_place 25 = some (.bipush (-2), 27) := by decide +kernel
theorem dX8_place_27 : dcd cX8_place 27 = some (.ireturn, 28) := by decide +kernel
theorem dX8_place_28 : dcd cX8_place 28 = some (.aload_n 0, 29) := by decide +kernel
theorem dX8_place_29 : dcd cX8_place 29 = some (.getfield 22, 32) := by decide +kernel
theorem dX8_place_32 : dcd cX8_place 32 = some (.iconst 3, 33) := by decide +kernel
theorem dX8_place_33 : dcd cX8_place 33 = some (.aload_n 0, 34) := by decide +kernel
theorem dX8_place_34 : dcd cX8_place 34 = some (.getfield 22, 37) := by decide +kernel
theorem dX8_place_37 : dcd cX8_place 37 = some (.iconst 0, 38) := by decide +kernel
theorem dX8_place_38 : dcd cX8_place 38 = some (.iaload, 39) := by decide +kernel
theorem dX8_place_39 : dcd cX8_place 39 = some (.iadd, 40) := by decide +kernel
theorem dX8_place_40 : dcd cX8_place 40 = some (.iload_n 1, 41) := by decide +kernel
theorem dX8_place_41 : dcd cX8_place 41 = some (.iastore, 42) := by decide +kernel
theorem dX8_place_42 : dcd cX8_place 42 = some (.aload_n 0, 43) := by decide +kernel
theorem dX8_place_43 : dcd cX8_place 43 = some (.getfield 22, 46) := by decide +kernel
theorem dX8_place_46 : dcd cX8_place 46 = some (.iconst 0, 47) := by decide +kernel
theorem dX8_place_47 : dcd cX8_place 47 = some (.dup2, 48) := by decide +kernel
theorem dX8_place_48 : dcd cX8_place 48 = some (.iaload, 49) := by decide +kernel
theorem dX8_place_49 : dcd cX8_place 49 = some (.iconst 1, 50) := by decide +kernel
theorem dX8_place_50 : dcd cX8_place 50 = some (.iadd, 51) := by decide +kernel
theorem dX8_place_51 : dcd cX8_place 51 = some (.iastore, 52) := by decide +kernel
theorem dX8_place_52 : dcd cX8_place 52 = some (.aload_n 0, 53) := by decide +kernel
theorem dX8_place_53 : dcd cX8_place 53 = some (.getfield 22, 56) := by decide +kernel
theorem dX8_place_56 : dcd cX8_place 56 = some (.iconst 0, 57) := by decide +kernel
theorem dX8_place_57 : dcd cX8_place 57 = some (.iaload, 58) := by decide +kernel
theorem dX8_place_58 : dcd cX8_place 58 = some (.ireturn, 59) := by decide +kernel
theorem dX8_empty_0 : dcd cX8_empty 0 = some (.aload_n 0, 1) := by decide +kernel
theorem dX8_empty_1 : dcd cX8_empty 1 = some (.iconst 0, 2) := by decide +kernel
theorem dX8_empty_2 : dcd cX8_empty 2 = some (.putfield 68, 5) := by decide +kernel
theorem dX8_empty_5 : dcd cX8_empty 5 = some (.aload_n 0, 6) := by decide +kernel
theorem dX8_empty_6 : dcd cX8_empty 6 = some (.getfield 22, 9) := by decide +kernel
theorem dX8_empty_9 : dcd cX8_empty 9 = some (.iconst 0, 10) := by decide +kernel
theorem dX8_empty_10 : dcd cX8_empty 10 = some (.iaload, 11) := by decide +kernel
theorem dX8_empty_11 : dcd cX8_empty 11 = some (.istore_n 1, 12) := by decide +kernel
theorem dX8_empty_12 : dcd cX8_empty 12 = some (.aload_n 0, 13) := by decide +kernel
theorem dX8_empty_13 : dcd cX8_empty 13 = some (.getfield 22, 16) := by decide +kernel
theorem dX8_empty_16 : dcd cX8_empty 16 = some (.iconst 0, 17) := by decide +kernel
theorem dX8_empty_17 : dcd cX8_empty 17 = some (.iconst 0, 18) := by decide +kernel
theorem dX8_empty_18 : dcd cX8_empty 18 = some (.iastore, 19) := by decide +kernel
theorem dX8_empty_19 : dcd cX8_empty 19 = some (.aload_n 0, 20) := by decide +kernel
theorem dX8_empty_20 : dcd cX8_empty 20 = some (.getfield 22, 23) := by decide +kernel
theorem dX8_empty_23 : dcd cX8_empty 23 = some (.iconst 1, 24) := by decide +kernel
theorem dX8_empty_24 : dcd cX8_empty 24 = some (.iconst 0, 25) := by decide +kernel
theorem dX8_empty_25 : dcd cX8_empty 25 = some (.iastore, 26) := by decide +kernel
theorem dX8_empty_26 : dcd cX8_empty 26 = some (.iload_n 1, 27) := by decide +kernel
theorem dX8_empty_27 : dcd cX8_empty 27 = some (.ireturn, 28) := by decide +kernel
theorem dX8_rest_0 : dcd cX8_rest 0 = some (.aload_n 0, 1) := by decide +kernel
theorem dX8_rest_1 : dcd cX8_rest 1 = some (.iconst 0, 2) := by decide +kernel
theorem dX8_rest_2 : dcd cX8_rest 2 = some (.putfield 68, 5) := by decide +kernel
theorem dX8_rest_5 : dcd cX8_rest 5 = some (.iload_n 1, 6) := by decide +kernel
theorem dX8_rest_6 : dcd cX8_rest 6 = some (.iconst 0, 7) := by decide +kernel
theorem dX8_rest_7 : dcd cX8_rest 7 = some (.aload_n 0, 8) := by decide +kernel
theorem dX8_rest_8 : dcd cX8_rest 8 = some (.getfield 22, 11) := by decide +kernel
theorem dX8_rest_11 : dcd cX8_rest 11 = some (.iconst 0, 12) := by decide +kernel
theorem dX8_rest_12 : dcd cX8_rest 12 = some (.iaload, 13) := by decide +kernel
theorem dX8_rest_13 : dcd cX8_rest 13 = some (.iconst 1, 14) := by decide +kernel
theorem dX8_rest_14 : dcd cX8_rest 14 = some (.isub, 15) := by decide +kernel
theorem dX8_rest_15 : dcd cX8_rest 15 = some (.invokestatic 72, 18) := by decide +kernel
theorem dX8_rest_18 : dcd cX8_rest 18 = some (.ifCond .ne 5, 21) := by decide +kernel
theorem dX8_rest_21 : dcd cX8_rest 21 = some (.iconst (-1), 22) := by decide +kernel
theorem dX8_rest_22 : dcd cX8_rest 22 = some (.ireturn, 23) := by decide +kernel
theorem dX8_rest_23 : dcd cX8_rest 23 = some (.aload_n 0, 24) := by decide +kernel
theorem dX8_rest_24 : dcd cX8_rest 24 = some (.getfield 22, 27) := by decide +kernel
theorem dX8_rest_27 : dcd cX8_rest 27 = some (.iconst 1, 28) := by decide +kernel
theorem dX8_rest_28 : dcd cX8_rest 28 = some (.iaload, 29) := by decide +kernel
theorem dX8_rest_29 : dcd cX8_rest 29 = some (.istore_n 2, 30) := by decide +kernel
theorem dX8_rest_30 : dcd cX8_rest 30 = some (.aload_n 0, 31) := by decide +kernel
theorem dX8_rest_31 : dcd cX8_rest 31 = some (.getfield 22, 34) := by decide +kernel
theorem dX8_rest_34 : dcd cX8_rest 34 = some (.iconst 1, 35) := by decide +kernel
theorem dX8_rest_35 : dcd cX8_rest 35 = some (.iload_n 1, 36) := by decide +kernel
theorem dX8_rest_36 : dcd cX8_rest 36 = some (.iastore, 37) := by decide +kernel
theorem dX8_rest_37 : dcd cX8_rest 37 = some (.iload_n 2, 38) := by decide +kernel
theorem dX8_rest_38 : dcd cX8_rest 38 = some (.ireturn, 39) := by decide +kernel
theorem dX8_isPlace_0 : dcd cX8_isPlace 0 = some (.iload_n 1, 1) := by decide +kernel
theorem dX8_isPlace_1 : dcd cX8_isPlace 1 = some (.iconst 0, 2) := by decide +kernel
theorem dX8_isPlace_2 : dcd cX8_isPlace 2 = some (.aload_n 0, 3) := by decide +kernel
theorem dX8_isPlace_3 : dcd cX8_isPlace 3 = some (.getfield 22, 6) := by decide +kernel
theorem dX8_isPlace_6 : dcd cX8_isPlace 6 = some (.iconst 0, 7) := by decide +kernel
theorem dX8_isPlace_7 : dcd cX8_isPlace 7 = some (.iaload, 8) := by decide +kernel
theorem dX8_isPlace_8 : dcd cX8_isPlace 8 = some (.iconst 1, 9) := by decide +kernel
theorem dX8_isPlace_9 : dcd cX8_isPlace 9 = some (.isub, 10) := by decide +kernel
theorem dX8_isPlace_10 : dcd cX8_isPlace 10 = some (.invokestatic 72, 13) := by decide +kernel
theorem dX8_isPlace_13 : dcd cX8_isPlace 13 = some (.ireturn, 14) := by decide +kernel
theorem dX8_on_0 : dcd cX8_on 0 = some (.aload_n 0, 1) := by decide +kernel
theorem dX8_on_1 : dcd cX8_on 1 = some (.iconst 0, 2) := by decide +kernel
theorem dX8_on_2 : dcd cX8_on 2 = some (.putfield 68, 5) := by decide +kernel
theorem dX8_on_5 : dcd cX8_on 5 = some (.aload_n 0, 6) := by decide +kernel
theorem dX8_on_6 : dcd cX8_on 6 = some (.iload_n 1, 7) := by decide +kernel
theorem dX8_on_7 : dcd cX8_on 7 = some (.invokevirtual 157, 10) := by decide +kernel
theorem dX8_on_10 : dcd cX8_on 10 = some (.ifCond .eq 14, 13) := by decide +kernel
theorem dX8_on_13 : dcd cX8_on 13 = some (.aload_n 0, 14) := by decide +kernel
theorem dX8_on_14 : dcd cX8_on 14 = some (.getfield 22, 17) := by decide +kernel
theorem dX8_on_17 : dcd cX8_on 17 = some (.iconst 3, 18) := by decide +kernel
theorem dX8_on_18 : dcd cX8_on 18 = some (.iload_n 1, 19) := by decide +kernel
theorem dX8_on_19 : dcd cX8_on 19 = some (.iadd, 20) := by decide +kernel
theorem dX8_on_20 : dcd cX8_on 20 = some (.iaload, 21) := by decide +kernel
theorem dX8_on_21 : dcd cX8_on 21 = some (.goto 4, 24) := by decide +kernel
theorem dX8_on_24 : dcd cX8_on 24 = some (.iconst (-1), 25) := by decide +kernel
theorem dX8_on_25 : dcd cX8_on 25 = some (.ireturn, 26) := by decide +kernel
theorem dX8_asBilled_0 : dcd cX8_asBilled 0 = some (.aload_n 0, 1) := by decide +kernel
theorem dX8_asBilled_1 : dcd cX8_asBilled 1 = some (.aload_n 0, 2) := by decide +kernel
theorem dX8_asBilled_2 : dcd cX8_asBilled 2 = some (.getfield 22, 5) := by decide +kernel
theorem dX8_asBilled_5 : dcd cX8_asBilled 5 = some (.iconst 0, 6) := by decide +kernel
theorem dX8_asBilled_6 : dcd cX8_asBilled 6 = some (.iaload, 7) := by decide +kernel
theorem dX8_asBilled_7 : dcd cX8_asBilled 7 = some (.putfield 160, 10) := by decide +kernel
theorem dX8_asBilled_10 : dcd cX8_asBilled 10 = some (.aload_n 0, 11) := by decide +kernel
theorem dX8_asBilled_11 : dcd cX8_asBilled 11 = some (.aload_n 0, 12) := by decide +kernel
theorem dX8_asBilled_12 : dcd cX8_asBilled 12 = some (.getfield 22, 15) := by decide +kernel
theorem dX8_asBilled_15 : dcd cX8_asBilled 15 = some (.iconst 1, 16) := by decide +kernel
theorem dX8_asBilled_16 : dcd cX8_asBilled 16 = some (.iaload, 17) := by decide +kernel
theorem dX8_asBilled_17 : dcd cX8_asBilled 17 = some (.putfield 163, 20) := by decide +kernel
theorem dX8_asBilled_20 : dcd cX8_asBilled 20 = some (.iconst 0, 21) := by decide +kernel
theorem dX8_asBilled_21 : dcd cX8_asBilled 21 = some (.istore_n 1, 22) := by decide +kernel
theorem dX8_asBilled_22 : dcd cX8_asBilled 22 = some (.iload_n 1, 23) := by decide +kernel
theorem dX8_asBilled_23 : dcd cX8_asBilled 23 = some (.aload_n 0, 24) := by decide +kernel
theorem dX8_asBilled_24 : dcd cX8_asBilled 24 = some (.getfield 160, 27) := by decide +kernel
theorem dX8_asBilled_27 : dcd cX8_asBilled 27 = some (.if_icmp .ge 23, 30) := by decide +kernel
theorem dX8_asBilled_30 : dcd cX8_asBilled 30 = some (.aload_n 0, 31) := by decide +kernel
theorem dX8_asBilled_31 : dcd cX8_asBilled 31 = some (.getfield 32, 34) := by decide +kernel
theorem dX8_asBilled_34 : dcd cX8_asBilled 34 = some (.iload_n 1, 35) := by decide +kernel
theorem dX8_asBilled_35 : dcd cX8_asBilled 35 = some (.aload_n 0, 36) := by decide +kernel
theorem dX8_asBilled_36 : dcd cX8_asBilled 36 = some (.getfield 22, 39) := by decide +kernel
theorem dX8_asBilled_39 : dcd cX8_asBilled 39 = some (.iconst 3, 40) := by decide +kernel
theorem dX8_asBilled_40 : dcd cX8_asBilled 40 = some (.iload_n 1, 41) := by decide +kernel
theorem dX8_asBilled_41 : dcd cX8_asBilled 41 = some (.iadd, 42) := by decide +kernel
theorem dX8_asBilled_42 : dcd cX8_asBilled 42 = some (.iaload, 43) := by decide +kernel
theorem dX8_asBilled_43 : dcd cX8_asBilled 43 = some (.iastore, 44) := by decide +kernel
theorem dX8_asBilled_44 : dcd cX8_asBilled 44 = some (.iinc 1 1, 47) := by decide +kernel
theorem dX8_asBilled_47 : dcd cX8_asBilled 47 = some (.goto (-25), 50) := by decide +kernel
theorem dX8_asBilled_50 : dcd cX8_asBilled 50 = some (.return_, 51) := by decide +kernel
theorem dX8_end_0 : dcd cX8_end 0 = some (.aload_n 0, 1) := by decide +kernel
theorem dX8_end_1 : dcd cX8_end 1 = some (.getfield 38, 4) := by decide +kernel
theorem dX8_end_4 : dcd cX8_end 4 = some (.iload_n 1, 5) := by decide +kernel
theorem dX8_end_5 : dcd cX8_end 5 = some (.iaload, 6) := by decide +kernel
theorem dX8_end_6 : dcd cX8_end 6 = some (.aload_n 0, 7) := by decide +kernel
theorem dX8_end_7 : dcd cX8_end 7 = some (.aload_n 0, 8) := by decide +kernel
theorem dX8_end_8 : dcd cX8_end 8 = some (.getfield 32, 11) := by decide +kernel
theorem dX8_end_11 : dcd cX8_end 11 = some (.iload_n 1, 12) := by decide +kernel
theorem dX8_end_12 : dcd cX8_end 12 = some (.iaload, 13) := by decide +kernel
theorem dX8_end_13 : dcd cX8_end 13 = some (.iconst 1, 14) := by decide +kernel
theorem dX8_end_14 : dcd cX8_end 14 = some (.invokevirtual 151, 17) := by decide +kernel
theorem dX8_end_17 : dcd cX8_end 17 = some (.iadd, 18) := by decide +kernel
theorem dX8_end_18 : dcd cX8_end 18 = some (.ireturn, 19) := by decide +kernel
theorem dX8_isFront_0 : dcd cX8_isFront 0 = some (.aload_n 0, 1) := by decide +kernel
theorem dX8_isFront_1 : dcd cX8_isFront 1 = some (.aload_n 0, 2) := by decide +kernel
theorem dX8_isFront_2 : dcd cX8_isFront 2 = some (.getfield 32, 5) := by decide +kernel
theorem dX8_isFront_5 : dcd cX8_isFront 5 = some (.iload_n 1, 6) := by decide +kernel
theorem dX8_isFront_6 : dcd cX8_isFront 6 = some (.iaload, 7) := by decide +kernel
theorem dX8_isFront_7 : dcd cX8_isFront 7 = some (.iconst 3, 8) := by decide +kernel
theorem dX8_isFront_8 : dcd cX8_isFront 8 = some (.invokevirtual 151, 11) := by decide +kernel
theorem dX8_isFront_11 : dcd cX8_isFront 11 = some (.iconst 1, 12) := by decide +kernel
theorem dX8_isFront_12 : dcd cX8_isFront 12 = some (.if_icmp .ne 7, 15) := by decide +kernel
theorem dX8_isFront_15 : dcd cX8_isFront 15 = some (.iconst 1, 16) := by decide +kernel
theorem dX8_isFront_16 : dcd cX8_isFront 16 = some (.goto 4, 19) := by decide +kernel
theorem dX8_isFront_19 : dcd cX8_isFront 19 = some (.iconst 0, 20) := by decide +kernel
theorem dX8_isFront_20 : dcd cX8_isFront 20 = some (.ireturn, 21) := by decide +kernel
theorem dX8_gapOf_0 : dcd cX8_gapOf 0 = some (.aload_n 0, 1) := by decide +kernel
theorem dX8_gapOf_1 : dcd cX8_gapOf 1 = some (.iload_n 1, 2) := by decide +kernel
theorem dX8_gapOf_2 : dcd cX8_gapOf 2 = some (.invokevirtual 166, 5) := by decide +kernel
theorem dX8_gapOf_5 : dcd cX8_gapOf 5 = some (.ifCond .eq 5, 8) := by decide +kernel
theorem dX8_gapOf_8 : dcd cX8_gapOf 8 = some (.iconst 0, 9) := by decide +kernel
theorem dX8_gapOf_9 : dcd cX8_gapOf 9 = some (.ireturn, 10) := by decide +kernel
theorem dX8_gapOf_10 : dcd cX8_gapOf 10 = some (.aload_n 0, 11) := by decide +kernel
theorem dX8_gapOf_11 : dcd cX8_gapOf 11 = some (.aload_n 0, 12) := by decide +kernel
theorem dX8_gapOf_12 : dcd cX8_gapOf 12 = some (.getfield 32, 15) := by decide +kernel
theorem dX8_gapOf_15 : dcd cX8_gapOf 15 = some (.iload_n 1, 16) := by decide +kernel
theorem dX8_gapOf_16 : dcd cX8_gapOf 16 = some (.iaload, 17) := by decide +kernel
theorem dX8_gapOf_17 : dcd cX8_gapOf 17 = some (.iconst 4, 18) := by decide +kernel
theorem dX8_gapOf_18 : dcd cX8_gapOf 18 = some (.invokevirtual 151, 21) := by decide +kernel
theorem dX8_gapOf_21 : dcd cX8_gapOf 21 = some (.istore_n 2, 22) := by decide +kernel
theorem dX8_gapOf_22 : dcd cX8_gapOf 22 = some (.iload_n 1, 23) := by decide +kernel
theorem dX8_gapOf_23 : dcd cX8_gapOf 23 = some (.iconst 1, 24) := by decide +kernel
theorem dX8_gapOf_24 : dcd cX8_gapOf 24 = some (.isub, 25) := by decide +kernel
theorem dX8_gapOf_25 : dcd cX8_gapOf 25 = some (.istore_n 3, 26) := by decide +kernel
theorem dX8_gapOf_26 : dcd cX8_gapOf 26 = some (.iload_n 3, 27) := by decide +kernel
theorem dX8_gapOf_27 : dcd cX8_gapOf 27 = some (.ifCond .lt 31, 30) := by decide +kernel
theorem dX8_gapOf_30 : dcd cX8_gapOf 30 = some (.aload_n 0, 31) := by decide +kernel
theorem dX8_gapOf_31 : dcd cX8_gapOf 31 = some (.iload_n 3, 32) := by decide +kernel
theorem dX8_gapOf_32 : dcd cX8_gapOf 32 = some (.invokevirtual 166, 35) := by decide +kernel
theorem dX8_gapOf_35 : dcd cX8_gapOf 35 = some (.ifCond .eq 23, 38) := by decide +kernel
theorem dX8_gapOf_38 : dcd cX8_gapOf 38 = some (.iload_n 2, 39) := by decide +kernel
theorem dX8_gapOf_39 : dcd cX8_gapOf 39 = some (.aload_n 0, 40) := by decide +kernel
theorem dX8_gapOf_40 : dcd cX8_gapOf 40 = some (.aload_n 0, 41) := by decide +kernel
theorem dX8_gapOf_41 : dcd cX8_gapOf 41 = some (.getfield 32, 44) := by decide +kernel
theorem dX8_gapOf_44 : dcd cX8_gapOf 44 = some (.iload_n 3, 45) := by decide +kernel
theorem dX8_gapOf_45 : dcd cX8_gapOf 45 = some (.iaload, 46) := by decide +kernel
theorem dX8_gapOf_46 : dcd cX8_gapOf 46 = some (.iconst 1, 47) := by decide +kernel
theorem dX8_gapOf_47 : dcd cX8_gapOf 47 = some (.invokevirtual 151, 50) := by decide +kernel
theorem dX8_gapOf_50 : dcd cX8_gapOf 50 = some (.isub, 51) := by decide +kernel
theorem dX8_gapOf_51 : dcd cX8_gapOf 51 = some (.istore_n 2, 52) := by decide +kernel
theorem dX8_gapOf_52 : dcd cX8_gapOf 52 = some (.iinc 3 (-1), 55) := by decide +kernel
theorem dX8_gapOf_55 : dcd cX8_gapOf 55 = some (.goto (-29), 58) := by decide +kernel
theorem dX8_gapOf_58 : dcd cX8_gapOf 58 = some (.iload_n 2, 59) := by decide +kernel
theorem dX8_gapOf_59 : dcd cX8_gapOf 59 = some (.iload_n 3, 60) := by decide +kernel
theorem dX8_gapOf_60 : dcd cX8_gapOf 60 = some (.ifCond .lt 17, 63) := by decide +kernel
theorem dX8_gapOf_63 : dcd cX8_gapOf 63 = some (.aload_n 0, 64) := by decide +kernel
theorem dX8_gapOf_64 : dcd cX8_gapOf 64 = some (.aload_n 0, 65) := by decide +kernel
theorem dX8_gapOf_65 : dcd cX8_gapOf 65 = some (.getfield 32, 68) := by decide +kernel
theorem dX8_gapOf_68 : dcd cX8_gapOf 68 = some (.iload_n 3, 69) := by decide +kernel
theorem dX8_gapOf_69 : dcd cX8_gapOf 69 = some (.iaload, 70) := by decide +kernel
theorem dX8_gapOf_70 : dcd cX8_gapOf 70 = some (.iconst 5, 71) := by decide +kernel
theorem dX8_gapOf_71 : dcd cX8_gapOf 71 = some (.invokevirtual 151, 74) := by decide +kernel
theorem dX8_gapOf_74 : dcd cX8_gapOf 74 = some (.goto 4, 77) := by decide +kernel
theorem dX8_gapOf_77 : dcd cX8_gapOf 77 = some (.iconst 0, 78) := by decide +kernel
theorem dX8_gapOf_78 : dcd cX8_gapOf 78 = some (.iadd, 79) := by decide +kernel
theorem dX8_gapOf_79 : dcd cX8_gapOf 79 = some (.istore_n 2, 80) := by decide +kernel
theorem dX8_gapOf_80 : dcd cX8_gapOf 80 = some (.iload_n 2, 81) := by decide +kernel
theorem dX8_gapOf_81 : dcd cX8_gapOf 81 = some (.aload_n 0, 82) := by decide +kernel
theorem dX8_gapOf_82 : dcd cX8_gapOf 82 = some (.getfield 163, 85) := by decide +kernel
theorem dX8_gapOf_85 : dcd cX8_gapOf 85 = some (.ifCond .le 28, 88) := by decide +kernel
theorem dX8_gapOf_88 : dcd cX8_gapOf 88 = some (.aload_n 0, 89) := by decide +kernel
theorem dX8_gapOf_89 : dcd cX8_gapOf 89 = some (.getfield 163, 92) := by decide +kernel
theorem dX8_gapOf_92 : dcd cX8_gapOf 92 = some (.iload_n 3, 93) := by decide +kernel
theorem dX8_gapOf_93 : dcd cX8_gapOf 93 = some (.if_icmp .le 20, 96) := by decide +kernel
theorem dX8_gapOf_96 : dcd cX8_gapOf 96 = some (.aload_n 0, 97) := by decide +kernel
theorem dX8_gapOf_97 : dcd cX8_gapOf 97 = some (.getfield 163, 100) := by decide +kernel
theorem dX8_gapOf_100 : dcd cX8_gapOf 100 = some (.iload_n 1, 101) := by decide +kernel
theorem dX8_gapOf_101 : dcd cX8_gapOf 101 = some (.if_icmp .gt 12, 104) := by decide +kernel
theorem dX8_gapOf_104 : dcd cX8_gapOf 104 = some (.aload_n 0, 105) := by decide +kernel
theorem dX8_gapOf_105 : dcd cX8_gapOf 105 = some (.getfield 16, 108) := by decide +kernel
theorem dX8_gapOf_108 : dcd cX8_gapOf 108 = some (.iconst 2, 109) := by decide +kernel
theorem dX8_gapOf_109 : dcd cX8_gapOf 109 = some (.iaload, 110) := by decide +kernel
theorem dX8_gapOf_110 : dcd cX8_gapOf 110 = some (.goto 4, 113) := by decide +kernel
theorem dX8_gapOf_113 : dcd cX8_gapOf 113 = some (.iconst 0, 114) := by decide +kernel
theorem dX8_gapOf_114 : dcd cX8_gapOf 114 = some (.isub, 115) := by decide +kernel
theorem dX8_gapOf_115 : dcd cX8_gapOf 115 = some (.istore_n 2, 116) := by decide +kernel
theorem dX8_gapOf_116 : dcd cX8_gapOf 116 = some (.iload_n 2, 117) := by decide +kernel
theorem dX8_gapOf_117 : dcd cX8_gapOf 117 = some (.ifCond .ge 7, 120) := by decide +kernel
theorem dX8_gapOf_120 : dcd cX8_gapOf 120 = some (.iconst 0, 121) := by decide +kernel
theorem dX8_gapOf_121 : dcd cX8_gapOf 121 = some (.goto 4, 124) := by decide +kernel
theorem dX8_gapOf_124 : dcd cX8_gapOf 124 = some (.iload_n 2, 125) := by decide +kernel
theorem dX8_gapOf_125 : dcd cX8_gapOf 125 = some (.ireturn, 126) := by decide +kernel
theorem dX8_lays_0 : dcd cX8_lays 0 = some (.iconst 0, 1) := by decide +kernel
theorem dX8_lays_1 : dcd cX8_lays 1 = some (.istore_n 1, 2) := by decide +kernel
theorem dX8_lays_2 : dcd cX8_lays 2 = some (.iload_n 1, 3) := by decide +kernel
theorem dX8_lays_3 : dcd cX8_lays 3 = some (.aload_n 0, 4) := by decide +kernel
theorem dX8_lays_4 : dcd cX8_lays 4 = some (.getfield 160, 7) := by decide +kernel
theorem dX8_lays_7 : dcd cX8_lays 7 = some (.if_icmp .ge 74, 10) := by decide +kernel
theorem dX8_lays_10 : dcd cX8_lays 10 = some (.aload_n 0, 11) := by decide +kernel
theorem dX8_lays_11 : dcd cX8_lays 11 = some (.getfield 35, 14) := by decide +kernel
theorem dX8_lays_14 : dcd cX8_lays 14 = some (.iload_n 1, 15) := by decide +kernel
theorem dX8_lays_15 : dcd cX8_lays 15 = some (.aload_n 0, 16) := by decide +kernel
theorem dX8_lays_16 : dcd cX8_lays 16 = some (.iload_n 1, 17) := by decide +kernel
theorem dX8_lays_17 : dcd cX8_lays 17 = some (.invokevirtual 169, 20) := by decide +kernel
theorem dX8_lays_20 : dcd cX8_lays 20 = some (.iastore, 21) := by decide +kernel
theorem dX8_lays_21 : dcd cX8_lays 21 = some (.aload_n 0, 22) := by decide +kernel
theorem dX8_lays_22 : dcd cX8_lays 22 = some (.getfield 38, 25) := by decide +kernel
theorem dX8_lays_25 : dcd cX8_lays 25 = some (.iload_n 1, 26) := by decide +kernel
theorem dX8_lays_26 : dcd cX8_lays 26 = some (.iload_n 1, 27) := by decide +kernel
theorem dX8_lays_27 : dcd cX8_lays 27 = some (.ifCond .ne 7, 30) := by decide +kernel
theorem dX8_lays_30 : dcd cX8_lays 30 = some (.iconst 0, 31) := by decide +kernel
theorem dX8_lays_31 : dcd cX8_lays 31 = some (.goto 10, 34) := by decide +kernel
theorem dX8_lays_34 : dcd cX8_lays 34 = some (.aload_n 0, 35) := by decide +kernel
theorem dX8_lays_35 : dcd cX8_lays 35 = some (.iload_n 1, 36) := by decide +kernel
theorem dX8_lays_36 : dcd cX8_lays 36 = some (.iconst 1, 37) := by decide +kernel
theorem dX8_lays_37 : dcd cX8_lays 37 = some (.isub, 38) := by decide +kernel
theorem dX8_lays_38 : dcd cX8_lays 38 = some (.invokevirtual 172, 41) := by decide +kernel
theorem dX8_lays_41 : dcd cX8_lays 41 = some (.aload_n 0, 42) := by decide +kernel
theorem dX8_lays_42 : dcd cX8_lays 42 = some (.getfield 163, 45) := by decide +kernel
theorem dX8_lays_45 : dcd cX8_lays 45 = some (.ifCond .le 20, 48) := by decide +kernel
theorem dX8_lays_48 : dcd cX8_lays 48 = some (.iload_n 1, 49) := by decide +kernel
theorem dX8_lays_49 : dcd cX8_lays 49 = some (.aload_n 0, 50) := by decide +kernel
theorem dX8_lays_50 : dcd cX8_lays 50 = some (.getfield 163, 53) := by decide +kernel
theorem dX8_lays_53 : dcd cX8_lays 53 = some (.if_icmp .ne 12, 56) := by decide +kernel
theorem dX8_lays_56 : dcd cX8_lays 56 = some (.aload_n 0, 57) := by decide +kernel
theorem dX8_lays_57 : dcd cX8_lays 57 = some (.getfield 16, 60) := by decide +kernel
theorem dX8_lays_60 : dcd cX8_lays 60 = some (.iconst 2, 61) := by decide +kernel
theorem dX8_lays_61 : dcd cX8_lays 61 = some (.iaload, 62) := by decide +kernel
theorem dX8_lays_62 : dcd cX8_lays 62 = some (.goto 4, 65) := by decide +kernel
theorem dX8_lays_65 : dcd cX8_lays 65 = some (.iconst 0, 66) := by decide +kernel
theorem dX8_lays_66 : dcd cX8_lays 66 = some (.iadd, 67) := by decide +kernel
theorem dX8_lays_67 : dcd cX8_lays 67 = some (.aload_n 0, 68) := by decide +kernel
theorem dX8_lays_68 : dcd cX8_lays 68 = some (.getfield 35, 71) := by decide +kernel
theorem dX8_lays_71 : dcd cX8_lays 71 = some (.iload_n 1, 72) := by decide +kernel
theorem dX8_lays_72 : dcd cX8_lays 72 = some (.iaload, 73) := by decide +kernel
theorem dX8_lays_73 : dcd cX8_lays 73 = some (.iadd, 74) := by decide +kernel
theorem dX8_lays_74 : dcd cX8_lays 74 = some (.iastore, 75) := by decide +kernel
theorem dX8_lays_75 : dcd cX8_lays 75 = some (.iinc 1 1, 78) := by decide +kernel
theorem dX8_lays_78 : dcd cX8_lays 78 = some (.goto (-76), 81) := by decide +kernel
theorem dX8_lays_81 : dcd cX8_lays 81 = some (.return_, 82) := by decide +kernel
theorem dX8_minute_0 : dcd cX8_minute 0 = some (.aload_n 0, 1) := by decide +kernel
theorem dX8_minute_1 : dcd cX8_minute 1 = some (.iconst 0, 2) := by decide +kernel
theorem dX8_minute_2 : dcd cX8_minute 2 = some (.putfield 68, 5) := by decide +kernel
theorem dX8_minute_5 : dcd cX8_minute 5 = some (.aload_n 0, 6) := by decide +kernel
theorem dX8_minute_6 : dcd cX8_minute 6 = some (.iload_n 1, 7) := by decide +kernel
theorem dX8_minute_7 : dcd cX8_minute 7 = some (.invokevirtual 157, 10) := by decide +kernel
theorem dX8_minute_10 : dcd cX8_minute 10 = some (.ifCond .eq 12, 13) := by decide +kernel
theorem dX8_minute_13 : dcd cX8_minute 13 = some (.iload_n 2, 14) := by decide +kernel
theorem dX8_minute_14 : dcd cX8_minute 14 = some (.iconst 0, 15) := by decide +kernel
theorem dX8_minute_15 : dcd cX8_minute 15 = some (.iconst 2, 16) := by decide +kernel
theorem dX8_minute_16 : dcd cX8_minute 16 = some (.invokestatic 72, 19) := by decide +kernel
theorem dX8_minute_19 : dcd cX8_minute 19 = some (.ifCond .ne 5, 22) := by decide +kernel
theorem dX8_minute_22 : dcd cX8_minute 22 = some (.iconst (-1), 23) := by decide +kernel
theorem dX8_minute_23 : dcd cX8_minute 23 = some (.ireturn, 24) := by decide +kernel
theorem dX8_minute_24 : dcd cX8_minute 24 = some (.aload_n 0, 25) := by decide +kernel
theorem dX8_minute_25 : dcd cX8_minute 25 = some (.invokevirtual 175, 28) := by decide +kernel
theorem dX8_minute_28 : dcd cX8_minute 28 = some (.aload_n 0, 29) := by decide +kernel
theorem dX8_minute_29 : dcd cX8_minute 29 = some (.invokevirtual 178, 32) := by decide +kernel
theorem dX8_minute_32 : dcd cX8_minute 32 = some (.iload_n 2, 33) := by decide +kernel
theorem dX8_minute_33 : dcd cX8_minute 33 = some (.ifCond .ne 12, 36) := by decide +kernel
theorem dX8_minute_36 : dcd cX8_minute 36 = some (.aload_n 0, 37) := by decide +kernel
theorem dX8_minute_37 : dcd cX8_minute 37 = some (.getfield 35, 40) := by decide +kernel
theorem dX8_minute_40 : dcd cX8_minute 40 = some (.iload_n 1, 41) := by decide +kernel
theorem dX8_minute_41 : dcd cX8_minute 41 = some (.iaload, 42) := by decide +kernel
theorem dX8_minute_42 : dcd cX8_minute 42 = some (.goto 22, 45) := by decide +kernel
theorem dX8_minute_45 : dcd cX8_minute 45 = some (.iload_n 2, 46) := by decide +kernel
theorem dX8_minute_46 : dcd cX8_minute 46 = some (.iconst 1, 47) := by decide +kernel
theorem dX8_minute_47 : dcd cX8_minute 47 = some (.if_icmp .ne 12, 50) := by decide +kernel
theorem dX8_minute_50 : dcd cX8_minute 50 = some (.aload_n 0, 51) := by decide +kernel
theorem dX8_minute_51 : dcd cX8_minute 51 = some (.getfield 38, 54) := by decide +kernel
theorem dX8_minute_54 : dcd cX8_minute 54 = some (.iload_n 1, 55) := by decide +kernel
theorem dX8_minute_55 : dcd cX8_minute 55 = some (.iaload, 56) := by decide +kernel
theorem dX8_minute_56 : dcd cX8_minute 56 = some (.goto 8, 59) := by decide +kernel
theorem dX8_minute_59 : dcd cX8_minute 59 = some (.aload_n 0, 60) := by decide +kernel
theorem dX8_minute_60 : dcd cX8_minute 60 = some (.iload_n 1, 61) := by decide +kernel
theorem dX8_minute_61 : dcd cX8_minute 61 = some (.invokevirtual 172, 64) := by decide +kernel
theorem dX8_minute_64 : dcd cX8_minute 64 = some (.ireturn, 65) := by decide +kernel
theorem dX8_isStaged_0 : dcd cX8_isStaged 0 = some (.aload_n 0, 1) := by decide +kernel
theorem dX8_isStaged_1 : dcd cX8_isStaged 1 = some (.invokevirtual 178, 4) := by decide +kernel
theorem dX8_isStaged_4 : dcd cX8_isStaged 4 = some (.aload_n 0, 5) := by decide +kernel
theorem dX8_isStaged_5 : dcd cX8_isStaged 5 = some (.iconst 0, 6) := by decide +kernel
theorem dX8_isStaged_6 : dcd cX8_isStaged 6 = some (.putfield 181, 9) := by decide +kernel
theorem dX8_isStaged_9 : dcd cX8_isStaged 9 = some (.iconst 0, 10) := by decide +kernel
theorem dX8_isStaged_10 : dcd cX8_isStaged 10 = some (.istore_n 1, 11) := by decide +kernel
theorem dX8_isStaged_11 : dcd cX8_isStaged 11 = some (.iload_n 1, 12) := by decide +kernel
theorem dX8_isStaged_12 : dcd cX8_isStaged 12 = some (.aload_n 0, 13) := by decide +kernel
theorem dX8_isStaged_13 : dcd cX8_isStaged 13 = some (.getfield 160, 16) := by decide +kernel
theorem dX8_isStaged_16 : dcd cX8_isStaged 16 = some (.if_icmp .ge 229, 19) := by decide +kernel
theorem dX8_isStaged_19 : dcd cX8_isStaged 19 = some (.iload_n 1, 20) := by decide +kernel
theorem dX8_isStaged_20 : dcd cX8_isStaged 20 = some (.ifCond .le 22, 23) := by decide +kernel
theorem dX8_isStaged_23 : dcd cX8_isStaged 23 = some (.aload_n 0, 24) := by decide +kernel
theorem dX8_isStaged_24 : dcd cX8_isStaged 24 = some (.getfield 163, 27) := by decide +kernel
theorem dX8_isStaged_27 : dcd cX8_isStaged 27 = some (.ifCond .le 11, 30) := by decide +kernel
theorem dX8_isStaged_30 : dcd cX8_isStaged 30 = some (.iload_n 1, 31) := by decide +kernel
theorem dX8_isStaged_31 : dcd cX8_isStaged 31 = some (.aload_n 0, 32) := by decide +kernel
theorem dX8_isStaged_32 : dcd cX8_isStaged 32 = some (.getfield 163, 35) := by decide +kernel
theorem dX8_isStaged_35 : dcd cX8_isStaged 35 = some (.if_icmp .eq 7, 38) := by decide +kernel
theorem dX8_isStaged_38 : dcd cX8_isStaged 38 = some (.iconst 1, 39) := by decide +kernel
theorem dX8_isStaged_39 : dcd cX8_isStaged 39 = some (.goto 4, 42) := by decide +kernel
theorem dX8_isStaged_42 : dcd cX8_isStaged 42 = some (.iconst 0, 43) := by decide +kernel
theorem dX8_isStaged_43 : dcd cX8_isStaged 43 = some (.istore_n 2, 44) := by decide +kernel
theorem dX8_isStaged_44 : dcd cX8_isStaged 44 = some (.iload_n 1, 45) := by decide +kernel
theorem dX8_isStaged_45 : dcd cX8_isStaged 45 = some (.ifCond .le 34, 48) := by decide +kernel
theorem dX8_isStaged_48 : dcd cX8_isStaged 48 = some (.aload_n 0, 49) := by decide +kernel
theorem dX8_isStaged_49 : dcd cX8_isStaged 49 = some (.aload_n 0, 50) := by decide +kernel
theorem dX8_isStaged_50 : dcd cX8_isStaged 50 = some (.getfield 32, 53) := by decide +kernel
theorem dX8_isStaged_53 : dcd cX8_isStaged 53 = some (.iload_n 1, 54) := by decide +kernel
theorem dX8_isStaged_54 : dcd cX8_isStaged 54 = some (.iaload, 55) := by decide +kernel
theorem dX8_isStaged_55 : dcd cX8_isStaged 55 = some (.bipush 8, 57) := by decide +kernel
theorem dX8_isStaged_57 : dcd cX8_isStaged 57 = some (.invokevirtual 151, 60) := by decide +kernel
theorem dX8_isStaged_60 : dcd cX8_isStaged 60 = some (.aload_n 0, 61) := by decide +kernel
theorem dX8_isStaged_61 : dcd cX8_isStaged 61 = some (.getfield 32, 64) := by decide +kernel
theorem dX8_isStaged_64 : dcd cX8_isStaged 64 = some (.iload_n 1, 65) := by decide +kernel
theorem dX8_isStaged_65 : dcd cX8_isStaged 65 = some (.iconst 1, 66) := by decide +kernel
theorem dX8_isStaged_66 : dcd cX8_isStaged 66 = some (.isub, 67) := by decide +kernel
theorem dX8_isStaged_67 : dcd cX8_isStaged 67 = some (.iaload, 68) := by decide +kernel
theorem dX8_isStaged_68 : dcd cX8_isStaged 68 = some (.ishr, 69) := by decide +kernel
theorem dX8_isStaged_69 : dcd cX8_isStaged 69 = some (.iconst 1, 70) := by decide +kernel
theorem dX8_isStaged_70 : dcd cX8_isStaged 70 = some (.iand, 71) := by decide +kernel
theorem dX8_isStaged_71 : dcd cX8_isStaged 71 = some (.iconst 1, 72) := by decide +kernel
theorem dX8_isStaged_72 : dcd cX8_isStaged 72 = some (.if_icmp .ne 7, 75) := by decide +kernel
theorem dX8_isStaged_75 : dcd cX8_isStaged 75 = some (.iconst 1, 76) := by decide +kernel
theorem dX8_isStaged_76 : dcd cX8_isStaged 76 = some (.goto 4, 79) := by decide +kernel
theorem dX8_isStaged_79 : dcd cX8_isStaged 79 = some (.iconst 0, 80) := by decide +kernel
theorem dX8_isStaged_80 : dcd cX8_isStaged 80 = some (.istore_n 3, 81) := by decide +kernel
theorem dX8_isStaged_81 : dcd cX8_isStaged 81 = some (.aload_n 0, 82) := by decide +kernel
theorem dX8_isStaged_82 : dcd cX8_isStaged 82 = some (.aload_n 0, 83) := by decide +kernel
theorem dX8_isStaged_83 : dcd cX8_isStaged 83 = some (.getfield 32, 86) := by decide +kernel
theorem dX8_isStaged_86 : dcd cX8_isStaged 86 = some (.iload_n 1, 87) := by decide +kernel
theorem dX8_isStaged_87 : dcd cX8_isStaged 87 = some (.iaload, 88) := by decide +kernel
theorem dX8_isStaged_88 : dcd cX8_isStaged 88 = some (.bipush 7, 90) := by decide +kernel
theorem dX8_isStaged_90 : dcd cX8_isStaged 90 = some (.invokevirtual 151, 93) := by decide +kernel
theorem dX8_isStaged_93 : dcd cX8_isStaged 93 = some (.istore 4, 95) := by decide +kernel
theorem dX8_isStaged_95 : dcd cX8_isStaged 95 = some (.aload_n 0, 96) := by decide +kernel
theorem dX8_isStaged_96 : dcd cX8_isStaged 96 = some (.getfield 35, 99) := by decide +kernel
theorem dX8_isStaged_99 : dcd cX8_isStaged 99 = some (.iload_n 1, 100) := by decide +kernel
theorem dX8_isStaged_100 : dcd cX8_isStaged 100 = some (.iaload, 101) := by decide +kernel
theorem dX8_isStaged_101 : dcd cX8_isStaged 101 = some (.aload_n 0, 102) := by decide +kernel
theorem dX8_isStaged_102 : dcd cX8_isStaged 102 = some (.getfield 16, 105) := by decide +kernel
theorem dX8_isStaged_105 : dcd cX8_isStaged 105 = some (.iconst 0, 106) := by decide +kernel
theorem dX8_isStaged_106 : dcd cX8_isStaged 106 = some (.iaload, 107) := by decide +kernel
theorem dX8_isStaged_107 : dcd cX8_isStaged 107 = some (.if_icmp .le 7, 110) := by decide +kernel
theorem dX8_isStaged_110 : dcd cX8_isStaged 110 = some (.iconst 1, 111) := by decide +kernel
theorem dX8_isStaged_111 : dcd cX8_isStaged 111 = some (.goto 94, 114) := by decide +kernel
theorem dX8_isStaged_114 : dcd cX8_isStaged 114 = some (.iload_n 2, 115) := by decide +kernel
theorem dX8_isStaged_115 : dcd cX8_isStaged 115 = some (.ifCond .eq 34, 118) := by decide +kernel
theorem dX8_isStaged_118 : dcd cX8_isStaged 118 = some (.aload_n 0, 119) := by decide +kernel
theorem dX8_isStaged_119 : dcd cX8_isStaged 119 = some (.aload_n 0, 120) := by decide +kernel
theorem dX8_isStaged_120 : dcd cX8_isStaged 120 = some (.getfield 32, 123) := by decide +kernel
theorem dX8_isStaged_123 : dcd cX8_isStaged 123 = some (.iload_n 1, 124) := by decide +kernel
theorem dX8_isStaged_124 : dcd cX8_isStaged 124 = some (.iaload, 125) := by decide +kernel
theorem dX8_isStaged_125 : dcd cX8_isStaged 125 = some (.iconst 0, 126) := by decide +kernel
theorem dX8_isStaged_126 : dcd cX8_isStaged 126 = some (.invokevirtual 151, 129) := by decide +kernel
theorem dX8_isStaged_129 : dcd cX8_isStaged 129 = some (.aload_n 0, 130) := by decide +kernel
theorem dX8_isStaged_130 : dcd cX8_isStaged 130 = some (.aload_n 0, 131) := by decide +kernel
theorem dX8_isStaged_131 : dcd cX8_isStaged 131 = some (.getfield 32, 134) := by decide +kernel
theorem dX8_isStaged_134 : dcd cX8_isStaged 134 = some (.iload_n 1, 135) := by decide +kernel
theorem dX8_isStaged_135 : dcd cX8_isStaged 135 = some (.iconst 1, 136) := by decide +kernel
theorem dX8_isStaged_136 : dcd cX8_isStaged 136 = some (.isub, 137) := by decide +kernel
theorem dX8_isStaged_137 : dcd cX8_isStaged 137 = some (.iaload, 138) := by decide +kernel
theorem dX8_isStaged_138 : dcd cX8_isStaged 138 = some (.iconst 0, 139) := by decide +kernel
theorem dX8_isStaged_139 : dcd cX8_isStaged 139 = some (.invokevirtual 151, 142) := by decide +kernel
theorem dX8_isStaged_142 : dcd cX8_isStaged 142 = some (.if_icmp .ne 7, 145) := by decide +kernel
theorem dX8_isStaged_145 : dcd cX8_isStaged 145 = some (.iconst 2, 146) := by decide +kernel
theorem dX8_isStaged_146 : dcd cX8_isStaged 146 = some (.goto 59, 149) := by decide +kernel
theorem dX8_isStaged_149 : dcd cX8_isStaged 149 = some (.iload_n 3, 150) := by decide +kernel
theorem dX8_isStaged_150 : dcd cX8_isStaged 150 = some (.ifCond .eq 7, 153) := by decide +kernel
theorem dX8_isStaged_153 : dcd cX8_isStaged 153 = some (.iconst 3, 154) := by decide +kernel
theorem dX8_isStaged_154 : dcd cX8_isStaged 154 = some (.goto 51, 157) := by decide +kernel
theorem dX8_isStaged_157 : dcd cX8_isStaged 157 = some (.iload 4, 159) := by decide +kernel
theorem dX8_isStaged_159 : dcd cX8_isStaged 159 = some (.ifCond .le 17, 162) := by decide +kernel
theorem dX8_isStaged_162 : dcd cX8_isStaged 162 = some (.aload_n 0, 163) := by decide +kernel
theorem dX8_isStaged_163 : dcd cX8_isStaged 163 = some (.iload_n 1, 164) := by decide +kernel
theorem dX8_isStaged_164 : dcd cX8_isStaged 164 = some (.invokevirtual 172, 167) := by decide +kernel
theorem dX8_isStaged_167 : dcd cX8_isStaged 167 = some (.iload 4, 169) := by decide +kernel
theorem dX8_isStaged_169 : dcd cX8_isStaged 169 = some (.if_icmp .le 7, 172) := by decide +kernel
theorem dX8_isStaged_172 : dcd cX8_isStaged 172 = some (.iconst 4, 173) := by decide +kernel
theorem dX8_isStaged_173 : dcd cX8_isStaged 173 = some (.goto 32, 176) := by decide +kernel
theorem dX8_isStaged_176 : dcd cX8_isStaged 176 = some (.iload_n 1, 177) := by decide +kernel
theorem dX8_isStaged_177 : dcd cX8_isStaged 177 = some (.aload_n 0, 178) := by decide +kernel
theorem dX8_isStaged_178 : dcd cX8_isStaged 178 = some (.getfield 160, 181) := by decide +kernel
theorem dX8_isStaged_181 : dcd cX8_isStaged 181 = some (.iconst 1, 182) := by decide +kernel
theorem dX8_isStaged_182 : dcd cX8_isStaged 182 = some (.isub, 183) := by decide +kernel
theorem dX8_isStaged_183 : dcd cX8_isStaged 183 = some (.if_icmp .ne 21, 186) := by decide +kernel
theorem dX8_isStaged_186 : dcd cX8_isStaged 186 = some (.aload_n 0, 187) := by decide +kernel
theorem dX8_isStaged_187 : dcd cX8_isStaged 187 = some (.iload_n 1, 188) := by decide +kernel
theorem dX8_isStaged_188 : dcd cX8_isStaged 188 = some (.invokevirtual 172, 191) := by decide +kernel
theorem dX8_isStaged_191 : dcd cX8_isStaged 191 = some (.aload_n 0, 192) := by decide +kernel
theorem dX8_isStaged_192 : dcd cX8_isStaged 192 = some (.getfield 16, 195) := by decide +kernel
theorem dX8_isStaged_195 : dcd cX8_isStaged 195 = some (.iconst 1, 196) := by decide +kernel
theorem dX8_isStaged_196 : dcd cX8_isStaged 196 = some (.iaload, 197) := by decide +kernel
theorem dX8_isStaged_197 : dcd cX8_isStaged 197 = some (.if_icmp .le 7, 200) := by decide +kernel
theorem dX8_isStaged_200 : dcd cX8_isStaged 200 = some (.iconst 5, 201) := by decide +kernel
theorem dX8_isStaged_201 : dcd cX8_isStaged 201 = some (.goto 4, 204) := by decide +kernel
theorem dX8_isStaged_204 : dcd cX8_isStaged 204 = some (.iconst 0, 205) := by decide +kernel
theorem dX8_isStaged_205 : dcd cX8_isStaged 205 = some (.istore 5, 207) := by decide +kernel
theorem dX8_isStaged_207 : dcd cX8_isStaged 207 = some (.iload 5, 209) := by decide +kernel
theorem dX8_isStaged_209 : dcd cX8_isStaged 209 = some (.ifCond .le 30, 212) := by decide +kernel
theorem dX8_isStaged_212 : dcd cX8_isStaged 212 = some (.aload_n 0, 213) := by decide +kernel
theorem dX8_isStaged_213 : dcd cX8_isStaged 213 = some (.getfield 181, 216) := by decide +kernel
theorem dX8_isStaged_216 : dcd cX8_isStaged 216 = some (.ifCond .eq 12, 219) := by decide +kernel
theorem dX8_isStaged_219 : dcd cX8_isStaged 219 = some (.iload 5, 221) := by decide +kernel
theorem dX8_isStaged_221 : dcd cX8_isStaged 221 = some (.aload_n 0, 222) := by decide +kernel
theorem dX8_isStaged_222 : dcd cX8_isStaged 222 = some (.getfield 181, 225) := by decide +kernel
theorem dX8_isStaged_225 : dcd cX8_isStaged 225 = some (.if_icmp .ge 14, 228) := by decide +kernel
theorem dX8_isStaged_228 : dcd cX8_isStaged 228 = some (.aload_n 0, 229) := by decide +kernel
theorem dX8_isStaged_229 : dcd cX8_isStaged 229 = some (.iload 5, 231) := by decide +kernel
theorem dX8_isStaged_231 : dcd cX8_isStaged 231 = some (.putfield 181, 234) := by decide +kernel
theorem dX8_isStaged_234 : dcd cX8_isStaged 234 = some (.aload_n 0, 235) := by decide +kernel
theorem dX8_isStaged_235 : dcd cX8_isStaged 235 = some (.iload_n 1, 236) := by decide +kernel
theorem dX8_isStaged_236 : dcd cX8_isStaged 236 = some (.putfield 184, 239) := by decide +kernel
theorem dX8_isStaged_239 : dcd cX8_isStaged 239 = some (.iinc 1 1, 242) := by decide +kernel
theorem dX8_isStaged_242 : dcd cX8_isStaged 242 = some (.goto (-231), 245) := by decide +kernel
theorem dX8_isStaged_245 : dcd cX8_isStaged 245 = some (.aload_n 0, 246) := by decide +kernel
theorem dX8_isStaged_246 : dcd cX8_isStaged 246 = some (.getfield 181, 249) := by decide +kernel
theorem dX8_isStaged_249 : dcd cX8_isStaged 249 = some (.ifCond .ne 7, 252) := by decide +kernel
theorem dX8_isStaged_252 : dcd cX8_isStaged 252 = some (.iconst 1, 253) := by decide +kernel
theorem dX8_isStaged_253 : dcd cX8_isStaged 253 = some (.goto 4, 256) := by decide +kernel
theorem dX8_isStaged_256 : dcd cX8_isStaged 256 = some (.iconst 0, 257) := by decide +kernel
theorem dX8_isStaged_257 : dcd cX8_isStaged 257 = some (.ireturn, 258) := by decide +kernel
theorem dX8_staged_0 : dcd cX8_staged 0 = some (.aload_n 0, 1) := by decide +kernel
theorem dX8_staged_1 : dcd cX8_staged 1 = some (.iconst 0, 2) := by decide +kernel
theorem dX8_staged_2 : dcd cX8_staged 2 = some (.putfield 68, 5) := by decide +kernel
theorem dX8_staged_5 : dcd cX8_staged 5 = some (.iload_n 1, 6) := by decide +kernel
theorem dX8_staged_6 : dcd cX8_staged 6 = some (.iconst 0, 7) := by decide +kernel
theorem dX8_staged_7 : dcd cX8_staged 7 = some (.iconst 1, 8) := by decide +kernel
theorem dX8_staged_8 : dcd cX8_staged 8 = some (.invokestatic 72, 11) := by decide +kernel
theorem dX8_staged_11 : dcd cX8_staged 11 = some (.ifCond .ne 5, 14) := by decide +kernel
theorem dX8_staged_14 : dcd cX8_staged 14 = some (.iconst (-1), 15) := by decide +kernel
theorem dX8_staged_15 : dcd cX8_staged 15 = some (.ireturn, 16) := by decide +kernel
theorem dX8_staged_16 : dcd cX8_staged 16 = some (.aload_n 0, 17) := by decide +kernel
theorem dX8_staged_17 : dcd cX8_staged 17 = some (.getfield 22, 20) := by decide +kernel
theorem dX8_staged_20 : dcd cX8_staged 20 = some (.iconst 0, 21) := by decide +kernel
theorem dX8_staged_21 : dcd cX8_staged 21 = some (.iaload, 22) := by decide +kernel
theorem dX8_staged_22 : dcd cX8_staged 22 = some (.ifCond .ne 6, 25) := by decide +kernel
theorem dX8_staged_25 : dcd cX8_staged 25 = some (.bipush (-2), 27) := by decide +kernel
theorem dX8_staged_27 : dcd cX8_staged 27 = some (.ireturn, 28) := by decide +kernel
theorem dX8_staged_28 : dcd cX8_staged 28 = some (.aload_n 0, 29) := by decide +kernel
theorem dX8_staged_29 : dcd cX8_staged 29 = some (.invokevirtual 175, 32) := by decide +kernel
theorem dX8_staged_32 : dcd cX8_staged 32 = some (.aload_n 0, 33) := by decide +kernel
theorem dX8_staged_33 : dcd cX8_staged 33 = some (.invokevirtual 187, 36) := by decide +kernel
theorem dX8_staged_36 : dcd cX8_staged 36 = some (.ifCond .eq 8, 39) := by decide +kernel
theorem dX8_staged_39 : dcd cX8_staged 39 = some (.bipush (-9), 41) := by decide +kernel
theorem dX8_staged_41 : dcd cX8_staged 41 = some (.goto 18, 44) := by decide +kernel
theorem dX8_staged_44 : dcd cX8_staged 44 = some (.iload_n 1, 45) := by decide +kernel
theorem dX8_staged_45 : dcd cX8_staged 45 = some (.ifCond .ne 10, 48) := by decide +kernel
theorem dX8_staged_48 : dcd cX8_staged 48 = some (.aload_n 0, 49) := by decide +kernel
theorem dX8_staged_49 : dcd cX8_staged 49 = some (.getfield 181, 52) := by decide +kernel
theorem dX8_staged_52 : dcd cX8_staged 52 = some (.goto 7, 55) := by decide +kernel
theorem dX8_staged_55 : dcd cX8_staged 55 = some (.aload_n 0, 56) := by decide +kernel
theorem dX8_staged_56 : dcd cX8_staged 56 = some (.getfield 184, 59) := by decide +kernel
theorem dX8_staged_59 : dcd cX8_staged 59 = some (.ireturn, 60) := by decide +kernel
theorem dX8_draws_0 : dcd cX8_draws 0 = some (.aload_n 0, 1) := by decide +kernel
theorem dX8_draws_1 : dcd cX8_draws 1 = some (.getfield 22, 4) := by decide +kernel
theorem dX8_draws_4 : dcd cX8_draws 4 = some (.iconst 2, 5) := by decide +kernel
theorem dX8_draws_5 : dcd cX8_draws 5 = some (.aload_n 0, 6) := by decide +kernel
theorem dX8_draws_6 : dcd cX8_draws 6 = some (.getfield 22, 9) := by decide +kernel
theorem dX8_draws_9 : dcd cX8_draws 9 = some (.iconst 2, 10) := by decide +kernel
theorem dX8_draws_10 : dcd cX8_draws 10 = some (.iaload, 11) := by decide +kernel
theorem dX8_draws_11 : dcd cX8_draws 11 = some (.ldc 190, 13) := by decide +kernel
theorem dX8_draws_13 : dcd cX8_draws 13 = some (.imul, 14) := by decide +kernel
theorem dX8_draws_14 : dcd cX8_draws 14 = some (.sipush 12345, 17) := by decide +kernel
theorem dX8_draws_17 : dcd cX8_draws 17 = some (.iadd, 18) := by decide +kernel
theorem dX8_draws_18 : dcd cX8_draws 18 = some (.iastore, 19) := by decide +kernel
theorem dX8_draws_19 : dcd cX8_draws 19 = some (.aload_n 0, 20) := by decide +kernel
theorem dX8_draws_20 : dcd cX8_draws 20 = some (.getfield 22, 23) := by decide +kernel
theorem dX8_draws_23 : dcd cX8_draws 23 = some (.iconst 2, 24) := by decide +kernel
theorem dX8_draws_24 : dcd cX8_draws 24 = some (.iaload, 25) := by decide +kernel
theorem dX8_draws_25 : dcd cX8_draws 25 = some (.bipush 16, 27) := by decide +kernel
theorem dX8_draws_27 : dcd cX8_draws 27 = some (.ishr, 28) := by decide +kernel
theorem dX8_draws_28 : dcd cX8_draws 28 = some (.ldc 191, 30) := by decide +kernel
theorem dX8_draws_30 : dcd cX8_draws 30 = some (.iand, 31) := by decide +kernel
theorem dX8_draws_31 : dcd cX8_draws 31 = some (.iconst 5, 32) := by decide +kernel
theorem dX8_draws_32 : dcd cX8_draws 32 = some (.irem, 33) := by decide +kernel
theorem dX8_draws_33 : dcd cX8_draws 33 = some (.ireturn, 34) := by decide +kernel
theorem dX8_nightOf_0 : dcd cX8_nightOf 0 = some (.aload_n 0, 1) := by decide +kernel
theorem dX8_nightOf_1 : dcd cX8_nightOf 1 = some (.getfield 16, 4) := by decide +kernel
theorem dX8_nightOf_4 : dcd cX8_nightOf 4 = some (.bipush 6, 6) := by decide +kernel
theorem dX8_nightOf_6 : dcd cX8_nightOf 6 = some (.iaload, 7) := by decide +kernel
theorem dX8_nightOf_7 : dcd cX8_nightOf 7 = some (.istore_n 2, 8) := by decide +kernel
theorem dX8_nightOf_8 : dcd cX8_nightOf 8 = some (.aload_n 0, 9) := by decide +kernel
theorem dX8_nightOf_9 : dcd cX8_nightOf 9 = some (.getfield 16, 12) := by decide +kernel
theorem dX8_nightOf_12 : dcd cX8_nightOf 12 = some (.bipush 7, 14) := by decide +kernel
theorem dX8_nightOf_14 : dcd cX8_nightOf 14 = some (.iaload, 15) := by decide +kernel
theorem dX8_nightOf_15 : dcd cX8_nightOf 15 = some (.istore_n 3, 16) := by decide +kernel
theorem dX8_nightOf_16 : dcd cX8_nightOf 16 = some (.aload_n 0, 17) := by decide +kernel
theorem dX8_nightOf_17 : dcd cX8_nightOf 17 = some (.iconst 0, 18) := by decide +kernel
theorem dX8_nightOf_18 : dcd cX8_nightOf 18 = some (.putfield 192, 21) := by decide +kernel
theorem dX8_nightOf_21 : dcd cX8_nightOf 21 = some (.aload_n 0, 22) := by decide +kernel
theorem dX8_nightOf_22 : dcd cX8_nightOf 22 = some (.iconst 0, 23) := by decide +kernel
theorem dX8_nightOf_23 : dcd cX8_nightOf 23 = some (.putfield 195, 26) := by decide +kernel
theorem dX8_nightOf_26 : dcd cX8_nightOf 26 = some (.iconst 0, 27) := by decide +kernel
theorem dX8_nightOf_27 : dcd cX8_nightOf 27 = some (.istore 4, 29) := by decide +kernel
theorem dX8_nightOf_29 : dcd cX8_nightOf 29 = some (.iload 4, 31) := by decide +kernel
theorem dX8_nightOf_31 : dcd cX8_nightOf 31 = some (.aload_n 0, 32) := by decide +kernel
theorem dX8_nightOf_32 : dcd cX8_nightOf 32 = some (.getfield 160, 35) := by decide +kernel
theorem dX8_nightOf_35 : dcd cX8_nightOf 35 = some (.if_icmp .ge 398, 38) := by decide +kernel
theorem dX8_nightOf_38 : dcd cX8_nightOf 38 = some (.aload_n 0, 39) := by decide +kernel
theorem dX8_nightOf_39 : dcd cX8_nightOf 39 = some (.getfield 163, 42) := by decide +kernel
theorem dX8_nightOf_42 : dcd cX8_nightOf 42 = some (.ifCond .le 16, 45) := by decide +kernel
theorem dX8_nightOf_45 : dcd cX8_nightOf 45 = some (.iload 4, 47) := by decide +kernel
theorem dX8_nightOf_47 : dcd cX8_nightOf 47 = some (.aload_n 0, 48) := by decide +kernel
theorem dX8_nightOf_48 : dcd cX8_nightOf 48 = some (.getfield 163, 51) := by decide +kernel
theorem dX8_nightOf_51 : dcd cX8_nightOf 51 = some (.if_icmp .ne 7, 54) := by decide +kernel
theorem dX8_nightOf_54 : dcd cX8_nightOf 54 = some (.iconst 1, 55) := by decide +kernel
theorem dX8_nightOf_55 : dcd cX8_nightOf 55 = some (.goto 4, 58) := by decide +kernel
theorem dX8_nightOf_58 : dcd cX8_nightOf 58 = some (.iconst 0, 59) := by decide +kernel
theorem dX8_nightOf_59 : dcd cX8_nightOf 59 = some (.istore 5, 61) := by decide +kernel
theorem dX8_nightOf_61 : dcd cX8_nightOf 61 = some (.iload 5, 63) := by decide +kernel
theorem dX8_nightOf_63 : dcd cX8_nightOf 63 = some (.ifCond .eq 23, 66) := by decide +kernel
theorem dX8_nightOf_66 : dcd cX8_nightOf 66 = some (.aload_n 0, 67) := by decide +kernel
theorem dX8_nightOf_67 : dcd cX8_nightOf 67 = some (.dup, 68) := by decide +kernel
theorem dX8_nightOf_68 : dcd cX8_nightOf 68 = some (.getfield 192, 71) := by decide +kernel
theorem dX8_nightOf_71 : dcd cX8_nightOf 71 = some (.iload_n 3, 72) := by decide +kernel
theorem dX8_nightOf_72 : dcd cX8_nightOf 72 = some (.iload_n 2, 73) := by decide +kernel
theorem dX8_nightOf_73 : dcd cX8_nightOf 73 = some (.imul, 74) := by decide +kernel
theorem dX8_nightOf_74 : dcd cX8_nightOf 74 = some (.sipush 1000, 77) := by decide +kernel
theorem dX8_nightOf_77 : dcd cX8_nightOf 77 = some (.idiv, 78) := by decide +kernel
theorem dX8_nightOf_78 : dcd cX8_nightOf 78 = some (.iadd, 79) := by decide +kernel
theorem dX8_nightOf_79 : dcd cX8_nightOf 79 = some (.putfield 192, 82) := by decide +kernel
theorem dX8_nightOf_82 : dcd cX8_nightOf 82 = some (.iload_n 2, 83) := by decide +kernel
theorem dX8_nightOf_83 : dcd cX8_nightOf 83 = some (.iconst 2, 84) := by decide +kernel
theorem dX8_nightOf_84 : dcd cX8_nightOf 84 = some (.idiv, 85) := by decide +kernel
theorem dX8_nightOf_85 : dcd cX8_nightOf 85 = some (.istore_n 2, 86) := by decide +kernel
theorem dX8_nightOf_86 : dcd cX8_nightOf 86 = some (.iload_n 2, 87) := by decide +kernel
theorem dX8_nightOf_87 : dcd cX8_nightOf 87 = some (.aload_n 0, 88) := by decide +kernel
theorem dX8_nightOf_88 : dcd cX8_nightOf 88 = some (.getfield 16, 91) := by decide +kernel
theorem dX8_nightOf_91 : dcd cX8_nightOf 91 = some (.iconst 3, 92) := by decide +kernel
theorem dX8_nightOf_92 : dcd cX8_nightOf 92 = some (.iaload, 93) := by decide +kernel
theorem dX8_nightOf_93 : dcd cX8_nightOf 93 = some (.aload_n 0, 94) := by decide +kernel
theorem dX8_nightOf_94 : dcd cX8_nightOf 94 = some (.getfield 35, 97) := by decide +kernel
theorem dX8_nightOf_97 : dcd cX8_nightOf 97 = some (.iload 4, 99) := by decide +kernel
theorem dX8_nightOf_99 : dcd cX8_nightOf 99 = some (.iaload, 100) := by decide +kernel
theorem dX8_nightOf_100 : dcd cX8_nightOf 100 = some (.imul, 101) := by decide +kernel
theorem dX8_nightOf_101 : dcd cX8_nightOf 101 = some (.invokestatic 198, 104) := by decide +kernel
theorem dX8_nightOf_104 : dcd cX8_nightOf 104 = some (.istore_n 2, 105) := by decide +kernel
theorem dX8_nightOf_105 : dcd cX8_nightOf 105 = some (.aload_n 0, 106) := by decide +kernel
theorem dX8_nightOf_106 : dcd cX8_nightOf 106 = some (.aload_n 0, 107) := by decide +kernel
theorem dX8_nightOf_107 : dcd cX8_nightOf 107 = some (.getfield 32, 110) := by decide +kernel
theorem dX8_nightOf_110 : dcd cX8_nightOf 110 = some (.iload 4, 112) := by decide +kernel
theorem dX8_nightOf_112 : dcd cX8_nightOf 112 = some (.iaload, 113) := by decide +kernel
theorem dX8_nightOf_113 : dcd cX8_nightOf 113 = some (.bipush 6, 115) := by decide +kernel
theorem dX8_nightOf_115 : dcd cX8_nightOf 115 = some (.invokevirtual 151, 118) := by decide +kernel
theorem dX8_nightOf_118 : dcd cX8_nightOf 118 = some (.istore 6, 120) := by decide +kernel
theorem dX8_nightOf_120 : dcd cX8_nightOf 120 = some (.iload 4, 122) := by decide +kernel
theorem dX8_nightOf_122 : dcd cX8_nightOf 122 = some (.ifCond .le 26, 125) := by decide +kernel
theorem dX8_nightOf_125 : dcd cX8_nightOf 125 = some (.iload 5, 127) := by decide +kernel
theorem dX8_nightOf_127 : dcd cX8_nightOf 127 = some (.ifCond .ne 21, 130) := by decide +kernel
theorem dX8_nightOf_130 : dcd cX8_nightOf 130 = some (.aload_n 0, 131) := by decide +kernel
theorem dX8_nightOf_131 : dcd cX8_nightOf 131 = some (.aload_n 0, 132) := by decide +kernel
theorem dX8_nightOf_132 : dcd cX8_nightOf 132 = some (.getfield 32, 135) := by decide +kernel
theorem dX8_nightOf_135 : dcd cX8_nightOf 135 = some (.iload 4, 137) := by decide +kernel
theorem dX8_nightOf_137 : dcd cX8_nightOf 137 = some (.iconst 1, 138) := by decide +kernel
theorem dX8_nightOf_138 : dcd cX8_nightOf 138 = some (.isub, 139) := by decide +kernel
theorem dX8_nightOf_139 : dcd cX8_nightOf 139 = some (.iaload, 140) := by decide +kernel
theorem dX8_nightOf_140 : dcd cX8_nightOf 140 = some (.bipush 6, 142) := by decide +kernel
theorem dX8_nightOf_142 : dcd cX8_nightOf 142 = some (.invokevirtual 151, 145) := by decide +kernel
theorem dX8_nightOf_145 : dcd cX8_nightOf 145 = some (.goto 4, 148) := by decide +kernel
theorem dX8_nightOf_148 : dcd cX8_nightOf 148 = some (.iconst 0, 149) := by decide +kernel
theorem dX8_nightOf_149 : dcd cX8_nightOf 149 = some (.istore 7, 151) := by decide +kernel
theorem dX8_nightOf_151 : dcd cX8_nightOf 151 = some (.iload_n 2, 152) := by decide +kernel
theorem dX8_nightOf_152 : dcd cX8_nightOf 152 = some (.iload 6, 154) := by decide +kernel
theorem dX8_nightOf_154 : dcd cX8_nightOf 154 = some (.ifCond .le 15, 157) := by decide +kernel
theorem dX8_nightOf_157 : dcd cX8_nightOf 157 = some (.iload 6, 159) := by decide +kernel
theorem dX8_nightOf_159 : dcd cX8_nightOf 159 = some (.iload 7, 161) := by decide +kernel
theorem dX8_nightOf_161 : dcd cX8_nightOf 161 = some (.if_icmp .ne 8, 164) := by decide +kernel
theorem dX8_nightOf_164 : dcd cX8_nightOf 164 = some (.bipush 10, 166) := by decide +kernel
theorem dX8_nightOf_166 : dcd cX8_nightOf 166 = some (.goto 4, 169) := by decide +kernel
theorem dX8_nightOf_169 : dcd cX8_nightOf 169 = some (.iconst 0, 170) := by decide +kernel
theorem dX8_nightOf_170 : dcd cX8_nightOf 170 = some (.invokestatic 198, 173) := by decide +kernel
theorem dX8_nightOf_173 : dcd cX8_nightOf 173 = some (.istore_n 2, 174) := by decide +kernel
theorem dX8_nightOf_174 : dcd cX8_nightOf 174 = some (.iload_n 2, 175) := by decide +kernel
theorem dX8_nightOf_175 : dcd cX8_nightOf 175 = some (.iload 6, 177) := by decide +kernel
theorem dX8_nightOf_177 : dcd cX8_nightOf 177 = some (.iconst 2, 178) := by decide +kernel
theorem dX8_nightOf_178 : dcd cX8_nightOf 178 = some (.if_icmp .ne 13, 181) := by decide +kernel
theorem dX8_nightOf_181 : dcd cX8_nightOf 181 = some (.iload 7, 183) := by decide +kernel
theorem dX8_nightOf_183 : dcd cX8_nightOf 183 = some (.iconst 1, 184) := by decide +kernel
theorem dX8_nightOf_184 : dcd cX8_nightOf 184 = some (.if_icmp .ne 7, 187) := by decide +kernel
theorem dX8_nightOf_187 : dcd cX8_nightOf 187 = some (.iconst 5, 188) := by decide +kernel
theorem dX8_nightOf_188 : dcd cX8_nightOf 188 = some (.goto 4, 191) := by decide +kernel
theorem dX8_nightOf_191 : dcd cX8_nightOf 191 = some (.iconst 0, 192) := by decide +kernel
theorem dX8_nightOf_192 : dcd cX8_nightOf 192 = some (.invokestatic 198, 195) := by decide +kernel
theorem dX8_nightOf_195 : dcd cX8_nightOf 195 = some (.istore_n 2, 196) := by decide +kernel
theorem dX8_nightOf_196 : dcd cX8_nightOf 196 = some (.aload_n 0, 197) := by decide +kernel
theorem dX8_nightOf_197 : dcd cX8_nightOf 197 = some (.getfield 41, 200) := by decide +kernel
theorem dX8_nightOf_200 : dcd cX8_nightOf 200 = some (.iload 4, 202) := by decide +kernel
theorem dX8_nightOf_202 : dcd cX8_nightOf 202 = some (.iload_n 2, 203) := by decide +kernel
theorem dX8_nightOf_203 : dcd cX8_nightOf 203 = some (.iastore, 204) := by decide +kernel
theorem dX8_nightOf_204 : dcd cX8_nightOf 204 = some (.iload 4, 206) := by decide +kernel
theorem dX8_nightOf_206 : dcd cX8_nightOf 206 = some (.ifCond .ne 12, 209) := by decide +kernel
theorem dX8_nightOf_209 : dcd cX8_nightOf 209 = some (.aload_n 0, 210) := by decide +kernel
theorem dX8_nightOf_210 : dcd cX8_nightOf 210 = some (.getfield 16, 213) := by decide +kernel
theorem dX8_nightOf_213 : dcd cX8_nightOf 213 = some (.iconst 4, 214) := by decide +kernel
theorem dX8_nightOf_214 : dcd cX8_nightOf 214 = some (.iaload, 215) := by decide +kernel
theorem dX8_nightOf_215 : dcd cX8_nightOf 215 = some (.goto 25, 218) := by decide +kernel
theorem dX8_nightOf_218 : dcd cX8_nightOf 218 = some (.iload 4, 220) := by decide +kernel
theorem dX8_nightOf_220 : dcd cX8_nightOf 220 = some (.iconst 1, 221) := by decide +kernel
theorem dX8_nightOf_221 : dcd cX8_nightOf 221 = some (.if_icmp .ne 17, 224) := by decide +kernel
theorem dX8_nightOf_224 : dcd cX8_nightOf 224 = some (.aload_n 0, 225) := by decide +kernel
theorem dX8_nightOf_225 : dcd cX8_nightOf 225 = some (.getfield 16, 228) := by decide +kernel
theorem dX8_nightOf_228 : dcd cX8_nightOf 228 = some (.iconst 4, 229) := by decide +kernel
theorem dX8_nightOf_229 : dcd cX8_nightOf 229 = some (.iaload, 230) := by decide +kernel
theorem dX8_nightOf_230 : dcd cX8_nightOf 230 = some (.bipush 10, 232) := by decide +kernel
theorem dX8_nightOf_232 : dcd cX8_nightOf 232 = some (.iadd, 233) := by decide +kernel
theorem dX8_nightOf_233 : dcd cX8_nightOf 233 = some (.iconst 2, 234) := by decide +kernel
theorem dX8_nightOf_234 : dcd cX8_nightOf 234 = some (.idiv, 235) := by decide +kernel
theorem dX8_nightOf_235 : dcd cX8_nightOf 235 = some (.goto 5, 238) := by decide +kernel
theorem dX8_nightOf_238 : dcd cX8_nightOf 238 = some (.bipush 10, 240) := by decide +kernel
theorem dX8_nightOf_240 : dcd cX8_nightOf 240 = some (.istore 8, 242) := by decide +kernel
theorem dX8_nightOf_242 : dcd cX8_nightOf 242 = some (.aload_n 0, 243) := by decide +kernel
theorem dX8_nightOf_243 : dcd cX8_nightOf 243 = some (.aload_n 0, 244) := by decide +kernel
theorem dX8_nightOf_244 : dcd cX8_nightOf 244 = some (.getfield 32, 247) := by decide +kernel
theorem dX8_nightOf_247 : dcd cX8_nightOf 247 = some (.iload 4, 249) := by decide +kernel
theorem dX8_nightOf_249 : dcd cX8_nightOf 249 = some (.iaload, 250) := by decide +kernel
theorem dX8_nightOf_250 : dcd cX8_nightOf 250 = some (.iconst 2, 251) := by decide +kernel
theorem dX8_nightOf_251 : dcd cX8_nightOf 251 = some (.invokevirtual 151, 254) := by decide +kernel
theorem dX8_nightOf_254 : dcd cX8_nightOf 254 = some (.bipush 100, 256) := by decide +kernel
theorem dX8_nightOf_256 : dcd cX8_nightOf 256 = some (.iload_n 2, 257) := by decide +kernel
theorem dX8_nightOf_257 : dcd cX8_nightOf 257 = some (.iadd, 258) := by decide +kernel
theorem dX8_nightOf_258 : dcd cX8_nightOf 258 = some (.imul, 259) := by decide +kernel
theorem dX8_nightOf_259 : dcd cX8_nightOf 259 = some (.bipush 100, 261) := by decide +kernel
theorem dX8_nightOf_261 : dcd cX8_nightOf 261 = some (.idiv, 262) := by decide +kernel
theorem dX8_nightOf_262 : dcd cX8_nightOf 262 = some (.iload 8, 264) := by decide +kernel
theorem dX8_nightOf_264 : dcd cX8_nightOf 264 = some (.imul, 265) := by decide +kernel
theorem dX8_nightOf_265 : dcd cX8_nightOf 265 = some (.bipush 10, 267) := by decide +kernel
theorem dX8_nightOf_267 : dcd cX8_nightOf 267 = some (.idiv, 268) := by decide +kernel
theorem dX8_nightOf_268 : dcd cX8_nightOf 268 = some (.istore 9, 270) := by decide +kernel
theorem dX8_nightOf_270 : dcd cX8_nightOf 270 = some (.iload 9, 272) := by decide +kernel
theorem dX8_nightOf_272 : dcd cX8_nightOf 272 = some (.iload 4, 274) := by decide +kernel
theorem dX8_nightOf_274 : dcd cX8_nightOf 274 = some (.iconst 5, 275) := by decide +kernel
theorem dX8_nightOf_275 : dcd cX8_nightOf 275 = some (.if_icmp .le 17, 278) := by decide +kernel
theorem dX8_nightOf_278 : dcd cX8_nightOf 278 = some (.aload_n 0, 279) := by decide +kernel
theorem dX8_nightOf_279 : dcd cX8_nightOf 279 = some (.getfield 16, 282) := by decide +kernel
theorem dX8_nightOf_282 : dcd cX8_nightOf 282 = some (.iconst 5, 283) := by decide +kernel
theorem dX8_nightOf_283 : dcd cX8_nightOf 283 = some (.iaload, 284) := by decide +kernel
theorem dX8_nightOf_284 : dcd cX8_nightOf 284 = some (.iload 4, 286) := by decide +kernel
theorem dX8_nightOf_286 : dcd cX8_nightOf 286 = some (.iconst 5, 287) := by decide +kernel
theorem dX8_nightOf_287 : dcd cX8_nightOf 287 = some (.isub, 288) := by decide +kernel
theorem dX8_nightOf_288 : dcd cX8_nightOf 288 = some (.imul, 289) := by decide +kernel
theorem dX8_nightOf_289 : dcd cX8_nightOf 289 = some (.goto 4, 292) := by decide +kernel
theorem dX8_nightOf_292 : dcd cX8_nightOf 292 = some (.iconst 0, 293) := by decide +kernel
theorem dX8_nightOf_293 : dcd cX8_nightOf 293 = some (.invokestatic 198, 296) := by decide +kernel
theorem dX8_nightOf_296 : dcd cX8_nightOf 296 = some (.istore 9, 298) := by decide +kernel
theorem dX8_nightOf_298 : dcd cX8_nightOf 298 = some (.iload_n 1, 299) := by decide +kernel
theorem dX8_nightOf_299 : dcd cX8_nightOf 299 = some (.ifCond .eq 17, 302) := by decide +kernel
theorem dX8_nightOf_302 : dcd cX8_nightOf 302 = some (.iload 9, 304) := by decide +kernel
theorem dX8_nightOf_304 : dcd cX8_nightOf 304 = some (.iconst 2, 305) := by decide +kernel
theorem dX8_nightOf_305 : dcd cX8_nightOf 305 = some (.aload_n 0, 306) := by decide +kernel
theorem dX8_nightOf_306 : dcd cX8_nightOf 306 = some (.invokevirtual 201, 309) := by decide +kernel
theorem dX8_nightOf_309 : dcd cX8_nightOf 309 = some (.isub, 310) := by decide +kernel
theorem dX8_nightOf_310 : dcd cX8_nightOf 310 = some (.invokestatic 198, 313) := by decide +kernel
theorem dX8_nightOf_313 : dcd cX8_nightOf 313 = some (.goto 5, 316) := by decide +kernel
theorem dX8_nightOf_316 : dcd cX8_nightOf 316 = some (.iload 9, 318) := by decide +kernel
theorem dX8_nightOf_318 : dcd cX8_nightOf 318 = some (.istore 9, 320) := by decide +kernel
theorem dX8_nightOf_320 : dcd cX8_nightOf 320 = some (.aload_n 0, 321) := by decide +kernel
theorem dX8_nightOf_321 : dcd cX8_nightOf 321 = some (.getfield 44, 324) := by decide +kernel
theorem dX8_nightOf_324 : dcd cX8_nightOf 324 = some (.iload 4, 326) := by decide +kernel
theorem dX8_nightOf_326 : dcd cX8_nightOf 326 = some (.iload 9, 328) := by decide +kernel
theorem dX8_nightOf_328 : dcd cX8_nightOf 328 = some (.iastore, 329) := by decide +kernel
theorem dX8_nightOf_329 : dcd cX8_nightOf 329 = some (.iload_n 2, 330) := by decide +kernel
theorem dX8_nightOf_330 : dcd cX8_nightOf 330 = some (.iload 9, 332) := by decide +kernel
theorem dX8_nightOf_332 : dcd cX8_nightOf 332 = some (.iadd, 333) := by decide +kernel
theorem dX8_nightOf_333 : dcd cX8_nightOf 333 = some (.bipush 12, 335) := by decide +kernel
theorem dX8_nightOf_335 : dcd cX8_nightOf 335 = some (.isub, 336) := by decide +kernel
theorem dX8_nightOf_336 : dcd cX8_nightOf 336 = some (.istore_n 2, 337) := by decide +kernel
theorem dX8_nightOf_337 : dcd cX8_nightOf 337 = some (.iload_n 2, 338) := by decide +kernel
theorem dX8_nightOf_338 : dcd cX8_nightOf 338 = some (.ifCond .ge 7, 341) := by decide +kernel
theorem dX8_nightOf_341 : dcd cX8_nightOf 341 = some (.iconst 0, 342) := by decide +kernel
theorem dX8_nightOf_342 : dcd cX8_nightOf 342 = some (.goto 15, 345) := by decide +kernel
theorem dX8_nightOf_345 : dcd cX8_nightOf 345 = some (.iload_n 2, 346) := by decide +kernel
theorem dX8_nightOf_346 : dcd cX8_nightOf 346 = some (.bipush 100, 348) := by decide +kernel
theorem dX8_nightOf_348 : dcd cX8_nightOf 348 = some (.if_icmp .le 8, 351) := by decide +kernel
theorem dX8_nightOf_351 : dcd cX8_nightOf 351 = some (.bipush 100, 353) := by decide +kernel
theorem dX8_nightOf_353 : dcd cX8_nightOf 353 = some (.goto 4, 356) := by decide +kernel
theorem dX8_nightOf_356 : dcd cX8_nightOf 356 = some (.iload_n 2, 357) := by decide +kernel
theorem dX8_nightOf_357 : dcd cX8_nightOf 357 = some (.istore_n 2, 358) := by decide +kernel
theorem dX8_nightOf_358 : dcd cX8_nightOf 358 = some (.iload_n 3, 359) := by decide +kernel
theorem dX8_nightOf_359 : dcd cX8_nightOf 359 = some (.iload 9, 361) := by decide +kernel
theorem dX8_nightOf_361 : dcd cX8_nightOf 361 = some (.bipush 8, 363) := by decide +kernel
theorem dX8_nightOf_363 : dcd cX8_nightOf 363 = some (.if_icmp .ge 16, 366) := by decide +kernel
theorem dX8_nightOf_366 : dcd cX8_nightOf 366 = some (.iload_n 3, 367) := by decide +kernel
theorem dX8_nightOf_367 : dcd cX8_nightOf 367 = some (.bipush 8, 369) := by decide +kernel
theorem dX8_nightOf_369 : dcd cX8_nightOf 369 = some (.iload 9, 371) := by decide +kernel
theorem dX8_nightOf_371 : dcd cX8_nightOf 371 = some (.isub, 372) := by decide +kernel
theorem dX8_nightOf_372 : dcd cX8_nightOf 372 = some (.imul, 373) := by decide +kernel
theorem dX8_nightOf_373 : dcd cX8_nightOf 373 = some (.bipush 100, 375) := by decide +kernel
theorem dX8_nightOf_375 : dcd cX8_nightOf 375 = some (.idiv, 376) := by decide +kernel
theorem dX8_nightOf_376 : dcd cX8_nightOf 376 = some (.goto 4, 379) := by decide +kernel
theorem dX8_nightOf_379 : dcd cX8_nightOf 379 = some (.iconst 0, 380) := by decide +kernel
theorem dX8_nightOf_380 : dcd cX8_nightOf 380 = some (.isub, 381) := by decide +kernel
theorem dX8_nightOf_381 : dcd cX8_nightOf 381 = some (.istore_n 3, 382) := by decide +kernel
theorem dX8_nightOf_382 : dcd cX8_nightOf 382 = some (.aload_n 0, 383) := by decide +kernel
theorem dX8_nightOf_383 : dcd cX8_nightOf 383 = some (.getfield 47, 386) := by decide +kernel
theorem dX8_nightOf_386 : dcd cX8_nightOf 386 = some (.iload 4, 388) := by decide +kernel
theorem dX8_nightOf_388 : dcd cX8_nightOf 388 = some (.iload_n 2, 389) := by decide +kernel
theorem dX8_nightOf_389 : dcd cX8_nightOf 389 = some (.iastore, 390) := by decide +kernel
theorem dX8_nightOf_390 : dcd cX8_nightOf 390 = some (.aload_n 0, 391) := by decide +kernel
theorem dX8_nightOf_391 : dcd cX8_nightOf 391 = some (.getfield 50, 394) := by decide +kernel
theorem dX8_nightOf_394 : dcd cX8_nightOf 394 = some (.iload 4, 396) := by decide +kernel
theorem dX8_nightOf_396 : dcd cX8_nightOf 396 = some (.iload_n 3, 397) := by decide +kernel
theorem dX8_nightOf_397 : dcd cX8_nightOf 397 = some (.iastore, 398) := by decide +kernel
theorem dX8_nightOf_398 : dcd cX8_nightOf 398 = some (.aload_n 0, 399) := by decide +kernel
theorem dX8_nightOf_399 : dcd cX8_nightOf 399 = some (.dup, 400) := by decide +kernel
theorem dX8_nightOf_400 : dcd cX8_nightOf 400 = some (.getfield 195, 403) := by decide +kernel
theorem dX8_nightOf_403 : dcd cX8_nightOf 403 = some (.iload 9, 405) := by decide +kernel
theorem dX8_nightOf_405 : dcd cX8_nightOf 405 = some (.iload 4, 407) := by decide +kernel
theorem dX8_nightOf_407 : dcd cX8_nightOf 407 = some (.aload_n 0, 408) := by decide +kernel
theorem dX8_nightOf_408 : dcd cX8_nightOf 408 = some (.getfield 160, 411) := by decide +kernel
theorem dX8_nightOf_411 : dcd cX8_nightOf 411 = some (.iconst 1, 412) := by decide +kernel
theorem dX8_nightOf_412 : dcd cX8_nightOf 412 = some (.isub, 413) := by decide +kernel
theorem dX8_nightOf_413 : dcd cX8_nightOf 413 = some (.if_icmp .ne 8, 416) := by decide +kernel
theorem dX8_nightOf_416 : dcd cX8_nightOf 416 = some (.iload 9, 418) := by decide +kernel
theorem dX8_nightOf_418 : dcd cX8_nightOf 418 = some (.goto 4, 421) := by decide +kernel
theorem dX8_nightOf_421 : dcd cX8_nightOf 421 = some (.iconst 0, 422) := by decide +kernel
theorem dX8_nightOf_422 : dcd cX8_nightOf 422 = some (.iadd, 423) := by decide +kernel
theorem dX8_nightOf_423 : dcd cX8_nightOf 423 = some (.iadd, 424) := by decide +kernel
theorem dX8_nightOf_424 : dcd cX8_nightOf 424 = some (.putfield 195, 427) := by decide +kernel
theorem dX8_nightOf_427 : dcd cX8_nightOf 427 = some (.iinc 4 1, 430) := by decide +kernel
theorem dX8_nightOf_430 : dcd cX8_nightOf 430 = some (.goto (-401), 433) := by decide +kernel
theorem dX8_nightOf_433 : dcd cX8_nightOf 433 = some (.aload_n 0, 434) := by decide +kernel
theorem dX8_nightOf_434 : dcd cX8_nightOf 434 = some (.dup, 435) := by decide +kernel
theorem dX8_nightOf_435 : dcd cX8_nightOf 435 = some (.getfield 195, 438) := by decide +kernel
theorem dX8_nightOf_438 : dcd cX8_nightOf 438 = some (.aload_n 0, 439) := by decide +kernel
theorem dX8_nightOf_439 : dcd cX8_nightOf 439 = some (.getfield 192, 442) := by decide +kernel
theorem dX8_nightOf_442 : dcd cX8_nightOf 442 = some (.iadd, 443) := by decide +kernel
theorem dX8_nightOf_443 : dcd cX8_nightOf 443 = some (.putfield 195, 446) := by decide +kernel
theorem dX8_nightOf_446 : dcd cX8_nightOf 446 = some (.aload_n 0, 447) := by decide +kernel
theorem dX8_nightOf_447 : dcd cX8_nightOf 447 = some (.getfield 195, 450) := by decide +kernel
theorem dX8_nightOf_450 : dcd cX8_nightOf 450 = some (.ireturn, 451) := by decide +kernel
theorem dX8_less_0 : dcd cX8_less 0 = some (.iload_n 0, 1) := by decide +kernel
theorem dX8_less_1 : dcd cX8_less 1 = some (.iload_n 1, 2) := by decide +kernel
theorem dX8_less_2 : dcd cX8_less 2 = some (.if_icmp .ge 7, 5) := by decide +kernel
theorem dX8_less_5 : dcd cX8_less 5 = some (.iconst 0, 6) := by decide +kernel
theorem dX8_less_6 : dcd cX8_less 6 = some (.goto 6, 9) := by decide +kernel
theorem dX8_less_9 : dcd cX8_less 9 = some (.iload_n 0, 10) := by decide +kernel
theorem dX8_less_10 : dcd cX8_less 10 = some (.iload_n 1, 11) := by decide +kernel
theorem dX8_less_11 : dcd cX8_less 11 = some (.isub, 12) := by decide +kernel
theorem dX8_less_12 : dcd cX8_less 12 = some (.ireturn, 13) := by decide +kernel
theorem dX8_night_0 : dcd cX8_night 0 = some (.aload_n 0, 1) := by decide +kernel
theorem dX8_night_1 : dcd cX8_night 1 = some (.iconst 0, 2) := by decide +kernel
theorem dX8_night_2 : dcd cX8_night 2 = some (.putfield 68, 5) := by decide +kernel
theorem dX8_night_5 : dcd cX8_night 5 = some (.aload_n 0, 6) := by decide +kernel
theorem dX8_night_6 : dcd cX8_night 6 = some (.iload_n 1, 7) := by decide +kernel
theorem dX8_night_7 : dcd cX8_night 7 = some (.invokevirtual 157, 10) := by decide +kernel
theorem dX8_night_10 : dcd cX8_night 10 = some (.ifCond .eq 12, 13) := by decide +kernel
theorem dX8_night_13 : dcd cX8_night 13 = some (.iload_n 2, 14) := by decide +kernel
theorem dX8_night_14 : dcd cX8_night 14 = some (.iconst 0, 15) := by decide +kernel
theorem dX8_night_15 : dcd cX8_night 15 = some (.iconst 3, 16) := by decide +kernel
theorem dX8_night_16 : dcd cX8_night 16 = some (.invokestatic 72, 19) := by decide +kernel
theorem dX8_night_19 : dcd cX8_night 19 = some (.ifCond .ne 5, 22) := by decide +kernel
theorem dX8_night_22 : dcd cX8_night 22 = some (.iconst (-1), 23) := by decide +kernel
theorem dX8_night_23 : dcd cX8_night 23 = some (.ireturn, 24) := by decide +kernel
theorem dX8_night_24 : dcd cX8_night 24 = some (.aload_n 0, 25) := by decide +kernel
theorem dX8_night_25 : dcd cX8_night 25 = some (.invokevirtual 175, 28) := by decide +kernel
theorem dX8_night_28 : dcd cX8_night 28 = some (.aload_n 0, 29) := by decide +kernel
theorem dX8_night_29 : dcd cX8_night 29 = some (.invokevirtual 178, 32) := by decide +kernel
theorem dX8_night_32 : dcd cX8_night 32 = some (.aload_n 0, 33) := by decide +kernel
theorem dX8_night_33 : dcd cX8_night 33 = some (.iconst 0, 34) := by decide +kernel
theorem dX8_night_34 : dcd cX8_night 34 = some (.invokevirtual 205, 37) := by decide +kernel
theorem dX8_night_37 : dcd cX8_night 37 = some (.pop, 38) := by decide +kernel
theorem dX8_night_38 : dcd cX8_night 38 = some (.iload_n 2, 39) := by decide +kernel
theorem dX8_night_39 : dcd cX8_night 39 = some (.ifCond .ne 12, 42) := by decide +kernel
theorem dX8_night_42 : dcd cX8_night 42 = some (.aload_n 0, 43) := by decide +kernel
theorem dX8_night_43 : dcd cX8_night 43 = some (.getfield 41, 46) := by decide +kernel
theorem dX8_night_46 : dcd cX8_night 46 = some (.iload_n 1, 47) := by decide +kernel
theorem dX8_night_47 : dcd cX8_night 47 = some (.iaload, 48) := by decide +kernel
theorem dX8_night_48 : dcd cX8_night 48 = some (.goto 37, 51) := by decide +kernel
theorem dX8_night_51 : dcd cX8_night 51 = some (.iload_n 2, 52) := by decide +kernel
theorem dX8_night_52 : dcd cX8_night 52 = some (.iconst 1, 53) := by decide +kernel
theorem dX8_night_53 : dcd cX8_night 53 = some (.if_icmp .ne 12, 56) := by decide +kernel
theorem dX8_night_56 : dcd cX8_night 56 = some (.aload_n 0, 57) := by decide +kernel
theorem dX8_night_57 : dcd cX8_night 57 = some (.getfield 44, 60) := by decide +kernel
theorem dX8_night_60 : dcd cX8_night 60 = some (.iload_n 1, 61) := by decide +kernel
theorem dX8_night_61 : dcd cX8_night 61 = some (.iaload, 62) := by decide +kernel
theorem dX8_night_62 : dcd cX8_night 62 = some (.goto 23, 65) := by decide +kernel
theorem dX8_night_65 : dcd cX8_night 65 = some (.iload_n 2, 66) := by decide +kernel
theorem dX8_night_66 : dcd cX8_night 66 = some (.iconst 2, 67) := by decide +kernel
theorem dX8_night_67 : dcd cX8_night 67 = some (.if_icmp .ne 12, 70) := by decide +kernel
theorem dX8_night_70 : dcd cX8_night 70 = some (.aload_n 0, 71) := by decide +kernel
theorem dX8_night_71 : dcd cX8_night 71 = some (.getfield 47, 74) := by decide +kernel
theorem dX8_night_74 : dcd cX8_night 74 = some (.iload_n 1, 75) := by decide +kernel
theorem dX8_night_75 : dcd cX8_night 75 = some (.iaload, 76) := by decide +kernel
theorem dX8_night_76 : dcd cX8_night 76 = some (.goto 9, 79) := by decide +kernel
theorem dX8_night_79 : dcd cX8_night 79 = some (.aload_n 0, 80) := by decide +kernel
theorem dX8_night_80 : dcd cX8_night 80 = some (.getfield 50, 83) := by decide +kernel
theorem dX8_night_83 : dcd cX8_night 83 = some (.iload_n 1, 84) := by decide +kernel
theorem dX8_night_84 : dcd cX8_night 84 = some (.iaload, 85) := by decide +kernel
theorem dX8_night_85 : dcd cX8_night 85 = some (.ireturn, 86) := by decide +kernel
theorem dX8_worth_0 : dcd cX8_worth 0 = some (.aload_n 0, 1) := by decide +kernel
theorem dX8_worth_1 : dcd cX8_worth 1 = some (.iconst 0, 2) := by decide +kernel
theorem dX8_worth_2 : dcd cX8_worth 2 = some (.putfield 68, 5) := by decide +kernel
theorem dX8_worth_5 : dcd cX8_worth 5 = some (.iload_n 1, 6) := by decide +kernel
theorem dX8_worth_6 : dcd cX8_worth 6 = some (.iconst 0, 7) := by decide +kernel
theorem dX8_worth_7 : dcd cX8_worth 7 = some (.iconst 3, 8) := by decide +kernel
theorem dX8_worth_8 : dcd cX8_worth 8 = some (.invokestatic 72, 11) := by decide +kernel
theorem dX8_worth_11 : dcd cX8_worth 11 = some (.ifCond .ne 5, 14) := by decide +kernel
theorem dX8_worth_14 : dcd cX8_worth 14 = some (.iconst (-1), 15) := by decide +kernel
theorem dX8_worth_15 : dcd cX8_worth 15 = some (.ireturn, 16) := by decide +kernel
theorem dX8_worth_16 : dcd cX8_worth 16 = some (.aload_n 0, 17) := by decide +kernel
theorem dX8_worth_17 : dcd cX8_worth 17 = some (.getfield 22, 20) := by decide +kernel
theorem dX8_worth_20 : dcd cX8_worth 20 = some (.iconst 0, 21) := by decide +kernel
theorem dX8_worth_21 : dcd cX8_worth 21 = some (.iaload, 22) := by decide +kernel
theorem dX8_worth_22 : dcd cX8_worth 22 = some (.ifCond .ne 6, 25) := by decide +kernel
theorem dX8_worth_25 : dcd cX8_worth 25 = some (.bipush (-2), 27) := by decide +kernel
theorem dX8_worth_27 : dcd cX8_worth 27 = some (.ireturn, 28) := by decide +kernel
theorem dX8_worth_28 : dcd cX8_worth 28 = some (.aload_n 0, 29) := by decide +kernel
theorem dX8_worth_29 : dcd cX8_worth 29 = some (.invokevirtual 175, 32) := by decide +kernel
theorem dX8_worth_32 : dcd cX8_worth 32 = some (.aload_n 0, 33) := by decide +kernel
theorem dX8_worth_33 : dcd cX8_worth 33 = some (.invokevirtual 178, 36) := by decide +kernel
theorem dX8_worth_36 : dcd cX8_worth 36 = some (.aload_n 0, 37) := by decide +kernel
theorem dX8_worth_37 : dcd cX8_worth 37 = some (.iconst 0, 38) := by decide +kernel
theorem dX8_worth_38 : dcd cX8_worth 38 = some (.invokevirtual 205, 41) := by decide +kernel
theorem dX8_worth_41 : dcd cX8_worth 41 = some (.pop, 42) := by decide +kernel
theorem dX8_worth_42 : dcd cX8_worth 42 = some (.iload_n 1, 43) := by decide +kernel
theorem dX8_worth_43 : dcd cX8_worth 43 = some (.ifCond .ne 10, 46) := by decide +kernel
theorem dX8_worth_46 : dcd cX8_worth 46 = some (.aload_n 0, 47) := by decide +kernel
theorem dX8_worth_47 : dcd cX8_worth 47 = some (.getfield 195, 50) := by decide +kernel
theorem dX8_worth_50 : dcd cX8_worth 50 = some (.goto 44, 53) := by decide +kernel
theorem dX8_worth_53 : dcd cX8_worth 53 = some (.iload_n 1, 54) := by decide +kernel
theorem dX8_worth_54 : dcd cX8_worth 54 = some (.iconst 1, 55) := by decide +kernel
theorem dX8_worth_55 : dcd cX8_worth 55 = some (.if_icmp .ne 10, 58) := by decide +kernel
theorem dX8_worth_58 : dcd cX8_worth 58 = some (.aload_n 0, 59) := by decide +kernel
theorem dX8_worth_59 : dcd cX8_worth 59 = some (.getfield 192, 62) := by decide +kernel
theorem dX8_worth_62 : dcd cX8_worth 62 = some (.goto 32, 65) := by decide +kernel
theorem dX8_worth_65 : dcd cX8_worth 65 = some (.iload_n 1, 66) := by decide +kernel
theorem dX8_worth_66 : dcd cX8_worth 66 = some (.iconst 2, 67) := by decide +kernel
theorem dX8_worth_67 : dcd cX8_worth 67 = some (.if_icmp .ne 17, 70) := by decide +kernel
theorem dX8_worth_70 : dcd cX8_worth 70 = some (.aload_n 0, 71) := by decide +kernel
theorem dX8_worth_71 : dcd cX8_worth 71 = some (.getfield 50, 74) := by decide +kernel
theorem dX8_worth_74 : dcd cX8_worth 74 = some (.aload_n 0, 75) := by decide +kernel
theorem dX8_worth_75 : dcd cX8_worth 75 = some (.getfield 160, 78) := by decide +kernel
theorem dX8_worth_78 : dcd cX8_worth 78 = some (.iconst 1, 79) := by decide +kernel
theorem dX8_worth_79 : dcd cX8_worth 79 = some (.isub, 80) := by decide +kernel
theorem dX8_worth_80 : dcd cX8_worth 80 = some (.iaload, 81) := by decide +kernel
theorem dX8_worth_81 : dcd cX8_worth 81 = some (.goto 13, 84) := by decide +kernel
theorem dX8_worth_84 : dcd cX8_worth 84 = some (.aload_n 0, 85) := by decide +kernel
theorem dX8_worth_85 : dcd cX8_worth 85 = some (.aload_n 0, 86) := by decide +kernel
theorem dX8_worth_86 : dcd cX8_worth 86 = some (.getfield 160, 89) := by decide +kernel
theorem dX8_worth_89 : dcd cX8_worth 89 = some (.iconst 1, 90) := by decide +kernel
theorem dX8_worth_90 : dcd cX8_worth 90 = some (.isub, 91) := by decide +kernel
theorem dX8_worth_91 : dcd cX8_worth 91 = some (.invokevirtual 172, 94) := by decide +kernel
theorem dX8_worth_94 : dcd cX8_worth 94 = some (.ireturn, 95) := by decide +kernel
theorem dX8_goesOn_0 : dcd cX8_goesOn 0 = some (.aload_n 0, 1) := by decide +kernel
theorem dX8_goesOn_1 : dcd cX8_goesOn 1 = some (.getfield 160, 4) := by decide +kernel
theorem dX8_goesOn_4 : dcd cX8_goesOn 4 = some (.iconst 2, 5) := by decide +kernel
theorem dX8_goesOn_5 : dcd cX8_goesOn 5 = some (.isub, 6) := by decide +kernel
theorem dX8_goesOn_6 : dcd cX8_goesOn 6 = some (.istore_n 1, 7) := by decide +kernel
theorem dX8_goesOn_7 : dcd cX8_goesOn 7 = some (.iload_n 1, 8) := by decide +kernel
theorem dX8_goesOn_8 : dcd cX8_goesOn 8 = some (.ifCond .lt 26, 11) := by decide +kernel
theorem dX8_goesOn_11 : dcd cX8_goesOn 11 = some (.aload_n 0, 12) := by decide +kernel
theorem dX8_goesOn_12 : dcd cX8_goesOn 12 = some (.getfield 32, 15) := by decide +kernel
theorem dX8_goesOn_15 : dcd cX8_goesOn 15 = some (.iload_n 1, 16) := by decide +kernel
theorem dX8_goesOn_16 : dcd cX8_goesOn 16 = some (.iaload, 17) := by decide +kernel
theorem dX8_goesOn_17 : dcd cX8_goesOn 17 = some (.aload_n 0, 18) := by decide +kernel
theorem dX8_goesOn_18 : dcd cX8_goesOn 18 = some (.getfield 32, 21) := by decide +kernel
theorem dX8_goesOn_21 : dcd cX8_goesOn 21 = some (.iload_n 1, 22) := by decide +kernel
theorem dX8_goesOn_22 : dcd cX8_goesOn 22 = some (.iconst 1, 23) := by decide +kernel
theorem dX8_goesOn_23 : dcd cX8_goesOn 23 = some (.iadd, 24) := by decide +kernel
theorem dX8_goesOn_24 : dcd cX8_goesOn 24 = some (.iaload, 25) := by decide +kernel
theorem dX8_goesOn_25 : dcd cX8_goesOn 25 = some (.if_icmp .le 9, 28) := by decide +kernel
theorem dX8_goesOn_28 : dcd cX8_goesOn 28 = some (.iinc 1 (-1), 31) := by decide +kernel
theorem dX8_goesOn_31 : dcd cX8_goesOn 31 = some (.goto (-24), 34) := by decide +kernel
theorem dX8_goesOn_34 : dcd cX8_goesOn 34 = some (.iload_n 1, 35) := by decide +kernel
theorem dX8_goesOn_35 : dcd cX8_goesOn 35 = some (.ifCond .ge 5, 38) := by decide +kernel
theorem dX8_goesOn_38 : dcd cX8_goesOn 38 = some (.iconst 0, 39) := by decide +kernel
theorem dX8_goesOn_39 : dcd cX8_goesOn 39 = some (.ireturn, 40) := by decide +kernel
theorem dX8_goesOn_40 : dcd cX8_goesOn 40 = some (.aload_n 0, 41) := by decide +kernel
theorem dX8_goesOn_41 : dcd cX8_goesOn 41 = some (.getfield 160, 44) := by decide +kernel
theorem dX8_goesOn_44 : dcd cX8_goesOn 44 = some (.iconst 1, 45) := by decide +kernel
theorem dX8_goesOn_45 : dcd cX8_goesOn 45 = some (.isub, 46) := by decide +kernel
theorem dX8_goesOn_46 : dcd cX8_goesOn 46 = some (.istore_n 2, 47) := by decide +kernel
theorem dX8_goesOn_47 : dcd cX8_goesOn 47 = some (.aload_n 0, 48) := by decide +kernel
theorem dX8_goesOn_48 : dcd cX8_goesOn 48 = some (.getfield 32, 51) := by decide +kernel
theorem dX8_goesOn_51 : dcd cX8_goesOn 51 = some (.iload_n 2, 52) := by decide +kernel
theorem dX8_goesOn_52 : dcd cX8_goesOn 52 = some (.iaload, 53) := by decide +kernel
theorem dX8_goesOn_53 : dcd cX8_goesOn 53 = some (.aload_n 0, 54) := by decide +kernel
theorem dX8_goesOn_54 : dcd cX8_goesOn 54 = some (.getfield 32, 57) := by decide +kernel
theorem dX8_goesOn_57 : dcd cX8_goesOn 57 = some (.iload_n 1, 58) := by decide +kernel
theorem dX8_goesOn_58 : dcd cX8_goesOn 58 = some (.iaload, 59) := by decide +kernel
theorem dX8_goesOn_59 : dcd cX8_goesOn 59 = some (.if_icmp .ge 9, 62) := by decide +kernel
theorem dX8_goesOn_62 : dcd cX8_goesOn 62 = some (.iinc 2 (-1), 65) := by decide +kernel
theorem dX8_goesOn_65 : dcd cX8_goesOn 65 = some (.goto (-18), 68) := by decide +kernel
theorem dX8_goesOn_68 : dcd cX8_goesOn 68 = some (.aload_n 0, 69) := by decide +kernel
theorem dX8_goesOn_69 : dcd cX8_goesOn 69 = some (.iload_n 1, 70) := by decide +kernel
theorem dX8_goesOn_70 : dcd cX8_goesOn 70 = some (.iload_n 2, 71) := by decide +kernel
theorem dX8_goesOn_71 : dcd cX8_goesOn 71 = some (.invokevirtual 208, 74) := by decide +kernel
theorem dX8_goesOn_74 : dcd cX8_goesOn 74 = some (.iload_n 1, 75) := by decide +kernel
theorem dX8_goesOn_75 : dcd cX8_goesOn 75 = some (.iconst 1, 76) := by decide +kernel
theorem dX8_goesOn_76 : dcd cX8_goesOn 76 = some (.iadd, 77) := by decide +kernel
theorem dX8_goesOn_77 : dcd cX8_goesOn 77 = some (.istore_n 3, 78) := by decide +kernel
theorem dX8_goesOn_78 : dcd cX8_goesOn 78 = some (.aload_n 0, 79) := by decide +kernel
theorem dX8_goesOn_79 : dcd cX8_goesOn 79 = some (.getfield 160, 82) := by decide +kernel
theorem dX8_goesOn_82 : dcd cX8_goesOn 82 = some (.iconst 1, 83) := by decide +kernel
theorem dX8_goesOn_83 : dcd cX8_goesOn 83 = some (.isub, 84) := by decide +kernel
theorem dX8_goesOn_84 : dcd cX8_goesOn 84 = some (.istore 4, 86) := by decide +kernel
theorem dX8_goesOn_86 : dcd cX8_goesOn 86 = some (.iload_n 3, 87) := by decide +kernel
theorem dX8_goesOn_87 : dcd cX8_goesOn 87 = some (.iload 4, 89) := by decide +kernel
theorem dX8_goesOn_89 : dcd cX8_goesOn 89 = some (.if_icmp .ge 19, 92) := by decide +kernel
theorem dX8_goesOn_92 : dcd cX8_goesOn 92 = some (.aload_n 0, 93) := by decide +kernel
theorem dX8_goesOn_93 : dcd cX8_goesOn 93 = some (.iload_n 3, 94) := by decide +kernel
theorem dX8_goesOn_94 : dcd cX8_goesOn 94 = some (.iload 4, 96) := by decide +kernel
theorem dX8_goesOn_96 : dcd cX8_goesOn 96 = some (.invokevirtual 208, 99) := by decide +kernel
theorem dX8_goesOn_99 : dcd cX8_goesOn 99 = some (.iinc 3 1, 102) := by decide +kernel
theorem dX8_goesOn_102 : dcd cX8_goesOn 102 = some (.iinc 4 (-1), 105) := by decide +kernel
theorem dX8_goesOn_105 : dcd cX8_goesOn 105 = some (.goto (-19), 108) := by decide +kernel
theorem dX8_goesOn_108 : dcd cX8_goesOn 108 = some (.iconst 1, 109) := by decide +kernel
theorem dX8_goesOn_109 : dcd cX8_goesOn 109 = some (.ireturn, 110) := by decide +kernel
theorem dX8_swaps_0 : dcd cX8_swaps 0 = some (.aload_n 0, 1) := by decide +kernel
theorem dX8_swaps_1 : dcd cX8_swaps 1 = some (.getfield 32, 4) := by decide +kernel
theorem dX8_swaps_4 : dcd cX8_swaps 4 = some (.iload_n 1, 5) := by decide +kernel
theorem dX8_swaps_5 : dcd cX8_swaps 5 = some (.iaload, 6) := by decide +kernel
theorem dX8_swaps_6 : dcd cX8_swaps 6 = some (.istore_n 3, 7) := by decide +kernel
theorem dX8_swaps_7 : dcd cX8_swaps 7 = some (.aload_n 0, 8) := by decide +kernel
theorem dX8_swaps_8 : dcd cX8_swaps 8 = some (.getfield 32, 11) := by decide +kernel
theorem dX8_swaps_11 : dcd cX8_swaps 11 = some (.iload_n 1, 12) := by decide +kernel
theorem dX8_swaps_12 : dcd cX8_swaps 12 = some (.aload_n 0, 13) := by decide +kernel
theorem dX8_swaps_13 : dcd cX8_swaps 13 = some (.getfield 32, 16) := by decide +kernel
theorem dX8_swaps_16 : dcd cX8_swaps 16 = some (.iload_n 2, 17) := by decide +kernel
theorem dX8_swaps_17 : dcd cX8_swaps 17 = some (.iaload, 18) := by decide +kernel
theorem dX8_swaps_18 : dcd cX8_swaps 18 = some (.iastore, 19) := by decide +kernel
theorem dX8_swaps_19 : dcd cX8_swaps 19 = some (.aload_n 0, 20) := by decide +kernel
theorem dX8_swaps_20 : dcd cX8_swaps 20 = some (.getfield 32, 23) := by decide +kernel
theorem dX8_swaps_23 : dcd cX8_swaps 23 = some (.iload_n 2, 24) := by decide +kernel
theorem dX8_swaps_24 : dcd cX8_swaps 24 = some (.iload_n 3, 25) := by decide +kernel
theorem dX8_swaps_25 : dcd cX8_swaps 25 = some (.iastore, 26) := by decide +kernel
theorem dX8_swaps_26 : dcd cX8_swaps 26 = some (.return_, 27) := by decide +kernel
theorem dX8_sortsRow_0 : dcd cX8_sortsRow 0 = some (.iconst 1, 1) := by decide +kernel
theorem dX8_sortsRow_1 : dcd cX8_sortsRow 1 = some (.istore_n 1, 2) := by decide +kernel
theorem dX8_sortsRow_2 : dcd cX8_sortsRow 2 = some (.iload_n 1, 3) := by decide +kernel
theorem dX8_sortsRow_3 : dcd cX8_sortsRow 3 = some (.aload_n 0, 4) := by decide +kernel
theorem dX8_sortsRow_4 : dcd cX8_sortsRow 4 = some (.getfield 160, 7) := by decide +kernel
theorem dX8_sortsRow_7 : dcd cX8_sortsRow 7 = some (.if_icmp .ge 46, 10) := by decide +kernel
theorem dX8_sortsRow_10 : dcd cX8_sortsRow 10 = some (.iload_n 1, 11) := by decide +kernel
theorem dX8_sortsRow_11 : dcd cX8_sortsRow 11 = some (.istore_n 2, 12) := by decide +kernel
theorem dX8_sortsRow_12 : dcd cX8_sortsRow 12 = some (.iload_n 2, 13) := by decide +kernel
theorem dX8_sortsRow_13 : dcd cX8_sortsRow 13 = some (.ifCond .le 34, 16) := by decide +kernel
theorem dX8_sortsRow_16 : dcd cX8_sortsRow 16 = some (.aload_n 0, 17) := by decide +kernel
theorem dX8_sortsRow_17 : dcd cX8_sortsRow 17 = some (.getfield 32, 20) := by decide +kernel
theorem dX8_sortsRow_20 : dcd cX8_sortsRow 20 = some (.iload_n 2, 21) := by decide +kernel
theorem dX8_sortsRow_21 : dcd cX8_sortsRow 21 = some (.iaload, 22) := by decide +kernel
theorem dX8_sortsRow_22 : dcd cX8_sortsRow 22 = some (.aload_n 0, 23) := by decide +kernel
theorem dX8_sortsRow_23 : dcd cX8_sortsRow 23 = some (.getfield 32, 26) := by decide +kernel
theorem dX8_sortsRow_26 : dcd cX8_sortsRow 26 = some (.iload_n 2, 27) := by decide +kernel
theorem dX8_sortsRow_27 : dcd cX8_sortsRow 27 = some (.iconst 1, 28) := by decide +kernel
theorem dX8_sortsRow_28 : dcd cX8_sortsRow 28 = some (.isub, 29) := by decide +kernel
theorem dX8_sortsRow_29 : dcd cX8_sortsRow 29 = some (.iaload, 30) := by decide +kernel
theorem dX8_sortsRow_30 : dcd cX8_sortsRow 30 = some (.if_icmp .ge 17, 33) := by decide +kernel
theorem dX8_sortsRow_33 : dcd cX8_sortsRow 33 = some (.aload_n 0, 34) := by decide +kernel
theorem dX8_sortsRow_34 : dcd cX8_sortsRow 34 = some (.iload_n 2, 35) := by decide +kernel
theorem dX8_sortsRow_35 : dcd cX8_sortsRow 35 = some (.iload_n 2, 36) := by decide +kernel
theorem dX8_sortsRow_36 : dcd cX8_sortsRow 36 = some (.iconst 1, 37) := by decide +kernel
theorem dX8_sortsRow_37 : dcd cX8_sortsRow 37 = some (.isub, 38) := by decide +kernel
theorem dX8_sortsRow_38 : dcd cX8_sortsRow 38 = some (.invokevirtual 208, 41) := by decide +kernel
theorem dX8_sortsRow_41 : dcd cX8_sortsRow 41 = some (.iinc 2 (-1), 44) := by decide +kernel
theorem dX8_sortsRow_44 : dcd cX8_sortsRow 44 = some (.goto (-32), 47) := by decide +kernel
theorem dX8_sortsRow_47 : dcd cX8_sortsRow 47 = some (.iinc 1 1, 50) := by decide +kernel
theorem dX8_sortsRow_50 : dcd cX8_sortsRow 50 = some (.goto (-48), 53) := by decide +kernel
theorem dX8_sortsRow_53 : dcd cX8_sortsRow 53 = some (.return_, 54) := by decide +kernel
theorem dX8_orderOf_0 : dcd cX8_orderOf 0 = some (.iconst 0, 1) := by decide +kernel
theorem dX8_orderOf_1 : dcd cX8_orderOf 1 = some (.istore_n 1, 2) := by decide +kernel
theorem dX8_orderOf_2 : dcd cX8_orderOf 2 = some (.iconst 0, 3) := by decide +kernel
theorem dX8_orderOf_3 : dcd cX8_orderOf 3 = some (.istore_n 2, 4) := by decide +kernel
theorem dX8_orderOf_4 : dcd cX8_orderOf 4 = some (.iload_n 2, 5) := by decide +kernel
theorem dX8_orderOf_5 : dcd cX8_orderOf 5 = some (.aload_n 0, 6) := by decide +kernel
theorem dX8_orderOf_6 : dcd cX8_orderOf 6 = some (.getfield 160, 9) := by decide +kernel
theorem dX8_orderOf_9 : dcd cX8_orderOf 9 = some (.if_icmp .ge 21, 12) := by decide +kernel
theorem dX8_orderOf_12 : dcd cX8_orderOf 12 = some (.bipush 10, 14) := by decide +kernel
theorem dX8_orderOf_14 : dcd cX8_orderOf 14 = some (.iload_n 1, 15) := by decide +kernel
theorem dX8_orderOf_15 : dcd cX8_orderOf 15 = some (.imul, 16) := by decide +kernel
theorem dX8_orderOf_16 : dcd cX8_orderOf 16 = some (.aload_n 0, 17) := by decide +kernel
theorem dX8_orderOf_17 : dcd cX8_orderOf 17 = some (.getfield 32, 20) := by decide +kernel
theorem dX8_orderOf_20 : dcd cX8_orderOf 20 = some (.iload_n 2, 21) := by decide +kernel
theorem dX8_orderOf_21 : dcd cX8_orderOf 21 = some (.iaload, 22) := by decide +kernel
theorem dX8_orderOf_22 : dcd cX8_orderOf 22 = some (.iadd, 23) := by decide +kernel
theorem dX8_orderOf_23 : dcd cX8_orderOf 23 = some (.istore_n 1, 24) := by decide +kernel
theorem dX8_orderOf_24 : dcd cX8_orderOf 24 = some (.iinc 2 1, 27) := by decide +kernel
theorem dX8_orderOf_27 : dcd cX8_orderOf 27 = some (.goto (-23), 30) := by decide +kernel
theorem dX8_orderOf_30 : dcd cX8_orderOf 30 = some (.iload_n 1, 31) := by decide +kernel
theorem dX8_orderOf_31 : dcd cX8_orderOf 31 = some (.ireturn, 32) := by decide +kernel
theorem dX8_goesThrough_0 : dcd cX8_goesThrough 0 = some (.aload_n 0, 1) := by decide +kernel
theorem dX8_goesThrough_1 : dcd cX8_goesThrough 1 = some (.invokevirtual 175, 4) := by decide +kernel
theorem dX8_goesThrough_4 : dcd cX8_goesThrough 4 = some (.aload_n 0, 5) := by decide +kernel
theorem dX8_goesThrough_5 : dcd cX8_goesThrough 5 = some (.invokevirtual 212, 8) := by decide +kernel
theorem dX8_goesThrough_8 : dcd cX8_goesThrough 8 = some (.aload_n 0, 9) := by decide +kernel
theorem dX8_goesThrough_9 : dcd cX8_goesThrough 9 = some (.bipush (-9), 11) := by decide +kernel
theorem dX8_goesThrough_11 : dcd cX8_goesThrough 11 = some (.putfield 215, 14) := by decide +kernel
theorem dX8_goesThrough_14 : dcd cX8_goesThrough 14 = some (.aload_n 0, 15) := by decide +kernel
theorem dX8_goesThrough_15 : dcd cX8_goesThrough 15 = some (.iconst 0, 16) := by decide +kernel
theorem dX8_goesThrough_16 : dcd cX8_goesThrough 16 = some (.putfield 218, 19) := by decide +kernel
theorem dX8_goesThrough_19 : dcd cX8_goesThrough 19 = some (.iconst 1, 20) := by decide +kernel
theorem dX8_goesThrough_20 : dcd cX8_goesThrough 20 = some (.istore_n 1, 21) := by decide +kernel
theorem dX8_goesThrough_21 : dcd cX8_goesThrough 21 = some (.iload_n 1, 22) := by decide +kernel
theorem dX8_goesThrough_22 : dcd cX8_goesThrough 22 = some (.ifCond .eq 101, 25) := by decide +kernel
theorem dX8_goesThrough_25 : dcd cX8_goesThrough 25 = some (.aload_n 0, 26) := by decide +kernel
theorem dX8_goesThrough_26 : dcd cX8_goesThrough 26 = some (.iconst 0, 27) := by decide +kernel
theorem dX8_goesThrough_27 : dcd cX8_goesThrough 27 = some (.putfield 163, 30) := by decide +kernel
theorem dX8_goesThrough_30 : dcd cX8_goesThrough 30 = some (.aload_n 0, 31) := by decide +kernel
theorem dX8_goesThrough_31 : dcd cX8_goesThrough 31 = some (.getfield 163, 34) := by decide +kernel
theorem dX8_goesThrough_34 : dcd cX8_goesThrough 34 = some (.aload_n 0, 35) := by decide +kernel
theorem dX8_goesThrough_35 : dcd cX8_goesThrough 35 = some (.getfield 160, 38) := by decide +kernel
theorem dX8_goesThrough_38 : dcd cX8_goesThrough 38 = some (.if_icmp .ge 77, 41) := by decide +kernel
theorem dX8_goesThrough_41 : dcd cX8_goesThrough 41 = some (.aload_n 0, 42) := by decide +kernel
theorem dX8_goesThrough_42 : dcd cX8_goesThrough 42 = some (.invokevirtual 187, 45) := by decide +kernel
theorem dX8_goesThrough_45 : dcd cX8_goesThrough 45 = some (.ifCond .eq 57, 48) := by decide +kernel
theorem dX8_goesThrough_48 : dcd cX8_goesThrough 48 = some (.aload_n 0, 49) := by decide +kernel
theorem dX8_goesThrough_49 : dcd cX8_goesThrough 49 = some (.dup, 50) := by decide +kernel
theorem dX8_goesThrough_50 : dcd cX8_goesThrough 50 = some (.getfield 218, 53) := by decide +kernel
theorem dX8_goesThrough_53 : dcd cX8_goesThrough 53 = some (.iconst 1, 54) := by decide +kernel
theorem dX8_goesThrough_54 : dcd cX8_goesThrough 54 = some (.iadd, 55) := by decide +kernel
theorem dX8_goesThrough_55 : dcd cX8_goesThrough 55 = some (.putfield 218, 58) := by decide +kernel
theorem dX8_goesThrough_58 : dcd cX8_goesThrough 58 = some (.aload_n 0, 59) := by decide +kernel
theorem dX8_goesThrough_59 : dcd cX8_goesThrough 59 = some (.iconst 0, 60) := by decide +kernel
theorem dX8_goesThrough_60 : dcd cX8_goesThrough 60 = some (.invokevirtual 205, 63) := by decide +kernel
theorem dX8_goesThrough_63 : dcd cX8_goesThrough 63 = some (.istore_n 2, 64) := by decide +kernel
theorem dX8_goesThrough_64 : dcd cX8_goesThrough 64 = some (.aload_n 0, 65) := by decide +kernel
theorem dX8_goesThrough_65 : dcd cX8_goesThrough 65 = some (.getfield 215, 68) := by decide +kernel
theorem dX8_goesThrough_68 : dcd cX8_goesThrough 68 = some (.bipush (-9), 70) := by decide +kernel
theorem dX8_goesThrough_70 : dcd cX8_goesThrough 70 = some (.if_icmp .eq 11, 73) := by decide +kernel
theorem dX8_goesThrough_73 : dcd cX8_goesThrough 73 = some (.iload_n 2, 74) := by decide +kernel
theorem dX8_goesThrough_74 : dcd cX8_goesThrough 74 = some (.aload_n 0, 75) := by decide +kernel
theorem dX8_goesThrough_75 : dcd cX8_goesThrough 75 = some (.getfield 215, 78) := by decide +kernel
theorem dX8_goesThrough_78 : dcd cX8_goesThrough 78 = some (.if_icmp .le 24, 81) := by decide +kernel
theorem dX8_goesThrough_81 : dcd cX8_goesThrough 81 = some (.aload_n 0, 82) := by decide +kernel
theorem dX8_goesThrough_82 : dcd cX8_goesThrough 82 = some (.iload_n 2, 83) := by decide +kernel
theorem dX8_goesThrough_83 : dcd cX8_goesThrough 83 = some (.putfield 215, 86) := by decide +kernel
theorem dX8_goesThrough_86 : dcd cX8_goesThrough 86 = some (.aload_n 0, 87) := by decide +kernel
theorem dX8_goesThrough_87 : dcd cX8_goesThrough 87 = some (.aload_n 0, 88) := by decide +kernel
theorem dX8_goesThrough_88 : dcd cX8_goesThrough 88 = some (.invokevirtual 221, 91) := by decide +kernel
theorem dX8_goesThrough_91 : dcd cX8_goesThrough 91 = some (.putfield 224, 94) := by decide +kernel
theorem dX8_goesThrough_94 : dcd cX8_goesThrough 94 = some (.aload_n 0, 95) := by decide +kernel
theorem dX8_goesThrough_95 : dcd cX8_goesThrough 95 = some (.aload_n 0, 96) := by decide +kernel
theorem dX8_goesThrough_96 : dcd cX8_goesThrough 96 = some (.getfield 163, 99) := by decide +kernel
theorem dX8_goesThrough_99 : dcd cX8_goesThrough 99 = some (.putfield 227, 102) := by decide +kernel
theorem dX8_goesThrough_102 : dcd cX8_goesThrough 102 = some (.aload_n 0, 103) := by decide +kernel
theorem dX8_goesThrough_103 : dcd cX8_goesThrough 103 = some (.dup, 104) := by decide +kernel
theorem dX8_goesThrough_104 : dcd cX8_goesThrough 104 = some (.getfield 163, 107) := by decide +kernel
theorem dX8_goesThrough_107 : dcd cX8_goesThrough 107 = some (.iconst 1, 108) := by decide +kernel
theorem dX8_goesThrough_108 : dcd cX8_goesThrough 108 = some (.iadd, 109) := by decide +kernel
theorem dX8_goesThrough_109 : dcd cX8_goesThrough 109 = some (.putfield 163, 112) := by decide +kernel
theorem dX8_goesThrough_112 : dcd cX8_goesThrough 112 = some (.goto (-82), 115) := by decide +kernel
theorem dX8_goesThrough_115 : dcd cX8_goesThrough 115 = some (.aload_n 0, 116) := by decide +kernel
theorem dX8_goesThrough_116 : dcd cX8_goesThrough 116 = some (.invokevirtual 230, 119) := by decide +kernel
theorem dX8_goesThrough_119 : dcd cX8_goesThrough 119 = some (.istore_n 1, 120) := by decide +kernel
theorem dX8_goesThrough_120 : dcd cX8_goesThrough 120 = some (.goto (-99), 123) := by decide +kernel
theorem dX8_goesThrough_123 : dcd cX8_goesThrough 123 = some (.return_, 124) := by decide +kernel
theorem dX8_best_0 : dcd cX8_best 0 = some (.aload_n 0, 1) := by decide +kernel
theorem dX8_best_1 : dcd cX8_best 1 = some (.iconst 0, 2) := by decide +kernel
theorem dX8_best_2 : dcd cX8_best 2 = some (.putfield 68, 5) := by decide +kernel
theorem dX8_best_5 : dcd cX8_best 5 = some (.iload_n 1, 6) := by decide +kernel
theorem dX8_best_6 : dcd cX8_best 6 = some (.iconst 0, 7) := by decide +kernel
theorem dX8_best_7 : dcd cX8_best 7 = some (.iconst 3, 8) := by decide +kernel
theorem dX8_best_8 : dcd cX8_best 8 = some (.invokestatic 72, 11) := by decide +kernel
theorem dX8_best_11 : dcd cX8_best 11 = some (.ifCond .ne 5, 14) := by decide +kernel
theorem dX8_best_14 : dcd cX8_best 14 = some (.iconst (-1), 15) := by decide +kernel
theorem dX8_best_15 : dcd cX8_best 15 = some (.ireturn, 16) := by decide +kernel
theorem dX8_best_16 : dcd cX8_best 16 = some (.aload_n 0, 17) := by decide +kernel
theorem dX8_best_17 : dcd cX8_best 17 = some (.getfield 22, 20) := by decide +kernel
theorem dX8_best_20 : dcd cX8_best 20 = some (.iconst 0, 21) := by decide +kernel
theorem dX8_best_21 : dcd cX8_best 21 = some (.iaload, 22) := by decide +kernel
theorem dX8_best_22 : dcd cX8_best 22 = some (.iconst 1, 23) := by decide +kernel
theorem dX8_best_23 : dcd cX8_best 23 = some (.bipush 7, 25) := by decide +kernel
theorem dX8_best_25 : dcd cX8_best 25 = some (.invokestatic 72, 28) := by decide +kernel
theorem dX8_best_28 : dcd cX8_best 28 = some (.ifCond .ne 6, 31) := by decide +kernel
theorem dX8_best_31 : dcd cX8_best 31 = some (.bipush (-2), 33) := by decide +kernel
theorem dX8_best_33 : dcd cX8_best 33 = some (.ireturn, 34) := by decide +kernel
theorem dX8_best_34 : dcd cX8_best 34 = some (.aload_n 0, 35) := by decide +kernel
theorem dX8_best_35 : dcd cX8_best 35 = some (.invokevirtual 233, 38) := by decide +kernel
theorem dX8_best_38 : dcd cX8_best 38 = some (.iload_n 1, 39) := by decide +kernel
theorem dX8_best_39 : dcd cX8_best 39 = some (.iconst 3, 40) := by decide +kernel
theorem dX8_best_40 : dcd cX8_best 40 = some (.if_icmp .ne 10, 43) := by decide +kernel
theorem dX8_best_43 : dcd cX8_best 43 = some (.aload_n 0, 44) := by decide +kernel
theorem dX8_best_44 : dcd cX8_best 44 = some (.getfield 218, 47) := by decide +kernel
theorem dX8_best_47 : dcd cX8_best 47 = some (.goto 39, 50) := by decide +kernel
theorem dX8_best_50 : dcd cX8_best 50 = some (.aload_n 0, 51) := by decide +kernel
theorem dX8_best_51 : dcd cX8_best 51 = some (.getfield 215, 54) := by decide +kernel
theorem dX8_best_54 : dcd cX8_best 54 = some (.bipush (-9), 56) := by decide +kernel
theorem dX8_best_56 : dcd cX8_best 56 = some (.if_icmp .eq 7, 59) := by decide +kernel
theorem dX8_best_59 : dcd cX8_best 59 = some (.iload_n 1, 60) := by decide +kernel
theorem dX8_best_60 : dcd cX8_best 60 = some (.ifCond .ne 10, 63) := by decide +kernel
theorem dX8_best_63 : dcd cX8_best 63 = some (.aload_n 0, 64) := by decide +kernel
theorem dX8_best_64 : dcd cX8_best 64 = some (.getfield 215, 67) := by decide +kernel
theorem dX8_best_67 : dcd cX8_best 67 = some (.goto 19, 70) := by decide +kernel
theorem dX8_best_70 : dcd cX8_best 70 = some (.iload_n 1, 71) := by decide +kernel
theorem dX8_best_71 : dcd cX8_best 71 = some (.iconst 1, 72) := by decide +kernel
theorem dX8_best_72 : dcd cX8_best 72 = some (.if_icmp .ne 10, 75) := by decide +kernel
theorem dX8_best_75 : dcd cX8_best 75 = some (.aload_n 0, 76) := by decide +kernel
theorem dX8_best_76 : dcd cX8_best 76 = some (.getfield 224, 79) := by decide +kernel
theorem dX8_best_79 : dcd cX8_best 79 = some (.goto 7, 82) := by decide +kernel
theorem dX8_best_82 : dcd cX8_best 82 = some (.aload_n 0, 83) := by decide +kernel
theorem dX8_best_83 : dcd cX8_best 83 = some (.getfield 227, 86) := by decide +kernel
theorem dX8_best_86 : dcd cX8_best 86 = some (.ireturn, 87) := by decide +kernel
theorem dX8_custom_0 : dcd cX8_custom 0 = some (.aload_n 0, 1) := by decide +kernel
theorem dX8_custom_1 : dcd cX8_custom 1 = some (.iconst 0, 2) := by decide +kernel
theorem dX8_custom_2 : dcd cX8_custom 2 = some (.putfield 68, 5) := by decide +kernel
theorem dX8_custom_5 : dcd cX8_custom 5 = some (.aload_n 0, 6) := by decide +kernel
theorem dX8_custom_6 : dcd cX8_custom 6 = some (.getfield 22, 9) := by decide +kernel
theorem dX8_custom_9 : dcd cX8_custom 9 = some (.iconst 0, 10) := by decide +kernel
theorem dX8_custom_10 : dcd cX8_custom 10 = some (.iaload, 11) := by decide +kernel
theorem dX8_custom_11 : dcd cX8_custom 11 = some (.ifCond .ne 6, 14) := by decide +kernel
theorem dX8_custom_14 : dcd cX8_custom 14 = some (.bipush (-2), 16) := by decide +kernel
theorem dX8_custom_16 : dcd cX8_custom 16 = some (.ireturn, 17) := by decide +kernel
theorem dX8_custom_17 : dcd cX8_custom 17 = some (.aload_n 0, 18) := by decide +kernel
theorem dX8_custom_18 : dcd cX8_custom 18 = some (.invokevirtual 175, 21) := by decide +kernel
theorem dX8_custom_21 : dcd cX8_custom 21 = some (.aload_n 0, 22) := by decide +kernel
theorem dX8_custom_22 : dcd cX8_custom 22 = some (.invokevirtual 212, 25) := by decide +kernel
theorem dX8_custom_25 : dcd cX8_custom 25 = some (.iconst 1, 26) := by decide +kernel
theorem dX8_custom_26 : dcd cX8_custom 26 = some (.istore_n 1, 27) := by decide +kernel
theorem dX8_custom_27 : dcd cX8_custom 27 = some (.iload_n 1, 28) := by decide +kernel
theorem dX8_custom_28 : dcd cX8_custom 28 = some (.aload_n 0, 29) := by decide +kernel
theorem dX8_custom_29 : dcd cX8_custom 29 = some (.getfield 160, 32) := by decide +kernel
theorem dX8_custom_32 : dcd cX8_custom 32 = some (.if_icmp .ge 56, 35) := by decide +kernel
theorem dX8_custom_35 : dcd cX8_custom 35 = some (.iload_n 1, 36) := by decide +kernel
theorem dX8_custom_36 : dcd cX8_custom 36 = some (.istore_n 2, 37) := by decide +kernel
theorem dX8_custom_37 : dcd cX8_custom 37 = some (.iload_n 2, 38) := by decide +kernel
theorem dX8_custom_38 : dcd cX8_custom 38 = some (.ifCond .le 44, 41) := by decide +kernel
theorem dX8_custom_41 : dcd cX8_custom 41 = some (.aload_n 0, 42) := by decide +kernel
theorem dX8_custom_42 : dcd cX8_custom 42 = some (.aload_n 0, 43) := by decide +kernel
theorem dX8_custom_43 : dcd cX8_custom 43 = some (.getfield 32, 46) := by decide +kernel
theorem dX8_custom_46 : dcd cX8_custom 46 = some (.iload_n 2, 47) := by decide +kernel
theorem dX8_custom_47 : dcd cX8_custom 47 = some (.iaload, 48) := by decide +kernel
theorem dX8_custom_48 : dcd cX8_custom 48 = some (.iconst 2, 49) := by decide +kernel
theorem dX8_custom_49 : dcd cX8_custom 49 = some (.invokevirtual 151, 52) := by decide +kernel
theorem dX8_custom_52 : dcd cX8_custom 52 = some (.aload_n 0, 53) := by decide +kernel
theorem dX8_custom_53 : dcd cX8_custom 53 = some (.aload_n 0, 54) := by decide +kernel
theorem dX8_custom_54 : dcd cX8_custom 54 = some (.getfield 32, 57) := by decide +kernel
theorem dX8_custom_57 : dcd cX8_custom 57 = some (.iload_n 2, 58) := by decide +kernel
theorem dX8_custom_58 : dcd cX8_custom 58 = some (.iconst 1, 59) := by decide +kernel
theorem dX8_custom_59 : dcd cX8_custom 59 = some (.isub, 60) := by decide +kernel
theorem dX8_custom_60 : dcd cX8_custom 60 = some (.iaload, 61) := by decide +kernel
theorem dX8_custom_61 : dcd cX8_custom 61 = some (.iconst 2, 62) := by decide +kernel
theorem dX8_custom_62 : dcd cX8_custom 62 = some (.invokevirtual 151, 65) := by decide +kernel
theorem dX8_custom_65 : dcd cX8_custom 65 = some (.if_icmp .ge 17, 68) := by decide +kernel
theorem dX8_custom_68 : dcd cX8_custom 68 = some (.aload_n 0, 69) := by decide +kernel
theorem dX8_custom_69 : dcd cX8_custom 69 = some (.iload_n 2, 70) := by decide +kernel
theorem dX8_custom_70 : dcd cX8_custom 70 = some (.iload_n 2, 71) := by decide +kernel
theorem dX8_custom_71 : dcd cX8_custom 71 = some (.iconst 1, 72) := by decide +kernel
theorem dX8_custom_72 : dcd cX8_custom 72 = some (.isub, 73) := by decide +kernel
theorem dX8_custom_73 : dcd cX8_custom 73 = some (.invokevirtual 208, 76) := by decide +kernel
theorem dX8_custom_76 : dcd cX8_custom 76 = some (.iinc 2 (-1), 79) := by decide +kernel
theorem dX8_custom_79 : dcd cX8_custom 79 = some (.goto (-42), 82) := by decide +kernel
theorem dX8_custom_82 : dcd cX8_custom 82 = some (.iinc 1 1, 85) := by decide +kernel
theorem dX8_custom_85 : dcd cX8_custom 85 = some (.goto (-58), 88) := by decide +kernel
theorem dX8_custom_88 : dcd cX8_custom 88 = some (.aload_n 0, 89) := by decide +kernel
theorem dX8_custom_89 : dcd cX8_custom 89 = some (.getfield 160, 92) := by decide +kernel
theorem dX8_custom_92 : dcd cX8_custom 92 = some (.iconst 1, 93) := by decide +kernel
theorem dX8_custom_93 : dcd cX8_custom 93 = some (.if_icmp .le 19, 96) := by decide +kernel
theorem dX8_custom_96 : dcd cX8_custom 96 = some (.aload_n 0, 97) := by decide +kernel
theorem dX8_custom_97 : dcd cX8_custom 97 = some (.aload_n 0, 98) := by decide +kernel
theorem dX8_custom_98 : dcd cX8_custom 98 = some (.getfield 160, 101) := by decide +kernel
theorem dX8_custom_101 : dcd cX8_custom 101 = some (.iconst 1, 102) := by decide +kernel
theorem dX8_custom_102 : dcd cX8_custom 102 = some (.isub, 103) := by decide +kernel
theorem dX8_custom_103 : dcd cX8_custom 103 = some (.aload_n 0, 104) := by decide +kernel
theorem dX8_custom_104 : dcd cX8_custom 104 = some (.getfield 160, 107) := by decide +kernel
theorem dX8_custom_107 : dcd cX8_custom 107 = some (.iconst 2, 108) := by decide +kernel
theorem dX8_custom_108 : dcd cX8_custom 108 = some (.isub, 109) := by decide +kernel
theorem dX8_custom_109 : dcd cX8_custom 109 = some (.invokevirtual 208, 112) := by decide +kernel
theorem dX8_custom_112 : dcd cX8_custom 112 = some (.aload_n 0, 113) := by decide +kernel
theorem dX8_custom_113 : dcd cX8_custom 113 = some (.invokevirtual 178, 116) := by decide +kernel
theorem dX8_custom_116 : dcd cX8_custom 116 = some (.aload_n 0, 117) := by decide +kernel
theorem dX8_custom_117 : dcd cX8_custom 117 = some (.iconst 0, 118) := by decide +kernel
theorem dX8_custom_118 : dcd cX8_custom 118 = some (.invokevirtual 205, 121) := by decide +kernel
theorem dX8_custom_121 : dcd cX8_custom 121 = some (.ireturn, 122) := by decide +kernel
theorem dX8_when_0 : dcd cX8_when 0 = some (.aload_n 0, 1) := by decide +kernel
theorem dX8_when_1 : dcd cX8_when 1 = some (.iconst 0, 2) := by decide +kernel
theorem dX8_when_2 : dcd cX8_when 2 = some (.putfield 68, 5) := by decide +kernel
theorem dX8_when_5 : dcd cX8_when 5 = some (.aload_n 0, 6) := by decide +kernel
theorem dX8_when_6 : dcd cX8_when 6 = some (.getfield 22, 9) := by decide +kernel
theorem dX8_when_9 : dcd cX8_when 9 = some (.iconst 0, 10) := by decide +kernel
theorem dX8_when_10 : dcd cX8_when 10 = some (.iaload, 11) := by decide +kernel
theorem dX8_when_11 : dcd cX8_when 11 = some (.ifCond .ne 6, 14) := by decide +kernel
theorem dX8_when_14 : dcd cX8_when 14 = some (.bipush (-2), 16) := by decide +kernel
theorem dX8_when_16 : dcd cX8_when 16 = some (.ireturn, 17) := by decide +kernel
theorem dX8_when_17 : dcd cX8_when 17 = some (.aload_n 0, 18) := by decide +kernel
theorem dX8_when_18 : dcd cX8_when 18 = some (.invokevirtual 175, 21) := by decide +kernel
theorem dX8_when_21 : dcd cX8_when 21 = some (.bipush (-9), 23) := by decide +kernel
theorem dX8_when_23 : dcd cX8_when 23 = some (.istore_n 1, 24) := by decide +kernel
theorem dX8_when_24 : dcd cX8_when 24 = some (.bipush (-9), 26) := by decide +kernel
theorem dX8_when_26 : dcd cX8_when 26 = some (.istore_n 2, 27) := by decide +kernel
theorem dX8_when_27 : dcd cX8_when 27 = some (.aload_n 0, 28) := by decide +kernel
theorem dX8_when_28 : dcd cX8_when 28 = some (.iconst 0, 29) := by decide +kernel
theorem dX8_when_29 : dcd cX8_when 29 = some (.putfield 163, 32) := by decide +kernel
theorem dX8_when_32 : dcd cX8_when 32 = some (.aload_n 0, 33) := by decide +kernel
theorem dX8_when_33 : dcd cX8_when 33 = some (.getfield 163, 36) := by decide +kernel
theorem dX8_when_36 : dcd cX8_when 36 = some (.aload_n 0, 37) := by decide +kernel
theorem dX8_when_37 : dcd cX8_when 37 = some (.getfield 160, 40) := by decide +kernel
theorem dX8_when_40 : dcd cX8_when 40 = some (.if_icmp .ge 59, 43) := by decide +kernel
theorem dX8_when_43 : dcd cX8_when 43 = some (.aload_n 0, 44) := by decide +kernel
theorem dX8_when_44 : dcd cX8_when 44 = some (.invokevirtual 187, 47) := by decide +kernel
theorem dX8_when_47 : dcd cX8_when 47 = some (.ifCond .eq 11, 50) := by decide +kernel
theorem dX8_when_50 : dcd cX8_when 50 = some (.aload_n 0, 51) := by decide +kernel
theorem dX8_when_51 : dcd cX8_when 51 = some (.iconst 0, 52) := by decide +kernel
theorem dX8_when_52 : dcd cX8_when 52 = some (.invokevirtual 205, 55) := by decide +kernel
theorem dX8_when_55 : dcd cX8_when 55 = some (.goto 5, 58) := by decide +kernel
theorem dX8_when_58 : dcd cX8_when 58 = some (.bipush (-9), 60) := by decide +kernel
theorem dX8_when_60 : dcd cX8_when 60 = some (.istore_n 3, 61) := by decide +kernel
theorem dX8_when_61 : dcd cX8_when 61 = some (.iload_n 3, 62) := by decide +kernel
theorem dX8_when_62 : dcd cX8_when 62 = some (.iload_n 2, 63) := by decide +kernel
theorem dX8_when_63 : dcd cX8_when 63 = some (.if_icmp .le 10, 66) := by decide +kernel
theorem dX8_when_66 : dcd cX8_when 66 = some (.aload_n 0, 67) := by decide +kernel
theorem dX8_when_67 : dcd cX8_when 67 = some (.getfield 163, 70) := by decide +kernel
theorem dX8_when_70 : dcd cX8_when 70 = some (.goto 4, 73) := by decide +kernel
theorem dX8_when_73 : dcd cX8_when 73 = some (.iload_n 1, 74) := by decide +kernel
theorem dX8_when_74 : dcd cX8_when 74 = some (.istore_n 1, 75) := by decide +kernel
theorem dX8_when_75 : dcd cX8_when 75 = some (.iload_n 3, 76) := by decide +kernel
theorem dX8_when_76 : dcd cX8_when 76 = some (.iload_n 2, 77) := by decide +kernel
theorem dX8_when_77 : dcd cX8_when 77 = some (.if_icmp .le 7, 80) := by decide +kernel
theorem dX8_when_80 : dcd cX8_when 80 = some (.iload_n 3, 81) := by decide +kernel
theorem dX8_when_81 : dcd cX8_when 81 = some (.goto 4, 84) := by decide +kernel
theorem dX8_when_84 : dcd cX8_when 84 = some (.iload_n 2, 85) := by decide +kernel
theorem dX8_when_85 : dcd cX8_when 85 = some (.istore_n 2, 86) := by decide +kernel
theorem dX8_when_86 : dcd cX8_when 86 = some (.aload_n 0, 87) := by decide +kernel
theorem dX8_when_87 : dcd cX8_when 87 = some (.dup, 88) := by decide +kernel
theorem dX8_when_88 : dcd cX8_when 88 = some (.getfield 163, 91) := by decide +kernel
theorem dX8_when_91 : dcd cX8_when 91 = some (.iconst 1, 92) := by decide +kernel
theorem dX8_when_92 : dcd cX8_when 92 = some (.iadd, 93) := by decide +kernel
theorem dX8_when_93 : dcd cX8_when 93 = some (.putfield 163, 96) := by decide +kernel
theorem dX8_when_96 : dcd cX8_when 96 = some (.goto (-64), 99) := by decide +kernel
theorem dX8_when_99 : dcd cX8_when 99 = some (.iload_n 1, 100) := by decide +kernel
theorem dX8_when_100 : dcd cX8_when 100 = some (.ireturn, 101) := by decide +kernel
theorem dX8_movedOf_0 : dcd cX8_movedOf 0 = some (.iconst 0, 1) := by decide +kernel
theorem dX8_movedOf_1 : dcd cX8_movedOf 1 = some (.istore_n 1, 2) := by decide +kernel
theorem dX8_movedOf_2 : dcd cX8_movedOf 2 = some (.iconst 0, 3) := by decide +kernel
theorem dX8_movedOf_3 : dcd cX8_movedOf 3 = some (.istore_n 2, 4) := by decide +kernel
theorem dX8_movedOf_4 : dcd cX8_movedOf 4 = some (.iload_n 2, 5) := by decide +kernel
theorem dX8_movedOf_5 : dcd cX8_movedOf 5 = some (.aload_n 0, 6) := by decide +kernel
theorem dX8_movedOf_6 : dcd cX8_movedOf 6 = some (.getfield 160, 9) := by decide +kernel
theorem dX8_movedOf_9 : dcd cX8_movedOf 9 = some (.if_icmp .ge 32, 12) := by decide +kernel
theorem dX8_movedOf_12 : dcd cX8_movedOf 12 = some (.iload_n 1, 13) := by decide +kernel
theorem dX8_movedOf_13 : dcd cX8_movedOf 13 = some (.aload_n 0, 14) := by decide +kernel
theorem dX8_movedOf_14 : dcd cX8_movedOf 14 = some (.getfield 32, 17) := by decide +kernel
theorem dX8_movedOf_17 : dcd cX8_movedOf 17 = some (.iload_n 2, 18) := by decide +kernel
theorem dX8_movedOf_18 : dcd cX8_movedOf 18 = some (.iaload, 19) := by decide +kernel
theorem dX8_movedOf_19 : dcd cX8_movedOf 19 = some (.aload_n 0, 20) := by decide +kernel
theorem dX8_movedOf_20 : dcd cX8_movedOf 20 = some (.getfield 62, 23) := by decide +kernel
theorem dX8_movedOf_23 : dcd cX8_movedOf 23 = some (.iload_n 2, 24) := by decide +kernel
theorem dX8_movedOf_24 : dcd cX8_movedOf 24 = some (.iaload, 25) := by decide +kernel
theorem dX8_movedOf_25 : dcd cX8_movedOf 25 = some (.if_icmp .ne 7, 28) := by decide +kernel
theorem dX8_movedOf_28 : dcd cX8_movedOf 28 = some (.iconst 0, 29) := by decide +kernel
theorem dX8_movedOf_29 : dcd cX8_movedOf 29 = some (.goto 4, 32) := by decide +kernel
theorem dX8_movedOf_32 : dcd cX8_movedOf 32 = some (.iconst 1, 33) := by decide +kernel
theorem dX8_movedOf_33 : dcd cX8_movedOf 33 = some (.iadd, 34) := by decide +kernel
theorem dX8_movedOf_34 : dcd cX8_movedOf 34 = some (.istore_n 1, 35) := by decide +kernel
theorem dX8_movedOf_35 : dcd cX8_movedOf 35 = some (.iinc 2 1, 38) := by decide +kernel
theorem dX8_movedOf_38 : dcd cX8_movedOf 38 = some (.goto (-34), 41) := by decide +kernel
theorem dX8_movedOf_41 : dcd cX8_movedOf 41 = some (.iload_n 1, 42) := by decide +kernel
theorem dX8_movedOf_42 : dcd cX8_movedOf 42 = some (.ireturn, 43) := by decide +kernel
theorem dX8_ill_0 : dcd cX8_ill 0 = some (.aload_n 0, 1) := by decide +kernel
theorem dX8_ill_1 : dcd cX8_ill 1 = some (.iconst 0, 2) := by decide +kernel
theorem dX8_ill_2 : dcd cX8_ill 2 = some (.putfield 68, 5) := by decide +kernel
theorem dX8_ill_5 : dcd cX8_ill 5 = some (.aload_n 0, 6) := by decide +kernel
theorem dX8_ill_6 : dcd cX8_ill 6 = some (.iload_n 1, 7) := by decide +kernel
theorem dX8_ill_7 : dcd cX8_ill 7 = some (.invokevirtual 148, 10) := by decide +kernel
theorem dX8_ill_10 : dcd cX8_ill 10 = some (.ifCond .eq 11, 13) := by decide +kernel
theorem dX8_ill_13 : dcd cX8_ill 13 = some (.aload_n 0, 14) := by decide +kernel
theorem dX8_ill_14 : dcd cX8_ill 14 = some (.iload_n 1, 15) := by decide +kernel
theorem dX8_ill_15 : dcd cX8_ill 15 = some (.invokevirtual 154, 18) := by decide +kernel
theorem dX8_ill_18 : dcd cX8_ill 18 = some (.goto 5, 21) := by decide +kernel
theorem dX8_ill_21 : dcd cX8_ill 21 = some (.bipush (-9), 23) := by decide +kernel
theorem dX8_ill_23 : dcd cX8_ill 23 = some (.istore_n 3, 24) := by decide +kernel
theorem dX8_ill_24 : dcd cX8_ill 24 = some (.iload_n 3, 25) := by decide +kernel
theorem dX8_ill_25 : dcd cX8_ill 25 = some (.bipush (-9), 27) := by decide +kernel
theorem dX8_ill_27 : dcd cX8_ill 27 = some (.if_icmp .eq 12, 30) := by decide +kernel
theorem dX8_ill_30 : dcd cX8_ill 30 = some (.iload_n 2, 31) := by decide +kernel
theorem dX8_ill_31 : dcd cX8_ill 31 = some (.iconst 0, 32) := by decide +kernel
theorem dX8_ill_32 : dcd cX8_ill 32 = some (.iconst 2, 33) := by decide +kernel
theorem dX8_ill_33 : dcd cX8_ill 33 = some (.invokestatic 72, 36) := by decide +kernel
theorem dX8_ill_36 : dcd cX8_ill 36 = some (.ifCond .ne 5, 39) := by decide +kernel
theorem dX8_ill_39 : dcd cX8_ill 39 = some (.iconst (-1), 40) := by decide +kernel
theorem dX8_ill_40 : dcd cX8_ill 40 = some (.ireturn, 41) := by decide +kernel
theorem dX8_ill_41 : dcd cX8_ill 41 = some (.aload_n 0, 42) := by decide +kernel
theorem dX8_ill_42 : dcd cX8_ill 42 = some (.getfield 22, 45) := by decide +kernel
theorem dX8_ill_45 : dcd cX8_ill 45 = some (.iconst 0, 46) := by decide +kernel
theorem dX8_ill_46 : dcd cX8_ill 46 = some (.iaload, 47) := by decide +kernel
theorem dX8_ill_47 : dcd cX8_ill 47 = some (.iconst 2, 48) := by decide +kernel
theorem dX8_ill_48 : dcd cX8_ill 48 = some (.bipush 7, 50) := by decide +kernel
theorem dX8_ill_50 : dcd cX8_ill 50 = some (.invokestatic 72, 53) := by decide +kernel
theorem dX8_ill_53 : dcd cX8_ill 53 = some (.ifCond .ne 6, 56) := by decide +kernel
theorem dX8_ill_56 : dcd cX8_ill 56 = some (.bipush (-2), 58) := by decide +kernel
theorem dX8_ill_58 : dcd cX8_ill 58 = some (.ireturn, 59) := by decide +kernel
theorem dX8_ill_59 : dcd cX8_ill 59 = some (.aload_n 0, 60) := by decide +kernel
theorem dX8_ill_60 : dcd cX8_ill 60 = some (.invokevirtual 175, 63) := by decide +kernel
theorem dX8_ill_63 : dcd cX8_ill 63 = some (.aload_n 0, 64) := by decide +kernel
theorem dX8_ill_64 : dcd cX8_ill 64 = some (.dup, 65) := by decide +kernel
theorem dX8_ill_65 : dcd cX8_ill 65 = some (.getfield 160, 68) := by decide +kernel
theorem dX8_ill_68 : dcd cX8_ill 68 = some (.iconst 1, 69) := by decide +kernel
theorem dX8_ill_69 : dcd cX8_ill 69 = some (.isub, 70) := by decide +kernel
theorem dX8_ill_70 : dcd cX8_ill 70 = some (.putfield 160, 73) := by decide +kernel
theorem dX8_ill_73 : dcd cX8_ill 73 = some (.iconst 0, 74) := by decide +kernel
theorem dX8_ill_74 : dcd cX8_ill 74 = some (.istore 4, 76) := by decide +kernel
theorem dX8_ill_76 : dcd cX8_ill 76 = some (.iload 4, 78) := by decide +kernel
theorem dX8_ill_78 : dcd cX8_ill 78 = some (.aload_n 0, 79) := by decide +kernel
theorem dX8_ill_79 : dcd cX8_ill 79 = some (.getfield 160, 82) := by decide +kernel
theorem dX8_ill_82 : dcd cX8_ill 82 = some (.if_icmp .ge 52, 85) := by decide +kernel
theorem dX8_ill_85 : dcd cX8_ill 85 = some (.aload_n 0, 86) := by decide +kernel
theorem dX8_ill_86 : dcd cX8_ill 86 = some (.getfield 32, 89) := by decide +kernel
theorem dX8_ill_89 : dcd cX8_ill 89 = some (.iload 4, 91) := by decide +kernel
theorem dX8_ill_91 : dcd cX8_ill 91 = some (.aload_n 0, 92) := by decide +kernel
theorem dX8_ill_92 : dcd cX8_ill 92 = some (.getfield 22, 95) := by decide +kernel
theorem dX8_ill_95 : dcd cX8_ill 95 = some (.iconst 3, 96) := by decide +kernel
theorem dX8_ill_96 : dcd cX8_ill 96 = some (.iload 4, 98) := by decide +kernel
theorem dX8_ill_98 : dcd cX8_ill 98 = some (.iload_n 3, 99) := by decide +kernel
theorem dX8_ill_99 : dcd cX8_ill 99 = some (.if_icmp .ge 8, 102) := by decide +kernel
theorem dX8_ill_102 : dcd cX8_ill 102 = some (.iload 4, 104) := by decide +kernel
theorem dX8_ill_104 : dcd cX8_ill 104 = some (.goto 7, 107) := by decide +kernel
theorem dX8_ill_107 : dcd cX8_ill 107 = some (.iload 4, 109) := by decide +kernel
theorem dX8_ill_109 : dcd cX8_ill 109 = some (.iconst 1, 110) := by decide +kernel
theorem dX8_ill_110 : dcd cX8_ill 110 = some (.iadd, 111) := by decide +kernel
theorem dX8_ill_111 : dcd cX8_ill 111 = some (.iadd, 112) := by decide +kernel
theorem dX8_ill_112 : dcd cX8_ill 112 = some (.iaload, 113) := by decide +kernel
theorem dX8_ill_113 : dcd cX8_ill 113 = some (.iastore, 114) := by decide +kernel
theorem dX8_ill_114 : dcd cX8_ill 114 = some (.aload_n 0, 115) := by decide +kernel
theorem dX8_ill_115 : dcd cX8_ill 115 = some (.getfield 62, 118) := by decide +kernel
theorem dX8_ill_118 : dcd cX8_ill 118 = some (.iload 4, 120) := by decide +kernel
theorem dX8_ill_120 : dcd cX8_ill 120 = some (.aload_n 0, 121) := by decide +kernel
theorem dX8_ill_121 : dcd cX8_ill 121 = some (.getfield 32, 124) := by decide +kernel
theorem dX8_ill_124 : dcd cX8_ill 124 = some (.iload 4, 126) := by decide +kernel
theorem dX8_ill_126 : dcd cX8_ill 126 = some (.iaload, 127) := by decide +kernel
theorem dX8_ill_127 : dcd cX8_ill 127 = some (.iastore, 128) := by decide +kernel
theorem dX8_ill_128 : dcd cX8_ill 128 = some (.iinc 4 1, 131) := by decide +kernel
theorem dX8_ill_131 : dcd cX8_ill 131 = some (.goto (-55), 134) := by decide +kernel
theorem dX8_ill_134 : dcd cX8_ill 134 = some (.aload_n 0, 135) := by decide +kernel
theorem dX8_ill_135 : dcd cX8_ill 135 = some (.dup, 136) := by decide +kernel
theorem dX8_ill_136 : dcd cX8_ill 136 = some (.getfield 163, 139) := by decide +kernel
theorem dX8_ill_139 : dcd cX8_ill 139 = some (.iload_n 3, 140) := by decide +kernel
theorem dX8_ill_140 : dcd cX8_ill 140 = some (.aload_n 0, 141) := by decide +kernel
theorem dX8_ill_141 : dcd cX8_ill 141 = some (.getfield 163, 144) := by decide +kernel
theorem dX8_ill_144 : dcd cX8_ill 144 = some (.if_icmp .ge 7, 147) := by decide +kernel
theorem dX8_ill_147 : dcd cX8_ill 147 = some (.iconst 1, 148) := by decide +kernel
theorem dX8_ill_148 : dcd cX8_ill 148 = some (.goto 4, 151) := by decide +kernel
theorem dX8_ill_151 : dcd cX8_ill 151 = some (.iconst 0, 152) := by decide +kernel
theorem dX8_ill_152 : dcd cX8_ill 152 = some (.isub, 153) := by decide +kernel
theorem dX8_ill_153 : dcd cX8_ill 153 = some (.putfield 163, 156) := by decide +kernel
theorem dX8_ill_156 : dcd cX8_ill 156 = some (.aload_n 0, 157) := by decide +kernel
end
section
theorem dX8_ill_157 : dcd cX8_ill 157 = some (.aload_n 0, 158) := by decide +kernel
theorem dX8_ill_158 : dcd cX8_ill 158 = some (.getfield 163, 161) := by decide +kernel
theorem dX8_ill_161 : dcd cX8_ill 161 = some (.aload_n 0, 162) := by decide +kernel
theorem dX8_ill_162 : dcd cX8_ill 162 = some (.getfield 160, 165) := by decide +kernel
theorem dX8_ill_165 : dcd cX8_ill 165 = some (.if_icmp .lt 7, 168) := by decide +kernel
theorem dX8_ill_168 : dcd cX8_ill 168 = some (.iconst 0, 169) := by decide +kernel
theorem dX8_ill_169 : dcd cX8_ill 169 = some (.goto 7, 172) := by decide +kernel
theorem dX8_ill_172 : dcd cX8_ill 172 = some (.aload_n 0, 173) := by decide +kernel
theorem dX8_ill_173 : dcd cX8_ill 173 = some (.getfield 163, 176) := by decide +kernel
theorem dX8_ill_176 : dcd cX8_ill 176 = some (.putfield 163, 179) := by decide +kernel
theorem dX8_ill_179 : dcd cX8_ill 179 = some (.aload_n 0, 180) := by decide +kernel
theorem dX8_ill_180 : dcd cX8_ill 180 = some (.invokevirtual 212, 183) := by decide +kernel
theorem dX8_ill_183 : dcd cX8_ill 183 = some (.aload_n 0, 184) := by decide +kernel
theorem dX8_ill_184 : dcd cX8_ill 184 = some (.bipush (-9), 186) := by decide +kernel
theorem dX8_ill_186 : dcd cX8_ill 186 = some (.putfield 236, 189) := by decide +kernel
theorem dX8_ill_189 : dcd cX8_ill 189 = some (.iconst 1, 190) := by decide +kernel
theorem dX8_ill_190 : dcd cX8_ill 190 = some (.istore 4, 192) := by decide +kernel
theorem dX8_ill_192 : dcd cX8_ill 192 = some (.iload 4, 194) := by decide +kernel
theorem dX8_ill_194 : dcd cX8_ill 194 = some (.ifCond .eq 88, 197) := by decide +kernel
theorem dX8_ill_197 : dcd cX8_ill 197 = some (.aload_n 0, 198) := by decide +kernel
theorem dX8_ill_198 : dcd cX8_ill 198 = some (.invokevirtual 187, 201) := by decide +kernel
theorem dX8_ill_201 : dcd cX8_ill 201 = some (.ifCond .eq 72, 204) := by decide +kernel
theorem dX8_ill_204 : dcd cX8_ill 204 = some (.aload_n 0, 205) := by decide +kernel
theorem dX8_ill_205 : dcd cX8_ill 205 = some (.invokevirtual 239, 208) := by decide +kernel
theorem dX8_ill_208 : dcd cX8_ill 208 = some (.istore 5, 210) := by decide +kernel
theorem dX8_ill_210 : dcd cX8_ill 210 = some (.aload_n 0, 211) := by decide +kernel
theorem dX8_ill_211 : dcd cX8_ill 211 = some (.iconst 0, 212) := by decide +kernel
theorem dX8_ill_212 : dcd cX8_ill 212 = some (.invokevirtual 205, 215) := by decide +kernel
theorem dX8_ill_215 : dcd cX8_ill 215 = some (.istore 6, 217) := by decide +kernel
theorem dX8_ill_217 : dcd cX8_ill 217 = some (.aload_n 0, 218) := by decide +kernel
theorem dX8_ill_218 : dcd cX8_ill 218 = some (.getfield 236, 221) := by decide +kernel
theorem dX8_ill_221 : dcd cX8_ill 221 = some (.bipush (-9), 223) := by decide +kernel
theorem dX8_ill_223 : dcd cX8_ill 223 = some (.if_icmp .eq 30, 226) := by decide +kernel
theorem dX8_ill_226 : dcd cX8_ill 226 = some (.iload 5, 228) := by decide +kernel
theorem dX8_ill_228 : dcd cX8_ill 228 = some (.aload_n 0, 229) := by decide +kernel
theorem dX8_ill_229 : dcd cX8_ill 229 = some (.getfield 236, 232) := by decide +kernel
theorem dX8_ill_232 : dcd cX8_ill 232 = some (.if_icmp .lt 21, 235) := by decide +kernel
theorem dX8_ill_235 : dcd cX8_ill 235 = some (.iload 5, 237) := by decide +kernel
theorem dX8_ill_237 : dcd cX8_ill 237 = some (.aload_n 0, 238) := by decide +kernel
theorem dX8_ill_238 : dcd cX8_ill 238 = some (.getfield 236, 241) := by decide +kernel
theorem dX8_ill_241 : dcd cX8_ill 241 = some (.if_icmp .ne 32, 244) := by decide +kernel
theorem dX8_ill_244 : dcd cX8_ill 244 = some (.iload 6, 246) := by decide +kernel
theorem dX8_ill_246 : dcd cX8_ill 246 = some (.aload_n 0, 247) := by decide +kernel
theorem dX8_ill_247 : dcd cX8_ill 247 = some (.getfield 215, 250) := by decide +kernel
theorem dX8_ill_250 : dcd cX8_ill 250 = some (.if_icmp .le 23, 253) := by decide +kernel
theorem dX8_ill_253 : dcd cX8_ill 253 = some (.aload_n 0, 254) := by decide +kernel
theorem dX8_ill_254 : dcd cX8_ill 254 = some (.iload 5, 256) := by decide +kernel
theorem dX8_ill_256 : dcd cX8_ill 256 = some (.putfield 236, 259) := by decide +kernel
theorem dX8_ill_259 : dcd cX8_ill 259 = some (.aload_n 0, 260) := by decide +kernel
theorem dX8_ill_260 : dcd cX8_ill 260 = some (.iload 6, 262) := by decide +kernel
theorem dX8_ill_262 : dcd cX8_ill 262 = some (.putfield 215, 265) := by decide +kernel
theorem dX8_ill_265 : dcd cX8_ill 265 = some (.aload_n 0, 266) := by decide +kernel
theorem dX8_ill_266 : dcd cX8_ill 266 = some (.aload_n 0, 267) := by decide +kernel
theorem dX8_ill_267 : dcd cX8_ill 267 = some (.invokevirtual 221, 270) := by decide +kernel
theorem dX8_ill_270 : dcd cX8_ill 270 = some (.putfield 224, 273) := by decide +kernel
theorem dX8_ill_273 : dcd cX8_ill 273 = some (.aload_n 0, 274) := by decide +kernel
theorem dX8_ill_274 : dcd cX8_ill 274 = some (.invokevirtual 230, 277) := by decide +kernel
theorem dX8_ill_277 : dcd cX8_ill 277 = some (.istore 4, 279) := by decide +kernel
theorem dX8_ill_279 : dcd cX8_ill 279 = some (.goto (-87), 282) := by decide +kernel
theorem dX8_ill_282 : dcd cX8_ill 282 = some (.aload_n 0, 283) := by decide +kernel
theorem dX8_ill_283 : dcd cX8_ill 283 = some (.getfield 236, 286) := by decide +kernel
theorem dX8_ill_286 : dcd cX8_ill 286 = some (.bipush (-9), 288) := by decide +kernel
theorem dX8_ill_288 : dcd cX8_ill 288 = some (.if_icmp .eq 7, 291) := by decide +kernel
theorem dX8_ill_291 : dcd cX8_ill 291 = some (.iload_n 2, 292) := by decide +kernel
theorem dX8_ill_292 : dcd cX8_ill 292 = some (.ifCond .ne 10, 295) := by decide +kernel
theorem dX8_ill_295 : dcd cX8_ill 295 = some (.aload_n 0, 296) := by decide +kernel
theorem dX8_ill_296 : dcd cX8_ill 296 = some (.getfield 236, 299) := by decide +kernel
theorem dX8_ill_299 : dcd cX8_ill 299 = some (.goto 19, 302) := by decide +kernel
theorem dX8_ill_302 : dcd cX8_ill 302 = some (.iload_n 2, 303) := by decide +kernel
theorem dX8_ill_303 : dcd cX8_ill 303 = some (.iconst 1, 304) := by decide +kernel
theorem dX8_ill_304 : dcd cX8_ill 304 = some (.if_icmp .ne 10, 307) := by decide +kernel
theorem dX8_ill_307 : dcd cX8_ill 307 = some (.aload_n 0, 308) := by decide +kernel
theorem dX8_ill_308 : dcd cX8_ill 308 = some (.getfield 224, 311) := by decide +kernel
theorem dX8_ill_311 : dcd cX8_ill 311 = some (.goto 7, 314) := by decide +kernel
theorem dX8_ill_314 : dcd cX8_ill 314 = some (.aload_n 0, 315) := by decide +kernel
theorem dX8_ill_315 : dcd cX8_ill 315 = some (.getfield 215, 318) := by decide +kernel
theorem dX8_ill_318 : dcd cX8_ill 318 = some (.ireturn, 319) := by decide +kernel
theorem dX8_halves_0 : dcd cX8_halves 0 = some (.aload_n 0, 1) := by decide +kernel
theorem dX8_halves_1 : dcd cX8_halves 1 = some (.iconst 0, 2) := by decide +kernel
theorem dX8_halves_2 : dcd cX8_halves 2 = some (.putfield 68, 5) := by decide +kernel
theorem dX8_halves_5 : dcd cX8_halves 5 = some (.iload_n 1, 6) := by decide +kernel
theorem dX8_halves_6 : dcd cX8_halves 6 = some (.iconst 0, 7) := by decide +kernel
theorem dX8_halves_7 : dcd cX8_halves 7 = some (.iconst 1, 8) := by decide +kernel
theorem dX8_halves_8 : dcd cX8_halves 8 = some (.invokestatic 72, 11) := by decide +kernel
theorem dX8_halves_11 : dcd cX8_halves 11 = some (.ifCond .ne 5, 14) := by decide +kernel
theorem dX8_halves_14 : dcd cX8_halves 14 = some (.iconst (-1), 15) := by decide +kernel
theorem dX8_halves_15 : dcd cX8_halves 15 = some (.ireturn, 16) := by decide +kernel
theorem dX8_halves_16 : dcd cX8_halves 16 = some (.aload_n 0, 17) := by decide +kernel
theorem dX8_halves_17 : dcd cX8_halves 17 = some (.getfield 22, 20) := by decide +kernel
theorem dX8_halves_20 : dcd cX8_halves 20 = some (.iconst 0, 21) := by decide +kernel
theorem dX8_halves_21 : dcd cX8_halves 21 = some (.iaload, 22) := by decide +kernel
theorem dX8_halves_22 : dcd cX8_halves 22 = some (.iconst 2, 23) := by decide +kernel
theorem dX8_halves_23 : dcd cX8_halves 23 = some (.if_icmp .ge 6, 26) := by decide +kernel
theorem dX8_halves_26 : dcd cX8_halves 26 = some (.bipush (-2), 28) := by decide +kernel
theorem dX8_halves_28 : dcd cX8_halves 28 = some (.ireturn, 29) := by decide +kernel
theorem dX8_halves_29 : dcd cX8_halves 29 = some (.iconst 0, 30) := by decide +kernel
theorem dX8_halves_30 : dcd cX8_halves 30 = some (.istore_n 2, 31) := by decide +kernel
theorem dX8_halves_31 : dcd cX8_halves 31 = some (.iconst 0, 32) := by decide +kernel
theorem dX8_halves_32 : dcd cX8_halves 32 = some (.istore_n 3, 33) := by decide +kernel
theorem dX8_halves_33 : dcd cX8_halves 33 = some (.iconst 0, 34) := by decide +kernel
theorem dX8_halves_34 : dcd cX8_halves 34 = some (.istore 4, 36) := by decide +kernel
theorem dX8_halves_36 : dcd cX8_halves 36 = some (.iload 4, 38) := by decide +kernel
theorem dX8_halves_38 : dcd cX8_halves 38 = some (.aload_n 0, 39) := by decide +kernel
theorem dX8_halves_39 : dcd cX8_halves 39 = some (.getfield 22, 42) := by decide +kernel
theorem dX8_halves_42 : dcd cX8_halves 42 = some (.iconst 0, 43) := by decide +kernel
theorem dX8_halves_43 : dcd cX8_halves 43 = some (.iaload, 44) := by decide +kernel
theorem dX8_halves_44 : dcd cX8_halves 44 = some (.if_icmp .ge 40, 47) := by decide +kernel
theorem dX8_halves_47 : dcd cX8_halves 47 = some (.iload_n 2, 48) := by decide +kernel
theorem dX8_halves_48 : dcd cX8_halves 48 = some (.iconst 1, 49) := by decide +kernel
theorem dX8_halves_49 : dcd cX8_halves 49 = some (.aload_n 0, 50) := by decide +kernel
theorem dX8_halves_50 : dcd cX8_halves 50 = some (.getfield 22, 53) := by decide +kernel
theorem dX8_halves_53 : dcd cX8_halves 53 = some (.iconst 3, 54) := by decide +kernel
theorem dX8_halves_54 : dcd cX8_halves 54 = some (.iload 4, 56) := by decide +kernel
theorem dX8_halves_56 : dcd cX8_halves 56 = some (.iadd, 57) := by decide +kernel
theorem dX8_halves_57 : dcd cX8_halves 57 = some (.iaload, 58) := by decide +kernel
theorem dX8_halves_58 : dcd cX8_halves 58 = some (.ishl, 59) := by decide +kernel
theorem dX8_halves_59 : dcd cX8_halves 59 = some (.ior, 60) := by decide +kernel
theorem dX8_halves_60 : dcd cX8_halves 60 = some (.istore_n 2, 61) := by decide +kernel
theorem dX8_halves_61 : dcd cX8_halves 61 = some (.iload_n 3, 62) := by decide +kernel
theorem dX8_halves_62 : dcd cX8_halves 62 = some (.aload_n 0, 63) := by decide +kernel
theorem dX8_halves_63 : dcd cX8_halves 63 = some (.aload_n 0, 64) := by decide +kernel
theorem dX8_halves_64 : dcd cX8_halves 64 = some (.getfield 22, 67) := by decide +kernel
theorem dX8_halves_67 : dcd cX8_halves 67 = some (.iconst 3, 68) := by decide +kernel
theorem dX8_halves_68 : dcd cX8_halves 68 = some (.iload 4, 70) := by decide +kernel
theorem dX8_halves_70 : dcd cX8_halves 70 = some (.iadd, 71) := by decide +kernel
theorem dX8_halves_71 : dcd cX8_halves 71 = some (.iaload, 72) := by decide +kernel
theorem dX8_halves_72 : dcd cX8_halves 72 = some (.iconst 2, 73) := by decide +kernel
theorem dX8_halves_73 : dcd cX8_halves 73 = some (.invokevirtual 151, 76) := by decide +kernel
theorem dX8_halves_76 : dcd cX8_halves 76 = some (.iadd, 77) := by decide +kernel
theorem dX8_halves_77 : dcd cX8_halves 77 = some (.istore_n 3, 78) := by decide +kernel
theorem dX8_halves_78 : dcd cX8_halves 78 = some (.iinc 4 1, 81) := by decide +kernel
theorem dX8_halves_81 : dcd cX8_halves 81 = some (.goto (-45), 84) := by decide +kernel
theorem dX8_halves_84 : dcd cX8_halves 84 = some (.bipush (-9), 86) := by decide +kernel
theorem dX8_halves_86 : dcd cX8_halves 86 = some (.istore 4, 88) := by decide +kernel
theorem dX8_halves_88 : dcd cX8_halves 88 = some (.bipush (-9), 90) := by decide +kernel
theorem dX8_halves_90 : dcd cX8_halves 90 = some (.istore 5, 92) := by decide +kernel
theorem dX8_halves_92 : dcd cX8_halves 92 = some (.iconst 1, 93) := by decide +kernel
theorem dX8_halves_93 : dcd cX8_halves 93 = some (.istore 6, 95) := by decide +kernel
theorem dX8_halves_95 : dcd cX8_halves 95 = some (.iload 6, 97) := by decide +kernel
theorem dX8_halves_97 : dcd cX8_halves 97 = some (.iload_n 2, 98) := by decide +kernel
theorem dX8_halves_98 : dcd cX8_halves 98 = some (.if_icmp .gt 48, 101) := by decide +kernel
theorem dX8_halves_101 : dcd cX8_halves 101 = some (.aload_n 0, 102) := by decide +kernel
theorem dX8_halves_102 : dcd cX8_halves 102 = some (.iload 6, 104) := by decide +kernel
theorem dX8_halves_104 : dcd cX8_halves 104 = some (.iload_n 2, 105) := by decide +kernel
theorem dX8_halves_105 : dcd cX8_halves 105 = some (.iload_n 3, 106) := by decide +kernel
theorem dX8_halves_106 : dcd cX8_halves 106 = some (.invokevirtual 242, 109) := by decide +kernel
theorem dX8_halves_109 : dcd cX8_halves 109 = some (.istore 7, 111) := by decide +kernel
theorem dX8_halves_111 : dcd cX8_halves 111 = some (.iload 7, 113) := by decide +kernel
theorem dX8_halves_113 : dcd cX8_halves 113 = some (.bipush (-9), 115) := by decide +kernel
theorem dX8_halves_115 : dcd cX8_halves 115 = some (.if_icmp .eq 25, 118) := by decide +kernel
theorem dX8_halves_118 : dcd cX8_halves 118 = some (.iload 4, 120) := by decide +kernel
theorem dX8_halves_120 : dcd cX8_halves 120 = some (.bipush (-9), 122) := by decide +kernel
theorem dX8_halves_122 : dcd cX8_halves 122 = some (.if_icmp .eq 10, 125) := by decide +kernel
theorem dX8_halves_125 : dcd cX8_halves 125 = some (.iload 7, 127) := by decide +kernel
theorem dX8_halves_127 : dcd cX8_halves 127 = some (.iload 5, 129) := by decide +kernel
theorem dX8_halves_129 : dcd cX8_halves 129 = some (.if_icmp .ge 11, 132) := by decide +kernel
theorem dX8_halves_132 : dcd cX8_halves 132 = some (.iload 6, 134) := by decide +kernel
theorem dX8_halves_134 : dcd cX8_halves 134 = some (.istore 4, 136) := by decide +kernel
theorem dX8_halves_136 : dcd cX8_halves 136 = some (.iload 7, 138) := by decide +kernel
theorem dX8_halves_138 : dcd cX8_halves 138 = some (.istore 5, 140) := by decide +kernel
theorem dX8_halves_140 : dcd cX8_halves 140 = some (.iinc 6 1, 143) := by decide +kernel
theorem dX8_halves_143 : dcd cX8_halves 143 = some (.goto (-48), 146) := by decide +kernel
theorem dX8_halves_146 : dcd cX8_halves 146 = some (.iload_n 1, 147) := by decide +kernel
theorem dX8_halves_147 : dcd cX8_halves 147 = some (.ifCond .ne 8, 150) := by decide +kernel
theorem dX8_halves_150 : dcd cX8_halves 150 = some (.iload 4, 152) := by decide +kernel
theorem dX8_halves_152 : dcd cX8_halves 152 = some (.goto 5, 155) := by decide +kernel
theorem dX8_halves_155 : dcd cX8_halves 155 = some (.iload 5, 157) := by decide +kernel
theorem dX8_halves_157 : dcd cX8_halves 157 = some (.ireturn, 158) := by decide +kernel
theorem dX8_hallsOf_0 : dcd cX8_hallsOf 0 = some (.iconst 0, 1) := by decide +kernel
theorem dX8_hallsOf_1 : dcd cX8_hallsOf 1 = some (.istore 4, 3) := by decide +kernel
theorem dX8_hallsOf_3 : dcd cX8_hallsOf 3 = some (.iload_n 2, 4) := by decide +kernel
theorem dX8_hallsOf_4 : dcd cX8_hallsOf 4 = some (.iload 4, 6) := by decide +kernel
theorem dX8_hallsOf_6 : dcd cX8_hallsOf 6 = some (.ishr, 7) := by decide +kernel
theorem dX8_hallsOf_7 : dcd cX8_hallsOf 7 = some (.iconst 1, 8) := by decide +kernel
theorem dX8_hallsOf_8 : dcd cX8_hallsOf 8 = some (.iand, 9) := by decide +kernel
theorem dX8_hallsOf_9 : dcd cX8_hallsOf 9 = some (.ifCond .ne 9, 12) := by decide +kernel
theorem dX8_hallsOf_12 : dcd cX8_hallsOf 12 = some (.iinc 4 1, 15) := by decide +kernel
theorem dX8_hallsOf_15 : dcd cX8_hallsOf 15 = some (.goto (-12), 18) := by decide +kernel
theorem dX8_hallsOf_18 : dcd cX8_hallsOf 18 = some (.iload_n 1, 19) := by decide +kernel
theorem dX8_hallsOf_19 : dcd cX8_hallsOf 19 = some (.iload_n 2, 20) := by decide +kernel
theorem dX8_hallsOf_20 : dcd cX8_hallsOf 20 = some (.iconst (-1), 21) := by decide +kernel
theorem dX8_hallsOf_21 : dcd cX8_hallsOf 21 = some (.ixor, 22) := by decide +kernel
theorem dX8_hallsOf_22 : dcd cX8_hallsOf 22 = some (.iand, 23) := by decide +kernel
theorem dX8_hallsOf_23 : dcd cX8_hallsOf 23 = some (.ifCond .ne 12, 26) := by decide +kernel
theorem dX8_hallsOf_26 : dcd cX8_hallsOf 26 = some (.iload_n 1, 27) := by decide +kernel
theorem dX8_hallsOf_27 : dcd cX8_hallsOf 27 = some (.iload 4, 29) := by decide +kernel
theorem dX8_hallsOf_29 : dcd cX8_hallsOf 29 = some (.ishr, 30) := by decide +kernel
theorem dX8_hallsOf_30 : dcd cX8_hallsOf 30 = some (.iconst 1, 31) := by decide +kernel
theorem dX8_hallsOf_31 : dcd cX8_hallsOf 31 = some (.iand, 32) := by decide +kernel
theorem dX8_hallsOf_32 : dcd cX8_hallsOf 32 = some (.ifCond .ne 6, 35) := by decide +kernel
theorem dX8_hallsOf_35 : dcd cX8_hallsOf 35 = some (.bipush (-9), 37) := by decide +kernel
theorem dX8_hallsOf_37 : dcd cX8_hallsOf 37 = some (.ireturn, 38) := by decide +kernel
theorem dX8_hallsOf_38 : dcd cX8_hallsOf 38 = some (.iconst 0, 39) := by decide +kernel
theorem dX8_hallsOf_39 : dcd cX8_hallsOf 39 = some (.istore 5, 41) := by decide +kernel
theorem dX8_hallsOf_41 : dcd cX8_hallsOf 41 = some (.iconst 0, 42) := by decide +kernel
theorem dX8_hallsOf_42 : dcd cX8_hallsOf 42 = some (.istore 6, 44) := by decide +kernel
theorem dX8_hallsOf_44 : dcd cX8_hallsOf 44 = some (.iconst 0, 45) := by decide +kernel
theorem dX8_hallsOf_45 : dcd cX8_hallsOf 45 = some (.istore 7, 47) := by decide +kernel
theorem dX8_hallsOf_47 : dcd cX8_hallsOf 47 = some (.iconst 0, 48) := by decide +kernel
theorem dX8_hallsOf_48 : dcd cX8_hallsOf 48 = some (.istore 8, 50) := by decide +kernel
theorem dX8_hallsOf_50 : dcd cX8_hallsOf 50 = some (.iconst 0, 51) := by decide +kernel
theorem dX8_hallsOf_51 : dcd cX8_hallsOf 51 = some (.istore 9, 53) := by decide +kernel
theorem dX8_hallsOf_53 : dcd cX8_hallsOf 53 = some (.iconst 0, 54) := by decide +kernel
theorem dX8_hallsOf_54 : dcd cX8_hallsOf 54 = some (.istore 10, 56) := by decide +kernel
theorem dX8_hallsOf_56 : dcd cX8_hallsOf 56 = some (.iload 10, 58) := by decide +kernel
theorem dX8_hallsOf_58 : dcd cX8_hallsOf 58 = some (.aload_n 0, 59) := by decide +kernel
theorem dX8_hallsOf_59 : dcd cX8_hallsOf 59 = some (.getfield 142, 62) := by decide +kernel
theorem dX8_hallsOf_62 : dcd cX8_hallsOf 62 = some (.if_icmp .ge 107, 65) := by decide +kernel
theorem dX8_hallsOf_65 : dcd cX8_hallsOf 65 = some (.iconst 1, 66) := by decide +kernel
theorem dX8_hallsOf_66 : dcd cX8_hallsOf 66 = some (.aload_n 0, 67) := by decide +kernel
theorem dX8_hallsOf_67 : dcd cX8_hallsOf 67 = some (.iload 10, 69) := by decide +kernel
theorem dX8_hallsOf_69 : dcd cX8_hallsOf 69 = some (.iconst 0, 70) := by decide +kernel
theorem dX8_hallsOf_70 : dcd cX8_hallsOf 70 = some (.invokevirtual 151, 73) := by decide +kernel
theorem dX8_hallsOf_73 : dcd cX8_hallsOf 73 = some (.ishl, 74) := by decide +kernel
theorem dX8_hallsOf_74 : dcd cX8_hallsOf 74 = some (.istore 11, 76) := by decide +kernel
theorem dX8_hallsOf_76 : dcd cX8_hallsOf 76 = some (.iload_n 1, 77) := by decide +kernel
theorem dX8_hallsOf_77 : dcd cX8_hallsOf 77 = some (.iload 10, 79) := by decide +kernel
theorem dX8_hallsOf_79 : dcd cX8_hallsOf 79 = some (.ishr, 80) := by decide +kernel
theorem dX8_hallsOf_80 : dcd cX8_hallsOf 80 = some (.iconst 1, 81) := by decide +kernel
theorem dX8_hallsOf_81 : dcd cX8_hallsOf 81 = some (.iand, 82) := by decide +kernel
theorem dX8_hallsOf_82 : dcd cX8_hallsOf 82 = some (.iconst 1, 83) := by decide +kernel
theorem dX8_hallsOf_83 : dcd cX8_hallsOf 83 = some (.if_icmp .ne 44, 86) := by decide +kernel
theorem dX8_hallsOf_86 : dcd cX8_hallsOf 86 = some (.iload 5, 88) := by decide +kernel
theorem dX8_hallsOf_88 : dcd cX8_hallsOf 88 = some (.iload 7, 90) := by decide +kernel
theorem dX8_hallsOf_90 : dcd cX8_hallsOf 90 = some (.iload 11, 92) := by decide +kernel
theorem dX8_hallsOf_92 : dcd cX8_hallsOf 92 = some (.iand, 93) := by decide +kernel
theorem dX8_hallsOf_93 : dcd cX8_hallsOf 93 = some (.ifCond .ne 7, 96) := by decide +kernel
theorem dX8_hallsOf_96 : dcd cX8_hallsOf 96 = some (.iconst 1, 97) := by decide +kernel
theorem dX8_hallsOf_97 : dcd cX8_hallsOf 97 = some (.goto 5, 100) := by decide +kernel
theorem dX8_hallsOf_100 : dcd cX8_hallsOf 100 = some (.bipush 100, 102) := by decide +kernel
theorem dX8_hallsOf_102 : dcd cX8_hallsOf 102 = some (.iadd, 103) := by decide +kernel
theorem dX8_hallsOf_103 : dcd cX8_hallsOf 103 = some (.istore 5, 105) := by decide +kernel
theorem dX8_hallsOf_105 : dcd cX8_hallsOf 105 = some (.iload 7, 107) := by decide +kernel
theorem dX8_hallsOf_107 : dcd cX8_hallsOf 107 = some (.iload 11, 109) := by decide +kernel
theorem dX8_hallsOf_109 : dcd cX8_hallsOf 109 = some (.ior, 110) := by decide +kernel
theorem dX8_hallsOf_110 : dcd cX8_hallsOf 110 = some (.istore 7, 112) := by decide +kernel
theorem dX8_hallsOf_112 : dcd cX8_hallsOf 112 = some (.iload 9, 114) := by decide +kernel
theorem dX8_hallsOf_114 : dcd cX8_hallsOf 114 = some (.aload_n 0, 115) := by decide +kernel
theorem dX8_hallsOf_115 : dcd cX8_hallsOf 115 = some (.iload 10, 117) := by decide +kernel
theorem dX8_hallsOf_117 : dcd cX8_hallsOf 117 = some (.iconst 2, 118) := by decide +kernel
theorem dX8_hallsOf_118 : dcd cX8_hallsOf 118 = some (.invokevirtual 151, 121) := by decide +kernel
theorem dX8_hallsOf_121 : dcd cX8_hallsOf 121 = some (.iadd, 122) := by decide +kernel
theorem dX8_hallsOf_122 : dcd cX8_hallsOf 122 = some (.istore 9, 124) := by decide +kernel
theorem dX8_hallsOf_124 : dcd cX8_hallsOf 124 = some (.goto 39, 127) := by decide +kernel
theorem dX8_hallsOf_127 : dcd cX8_hallsOf 127 = some (.iload_n 2, 128) := by decide +kernel
theorem dX8_hallsOf_128 : dcd cX8_hallsOf 128 = some (.iload 10, 130) := by decide +kernel
theorem dX8_hallsOf_130 : dcd cX8_hallsOf 130 = some (.ishr, 131) := by decide +kernel
theorem dX8_hallsOf_131 : dcd cX8_hallsOf 131 = some (.iconst 1, 132) := by decide +kernel
theorem dX8_hallsOf_132 : dcd cX8_hallsOf 132 = some (.iand, 133) := by decide +kernel
theorem dX8_hallsOf_133 : dcd cX8_hallsOf 133 = some (.iconst 1, 134) := by decide +kernel
theorem dX8_hallsOf_134 : dcd cX8_hallsOf 134 = some (.if_icmp .ne 29, 137) := by decide +kernel
theorem dX8_hallsOf_137 : dcd cX8_hallsOf 137 = some (.iload 6, 139) := by decide +kernel
theorem dX8_hallsOf_139 : dcd cX8_hallsOf 139 = some (.iload 8, 141) := by decide +kernel
theorem dX8_hallsOf_141 : dcd cX8_hallsOf 141 = some (.iload 11, 143) := by decide +kernel
theorem dX8_hallsOf_143 : dcd cX8_hallsOf 143 = some (.iand, 144) := by decide +kernel
theorem dX8_hallsOf_144 : dcd cX8_hallsOf 144 = some (.ifCond .ne 7, 147) := by decide +kernel
theorem dX8_hallsOf_147 : dcd cX8_hallsOf 147 = some (.iconst 1, 148) := by decide +kernel
theorem dX8_hallsOf_148 : dcd cX8_hallsOf 148 = some (.goto 5, 151) := by decide +kernel
theorem dX8_hallsOf_151 : dcd cX8_hallsOf 151 = some (.bipush 100, 153) := by decide +kernel
theorem dX8_hallsOf_153 : dcd cX8_hallsOf 153 = some (.iadd, 154) := by decide +kernel
theorem dX8_hallsOf_154 : dcd cX8_hallsOf 154 = some (.istore 6, 156) := by decide +kernel
theorem dX8_hallsOf_156 : dcd cX8_hallsOf 156 = some (.iload 8, 158) := by decide +kernel
theorem dX8_hallsOf_158 : dcd cX8_hallsOf 158 = some (.iload 11, 160) := by decide +kernel
theorem dX8_hallsOf_160 : dcd cX8_hallsOf 160 = some (.ior, 161) := by decide +kernel
theorem dX8_hallsOf_161 : dcd cX8_hallsOf 161 = some (.istore 8, 163) := by decide +kernel
theorem dX8_hallsOf_163 : dcd cX8_hallsOf 163 = some (.iinc 10 1, 166) := by decide +kernel
theorem dX8_hallsOf_166 : dcd cX8_hallsOf 166 = some (.goto (-110), 169) := by decide +kernel
theorem dX8_hallsOf_169 : dcd cX8_hallsOf 169 = some (.iload 5, 171) := by decide +kernel
theorem dX8_hallsOf_171 : dcd cX8_hallsOf 171 = some (.bipush 9, 173) := by decide +kernel
theorem dX8_hallsOf_173 : dcd cX8_hallsOf 173 = some (.if_icmp .gt 23, 176) := by decide +kernel
theorem dX8_hallsOf_176 : dcd cX8_hallsOf 176 = some (.iload 6, 178) := by decide +kernel
theorem dX8_hallsOf_178 : dcd cX8_hallsOf 178 = some (.bipush 9, 180) := by decide +kernel
theorem dX8_hallsOf_180 : dcd cX8_hallsOf 180 = some (.if_icmp .gt 16, 183) := by decide +kernel
theorem dX8_hallsOf_183 : dcd cX8_hallsOf 183 = some (.iload 5, 185) := by decide +kernel
theorem dX8_hallsOf_185 : dcd cX8_hallsOf 185 = some (.iload 6, 187) := by decide +kernel
theorem dX8_hallsOf_187 : dcd cX8_hallsOf 187 = some (.isub, 188) := by decide +kernel
theorem dX8_hallsOf_188 : dcd cX8_hallsOf 188 = some (.iconst (-1), 189) := by decide +kernel
theorem dX8_hallsOf_189 : dcd cX8_hallsOf 189 = some (.iconst 1, 190) := by decide +kernel
theorem dX8_hallsOf_190 : dcd cX8_hallsOf 190 = some (.invokestatic 72, 193) := by decide +kernel
theorem dX8_hallsOf_193 : dcd cX8_hallsOf 193 = some (.ifCond .ne 6, 196) := by decide +kernel
theorem dX8_hallsOf_196 : dcd cX8_hallsOf 196 = some (.bipush (-9), 198) := by decide +kernel
theorem dX8_hallsOf_198 : dcd cX8_hallsOf 198 = some (.ireturn, 199) := by decide +kernel
theorem dX8_hallsOf_199 : dcd cX8_hallsOf 199 = some (.iconst 2, 200) := by decide +kernel
theorem dX8_hallsOf_200 : dcd cX8_hallsOf 200 = some (.iload 9, 202) := by decide +kernel
theorem dX8_hallsOf_202 : dcd cX8_hallsOf 202 = some (.imul, 203) := by decide +kernel
theorem dX8_hallsOf_203 : dcd cX8_hallsOf 203 = some (.iload_n 3, 204) := by decide +kernel
theorem dX8_hallsOf_204 : dcd cX8_hallsOf 204 = some (.isub, 205) := by decide +kernel
theorem dX8_hallsOf_205 : dcd cX8_hallsOf 205 = some (.istore 10, 207) := by decide +kernel
theorem dX8_hallsOf_207 : dcd cX8_hallsOf 207 = some (.iload 10, 209) := by decide +kernel
theorem dX8_hallsOf_209 : dcd cX8_hallsOf 209 = some (.ifCond .ge 9, 212) := by decide +kernel
theorem dX8_hallsOf_212 : dcd cX8_hallsOf 212 = some (.iload 10, 214) := by decide +kernel
theorem dX8_hallsOf_214 : dcd cX8_hallsOf 214 = some (.ineg, 215) := by decide +kernel
theorem dX8_hallsOf_215 : dcd cX8_hallsOf 215 = some (.goto 5, 218) := by decide +kernel
theorem dX8_hallsOf_218 : dcd cX8_hallsOf 218 = some (.iload 10, 220) := by decide +kernel
theorem dX8_hallsOf_220 : dcd cX8_hallsOf 220 = some (.ireturn, 221) := by decide +kernel
theorem dX8_tryout_0 : dcd cX8_tryout 0 = some (.aload_n 0, 1) := by decide +kernel
theorem dX8_tryout_1 : dcd cX8_tryout 1 = some (.iconst 0, 2) := by decide +kernel
theorem dX8_tryout_2 : dcd cX8_tryout 2 = some (.putfield 68, 5) := by decide +kernel
theorem dX8_tryout_5 : dcd cX8_tryout 5 = some (.iload_n 1, 6) := by decide +kernel
theorem dX8_tryout_6 : dcd cX8_tryout 6 = some (.iconst 0, 7) := by decide +kernel
theorem dX8_tryout_7 : dcd cX8_tryout 7 = some (.iconst 5, 8) := by decide +kernel
theorem dX8_tryout_8 : dcd cX8_tryout 8 = some (.invokestatic 72, 11) := by decide +kernel
theorem dX8_tryout_11 : dcd cX8_tryout 11 = some (.ifCond .eq 33, 14) := by decide +kernel
theorem dX8_tryout_14 : dcd cX8_tryout 14 = some (.iload_n 2, 15) := by decide +kernel
theorem dX8_tryout_15 : dcd cX8_tryout 15 = some (.iconst 1, 16) := by decide +kernel
theorem dX8_tryout_16 : dcd cX8_tryout 16 = some (.bipush 30, 18) := by decide +kernel
theorem dX8_tryout_18 : dcd cX8_tryout 18 = some (.invokestatic 72, 21) := by decide +kernel
theorem dX8_tryout_21 : dcd cX8_tryout 21 = some (.ifCond .eq 23, 24) := by decide +kernel
theorem dX8_tryout_24 : dcd cX8_tryout 24 = some (.iload_n 3, 25) := by decide +kernel
theorem dX8_tryout_25 : dcd cX8_tryout 25 = some (.iconst 0, 26) := by decide +kernel
theorem dX8_tryout_26 : dcd cX8_tryout 26 = some (.bipush 30, 28) := by decide +kernel
theorem dX8_tryout_28 : dcd cX8_tryout 28 = some (.invokestatic 72, 31) := by decide +kernel
theorem dX8_tryout_31 : dcd cX8_tryout 31 = some (.ifCond .eq 13, 34) := by decide +kernel
theorem dX8_tryout_34 : dcd cX8_tryout 34 = some (.iload 4, 36) := by decide +kernel
theorem dX8_tryout_36 : dcd cX8_tryout 36 = some (.iconst 0, 37) := by decide +kernel
theorem dX8_tryout_37 : dcd cX8_tryout 37 = some (.iconst 1, 38) := by decide +kernel
theorem dX8_tryout_38 : dcd cX8_tryout 38 = some (.invokestatic 72, 41) := by decide +kernel
theorem dX8_tryout_41 : dcd cX8_tryout 41 = some (.ifCond .ne 5, 44) := by decide +kernel
theorem dX8_tryout_44 : dcd cX8_tryout 44 = some (.iconst (-1), 45) := by decide +kernel
theorem dX8_tryout_45 : dcd cX8_tryout 45 = some (.ireturn, 46) := by decide +kernel
theorem dX8_tryout_46 : dcd cX8_tryout 46 = some (.iconst 0, 47) := by decide +kernel
theorem dX8_tryout_47 : dcd cX8_tryout 47 = some (.istore 5, 49) := by decide +kernel
theorem dX8_tryout_49 : dcd cX8_tryout 49 = some (.iload 5, 51) := by decide +kernel
theorem dX8_tryout_51 : dcd cX8_tryout 51 = some (.bipush 9, 53) := by decide +kernel
theorem dX8_tryout_53 : dcd cX8_tryout 53 = some (.if_icmp .ge 49, 56) := by decide +kernel
theorem dX8_tryout_56 : dcd cX8_tryout 56 = some (.aload_n 0, 57) := by decide +kernel
theorem dX8_tryout_57 : dcd cX8_tryout 57 = some (.getfield 13, 60) := by decide +kernel
theorem dX8_tryout_60 : dcd cX8_tryout 60 = some (.bipush 81, 62) := by decide +kernel
theorem dX8_tryout_62 : dcd cX8_tryout 62 = some (.iload 5, 64) := by decide +kernel
theorem dX8_tryout_64 : dcd cX8_tryout 64 = some (.iadd, 65) := by decide +kernel
theorem dX8_tryout_65 : dcd cX8_tryout 65 = some (.iload 5, 67) := by decide +kernel
theorem dX8_tryout_67 : dcd cX8_tryout 67 = some (.ifCond .ne 7, 70) := by decide +kernel
theorem dX8_tryout_70 : dcd cX8_tryout 70 = some (.iload_n 1, 71) := by decide +kernel
theorem dX8_tryout_71 : dcd cX8_tryout 71 = some (.goto 24, 74) := by decide +kernel
theorem dX8_tryout_74 : dcd cX8_tryout 74 = some (.iload 5, 76) := by decide +kernel
theorem dX8_tryout_76 : dcd cX8_tryout 76 = some (.iconst 1, 77) := by decide +kernel
theorem dX8_tryout_77 : dcd cX8_tryout 77 = some (.if_icmp .ne 7, 80) := by decide +kernel
theorem dX8_tryout_80 : dcd cX8_tryout 80 = some (.iload_n 2, 81) := by decide +kernel
theorem dX8_tryout_81 : dcd cX8_tryout 81 = some (.goto 14, 84) := by decide +kernel
theorem dX8_tryout_84 : dcd cX8_tryout 84 = some (.iload 5, 86) := by decide +kernel
theorem dX8_tryout_86 : dcd cX8_tryout 86 = some (.iconst 2, 87) := by decide +kernel
theorem dX8_tryout_87 : dcd cX8_tryout 87 = some (.if_icmp .ne 7, 90) := by decide +kernel
theorem dX8_tryout_90 : dcd cX8_tryout 90 = some (.iload_n 3, 91) := by decide +kernel
theorem dX8_tryout_91 : dcd cX8_tryout 91 = some (.goto 4, 94) := by decide +kernel
theorem dX8_tryout_94 : dcd cX8_tryout 94 = some (.iconst 0, 95) := by decide +kernel
theorem dX8_tryout_95 : dcd cX8_tryout 95 = some (.iastore, 96) := by decide +kernel
theorem dX8_tryout_96 : dcd cX8_tryout 96 = some (.iinc 5 1, 99) := by decide +kernel
theorem dX8_tryout_99 : dcd cX8_tryout 99 = some (.goto (-50), 102) := by decide +kernel
theorem dX8_tryout_102 : dcd cX8_tryout 102 = some (.bipush (-9), 104) := by decide +kernel
theorem dX8_tryout_104 : dcd cX8_tryout 104 = some (.istore 5, 106) := by decide +kernel
theorem dX8_tryout_106 : dcd cX8_tryout 106 = some (.bipush (-9), 108) := by decide +kernel
theorem dX8_tryout_108 : dcd cX8_tryout 108 = some (.istore 6, 110) := by decide +kernel
theorem dX8_tryout_110 : dcd cX8_tryout 110 = some (.iconst 0, 111) := by decide +kernel
theorem dX8_tryout_111 : dcd cX8_tryout 111 = some (.istore 7, 113) := by decide +kernel
theorem dX8_tryout_113 : dcd cX8_tryout 113 = some (.iload 7, 115) := by decide +kernel
theorem dX8_tryout_115 : dcd cX8_tryout 115 = some (.aload_n 0, 116) := by decide +kernel
theorem dX8_tryout_116 : dcd cX8_tryout 116 = some (.getfield 22, 119) := by decide +kernel
theorem dX8_tryout_119 : dcd cX8_tryout 119 = some (.iconst 0, 120) := by decide +kernel
theorem dX8_tryout_120 : dcd cX8_tryout 120 = some (.iaload, 121) := by decide +kernel
theorem dX8_tryout_121 : dcd cX8_tryout 121 = some (.if_icmp .gt 164, 124) := by decide +kernel
theorem dX8_tryout_124 : dcd cX8_tryout 124 = some (.aload_n 0, 125) := by decide +kernel
theorem dX8_tryout_125 : dcd cX8_tryout 125 = some (.aload_n 0, 126) := by decide +kernel
theorem dX8_tryout_126 : dcd cX8_tryout 126 = some (.getfield 22, 129) := by decide +kernel
theorem dX8_tryout_129 : dcd cX8_tryout 129 = some (.iconst 0, 130) := by decide +kernel
theorem dX8_tryout_130 : dcd cX8_tryout 130 = some (.iaload, 131) := by decide +kernel
theorem dX8_tryout_131 : dcd cX8_tryout 131 = some (.iconst 1, 132) := by decide +kernel
theorem dX8_tryout_132 : dcd cX8_tryout 132 = some (.iadd, 133) := by decide +kernel
theorem dX8_tryout_133 : dcd cX8_tryout 133 = some (.putfield 160, 136) := by decide +kernel
theorem dX8_tryout_136 : dcd cX8_tryout 136 = some (.aload_n 0, 137) := by decide +kernel
theorem dX8_tryout_137 : dcd cX8_tryout 137 = some (.aload_n 0, 138) := by decide +kernel
theorem dX8_tryout_138 : dcd cX8_tryout 138 = some (.getfield 22, 141) := by decide +kernel
theorem dX8_tryout_141 : dcd cX8_tryout 141 = some (.iconst 1, 142) := by decide +kernel
theorem dX8_tryout_142 : dcd cX8_tryout 142 = some (.iaload, 143) := by decide +kernel
theorem dX8_tryout_143 : dcd cX8_tryout 143 = some (.iload 7, 145) := by decide +kernel
theorem dX8_tryout_145 : dcd cX8_tryout 145 = some (.if_icmp .le 14, 148) := by decide +kernel
theorem dX8_tryout_148 : dcd cX8_tryout 148 = some (.aload_n 0, 149) := by decide +kernel
theorem dX8_tryout_149 : dcd cX8_tryout 149 = some (.getfield 22, 152) := by decide +kernel
theorem dX8_tryout_152 : dcd cX8_tryout 152 = some (.iconst 1, 153) := by decide +kernel
theorem dX8_tryout_153 : dcd cX8_tryout 153 = some (.iaload, 154) := by decide +kernel
theorem dX8_tryout_154 : dcd cX8_tryout 154 = some (.iconst 1, 155) := by decide +kernel
theorem dX8_tryout_155 : dcd cX8_tryout 155 = some (.iadd, 156) := by decide +kernel
theorem dX8_tryout_156 : dcd cX8_tryout 156 = some (.goto 9, 159) := by decide +kernel
theorem dX8_tryout_159 : dcd cX8_tryout 159 = some (.aload_n 0, 160) := by decide +kernel
theorem dX8_tryout_160 : dcd cX8_tryout 160 = some (.getfield 22, 163) := by decide +kernel
theorem dX8_tryout_163 : dcd cX8_tryout 163 = some (.iconst 1, 164) := by decide +kernel
theorem dX8_tryout_164 : dcd cX8_tryout 164 = some (.iaload, 165) := by decide +kernel
theorem dX8_tryout_165 : dcd cX8_tryout 165 = some (.putfield 163, 168) := by decide +kernel
theorem dX8_tryout_168 : dcd cX8_tryout 168 = some (.iconst 0, 169) := by decide +kernel
theorem dX8_tryout_169 : dcd cX8_tryout 169 = some (.istore 8, 171) := by decide +kernel
theorem dX8_tryout_171 : dcd cX8_tryout 171 = some (.iload 8, 173) := by decide +kernel
theorem dX8_tryout_173 : dcd cX8_tryout 173 = some (.aload_n 0, 174) := by decide +kernel
theorem dX8_tryout_174 : dcd cX8_tryout 174 = some (.getfield 160, 177) := by decide +kernel
theorem dX8_tryout_177 : dcd cX8_tryout 177 = some (.if_icmp .ge 51, 180) := by decide +kernel
theorem dX8_tryout_180 : dcd cX8_tryout 180 = some (.aload_n 0, 181) := by decide +kernel
theorem dX8_tryout_181 : dcd cX8_tryout 181 = some (.getfield 32, 184) := by decide +kernel
theorem dX8_tryout_184 : dcd cX8_tryout 184 = some (.iload 8, 186) := by decide +kernel
theorem dX8_tryout_186 : dcd cX8_tryout 186 = some (.iload 8, 188) := by decide +kernel
theorem dX8_tryout_188 : dcd cX8_tryout 188 = some (.iload 7, 190) := by decide +kernel
theorem dX8_tryout_190 : dcd cX8_tryout 190 = some (.if_icmp .ne 8, 193) := by decide +kernel
theorem dX8_tryout_193 : dcd cX8_tryout 193 = some (.bipush 9, 195) := by decide +kernel
theorem dX8_tryout_195 : dcd cX8_tryout 195 = some (.goto 26, 198) := by decide +kernel
theorem dX8_tryout_198 : dcd cX8_tryout 198 = some (.aload_n 0, 199) := by decide +kernel
theorem dX8_tryout_199 : dcd cX8_tryout 199 = some (.getfield 22, 202) := by decide +kernel
theorem dX8_tryout_202 : dcd cX8_tryout 202 = some (.iconst 3, 203) := by decide +kernel
theorem dX8_tryout_203 : dcd cX8_tryout 203 = some (.iload 8, 205) := by decide +kernel
theorem dX8_tryout_205 : dcd cX8_tryout 205 = some (.iload 7, 207) := by decide +kernel
theorem dX8_tryout_207 : dcd cX8_tryout 207 = some (.if_icmp .ge 8, 210) := by decide +kernel
theorem dX8_tryout_210 : dcd cX8_tryout 210 = some (.iload 8, 212) := by decide +kernel
theorem dX8_tryout_212 : dcd cX8_tryout 212 = some (.goto 7, 215) := by decide +kernel
theorem dX8_tryout_215 : dcd cX8_tryout 215 = some (.iload 8, 217) := by decide +kernel
theorem dX8_tryout_217 : dcd cX8_tryout 217 = some (.iconst 1, 218) := by decide +kernel
theorem dX8_tryout_218 : dcd cX8_tryout 218 = some (.isub, 219) := by decide +kernel
theorem dX8_tryout_219 : dcd cX8_tryout 219 = some (.iadd, 220) := by decide +kernel
theorem dX8_tryout_220 : dcd cX8_tryout 220 = some (.iaload, 221) := by decide +kernel
theorem dX8_tryout_221 : dcd cX8_tryout 221 = some (.iastore, 222) := by decide +kernel
theorem dX8_tryout_222 : dcd cX8_tryout 222 = some (.iinc 8 1, 225) := by decide +kernel
theorem dX8_tryout_225 : dcd cX8_tryout 225 = some (.goto (-54), 228) := by decide +kernel
theorem dX8_tryout_228 : dcd cX8_tryout 228 = some (.aload_n 0, 229) := by decide +kernel
theorem dX8_tryout_229 : dcd cX8_tryout 229 = some (.invokevirtual 187, 232) := by decide +kernel
theorem dX8_tryout_232 : dcd cX8_tryout 232 = some (.ifCond .eq 11, 235) := by decide +kernel
theorem dX8_tryout_235 : dcd cX8_tryout 235 = some (.aload_n 0, 236) := by decide +kernel
theorem dX8_tryout_236 : dcd cX8_tryout 236 = some (.iconst 0, 237) := by decide +kernel
theorem dX8_tryout_237 : dcd cX8_tryout 237 = some (.invokevirtual 205, 240) := by decide +kernel
theorem dX8_tryout_240 : dcd cX8_tryout 240 = some (.goto 5, 243) := by decide +kernel
theorem dX8_tryout_243 : dcd cX8_tryout 243 = some (.bipush (-9), 245) := by decide +kernel
theorem dX8_tryout_245 : dcd cX8_tryout 245 = some (.istore 8, 247) := by decide +kernel
theorem dX8_tryout_247 : dcd cX8_tryout 247 = some (.iload 8, 249) := by decide +kernel
theorem dX8_tryout_249 : dcd cX8_tryout 249 = some (.iload 6, 251) := by decide +kernel
theorem dX8_tryout_251 : dcd cX8_tryout 251 = some (.if_icmp .le 8, 254) := by decide +kernel
theorem dX8_tryout_254 : dcd cX8_tryout 254 = some (.iload 7, 256) := by decide +kernel
theorem dX8_tryout_256 : dcd cX8_tryout 256 = some (.goto 5, 259) := by decide +kernel
theorem dX8_tryout_259 : dcd cX8_tryout 259 = some (.iload 5, 261) := by decide +kernel
theorem dX8_tryout_261 : dcd cX8_tryout 261 = some (.istore 5, 263) := by decide +kernel
theorem dX8_tryout_263 : dcd cX8_tryout 263 = some (.iload 8, 265) := by decide +kernel
theorem dX8_tryout_265 : dcd cX8_tryout 265 = some (.iload 6, 267) := by decide +kernel
theorem dX8_tryout_267 : dcd cX8_tryout 267 = some (.if_icmp .le 8, 270) := by decide +kernel
theorem dX8_tryout_270 : dcd cX8_tryout 270 = some (.iload 8, 272) := by decide +kernel
theorem dX8_tryout_272 : dcd cX8_tryout 272 = some (.goto 5, 275) := by decide +kernel
theorem dX8_tryout_275 : dcd cX8_tryout 275 = some (.iload 6, 277) := by decide +kernel
theorem dX8_tryout_277 : dcd cX8_tryout 277 = some (.istore 6, 279) := by decide +kernel
theorem dX8_tryout_279 : dcd cX8_tryout 279 = some (.iinc 7 1, 282) := by decide +kernel
theorem dX8_tryout_282 : dcd cX8_tryout 282 = some (.goto (-169), 285) := by decide +kernel
theorem dX8_tryout_285 : dcd cX8_tryout 285 = some (.iload 4, 287) := by decide +kernel
theorem dX8_tryout_287 : dcd cX8_tryout 287 = some (.ifCond .ne 8, 290) := by decide +kernel
theorem dX8_tryout_290 : dcd cX8_tryout 290 = some (.iload 5, 292) := by decide +kernel
theorem dX8_tryout_292 : dcd cX8_tryout 292 = some (.goto 5, 295) := by decide +kernel
theorem dX8_tryout_295 : dcd cX8_tryout 295 = some (.iload 6, 297) := by decide +kernel
theorem dX8_tryout_297 : dcd cX8_tryout 297 = some (.ireturn, 298) := by decide +kernel
theorem dX8_mark_0 : dcd cX8_mark 0 = some (.aload_n 0, 1) := by decide +kernel
theorem dX8_mark_1 : dcd cX8_mark 1 = some (.iconst 0, 2) := by decide +kernel
theorem dX8_mark_2 : dcd cX8_mark 2 = some (.putfield 68, 5) := by decide +kernel
theorem dX8_mark_5 : dcd cX8_mark 5 = some (.aload_n 0, 6) := by decide +kernel
theorem dX8_mark_6 : dcd cX8_mark 6 = some (.iload_n 1, 7) := by decide +kernel
theorem dX8_mark_7 : dcd cX8_mark 7 = some (.invokevirtual 148, 10) := by decide +kernel
theorem dX8_mark_10 : dcd cX8_mark 10 = some (.ifCond .eq 23, 13) := by decide +kernel
theorem dX8_mark_13 : dcd cX8_mark 13 = some (.iload_n 2, 14) := by decide +kernel
theorem dX8_mark_14 : dcd cX8_mark 14 = some (.iconst 0, 15) := by decide +kernel
theorem dX8_mark_15 : dcd cX8_mark 15 = some (.bipush 8, 17) := by decide +kernel
theorem dX8_mark_17 : dcd cX8_mark 17 = some (.invokestatic 72, 20) := by decide +kernel
theorem dX8_mark_20 : dcd cX8_mark 20 = some (.ifCond .eq 13, 23) := by decide +kernel
theorem dX8_mark_23 : dcd cX8_mark 23 = some (.iload_n 3, 24) := by decide +kernel
theorem dX8_mark_24 : dcd cX8_mark 24 = some (.iconst 0, 25) := by decide +kernel
theorem dX8_mark_25 : dcd cX8_mark 25 = some (.bipush 99, 27) := by decide +kernel
theorem dX8_mark_27 : dcd cX8_mark 27 = some (.invokestatic 72, 30) := by decide +kernel
theorem dX8_mark_30 : dcd cX8_mark 30 = some (.ifCond .ne 5, 33) := by decide +kernel
theorem dX8_mark_33 : dcd cX8_mark 33 = some (.iconst (-1), 34) := by decide +kernel
theorem dX8_mark_34 : dcd cX8_mark 34 = some (.ireturn, 35) := by decide +kernel
theorem dX8_mark_35 : dcd cX8_mark 35 = some (.aload_n 0, 36) := by decide +kernel
theorem dX8_mark_36 : dcd cX8_mark 36 = some (.getfield 145, 39) := by decide +kernel
theorem dX8_mark_39 : dcd cX8_mark 39 = some (.bipush 60, 41) := by decide +kernel
theorem dX8_mark_41 : dcd cX8_mark 41 = some (.if_icmp .ne 6, 44) := by decide +kernel
theorem dX8_mark_44 : dcd cX8_mark 44 = some (.bipush (-3), 46) := by decide +kernel
theorem dX8_mark_46 : dcd cX8_mark 46 = some (.ireturn, 47) := by decide +kernel
theorem dX8_mark_47 : dcd cX8_mark 47 = some (.aload_n 0, 48) := by decide +kernel
theorem dX8_mark_48 : dcd cX8_mark 48 = some (.getfield 53, 51) := by decide +kernel
theorem dX8_mark_51 : dcd cX8_mark 51 = some (.aload_n 0, 52) := by decide +kernel
theorem dX8_mark_52 : dcd cX8_mark 52 = some (.getfield 145, 55) := by decide +kernel
theorem dX8_mark_55 : dcd cX8_mark 55 = some (.iload_n 1, 56) := by decide +kernel
theorem dX8_mark_56 : dcd cX8_mark 56 = some (.iastore, 57) := by decide +kernel
theorem dX8_mark_57 : dcd cX8_mark 57 = some (.aload_n 0, 58) := by decide +kernel
theorem dX8_mark_58 : dcd cX8_mark 58 = some (.getfield 56, 61) := by decide +kernel
theorem dX8_mark_61 : dcd cX8_mark 61 = some (.aload_n 0, 62) := by decide +kernel
theorem dX8_mark_62 : dcd cX8_mark 62 = some (.getfield 145, 65) := by decide +kernel
theorem dX8_mark_65 : dcd cX8_mark 65 = some (.iload_n 2, 66) := by decide +kernel
theorem dX8_mark_66 : dcd cX8_mark 66 = some (.iastore, 67) := by decide +kernel
theorem dX8_mark_67 : dcd cX8_mark 67 = some (.aload_n 0, 68) := by decide +kernel
theorem dX8_mark_68 : dcd cX8_mark 68 = some (.getfield 59, 71) := by decide +kernel
theorem dX8_mark_71 : dcd cX8_mark 71 = some (.aload_n 0, 72) := by decide +kernel
theorem dX8_mark_72 : dcd cX8_mark 72 = some (.getfield 145, 75) := by decide +kernel
theorem dX8_mark_75 : dcd cX8_mark 75 = some (.iload_n 3, 76) := by decide +kernel
theorem dX8_mark_76 : dcd cX8_mark 76 = some (.iastore, 77) := by decide +kernel
theorem dX8_mark_77 : dcd cX8_mark 77 = some (.aload_n 0, 78) := by decide +kernel
theorem dX8_mark_78 : dcd cX8_mark 78 = some (.dup, 79) := by decide +kernel
theorem dX8_mark_79 : dcd cX8_mark 79 = some (.getfield 145, 82) := by decide +kernel
theorem dX8_mark_82 : dcd cX8_mark 82 = some (.iconst 1, 83) := by decide +kernel
theorem dX8_mark_83 : dcd cX8_mark 83 = some (.iadd, 84) := by decide +kernel
theorem dX8_mark_84 : dcd cX8_mark 84 = some (.putfield 145, 87) := by decide +kernel
theorem dX8_mark_87 : dcd cX8_mark 87 = some (.aload_n 0, 88) := by decide +kernel
theorem dX8_mark_88 : dcd cX8_mark 88 = some (.getfield 145, 91) := by decide +kernel
theorem dX8_mark_91 : dcd cX8_mark 91 = some (.ireturn, 92) := by decide +kernel
theorem dX8_gcd_0 : dcd cX8_gcd 0 = some (.lload_n 0, 1) := by decide +kernel
theorem dX8_gcd_1 : dcd cX8_gcd 1 = some (.lconst 0, 2) := by decide +kernel
theorem dX8_gcd_2 : dcd cX8_gcd 2 = some (.lcmp, 3) := by decide +kernel
theorem dX8_gcd_3 : dcd cX8_gcd 3 = some (.ifCond .ge 8, 6) := by decide +kernel
theorem dX8_gcd_6 : dcd cX8_gcd 6 = some (.lload_n 0, 7) := by decide +kernel
theorem dX8_gcd_7 : dcd cX8_gcd 7 = some (.lneg, 8) := by decide +kernel
theorem dX8_gcd_8 : dcd cX8_gcd 8 = some (.goto 4, 11) := by decide +kernel
theorem dX8_gcd_11 : dcd cX8_gcd 11 = some (.lload_n 0, 12) := by decide +kernel
theorem dX8_gcd_12 : dcd cX8_gcd 12 = some (.lstore 4, 14) := by decide +kernel
theorem dX8_gcd_14 : dcd cX8_gcd 14 = some (.lload_n 2, 15) := by decide +kernel
theorem dX8_gcd_15 : dcd cX8_gcd 15 = some (.lstore 6, 17) := by decide +kernel
theorem dX8_gcd_17 : dcd cX8_gcd 17 = some (.lload 6, 19) := by decide +kernel
theorem dX8_gcd_19 : dcd cX8_gcd 19 = some (.lconst 0, 20) := by decide +kernel
theorem dX8_gcd_20 : dcd cX8_gcd 20 = some (.lcmp, 21) := by decide +kernel
theorem dX8_gcd_21 : dcd cX8_gcd 21 = some (.ifCond .eq 21, 24) := by decide +kernel
theorem dX8_gcd_24 : dcd cX8_gcd 24 = some (.lload 4, 26) := by decide +kernel
theorem dX8_gcd_26 : dcd cX8_gcd 26 = some (.lload 6, 28) := by decide +kernel
theorem dX8_gcd_28 : dcd cX8_gcd 28 = some (.lrem, 29) := by decide +kernel
theorem dX8_gcd_29 : dcd cX8_gcd 29 = some (.lstore 8, 31) := by decide +kernel
theorem dX8_gcd_31 : dcd cX8_gcd 31 = some (.lload 6, 33) := by decide +kernel
theorem dX8_gcd_33 : dcd cX8_gcd 33 = some (.lstore 4, 35) := by decide +kernel
theorem dX8_gcd_35 : dcd cX8_gcd 35 = some (.lload 8, 37) := by decide +kernel
theorem dX8_gcd_37 : dcd cX8_gcd 37 = some (.lstore 6, 39) := by decide +kernel
theorem dX8_gcd_39 : dcd cX8_gcd 39 = some (.goto (-22), 42) := by decide +kernel
theorem dX8_gcd_42 : dcd cX8_gcd 42 = some (.lload 4, 44) := by decide +kernel
theorem dX8_gcd_44 : dcd cX8_gcd 44 = some (.lreturn, 45) := by decide +kernel
theorem dX8_parted_0 : dcd cX8_parted 0 = some (.aload_n 0, 1) := by decide +kernel
theorem dX8_parted_1 : dcd cX8_parted 1 = some (.iconst 0, 2) := by decide +kernel
theorem dX8_parted_2 : dcd cX8_parted 2 = some (.putfield 68, 5) := by decide +kernel
theorem dX8_parted_5 : dcd cX8_parted 5 = some (.aload_n 0, 6) := by decide +kernel
theorem dX8_parted_6 : dcd cX8_parted 6 = some (.iload_n 1, 7) := by decide +kernel
theorem dX8_parted_7 : dcd cX8_parted 7 = some (.invokevirtual 148, 10) := by decide +kernel
theorem dX8_parted_10 : dcd cX8_parted 10 = some (.ifCond .eq 12, 13) := by decide +kernel
theorem dX8_parted_13 : dcd cX8_parted 13 = some (.iload_n 2, 14) := by decide +kernel
theorem dX8_parted_14 : dcd cX8_parted 14 = some (.iconst 0, 15) := by decide +kernel
theorem dX8_parted_15 : dcd cX8_parted 15 = some (.iconst 1, 16) := by decide +kernel
theorem dX8_parted_16 : dcd cX8_parted 16 = some (.invokestatic 72, 19) := by decide +kernel
theorem dX8_parted_19 : dcd cX8_parted 19 = some (.ifCond .ne 6, 22) := by decide +kernel
theorem dX8_parted_22 : dcd cX8_parted 22 = some (.ldc 246, 24) := by decide +kernel
theorem dX8_parted_24 : dcd cX8_parted 24 = some (.ireturn, 25) := by decide +kernel
theorem dX8_parted_25 : dcd cX8_parted 25 = some (.lconst 0, 26) := by decide +kernel
theorem dX8_parted_26 : dcd cX8_parted 26 = some (.lstore_n 3, 27) := by decide +kernel
theorem dX8_parted_27 : dcd cX8_parted 27 = some (.lconst 1, 28) := by decide +kernel
theorem dX8_parted_28 : dcd cX8_parted 28 = some (.lstore 5, 30) := by decide +kernel
theorem dX8_parted_30 : dcd cX8_parted 30 = some (.iconst 0, 31) := by decide +kernel
theorem dX8_parted_31 : dcd cX8_parted 31 = some (.istore 7, 33) := by decide +kernel
theorem dX8_parted_33 : dcd cX8_parted 33 = some (.iconst 0, 34) := by decide +kernel
theorem dX8_parted_34 : dcd cX8_parted 34 = some (.istore 8, 36) := by decide +kernel
theorem dX8_parted_36 : dcd cX8_parted 36 = some (.iload 8, 38) := by decide +kernel
theorem dX8_parted_38 : dcd cX8_parted 38 = some (.bipush 9, 40) := by decide +kernel
theorem dX8_parted_40 : dcd cX8_parted 40 = some (.if_icmp .ge 159, 43) := by decide +kernel
theorem dX8_parted_43 : dcd cX8_parted 43 = some (.lconst 0, 44) := by decide +kernel
theorem dX8_parted_44 : dcd cX8_parted 44 = some (.lstore 9, 46) := by decide +kernel
theorem dX8_parted_46 : dcd cX8_parted 46 = some (.lconst 0, 47) := by decide +kernel
theorem dX8_parted_47 : dcd cX8_parted 47 = some (.lstore 11, 49) := by decide +kernel
theorem dX8_parted_49 : dcd cX8_parted 49 = some (.iconst 0, 50) := by decide +kernel
theorem dX8_parted_50 : dcd cX8_parted 50 = some (.istore 13, 52) := by decide +kernel
theorem dX8_parted_52 : dcd cX8_parted 52 = some (.iconst 0, 53) := by decide +kernel
theorem dX8_parted_53 : dcd cX8_parted 53 = some (.istore 14, 55) := by decide +kernel
theorem dX8_parted_55 : dcd cX8_parted 55 = some (.iconst 0, 56) := by decide +kernel
theorem dX8_parted_56 : dcd cX8_parted 56 = some (.istore 15, 58) := by decide +kernel
theorem dX8_parted_58 : dcd cX8_parted 58 = some (.iload 15, 60) := by decide +kernel
theorem dX8_parted_60 : dcd cX8_parted 60 = some (.aload_n 0, 61) := by decide +kernel
theorem dX8_parted_61 : dcd cX8_parted 61 = some (.getfield 145, 64) := by decide +kernel
theorem dX8_parted_64 : dcd cX8_parted 64 = some (.if_icmp .ge 86, 67) := by decide +kernel
theorem dX8_parted_67 : dcd cX8_parted 67 = some (.aload_n 0, 68) := by decide +kernel
theorem dX8_parted_68 : dcd cX8_parted 68 = some (.getfield 56, 71) := by decide +kernel
theorem dX8_parted_71 : dcd cX8_parted 71 = some (.iload 15, 73) := by decide +kernel
theorem dX8_parted_73 : dcd cX8_parted 73 = some (.iaload, 74) := by decide +kernel
theorem dX8_parted_74 : dcd cX8_parted 74 = some (.iload 8, 76) := by decide +kernel
theorem dX8_parted_76 : dcd cX8_parted 76 = some (.if_icmp .ne 68, 79) := by decide +kernel
theorem dX8_parted_79 : dcd cX8_parted 79 = some (.iinc 13 1, 82) := by decide +kernel
theorem dX8_parted_82 : dcd cX8_parted 82 = some (.lload 11, 84) := by decide +kernel
theorem dX8_parted_84 : dcd cX8_parted 84 = some (.aload_n 0, 85) := by decide +kernel
theorem dX8_parted_85 : dcd cX8_parted 85 = some (.getfield 59, 88) := by decide +kernel
theorem dX8_parted_88 : dcd cX8_parted 88 = some (.iload 15, 90) := by decide +kernel
theorem dX8_parted_90 : dcd cX8_parted 90 = some (.iaload, 91) := by decide +kernel
theorem dX8_parted_91 : dcd cX8_parted 91 = some (.i2l, 92) := by decide +kernel
theorem dX8_parted_92 : dcd cX8_parted 92 = some (.ladd, 93) := by decide +kernel
theorem dX8_parted_93 : dcd cX8_parted 93 = some (.lstore 11, 95) := by decide +kernel
theorem dX8_parted_95 : dcd cX8_parted 95 = some (.lload 9, 97) := by decide +kernel
theorem dX8_parted_97 : dcd cX8_parted 97 = some (.aload_n 0, 98) := by decide +kernel
theorem dX8_parted_98 : dcd cX8_parted 98 = some (.getfield 53, 101) := by decide +kernel
theorem dX8_parted_101 : dcd cX8_parted 101 = some (.iload 15, 103) := by decide +kernel
theorem dX8_parted_103 : dcd cX8_parted 103 = some (.iaload, 104) := by decide +kernel
theorem dX8_parted_104 : dcd cX8_parted 104 = some (.iload_n 1, 105) := by decide +kernel
theorem dX8_parted_105 : dcd cX8_parted 105 = some (.if_icmp .ne 14, 108) := by decide +kernel
theorem dX8_parted_108 : dcd cX8_parted 108 = some (.aload_n 0, 109) := by decide +kernel
theorem dX8_parted_109 : dcd cX8_parted 109 = some (.getfield 59, 112) := by decide +kernel
theorem dX8_parted_112 : dcd cX8_parted 112 = some (.iload 15, 114) := by decide +kernel
theorem dX8_parted_114 : dcd cX8_parted 114 = some (.iaload, 115) := by decide +kernel
theorem dX8_parted_115 : dcd cX8_parted 115 = some (.i2l, 116) := by decide +kernel
theorem dX8_parted_116 : dcd cX8_parted 116 = some (.goto 4, 119) := by decide +kernel
theorem dX8_parted_119 : dcd cX8_parted 119 = some (.lconst 0, 120) := by decide +kernel
theorem dX8_parted_120 : dcd cX8_parted 120 = some (.ladd, 121) := by decide +kernel
theorem dX8_parted_121 : dcd cX8_parted 121 = some (.lstore 9, 123) := by decide +kernel
theorem dX8_parted_123 : dcd cX8_parted 123 = some (.iload 14, 125) := by decide +kernel
theorem dX8_parted_125 : dcd cX8_parted 125 = some (.aload_n 0, 126) := by decide +kernel
theorem dX8_parted_126 : dcd cX8_parted 126 = some (.getfield 53, 129) := by decide +kernel
theorem dX8_parted_129 : dcd cX8_parted 129 = some (.iload 15, 131) := by decide +kernel
theorem dX8_parted_131 : dcd cX8_parted 131 = some (.iaload, 132) := by decide +kernel
theorem dX8_parted_132 : dcd cX8_parted 132 = some (.iload_n 1, 133) := by decide +kernel
theorem dX8_parted_133 : dcd cX8_parted 133 = some (.if_icmp .ne 7, 136) := by decide +kernel
theorem dX8_parted_136 : dcd cX8_parted 136 = some (.iconst 1, 137) := by decide +kernel
theorem dX8_parted_137 : dcd cX8_parted 137 = some (.goto 4, 140) := by decide +kernel
theorem dX8_parted_140 : dcd cX8_parted 140 = some (.iconst 0, 141) := by decide +kernel
theorem dX8_parted_141 : dcd cX8_parted 141 = some (.iadd, 142) := by decide +kernel
theorem dX8_parted_142 : dcd cX8_parted 142 = some (.istore 14, 144) := by decide +kernel
theorem dX8_parted_144 : dcd cX8_parted 144 = some (.iinc 15 1, 147) := by decide +kernel
theorem dX8_parted_147 : dcd cX8_parted 147 = some (.goto (-89), 150) := by decide +kernel
theorem dX8_parted_150 : dcd cX8_parted 150 = some (.iload 14, 152) := by decide +kernel
theorem dX8_parted_152 : dcd cX8_parted 152 = some (.ifCond .le 41, 155) := by decide +kernel
theorem dX8_parted_155 : dcd cX8_parted 155 = some (.lload_n 3, 156) := by decide +kernel
theorem dX8_parted_156 : dcd cX8_parted 156 = some (.iload 13, 158) := by decide +kernel
theorem dX8_parted_158 : dcd cX8_parted 158 = some (.i2l, 159) := by decide +kernel
theorem dX8_parted_159 : dcd cX8_parted 159 = some (.lmul, 160) := by decide +kernel
theorem dX8_parted_160 : dcd cX8_parted 160 = some (.lload 9, 162) := by decide +kernel
theorem dX8_parted_162 : dcd cX8_parted 162 = some (.iload 13, 164) := by decide +kernel
theorem dX8_parted_164 : dcd cX8_parted 164 = some (.i2l, 165) := by decide +kernel
theorem dX8_parted_165 : dcd cX8_parted 165 = some (.lmul, 166) := by decide +kernel
theorem dX8_parted_166 : dcd cX8_parted 166 = some (.iload 14, 168) := by decide +kernel
theorem dX8_parted_168 : dcd cX8_parted 168 = some (.i2l, 169) := by decide +kernel
theorem dX8_parted_169 : dcd cX8_parted 169 = some (.lload 11, 171) := by decide +kernel
theorem dX8_parted_171 : dcd cX8_parted 171 = some (.lmul, 172) := by decide +kernel
theorem dX8_parted_172 : dcd cX8_parted 172 = some (.lsub, 173) := by decide +kernel
theorem dX8_parted_173 : dcd cX8_parted 173 = some (.lload 5, 175) := by decide +kernel
theorem dX8_parted_175 : dcd cX8_parted 175 = some (.lmul, 176) := by decide +kernel
theorem dX8_parted_176 : dcd cX8_parted 176 = some (.ladd, 177) := by decide +kernel
theorem dX8_parted_177 : dcd cX8_parted 177 = some (.lstore_n 3, 178) := by decide +kernel
theorem dX8_parted_178 : dcd cX8_parted 178 = some (.lload 5, 180) := by decide +kernel
theorem dX8_parted_180 : dcd cX8_parted 180 = some (.iload 13, 182) := by decide +kernel
theorem dX8_parted_182 : dcd cX8_parted 182 = some (.i2l, 183) := by decide +kernel
theorem dX8_parted_183 : dcd cX8_parted 183 = some (.lmul, 184) := by decide +kernel
theorem dX8_parted_184 : dcd cX8_parted 184 = some (.lstore 5, 186) := by decide +kernel
theorem dX8_parted_186 : dcd cX8_parted 186 = some (.iload 7, 188) := by decide +kernel
theorem dX8_parted_188 : dcd cX8_parted 188 = some (.iload 14, 190) := by decide +kernel
theorem dX8_parted_190 : dcd cX8_parted 190 = some (.iadd, 191) := by decide +kernel
theorem dX8_parted_191 : dcd cX8_parted 191 = some (.istore 7, 193) := by decide +kernel
theorem dX8_parted_193 : dcd cX8_parted 193 = some (.iinc 8 1, 196) := by decide +kernel
theorem dX8_parted_196 : dcd cX8_parted 196 = some (.goto (-160), 199) := by decide +kernel
theorem dX8_parted_199 : dcd cX8_parted 199 = some (.iload 7, 201) := by decide +kernel
theorem dX8_parted_201 : dcd cX8_parted 201 = some (.ifCond .ne 6, 204) := by decide +kernel
theorem dX8_parted_204 : dcd cX8_parted 204 = some (.ldc 246, 206) := by decide +kernel
theorem dX8_parted_206 : dcd cX8_parted 206 = some (.ireturn, 207) := by decide +kernel
theorem dX8_parted_207 : dcd cX8_parted 207 = some (.lload 5, 209) := by decide +kernel
theorem dX8_parted_209 : dcd cX8_parted 209 = some (.iload 7, 211) := by decide +kernel
theorem dX8_parted_211 : dcd cX8_parted 211 = some (.i2l, 212) := by decide +kernel
theorem dX8_parted_212 : dcd cX8_parted 212 = some (.lmul, 213) := by decide +kernel
theorem dX8_parted_213 : dcd cX8_parted 213 = some (.lstore 5, 215) := by decide +kernel
theorem dX8_parted_215 : dcd cX8_parted 215 = some (.lload_n 3, 216) := by decide +kernel
theorem dX8_parted_216 : dcd cX8_parted 216 = some (.lload 5, 218) := by decide +kernel
theorem dX8_parted_218 : dcd cX8_parted 218 = some (.invokestatic 247, 221) := by decide +kernel
theorem dX8_parted_221 : dcd cX8_parted 221 = some (.lstore 8, 223) := by decide +kernel
theorem dX8_parted_223 : dcd cX8_parted 223 = some (.iload_n 2, 224) := by decide +kernel
theorem dX8_parted_224 : dcd cX8_parted 224 = some (.ifCond .ne 10, 227) := by decide +kernel
theorem dX8_parted_227 : dcd cX8_parted 227 = some (.lload_n 3, 228) := by decide +kernel
theorem dX8_parted_228 : dcd cX8_parted 228 = some (.lload 8, 230) := by decide +kernel
theorem dX8_parted_230 : dcd cX8_parted 230 = some (.ldiv, 231) := by decide +kernel
theorem dX8_parted_231 : dcd cX8_parted 231 = some (.goto 8, 234) := by decide +kernel
theorem dX8_parted_234 : dcd cX8_parted 234 = some (.lload 5, 236) := by decide +kernel
theorem dX8_parted_236 : dcd cX8_parted 236 = some (.lload 8, 238) := by decide +kernel
theorem dX8_parted_238 : dcd cX8_parted 238 = some (.ldiv, 239) := by decide +kernel
theorem dX8_parted_239 : dcd cX8_parted 239 = some (.l2i, 240) := by decide +kernel
theorem dX8_parted_240 : dcd cX8_parted 240 = some (.ireturn, 241) := by decide +kernel
theorem dX8_opener_0 : dcd cX8_opener 0 = some (.aload_n 0, 1) := by decide +kernel
theorem dX8_opener_1 : dcd cX8_opener 1 = some (.iconst 0, 2) := by decide +kernel
theorem dX8_opener_2 : dcd cX8_opener 2 = some (.putfield 68, 5) := by decide +kernel
theorem dX8_opener_5 : dcd cX8_opener 5 = some (.bipush (-9), 7) := by decide +kernel
theorem dX8_opener_7 : dcd cX8_opener 7 = some (.istore_n 1, 8) := by decide +kernel
theorem dX8_opener_8 : dcd cX8_opener 8 = some (.iconst 0, 9) := by decide +kernel
theorem dX8_opener_9 : dcd cX8_opener 9 = some (.istore_n 2, 10) := by decide +kernel
theorem dX8_opener_10 : dcd cX8_opener 10 = some (.iconst 0, 11) := by decide +kernel
theorem dX8_opener_11 : dcd cX8_opener 11 = some (.istore_n 3, 12) := by decide +kernel
theorem dX8_opener_12 : dcd cX8_opener 12 = some (.iload_n 3, 13) := by decide +kernel
theorem dX8_opener_13 : dcd cX8_opener 13 = some (.aload_n 0, 14) := by decide +kernel
theorem dX8_opener_14 : dcd cX8_opener 14 = some (.getfield 142, 17) := by decide +kernel
theorem dX8_opener_17 : dcd cX8_opener 17 = some (.if_icmp .ge 99, 20) := by decide +kernel
theorem dX8_opener_20 : dcd cX8_opener 20 = some (.iconst 0, 21) := by decide +kernel
theorem dX8_opener_21 : dcd cX8_opener 21 = some (.istore 4, 23) := by decide +kernel
theorem dX8_opener_23 : dcd cX8_opener 23 = some (.iconst 0, 24) := by decide +kernel
theorem dX8_opener_24 : dcd cX8_opener 24 = some (.istore 5, 26) := by decide +kernel
theorem dX8_opener_26 : dcd cX8_opener 26 = some (.iload 5, 28) := by decide +kernel
theorem dX8_opener_28 : dcd cX8_opener 28 = some (.aload_n 0, 29) := by decide +kernel
theorem dX8_opener_29 : dcd cX8_opener 29 = some (.getfield 145, 32) := by decide +kernel
theorem dX8_opener_32 : dcd cX8_opener 32 = some (.if_icmp .ge 40, 35) := by decide +kernel
theorem dX8_opener_35 : dcd cX8_opener 35 = some (.iload 4, 37) := by decide +kernel
theorem dX8_opener_37 : dcd cX8_opener 37 = some (.aload_n 0, 38) := by decide +kernel
theorem dX8_opener_38 : dcd cX8_opener 38 = some (.getfield 53, 41) := by decide +kernel
theorem dX8_opener_41 : dcd cX8_opener 41 = some (.iload 5, 43) := by decide +kernel
theorem dX8_opener_43 : dcd cX8_opener 43 = some (.iaload, 44) := by decide +kernel
theorem dX8_opener_44 : dcd cX8_opener 44 = some (.iload_n 3, 45) := by decide +kernel
theorem dX8_opener_45 : dcd cX8_opener 45 = some (.if_icmp .ne 17, 48) := by decide +kernel
theorem dX8_opener_48 : dcd cX8_opener 48 = some (.aload_n 0, 49) := by decide +kernel
theorem dX8_opener_49 : dcd cX8_opener 49 = some (.getfield 56, 52) := by decide +kernel
theorem dX8_opener_52 : dcd cX8_opener 52 = some (.iload 5, 54) := by decide +kernel
theorem dX8_opener_54 : dcd cX8_opener 54 = some (.iaload, 55) := by decide +kernel
theorem dX8_opener_55 : dcd cX8_opener 55 = some (.ifCond .ne 7, 58) := by decide +kernel
theorem dX8_opener_58 : dcd cX8_opener 58 = some (.iconst 1, 59) := by decide +kernel
theorem dX8_opener_59 : dcd cX8_opener 59 = some (.goto 4, 62) := by decide +kernel
theorem dX8_opener_62 : dcd cX8_opener 62 = some (.iconst 0, 63) := by decide +kernel
theorem dX8_opener_63 : dcd cX8_opener 63 = some (.iadd, 64) := by decide +kernel
theorem dX8_opener_64 : dcd cX8_opener 64 = some (.istore 4, 66) := by decide +kernel
theorem dX8_opener_66 : dcd cX8_opener 66 = some (.iinc 5 1, 69) := by decide +kernel
theorem dX8_opener_69 : dcd cX8_opener 69 = some (.goto (-43), 72) := by decide +kernel
theorem dX8_opener_72 : dcd cX8_opener 72 = some (.iload_n 1, 73) := by decide +kernel
theorem dX8_opener_73 : dcd cX8_opener 73 = some (.bipush (-9), 75) := by decide +kernel
theorem dX8_opener_75 : dcd cX8_opener 75 = some (.if_icmp .eq 30, 78) := by decide +kernel
theorem dX8_opener_78 : dcd cX8_opener 78 = some (.iload 4, 80) := by decide +kernel
theorem dX8_opener_80 : dcd cX8_opener 80 = some (.iload_n 2, 81) := by decide +kernel
theorem dX8_opener_81 : dcd cX8_opener 81 = some (.if_icmp .lt 24, 84) := by decide +kernel
theorem dX8_opener_84 : dcd cX8_opener 84 = some (.iload 4, 86) := by decide +kernel
theorem dX8_opener_86 : dcd cX8_opener 86 = some (.iload_n 2, 87) := by decide +kernel
theorem dX8_opener_87 : dcd cX8_opener 87 = some (.if_icmp .ne 23, 90) := by decide +kernel
theorem dX8_opener_90 : dcd cX8_opener 90 = some (.aload_n 0, 91) := by decide +kernel
theorem dX8_opener_91 : dcd cX8_opener 91 = some (.iload_n 3, 92) := by decide +kernel
theorem dX8_opener_92 : dcd cX8_opener 92 = some (.iconst 2, 93) := by decide +kernel
theorem dX8_opener_93 : dcd cX8_opener 93 = some (.invokevirtual 151, 96) := by decide +kernel
theorem dX8_opener_96 : dcd cX8_opener 96 = some (.aload_n 0, 97) := by decide +kernel
theorem dX8_opener_97 : dcd cX8_opener 97 = some (.iload_n 1, 98) := by decide +kernel
theorem dX8_opener_98 : dcd cX8_opener 98 = some (.iconst 2, 99) := by decide +kernel
theorem dX8_opener_99 : dcd cX8_opener 99 = some (.invokevirtual 151, 102) := by decide +kernel
theorem dX8_opener_102 : dcd cX8_opener 102 = some (.if_icmp .ge 8, 105) := by decide +kernel
theorem dX8_opener_105 : dcd cX8_opener 105 = some (.iload_n 3, 106) := by decide +kernel
theorem dX8_opener_106 : dcd cX8_opener 106 = some (.istore_n 1, 107) := by decide +kernel
theorem dX8_opener_107 : dcd cX8_opener 107 = some (.iload 4, 109) := by decide +kernel
theorem dX8_opener_109 : dcd cX8_opener 109 = some (.istore_n 2, 110) := by decide +kernel
theorem dX8_opener_110 : dcd cX8_opener 110 = some (.iinc 3 1, 113) := by decide +kernel
theorem dX8_opener_113 : dcd cX8_opener 113 = some (.goto (-101), 116) := by decide +kernel
theorem dX8_opener_116 : dcd cX8_opener 116 = some (.iload_n 1, 117) := by decide +kernel
theorem dX8_opener_117 : dcd cX8_opener 117 = some (.ireturn, 118) := by decide +kernel
theorem dX8_hold_0 : dcd cX8_hold 0 = some (.aload_n 0, 1) := by decide +kernel
theorem dX8_hold_1 : dcd cX8_hold 1 = some (.iconst 0, 2) := by decide +kernel
theorem dX8_hold_2 : dcd cX8_hold 2 = some (.putfield 68, 5) := by decide +kernel
theorem dX8_hold_5 : dcd cX8_hold 5 = some (.iload_n 1, 6) := by decide +kernel
theorem dX8_hold_6 : dcd cX8_hold 6 = some (.iconst 0, 7) := by decide +kernel
theorem dX8_hold_7 : dcd cX8_hold 7 = some (.iconst 1, 8) := by decide +kernel
theorem dX8_hold_8 : dcd cX8_hold 8 = some (.invokestatic 72, 11) := by decide +kernel
theorem dX8_hold_11 : dcd cX8_hold 11 = some (.ifCond .ne 5, 14) := by decide +kernel
theorem dX8_hold_14 : dcd cX8_hold 14 = some (.iconst (-1), 15) := by decide +kernel
theorem dX8_hold_15 : dcd cX8_hold 15 = some (.ireturn, 16) := by decide +kernel
theorem dX8_hold_16 : dcd cX8_hold 16 = some (.aload_n 0, 17) := by decide +kernel
theorem dX8_hold_17 : dcd cX8_hold 17 = some (.getfield 22, 20) := by decide +kernel
theorem dX8_hold_20 : dcd cX8_hold 20 = some (.iconst 0, 21) := by decide +kernel
theorem dX8_hold_21 : dcd cX8_hold 21 = some (.iaload, 22) := by decide +kernel
theorem dX8_hold_22 : dcd cX8_hold 22 = some (.ifCond .ne 6, 25) := by decide +kernel
theorem dX8_hold_25 : dcd cX8_hold 25 = some (.bipush (-2), 27) := by decide +kernel
theorem dX8_hold_27 : dcd cX8_hold 27 = some (.ireturn, 28) := by decide +kernel
theorem dX8_hold_28 : dcd cX8_hold 28 = some (.aload_n 0, 29) := by decide +kernel
theorem dX8_hold_29 : dcd cX8_hold 29 = some (.invokevirtual 175, 32) := by decide +kernel
theorem dX8_hold_32 : dcd cX8_hold 32 = some (.aload_n 0, 33) := by decide +kernel
theorem dX8_hold_33 : dcd cX8_hold 33 = some (.invokevirtual 212, 36) := by decide +kernel
theorem dX8_hold_36 : dcd cX8_hold 36 = some (.iconst 1, 37) := by decide +kernel
theorem dX8_hold_37 : dcd cX8_hold 37 = some (.aload_n 0, 38) := by decide +kernel
theorem dX8_hold_38 : dcd cX8_hold 38 = some (.getfield 160, 41) := by decide +kernel
theorem dX8_hold_41 : dcd cX8_hold 41 = some (.ishl, 42) := by decide +kernel
theorem dX8_hold_42 : dcd cX8_hold 42 = some (.iconst 1, 43) := by decide +kernel
theorem dX8_hold_43 : dcd cX8_hold 43 = some (.isub, 44) := by decide +kernel
theorem dX8_hold_44 : dcd cX8_hold 44 = some (.istore_n 2, 45) := by decide +kernel
theorem dX8_hold_45 : dcd cX8_hold 45 = some (.iload_n 2, 46) := by decide +kernel
theorem dX8_hold_46 : dcd cX8_hold 46 = some (.istore_n 3, 47) := by decide +kernel
theorem dX8_hold_47 : dcd cX8_hold 47 = some (.iload_n 3, 48) := by decide +kernel
theorem dX8_hold_48 : dcd cX8_hold 48 = some (.ifCond .lt 174, 51) := by decide +kernel
theorem dX8_hold_51 : dcd cX8_hold 51 = some (.iconst 0, 52) := by decide +kernel
theorem dX8_hold_52 : dcd cX8_hold 52 = some (.istore 4, 54) := by decide +kernel
theorem dX8_hold_54 : dcd cX8_hold 54 = some (.iconst 0, 55) := by decide +kernel
theorem dX8_hold_55 : dcd cX8_hold 55 = some (.istore 5, 57) := by decide +kernel
theorem dX8_hold_57 : dcd cX8_hold 57 = some (.iload 5, 59) := by decide +kernel
theorem dX8_hold_59 : dcd cX8_hold 59 = some (.aload_n 0, 60) := by decide +kernel
theorem dX8_hold_60 : dcd cX8_hold 60 = some (.getfield 160, 63) := by decide +kernel
theorem dX8_hold_63 : dcd cX8_hold 63 = some (.if_icmp .ge 40, 66) := by decide +kernel
theorem dX8_hold_66 : dcd cX8_hold 66 = some (.iload 4, 68) := by decide +kernel
theorem dX8_hold_68 : dcd cX8_hold 68 = some (.iload_n 3, 69) := by decide +kernel
theorem dX8_hold_69 : dcd cX8_hold 69 = some (.iload 5, 71) := by decide +kernel
theorem dX8_hold_71 : dcd cX8_hold 71 = some (.ishr, 72) := by decide +kernel
theorem dX8_hold_72 : dcd cX8_hold 72 = some (.iconst 1, 73) := by decide +kernel
theorem dX8_hold_73 : dcd cX8_hold 73 = some (.iand, 74) := by decide +kernel
theorem dX8_hold_74 : dcd cX8_hold 74 = some (.iconst 1, 75) := by decide +kernel
theorem dX8_hold_75 : dcd cX8_hold 75 = some (.if_icmp .ne 18, 78) := by decide +kernel
theorem dX8_hold_78 : dcd cX8_hold 78 = some (.aload_n 0, 79) := by decide +kernel
theorem dX8_hold_79 : dcd cX8_hold 79 = some (.aload_n 0, 80) := by decide +kernel
theorem dX8_hold_80 : dcd cX8_hold 80 = some (.getfield 32, 83) := by decide +kernel
theorem dX8_hold_83 : dcd cX8_hold 83 = some (.iload 5, 85) := by decide +kernel
theorem dX8_hold_85 : dcd cX8_hold 85 = some (.iaload, 86) := by decide +kernel
theorem dX8_hold_86 : dcd cX8_hold 86 = some (.iconst 1, 87) := by decide +kernel
theorem dX8_hold_87 : dcd cX8_hold 87 = some (.invokevirtual 151, 90) := by decide +kernel
theorem dX8_hold_90 : dcd cX8_hold 90 = some (.goto 4, 93) := by decide +kernel
theorem dX8_hold_93 : dcd cX8_hold 93 = some (.iconst 0, 94) := by decide +kernel
theorem dX8_hold_94 : dcd cX8_hold 94 = some (.iadd, 95) := by decide +kernel
theorem dX8_hold_95 : dcd cX8_hold 95 = some (.istore 4, 97) := by decide +kernel
theorem dX8_hold_97 : dcd cX8_hold 97 = some (.iinc 5 1, 100) := by decide +kernel
theorem dX8_hold_100 : dcd cX8_hold 100 = some (.goto (-43), 103) := by decide +kernel
theorem dX8_hold_103 : dcd cX8_hold 103 = some (.aload_n 0, 104) := by decide +kernel
theorem dX8_hold_104 : dcd cX8_hold 104 = some (.getfield 65, 107) := by decide +kernel
theorem dX8_hold_107 : dcd cX8_hold 107 = some (.iload_n 3, 108) := by decide +kernel
theorem dX8_hold_108 : dcd cX8_hold 108 = some (.iload_n 3, 109) := by decide +kernel
theorem dX8_hold_109 : dcd cX8_hold 109 = some (.iload_n 2, 110) := by decide +kernel
theorem dX8_hold_110 : dcd cX8_hold 110 = some (.if_icmp .ne 7, 113) := by decide +kernel
theorem dX8_hold_113 : dcd cX8_hold 113 = some (.iconst 0, 114) := by decide +kernel
theorem dX8_hold_114 : dcd cX8_hold 114 = some (.goto 4, 117) := by decide +kernel
theorem dX8_hold_117 : dcd cX8_hold 117 = some (.iconst (-1), 118) := by decide +kernel
theorem dX8_hold_118 : dcd cX8_hold 118 = some (.iastore, 119) := by decide +kernel
theorem dX8_hold_119 : dcd cX8_hold 119 = some (.iconst 0, 120) := by decide +kernel
theorem dX8_hold_120 : dcd cX8_hold 120 = some (.istore 5, 122) := by decide +kernel
theorem dX8_hold_122 : dcd cX8_hold 122 = some (.iload 5, 124) := by decide +kernel
theorem dX8_hold_124 : dcd cX8_hold 124 = some (.aload_n 0, 125) := by decide +kernel
theorem dX8_hold_125 : dcd cX8_hold 125 = some (.getfield 160, 128) := by decide +kernel
theorem dX8_hold_128 : dcd cX8_hold 128 = some (.if_icmp .ge 88, 131) := by decide +kernel
theorem dX8_hold_131 : dcd cX8_hold 131 = some (.iload_n 3, 132) := by decide +kernel
theorem dX8_hold_132 : dcd cX8_hold 132 = some (.iload 5, 134) := by decide +kernel
theorem dX8_hold_134 : dcd cX8_hold 134 = some (.ishr, 135) := by decide +kernel
theorem dX8_hold_135 : dcd cX8_hold 135 = some (.iconst 1, 136) := by decide +kernel
theorem dX8_hold_136 : dcd cX8_hold 136 = some (.iand, 137) := by decide +kernel
theorem dX8_hold_137 : dcd cX8_hold 137 = some (.ifCond .ne 73, 140) := by decide +kernel
theorem dX8_hold_140 : dcd cX8_hold 140 = some (.aload_n 0, 141) := by decide +kernel
theorem dX8_hold_141 : dcd cX8_hold 141 = some (.getfield 65, 144) := by decide +kernel
theorem dX8_hold_144 : dcd cX8_hold 144 = some (.iload_n 3, 145) := by decide +kernel
theorem dX8_hold_145 : dcd cX8_hold 145 = some (.iconst 1, 146) := by decide +kernel
theorem dX8_hold_146 : dcd cX8_hold 146 = some (.iload 5, 148) := by decide +kernel
theorem dX8_hold_148 : dcd cX8_hold 148 = some (.ishl, 149) := by decide +kernel
theorem dX8_hold_149 : dcd cX8_hold 149 = some (.ior, 150) := by decide +kernel
theorem dX8_hold_150 : dcd cX8_hold 150 = some (.iaload, 151) := by decide +kernel
theorem dX8_hold_151 : dcd cX8_hold 151 = some (.aload_n 0, 152) := by decide +kernel
theorem dX8_hold_152 : dcd cX8_hold 152 = some (.getfield 19, 155) := by decide +kernel
theorem dX8_hold_155 : dcd cX8_hold 155 = some (.aload_n 0, 156) := by decide +kernel
theorem dX8_hold_156 : dcd cX8_hold 156 = some (.getfield 32, 159) := by decide +kernel
theorem dX8_hold_159 : dcd cX8_hold 159 = some (.iload 5, 161) := by decide +kernel
theorem dX8_hold_161 : dcd cX8_hold 161 = some (.iaload, 162) := by decide +kernel
theorem dX8_hold_162 : dcd cX8_hold 162 = some (.iaload, 163) := by decide +kernel
theorem dX8_hold_163 : dcd cX8_hold 163 = some (.iload 4, 165) := by decide +kernel
theorem dX8_hold_165 : dcd cX8_hold 165 = some (.aload_n 0, 166) := by decide +kernel
theorem dX8_hold_166 : dcd cX8_hold 166 = some (.aload_n 0, 167) := by decide +kernel
theorem dX8_hold_167 : dcd cX8_hold 167 = some (.getfield 32, 170) := by decide +kernel
theorem dX8_hold_170 : dcd cX8_hold 170 = some (.iload 5, 172) := by decide +kernel
theorem dX8_hold_172 : dcd cX8_hold 172 = some (.iaload, 173) := by decide +kernel
theorem dX8_hold_173 : dcd cX8_hold 173 = some (.iconst 1, 174) := by decide +kernel
theorem dX8_hold_174 : dcd cX8_hold 174 = some (.invokevirtual 151, 177) := by decide +kernel
theorem dX8_hold_177 : dcd cX8_hold 177 = some (.iadd, 178) := by decide +kernel
theorem dX8_hold_178 : dcd cX8_hold 178 = some (.imul, 179) := by decide +kernel
theorem dX8_hold_179 : dcd cX8_hold 179 = some (.iadd, 180) := by decide +kernel
theorem dX8_hold_180 : dcd cX8_hold 180 = some (.istore 6, 182) := by decide +kernel
theorem dX8_hold_182 : dcd cX8_hold 182 = some (.aload_n 0, 183) := by decide +kernel
theorem dX8_hold_183 : dcd cX8_hold 183 = some (.getfield 65, 186) := by decide +kernel
theorem dX8_hold_186 : dcd cX8_hold 186 = some (.iload_n 3, 187) := by decide +kernel
theorem dX8_hold_187 : dcd cX8_hold 187 = some (.iload 6, 189) := by decide +kernel
theorem dX8_hold_189 : dcd cX8_hold 189 = some (.aload_n 0, 190) := by decide +kernel
theorem dX8_hold_190 : dcd cX8_hold 190 = some (.getfield 65, 193) := by decide +kernel
theorem dX8_hold_193 : dcd cX8_hold 193 = some (.iload_n 3, 194) := by decide +kernel
theorem dX8_hold_194 : dcd cX8_hold 194 = some (.iaload, 195) := by decide +kernel
theorem dX8_hold_195 : dcd cX8_hold 195 = some (.if_icmp .le 8, 198) := by decide +kernel
theorem dX8_hold_198 : dcd cX8_hold 198 = some (.iload 6, 200) := by decide +kernel
theorem dX8_hold_200 : dcd cX8_hold 200 = some (.goto 9, 203) := by decide +kernel
theorem dX8_hold_203 : dcd cX8_hold 203 = some (.aload_n 0, 204) := by decide +kernel
theorem dX8_hold_204 : dcd cX8_hold 204 = some (.getfield 65, 207) := by decide +kernel
theorem dX8_hold_207 : dcd cX8_hold 207 = some (.iload_n 3, 208) := by decide +kernel
theorem dX8_hold_208 : dcd cX8_hold 208 = some (.iaload, 209) := by decide +kernel
theorem dX8_hold_209 : dcd cX8_hold 209 = some (.iastore, 210) := by decide +kernel
theorem dX8_hold_210 : dcd cX8_hold 210 = some (.iinc 5 1, 213) := by decide +kernel
theorem dX8_hold_213 : dcd cX8_hold 213 = some (.goto (-91), 216) := by decide +kernel
theorem dX8_hold_216 : dcd cX8_hold 216 = some (.iinc 3 (-1), 219) := by decide +kernel
theorem dX8_hold_219 : dcd cX8_hold 219 = some (.goto (-172), 222) := by decide +kernel
theorem dX8_hold_222 : dcd cX8_hold 222 = some (.iload_n 1, 223) := by decide +kernel
theorem dX8_hold_223 : dcd cX8_hold 223 = some (.ifCond .ne 10, 226) := by decide +kernel
theorem dX8_hold_226 : dcd cX8_hold 226 = some (.aload_n 0, 227) := by decide +kernel
theorem dX8_hold_227 : dcd cX8_hold 227 = some (.getfield 65, 230) := by decide +kernel
theorem dX8_hold_230 : dcd cX8_hold 230 = some (.iconst 0, 231) := by decide +kernel
theorem dX8_hold_231 : dcd cX8_hold 231 = some (.iaload, 232) := by decide +kernel
theorem dX8_hold_232 : dcd cX8_hold 232 = some (.ireturn, 233) := by decide +kernel
theorem dX8_hold_233 : dcd cX8_hold 233 = some (.iconst 0, 234) := by decide +kernel
theorem dX8_hold_234 : dcd cX8_hold 234 = some (.istore_n 3, 235) := by decide +kernel
theorem dX8_hold_235 : dcd cX8_hold 235 = some (.iconst 0, 236) := by decide +kernel
theorem dX8_hold_236 : dcd cX8_hold 236 = some (.istore 4, 238) := by decide +kernel
theorem dX8_hold_238 : dcd cX8_hold 238 = some (.iconst 0, 239) := by decide +kernel
theorem dX8_hold_239 : dcd cX8_hold 239 = some (.istore 5, 241) := by decide +kernel
theorem dX8_hold_241 : dcd cX8_hold 241 = some (.iload 4, 243) := by decide +kernel
theorem dX8_hold_243 : dcd cX8_hold 243 = some (.iload_n 2, 244) := by decide +kernel
theorem dX8_hold_244 : dcd cX8_hold 244 = some (.if_icmp .eq 116, 247) := by decide +kernel
theorem dX8_hold_247 : dcd cX8_hold 247 = some (.iconst 0, 248) := by decide +kernel
theorem dX8_hold_248 : dcd cX8_hold 248 = some (.istore 6, 250) := by decide +kernel
theorem dX8_hold_250 : dcd cX8_hold 250 = some (.iload 4, 252) := by decide +kernel
theorem dX8_hold_252 : dcd cX8_hold 252 = some (.iload 6, 254) := by decide +kernel
theorem dX8_hold_254 : dcd cX8_hold 254 = some (.ishr, 255) := by decide +kernel
theorem dX8_hold_255 : dcd cX8_hold 255 = some (.iconst 1, 256) := by decide +kernel
theorem dX8_hold_256 : dcd cX8_hold 256 = some (.iand, 257) := by decide +kernel
theorem dX8_hold_257 : dcd cX8_hold 257 = some (.iconst 1, 258) := by decide +kernel
theorem dX8_hold_258 : dcd cX8_hold 258 = some (.if_icmp .eq 54, 261) := by decide +kernel
theorem dX8_hold_261 : dcd cX8_hold 261 = some (.aload_n 0, 262) := by decide +kernel
theorem dX8_hold_262 : dcd cX8_hold 262 = some (.getfield 65, 265) := by decide +kernel
theorem dX8_hold_265 : dcd cX8_hold 265 = some (.iload 4, 267) := by decide +kernel
theorem dX8_hold_267 : dcd cX8_hold 267 = some (.iconst 1, 268) := by decide +kernel
theorem dX8_hold_268 : dcd cX8_hold 268 = some (.iload 6, 270) := by decide +kernel
theorem dX8_hold_270 : dcd cX8_hold 270 = some (.ishl, 271) := by decide +kernel
theorem dX8_hold_271 : dcd cX8_hold 271 = some (.ior, 272) := by decide +kernel
theorem dX8_hold_272 : dcd cX8_hold 272 = some (.iaload, 273) := by decide +kernel
theorem dX8_hold_273 : dcd cX8_hold 273 = some (.aload_n 0, 274) := by decide +kernel
theorem dX8_hold_274 : dcd cX8_hold 274 = some (.getfield 19, 277) := by decide +kernel
theorem dX8_hold_277 : dcd cX8_hold 277 = some (.aload_n 0, 278) := by decide +kernel
theorem dX8_hold_278 : dcd cX8_hold 278 = some (.getfield 32, 281) := by decide +kernel
theorem dX8_hold_281 : dcd cX8_hold 281 = some (.iload 6, 283) := by decide +kernel
theorem dX8_hold_283 : dcd cX8_hold 283 = some (.iaload, 284) := by decide +kernel
theorem dX8_hold_284 : dcd cX8_hold 284 = some (.iaload, 285) := by decide +kernel
theorem dX8_hold_285 : dcd cX8_hold 285 = some (.iload 5, 287) := by decide +kernel
theorem dX8_hold_287 : dcd cX8_hold 287 = some (.aload_n 0, 288) := by decide +kernel
theorem dX8_hold_288 : dcd cX8_hold 288 = some (.aload_n 0, 289) := by decide +kernel
theorem dX8_hold_289 : dcd cX8_hold 289 = some (.getfield 32, 292) := by decide +kernel
theorem dX8_hold_292 : dcd cX8_hold 292 = some (.iload 6, 294) := by decide +kernel
theorem dX8_hold_294 : dcd cX8_hold 294 = some (.iaload, 295) := by decide +kernel
theorem dX8_hold_295 : dcd cX8_hold 295 = some (.iconst 1, 296) := by decide +kernel
theorem dX8_hold_296 : dcd cX8_hold 296 = some (.invokevirtual 151, 299) := by decide +kernel
theorem dX8_hold_299 : dcd cX8_hold 299 = some (.iadd, 300) := by decide +kernel
theorem dX8_hold_300 : dcd cX8_hold 300 = some (.imul, 301) := by decide +kernel
theorem dX8_hold_301 : dcd cX8_hold 301 = some (.iadd, 302) := by decide +kernel
theorem dX8_hold_302 : dcd cX8_hold 302 = some (.aload_n 0, 303) := by decide +kernel
theorem dX8_hold_303 : dcd cX8_hold 303 = some (.getfield 65, 306) := by decide +kernel
theorem dX8_hold_306 : dcd cX8_hold 306 = some (.iload 4, 308) := by decide +kernel
theorem dX8_hold_308 : dcd cX8_hold 308 = some (.iaload, 309) := by decide +kernel
theorem dX8_hold_309 : dcd cX8_hold 309 = some (.if_icmp .eq 9, 312) := by decide +kernel
theorem dX8_hold_312 : dcd cX8_hold 312 = some (.iinc 6 1, 315) := by decide +kernel
theorem dX8_hold_315 : dcd cX8_hold 315 = some (.goto (-65), 318) := by decide +kernel
theorem dX8_hold_318 : dcd cX8_hold 318 = some (.bipush 10, 320) := by decide +kernel
theorem dX8_hold_320 : dcd cX8_hold 320 = some (.iload_n 3, 321) := by decide +kernel
theorem dX8_hold_321 : dcd cX8_hold 321 = some (.imul, 322) := by decide +kernel
theorem dX8_hold_322 : dcd cX8_hold 322 = some (.aload_n 0, 323) := by decide +kernel
theorem dX8_hold_323 : dcd cX8_hold 323 = some (.getfield 32, 326) := by decide +kernel
theorem dX8_hold_326 : dcd cX8_hold 326 = some (.iload 6, 328) := by decide +kernel
theorem dX8_hold_328 : dcd cX8_hold 328 = some (.iaload, 329) := by decide +kernel
theorem dX8_hold_329 : dcd cX8_hold 329 = some (.iadd, 330) := by decide +kernel
theorem dX8_hold_330 : dcd cX8_hold 330 = some (.istore_n 3, 331) := by decide +kernel
theorem dX8_hold_331 : dcd cX8_hold 331 = some (.iload 5, 333) := by decide +kernel
theorem dX8_hold_333 : dcd cX8_hold 333 = some (.aload_n 0, 334) := by decide +kernel
theorem dX8_hold_334 : dcd cX8_hold 334 = some (.aload_n 0, 335) := by decide +kernel
theorem dX8_hold_335 : dcd cX8_hold 335 = some (.getfield 32, 338) := by decide +kernel
theorem dX8_hold_338 : dcd cX8_hold 338 = some (.iload 6, 340) := by decide +kernel
theorem dX8_hold_340 : dcd cX8_hold 340 = some (.iaload, 341) := by decide +kernel
theorem dX8_hold_341 : dcd cX8_hold 341 = some (.iconst 1, 342) := by decide +kernel
theorem dX8_hold_342 : dcd cX8_hold 342 = some (.invokevirtual 151, 345) := by decide +kernel
theorem dX8_hold_345 : dcd cX8_hold 345 = some (.iadd, 346) := by decide +kernel
theorem dX8_hold_346 : dcd cX8_hold 346 = some (.istore 5, 348) := by decide +kernel
theorem dX8_hold_348 : dcd cX8_hold 348 = some (.iload 4, 350) := by decide +kernel
theorem dX8_hold_350 : dcd cX8_hold 350 = some (.iconst 1, 351) := by decide +kernel
theorem dX8_hold_351 : dcd cX8_hold 351 = some (.iload 6, 353) := by decide +kernel
theorem dX8_hold_353 : dcd cX8_hold 353 = some (.ishl, 354) := by decide +kernel
theorem dX8_hold_354 : dcd cX8_hold 354 = some (.ior, 355) := by decide +kernel
theorem dX8_hold_355 : dcd cX8_hold 355 = some (.istore 4, 357) := by decide +kernel
theorem dX8_hold_357 : dcd cX8_hold 357 = some (.goto (-116), 360) := by decide +kernel
theorem dX8_hold_360 : dcd cX8_hold 360 = some (.iload_n 3, 361) := by decide +kernel
theorem dX8_hold_361 : dcd cX8_hold 361 = some (.ireturn, 362) := by decide +kernel
theorem dX8_drawn_0 : dcd cX8_drawn 0 = some (.aload_n 0, 1) := by decide +kernel
theorem dX8_drawn_1 : dcd cX8_drawn 1 = some (.iconst 0, 2) := by decide +kernel
theorem dX8_drawn_2 : dcd cX8_drawn 2 = some (.putfield 68, 5) := by decide +kernel
theorem dX8_drawn_5 : dcd cX8_drawn 5 = some (.aload_n 0, 6) := by decide +kernel
theorem dX8_drawn_6 : dcd cX8_drawn 6 = some (.getfield 22, 9) := by decide +kernel
theorem dX8_drawn_9 : dcd cX8_drawn 9 = some (.iconst 0, 10) := by decide +kernel
theorem dX8_drawn_10 : dcd cX8_drawn 10 = some (.iaload, 11) := by decide +kernel
theorem dX8_drawn_11 : dcd cX8_drawn 11 = some (.ifCond .ne 6, 14) := by decide +kernel
theorem dX8_drawn_14 : dcd cX8_drawn 14 = some (.bipush (-2), 16) := by decide +kernel
theorem dX8_drawn_16 : dcd cX8_drawn 16 = some (.ireturn, 17) := by decide +kernel
theorem dX8_drawn_17 : dcd cX8_drawn 17 = some (.aload_n 0, 18) := by decide +kernel
theorem dX8_drawn_18 : dcd cX8_drawn 18 = some (.invokevirtual 175, 21) := by decide +kernel
theorem dX8_drawn_21 : dcd cX8_drawn 21 = some (.aload_n 0, 22) := by decide +kernel
theorem dX8_drawn_22 : dcd cX8_drawn 22 = some (.invokevirtual 178, 25) := by decide +kernel
theorem dX8_drawn_25 : dcd cX8_drawn 25 = some (.aload_n 0, 26) := by decide +kernel
theorem dX8_drawn_26 : dcd cX8_drawn 26 = some (.iconst 1, 27) := by decide +kernel
theorem dX8_drawn_27 : dcd cX8_drawn 27 = some (.invokevirtual 205, 30) := by decide +kernel
theorem dX8_drawn_30 : dcd cX8_drawn 30 = some (.ireturn, 31) := by decide +kernel
theorem dX8_lot_0 : dcd cX8_lot 0 = some (.aload_n 0, 1) := by decide +kernel
theorem dX8_lot_1 : dcd cX8_lot 1 = some (.iconst 0, 2) := by decide +kernel
theorem dX8_lot_2 : dcd cX8_lot 2 = some (.putfield 68, 5) := by decide +kernel
theorem dX8_lot_5 : dcd cX8_lot 5 = some (.aload_n 0, 6) := by decide +kernel
theorem dX8_lot_6 : dcd cX8_lot 6 = some (.getfield 22, 9) := by decide +kernel
theorem dX8_lot_9 : dcd cX8_lot 9 = some (.iconst 2, 10) := by decide +kernel
theorem dX8_lot_10 : dcd cX8_lot 10 = some (.iaload, 11) := by decide +kernel
theorem dX8_lot_11 : dcd cX8_lot 11 = some (.istore_n 2, 12) := by decide +kernel
theorem dX8_lot_12 : dcd cX8_lot 12 = some (.aload_n 0, 13) := by decide +kernel
theorem dX8_lot_13 : dcd cX8_lot 13 = some (.getfield 22, 16) := by decide +kernel
theorem dX8_lot_16 : dcd cX8_lot 16 = some (.iconst 2, 17) := by decide +kernel
theorem dX8_lot_17 : dcd cX8_lot 17 = some (.iload_n 1, 18) := by decide +kernel
theorem dX8_lot_18 : dcd cX8_lot 18 = some (.iastore, 19) := by decide +kernel
theorem dX8_lot_19 : dcd cX8_lot 19 = some (.iload_n 2, 20) := by decide +kernel
theorem dX8_lot_20 : dcd cX8_lot 20 = some (.ireturn, 21) := by decide +kernel
theorem dX8_rate_0 : dcd cX8_rate 0 = some (.aload_n 0, 1) := by decide +kernel
theorem dX8_rate_1 : dcd cX8_rate 1 = some (.iconst 0, 2) := by decide +kernel
theorem dX8_rate_2 : dcd cX8_rate 2 = some (.putfield 68, 5) := by decide +kernel
theorem dX8_rate_5 : dcd cX8_rate 5 = some (.iload_n 1, 6) := by decide +kernel
theorem dX8_rate_6 : dcd cX8_rate 6 = some (.iconst 0, 7) := by decide +kernel
theorem dX8_rate_7 : dcd cX8_rate 7 = some (.iconst 5, 8) := by decide +kernel
theorem dX8_rate_8 : dcd cX8_rate 8 = some (.invokestatic 72, 11) := by decide +kernel
theorem dX8_rate_11 : dcd cX8_rate 11 = some (.ifCond .eq 11, 14) := by decide +kernel
theorem dX8_rate_14 : dcd cX8_rate 14 = some (.aload_n 0, 15) := by decide +kernel
theorem dX8_rate_15 : dcd cX8_rate 15 = some (.iload_n 2, 16) := by decide +kernel
theorem dX8_rate_16 : dcd cX8_rate 16 = some (.invokevirtual 148, 19) := by decide +kernel
theorem dX8_rate_19 : dcd cX8_rate 19 = some (.ifCond .ne 6, 22) := by decide +kernel
theorem dX8_rate_22 : dcd cX8_rate 22 = some (.ldc 246, 24) := by decide +kernel
theorem dX8_rate_24 : dcd cX8_rate 24 = some (.ireturn, 25) := by decide +kernel
theorem dX8_rate_25 : dcd cX8_rate 25 = some (.aload_n 0, 26) := by decide +kernel
theorem dX8_rate_26 : dcd cX8_rate 26 = some (.iload_n 2, 27) := by decide +kernel
theorem dX8_rate_27 : dcd cX8_rate 27 = some (.iconst 2, 28) := by decide +kernel
theorem dX8_rate_28 : dcd cX8_rate 28 = some (.invokevirtual 151, 31) := by decide +kernel
theorem dX8_rate_31 : dcd cX8_rate 31 = some (.istore_n 3, 32) := by decide +kernel
theorem dX8_rate_32 : dcd cX8_rate 32 = some (.iload_n 3, 33) := by decide +kernel
theorem dX8_rate_33 : dcd cX8_rate 33 = some (.aload_n 0, 34) := by decide +kernel
theorem dX8_rate_34 : dcd cX8_rate 34 = some (.getfield 16, 37) := by decide +kernel
theorem dX8_rate_37 : dcd cX8_rate 37 = some (.iconst 4, 38) := by decide +kernel
theorem dX8_rate_38 : dcd cX8_rate 38 = some (.iaload, 39) := by decide +kernel
theorem dX8_rate_39 : dcd cX8_rate 39 = some (.iadd, 40) := by decide +kernel
theorem dX8_rate_40 : dcd cX8_rate 40 = some (.istore 4, 42) := by decide +kernel
theorem dX8_rate_42 : dcd cX8_rate 42 = some (.iload_n 3, 43) := by decide +kernel
theorem dX8_rate_43 : dcd cX8_rate 43 = some (.aload_n 0, 44) := by decide +kernel
theorem dX8_rate_44 : dcd cX8_rate 44 = some (.iload_n 2, 45) := by decide +kernel
theorem dX8_rate_45 : dcd cX8_rate 45 = some (.iconst 4, 46) := by decide +kernel
theorem dX8_rate_46 : dcd cX8_rate 46 = some (.invokevirtual 151, 49) := by decide +kernel
theorem dX8_rate_49 : dcd cX8_rate 49 = some (.isub, 50) := by decide +kernel
theorem dX8_rate_50 : dcd cX8_rate 50 = some (.aload_n 0, 51) := by decide +kernel
theorem dX8_rate_51 : dcd cX8_rate 51 = some (.iload_n 2, 52) := by decide +kernel
theorem dX8_rate_52 : dcd cX8_rate 52 = some (.iconst 5, 53) := by decide +kernel
theorem dX8_rate_53 : dcd cX8_rate 53 = some (.invokevirtual 151, 56) := by decide +kernel
theorem dX8_rate_56 : dcd cX8_rate 56 = some (.isub, 57) := by decide +kernel
theorem dX8_rate_57 : dcd cX8_rate 57 = some (.istore 5, 59) := by decide +kernel
theorem dX8_rate_59 : dcd cX8_rate 59 = some (.aload_n 0, 60) := by decide +kernel
theorem dX8_rate_60 : dcd cX8_rate 60 = some (.dup, 61) := by decide +kernel
theorem dX8_rate_61 : dcd cX8_rate 61 = some (.getfield 251, 64) := by decide +kernel
theorem dX8_rate_64 : dcd cX8_rate 64 = some (.iload_n 1, 65) := by decide +kernel
theorem dX8_rate_65 : dcd cX8_rate 65 = some (.ifCond .ne 7, 68) := by decide +kernel
theorem dX8_rate_68 : dcd cX8_rate 68 = some (.lconst 1, 69) := by decide +kernel
theorem dX8_rate_69 : dcd cX8_rate 69 = some (.goto 50, 72) := by decide +kernel
theorem dX8_rate_72 : dcd cX8_rate 72 = some (.iload_n 1, 73) := by decide +kernel
theorem dX8_rate_73 : dcd cX8_rate 73 = some (.iconst 1, 74) := by decide +kernel
theorem dX8_rate_74 : dcd cX8_rate 74 = some (.if_icmp .ne 9, 77) := by decide +kernel
theorem dX8_rate_77 : dcd cX8_rate 77 = some (.ldc2_w 255, 80) := by decide +kernel
theorem dX8_rate_80 : dcd cX8_rate 80 = some (.goto 39, 83) := by decide +kernel
theorem dX8_rate_83 : dcd cX8_rate 83 = some (.iload_n 1, 84) := by decide +kernel
theorem dX8_rate_84 : dcd cX8_rate 84 = some (.iconst 2, 85) := by decide +kernel
theorem dX8_rate_85 : dcd cX8_rate 85 = some (.if_icmp .ne 9, 88) := by decide +kernel
theorem dX8_rate_88 : dcd cX8_rate 88 = some (.ldc2_w 257, 91) := by decide +kernel
theorem dX8_rate_91 : dcd cX8_rate 91 = some (.goto 28, 94) := by decide +kernel
theorem dX8_rate_94 : dcd cX8_rate 94 = some (.iload_n 1, 95) := by decide +kernel
theorem dX8_rate_95 : dcd cX8_rate 95 = some (.iconst 3, 96) := by decide +kernel
theorem dX8_rate_96 : dcd cX8_rate 96 = some (.if_icmp .ne 9, 99) := by decide +kernel
theorem dX8_rate_99 : dcd cX8_rate 99 = some (.ldc2_w 259, 102) := by decide +kernel
theorem dX8_rate_102 : dcd cX8_rate 102 = some (.goto 17, 105) := by decide +kernel
theorem dX8_rate_105 : dcd cX8_rate 105 = some (.iload_n 1, 106) := by decide +kernel
theorem dX8_rate_106 : dcd cX8_rate 106 = some (.iconst 4, 107) := by decide +kernel
theorem dX8_rate_107 : dcd cX8_rate 107 = some (.if_icmp .ne 9, 110) := by decide +kernel
theorem dX8_rate_110 : dcd cX8_rate 110 = some (.ldc2_w 261, 113) := by decide +kernel
theorem dX8_rate_113 : dcd cX8_rate 113 = some (.goto 6, 116) := by decide +kernel
theorem dX8_rate_116 : dcd cX8_rate 116 = some (.ldc2_w 263, 119) := by decide +kernel
theorem dX8_rate_119 : dcd cX8_rate 119 = some (.ladd, 120) := by decide +kernel
theorem dX8_rate_120 : dcd cX8_rate 120 = some (.putfield 251, 123) := by decide +kernel
theorem dX8_rate_123 : dcd cX8_rate 123 = some (.iload_n 1, 124) := by decide +kernel
theorem dX8_rate_124 : dcd cX8_rate 124 = some (.ifCond .ne 7, 127) := by decide +kernel
theorem dX8_rate_127 : dcd cX8_rate 127 = some (.iload_n 3, 128) := by decide +kernel
theorem dX8_rate_128 : dcd cX8_rate 128 = some (.goto 60, 131) := by decide +kernel
theorem dX8_rate_131 : dcd cX8_rate 131 = some (.iload_n 1, 132) := by decide +kernel
theorem dX8_rate_132 : dcd cX8_rate 132 = some (.iconst 1, 133) := by decide +kernel
theorem dX8_rate_133 : dcd cX8_rate 133 = some (.if_icmp .ne 8, 136) := by decide +kernel
theorem dX8_rate_136 : dcd cX8_rate 136 = some (.iload 4, 138) := by decide +kernel
theorem dX8_rate_138 : dcd cX8_rate 138 = some (.goto 50, 141) := by decide +kernel
theorem dX8_rate_141 : dcd cX8_rate 141 = some (.iload_n 1, 142) := by decide +kernel
theorem dX8_rate_142 : dcd cX8_rate 142 = some (.iconst 2, 143) := by decide +kernel
theorem dX8_rate_143 : dcd cX8_rate 143 = some (.if_icmp .ne 14, 146) := by decide +kernel
theorem dX8_rate_146 : dcd cX8_rate 146 = some (.iload_n 3, 147) := by decide +kernel
theorem dX8_rate_147 : dcd cX8_rate 147 = some (.aload_n 0, 148) := by decide +kernel
theorem dX8_rate_148 : dcd cX8_rate 148 = some (.iload_n 2, 149) := by decide +kernel
theorem dX8_rate_149 : dcd cX8_rate 149 = some (.iconst 1, 150) := by decide +kernel
theorem dX8_rate_150 : dcd cX8_rate 150 = some (.invokevirtual 151, 153) := by decide +kernel
theorem dX8_rate_153 : dcd cX8_rate 153 = some (.iadd, 154) := by decide +kernel
theorem dX8_rate_154 : dcd cX8_rate 154 = some (.goto 34, 157) := by decide +kernel
theorem dX8_rate_157 : dcd cX8_rate 157 = some (.iload_n 1, 158) := by decide +kernel
theorem dX8_rate_158 : dcd cX8_rate 158 = some (.iconst 3, 159) := by decide +kernel
theorem dX8_rate_159 : dcd cX8_rate 159 = some (.if_icmp .ne 10, 162) := by decide +kernel
theorem dX8_rate_162 : dcd cX8_rate 162 = some (.iconst 2, 163) := by decide +kernel
theorem dX8_rate_163 : dcd cX8_rate 163 = some (.iload 4, 165) := by decide +kernel
theorem dX8_rate_165 : dcd cX8_rate 165 = some (.imul, 166) := by decide +kernel
theorem dX8_rate_166 : dcd cX8_rate 166 = some (.goto 22, 169) := by decide +kernel
theorem dX8_rate_169 : dcd cX8_rate 169 = some (.iload_n 1, 170) := by decide +kernel
theorem dX8_rate_170 : dcd cX8_rate 170 = some (.iconst 4, 171) := by decide +kernel
theorem dX8_rate_171 : dcd cX8_rate 171 = some (.if_icmp .ne 15, 174) := by decide +kernel
theorem dX8_rate_174 : dcd cX8_rate 174 = some (.iload 5, 176) := by decide +kernel
theorem dX8_rate_176 : dcd cX8_rate 176 = some (.aload_n 0, 177) := by decide +kernel
theorem dX8_rate_177 : dcd cX8_rate 177 = some (.getfield 19, 180) := by decide +kernel
theorem dX8_rate_180 : dcd cX8_rate 180 = some (.iload_n 2, 181) := by decide +kernel
theorem dX8_rate_181 : dcd cX8_rate 181 = some (.iaload, 182) := by decide +kernel
theorem dX8_rate_182 : dcd cX8_rate 182 = some (.iadd, 183) := by decide +kernel
theorem dX8_rate_183 : dcd cX8_rate 183 = some (.goto 5, 186) := by decide +kernel
theorem dX8_rate_186 : dcd cX8_rate 186 = some (.iload 5, 188) := by decide +kernel
theorem dX8_rate_188 : dcd cX8_rate 188 = some (.ireturn, 189) := by decide +kernel
theorem dX8_keep_0 : dcd cX8_keep 0 = some (.aload_n 0, 1) := by decide +kernel
theorem dX8_keep_1 : dcd cX8_keep 1 = some (.iconst 0, 2) := by decide +kernel
theorem dX8_keep_2 : dcd cX8_keep 2 = some (.putfield 68, 5) := by decide +kernel
theorem dX8_keep_5 : dcd cX8_keep 5 = some (.iload_n 1, 6) := by decide +kernel
theorem dX8_keep_6 : dcd cX8_keep 6 = some (.iconst 0, 7) := by decide +kernel
theorem dX8_keep_7 : dcd cX8_keep 7 = some (.iconst 1, 8) := by decide +kernel
theorem dX8_keep_8 : dcd cX8_keep 8 = some (.invokestatic 72, 11) := by decide +kernel
theorem dX8_keep_11 : dcd cX8_keep 11 = some (.ifCond .ne 5, 14) := by decide +kernel
theorem dX8_keep_14 : dcd cX8_keep 14 = some (.iconst (-1), 15) := by decide +kernel
theorem dX8_keep_15 : dcd cX8_keep 15 = some (.ireturn, 16) := by decide +kernel
theorem dX8_keep_16 : dcd cX8_keep 16 = some (.iconst 0, 17) := by decide +kernel
theorem dX8_keep_17 : dcd cX8_keep 17 = some (.istore_n 2, 18) := by decide +kernel
theorem dX8_keep_18 : dcd cX8_keep 18 = some (.iload_n 2, 19) := by decide +kernel
theorem dX8_keep_19 : dcd cX8_keep 19 = some (.bipush 12, 21) := by decide +kernel
theorem dX8_keep_21 : dcd cX8_keep 21 = some (.if_icmp .ge 26, 24) := by decide +kernel
theorem dX8_keep_24 : dcd cX8_keep 24 = some (.aload_n 0, 25) := by decide +kernel
theorem dX8_keep_25 : dcd cX8_keep 25 = some (.getfield 25, 28) := by decide +kernel
theorem dX8_keep_28 : dcd cX8_keep 28 = some (.bipush 12, 30) := by decide +kernel
theorem dX8_keep_30 : dcd cX8_keep 30 = some (.iload_n 1, 31) := by decide +kernel
theorem dX8_keep_31 : dcd cX8_keep 31 = some (.imul, 32) := by decide +kernel
theorem dX8_keep_32 : dcd cX8_keep 32 = some (.iload_n 2, 33) := by decide +kernel
theorem dX8_keep_33 : dcd cX8_keep 33 = some (.iadd, 34) := by decide +kernel
theorem dX8_keep_34 : dcd cX8_keep 34 = some (.aload_n 0, 35) := by decide +kernel
theorem dX8_keep_35 : dcd cX8_keep 35 = some (.getfield 22, 38) := by decide +kernel
theorem dX8_keep_38 : dcd cX8_keep 38 = some (.iload_n 2, 39) := by decide +kernel
theorem dX8_keep_39 : dcd cX8_keep 39 = some (.iaload, 40) := by decide +kernel
theorem dX8_keep_40 : dcd cX8_keep 40 = some (.iastore, 41) := by decide +kernel
theorem dX8_keep_41 : dcd cX8_keep 41 = some (.iinc 2 1, 44) := by decide +kernel
theorem dX8_keep_44 : dcd cX8_keep 44 = some (.goto (-26), 47) := by decide +kernel
theorem dX8_keep_47 : dcd cX8_keep 47 = some (.aload_n 0, 48) := by decide +kernel
theorem dX8_keep_48 : dcd cX8_keep 48 = some (.getfield 28, 51) := by decide +kernel
theorem dX8_keep_51 : dcd cX8_keep 51 = some (.iload_n 1, 52) := by decide +kernel
theorem dX8_keep_52 : dcd cX8_keep 52 = some (.iconst 1, 53) := by decide +kernel
theorem dX8_keep_53 : dcd cX8_keep 53 = some (.bastore, 54) := by decide +kernel
theorem dX8_keep_54 : dcd cX8_keep 54 = some (.aload_n 0, 55) := by decide +kernel
theorem dX8_keep_55 : dcd cX8_keep 55 = some (.getfield 22, 58) := by decide +kernel
theorem dX8_keep_58 : dcd cX8_keep 58 = some (.iconst 0, 59) := by decide +kernel
theorem dX8_keep_59 : dcd cX8_keep 59 = some (.iaload, 60) := by decide +kernel
theorem dX8_keep_60 : dcd cX8_keep 60 = some (.ireturn, 61) := by decide +kernel
theorem dX8_back_0 : dcd cX8_back 0 = some (.aload_n 0, 1) := by decide +kernel
theorem dX8_back_1 : dcd cX8_back 1 = some (.iconst 0, 2) := by decide +kernel
theorem dX8_back_2 : dcd cX8_back 2 = some (.putfield 68, 5) := by decide +kernel
theorem dX8_back_5 : dcd cX8_back 5 = some (.iload_n 1, 6) := by decide +kernel
theorem dX8_back_6 : dcd cX8_back 6 = some (.iconst 0, 7) := by decide +kernel
theorem dX8_back_7 : dcd cX8_back 7 = some (.iconst 1, 8) := by decide +kernel
theorem dX8_back_8 : dcd cX8_back 8 = some (.invokestatic 72, 11) := by decide +kernel
theorem dX8_back_11 : dcd cX8_back 11 = some (.ifCond .ne 5, 14) := by decide +kernel
theorem dX8_back_14 : dcd cX8_back 14 = some (.iconst (-1), 15) := by decide +kernel
theorem dX8_back_15 : dcd cX8_back 15 = some (.ireturn, 16) := by decide +kernel
theorem dX8_back_16 : dcd cX8_back 16 = some (.aload_n 0, 17) := by decide +kernel
theorem dX8_back_17 : dcd cX8_back 17 = some (.getfield 28, 20) := by decide +kernel
theorem dX8_back_20 : dcd cX8_back 20 = some (.iload_n 1, 21) := by decide +kernel
theorem dX8_back_21 : dcd cX8_back 21 = some (.baload, 22) := by decide +kernel
theorem dX8_back_22 : dcd cX8_back 22 = some (.ifCond .ne 6, 25) := by decide +kernel
theorem dX8_back_25 : dcd cX8_back 25 = some (.bipush (-2), 27) := by decide +kernel
theorem dX8_back_27 : dcd cX8_back 27 = some (.ireturn, 28) := by decide +kernel
theorem dX8_back_28 : dcd cX8_back 28 = some (.iconst 0, 29) := by decide +kernel
theorem dX8_back_29 : dcd cX8_back 29 = some (.istore_n 2, 30) := by decide +kernel
theorem dX8_back_30 : dcd cX8_back 30 = some (.iload_n 2, 31) := by decide +kernel
theorem dX8_back_31 : dcd cX8_back 31 = some (.bipush 12, 33) := by decide +kernel
theorem dX8_back_33 : dcd cX8_back 33 = some (.if_icmp .ge 26, 36) := by decide +kernel
theorem dX8_back_36 : dcd cX8_back 36 = some (.aload_n 0, 37) := by decide +kernel
theorem dX8_back_37 : dcd cX8_back 37 = some (.getfield 22, 40) := by decide +kernel
theorem dX8_back_40 : dcd cX8_back 40 = some (.iload_n 2, 41) := by decide +kernel
theorem dX8_back_41 : dcd cX8_back 41 = some (.aload_n 0, 42) := by decide +kernel
theorem dX8_back_42 : dcd cX8_back 42 = some (.getfield 25, 45) := by decide +kernel
theorem dX8_back_45 : dcd cX8_back 45 = some (.bipush 12, 47) := by decide +kernel
theorem dX8_back_47 : dcd cX8_back 47 = some (.iload_n 1, 48) := by decide +kernel
theorem dX8_back_48 : dcd cX8_back 48 = some (.imul, 49) := by decide +kernel
theorem dX8_back_49 : dcd cX8_back 49 = some (.iload_n 2, 50) := by decide +kernel
theorem dX8_back_50 : dcd cX8_back 50 = some (.iadd, 51) := by decide +kernel
theorem dX8_back_51 : dcd cX8_back 51 = some (.iaload, 52) := by decide +kernel
theorem dX8_back_52 : dcd cX8_back 52 = some (.iastore, 53) := by decide +kernel
theorem dX8_back_53 : dcd cX8_back 53 = some (.iinc 2 1, 56) := by decide +kernel
theorem dX8_back_56 : dcd cX8_back 56 = some (.goto (-26), 59) := by decide +kernel
theorem dX8_back_59 : dcd cX8_back 59 = some (.aload_n 0, 60) := by decide +kernel
theorem dX8_back_60 : dcd cX8_back 60 = some (.getfield 22, 63) := by decide +kernel
theorem dX8_back_63 : dcd cX8_back 63 = some (.iconst 0, 64) := by decide +kernel
theorem dX8_back_64 : dcd cX8_back 64 = some (.iaload, 65) := by decide +kernel
theorem dX8_back_65 : dcd cX8_back 65 = some (.ireturn, 66) := by decide +kernel
theorem dX8_count_0 : dcd cX8_count 0 = some (.aload_n 0, 1) := by decide +kernel
theorem dX8_count_1 : dcd cX8_count 1 = some (.iconst 0, 2) := by decide +kernel
theorem dX8_count_2 : dcd cX8_count 2 = some (.putfield 68, 5) := by decide +kernel
theorem dX8_count_5 : dcd cX8_count 5 = some (.iload_n 1, 6) := by decide +kernel
theorem dX8_count_6 : dcd cX8_count 6 = some (.ifCond .ne 10, 9) := by decide +kernel
theorem dX8_count_9 : dcd cX8_count 9 = some (.aload_n 0, 10) := by decide +kernel
theorem dX8_count_10 : dcd cX8_count 10 = some (.getfield 142, 13) := by decide +kernel
theorem dX8_count_13 : dcd cX8_count 13 = some (.goto 56, 16) := by decide +kernel
theorem dX8_count_16 : dcd cX8_count 16 = some (.iload_n 1, 17) := by decide +kernel
theorem dX8_count_17 : dcd cX8_count 17 = some (.iconst 1, 18) := by decide +kernel
theorem dX8_count_18 : dcd cX8_count 18 = some (.if_icmp .ne 12, 21) := by decide +kernel
theorem dX8_count_21 : dcd cX8_count 21 = some (.aload_n 0, 22) := by decide +kernel
theorem dX8_count_22 : dcd cX8_count 22 = some (.getfield 22, 25) := by decide +kernel
theorem dX8_count_25 : dcd cX8_count 25 = some (.iconst 0, 26) := by decide +kernel
theorem dX8_count_26 : dcd cX8_count 26 = some (.iaload, 27) := by decide +kernel
theorem dX8_count_27 : dcd cX8_count 27 = some (.goto 42, 30) := by decide +kernel
theorem dX8_count_30 : dcd cX8_count 30 = some (.iload_n 1, 31) := by decide +kernel
theorem dX8_count_31 : dcd cX8_count 31 = some (.iconst 2, 32) := by decide +kernel
theorem dX8_count_32 : dcd cX8_count 32 = some (.if_icmp .ne 12, 35) := by decide +kernel
theorem dX8_count_35 : dcd cX8_count 35 = some (.aload_n 0, 36) := by decide +kernel
theorem dX8_count_36 : dcd cX8_count 36 = some (.getfield 22, 39) := by decide +kernel
theorem dX8_count_39 : dcd cX8_count 39 = some (.iconst 1, 40) := by decide +kernel
theorem dX8_count_40 : dcd cX8_count 40 = some (.iaload, 41) := by decide +kernel
theorem dX8_count_41 : dcd cX8_count 41 = some (.goto 28, 44) := by decide +kernel
theorem dX8_count_44 : dcd cX8_count 44 = some (.iload_n 1, 45) := by decide +kernel
theorem dX8_count_45 : dcd cX8_count 45 = some (.iconst 3, 46) := by decide +kernel
theorem dX8_count_46 : dcd cX8_count 46 = some (.if_icmp .ne 10, 49) := by decide +kernel
theorem dX8_count_49 : dcd cX8_count 49 = some (.aload_n 0, 50) := by decide +kernel
theorem dX8_count_50 : dcd cX8_count 50 = some (.getfield 145, 53) := by decide +kernel
theorem dX8_count_53 : dcd cX8_count 53 = some (.goto 16, 56) := by decide +kernel
theorem dX8_count_56 : dcd cX8_count 56 = some (.iload_n 1, 57) := by decide +kernel
theorem dX8_count_57 : dcd cX8_count 57 = some (.iconst 4, 58) := by decide +kernel
theorem dX8_count_58 : dcd cX8_count 58 = some (.if_icmp .ne 10, 61) := by decide +kernel
theorem dX8_count_61 : dcd cX8_count 61 = some (.aload_n 0, 62) := by decide +kernel
theorem dX8_count_62 : dcd cX8_count 62 = some (.getfield 76, 65) := by decide +kernel
theorem dX8_count_65 : dcd cX8_count 65 = some (.goto 4, 68) := by decide +kernel
theorem dX8_count_68 : dcd cX8_count 68 = some (.iconst (-1), 69) := by decide +kernel
theorem dX8_count_69 : dcd cX8_count 69 = some (.ireturn, 70) := by decide +kernel
theorem dX8_trace_0 : dcd cX8_trace 0 = some (.aload_n 0, 1) := by decide +kernel
theorem dX8_trace_1 : dcd cX8_trace 1 = some (.iconst 0, 2) := by decide +kernel
theorem dX8_trace_2 : dcd cX8_trace 2 = some (.putfield 68, 5) := by decide +kernel
theorem dX8_trace_5 : dcd cX8_trace 5 = some (.aload_n 0, 6) := by decide +kernel
theorem dX8_trace_6 : dcd cX8_trace 6 = some (.getfield 251, 9) := by decide +kernel
theorem dX8_trace_9 : dcd cX8_trace 9 = some (.lreturn, 10) := by decide +kernel
theorem dJ6_bitCount_0f7a4_0 : decode cJ6_bitCount_0f7a4 0 = .ok (.iload_n 0, 1) := by decide +kernel
theorem dJ6_bitCount_0f7a4_1 : decode cJ6_bitCount_0f7a4 1 = .ok (.iload_n 0, 1) := by decide +kernel
theorem dJ6_bitCount_0f7a4_2 : decode cJ6_bitCount_0f7a4 2 = .ok (.iconst 1, 1) := by decide +kernel
theorem dJ6_bitCount_0f7a4_3 : decode cJ6_bitCount_0f7a4 3 = .ok (.iushr, 1) := by decide +kernel
theorem dJ6_bitCount_0f7a4_4 : decode cJ6_bitCount_0f7a4 4 = .ok (.ldc_w 265, 3) := by decide +kernel
theorem dJ6_bitCount_0f7a4_7 : decode cJ6_bitCount_0f7a4 7 = .ok (.iand, 1) := by decide +kernel
theorem dJ6_bitCount_0f7a4_8 : decode cJ6_bitCount_0f7a4 8 = .ok (.isub, 1) := by decide +kernel
theorem dJ6_bitCount_0f7a4_9 : decode cJ6_bitCount_0f7a4 9 = .ok (.istore_n 0, 1) := by decide +kernel
theorem dJ6_bitCount_0f7a4_10 : decode cJ6_bitCount_0f7a4 10 = .ok (.iload_n 0, 1) := by decide +kernel
theorem dJ6_bitCount_0f7a4_11 : decode cJ6_bitCount_0f7a4 11 = .ok (.ldc_w 266, 3) := by decide +kernel
theorem dJ6_bitCount_0f7a4_14 : decode cJ6_bitCount_0f7a4 14 = .ok (.iand, 1) := by decide +kernel
theorem dJ6_bitCount_0f7a4_15 : decode cJ6_bitCount_0f7a4 15 = .ok (.iload_n 0, 1) := by decide +kernel
theorem dJ6_bitCount_0f7a4_16 : decode cJ6_bitCount_0f7a4 16 = .ok (.iconst 2, 1) := by decide +kernel
theorem dJ6_bitCount_0f7a4_17 : decode cJ6_bitCount_0f7a4 17 = .ok (.iushr, 1) := by decide +kernel
theorem dJ6_bitCount_0f7a4_18 : decode cJ6_bitCount_0f7a4 18 = .ok (.ldc_w 266, 3) := by decide +kernel
theorem dJ6_bitCount_0f7a4_21 : decode cJ6_bitCount_0f7a4 21 = .ok (.iand, 1) := by decide +kernel
theorem dJ6_bitCount_0f7a4_22 : decode cJ6_bitCount_0f7a4 22 = .ok (.iadd, 1) := by decide +kernel
theorem dJ6_bitCount_0f7a4_23 : decode cJ6_bitCount_0f7a4 23 = .ok (.istore_n 0, 1) := by decide +kernel
theorem dJ6_bitCount_0f7a4_24 : decode cJ6_bitCount_0f7a4 24 = .ok (.iload_n 0, 1) := by decide +kernel
theorem dJ6_bitCount_0f7a4_25 : decode cJ6_bitCount_0f7a4 25 = .ok (.iload_n 0, 1) := by decide +kernel
theorem dJ6_bitCount_0f7a4_26 : decode cJ6_bitCount_0f7a4 26 = .ok (.iconst 4, 1) := by decide +kernel
theorem dJ6_bitCount_0f7a4_27 : decode cJ6_bitCount_0f7a4 27 = .ok (.iushr, 1) := by decide +kernel
theorem dJ6_bitCount_0f7a4_28 : decode cJ6_bitCount_0f7a4 28 = .ok (.iadd, 1) := by decide +kernel
theorem dJ6_bitCount_0f7a4_29 : decode cJ6_bitCount_0f7a4 29 = .ok (.ldc_w 267, 3) := by decide +kernel
theorem dJ6_bitCount_0f7a4_32 : decode cJ6_bitCount_0f7a4 32 = .ok (.iand, 1) := by decide +kernel
theorem dJ6_bitCount_0f7a4_33 : decode cJ6_bitCount_0f7a4 33 = .ok (.istore_n 0, 1) := by decide +kernel
theorem dJ6_bitCount_0f7a4_34 : decode cJ6_bitCount_0f7a4 34 = .ok (.iload_n 0, 1) := by decide +kernel
theorem dJ6_bitCount_0f7a4_35 : decode cJ6_bitCount_0f7a4 35 = .ok (.iload_n 0, 1) := by decide +kernel
theorem dJ6_bitCount_0f7a4_36 : decode cJ6_bitCount_0f7a4 36 = .ok (.bipush 8, 2) := by decide +kernel
theorem dJ6_bitCount_0f7a4_38 : decode cJ6_bitCount_0f7a4 38 = .ok (.iushr, 1) := by decide +kernel
theorem dJ6_bitCount_0f7a4_39 : decode cJ6_bitCount_0f7a4 39 = .ok (.iadd, 1) := by decide +kernel
theorem dJ6_bitCount_0f7a4_40 : decode cJ6_bitCount_0f7a4 40 = .ok (.istore_n 0, 1) := by decide +kernel
theorem dJ6_bitCount_0f7a4_41 : decode cJ6_bitCount_0f7a4 41 = .ok (.iload_n 0, 1) := by decide +kernel
theorem dJ6_bitCount_0f7a4_42 : decode cJ6_bitCount_0f7a4 42 = .ok (.iload_n 0, 1) := by decide +kernel
theorem dJ6_bitCount_0f7a4_43 : decode cJ6_bitCount_0f7a4 43 = .ok (.bipush 16, 2) := by decide +kernel
theorem dJ6_bitCount_0f7a4_45 : decode cJ6_bitCount_0f7a4 45 = .ok (.iushr, 1) := by decide +kernel
theorem dJ6_bitCount_0f7a4_46 : decode cJ6_bitCount_0f7a4 46 = .ok (.iadd, 1) := by decide +kernel
theorem dJ6_bitCount_0f7a4_47 : decode cJ6_bitCount_0f7a4 47 = .ok (.istore_n 0, 1) := by decide +kernel
theorem dJ6_bitCount_0f7a4_48 : decode cJ6_bitCount_0f7a4 48 = .ok (.iload_n 0, 1) := by decide +kernel
theorem dJ6_bitCount_0f7a4_49 : decode cJ6_bitCount_0f7a4 49 = .ok (.bipush 63, 2) := by decide +kernel
theorem dJ6_bitCount_0f7a4_51 : decode cJ6_bitCount_0f7a4 51 = .ok (.iand, 1) := by decide +kernel
theorem dJ6_bitCount_0f7a4_52 : decode cJ6_bitCount_0f7a4 52 = .ok (.ireturn, 1) := by decide +kernel
theorem dJ9_abs_0f7a4_0 : decode cJ9_abs_0f7a4 0 = .ok (.iload_n 0, 1) := by decide +kernel
theorem dJ9_abs_0f7a4_1 : decode cJ9_abs_0f7a4 1 = .ok (.ifCond .ge 8, 3) := by decide +kernel
theorem dJ9_abs_0f7a4_4 : decode cJ9_abs_0f7a4 4 = .ok (.iload_n 0, 1) := by decide +kernel
theorem dJ9_abs_0f7a4_5 : decode cJ9_abs_0f7a4 5 = .ok (.ineg, 1) := by decide +kernel
theorem dJ9_abs_0f7a4_6 : decode cJ9_abs_0f7a4 6 = .ok (.goto 4, 3) := by decide +kernel
theorem dJ9_abs_0f7a4_9 : decode cJ9_abs_0f7a4 9 = .ok (.iload_n 0, 1) := by decide +kernel
theorem dJ9_abs_0f7a4_10 : decode cJ9_abs_0f7a4 10 = .ok (.ireturn, 1) := by decide +kernel
theorem dJ9_abs_067f4_0 : decode cJ9_abs_067f4 0 = .ok (.lload_n 0, 1) := by decide +kernel
theorem dJ9_abs_067f4_1 : decode cJ9_abs_067f4 1 = .ok (.lconst 0, 1) := by decide +kernel
theorem dJ9_abs_067f4_2 : decode cJ9_abs_067f4 2 = .ok (.lcmp, 1) := by decide +kernel
theorem dJ9_abs_067f4_3 : decode cJ9_abs_067f4 3 = .ok (.ifCond .ge 8, 3) := by decide +kernel
theorem dJ9_abs_067f4_6 : decode cJ9_abs_067f4 6 = .ok (.lload_n 0, 1) := by decide +kernel
theorem dJ9_abs_067f4_7 : decode cJ9_abs_067f4 7 = .ok (.lneg, 1) := by decide +kernel
theorem dJ9_abs_067f4_8 : decode cJ9_abs_067f4 8 = .ok (.goto 4, 3) := by decide +kernel
theorem dJ9_abs_067f4_11 : decode cJ9_abs_067f4 11 = .ok (.lload_n 0, 1) := by decide +kernel
theorem dJ9_abs_067f4_12 : decode cJ9_abs_067f4 12 = .ok (.lreturn, 1) := by decide +kernel
theorem dJ9_max_7cf53_0 : decode cJ9_max_7cf53 0 = .ok (.iload_n 0, 1) := by decide +kernel
theorem dJ9_max_7cf53_1 : decode cJ9_max_7cf53 1 = .ok (.iload_n 1, 1) := by decide +kernel
theorem dJ9_max_7cf53_2 : decode cJ9_max_7cf53 2 = .ok (.if_icmp .lt 7, 3) := by decide +kernel
theorem dJ9_max_7cf53_5 : decode cJ9_max_7cf53 5 = .ok (.iload_n 0, 1) := by decide +kernel
theorem dJ9_max_7cf53_6 : decode cJ9_max_7cf53 6 = .ok (.goto 4, 3) := by decide +kernel
theorem dJ9_max_7cf53_9 : decode cJ9_max_7cf53 9 = .ok (.iload_n 1, 1) := by decide +kernel
theorem dJ9_max_7cf53_10 : decode cJ9_max_7cf53 10 = .ok (.ireturn, 1) := by decide +kernel
theorem dJ9_min_7cf53_0 : decode cJ9_min_7cf53 0 = .ok (.iload_n 0, 1) := by decide +kernel
theorem dJ9_min_7cf53_1 : decode cJ9_min_7cf53 1 = .ok (.iload_n 1, 1) := by decide +kernel
theorem dJ9_min_7cf53_2 : decode cJ9_min_7cf53 2 = .ok (.if_icmp .gt 7, 3) := by decide +kernel
theorem dJ9_min_7cf53_5 : decode cJ9_min_7cf53 5 = .ok (.iload_n 0, 1) := by decide +kernel
theorem dJ9_min_7cf53_6 : decode cJ9_min_7cf53 6 = .ok (.goto 4, 3) := by decide +kernel
theorem dJ9_min_7cf53_9 : decode cJ9_min_7cf53 9 = .ok (.iload_n 1, 1) := by decide +kernel
theorem dJ9_min_7cf53_10 : decode cJ9_min_7cf53 10 = .ok (.ireturn, 1) := by decide +kernel
theorem dJ0_length_8abf5_0 : decode cJ0_length_8abf5 0 = .ok (.aload_n 0, 1) := by decide +kernel
theorem dJ0_length_8abf5_1 : decode cJ0_length_8abf5 1 = .ok (.getfield 9, 3) := by decide +kernel
theorem dJ0_length_8abf5_4 : decode cJ0_length_8abf5 4 = .ok (.arraylength, 1) := by decide +kernel
theorem dJ0_length_8abf5_5 : decode cJ0_length_8abf5 5 = .ok (.aload_n 0, 1) := by decide +kernel
theorem dJ0_length_8abf5_6 : decode cJ0_length_8abf5 6 = .ok (.invokevirtual 335, 3) := by decide +kernel
theorem dJ0_length_8abf5_9 : decode cJ0_length_8abf5 9 = .ok (.ishr, 1) := by decide +kernel
theorem dJ0_length_8abf5_10 : decode cJ0_length_8abf5 10 = .ok (.ireturn, 1) := by decide +kernel
theorem dJ0_charAt_5068e_0 : decode cJ0_charAt_5068e 0 = .ok (.aload_n 0, 1) := by decide +kernel
theorem dJ0_charAt_5068e_1 : decode cJ0_charAt_5068e 1 = .ok (.invokevirtual 492, 3) := by decide +kernel
theorem dJ0_charAt_5068e_4 : decode cJ0_charAt_5068e 4 = .ok (.ifCond .eq 12, 3) := by decide +kernel
theorem dJ0_charAt_5068e_7 : decode cJ0_charAt_5068e 7 = .ok (.aload_n 0, 1) := by decide +kernel
theorem dJ0_charAt_5068e_8 : decode cJ0_charAt_5068e 8 = .ok (.getfield 9, 3) := by decide +kernel
theorem dJ0_charAt_5068e_11 : decode cJ0_charAt_5068e 11 = .ok (.iload_n 1, 1) := by decide +kernel
theorem dJ0_charAt_5068e_12 : decode cJ0_charAt_5068e 12 = .ok (.invokestatic 495, 3) := by decide +kernel
theorem dJ0_charAt_5068e_15 : decode cJ0_charAt_5068e 15 = .ok (.ireturn, 1) := by decide +kernel
theorem dJ0_charAt_5068e_16 : decode cJ0_charAt_5068e 16 = .ok (.aload_n 0, 1) := by decide +kernel
theorem dJ0_charAt_5068e_17 : decode cJ0_charAt_5068e 17 = .ok (.getfield 9, 3) := by decide +kernel
theorem dJ0_charAt_5068e_20 : decode cJ0_charAt_5068e 20 = .ok (.iload_n 1, 1) := by decide +kernel
theorem dJ0_charAt_5068e_21 : decode cJ0_charAt_5068e 21 = .ok (.invokestatic 498, 3) := by decide +kernel
theorem dJ0_charAt_5068e_24 : decode cJ0_charAt_5068e 24 = .ok (.ireturn, 1) := by decide +kernel
theorem dJ0_coder_7d493_0 : decode cJ0_coder_7d493 0 = .ok (.getstatic 38, 3) := by decide +kernel
theorem dJ0_coder_7d493_3 : decode cJ0_coder_7d493 3 = .ok (.ifCond .eq 10, 3) := by decide +kernel
theorem dJ0_coder_7d493_6 : decode cJ0_coder_7d493 6 = .ok (.aload_n 0, 1) := by decide +kernel
theorem dJ0_coder_7d493_7 : decode cJ0_coder_7d493 7 = .ok (.getfield 15, 3) := by decide +kernel
theorem dJ0_coder_7d493_10 : decode cJ0_coder_7d493 10 = .ok (.goto 4, 3) := by decide +kernel
theorem dJ0_coder_7d493_13 : decode cJ0_coder_7d493 13 = .ok (.iconst 1, 1) := by decide +kernel
theorem dJ0_coder_7d493_14 : decode cJ0_coder_7d493 14 = .ok (.ireturn, 1) := by decide +kernel
theorem dJ0_isLatin1_aae02_0 : decode cJ0_isLatin1_aae02 0 = .ok (.getstatic 38, 3) := by decide +kernel
theorem dJ0_isLatin1_aae02_3 : decode cJ0_isLatin1_aae02 3 = .ok (.ifCond .eq 14, 3) := by decide +kernel
theorem dJ0_isLatin1_aae02_6 : decode cJ0_isLatin1_aae02 6 = .ok (.aload_n 0, 1) := by decide +kernel
theorem dJ0_isLatin1_aae02_7 : decode cJ0_isLatin1_aae02 7 = .ok (.getfield 15, 3) := by decide +kernel
theorem dJ0_isLatin1_aae02_10 : decode cJ0_isLatin1_aae02 10 = .ok (.ifCond .ne 7, 3) := by decide +kernel
theorem dJ0_isLatin1_aae02_13 : decode cJ0_isLatin1_aae02 13 = .ok (.iconst 1, 1) := by decide +kernel
theorem dJ0_isLatin1_aae02_14 : decode cJ0_isLatin1_aae02 14 = .ok (.goto 4, 3) := by decide +kernel
theorem dJ0_isLatin1_aae02_17 : decode cJ0_isLatin1_aae02 17 = .ok (.iconst 0, 1) := by decide +kernel
theorem dJ0_isLatin1_aae02_18 : decode cJ0_isLatin1_aae02 18 = .ok (.ireturn, 1) := by decide +kernel
theorem dJ0_checkIndex_df160_0 : decode cJ0_checkIndex_df160 0 = .ok (.iload_n 0, 1) := by decide +kernel
theorem dJ0_checkIndex_df160_1 : decode cJ0_checkIndex_df160 1 = .ok (.iload_n 1, 1) := by decide +kernel
theorem dJ0_checkIndex_df160_2 : decode cJ0_checkIndex_df160 2 = .ok (.getstatic 1053, 3) := by decide +kernel
theorem dJ0_checkIndex_df160_5 : decode cJ0_checkIndex_df160 5 = .ok (.invokestatic 1059, 3) := by decide +kernel
theorem dJ0_checkIndex_df160_8 : decode cJ0_checkIndex_df160 8 = .ok (.pop, 1) := by decide +kernel
theorem dJ0_checkIndex_df160_9 : decode cJ0_checkIndex_df160 9 = .ok (.return_, 1) := by decide +kernel
theorem dJ1_charAt_3b067_0 : decode cJ1_charAt_3b067 0 = .ok (.iload_n 1, 1) := by decide +kernel
theorem dJ1_charAt_3b067_1 : decode cJ1_charAt_3b067 1 = .ok (.aload_n 0, 1) := by decide +kernel
theorem dJ1_charAt_3b067_2 : decode cJ1_charAt_3b067 2 = .ok (.arraylength, 1) := by decide +kernel
theorem dJ1_charAt_3b067_3 : decode cJ1_charAt_3b067 3 = .ok (.invokestatic 9, 3) := by decide +kernel
theorem dJ1_charAt_3b067_6 : decode cJ1_charAt_3b067 6 = .ok (.aload_n 0, 1) := by decide +kernel
theorem dJ1_charAt_3b067_7 : decode cJ1_charAt_3b067 7 = .ok (.iload_n 1, 1) := by decide +kernel
theorem dJ1_charAt_3b067_8 : decode cJ1_charAt_3b067 8 = .ok (.baload, 1) := by decide +kernel
theorem dJ1_charAt_3b067_9 : decode cJ1_charAt_3b067 9 = .ok (.sipush 255, 3) := by decide +kernel
theorem dJ1_charAt_3b067_12 : decode cJ1_charAt_3b067 12 = .ok (.iand, 1) := by decide +kernel
theorem dJ1_charAt_3b067_13 : decode cJ1_charAt_3b067 13 = .ok (.i2c, 1) := by decide +kernel
theorem dJ1_charAt_3b067_14 : decode cJ1_charAt_3b067 14 = .ok (.ireturn, 1) := by decide +kernel
theorem dJ2_getChar_3b067_0 : decode cJ2_getChar_3b067 0 = .ok (.getstatic 44, 3) := by decide +kernel
theorem dJ2_getChar_3b067_3 : decode cJ2_getChar_3b067 3 = .ok (.ifCond .ne 25, 3) := by decide +kernel
theorem dJ2_getChar_3b067_6 : decode cJ2_getChar_3b067 6 = .ok (.iload_n 1, 1) := by decide +kernel
theorem dJ2_getChar_3b067_7 : decode cJ2_getChar_3b067 7 = .ok (.ifCond .lt 11, 3) := by decide +kernel
theorem dJ2_getChar_3b067_10 : decode cJ2_getChar_3b067 10 = .ok (.iload_n 1, 1) := by decide +kernel
theorem dJ2_getChar_3b067_11 : decode cJ2_getChar_3b067 11 = .ok (.aload_n 0, 1) := by decide +kernel
theorem dJ2_getChar_3b067_12 : decode cJ2_getChar_3b067 12 = .ok (.invokestatic 48, 3) := by decide +kernel
theorem dJ2_getChar_3b067_15 : decode cJ2_getChar_3b067 15 = .ok (.if_icmp .lt 13, 3) := by decide +kernel
theorem dJ2_getChar_3b067_18 : decode cJ2_getChar_3b067 18 = .ok (.new 52, 3) := by decide +kernel
theorem dJ2_getChar_3b067_21 : decode cJ2_getChar_3b067 21 = .ok (.dup, 1) := by decide +kernel
theorem dJ2_getChar_3b067_22 : decode cJ2_getChar_3b067 22 = .ok (.ldc 54, 2) := by decide +kernel
theorem dJ2_getChar_3b067_24 : decode cJ2_getChar_3b067 24 = .ok (.invokespecial 56, 3) := by decide +kernel
theorem dJ2_getChar_3b067_27 : decode cJ2_getChar_3b067 27 = .ok (.athrow, 1) := by decide +kernel
theorem dJ2_getChar_3b067_28 : decode cJ2_getChar_3b067 28 = .ok (.iload_n 1, 1) := by decide +kernel
theorem dJ2_getChar_3b067_29 : decode cJ2_getChar_3b067 29 = .ok (.iconst 1, 1) := by decide +kernel
theorem dJ2_getChar_3b067_30 : decode cJ2_getChar_3b067 30 = .ok (.ishl, 1) := by decide +kernel
theorem dJ2_getChar_3b067_31 : decode cJ2_getChar_3b067 31 = .ok (.istore_n 1, 1) := by decide +kernel
theorem dJ2_getChar_3b067_32 : decode cJ2_getChar_3b067 32 = .ok (.aload_n 0, 1) := by decide +kernel
theorem dJ2_getChar_3b067_33 : decode cJ2_getChar_3b067 33 = .ok (.iload_n 1, 1) := by decide +kernel
theorem dJ2_getChar_3b067_34 : decode cJ2_getChar_3b067 34 = .ok (.iinc 1 1, 3) := by decide +kernel
theorem dJ2_getChar_3b067_37 : decode cJ2_getChar_3b067 37 = .ok (.baload, 1) := by decide +kernel
theorem dJ2_getChar_3b067_38 : decode cJ2_getChar_3b067 38 = .ok (.sipush 255, 3) := by decide +kernel
theorem dJ2_getChar_3b067_41 : decode cJ2_getChar_3b067 41 = .ok (.iand, 1) := by decide +kernel
theorem dJ2_getChar_3b067_42 : decode cJ2_getChar_3b067 42 = .ok (.getstatic 59, 3) := by decide +kernel
theorem dJ2_getChar_3b067_45 : decode cJ2_getChar_3b067 45 = .ok (.ishl, 1) := by decide +kernel
theorem dJ2_getChar_3b067_46 : decode cJ2_getChar_3b067 46 = .ok (.aload_n 0, 1) := by decide +kernel
theorem dJ2_getChar_3b067_47 : decode cJ2_getChar_3b067 47 = .ok (.iload_n 1, 1) := by decide +kernel
theorem dJ2_getChar_3b067_48 : decode cJ2_getChar_3b067 48 = .ok (.baload, 1) := by decide +kernel
theorem dJ2_getChar_3b067_49 : decode cJ2_getChar_3b067 49 = .ok (.sipush 255, 3) := by decide +kernel
theorem dJ2_getChar_3b067_52 : decode cJ2_getChar_3b067 52 = .ok (.iand, 1) := by decide +kernel
theorem dJ2_getChar_3b067_53 : decode cJ2_getChar_3b067 53 = .ok (.getstatic 63, 3) := by decide +kernel
theorem dJ2_getChar_3b067_56 : decode cJ2_getChar_3b067 56 = .ok (.ishl, 1) := by decide +kernel
theorem dJ2_getChar_3b067_57 : decode cJ2_getChar_3b067 57 = .ok (.ior, 1) := by decide +kernel
theorem dJ2_getChar_3b067_58 : decode cJ2_getChar_3b067 58 = .ok (.i2c, 1) := by decide +kernel
theorem dJ2_getChar_3b067_59 : decode cJ2_getChar_3b067 59 = .ok (.ireturn, 1) := by decide +kernel
theorem dJ2_length_9d52b_0 : decode cJ2_length_9d52b 0 = .ok (.aload_n 0, 1) := by decide +kernel
theorem dJ2_length_9d52b_1 : decode cJ2_length_9d52b 1 = .ok (.arraylength, 1) := by decide +kernel
theorem dJ2_length_9d52b_2 : decode cJ2_length_9d52b 2 = .ok (.iconst 1, 1) := by decide +kernel
theorem dJ2_length_9d52b_3 : decode cJ2_length_9d52b 3 = .ok (.ishr, 1) := by decide +kernel
theorem dJ2_length_9d52b_4 : decode cJ2_length_9d52b 4 = .ok (.ireturn, 1) := by decide +kernel
theorem dJ2_charAt_3b067_0 : decode cJ2_charAt_3b067 0 = .ok (.iload_n 1, 1) := by decide +kernel
theorem dJ2_charAt_3b067_1 : decode cJ2_charAt_3b067 1 = .ok (.aload_n 0, 1) := by decide +kernel
theorem dJ2_charAt_3b067_2 : decode cJ2_charAt_3b067 2 = .ok (.invokestatic 67, 3) := by decide +kernel
theorem dJ2_charAt_3b067_5 : decode cJ2_charAt_3b067 5 = .ok (.aload_n 0, 1) := by decide +kernel
theorem dJ2_charAt_3b067_6 : decode cJ2_charAt_3b067 6 = .ok (.iload_n 1, 1) := by decide +kernel
theorem dJ2_charAt_3b067_7 : decode cJ2_charAt_3b067 7 = .ok (.invokestatic 71, 3) := by decide +kernel
theorem dJ2_charAt_3b067_10 : decode cJ2_charAt_3b067 10 = .ok (.ireturn, 1) := by decide +kernel
theorem dJ2_checkIndex_2214a_0 : decode cJ2_checkIndex_2214a 0 = .ok (.iload_n 0, 1) := by decide +kernel
theorem dJ2_checkIndex_2214a_1 : decode cJ2_checkIndex_2214a 1 = .ok (.aload_n 1, 1) := by decide +kernel
theorem dJ2_checkIndex_2214a_2 : decode cJ2_checkIndex_2214a 2 = .ok (.invokestatic 48, 3) := by decide +kernel
theorem dJ2_checkIndex_2214a_5 : decode cJ2_checkIndex_2214a 5 = .ok (.invokestatic 414, 3) := by decide +kernel
theorem dJ2_checkIndex_2214a_8 : decode cJ2_checkIndex_2214a 8 = .ok (.return_, 1) := by decide +kernel
theorem dJ3_checkIndex_8e157_0 : decode cJ3_checkIndex_8e157 0 = .ok (.iload_n 0, 1) := by decide +kernel
theorem dJ3_checkIndex_8e157_1 : decode cJ3_checkIndex_8e157 1 = .ok (.ifCond .lt 8, 3) := by decide +kernel
theorem dJ3_checkIndex_8e157_4 : decode cJ3_checkIndex_8e157 4 = .ok (.iload_n 0, 1) := by decide +kernel
theorem dJ3_checkIndex_8e157_5 : decode cJ3_checkIndex_8e157 5 = .ok (.iload_n 1, 1) := by decide +kernel
theorem dJ3_checkIndex_8e157_6 : decode cJ3_checkIndex_8e157 6 = .ok (.if_icmp .lt 10, 3) := by decide +kernel
theorem dJ3_checkIndex_8e157_9 : decode cJ3_checkIndex_8e157 9 = .ok (.aload_n 2, 1) := by decide +kernel
theorem dJ3_checkIndex_8e157_10 : decode cJ3_checkIndex_8e157 10 = .ok (.iload_n 0, 1) := by decide +kernel
theorem dJ3_checkIndex_8e157_11 : decode cJ3_checkIndex_8e157 11 = .ok (.iload_n 1, 1) := by decide +kernel
theorem dJ3_checkIndex_8e157_12 : decode cJ3_checkIndex_8e157 12 = .ok (.invokestatic 95, 3) := by decide +kernel
theorem dJ3_checkIndex_8e157_15 : decode cJ3_checkIndex_8e157 15 = .ok (.athrow, 1) := by decide +kernel
theorem dJ3_checkIndex_8e157_16 : decode cJ3_checkIndex_8e157 16 = .ok (.iload_n 0, 1) := by decide +kernel
theorem dJ3_checkIndex_8e157_17 : decode cJ3_checkIndex_8e157 17 = .ok (.ireturn, 1) := by decide +kernel
theorem dL_law_0 : dcd cL_law 0 = some (.new 7, 3) := by decide +kernel
theorem dL_law_3 : dcd cL_law 3 = some (.dup, 4) := by decide +kernel
theorem dL_law_4 : dcd cL_law 4 = some (.invokespecial 9, 7) := by decide +kernel
theorem dL_law_7 : dcd cL_law 7 = some (.astore_n 1, 8) := by decide +kernel
theorem dL_law_8 : dcd cL_law 8 = some (.new 10, 11) := by decide +kernel
theorem dL_law_11 : dcd cL_law 11 = some (.dup, 12) := by decide +kernel
theorem dL_law_12 : dcd cL_law 12 = some (.invokespecial 12, 15) := by decide +kernel
theorem dL_law_15 : dcd cL_law 15 = some (.astore_n 2, 16) := by decide +kernel
theorem dL_law_16 : dcd cL_law 16 = some (.iconst 0, 17) := by decide +kernel
theorem dL_law_17 : dcd cL_law 17 = some (.istore_n 3, 18) := by decide +kernel
theorem dL_law_18 : dcd cL_law 18 = some (.iload_n 3, 19) := by decide +kernel
theorem dL_law_19 : dcd cL_law 19 = some (.aload_n 0, 20) := by decide +kernel
theorem dL_law_20 : dcd cL_law 20 = some (.arraylength, 21) := by decide +kernel
theorem dL_law_21 : dcd cL_law 21 = some (.iconst 5, 22) := by decide +kernel
theorem dL_law_22 : dcd cL_law 22 = some (.isub, 23) := by decide +kernel
theorem dL_law_23 : dcd cL_law 23 = some (.if_icmp .gt 996, 26) := by decide +kernel
theorem dL_law_26 : dcd cL_law 26 = some (.aload_n 0, 27) := by decide +kernel
theorem dL_law_27 : dcd cL_law 27 = some (.iload_n 3, 28) := by decide +kernel
theorem dL_law_28 : dcd cL_law 28 = some (.iaload, 29) := by decide +kernel
theorem dL_law_29 : dcd cL_law 29 = some (.bipush 31, 31) := by decide +kernel
theorem dL_law_31 : dcd cL_law 31 = some (.iand, 32) := by decide +kernel
theorem dL_law_32 : dcd cL_law 32 = some (.tableswitch 981 0 31 #[144, 207, 220, 233, 266, 299, 332, 365, 388, 401, 424, 447, 480, 503, 536, 559, 582, 595, 608, 641, 664, 717, 760, 793, 806, 829, 842, 865, 898, 921, 944, 967], 176) := by decide +kernel
theorem dL_law_176 : dcd cL_law 176 = some (.aload_n 1, 177) := by decide +kernel
theorem dL_law_177 : dcd cL_law 177 = some (.aload_n 0, 178) := by decide +kernel
theorem dL_law_178 : dcd cL_law 178 = some (.iload_n 3, 179) := by decide +kernel
theorem dL_law_179 : dcd cL_law 179 = some (.iconst 1, 180) := by decide +kernel
theorem dL_law_180 : dcd cL_law 180 = some (.iadd, 181) := by decide +kernel
theorem dL_law_181 : dcd cL_law 181 = some (.iaload, 182) := by decide +kernel
theorem dL_law_182 : dcd cL_law 182 = some (.i2l, 183) := by decide +kernel
theorem dL_law_183 : dcd cL_law 183 = some (.bipush 32, 185) := by decide +kernel
theorem dL_law_185 : dcd cL_law 185 = some (.lshl, 186) := by decide +kernel
theorem dL_law_186 : dcd cL_law 186 = some (.aload_n 0, 187) := by decide +kernel
theorem dL_law_187 : dcd cL_law 187 = some (.iload_n 3, 188) := by decide +kernel
theorem dL_law_188 : dcd cL_law 188 = some (.iconst 2, 189) := by decide +kernel
theorem dL_law_189 : dcd cL_law 189 = some (.iadd, 190) := by decide +kernel
theorem dL_law_190 : dcd cL_law 190 = some (.iaload, 191) := by decide +kernel
theorem dL_law_191 : dcd cL_law 191 = some (.i2l, 192) := by decide +kernel
theorem dL_law_192 : dcd cL_law 192 = some (.ldc2_w 13, 195) := by decide +kernel
theorem dL_law_195 : dcd cL_law 195 = some (.land, 196) := by decide +kernel
theorem dL_law_196 : dcd cL_law 196 = some (.lor, 197) := by decide +kernel
theorem dL_law_197 : dcd cL_law 197 = some (.aload_n 0, 198) := by decide +kernel
theorem dL_law_198 : dcd cL_law 198 = some (.iload_n 3, 199) := by decide +kernel
theorem dL_law_199 : dcd cL_law 199 = some (.iconst 3, 200) := by decide +kernel
theorem dL_law_200 : dcd cL_law 200 = some (.iadd, 201) := by decide +kernel
theorem dL_law_201 : dcd cL_law 201 = some (.iaload, 202) := by decide +kernel
theorem dL_law_202 : dcd cL_law 202 = some (.invokevirtual 15, 205) := by decide +kernel
theorem dL_law_205 : dcd cL_law 205 = some (.aload_n 2, 206) := by decide +kernel
theorem dL_law_206 : dcd cL_law 206 = some (.aload_n 0, 207) := by decide +kernel
theorem dL_law_207 : dcd cL_law 207 = some (.iload_n 3, 208) := by decide +kernel
theorem dL_law_208 : dcd cL_law 208 = some (.iconst 1, 209) := by decide +kernel
theorem dL_law_209 : dcd cL_law 209 = some (.iadd, 210) := by decide +kernel
theorem dL_law_210 : dcd cL_law 210 = some (.iaload, 211) := by decide +kernel
theorem dL_law_211 : dcd cL_law 211 = some (.i2l, 212) := by decide +kernel
theorem dL_law_212 : dcd cL_law 212 = some (.bipush 32, 214) := by decide +kernel
theorem dL_law_214 : dcd cL_law 214 = some (.lshl, 215) := by decide +kernel
theorem dL_law_215 : dcd cL_law 215 = some (.aload_n 0, 216) := by decide +kernel
theorem dL_law_216 : dcd cL_law 216 = some (.iload_n 3, 217) := by decide +kernel
theorem dL_law_217 : dcd cL_law 217 = some (.iconst 2, 218) := by decide +kernel
theorem dL_law_218 : dcd cL_law 218 = some (.iadd, 219) := by decide +kernel
theorem dL_law_219 : dcd cL_law 219 = some (.iaload, 220) := by decide +kernel
theorem dL_law_220 : dcd cL_law 220 = some (.i2l, 221) := by decide +kernel
theorem dL_law_221 : dcd cL_law 221 = some (.ldc2_w 13, 224) := by decide +kernel
theorem dL_law_224 : dcd cL_law 224 = some (.land, 225) := by decide +kernel
theorem dL_law_225 : dcd cL_law 225 = some (.lor, 226) := by decide +kernel
theorem dL_law_226 : dcd cL_law 226 = some (.aload_n 0, 227) := by decide +kernel
theorem dL_law_227 : dcd cL_law 227 = some (.iload_n 3, 228) := by decide +kernel
theorem dL_law_228 : dcd cL_law 228 = some (.iconst 3, 229) := by decide +kernel
theorem dL_law_229 : dcd cL_law 229 = some (.iadd, 230) := by decide +kernel
theorem dL_law_230 : dcd cL_law 230 = some (.iaload, 231) := by decide +kernel
theorem dL_law_231 : dcd cL_law 231 = some (.invokevirtual 19, 234) := by decide +kernel
theorem dL_law_234 : dcd cL_law 234 = some (.if_icmp .eq 779, 237) := by decide +kernel
theorem dL_law_237 : dcd cL_law 237 = some (.iconst 0, 238) := by decide +kernel
theorem dL_law_238 : dcd cL_law 238 = some (.ireturn, 239) := by decide +kernel
theorem dL_law_239 : dcd cL_law 239 = some (.aload_n 1, 240) := by decide +kernel
theorem dL_law_240 : dcd cL_law 240 = some (.invokevirtual 20, 243) := by decide +kernel
theorem dL_law_243 : dcd cL_law 243 = some (.aload_n 2, 244) := by decide +kernel
theorem dL_law_244 : dcd cL_law 244 = some (.invokevirtual 24, 247) := by decide +kernel
theorem dL_law_247 : dcd cL_law 247 = some (.if_icmp .eq 766, 250) := by decide +kernel
theorem dL_law_250 : dcd cL_law 250 = some (.iconst 0, 251) := by decide +kernel
theorem dL_law_251 : dcd cL_law 251 = some (.ireturn, 252) := by decide +kernel
theorem dL_law_252 : dcd cL_law 252 = some (.aload_n 1, 253) := by decide +kernel
theorem dL_law_253 : dcd cL_law 253 = some (.invokevirtual 25, 256) := by decide +kernel
theorem dL_law_256 : dcd cL_law 256 = some (.aload_n 2, 257) := by decide +kernel
theorem dL_law_257 : dcd cL_law 257 = some (.invokevirtual 28, 260) := by decide +kernel
theorem dL_law_260 : dcd cL_law 260 = some (.if_icmp .eq 753, 263) := by decide +kernel
theorem dL_law_263 : dcd cL_law 263 = some (.iconst 0, 264) := by decide +kernel
theorem dL_law_264 : dcd cL_law 264 = some (.ireturn, 265) := by decide +kernel
theorem dL_law_265 : dcd cL_law 265 = some (.aload_n 1, 266) := by decide +kernel
theorem dL_law_266 : dcd cL_law 266 = some (.aload_n 0, 267) := by decide +kernel
theorem dL_law_267 : dcd cL_law 267 = some (.iload_n 3, 268) := by decide +kernel
theorem dL_law_268 : dcd cL_law 268 = some (.iconst 1, 269) := by decide +kernel
theorem dL_law_269 : dcd cL_law 269 = some (.iadd, 270) := by decide +kernel
theorem dL_law_270 : dcd cL_law 270 = some (.iaload, 271) := by decide +kernel
theorem dL_law_271 : dcd cL_law 271 = some (.aload_n 0, 272) := by decide +kernel
theorem dL_law_272 : dcd cL_law 272 = some (.iload_n 3, 273) := by decide +kernel
theorem dL_law_273 : dcd cL_law 273 = some (.iconst 2, 274) := by decide +kernel
theorem dL_law_274 : dcd cL_law 274 = some (.iadd, 275) := by decide +kernel
theorem dL_law_275 : dcd cL_law 275 = some (.iaload, 276) := by decide +kernel
theorem dL_law_276 : dcd cL_law 276 = some (.invokevirtual 29, 279) := by decide +kernel
theorem dL_law_279 : dcd cL_law 279 = some (.aload_n 2, 280) := by decide +kernel
theorem dL_law_280 : dcd cL_law 280 = some (.aload_n 0, 281) := by decide +kernel
theorem dL_law_281 : dcd cL_law 281 = some (.iload_n 3, 282) := by decide +kernel
theorem dL_law_282 : dcd cL_law 282 = some (.iconst 1, 283) := by decide +kernel
theorem dL_law_283 : dcd cL_law 283 = some (.iadd, 284) := by decide +kernel
theorem dL_law_284 : dcd cL_law 284 = some (.iaload, 285) := by decide +kernel
theorem dL_law_285 : dcd cL_law 285 = some (.aload_n 0, 286) := by decide +kernel
theorem dL_law_286 : dcd cL_law 286 = some (.iload_n 3, 287) := by decide +kernel
theorem dL_law_287 : dcd cL_law 287 = some (.iconst 2, 288) := by decide +kernel
theorem dL_law_288 : dcd cL_law 288 = some (.iadd, 289) := by decide +kernel
theorem dL_law_289 : dcd cL_law 289 = some (.iaload, 290) := by decide +kernel
theorem dL_law_290 : dcd cL_law 290 = some (.invokevirtual 33, 293) := by decide +kernel
theorem dL_law_293 : dcd cL_law 293 = some (.if_icmp .eq 720, 296) := by decide +kernel
theorem dL_law_296 : dcd cL_law 296 = some (.iconst 0, 297) := by decide +kernel
theorem dL_law_297 : dcd cL_law 297 = some (.ireturn, 298) := by decide +kernel
theorem dL_law_298 : dcd cL_law 298 = some (.aload_n 1, 299) := by decide +kernel
theorem dL_law_299 : dcd cL_law 299 = some (.aload_n 0, 300) := by decide +kernel
theorem dL_law_300 : dcd cL_law 300 = some (.iload_n 3, 301) := by decide +kernel
theorem dL_law_301 : dcd cL_law 301 = some (.iconst 1, 302) := by decide +kernel
theorem dL_law_302 : dcd cL_law 302 = some (.iadd, 303) := by decide +kernel
theorem dL_law_303 : dcd cL_law 303 = some (.iaload, 304) := by decide +kernel
theorem dL_law_304 : dcd cL_law 304 = some (.aload_n 0, 305) := by decide +kernel
theorem dL_law_305 : dcd cL_law 305 = some (.iload_n 3, 306) := by decide +kernel
theorem dL_law_306 : dcd cL_law 306 = some (.iconst 2, 307) := by decide +kernel
theorem dL_law_307 : dcd cL_law 307 = some (.iadd, 308) := by decide +kernel
theorem dL_law_308 : dcd cL_law 308 = some (.iaload, 309) := by decide +kernel
theorem dL_law_309 : dcd cL_law 309 = some (.invokevirtual 34, 312) := by decide +kernel
theorem dL_law_312 : dcd cL_law 312 = some (.aload_n 2, 313) := by decide +kernel
theorem dL_law_313 : dcd cL_law 313 = some (.aload_n 0, 314) := by decide +kernel
theorem dL_law_314 : dcd cL_law 314 = some (.iload_n 3, 315) := by decide +kernel
theorem dL_law_315 : dcd cL_law 315 = some (.iconst 1, 316) := by decide +kernel
theorem dL_law_316 : dcd cL_law 316 = some (.iadd, 317) := by decide +kernel
theorem dL_law_317 : dcd cL_law 317 = some (.iaload, 318) := by decide +kernel
theorem dL_law_318 : dcd cL_law 318 = some (.aload_n 0, 319) := by decide +kernel
theorem dL_law_319 : dcd cL_law 319 = some (.iload_n 3, 320) := by decide +kernel
theorem dL_law_320 : dcd cL_law 320 = some (.iconst 2, 321) := by decide +kernel
theorem dL_law_321 : dcd cL_law 321 = some (.iadd, 322) := by decide +kernel
theorem dL_law_322 : dcd cL_law 322 = some (.iaload, 323) := by decide +kernel
theorem dL_law_323 : dcd cL_law 323 = some (.invokevirtual 37, 326) := by decide +kernel
theorem dL_law_326 : dcd cL_law 326 = some (.if_icmp .eq 687, 329) := by decide +kernel
theorem dL_law_329 : dcd cL_law 329 = some (.iconst 0, 330) := by decide +kernel
theorem dL_law_330 : dcd cL_law 330 = some (.ireturn, 331) := by decide +kernel
theorem dL_law_331 : dcd cL_law 331 = some (.aload_n 1, 332) := by decide +kernel
theorem dL_law_332 : dcd cL_law 332 = some (.aload_n 0, 333) := by decide +kernel
theorem dL_law_333 : dcd cL_law 333 = some (.iload_n 3, 334) := by decide +kernel
theorem dL_law_334 : dcd cL_law 334 = some (.iconst 1, 335) := by decide +kernel
theorem dL_law_335 : dcd cL_law 335 = some (.iadd, 336) := by decide +kernel
theorem dL_law_336 : dcd cL_law 336 = some (.iaload, 337) := by decide +kernel
theorem dL_law_337 : dcd cL_law 337 = some (.aload_n 0, 338) := by decide +kernel
theorem dL_law_338 : dcd cL_law 338 = some (.iload_n 3, 339) := by decide +kernel
theorem dL_law_339 : dcd cL_law 339 = some (.iconst 2, 340) := by decide +kernel
theorem dL_law_340 : dcd cL_law 340 = some (.iadd, 341) := by decide +kernel
theorem dL_law_341 : dcd cL_law 341 = some (.iaload, 342) := by decide +kernel
theorem dL_law_342 : dcd cL_law 342 = some (.invokevirtual 38, 345) := by decide +kernel
theorem dL_law_345 : dcd cL_law 345 = some (.aload_n 2, 346) := by decide +kernel
theorem dL_law_346 : dcd cL_law 346 = some (.aload_n 0, 347) := by decide +kernel
theorem dL_law_347 : dcd cL_law 347 = some (.iload_n 3, 348) := by decide +kernel
theorem dL_law_348 : dcd cL_law 348 = some (.iconst 1, 349) := by decide +kernel
theorem dL_law_349 : dcd cL_law 349 = some (.iadd, 350) := by decide +kernel
theorem dL_law_350 : dcd cL_law 350 = some (.iaload, 351) := by decide +kernel
theorem dL_law_351 : dcd cL_law 351 = some (.aload_n 0, 352) := by decide +kernel
theorem dL_law_352 : dcd cL_law 352 = some (.iload_n 3, 353) := by decide +kernel
theorem dL_law_353 : dcd cL_law 353 = some (.iconst 2, 354) := by decide +kernel
theorem dL_law_354 : dcd cL_law 354 = some (.iadd, 355) := by decide +kernel
theorem dL_law_355 : dcd cL_law 355 = some (.iaload, 356) := by decide +kernel
theorem dL_law_356 : dcd cL_law 356 = some (.invokevirtual 41, 359) := by decide +kernel
theorem dL_law_359 : dcd cL_law 359 = some (.if_icmp .eq 654, 362) := by decide +kernel
theorem dL_law_362 : dcd cL_law 362 = some (.iconst 0, 363) := by decide +kernel
theorem dL_law_363 : dcd cL_law 363 = some (.ireturn, 364) := by decide +kernel
theorem dL_law_364 : dcd cL_law 364 = some (.aload_n 1, 365) := by decide +kernel
theorem dL_law_365 : dcd cL_law 365 = some (.aload_n 0, 366) := by decide +kernel
theorem dL_law_366 : dcd cL_law 366 = some (.iload_n 3, 367) := by decide +kernel
theorem dL_law_367 : dcd cL_law 367 = some (.iconst 1, 368) := by decide +kernel
theorem dL_law_368 : dcd cL_law 368 = some (.iadd, 369) := by decide +kernel
theorem dL_law_369 : dcd cL_law 369 = some (.iaload, 370) := by decide +kernel
theorem dL_law_370 : dcd cL_law 370 = some (.aload_n 0, 371) := by decide +kernel
theorem dL_law_371 : dcd cL_law 371 = some (.iload_n 3, 372) := by decide +kernel
theorem dL_law_372 : dcd cL_law 372 = some (.iconst 2, 373) := by decide +kernel
theorem dL_law_373 : dcd cL_law 373 = some (.iadd, 374) := by decide +kernel
theorem dL_law_374 : dcd cL_law 374 = some (.iaload, 375) := by decide +kernel
theorem dL_law_375 : dcd cL_law 375 = some (.invokevirtual 42, 378) := by decide +kernel
theorem dL_law_378 : dcd cL_law 378 = some (.aload_n 2, 379) := by decide +kernel
theorem dL_law_379 : dcd cL_law 379 = some (.aload_n 0, 380) := by decide +kernel
theorem dL_law_380 : dcd cL_law 380 = some (.iload_n 3, 381) := by decide +kernel
theorem dL_law_381 : dcd cL_law 381 = some (.iconst 1, 382) := by decide +kernel
theorem dL_law_382 : dcd cL_law 382 = some (.iadd, 383) := by decide +kernel
theorem dL_law_383 : dcd cL_law 383 = some (.iaload, 384) := by decide +kernel
theorem dL_law_384 : dcd cL_law 384 = some (.aload_n 0, 385) := by decide +kernel
theorem dL_law_385 : dcd cL_law 385 = some (.iload_n 3, 386) := by decide +kernel
theorem dL_law_386 : dcd cL_law 386 = some (.iconst 2, 387) := by decide +kernel
theorem dL_law_387 : dcd cL_law 387 = some (.iadd, 388) := by decide +kernel
theorem dL_law_388 : dcd cL_law 388 = some (.iaload, 389) := by decide +kernel
theorem dL_law_389 : dcd cL_law 389 = some (.invokevirtual 45, 392) := by decide +kernel
theorem dL_law_392 : dcd cL_law 392 = some (.if_icmp .eq 621, 395) := by decide +kernel
theorem dL_law_395 : dcd cL_law 395 = some (.iconst 0, 396) := by decide +kernel
theorem dL_law_396 : dcd cL_law 396 = some (.ireturn, 397) := by decide +kernel
theorem dL_law_397 : dcd cL_law 397 = some (.aload_n 1, 398) := by decide +kernel
theorem dL_law_398 : dcd cL_law 398 = some (.aload_n 0, 399) := by decide +kernel
theorem dL_law_399 : dcd cL_law 399 = some (.iload_n 3, 400) := by decide +kernel
theorem dL_law_400 : dcd cL_law 400 = some (.iconst 1, 401) := by decide +kernel
theorem dL_law_401 : dcd cL_law 401 = some (.iadd, 402) := by decide +kernel
theorem dL_law_402 : dcd cL_law 402 = some (.iaload, 403) := by decide +kernel
theorem dL_law_403 : dcd cL_law 403 = some (.invokevirtual 46, 406) := by decide +kernel
theorem dL_law_406 : dcd cL_law 406 = some (.aload_n 2, 407) := by decide +kernel
theorem dL_law_407 : dcd cL_law 407 = some (.aload_n 0, 408) := by decide +kernel
theorem dL_law_408 : dcd cL_law 408 = some (.iload_n 3, 409) := by decide +kernel
theorem dL_law_409 : dcd cL_law 409 = some (.iconst 1, 410) := by decide +kernel
theorem dL_law_410 : dcd cL_law 410 = some (.iadd, 411) := by decide +kernel
theorem dL_law_411 : dcd cL_law 411 = some (.iaload, 412) := by decide +kernel
theorem dL_law_412 : dcd cL_law 412 = some (.invokevirtual 50, 415) := by decide +kernel
theorem dL_law_415 : dcd cL_law 415 = some (.if_icmp .eq 598, 418) := by decide +kernel
theorem dL_law_418 : dcd cL_law 418 = some (.iconst 0, 419) := by decide +kernel
theorem dL_law_419 : dcd cL_law 419 = some (.ireturn, 420) := by decide +kernel
theorem dL_law_420 : dcd cL_law 420 = some (.aload_n 1, 421) := by decide +kernel
theorem dL_law_421 : dcd cL_law 421 = some (.invokevirtual 51, 424) := by decide +kernel
theorem dL_law_424 : dcd cL_law 424 = some (.aload_n 2, 425) := by decide +kernel
theorem dL_law_425 : dcd cL_law 425 = some (.invokevirtual 54, 428) := by decide +kernel
theorem dL_law_428 : dcd cL_law 428 = some (.if_icmp .eq 585, 431) := by decide +kernel
theorem dL_law_431 : dcd cL_law 431 = some (.iconst 0, 432) := by decide +kernel
theorem dL_law_432 : dcd cL_law 432 = some (.ireturn, 433) := by decide +kernel
theorem dL_law_433 : dcd cL_law 433 = some (.aload_n 1, 434) := by decide +kernel
theorem dL_law_434 : dcd cL_law 434 = some (.aload_n 0, 435) := by decide +kernel
theorem dL_law_435 : dcd cL_law 435 = some (.iload_n 3, 436) := by decide +kernel
theorem dL_law_436 : dcd cL_law 436 = some (.iconst 1, 437) := by decide +kernel
theorem dL_law_437 : dcd cL_law 437 = some (.iadd, 438) := by decide +kernel
theorem dL_law_438 : dcd cL_law 438 = some (.iaload, 439) := by decide +kernel
theorem dL_law_439 : dcd cL_law 439 = some (.invokevirtual 55, 442) := by decide +kernel
theorem dL_law_442 : dcd cL_law 442 = some (.aload_n 2, 443) := by decide +kernel
theorem dL_law_443 : dcd cL_law 443 = some (.aload_n 0, 444) := by decide +kernel
theorem dL_law_444 : dcd cL_law 444 = some (.iload_n 3, 445) := by decide +kernel
theorem dL_law_445 : dcd cL_law 445 = some (.iconst 1, 446) := by decide +kernel
theorem dL_law_446 : dcd cL_law 446 = some (.iadd, 447) := by decide +kernel
theorem dL_law_447 : dcd cL_law 447 = some (.iaload, 448) := by decide +kernel
theorem dL_law_448 : dcd cL_law 448 = some (.invokevirtual 58, 451) := by decide +kernel
theorem dL_law_451 : dcd cL_law 451 = some (.if_icmp .eq 562, 454) := by decide +kernel
theorem dL_law_454 : dcd cL_law 454 = some (.iconst 0, 455) := by decide +kernel
theorem dL_law_455 : dcd cL_law 455 = some (.ireturn, 456) := by decide +kernel
theorem dL_law_456 : dcd cL_law 456 = some (.aload_n 1, 457) := by decide +kernel
theorem dL_law_457 : dcd cL_law 457 = some (.aload_n 0, 458) := by decide +kernel
theorem dL_law_458 : dcd cL_law 458 = some (.iload_n 3, 459) := by decide +kernel
theorem dL_law_459 : dcd cL_law 459 = some (.iconst 1, 460) := by decide +kernel
theorem dL_law_460 : dcd cL_law 460 = some (.iadd, 461) := by decide +kernel
theorem dL_law_461 : dcd cL_law 461 = some (.iaload, 462) := by decide +kernel
theorem dL_law_462 : dcd cL_law 462 = some (.invokevirtual 59, 465) := by decide +kernel
theorem dL_law_465 : dcd cL_law 465 = some (.aload_n 2, 466) := by decide +kernel
theorem dL_law_466 : dcd cL_law 466 = some (.aload_n 0, 467) := by decide +kernel
theorem dL_law_467 : dcd cL_law 467 = some (.iload_n 3, 468) := by decide +kernel
theorem dL_law_468 : dcd cL_law 468 = some (.iconst 1, 469) := by decide +kernel
theorem dL_law_469 : dcd cL_law 469 = some (.iadd, 470) := by decide +kernel
theorem dL_law_470 : dcd cL_law 470 = some (.iaload, 471) := by decide +kernel
theorem dL_law_471 : dcd cL_law 471 = some (.invokevirtual 62, 474) := by decide +kernel
theorem dL_law_474 : dcd cL_law 474 = some (.if_icmp .eq 539, 477) := by decide +kernel
theorem dL_law_477 : dcd cL_law 477 = some (.iconst 0, 478) := by decide +kernel
theorem dL_law_478 : dcd cL_law 478 = some (.ireturn, 479) := by decide +kernel
theorem dL_law_479 : dcd cL_law 479 = some (.aload_n 1, 480) := by decide +kernel
theorem dL_law_480 : dcd cL_law 480 = some (.aload_n 0, 481) := by decide +kernel
theorem dL_law_481 : dcd cL_law 481 = some (.iload_n 3, 482) := by decide +kernel
theorem dL_law_482 : dcd cL_law 482 = some (.iconst 1, 483) := by decide +kernel
theorem dL_law_483 : dcd cL_law 483 = some (.iadd, 484) := by decide +kernel
theorem dL_law_484 : dcd cL_law 484 = some (.iaload, 485) := by decide +kernel
theorem dL_law_485 : dcd cL_law 485 = some (.aload_n 0, 486) := by decide +kernel
theorem dL_law_486 : dcd cL_law 486 = some (.iload_n 3, 487) := by decide +kernel
theorem dL_law_487 : dcd cL_law 487 = some (.iconst 2, 488) := by decide +kernel
theorem dL_law_488 : dcd cL_law 488 = some (.iadd, 489) := by decide +kernel
theorem dL_law_489 : dcd cL_law 489 = some (.iaload, 490) := by decide +kernel
theorem dL_law_490 : dcd cL_law 490 = some (.invokevirtual 63, 493) := by decide +kernel
theorem dL_law_493 : dcd cL_law 493 = some (.aload_n 2, 494) := by decide +kernel
theorem dL_law_494 : dcd cL_law 494 = some (.aload_n 0, 495) := by decide +kernel
theorem dL_law_495 : dcd cL_law 495 = some (.iload_n 3, 496) := by decide +kernel
theorem dL_law_496 : dcd cL_law 496 = some (.iconst 1, 497) := by decide +kernel
theorem dL_law_497 : dcd cL_law 497 = some (.iadd, 498) := by decide +kernel
theorem dL_law_498 : dcd cL_law 498 = some (.iaload, 499) := by decide +kernel
theorem dL_law_499 : dcd cL_law 499 = some (.aload_n 0, 500) := by decide +kernel
theorem dL_law_500 : dcd cL_law 500 = some (.iload_n 3, 501) := by decide +kernel
theorem dL_law_501 : dcd cL_law 501 = some (.iconst 2, 502) := by decide +kernel
theorem dL_law_502 : dcd cL_law 502 = some (.iadd, 503) := by decide +kernel
theorem dL_law_503 : dcd cL_law 503 = some (.iaload, 504) := by decide +kernel
theorem dL_law_504 : dcd cL_law 504 = some (.invokevirtual 66, 507) := by decide +kernel
theorem dL_law_507 : dcd cL_law 507 = some (.if_icmp .eq 506, 510) := by decide +kernel
theorem dL_law_510 : dcd cL_law 510 = some (.iconst 0, 511) := by decide +kernel
theorem dL_law_511 : dcd cL_law 511 = some (.ireturn, 512) := by decide +kernel
theorem dL_law_512 : dcd cL_law 512 = some (.aload_n 1, 513) := by decide +kernel
theorem dL_law_513 : dcd cL_law 513 = some (.aload_n 0, 514) := by decide +kernel
theorem dL_law_514 : dcd cL_law 514 = some (.iload_n 3, 515) := by decide +kernel
theorem dL_law_515 : dcd cL_law 515 = some (.iconst 1, 516) := by decide +kernel
theorem dL_law_516 : dcd cL_law 516 = some (.iadd, 517) := by decide +kernel
theorem dL_law_517 : dcd cL_law 517 = some (.iaload, 518) := by decide +kernel
theorem dL_law_518 : dcd cL_law 518 = some (.invokevirtual 67, 521) := by decide +kernel
theorem dL_law_521 : dcd cL_law 521 = some (.aload_n 2, 522) := by decide +kernel
theorem dL_law_522 : dcd cL_law 522 = some (.aload_n 0, 523) := by decide +kernel
theorem dL_law_523 : dcd cL_law 523 = some (.iload_n 3, 524) := by decide +kernel
theorem dL_law_524 : dcd cL_law 524 = some (.iconst 1, 525) := by decide +kernel
theorem dL_law_525 : dcd cL_law 525 = some (.iadd, 526) := by decide +kernel
theorem dL_law_526 : dcd cL_law 526 = some (.iaload, 527) := by decide +kernel
theorem dL_law_527 : dcd cL_law 527 = some (.invokevirtual 70, 530) := by decide +kernel
theorem dL_law_530 : dcd cL_law 530 = some (.if_icmp .eq 483, 533) := by decide +kernel
theorem dL_law_533 : dcd cL_law 533 = some (.iconst 0, 534) := by decide +kernel
theorem dL_law_534 : dcd cL_law 534 = some (.ireturn, 535) := by decide +kernel
theorem dL_law_535 : dcd cL_law 535 = some (.aload_n 1, 536) := by decide +kernel
theorem dL_law_536 : dcd cL_law 536 = some (.aload_n 0, 537) := by decide +kernel
theorem dL_law_537 : dcd cL_law 537 = some (.iload_n 3, 538) := by decide +kernel
theorem dL_law_538 : dcd cL_law 538 = some (.iconst 1, 539) := by decide +kernel
theorem dL_law_539 : dcd cL_law 539 = some (.iadd, 540) := by decide +kernel
theorem dL_law_540 : dcd cL_law 540 = some (.iaload, 541) := by decide +kernel
theorem dL_law_541 : dcd cL_law 541 = some (.aload_n 0, 542) := by decide +kernel
theorem dL_law_542 : dcd cL_law 542 = some (.iload_n 3, 543) := by decide +kernel
theorem dL_law_543 : dcd cL_law 543 = some (.iconst 2, 544) := by decide +kernel
theorem dL_law_544 : dcd cL_law 544 = some (.iadd, 545) := by decide +kernel
theorem dL_law_545 : dcd cL_law 545 = some (.iaload, 546) := by decide +kernel
theorem dL_law_546 : dcd cL_law 546 = some (.invokevirtual 71, 549) := by decide +kernel
theorem dL_law_549 : dcd cL_law 549 = some (.aload_n 2, 550) := by decide +kernel
theorem dL_law_550 : dcd cL_law 550 = some (.aload_n 0, 551) := by decide +kernel
theorem dL_law_551 : dcd cL_law 551 = some (.iload_n 3, 552) := by decide +kernel
theorem dL_law_552 : dcd cL_law 552 = some (.iconst 1, 553) := by decide +kernel
theorem dL_law_553 : dcd cL_law 553 = some (.iadd, 554) := by decide +kernel
theorem dL_law_554 : dcd cL_law 554 = some (.iaload, 555) := by decide +kernel
theorem dL_law_555 : dcd cL_law 555 = some (.aload_n 0, 556) := by decide +kernel
theorem dL_law_556 : dcd cL_law 556 = some (.iload_n 3, 557) := by decide +kernel
theorem dL_law_557 : dcd cL_law 557 = some (.iconst 2, 558) := by decide +kernel
theorem dL_law_558 : dcd cL_law 558 = some (.iadd, 559) := by decide +kernel
theorem dL_law_559 : dcd cL_law 559 = some (.iaload, 560) := by decide +kernel
theorem dL_law_560 : dcd cL_law 560 = some (.invokevirtual 74, 563) := by decide +kernel
theorem dL_law_563 : dcd cL_law 563 = some (.if_icmp .eq 450, 566) := by decide +kernel
theorem dL_law_566 : dcd cL_law 566 = some (.iconst 0, 567) := by decide +kernel
theorem dL_law_567 : dcd cL_law 567 = some (.ireturn, 568) := by decide +kernel
theorem dL_law_568 : dcd cL_law 568 = some (.aload_n 1, 569) := by decide +kernel
theorem dL_law_569 : dcd cL_law 569 = some (.aload_n 0, 570) := by decide +kernel
theorem dL_law_570 : dcd cL_law 570 = some (.iload_n 3, 571) := by decide +kernel
theorem dL_law_571 : dcd cL_law 571 = some (.iconst 1, 572) := by decide +kernel
theorem dL_law_572 : dcd cL_law 572 = some (.iadd, 573) := by decide +kernel
theorem dL_law_573 : dcd cL_law 573 = some (.iaload, 574) := by decide +kernel
theorem dL_law_574 : dcd cL_law 574 = some (.invokevirtual 75, 577) := by decide +kernel
theorem dL_law_577 : dcd cL_law 577 = some (.aload_n 2, 578) := by decide +kernel
theorem dL_law_578 : dcd cL_law 578 = some (.aload_n 0, 579) := by decide +kernel
theorem dL_law_579 : dcd cL_law 579 = some (.iload_n 3, 580) := by decide +kernel
theorem dL_law_580 : dcd cL_law 580 = some (.iconst 1, 581) := by decide +kernel
theorem dL_law_581 : dcd cL_law 581 = some (.iadd, 582) := by decide +kernel
theorem dL_law_582 : dcd cL_law 582 = some (.iaload, 583) := by decide +kernel
theorem dL_law_583 : dcd cL_law 583 = some (.invokevirtual 78, 586) := by decide +kernel
theorem dL_law_586 : dcd cL_law 586 = some (.if_icmp .eq 427, 589) := by decide +kernel
theorem dL_law_589 : dcd cL_law 589 = some (.iconst 0, 590) := by decide +kernel
theorem dL_law_590 : dcd cL_law 590 = some (.ireturn, 591) := by decide +kernel
theorem dL_law_591 : dcd cL_law 591 = some (.aload_n 1, 592) := by decide +kernel
theorem dL_law_592 : dcd cL_law 592 = some (.aload_n 0, 593) := by decide +kernel
theorem dL_law_593 : dcd cL_law 593 = some (.iload_n 3, 594) := by decide +kernel
theorem dL_law_594 : dcd cL_law 594 = some (.iconst 1, 595) := by decide +kernel
theorem dL_law_595 : dcd cL_law 595 = some (.iadd, 596) := by decide +kernel
theorem dL_law_596 : dcd cL_law 596 = some (.iaload, 597) := by decide +kernel
theorem dL_law_597 : dcd cL_law 597 = some (.invokevirtual 79, 600) := by decide +kernel
theorem dL_law_600 : dcd cL_law 600 = some (.aload_n 2, 601) := by decide +kernel
theorem dL_law_601 : dcd cL_law 601 = some (.aload_n 0, 602) := by decide +kernel
theorem dL_law_602 : dcd cL_law 602 = some (.iload_n 3, 603) := by decide +kernel
theorem dL_law_603 : dcd cL_law 603 = some (.iconst 1, 604) := by decide +kernel
theorem dL_law_604 : dcd cL_law 604 = some (.iadd, 605) := by decide +kernel
theorem dL_law_605 : dcd cL_law 605 = some (.iaload, 606) := by decide +kernel
theorem dL_law_606 : dcd cL_law 606 = some (.invokevirtual 82, 609) := by decide +kernel
theorem dL_law_609 : dcd cL_law 609 = some (.if_icmp .eq 404, 612) := by decide +kernel
theorem dL_law_612 : dcd cL_law 612 = some (.iconst 0, 613) := by decide +kernel
theorem dL_law_613 : dcd cL_law 613 = some (.ireturn, 614) := by decide +kernel
theorem dL_law_614 : dcd cL_law 614 = some (.aload_n 1, 615) := by decide +kernel
theorem dL_law_615 : dcd cL_law 615 = some (.invokevirtual 83, 618) := by decide +kernel
theorem dL_law_618 : dcd cL_law 618 = some (.aload_n 2, 619) := by decide +kernel
theorem dL_law_619 : dcd cL_law 619 = some (.invokevirtual 86, 622) := by decide +kernel
theorem dL_law_622 : dcd cL_law 622 = some (.if_icmp .eq 391, 625) := by decide +kernel
theorem dL_law_625 : dcd cL_law 625 = some (.iconst 0, 626) := by decide +kernel
theorem dL_law_626 : dcd cL_law 626 = some (.ireturn, 627) := by decide +kernel
theorem dL_law_627 : dcd cL_law 627 = some (.aload_n 1, 628) := by decide +kernel
theorem dL_law_628 : dcd cL_law 628 = some (.invokevirtual 87, 631) := by decide +kernel
theorem dL_law_631 : dcd cL_law 631 = some (.aload_n 2, 632) := by decide +kernel
theorem dL_law_632 : dcd cL_law 632 = some (.invokevirtual 90, 635) := by decide +kernel
theorem dL_law_635 : dcd cL_law 635 = some (.if_icmp .eq 378, 638) := by decide +kernel
theorem dL_law_638 : dcd cL_law 638 = some (.iconst 0, 639) := by decide +kernel
theorem dL_law_639 : dcd cL_law 639 = some (.ireturn, 640) := by decide +kernel
theorem dL_law_640 : dcd cL_law 640 = some (.aload_n 1, 641) := by decide +kernel
theorem dL_law_641 : dcd cL_law 641 = some (.aload_n 0, 642) := by decide +kernel
theorem dL_law_642 : dcd cL_law 642 = some (.iload_n 3, 643) := by decide +kernel
theorem dL_law_643 : dcd cL_law 643 = some (.iconst 1, 644) := by decide +kernel
theorem dL_law_644 : dcd cL_law 644 = some (.iadd, 645) := by decide +kernel
theorem dL_law_645 : dcd cL_law 645 = some (.iaload, 646) := by decide +kernel
theorem dL_law_646 : dcd cL_law 646 = some (.aload_n 0, 647) := by decide +kernel
theorem dL_law_647 : dcd cL_law 647 = some (.iload_n 3, 648) := by decide +kernel
theorem dL_law_648 : dcd cL_law 648 = some (.iconst 2, 649) := by decide +kernel
theorem dL_law_649 : dcd cL_law 649 = some (.iadd, 650) := by decide +kernel
theorem dL_law_650 : dcd cL_law 650 = some (.iaload, 651) := by decide +kernel
theorem dL_law_651 : dcd cL_law 651 = some (.invokevirtual 91, 654) := by decide +kernel
theorem dL_law_654 : dcd cL_law 654 = some (.aload_n 2, 655) := by decide +kernel
theorem dL_law_655 : dcd cL_law 655 = some (.aload_n 0, 656) := by decide +kernel
theorem dL_law_656 : dcd cL_law 656 = some (.iload_n 3, 657) := by decide +kernel
theorem dL_law_657 : dcd cL_law 657 = some (.iconst 1, 658) := by decide +kernel
theorem dL_law_658 : dcd cL_law 658 = some (.iadd, 659) := by decide +kernel
theorem dL_law_659 : dcd cL_law 659 = some (.iaload, 660) := by decide +kernel
theorem dL_law_660 : dcd cL_law 660 = some (.aload_n 0, 661) := by decide +kernel
theorem dL_law_661 : dcd cL_law 661 = some (.iload_n 3, 662) := by decide +kernel
theorem dL_law_662 : dcd cL_law 662 = some (.iconst 2, 663) := by decide +kernel
theorem dL_law_663 : dcd cL_law 663 = some (.iadd, 664) := by decide +kernel
theorem dL_law_664 : dcd cL_law 664 = some (.iaload, 665) := by decide +kernel
theorem dL_law_665 : dcd cL_law 665 = some (.invokevirtual 94, 668) := by decide +kernel
theorem dL_law_668 : dcd cL_law 668 = some (.if_icmp .eq 345, 671) := by decide +kernel
theorem dL_law_671 : dcd cL_law 671 = some (.iconst 0, 672) := by decide +kernel
theorem dL_law_672 : dcd cL_law 672 = some (.ireturn, 673) := by decide +kernel
theorem dL_law_673 : dcd cL_law 673 = some (.aload_n 1, 674) := by decide +kernel
theorem dL_law_674 : dcd cL_law 674 = some (.aload_n 0, 675) := by decide +kernel
theorem dL_law_675 : dcd cL_law 675 = some (.iload_n 3, 676) := by decide +kernel
theorem dL_law_676 : dcd cL_law 676 = some (.iconst 1, 677) := by decide +kernel
theorem dL_law_677 : dcd cL_law 677 = some (.iadd, 678) := by decide +kernel
theorem dL_law_678 : dcd cL_law 678 = some (.iaload, 679) := by decide +kernel
theorem dL_law_679 : dcd cL_law 679 = some (.invokevirtual 95, 682) := by decide +kernel
theorem dL_law_682 : dcd cL_law 682 = some (.aload_n 2, 683) := by decide +kernel
theorem dL_law_683 : dcd cL_law 683 = some (.aload_n 0, 684) := by decide +kernel
theorem dL_law_684 : dcd cL_law 684 = some (.iload_n 3, 685) := by decide +kernel
theorem dL_law_685 : dcd cL_law 685 = some (.iconst 1, 686) := by decide +kernel
theorem dL_law_686 : dcd cL_law 686 = some (.iadd, 687) := by decide +kernel
theorem dL_law_687 : dcd cL_law 687 = some (.iaload, 688) := by decide +kernel
theorem dL_law_688 : dcd cL_law 688 = some (.invokevirtual 98, 691) := by decide +kernel
theorem dL_law_691 : dcd cL_law 691 = some (.if_icmp .eq 322, 694) := by decide +kernel
theorem dL_law_694 : dcd cL_law 694 = some (.iconst 0, 695) := by decide +kernel
theorem dL_law_695 : dcd cL_law 695 = some (.ireturn, 696) := by decide +kernel
theorem dL_law_696 : dcd cL_law 696 = some (.aload_n 1, 697) := by decide +kernel
theorem dL_law_697 : dcd cL_law 697 = some (.aload_n 0, 698) := by decide +kernel
theorem dL_law_698 : dcd cL_law 698 = some (.iload_n 3, 699) := by decide +kernel
theorem dL_law_699 : dcd cL_law 699 = some (.iconst 1, 700) := by decide +kernel
theorem dL_law_700 : dcd cL_law 700 = some (.iadd, 701) := by decide +kernel
theorem dL_law_701 : dcd cL_law 701 = some (.iaload, 702) := by decide +kernel
theorem dL_law_702 : dcd cL_law 702 = some (.aload_n 0, 703) := by decide +kernel
theorem dL_law_703 : dcd cL_law 703 = some (.iload_n 3, 704) := by decide +kernel
theorem dL_law_704 : dcd cL_law 704 = some (.iconst 2, 705) := by decide +kernel
theorem dL_law_705 : dcd cL_law 705 = some (.iadd, 706) := by decide +kernel
theorem dL_law_706 : dcd cL_law 706 = some (.iaload, 707) := by decide +kernel
theorem dL_law_707 : dcd cL_law 707 = some (.aload_n 0, 708) := by decide +kernel
theorem dL_law_708 : dcd cL_law 708 = some (.iload_n 3, 709) := by decide +kernel
theorem dL_law_709 : dcd cL_law 709 = some (.iconst 3, 710) := by decide +kernel
theorem dL_law_710 : dcd cL_law 710 = some (.iadd, 711) := by decide +kernel
theorem dL_law_711 : dcd cL_law 711 = some (.iaload, 712) := by decide +kernel
theorem dL_law_712 : dcd cL_law 712 = some (.aload_n 0, 713) := by decide +kernel
theorem dL_law_713 : dcd cL_law 713 = some (.iload_n 3, 714) := by decide +kernel
theorem dL_law_714 : dcd cL_law 714 = some (.iconst 4, 715) := by decide +kernel
theorem dL_law_715 : dcd cL_law 715 = some (.iadd, 716) := by decide +kernel
theorem dL_law_716 : dcd cL_law 716 = some (.iaload, 717) := by decide +kernel
theorem dL_law_717 : dcd cL_law 717 = some (.invokevirtual 99, 720) := by decide +kernel
theorem dL_law_720 : dcd cL_law 720 = some (.aload_n 2, 721) := by decide +kernel
theorem dL_law_721 : dcd cL_law 721 = some (.aload_n 0, 722) := by decide +kernel
theorem dL_law_722 : dcd cL_law 722 = some (.iload_n 3, 723) := by decide +kernel
theorem dL_law_723 : dcd cL_law 723 = some (.iconst 1, 724) := by decide +kernel
theorem dL_law_724 : dcd cL_law 724 = some (.iadd, 725) := by decide +kernel
theorem dL_law_725 : dcd cL_law 725 = some (.iaload, 726) := by decide +kernel
theorem dL_law_726 : dcd cL_law 726 = some (.aload_n 0, 727) := by decide +kernel
theorem dL_law_727 : dcd cL_law 727 = some (.iload_n 3, 728) := by decide +kernel
theorem dL_law_728 : dcd cL_law 728 = some (.iconst 2, 729) := by decide +kernel
theorem dL_law_729 : dcd cL_law 729 = some (.iadd, 730) := by decide +kernel
theorem dL_law_730 : dcd cL_law 730 = some (.iaload, 731) := by decide +kernel
theorem dL_law_731 : dcd cL_law 731 = some (.aload_n 0, 732) := by decide +kernel
theorem dL_law_732 : dcd cL_law 732 = some (.iload_n 3, 733) := by decide +kernel
theorem dL_law_733 : dcd cL_law 733 = some (.iconst 3, 734) := by decide +kernel
theorem dL_law_734 : dcd cL_law 734 = some (.iadd, 735) := by decide +kernel
theorem dL_law_735 : dcd cL_law 735 = some (.iaload, 736) := by decide +kernel
theorem dL_law_736 : dcd cL_law 736 = some (.aload_n 0, 737) := by decide +kernel
theorem dL_law_737 : dcd cL_law 737 = some (.iload_n 3, 738) := by decide +kernel
theorem dL_law_738 : dcd cL_law 738 = some (.iconst 4, 739) := by decide +kernel
theorem dL_law_739 : dcd cL_law 739 = some (.iadd, 740) := by decide +kernel
theorem dL_law_740 : dcd cL_law 740 = some (.iaload, 741) := by decide +kernel
theorem dL_law_741 : dcd cL_law 741 = some (.invokevirtual 103, 744) := by decide +kernel
theorem dL_law_744 : dcd cL_law 744 = some (.if_icmp .eq 269, 747) := by decide +kernel
theorem dL_law_747 : dcd cL_law 747 = some (.iconst 0, 748) := by decide +kernel
theorem dL_law_748 : dcd cL_law 748 = some (.ireturn, 749) := by decide +kernel
theorem dL_law_749 : dcd cL_law 749 = some (.aload_n 1, 750) := by decide +kernel
theorem dL_law_750 : dcd cL_law 750 = some (.aload_n 0, 751) := by decide +kernel
theorem dL_law_751 : dcd cL_law 751 = some (.iload_n 3, 752) := by decide +kernel
theorem dL_law_752 : dcd cL_law 752 = some (.iconst 1, 753) := by decide +kernel
theorem dL_law_753 : dcd cL_law 753 = some (.iadd, 754) := by decide +kernel
theorem dL_law_754 : dcd cL_law 754 = some (.iaload, 755) := by decide +kernel
theorem dL_law_755 : dcd cL_law 755 = some (.aload_n 0, 756) := by decide +kernel
theorem dL_law_756 : dcd cL_law 756 = some (.iload_n 3, 757) := by decide +kernel
theorem dL_law_757 : dcd cL_law 757 = some (.iconst 2, 758) := by decide +kernel
theorem dL_law_758 : dcd cL_law 758 = some (.iadd, 759) := by decide +kernel
theorem dL_law_759 : dcd cL_law 759 = some (.iaload, 760) := by decide +kernel
theorem dL_law_760 : dcd cL_law 760 = some (.aload_n 0, 761) := by decide +kernel
theorem dL_law_761 : dcd cL_law 761 = some (.iload_n 3, 762) := by decide +kernel
theorem dL_law_762 : dcd cL_law 762 = some (.iconst 3, 763) := by decide +kernel
theorem dL_law_763 : dcd cL_law 763 = some (.iadd, 764) := by decide +kernel
theorem dL_law_764 : dcd cL_law 764 = some (.iaload, 765) := by decide +kernel
theorem dL_law_765 : dcd cL_law 765 = some (.invokevirtual 104, 768) := by decide +kernel
theorem dL_law_768 : dcd cL_law 768 = some (.aload_n 2, 769) := by decide +kernel
theorem dL_law_769 : dcd cL_law 769 = some (.aload_n 0, 770) := by decide +kernel
theorem dL_law_770 : dcd cL_law 770 = some (.iload_n 3, 771) := by decide +kernel
theorem dL_law_771 : dcd cL_law 771 = some (.iconst 1, 772) := by decide +kernel
theorem dL_law_772 : dcd cL_law 772 = some (.iadd, 773) := by decide +kernel
theorem dL_law_773 : dcd cL_law 773 = some (.iaload, 774) := by decide +kernel
theorem dL_law_774 : dcd cL_law 774 = some (.aload_n 0, 775) := by decide +kernel
theorem dL_law_775 : dcd cL_law 775 = some (.iload_n 3, 776) := by decide +kernel
theorem dL_law_776 : dcd cL_law 776 = some (.iconst 2, 777) := by decide +kernel
theorem dL_law_777 : dcd cL_law 777 = some (.iadd, 778) := by decide +kernel
theorem dL_law_778 : dcd cL_law 778 = some (.iaload, 779) := by decide +kernel
theorem dL_law_779 : dcd cL_law 779 = some (.aload_n 0, 780) := by decide +kernel
theorem dL_law_780 : dcd cL_law 780 = some (.iload_n 3, 781) := by decide +kernel
theorem dL_law_781 : dcd cL_law 781 = some (.iconst 3, 782) := by decide +kernel
theorem dL_law_782 : dcd cL_law 782 = some (.iadd, 783) := by decide +kernel
theorem dL_law_783 : dcd cL_law 783 = some (.iaload, 784) := by decide +kernel
theorem dL_law_784 : dcd cL_law 784 = some (.invokevirtual 108, 787) := by decide +kernel
theorem dL_law_787 : dcd cL_law 787 = some (.if_icmp .eq 226, 790) := by decide +kernel
theorem dL_law_790 : dcd cL_law 790 = some (.iconst 0, 791) := by decide +kernel
theorem dL_law_791 : dcd cL_law 791 = some (.ireturn, 792) := by decide +kernel
theorem dL_law_792 : dcd cL_law 792 = some (.aload_n 1, 793) := by decide +kernel
theorem dL_law_793 : dcd cL_law 793 = some (.aload_n 0, 794) := by decide +kernel
theorem dL_law_794 : dcd cL_law 794 = some (.iload_n 3, 795) := by decide +kernel
theorem dL_law_795 : dcd cL_law 795 = some (.iconst 1, 796) := by decide +kernel
theorem dL_law_796 : dcd cL_law 796 = some (.iadd, 797) := by decide +kernel
theorem dL_law_797 : dcd cL_law 797 = some (.iaload, 798) := by decide +kernel
theorem dL_law_798 : dcd cL_law 798 = some (.aload_n 0, 799) := by decide +kernel
theorem dL_law_799 : dcd cL_law 799 = some (.iload_n 3, 800) := by decide +kernel
theorem dL_law_800 : dcd cL_law 800 = some (.iconst 2, 801) := by decide +kernel
theorem dL_law_801 : dcd cL_law 801 = some (.iadd, 802) := by decide +kernel
theorem dL_law_802 : dcd cL_law 802 = some (.iaload, 803) := by decide +kernel
theorem dL_law_803 : dcd cL_law 803 = some (.invokevirtual 109, 806) := by decide +kernel
theorem dL_law_806 : dcd cL_law 806 = some (.aload_n 2, 807) := by decide +kernel
theorem dL_law_807 : dcd cL_law 807 = some (.aload_n 0, 808) := by decide +kernel
theorem dL_law_808 : dcd cL_law 808 = some (.iload_n 3, 809) := by decide +kernel
theorem dL_law_809 : dcd cL_law 809 = some (.iconst 1, 810) := by decide +kernel
theorem dL_law_810 : dcd cL_law 810 = some (.iadd, 811) := by decide +kernel
theorem dL_law_811 : dcd cL_law 811 = some (.iaload, 812) := by decide +kernel
theorem dL_law_812 : dcd cL_law 812 = some (.aload_n 0, 813) := by decide +kernel
theorem dL_law_813 : dcd cL_law 813 = some (.iload_n 3, 814) := by decide +kernel
theorem dL_law_814 : dcd cL_law 814 = some (.iconst 2, 815) := by decide +kernel
theorem dL_law_815 : dcd cL_law 815 = some (.iadd, 816) := by decide +kernel
theorem dL_law_816 : dcd cL_law 816 = some (.iaload, 817) := by decide +kernel
theorem dL_law_817 : dcd cL_law 817 = some (.invokevirtual 112, 820) := by decide +kernel
theorem dL_law_820 : dcd cL_law 820 = some (.if_icmp .eq 193, 823) := by decide +kernel
theorem dL_law_823 : dcd cL_law 823 = some (.iconst 0, 824) := by decide +kernel
theorem dL_law_824 : dcd cL_law 824 = some (.ireturn, 825) := by decide +kernel
theorem dL_law_825 : dcd cL_law 825 = some (.aload_n 1, 826) := by decide +kernel
theorem dL_law_826 : dcd cL_law 826 = some (.invokevirtual 113, 829) := by decide +kernel
theorem dL_law_829 : dcd cL_law 829 = some (.aload_n 2, 830) := by decide +kernel
theorem dL_law_830 : dcd cL_law 830 = some (.invokevirtual 116, 833) := by decide +kernel
theorem dL_law_833 : dcd cL_law 833 = some (.if_icmp .eq 180, 836) := by decide +kernel
theorem dL_law_836 : dcd cL_law 836 = some (.iconst 0, 837) := by decide +kernel
theorem dL_law_837 : dcd cL_law 837 = some (.ireturn, 838) := by decide +kernel
theorem dL_law_838 : dcd cL_law 838 = some (.aload_n 1, 839) := by decide +kernel
theorem dL_law_839 : dcd cL_law 839 = some (.aload_n 0, 840) := by decide +kernel
theorem dL_law_840 : dcd cL_law 840 = some (.iload_n 3, 841) := by decide +kernel
theorem dL_law_841 : dcd cL_law 841 = some (.iconst 1, 842) := by decide +kernel
theorem dL_law_842 : dcd cL_law 842 = some (.iadd, 843) := by decide +kernel
theorem dL_law_843 : dcd cL_law 843 = some (.iaload, 844) := by decide +kernel
theorem dL_law_844 : dcd cL_law 844 = some (.invokevirtual 117, 847) := by decide +kernel
theorem dL_law_847 : dcd cL_law 847 = some (.aload_n 2, 848) := by decide +kernel
theorem dL_law_848 : dcd cL_law 848 = some (.aload_n 0, 849) := by decide +kernel
theorem dL_law_849 : dcd cL_law 849 = some (.iload_n 3, 850) := by decide +kernel
theorem dL_law_850 : dcd cL_law 850 = some (.iconst 1, 851) := by decide +kernel
theorem dL_law_851 : dcd cL_law 851 = some (.iadd, 852) := by decide +kernel
theorem dL_law_852 : dcd cL_law 852 = some (.iaload, 853) := by decide +kernel
theorem dL_law_853 : dcd cL_law 853 = some (.invokevirtual 120, 856) := by decide +kernel
theorem dL_law_856 : dcd cL_law 856 = some (.if_icmp .eq 157, 859) := by decide +kernel
theorem dL_law_859 : dcd cL_law 859 = some (.iconst 0, 860) := by decide +kernel
theorem dL_law_860 : dcd cL_law 860 = some (.ireturn, 861) := by decide +kernel
theorem dL_law_861 : dcd cL_law 861 = some (.aload_n 1, 862) := by decide +kernel
theorem dL_law_862 : dcd cL_law 862 = some (.invokevirtual 121, 865) := by decide +kernel
theorem dL_law_865 : dcd cL_law 865 = some (.aload_n 2, 866) := by decide +kernel
theorem dL_law_866 : dcd cL_law 866 = some (.invokevirtual 124, 869) := by decide +kernel
theorem dL_law_869 : dcd cL_law 869 = some (.if_icmp .eq 144, 872) := by decide +kernel
theorem dL_law_872 : dcd cL_law 872 = some (.iconst 0, 873) := by decide +kernel
theorem dL_law_873 : dcd cL_law 873 = some (.ireturn, 874) := by decide +kernel
theorem dL_law_874 : dcd cL_law 874 = some (.aload_n 1, 875) := by decide +kernel
theorem dL_law_875 : dcd cL_law 875 = some (.aload_n 0, 876) := by decide +kernel
theorem dL_law_876 : dcd cL_law 876 = some (.iload_n 3, 877) := by decide +kernel
theorem dL_law_877 : dcd cL_law 877 = some (.iconst 1, 878) := by decide +kernel
theorem dL_law_878 : dcd cL_law 878 = some (.iadd, 879) := by decide +kernel
theorem dL_law_879 : dcd cL_law 879 = some (.iaload, 880) := by decide +kernel
theorem dL_law_880 : dcd cL_law 880 = some (.invokevirtual 125, 883) := by decide +kernel
theorem dL_law_883 : dcd cL_law 883 = some (.aload_n 2, 884) := by decide +kernel
theorem dL_law_884 : dcd cL_law 884 = some (.aload_n 0, 885) := by decide +kernel
theorem dL_law_885 : dcd cL_law 885 = some (.iload_n 3, 886) := by decide +kernel
theorem dL_law_886 : dcd cL_law 886 = some (.iconst 1, 887) := by decide +kernel
theorem dL_law_887 : dcd cL_law 887 = some (.iadd, 888) := by decide +kernel
theorem dL_law_888 : dcd cL_law 888 = some (.iaload, 889) := by decide +kernel
theorem dL_law_889 : dcd cL_law 889 = some (.invokevirtual 128, 892) := by decide +kernel
theorem dL_law_892 : dcd cL_law 892 = some (.if_icmp .eq 121, 895) := by decide +kernel
theorem dL_law_895 : dcd cL_law 895 = some (.iconst 0, 896) := by decide +kernel
theorem dL_law_896 : dcd cL_law 896 = some (.ireturn, 897) := by decide +kernel
theorem dL_law_897 : dcd cL_law 897 = some (.aload_n 1, 898) := by decide +kernel
theorem dL_law_898 : dcd cL_law 898 = some (.aload_n 0, 899) := by decide +kernel
theorem dL_law_899 : dcd cL_law 899 = some (.iload_n 3, 900) := by decide +kernel
theorem dL_law_900 : dcd cL_law 900 = some (.iconst 1, 901) := by decide +kernel
theorem dL_law_901 : dcd cL_law 901 = some (.iadd, 902) := by decide +kernel
theorem dL_law_902 : dcd cL_law 902 = some (.iaload, 903) := by decide +kernel
theorem dL_law_903 : dcd cL_law 903 = some (.aload_n 0, 904) := by decide +kernel
theorem dL_law_904 : dcd cL_law 904 = some (.iload_n 3, 905) := by decide +kernel
theorem dL_law_905 : dcd cL_law 905 = some (.iconst 2, 906) := by decide +kernel
theorem dL_law_906 : dcd cL_law 906 = some (.iadd, 907) := by decide +kernel
theorem dL_law_907 : dcd cL_law 907 = some (.iaload, 908) := by decide +kernel
theorem dL_law_908 : dcd cL_law 908 = some (.invokevirtual 129, 911) := by decide +kernel
theorem dL_law_911 : dcd cL_law 911 = some (.aload_n 2, 912) := by decide +kernel
theorem dL_law_912 : dcd cL_law 912 = some (.aload_n 0, 913) := by decide +kernel
theorem dL_law_913 : dcd cL_law 913 = some (.iload_n 3, 914) := by decide +kernel
theorem dL_law_914 : dcd cL_law 914 = some (.iconst 1, 915) := by decide +kernel
theorem dL_law_915 : dcd cL_law 915 = some (.iadd, 916) := by decide +kernel
theorem dL_law_916 : dcd cL_law 916 = some (.iaload, 917) := by decide +kernel
theorem dL_law_917 : dcd cL_law 917 = some (.aload_n 0, 918) := by decide +kernel
theorem dL_law_918 : dcd cL_law 918 = some (.iload_n 3, 919) := by decide +kernel
theorem dL_law_919 : dcd cL_law 919 = some (.iconst 2, 920) := by decide +kernel
theorem dL_law_920 : dcd cL_law 920 = some (.iadd, 921) := by decide +kernel
theorem dL_law_921 : dcd cL_law 921 = some (.iaload, 922) := by decide +kernel
theorem dL_law_922 : dcd cL_law 922 = some (.invokevirtual 132, 925) := by decide +kernel
theorem dL_law_925 : dcd cL_law 925 = some (.if_icmp .eq 88, 928) := by decide +kernel
theorem dL_law_928 : dcd cL_law 928 = some (.iconst 0, 929) := by decide +kernel
theorem dL_law_929 : dcd cL_law 929 = some (.ireturn, 930) := by decide +kernel
theorem dL_law_930 : dcd cL_law 930 = some (.aload_n 1, 931) := by decide +kernel
theorem dL_law_931 : dcd cL_law 931 = some (.aload_n 0, 932) := by decide +kernel
theorem dL_law_932 : dcd cL_law 932 = some (.iload_n 3, 933) := by decide +kernel
theorem dL_law_933 : dcd cL_law 933 = some (.iconst 1, 934) := by decide +kernel
theorem dL_law_934 : dcd cL_law 934 = some (.iadd, 935) := by decide +kernel
theorem dL_law_935 : dcd cL_law 935 = some (.iaload, 936) := by decide +kernel
theorem dL_law_936 : dcd cL_law 936 = some (.invokevirtual 133, 939) := by decide +kernel
theorem dL_law_939 : dcd cL_law 939 = some (.aload_n 2, 940) := by decide +kernel
theorem dL_law_940 : dcd cL_law 940 = some (.aload_n 0, 941) := by decide +kernel
theorem dL_law_941 : dcd cL_law 941 = some (.iload_n 3, 942) := by decide +kernel
theorem dL_law_942 : dcd cL_law 942 = some (.iconst 1, 943) := by decide +kernel
theorem dL_law_943 : dcd cL_law 943 = some (.iadd, 944) := by decide +kernel
theorem dL_law_944 : dcd cL_law 944 = some (.iaload, 945) := by decide +kernel
theorem dL_law_945 : dcd cL_law 945 = some (.invokevirtual 136, 948) := by decide +kernel
theorem dL_law_948 : dcd cL_law 948 = some (.if_icmp .eq 65, 951) := by decide +kernel
theorem dL_law_951 : dcd cL_law 951 = some (.iconst 0, 952) := by decide +kernel
theorem dL_law_952 : dcd cL_law 952 = some (.ireturn, 953) := by decide +kernel
theorem dL_law_953 : dcd cL_law 953 = some (.aload_n 1, 954) := by decide +kernel
theorem dL_law_954 : dcd cL_law 954 = some (.aload_n 0, 955) := by decide +kernel
theorem dL_law_955 : dcd cL_law 955 = some (.iload_n 3, 956) := by decide +kernel
theorem dL_law_956 : dcd cL_law 956 = some (.iconst 1, 957) := by decide +kernel
theorem dL_law_957 : dcd cL_law 957 = some (.iadd, 958) := by decide +kernel
theorem dL_law_958 : dcd cL_law 958 = some (.iaload, 959) := by decide +kernel
theorem dL_law_959 : dcd cL_law 959 = some (.invokevirtual 137, 962) := by decide +kernel
theorem dL_law_962 : dcd cL_law 962 = some (.aload_n 2, 963) := by decide +kernel
theorem dL_law_963 : dcd cL_law 963 = some (.aload_n 0, 964) := by decide +kernel
theorem dL_law_964 : dcd cL_law 964 = some (.iload_n 3, 965) := by decide +kernel
theorem dL_law_965 : dcd cL_law 965 = some (.iconst 1, 966) := by decide +kernel
theorem dL_law_966 : dcd cL_law 966 = some (.iadd, 967) := by decide +kernel
theorem dL_law_967 : dcd cL_law 967 = some (.iaload, 968) := by decide +kernel
theorem dL_law_968 : dcd cL_law 968 = some (.invokevirtual 140, 971) := by decide +kernel
theorem dL_law_971 : dcd cL_law 971 = some (.if_icmp .eq 42, 974) := by decide +kernel
theorem dL_law_974 : dcd cL_law 974 = some (.iconst 0, 975) := by decide +kernel
theorem dL_law_975 : dcd cL_law 975 = some (.ireturn, 976) := by decide +kernel
theorem dL_law_976 : dcd cL_law 976 = some (.aload_n 1, 977) := by decide +kernel
theorem dL_law_977 : dcd cL_law 977 = some (.aload_n 0, 978) := by decide +kernel
theorem dL_law_978 : dcd cL_law 978 = some (.iload_n 3, 979) := by decide +kernel
theorem dL_law_979 : dcd cL_law 979 = some (.iconst 1, 980) := by decide +kernel
theorem dL_law_980 : dcd cL_law 980 = some (.iadd, 981) := by decide +kernel
theorem dL_law_981 : dcd cL_law 981 = some (.iaload, 982) := by decide +kernel
theorem dL_law_982 : dcd cL_law 982 = some (.invokevirtual 141, 985) := by decide +kernel
theorem dL_law_985 : dcd cL_law 985 = some (.aload_n 2, 986) := by decide +kernel
theorem dL_law_986 : dcd cL_law 986 = some (.aload_n 0, 987) := by decide +kernel
theorem dL_law_987 : dcd cL_law 987 = some (.iload_n 3, 988) := by decide +kernel
theorem dL_law_988 : dcd cL_law 988 = some (.iconst 1, 989) := by decide +kernel
theorem dL_law_989 : dcd cL_law 989 = some (.iadd, 990) := by decide +kernel
theorem dL_law_990 : dcd cL_law 990 = some (.iaload, 991) := by decide +kernel
theorem dL_law_991 : dcd cL_law 991 = some (.invokevirtual 144, 994) := by decide +kernel
theorem dL_law_994 : dcd cL_law 994 = some (.if_icmp .eq 19, 997) := by decide +kernel
theorem dL_law_997 : dcd cL_law 997 = some (.iconst 0, 998) := by decide +kernel
theorem dL_law_998 : dcd cL_law 998 = some (.ireturn, 999) := by decide +kernel
theorem dL_law_999 : dcd cL_law 999 = some (.aload_n 1, 1000) := by decide +kernel
theorem dL_law_1000 : dcd cL_law 1000 = some (.invokevirtual 145, 1003) := by decide +kernel
theorem dL_law_1003 : dcd cL_law 1003 = some (.aload_n 2, 1004) := by decide +kernel
theorem dL_law_1004 : dcd cL_law 1004 = some (.invokevirtual 149, 1007) := by decide +kernel
theorem dL_law_1007 : dcd cL_law 1007 = some (.lcmp, 1008) := by decide +kernel
theorem dL_law_1008 : dcd cL_law 1008 = some (.ifCond .eq 5, 1011) := by decide +kernel
theorem dL_law_1011 : dcd cL_law 1011 = some (.iconst 0, 1012) := by decide +kernel
theorem dL_law_1012 : dcd cL_law 1012 = some (.ireturn, 1013) := by decide +kernel
theorem dL_law_1013 : dcd cL_law 1013 = some (.iinc 3 5, 1016) := by decide +kernel
theorem dL_law_1016 : dcd cL_law 1016 = some (.goto (-998), 1019) := by decide +kernel
theorem dL_law_1019 : dcd cL_law 1019 = some (.iconst 1, 1020) := by decide +kernel
theorem dL_law_1020 : dcd cL_law 1020 = some (.ireturn, 1021) := by decide +kernel
end
section
/-! numbers: a value of the walk is an Int within its type's range -/
def w32 (z : Int) : Int := (z + 2147483648) % 4294967296 - 2147483648
def w64 (z : Int) : Int := (z + 9223372036854775808) % 18446744073709551616 - 9223372036854775808
def in32 (z : Int) : Prop := -2147483648 ≤ z ∧ z < 2147483648
def in64 (z : Int) : Prop := -9223372036854775808 ≤ z ∧ z < 9223372036854775808
theorem w32_in (z : Int) : in32 (w32 z) := by unfold w32 in32; omega
theorem w64_in (z : Int) : in64 (w64 z) := by unfold w64 in64; omega
theorem w32_id {z : Int} (h : in32 z) : w32 z = z := by unfold w32; unfold in32 at h; omega
theorem w64_id {z : Int} (h : in64 z) : w64 z = z := by unfold w64; unfold in64 at h; omega
theorem w32_eq {z : Int} (h1 : -2147483648 ≤ z) (h2 : z < 2147483648) : w32 z = z := w32_id ⟨h1, h2⟩
theorem w64_eq {z : Int} (h1 : -9223372036854775808 ≤ z) (h2 : z < 9223372036854775808) : w64 z = z := w64_id ⟨h1, h2⟩
theorem w32_bmod (z : Int) : w32 z = Int.bmod z 4294967296 := by
  rw [Int.bmod_def]; unfold w32; split <;> omega
theorem w64_bmod (z : Int) : w64 z = Int.bmod z 18446744073709551616 := by
  rw [Int.bmod_def]; unfold w64; split <;> omega
theorem n_to32 (z : Int) : (Int32.ofInt z).toInt = w32 z := by rw [Int32.toInt_ofInt, w32_bmod]
theorem n_to64 (z : Int) : (Int64.ofInt z).toInt = w64 z := by rw [Int64.toInt_ofInt, w64_bmod]
theorem n_of32 (z : Int) : Int32.ofInt (w32 z) = Int32.ofInt z := Int32.toInt_inj.1 (by rw [n_to32, n_to32, w32_id (w32_in z)])
theorem n_of64 (z : Int) : Int64.ofInt (w64 z) = Int64.ofInt z := Int64.toInt_inj.1 (by rw [n_to64, n_to64, w64_id (w64_in z)])
theorem n_id32 {z : Int} (h : in32 z) : (Int32.ofInt z).toInt = z := by rw [n_to32, w32_id h]
theorem n_id64 {z : Int} (h : in64 z) : (Int64.ofInt z).toInt = z := by rw [n_to64, w64_id h]
theorem n_in32 (x : Int32) : in32 x.toInt := ⟨x.le_toInt, x.toInt_lt⟩
theorem n_in64 (x : Int64) : in64 x.toInt := ⟨x.le_toInt, x.toInt_lt⟩
theorem n_eq32 {x y : Int} (hx : in32 x) (hy : in32 y) : Int32.ofInt x = Int32.ofInt y ↔ x = y :=
  ⟨fun h => by have := congrArg Int32.toInt h; rwa [n_id32 hx, n_id32 hy] at this, fun h => by rw [h]⟩
theorem n_eq64 {x y : Int} (hx : in64 x) (hy : in64 y) : Int64.ofInt x = Int64.ofInt y ↔ x = y :=
  ⟨fun h => by have := congrArg Int64.toInt h; rwa [n_id64 hx, n_id64 hy] at this, fun h => by rw [h]⟩
theorem n_lt32 {x y : Int} (hx : in32 x) (hy : in32 y) : Int32.ofInt x < Int32.ofInt y ↔ x < y := by rw [Int32.lt_iff_toInt_lt, n_id32 hx, n_id32 hy]
theorem n_le32 {x y : Int} (hx : in32 x) (hy : in32 y) : Int32.ofInt x ≤ Int32.ofInt y ↔ x ≤ y := by rw [Int32.le_iff_toInt_le, n_id32 hx, n_id32 hy]
theorem n_lt64 {x y : Int} (hx : in64 x) (hy : in64 y) : Int64.ofInt x < Int64.ofInt y ↔ x < y := by rw [Int64.lt_iff_toInt_lt, n_id64 hx, n_id64 hy]
def idv (x y : Int) : Int := w32 (Int.tdiv x y)
def irm (x y : Int) : Int := w32 (Int.tmod x y)
def ldv (x y : Int) : Int := w64 (Int.tdiv x y)
def lrm (x y : Int) : Int := w64 (Int.tmod x y)
theorem n_add (x y : Int) : Int32.ofInt x + Int32.ofInt y = Int32.ofInt (w32 (x + y)) := by rw [n_of32, Int32.ofInt_add]
theorem n_sub (x y : Int) : Int32.ofInt x - Int32.ofInt y = Int32.ofInt (w32 (x - y)) := by rw [n_of32, Int32.ofInt_sub]
theorem n_mul (x y : Int) : Int32.ofInt x * Int32.ofInt y = Int32.ofInt (w32 (x * y)) := by rw [n_of32, Int32.ofInt_mul]
theorem n_neg (x : Int) : -Int32.ofInt x = Int32.ofInt (w32 (-x)) := by rw [n_of32, Int32.ofInt_neg]
theorem n_addL (x y : Int) : Int64.ofInt x + Int64.ofInt y = Int64.ofInt (w64 (x + y)) := by rw [n_of64, Int64.ofInt_add]
theorem n_subL (x y : Int) : Int64.ofInt x - Int64.ofInt y = Int64.ofInt (w64 (x - y)) := by rw [n_of64, Int64.ofInt_sub]
theorem n_mulL (x y : Int) : Int64.ofInt x * Int64.ofInt y = Int64.ofInt (w64 (x * y)) := by rw [n_of64, Int64.ofInt_mul]
theorem n_negL (x : Int) : -Int64.ofInt x = Int64.ofInt (w64 (-x)) := by rw [n_of64, Int64.ofInt_neg]
theorem n_div {x y : Int} (hx : in32 x) (hy : in32 y) : Int32.ofInt x / Int32.ofInt y = Int32.ofInt (idv x y) := by
  apply Int32.toInt_inj.1
  rw [Int32.toInt_div, n_id32 hx, n_id32 hy, n_to32, idv, w32_id (w32_in _), w32_bmod]
theorem n_divL {x y : Int} (hx : in64 x) (hy : in64 y) : Int64.ofInt x / Int64.ofInt y = Int64.ofInt (ldv x y) := by
  apply Int64.toInt_inj.1
  rw [Int64.toInt_div, n_id64 hx, n_id64 hy, n_to64, ldv, w64_id (w64_in _), w64_bmod]
theorem n_rem {x y : Int} (hx : in32 x) (hy : in32 y) : Int32.ofInt x - Int32.ofInt x / Int32.ofInt y * Int32.ofInt y = Int32.ofInt (irm x y) := by
  rw [n_div hx hy, irm, n_of32, idv, n_of32, ← Int32.ofInt_mul, ← Int32.ofInt_sub, Int.tmod_def, Int.mul_comm]
theorem n_remL {x y : Int} (hx : in64 x) (hy : in64 y) : Int64.ofInt x - Int64.ofInt x / Int64.ofInt y * Int64.ofInt y = Int64.ofInt (lrm x y) := by
  rw [n_divL hx hy, lrm, n_of64, ldv, n_of64, ← Int64.ofInt_mul, ← Int64.ofInt_sub, Int.tmod_def, Int.mul_comm]
/-- bits: by the machine's own words -/
def iand (x y : Int) : Int := (Int32.ofInt x &&& Int32.ofInt y).toInt
def ior (x y : Int) : Int := (Int32.ofInt x ||| Int32.ofInt y).toInt
def ixor (x y : Int) : Int := (Int32.ofInt x ^^^ Int32.ofInt y).toInt
def ishl (x y : Int) : Int := (Int32.ofInt x <<< (Int32.ofInt y &&& 31)).toInt
def ishr (x y : Int) : Int := (Int32.ofInt x >>> (Int32.ofInt y &&& 31)).toInt
def iushr (x y : Int) : Int := ((Int32.ofInt x).toUInt32 >>> ((Int32.ofInt y).toUInt32 &&& Int32.toUInt32 31)).toInt32.toInt
def land (x y : Int) : Int := (Int64.ofInt x &&& Int64.ofInt y).toInt
def lor (x y : Int) : Int := (Int64.ofInt x ||| Int64.ofInt y).toInt
def lshl (x y : Int) : Int := (Int64.ofInt x <<< ((Int32.ofInt y).toInt64 &&& 63)).toInt
def lshr (x y : Int) : Int := (Int64.ofInt x >>> ((Int32.ofInt y).toInt64 &&& 63)).toInt
def lushr (x y : Int) : Int := ((Int64.ofInt x).toUInt64 >>> ((Int32.ofInt y).toInt64.toUInt64 &&& Int64.toUInt64 63)).toInt64.toInt
def i2c (x : Int) : Int := x % 65536
def lcmp (x y : Int) : Int := if x > y then 1 else if x = y then 0 else -1
theorem n_i2c (x : Int) : ((Int32.ofInt x).toUInt32 % 65536).toInt32 = Int32.ofInt (i2c x) := by
  rw [pk_char]
  have h : ((Int32.ofInt x).toBitVec.toNat : Int) = x % 4294967296 := by
    show (((BitVec.ofInt 32 x).toNat : Nat) : Int) = _
    rw [BitVec.toNat_ofInt]; omega
  have e : (((Int32.ofInt x).toBitVec.toNat % 65536 : Nat) : Int) = i2c x := by unfold i2c; omega
  rw [nI, ← e, Int32.ofInt_eq_ofNat]
theorem n_lcmp {x y : Int} (hx : in64 x) (hy : in64 y) : lg_cmp (Int64.ofInt x) (Int64.ofInt y) = Int32.ofInt (lcmp x y) := by
  unfold lg_cmp lcmp
  have h1 : (Int64.ofInt x > Int64.ofInt y) ↔ x > y := n_lt64 hy hx
  have h2 := n_eq64 hx hy
  by_cases a : x > y
  · rw [if_pos (h1.mpr a), if_pos a]; rfl
  · rw [if_neg (fun q => a (h1.mp q)), if_neg a]
    by_cases b : x = y
    · rw [if_pos (h2.mpr b), if_pos b]; rfl
    · rw [if_neg (fun q => b (h2.mp q)), if_neg b]; rfl
theorem n_ofN (j : Nat) : Int32.ofInt (j : Int) = Int32.ofNat j := (Int32.ofInt_eq_ofNat).symm ▸ rfl
theorem n_clamp {z : Int} (h : in32 z) : (Int32.ofInt z).toNatClampNeg = z.toNat := Int32.toNatClampNeg_ofInt_of_le h.1 h.2
theorem n_vpin {z : Int} {n : Nat} (h : in32 z) (h1 : 0 ≤ z) (h2 : z < n) : vp_in (Int32.ofInt z) n := by
  rw [vp_in_iff, n_id32 h]; exact ⟨h1, h2⟩
theorem in32_0 : in32 0 := by unfold in32; omega
theorem in64_0 : in64 0 := by unfold in64; omega
theorem in64_1 : in64 1 := by unfold in64; omega
end
section
/-! the walk's world: every cell of the run has a code (1 .. 75, in the order of their making); memory is a function of code and slot -/
def gtb : List Cond := lw_tbl.filter goodWord
abbrev AV : Type := Nat × Int
abbrev Mem : Type := Int → Int → Int
abbrev Shp : Type := Nat × Nat
abbrev MD : Type := String × ByteArray × Nat
abbrev XS : Type := Nat × (Nat → Int32)
/-- 0 an int, 1 a long, 2 a reference (0: null) -/
def av (ad : Int → Nat) (v : AV) : Value := match v.1 with
  | 0 => .int (Int32.ofInt v.2)
  | 1 => .long (Int64.ofInt v.2)
  | _ => if v.2 = 0 then .null else .ref (ad v.2)
def fty (ci : Nat) : Nat → FieldType := match ci with
  | 0 => tyX0 | 1 => tyX1 | 2 => tyX2 | 3 => tyX3 | 4 => tyX4 | 5 => tyX5 | 6 => tyX6 | 7 => tyX7 | _ => tyX8
def ftag (t : FieldType) : Nat := match t with
  | .long => 1
  | .object _ => 2
  | .array _ => 2
  | _ => 0
/-- kinds below 100: an object of that class; 100 int[], 101 char[], 102 boolean[], 103 Act[], 104 Bill[] (images), 105 Act[] (members) -/
def aty (k : Nat) : FieldType := match k with
  | 100 => .int
  | 101 => .char
  | 102 => .boolean
  | 104 => .object "NineActs$Bill"
  | _ => .object "NineActs$Act"
def aix (k : Nat) : Nat := match k with
  | 100 => 0
  | 101 => 1
  | 102 => 2
  | 104 => 4
  | _ => 3
def tysL (aC : Nat → ClassId) : List (ClassId × FieldType) := [(aC 0, .int), (aC 1, .char), (aC 2, .boolean), (aC 3, .object "NineActs$Act"), (aC 4, .object "NineActs$Bill")]
def cellE (ad : Int → Nat) (aC : Nat → ClassId) (sp : Shp) (g : Int → Int) : va_E :=
  if sp.1 < 100 then .inr (sp.1, (List.range sp.2).map (fun j => av ad (ftag (fty sp.1 j), g j)))
  else if sp.1 < 103 then .inl (aC (aix sp.1), sp.2, .inl (fun j => Int32.ofInt (g j)))
  else .inl (aC (aix sp.1), sp.2, .inr (.inr (.inr (.inr (fun j => if g j = 0 then none else some (ad (g j)))))))
def wsOf (sh : List Shp) (ad : Int → Nat) (aC : Nat → ClassId) (h : Mem) : va_W := sh.mapIdx (fun k sp => (ad (k + 1), cellE ad aC sp (h (k + 1))))
/-- the shapes of the run's cells -/
def SH : List Shp :=
  [(7, 13), (4, 6), (101, 400)] ++ ((2, 2) :: (105, 9) :: List.replicate 9 (0, 11)) ++ ((2, 2) :: (105, 9) :: List.replicate 9 (0, 11)) ++ [(1, 5), (100, 9), (104, 2), (1, 5), (100, 9), (1, 5), (100, 9)]
  ++ [(6, 14), (100, 8), (103, 10)] ++ List.replicate 9 (100, 10) ++ [(5, 8), (103, 7), (100, 7), (5, 8), (103, 7), (100, 7), (3, 5), (100, 81), (100, 81), (0, 11), (100, 9)]
  ++ [(8, 41), (100, 400), (100, 180), (100, 8), (100, 9), (100, 12), (100, 24), (102, 2)] ++ List.replicate 7 (100, 10) ++ [(100, 60), (100, 60), (100, 60), (100, 10), (100, 512)]
def shp (r : Int) : Option Shp := if 1 ≤ r then SH[(r - 1).toNat]? else none
def okO (ci : Nat) (r : Int) : Bool := match shp r with
  | some sp => sp.1 == ci && Nat.blt ci 100
  | none => false
/-- final references: how far behind the object -/
def foff (ci : Nat) (k : Int) : Option Int := match ci with
  | 1 => if k = 0 then some 1 else none
  | 2 => if k = 0 then some 1 else none
  | 3 => if 0 ≤ k ∧ k < 2 then some (1 + k) else none
  | 4 => if k = 0 then some 1 else none
  | 5 => if 0 ≤ k ∧ k < 2 then some (1 + k) else none
  | 6 => if 0 ≤ k ∧ k < 11 then some (1 + k) else none
  | 7 => if k = 0 then some 1 else if k = 3 then some 25 else if k = 4 then some 27 else if k = 5 then some 32 else if k = 6 then some 44 else if k = 7 then some 47 else if k = 8 then some 50 else if k = 9 then some 53 else if k = 10 then some 54 else none
  | 8 => if k = 2 then some 1 else if k = 9 then some 2 else if 12 ≤ k ∧ k < 18 then some (k - 9) else if 20 ≤ k ∧ k < 26 then some (k - 11) else if 30 ≤ k ∧ k < 33 then some (k - 15) else if 39 ≤ k ∧ k < 41 then some (k - 21) else none
  | 104 => some (1 + 2 * k)
  | 105 => some (1 + k)
  | _ => none
def GF (r k : Int) : Option Int := match shp r with
  | some sp => (foff sp.1 k).map (fun o => r + o)
  | none => none
def canT (t : FieldType) (z : Int) : Prop := match t with
  | .long => in64 z
  | .object _ => True
  | .array _ => True
  | .boolean => z = 0 ∨ z = 1
  | .char => 0 ≤ z ∧ z < 65536
  | _ => in32 z
def slT (sp : Shp) (j : Nat) : FieldType := if sp.1 < 100 then fty sp.1 j else aty sp.1
/-- a memory as the machine can have it: numbers within their types, final references as they were made -/
def Hok (h : Mem) : Prop := (∀ (k : Nat) (sp : Shp), SH[k]? = some sp → ∀ j : Nat, j < sp.2 → canT (slT sp j) (h (k + 1) j)) ∧ ∀ r k z : Int, 0 ≤ k → (∀ sp, shp r = some sp → k < sp.2) → GF r k = some z → h r k = z
def Can (l : List AV) : Prop := ∀ v ∈ l, (v.1 = 0 → in32 v.2) ∧ (v.1 = 1 → in64 v.2)
def wr (h : Mem) (r k v : Int) : Mem := fun r' k' => if r' = r ∧ k' = k then v else h r' k'
theorem Can.nil : Can [] := fun v h => by cases h
theorem Can.tl {v : AV} {st : List AV} (h : Can (v :: st)) : Can st := fun w hw => h w (List.mem_cons_of_mem _ hw)
theorem Can.i {x : Int} {st : List AV} (hx : in32 x) (h : Can st) : Can ((0, x) :: st) := fun w hw => by
  rcases List.mem_cons.mp hw with rfl | hw
  · exact ⟨fun _ => hx, fun q => by cases q⟩
  · exact h w hw
theorem Can.l {x : Int} {st : List AV} (hx : in64 x) (h : Can st) : Can ((1, x) :: st) := fun w hw => by
  rcases List.mem_cons.mp hw with rfl | hw
  · exact ⟨fun q => (by cases q), fun _ => hx⟩
  · exact h w hw
theorem Can.r {x : Int} {st : List AV} (h : Can st) : Can ((2, x) :: st) := fun w hw => by
  rcases List.mem_cons.mp hw with rfl | hw
  · exact ⟨fun q => (by cases q), fun q => (by cases q)⟩
  · exact h w hw
theorem Can.i1 {x : Int} {st : List AV} (h : Can ((0, x) :: st)) : in32 x := (h _ List.mem_cons_self).1 rfl
theorem Can.l1 {x : Int} {st : List AV} (h : Can ((1, x) :: st)) : in64 x := (h _ List.mem_cons_self).2 rfl
theorem Can.of {v : AV} {st : List AV} (h : (v.1 = 0 → in32 v.2) ∧ (v.1 = 1 → in64 v.2)) (hs : Can st) : Can (v :: st) := fun w hw => by
  rcases List.mem_cons.mp hw with rfl | hw
  · exact h
  · exact hs w hw
theorem Can.app {a b : List AV} (ha : Can a) (hb : Can b) : Can (a ++ b) := fun w hw => (List.mem_append.mp hw).elim (ha w) (hb w)
theorem Can.at {l : List AV} (h : Can l) {i : Nat} {v : AV} (hi : l[i]? = some v) : (v.1 = 0 → in32 v.2) ∧ (v.1 = 1 → in64 v.2) := h v (List.mem_of_getElem? hi)
theorem av_cat (ad : Int → Nat) (v : AV) : (av ad v).category = if v.1 = 1 then 2 else 1 := by
  obtain ⟨t, z⟩ := v
  match t with
  | 0 => rfl
  | 1 => rfl
  | t + 2 =>
    unfold av
    by_cases hz : z = 0
    · simp [hz, Value.category]
    · simp [hz, Value.category]
/-! locals -/
def st1 (ls : List AV) (i : Nat) (v : AV) : List AV := ls.mapIdx (fun j w => if j = i then v else if j + 1 = i ∧ w.1 = 1 then (3, 0) else w)
def stL (ls : List AV) (i : Nat) (v : AV) : List AV := ls.mapIdx (fun j w => if j = i then v else if j = i + 1 then (3, 0) else if j + 1 = i ∧ w.1 = 1 then (3, 0) else w)
def LcR (ad : Int → Nat) (lsm : Array Slot) (nL : Nat) (ls : List AV) : Prop := lsm.size = nL ∧ lv_wf lsm ∧ ls.length = nL ∧ ∀ (i : Nat) (v : AV), ls[i]? = some v → v.1 ≤ 2 → lsm[i]? = some (.val (av ad v))
def asl (ad : Int → Nat) (ls : List AV) : List (Nat × Value) := (ls.mapIdx (fun i v => (i, v))).filterMap (fun q => if q.2.1 ≤ 2 then some (q.1, av ad q.2) else none)
theorem asl_mem {ad : Int → Nat} {ls : List AV} {q : Nat × Value} : q ∈ asl ad ls ↔ ∃ v, ls[q.1]? = some v ∧ v.1 ≤ 2 ∧ q.2 = av ad v := by
  unfold asl
  rw [List.mem_filterMap]
  constructor
  · rintro ⟨⟨i, v⟩, hm, hq⟩
    obtain ⟨j, hj⟩ := List.getElem?_of_mem hm
    rw [List.getElem?_mapIdx] at hj
    cases hl : ls[j]? with
    | none => rw [hl] at hj; cases hj
    | some w =>
      rw [hl] at hj
      cases hj
      dsimp only at hq
      split at hq
      · cases hq
        exact ⟨_, hl, by assumption, rfl⟩
      · cases hq
  · rintro ⟨v, h1, h2, h3⟩
    refine ⟨(q.1, v), List.mem_of_getElem? (i := q.1) (by rw [List.getElem?_mapIdx, h1]; rfl), ?_⟩
    dsimp only
    rw [if_pos h2, ← h3]
theorem LcR.has {ad : Int → Nat} {lsm : Array Slot} {nL : Nat} {ls : List AV} (h : LcR ad lsm nL ls) : lv_has lsm nL (asl ad ls) := by
  refine ⟨h.1, h.2.1, fun q hq => ?_⟩
  obtain ⟨v, h1, h2, h3⟩ := asl_mem.mp hq
  rw [h3]
  exact h.2.2.2 _ v h1 h2
theorem LcR.at {ad : Int → Nat} {lsm : Array Slot} {nL : Nat} {ls : List AV} (h : LcR ad lsm nL ls) {i : Nat} {v : AV} (hi : ls[i]? = some v) (ht : v.1 ≤ 2) : lsm[i]? = some (.val (av ad v)) := h.2.2.2 i v hi ht
theorem LcR_st1 {ad : Int → Nat} {lsm lsm' : Array Slot} {nL : Nat} {ls : List AV} (h : LcR ad lsm nL ls) {i : Nat} {v : AV} (hv : v.1 ≤ 2)
    (h' : lv_has lsm' nL ((i, av ad v) :: (asl ad ls).filter (fun q => !(q.1 == i) && !(q.1 + 1 == i && q.2.category == 2)))) : LcR ad lsm' nL (st1 ls i v) := by
  refine ⟨h'.1, h'.2.1, by unfold st1; rw [List.length_mapIdx]; exact h.2.2.1, fun j w hj hw => ?_⟩
  unfold st1 at hj
  rw [List.getElem?_mapIdx] at hj
  cases hl : ls[j]? with
  | none => rw [hl] at hj; cases hj
  | some u =>
    rw [hl] at hj
    simp only [Option.map_some, Option.some.injEq] at hj
    by_cases e : j = i
    · rw [if_pos e] at hj
      subst hj; subst e
      exact h'.2.2 _ List.mem_cons_self
    · rw [if_neg e] at hj
      by_cases f : j + 1 = i ∧ u.1 = 1
      · rw [if_pos f] at hj; subst hj; exact absurd hw (by decide)
      · rw [if_neg f] at hj
        subst hj
        refine h'.2.2 (j, av ad u) (List.mem_cons_of_mem _ (List.mem_filter.mpr ⟨asl_mem.mpr ⟨u, hl, hw, rfl⟩, ?_⟩))
        rw [av_cat]
        simp only [Bool.and_eq_true, Bool.not_eq_true', beq_eq_false_iff_ne, ne_eq, Bool.and_eq_false_iff]
        refine ⟨e, ?_⟩
        by_cases g : j + 1 = i
        · right
          rw [if_neg (fun z => f ⟨g, z⟩)]
          decide
        · exact Or.inl g
theorem LcR_stL {ad : Int → Nat} {lsm lsm' : Array Slot} {nL : Nat} {ls : List AV} (h : LcR ad lsm nL ls) {i : Nat} {v : AV} (hv : v.1 ≤ 2)
    (h' : lv_has lsm' nL ((i, av ad v) :: (asl ad ls).filter (fun q => !(q.1 == i) && (!(q.1 == i + 1) && !(q.1 + 1 == i && q.2.category == 2))))) : LcR ad lsm' nL (stL ls i v) := by
  refine ⟨h'.1, h'.2.1, by unfold stL; rw [List.length_mapIdx]; exact h.2.2.1, fun j w hj hw => ?_⟩
  unfold stL at hj
  rw [List.getElem?_mapIdx] at hj
  cases hl : ls[j]? with
  | none => rw [hl] at hj; cases hj
  | some u =>
    rw [hl] at hj
    simp only [Option.map_some, Option.some.injEq] at hj
    by_cases e : j = i
    · rw [if_pos e] at hj
      subst hj; subst e
      exact h'.2.2 _ List.mem_cons_self
    · rw [if_neg e] at hj
      by_cases e2 : j = i + 1
      · rw [if_pos e2] at hj; subst hj; exact absurd hw (by decide)
      · rw [if_neg e2] at hj
        by_cases f : j + 1 = i ∧ u.1 = 1
        · rw [if_pos f] at hj; subst hj; exact absurd hw (by decide)
        · rw [if_neg f] at hj
          subst hj
          refine h'.2.2 (j, av ad u) (List.mem_cons_of_mem _ (List.mem_filter.mpr ⟨asl_mem.mpr ⟨u, hl, hw, rfl⟩, ?_⟩))
          rw [av_cat]
          simp only [Bool.and_eq_true, Bool.not_eq_true', beq_eq_false_iff_ne, ne_eq, Bool.and_eq_false_iff]
          refine ⟨e, e2, ?_⟩
          by_cases g : j + 1 = i
          · right
            rw [if_neg (fun z => f ⟨g, z⟩)]
            decide
          · exact Or.inl g
theorem Can_st1 {ls : List AV} {i : Nat} {v : AV} (h : Can ls) (hv : (v.1 = 0 → in32 v.2) ∧ (v.1 = 1 → in64 v.2)) : Can (st1 ls i v) := by
  intro w hw
  obtain ⟨j, hj⟩ := List.getElem?_of_mem hw
  unfold st1 at hj
  rw [List.getElem?_mapIdx] at hj
  cases hl : ls[j]? with
  | none => rw [hl] at hj; cases hj
  | some u =>
    rw [hl] at hj
    simp only [Option.map_some, Option.some.injEq] at hj
    split at hj
    · subst hj; exact hv
    · split at hj
      · subst hj; exact ⟨fun q => (by cases q), fun q => (by cases q)⟩
      · subst hj; exact h.at hl
theorem Can_stL {ls : List AV} {i : Nat} {v : AV} (h : Can ls) (hv : (v.1 = 0 → in32 v.2) ∧ (v.1 = 1 → in64 v.2)) : Can (stL ls i v) := by
  intro w hw
  obtain ⟨j, hj⟩ := List.getElem?_of_mem hw
  unfold stL at hj
  rw [List.getElem?_mapIdx] at hj
  cases hl : ls[j]? with
  | none => rw [hl] at hj; cases hj
  | some u =>
    rw [hl] at hj
    simp only [Option.map_some, Option.some.injEq] at hj
    split at hj
    · subst hj; exact hv
    · split at hj
      · subst hj; exact ⟨fun q => (by cases q), fun q => (by cases q)⟩
      · split at hj
        · subst hj; exact ⟨fun q => (by cases q), fun q => (by cases q)⟩
        · subst hj; exact h.at hl
end
section
/-! the judgement of a walk -/
def tuLeast : List Int := [0, 10, 0, 0, 0, 0, 0, 0]
def tuMost : List Int := [9, 400, 30, 9, 10, 9, 99, 999]
def tuFirst : List Int := [2, 180, 10, 2, 5, 1, 20, 400]
def imm (ad : Int → Nat) (A : Nat → Prop) (U : State) (H : Heap) (z : Int) (L : Nat) (xs : Nat → Int32) : Prop := va_X (ad z) L xs U H ∧ ad z < H.size ∧ ¬ A (ad z)
def immF (l : List Int) : Nat → Int32 := fun j => Int32.ofInt (l.getD j 0)
/-- what does not change: the script (-1), the tunes' rows (-2, -3, -4), the texts (-10 .. -16, their bytes -20 .. -26) -/
def Cst (X : XS) (ad : Int → Nat) (A : Nat → Prop) (U : State) (H : Heap) : Prop :=
  imm ad A U H (-1) X.1 X.2 ∧ imm ad A U H (-2) 8 (immF tuLeast) ∧ imm ad A U H (-3) 8 (immF tuMost) ∧ imm ad A U H (-4) 8 (immF tuFirst)
  ∧ va_Z "NineActs" "TUNE_LEAST" "[I" (.ref (ad (-2))) A U H ∧ va_Z "NineActs" "TUNE_MOST" "[I" (.ref (ad (-3))) A U H ∧ va_Z "NineActs" "TUNE_AT_FIRST" "[I" (.ref (ad (-4))) A U H
def Cx (X : XS) (Y : MD) (p : Program) (s : State) (m : MethodId) (args : Array Value) (c : Code) (D : va_G) (ad : Int → Nat) (aC : Nat → ClassId) (A : Nat → Prop) : Prop :=
  p.tables.exec = Jvm.exec ∧ c.code = Y.2.1 ∧ c.maxLocals = Y.2.2 ∧ s.vm.findClass Y.1 = some m.cls ∧ (∀ w ∈ gtb, w.before args s = true) ∧ va_K D vwCl (tysL aC) s ∧ (∀ q, s.heap.size ≤ q → A q) ∧ Cst X ad A s s.heap
def RetAt (c : ByteArray) (pc : Nat) (r : Option AV) : Prop := match r with
  | none => decode c pc = .ok (.return_, 1)
  | some (0, _) => decode c pc = .ok (.ireturn, 1)
  | some (1, _) => decode c pc = .ok (.lreturn, 1)
  | some _ => decode c pc = .ok (.areturn, 1)
/-- from pc, with these locals, this stack and this memory, the method comes to its return, with Φ of what it answers and of the memory then -/
def AJ (X : XS) (Y : MD) (R : Room) (pc : Nat) (ls st : List AV) (h : Mem) (Φ : Option AV → Mem → Prop) : Prop :=
  ∀ (p : Program) (l : Launch) (e : Env) (s : State) (m : MethodId) (args : Array Value) (below : List Frame) (meth : Method) (c : Code) (H : Heap) (locs : List Loc) (cells slots : Nat) (Q : State → Prop) (D : va_G) (ad : Int → Nat) (aC : Nat → ClassId) (A : Nat → Prop) (lsm : Array Slot),
    Cx X Y p s m args c D ad aC A → va_P D vwCl (wsOf SH ad aC h) H → va_D A (wsOf SH ad aC h) → va_S A s.heap H locs → LcR ad lsm Y.2.2 ls → Can ls → Can st → Hok h → cells ≤ R.cells → slots ≤ R.slots →
    (∀ (r : Option AV) (h' : Mem) (H' : Heap) (locs' : List Loc) (lsm' : Array Slot) (pc' : Nat), Φ r h' → Hok h' → Can r.toList → va_P D vwCl (wsOf SH ad aC h') H' → va_D A (wsOf SH ad aC h') → va_S A s.heap H' locs' → RetAt Y.2.1 pc' r →
      W p l e R s m args below meth c H' locs' cells slots Q (F0 m pc' lsm' (r.toList.map (av ad)))) →
    W p l e R s m args below meth c H locs cells slots Q (F0 m pc lsm (st.map (av ad)))
theorem dcd1 {c : ByteArray} {pc n k : Nat} {i : Instr} (h : dcd c pc = some (i, n)) (hn : n = pc + k) : decode c pc = .ok (i, k) := by
  obtain ⟨k', h1, h2⟩ := dcd_ok h
  have : k' = k := by omega
  rw [← this]; exact h1
section Rules
variable {X : XS} {Y : MD} {R : Room} {pc n : Nat} {ls st : List AV} {h : Mem} {Φ : Option AV → Mem → Prop}
/-- an instruction that changes the stack alone -/
theorem AJ.op {st2 : List AV}
    (f : ∀ (p : Program) (l : Launch) (e : Env) (s : State) (m : MethodId) (args : Array Value) (below : List Frame) (meth : Method) (c : Code) (H : Heap) (locs : List Loc) (cells slots : Nat) (Q : State → Prop) (D : va_G) (ad : Int → Nat) (aC : Nat → ClassId) (A : Nat → Prop) (lsm : Array Slot),
      Cx X Y p s m args c D ad aC A → va_S A s.heap H locs → LcR ad lsm Y.2.2 ls → Can ls → Can st → cells ≤ R.cells → slots ≤ R.slots → W p l e R s m args below meth c H locs cells slots Q (F0 m n lsm (st2.map (av ad))) → W p l e R s m args below meth c H locs cells slots Q (F0 m pc lsm (st.map (av ad))))
    (g : Can ls → Can st → Can st2) (k : AJ X Y R n ls st2 h Φ) : AJ X Y R pc ls st h Φ :=
  fun p l e s m args below meth c H locs cells slots Q D ad aC A lsm C hP hD hS hL cl cs ho hc1 hc2 ret =>
    f p l e s m args below meth c H locs cells slots Q D ad aC A lsm C hS hL cl cs hc1 hc2 (k p l e s m args below meth c H locs cells slots Q D ad aC A lsm C hP hD hS hL cl (g cl cs) ho hc1 hc2 ret)
theorem q_iconst {z : Int} (hd : dcd Y.2.1 pc = some (.iconst z, n)) (hn : n = pc + 1) (hz : decide (-1 ≤ z ∧ z ≤ 5) = true) (k : AJ X Y R n ls ((0, z) :: st) h Φ) : AJ X Y R pc ls st h Φ := by
  subst hn
  have hz := of_decide_eq_true hz
  refine AJ.op (fun p l e s m args below meth c H locs cells slots Q D ad aC A lsm C hS hL cl cs _ _ K => lv_iconst C.1 C.2.1 (dcd1 hd rfl) rfl K) (fun _ cs => cs.i ⟨by omega, by omega⟩) k
theorem q_bipush {z : Int} (hd : dcd Y.2.1 pc = some (.bipush z, n)) (hn : n = pc + 2) (hz : decide ((Int8.ofInt z).toInt32 = Int32.ofInt z ∧ -128 ≤ z ∧ z < 128) = true) (k : AJ X Y R n ls ((0, z) :: st) h Φ) : AJ X Y R pc ls st h Φ := by
  subst hn
  have hz := of_decide_eq_true hz
  refine AJ.op (fun p l e s m args below meth c H locs cells slots Q D ad aC A lsm C hS hL cl cs _ _ K => lv_bipush C.1 C.2.1 (dcd1 hd rfl) hz.1 K) (fun _ cs => cs.i ⟨by omega, by omega⟩) k
theorem q_sipush {z : Int} (hd : dcd Y.2.1 pc = some (.sipush z, n)) (hn : n = pc + 3) (hz : decide ((Int16.ofInt z).toInt32 = Int32.ofInt z ∧ -32768 ≤ z ∧ z < 32768) = true) (k : AJ X Y R n ls ((0, z) :: st) h Φ) : AJ X Y R pc ls st h Φ := by
  subst hn
  have hz := of_decide_eq_true hz
  refine AJ.op (fun p l e s m args below meth c H locs cells slots Q D ad aC A lsm C hS hL cl cs _ _ K => lv_sipush C.1 C.2.1 (dcd1 hd rfl) hz.1 K) (fun _ cs => cs.i ⟨by omega, by omega⟩) k
theorem q_ldc {z : Int} {v : Int32} {idx : Nat} (hd : dcd Y.2.1 pc = some (.ldc idx, n)) (hn : n = pc + 2) (hw : Cond.constant Y.1 idx v ∈ gtb) (hv : v.toInt = z) (k : AJ X Y R n ls ((0, z) :: st) h Φ) : AJ X Y R pc ls st h Φ := by
  subst hn; subst hv
  refine AJ.op (fun p l e s m args below meth c H locs cells slots Q D ad aC A lsm C hS hL cl cs _ _ K => lv_ldc (v := v) C.1 C.2.1 C.2.2.2.1 (C.2.2.2.2.1 _ hw) (dcd1 hd rfl) ?_) (fun _ cs => cs.i (n_in32 v)) k
  have e : av ad (0, v.toInt) = .int v := congrArg Value.int (Int32.ofInt_toInt v)
  rw [← e]; exact K
theorem q_ldcw {z : Int} {v : Int32} {idx : Nat} (hd : dcd Y.2.1 pc = some (.ldc_w idx, n)) (hn : n = pc + 3) (hw : Cond.constant Y.1 idx v ∈ gtb) (hv : v.toInt = z) (k : AJ X Y R n ls ((0, z) :: st) h Φ) : AJ X Y R pc ls st h Φ := by
  subst hn; subst hv
  refine AJ.op (fun p l e s m args below meth c H locs cells slots Q D ad aC A lsm C hS hL cl cs _ _ K => lv_ldcw (v := v) C.1 C.2.1 C.2.2.2.1 (C.2.2.2.2.1 _ hw) (dcd1 hd rfl) ?_) (fun _ cs => cs.i (n_in32 v)) k
  have e : av ad (0, v.toInt) = .int v := congrArg Value.int (Int32.ofInt_toInt v)
  rw [← e]; exact K
theorem q_ldc2 {z : Int} {v : Int64} {idx : Nat} (hd : dcd Y.2.1 pc = some (.ldc2_w idx, n)) (hn : n = pc + 3) (hw : Cond.constantLong Y.1 idx v ∈ gtb) (hv : v.toInt = z) (k : AJ X Y R n ls ((1, z) :: st) h Φ) : AJ X Y R pc ls st h Φ := by
  subst hn; subst hv
  refine AJ.op (fun p l e s m args below meth c H locs cells slots Q D ad aC A lsm C hS hL cl cs _ _ K => lv_ldc2 (v := v) C.1 C.2.1 C.2.2.2.1 (C.2.2.2.2.1 _ hw) (dcd1 hd rfl) ?_) (fun _ cs => cs.l (n_in64 v)) k
  have e : av ad (1, v.toInt) = .long v := congrArg Value.long (Int64.ofInt_toInt v)
  rw [← e]; exact K
theorem q_lconst0 (hd : dcd Y.2.1 pc = some (.lconst 0, n)) (hn : n = pc + 1) (k : AJ X Y R n ls ((1, 0) :: st) h Φ) : AJ X Y R pc ls st h Φ := by
  subst hn
  exact AJ.op (fun p l e s m args below meth c H locs cells slots Q D ad aC A lsm C hS hL cl cs _ _ K => lv_lconst C.1 C.2.1 (dcd1 hd rfl) rfl K) (fun _ cs => cs.l in64_0) k
theorem q_lconst1 (hd : dcd Y.2.1 pc = some (.lconst 1, n)) (hn : n = pc + 1) (k : AJ X Y R n ls ((1, 1) :: st) h Φ) : AJ X Y R pc ls st h Φ := by
  subst hn
  exact AJ.op (fun p l e s m args below meth c H locs cells slots Q D ad aC A lsm C hS hL cl cs _ _ K => lv_lconst C.1 C.2.1 (dcd1 hd rfl) rfl K) (fun _ cs => cs.l in64_1) k
theorem q_iload_n {i : Fin 4} {x : Int} (hd : dcd Y.2.1 pc = some (.iload_n i, n)) (hn : n = pc + 1) (hl : ls[(i : Nat)]? = some (0, x)) (k : AJ X Y R n ls ((0, x) :: st) h Φ) : AJ X Y R pc ls st h Φ := by
  subst hn
  exact AJ.op (fun p l e s m args below meth c H locs cells slots Q D ad aC A lsm C hS hL cl cs _ _ K => lv_iload_n C.1 C.2.1 (dcd1 hd rfl) rfl (hL.at hl (Nat.le_of_ble_eq_true rfl)) K) (fun cl cs => cs.of (cl.at hl)) k
theorem q_iload {i : Nat} {x : Int} (hd : dcd Y.2.1 pc = some (.iload i, n)) (hn : n = pc + 2) (hl : ls[i]? = some (0, x)) (k : AJ X Y R n ls ((0, x) :: st) h Φ) : AJ X Y R pc ls st h Φ := by
  subst hn
  exact AJ.op (fun p l e s m args below meth c H locs cells slots Q D ad aC A lsm C hS hL cl cs _ _ K => lv_iload C.1 C.2.1 (dcd1 hd rfl) (hL.at hl (Nat.le_of_ble_eq_true rfl)) K) (fun cl cs => cs.of (cl.at hl)) k
theorem q_lload_n {i : Fin 4} {x : Int} (hd : dcd Y.2.1 pc = some (.lload_n i, n)) (hn : n = pc + 1) (hl : ls[(i : Nat)]? = some (1, x)) (k : AJ X Y R n ls ((1, x) :: st) h Φ) : AJ X Y R pc ls st h Φ := by
  subst hn
  exact AJ.op (fun p l e s m args below meth c H locs cells slots Q D ad aC A lsm C hS hL cl cs _ _ K => lv_lload_n C.1 C.2.1 (dcd1 hd rfl) rfl (hL.at hl (Nat.le_of_ble_eq_true rfl)) K) (fun cl cs => cs.of (cl.at hl)) k
theorem q_lload {i : Nat} {x : Int} (hd : dcd Y.2.1 pc = some (.lload i, n)) (hn : n = pc + 2) (hl : ls[i]? = some (1, x)) (k : AJ X Y R n ls ((1, x) :: st) h Φ) : AJ X Y R pc ls st h Φ := by
  subst hn
  exact AJ.op (fun p l e s m args below meth c H locs cells slots Q D ad aC A lsm C hS hL cl cs _ _ K => lv_lload C.1 C.2.1 (dcd1 hd rfl) (hL.at hl (Nat.le_of_ble_eq_true rfl)) K) (fun cl cs => cs.of (cl.at hl)) k
theorem q_aload_n {i : Fin 4} {x : Int} (hd : dcd Y.2.1 pc = some (.aload_n i, n)) (hn : n = pc + 1) (hl : ls[(i : Nat)]? = some (2, x)) (k : AJ X Y R n ls ((2, x) :: st) h Φ) : AJ X Y R pc ls st h Φ := by
  subst hn
  refine AJ.op (fun p l e s m args below meth c H locs cells slots Q D ad aC A lsm C hS hL cl cs _ _ K => ?_) (fun cl cs => cs.of (cl.at hl)) k
  have h1 := hL.at hl (Nat.le_of_ble_eq_true rfl)
  by_cases hx : x = 0
  · have e : av ad (2, x) = .null := if_pos hx
    rw [e] at h1
    refine lv_aload_nN C.1 C.2.1 (dcd1 hd rfl) rfl h1 ?_
    rw [← e]; exact K
  · have e : av ad (2, x) = .ref (ad x) := if_neg hx
    rw [e] at h1
    refine lv_aload_n C.1 C.2.1 (dcd1 hd rfl) rfl h1 ?_
    rw [← e]; exact K
theorem q_aload {i : Nat} {x : Int} (hd : dcd Y.2.1 pc = some (.aload i, n)) (hn : n = pc + 2) (hl : ls[i]? = some (2, x)) (k : AJ X Y R n ls ((2, x) :: st) h Φ) : AJ X Y R pc ls st h Φ := by
  subst hn
  refine AJ.op (fun p l e s m args below meth c H locs cells slots Q D ad aC A lsm C hS hL cl cs _ _ K => ?_) (fun cl cs => cs.of (cl.at hl)) k
  have h1 := hL.at hl (Nat.le_of_ble_eq_true rfl)
  by_cases hx : x = 0
  · have e : av ad (2, x) = .null := if_pos hx
    rw [e] at h1
    refine lv_aloadN C.1 C.2.1 (dcd1 hd rfl) h1 ?_
    rw [← e]; exact K
  · have e : av ad (2, x) = .ref (ad x) := if_neg hx
    rw [e] at h1
    refine lv_aload C.1 C.2.1 (dcd1 hd rfl) h1 ?_
    rw [← e]; exact K
theorem q_iadd {x y : Int} (hd : dcd Y.2.1 pc = some (.iadd, n)) (hn : n = pc + 1) (k : AJ X Y R n ls ((0, w32 (x + y)) :: st) h Φ) : AJ X Y R pc ls ((0, y) :: (0, x) :: st) h Φ := by
  subst hn
  refine AJ.op (fun p l e s m args below meth c H locs cells slots Q D ad aC A lsm C hS hL cl cs _ _ K => lv_iadd C.1 C.2.1 (dcd1 hd rfl) ?_) (fun _ cs => cs.tl.tl.i (w32_in _)) k
  rw [n_add]; exact K
theorem q_ladd {x y : Int} (hd : dcd Y.2.1 pc = some (.ladd, n)) (hn : n = pc + 1) (k : AJ X Y R n ls ((1, w64 (x + y)) :: st) h Φ) : AJ X Y R pc ls ((1, y) :: (1, x) :: st) h Φ := by
  subst hn
  refine AJ.op (fun p l e s m args below meth c H locs cells slots Q D ad aC A lsm C hS hL cl cs _ _ K => lv_ladd C.1 C.2.1 (dcd1 hd rfl) ?_) (fun _ cs => cs.tl.tl.l (w64_in _)) k
  rw [n_addL]; exact K
theorem q_isub {x y : Int} (hd : dcd Y.2.1 pc = some (.isub, n)) (hn : n = pc + 1) (k : AJ X Y R n ls ((0, w32 (x - y)) :: st) h Φ) : AJ X Y R pc ls ((0, y) :: (0, x) :: st) h Φ := by
  subst hn
  refine AJ.op (fun p l e s m args below meth c H locs cells slots Q D ad aC A lsm C hS hL cl cs _ _ K => lv_isub C.1 C.2.1 (dcd1 hd rfl) ?_) (fun _ cs => cs.tl.tl.i (w32_in _)) k
  rw [n_sub]; exact K
theorem q_lsub {x y : Int} (hd : dcd Y.2.1 pc = some (.lsub, n)) (hn : n = pc + 1) (k : AJ X Y R n ls ((1, w64 (x - y)) :: st) h Φ) : AJ X Y R pc ls ((1, y) :: (1, x) :: st) h Φ := by
  subst hn
  refine AJ.op (fun p l e s m args below meth c H locs cells slots Q D ad aC A lsm C hS hL cl cs _ _ K => lv_lsub C.1 C.2.1 (dcd1 hd rfl) ?_) (fun _ cs => cs.tl.tl.l (w64_in _)) k
  rw [n_subL]; exact K
theorem q_imul {x y : Int} (hd : dcd Y.2.1 pc = some (.imul, n)) (hn : n = pc + 1) (k : AJ X Y R n ls ((0, w32 (x * y)) :: st) h Φ) : AJ X Y R pc ls ((0, y) :: (0, x) :: st) h Φ := by
  subst hn
  refine AJ.op (fun p l e s m args below meth c H locs cells slots Q D ad aC A lsm C hS hL cl cs _ _ K => lv_imul C.1 C.2.1 (dcd1 hd rfl) ?_) (fun _ cs => cs.tl.tl.i (w32_in _)) k
  rw [n_mul]; exact K
theorem q_lmul {x y : Int} (hd : dcd Y.2.1 pc = some (.lmul, n)) (hn : n = pc + 1) (k : AJ X Y R n ls ((1, w64 (x * y)) :: st) h Φ) : AJ X Y R pc ls ((1, y) :: (1, x) :: st) h Φ := by
  subst hn
  refine AJ.op (fun p l e s m args below meth c H locs cells slots Q D ad aC A lsm C hS hL cl cs _ _ K => lv_lmul C.1 C.2.1 (dcd1 hd rfl) ?_) (fun _ cs => cs.tl.tl.l (w64_in _)) k
  rw [n_mulL]; exact K
theorem q_iand {x y : Int} (hd : dcd Y.2.1 pc = some (.iand, n)) (hn : n = pc + 1) (k : AJ X Y R n ls ((0, iand x y) :: st) h Φ) : AJ X Y R pc ls ((0, y) :: (0, x) :: st) h Φ := by
  subst hn
  refine AJ.op (st2 := (0, iand x y) :: st) (fun p l e s m args below meth c H locs cells slots Q D ad aC A lsm C hS hL cl cs _ _ K => lv_iand C.1 C.2.1 (dcd1 hd rfl) ?_) (fun _ cs => cs.tl.tl.i (n_in32 _)) k
  have e : av ad (0, iand x y) = .int (Int32.ofInt x &&& Int32.ofInt y) := congrArg Value.int (Int32.ofInt_toInt _)
  rw [List.map_cons, e] at K; exact K
theorem q_ior {x y : Int} (hd : dcd Y.2.1 pc = some (.ior, n)) (hn : n = pc + 1) (k : AJ X Y R n ls ((0, ior x y) :: st) h Φ) : AJ X Y R pc ls ((0, y) :: (0, x) :: st) h Φ := by
  subst hn
  refine AJ.op (st2 := (0, ior x y) :: st) (fun p l e s m args below meth c H locs cells slots Q D ad aC A lsm C hS hL cl cs _ _ K => lv_ior C.1 C.2.1 (dcd1 hd rfl) ?_) (fun _ cs => cs.tl.tl.i (n_in32 _)) k
  have e : av ad (0, ior x y) = .int (Int32.ofInt x ||| Int32.ofInt y) := congrArg Value.int (Int32.ofInt_toInt _)
  rw [List.map_cons, e] at K; exact K
theorem q_ixor {x y : Int} (hd : dcd Y.2.1 pc = some (.ixor, n)) (hn : n = pc + 1) (k : AJ X Y R n ls ((0, ixor x y) :: st) h Φ) : AJ X Y R pc ls ((0, y) :: (0, x) :: st) h Φ := by
  subst hn
  refine AJ.op (st2 := (0, ixor x y) :: st) (fun p l e s m args below meth c H locs cells slots Q D ad aC A lsm C hS hL cl cs _ _ K => lv_ixor C.1 C.2.1 (dcd1 hd rfl) ?_) (fun _ cs => cs.tl.tl.i (n_in32 _)) k
  have e : av ad (0, ixor x y) = .int (Int32.ofInt x ^^^ Int32.ofInt y) := congrArg Value.int (Int32.ofInt_toInt _)
  rw [List.map_cons, e] at K; exact K
theorem q_ishl {x y : Int} (hd : dcd Y.2.1 pc = some (.ishl, n)) (hn : n = pc + 1) (k : AJ X Y R n ls ((0, ishl x y) :: st) h Φ) : AJ X Y R pc ls ((0, y) :: (0, x) :: st) h Φ := by
  subst hn
  refine AJ.op (st2 := (0, ishl x y) :: st) (fun p l e s m args below meth c H locs cells slots Q D ad aC A lsm C hS hL cl cs _ _ K => lv_ishl C.1 C.2.1 (dcd1 hd rfl) ?_) (fun _ cs => cs.tl.tl.i (n_in32 _)) k
  have e : av ad (0, ishl x y) = .int (Int32.ofInt x <<< (Int32.ofInt y &&& 31)) := congrArg Value.int (Int32.ofInt_toInt _)
  rw [List.map_cons, e] at K; exact K
theorem q_ishr {x y : Int} (hd : dcd Y.2.1 pc = some (.ishr, n)) (hn : n = pc + 1) (k : AJ X Y R n ls ((0, ishr x y) :: st) h Φ) : AJ X Y R pc ls ((0, y) :: (0, x) :: st) h Φ := by
  subst hn
  refine AJ.op (st2 := (0, ishr x y) :: st) (fun p l e s m args below meth c H locs cells slots Q D ad aC A lsm C hS hL cl cs _ _ K => lv_ishr C.1 C.2.1 (dcd1 hd rfl) ?_) (fun _ cs => cs.tl.tl.i (n_in32 _)) k
  have e : av ad (0, ishr x y) = .int (Int32.ofInt x >>> (Int32.ofInt y &&& 31)) := congrArg Value.int (Int32.ofInt_toInt _)
  rw [List.map_cons, e] at K; exact K
theorem q_iushr {x y : Int} (hd : dcd Y.2.1 pc = some (.iushr, n)) (hn : n = pc + 1) (k : AJ X Y R n ls ((0, iushr x y) :: st) h Φ) : AJ X Y R pc ls ((0, y) :: (0, x) :: st) h Φ := by
  subst hn
  exact AJ.op (fun p l e s m args below meth c H locs cells slots Q D ad aC A lsm C hS hL cl cs _ _ K => lv_iushr C.1 C.2.1 (dcd1 hd rfl) (Int32.ofInt_toInt _).symm K) (fun _ cs => cs.tl.tl.i (n_in32 _)) k
theorem q_land {x y : Int} (hd : dcd Y.2.1 pc = some (.land, n)) (hn : n = pc + 1) (k : AJ X Y R n ls ((1, land x y) :: st) h Φ) : AJ X Y R pc ls ((1, y) :: (1, x) :: st) h Φ := by
  subst hn
  refine AJ.op (st2 := (1, land x y) :: st) (fun p l e s m args below meth c H locs cells slots Q D ad aC A lsm C hS hL cl cs _ _ K => lv_land C.1 C.2.1 (dcd1 hd rfl) ?_) (fun _ cs => cs.tl.tl.l (n_in64 _)) k
  have e : av ad (1, land x y) = .long (Int64.ofInt x &&& Int64.ofInt y) := congrArg Value.long (Int64.ofInt_toInt _)
  rw [List.map_cons, e] at K; exact K
theorem q_lor {x y : Int} (hd : dcd Y.2.1 pc = some (.lor, n)) (hn : n = pc + 1) (k : AJ X Y R n ls ((1, lor x y) :: st) h Φ) : AJ X Y R pc ls ((1, y) :: (1, x) :: st) h Φ := by
  subst hn
  refine AJ.op (st2 := (1, lor x y) :: st) (fun p l e s m args below meth c H locs cells slots Q D ad aC A lsm C hS hL cl cs _ _ K => lv_lor C.1 C.2.1 (dcd1 hd rfl) ?_) (fun _ cs => cs.tl.tl.l (n_in64 _)) k
  have e : av ad (1, lor x y) = .long (Int64.ofInt x ||| Int64.ofInt y) := congrArg Value.long (Int64.ofInt_toInt _)
  rw [List.map_cons, e] at K; exact K
theorem q_lshl {x y : Int} (hd : dcd Y.2.1 pc = some (.lshl, n)) (hn : n = pc + 1) (k : AJ X Y R n ls ((1, lshl x y) :: st) h Φ) : AJ X Y R pc ls ((0, y) :: (1, x) :: st) h Φ := by
  subst hn
  exact AJ.op (fun p l e s m args below meth c H locs cells slots Q D ad aC A lsm C hS hL cl cs _ _ K => lv_lshl C.1 C.2.1 (dcd1 hd rfl) (Int64.ofInt_toInt _).symm K) (fun _ cs => cs.tl.tl.l (n_in64 _)) k
theorem q_lshr {x y : Int} (hd : dcd Y.2.1 pc = some (.lshr, n)) (hn : n = pc + 1) (k : AJ X Y R n ls ((1, lshr x y) :: st) h Φ) : AJ X Y R pc ls ((0, y) :: (1, x) :: st) h Φ := by
  subst hn
  exact AJ.op (fun p l e s m args below meth c H locs cells slots Q D ad aC A lsm C hS hL cl cs _ _ K => lv_lshr C.1 C.2.1 (dcd1 hd rfl) (Int64.ofInt_toInt _).symm K) (fun _ cs => cs.tl.tl.l (n_in64 _)) k
theorem q_lushr {x y : Int} (hd : dcd Y.2.1 pc = some (.lushr, n)) (hn : n = pc + 1) (k : AJ X Y R n ls ((1, lushr x y) :: st) h Φ) : AJ X Y R pc ls ((0, y) :: (1, x) :: st) h Φ := by
  subst hn
  exact AJ.op (fun p l e s m args below meth c H locs cells slots Q D ad aC A lsm C hS hL cl cs _ _ K => lv_lushr C.1 C.2.1 (dcd1 hd rfl) (Int64.ofInt_toInt _).symm K) (fun _ cs => cs.tl.tl.l (n_in64 _)) k
theorem q_idiv {x y : Int} (hd : dcd Y.2.1 pc = some (.idiv, n)) (hn : n = pc + 1) (hy : ¬ y = 0) (k : AJ X Y R n ls ((0, idv x y) :: st) h Φ) : AJ X Y R pc ls ((0, y) :: (0, x) :: st) h Φ := by
  subst hn
  refine AJ.op (fun p l e s m args below meth c H locs cells slots Q D ad aC A lsm C hS hL cl cs _ _ K => lv_idiv C.1 C.2.1 (dcd1 hd rfl) (fun q => hy ((n_eq32 cs.i1 in32_0).mp q)) ?_) (fun _ cs => cs.tl.tl.i (w32_in _)) k
  rw [n_div cs.tl.i1 cs.i1]; exact K
theorem q_irem {x y : Int} (hd : dcd Y.2.1 pc = some (.irem, n)) (hn : n = pc + 1) (hy : ¬ y = 0) (k : AJ X Y R n ls ((0, irm x y) :: st) h Φ) : AJ X Y R pc ls ((0, y) :: (0, x) :: st) h Φ := by
  subst hn
  refine AJ.op (fun p l e s m args below meth c H locs cells slots Q D ad aC A lsm C hS hL cl cs _ _ K => lv_irem C.1 C.2.1 (dcd1 hd rfl) (fun q => hy ((n_eq32 cs.i1 in32_0).mp q)) ?_) (fun _ cs => cs.tl.tl.i (w32_in _)) k
  rw [n_rem cs.tl.i1 cs.i1]; exact K
theorem q_ldiv {x y : Int} (hd : dcd Y.2.1 pc = some (.ldiv, n)) (hn : n = pc + 1) (hy : ¬ y = 0) (k : AJ X Y R n ls ((1, ldv x y) :: st) h Φ) : AJ X Y R pc ls ((1, y) :: (1, x) :: st) h Φ := by
  subst hn
  refine AJ.op (fun p l e s m args below meth c H locs cells slots Q D ad aC A lsm C hS hL cl cs _ _ K => lv_ldiv C.1 C.2.1 (dcd1 hd rfl) (fun q => hy ((n_eq64 cs.l1 in64_0).mp q)) ?_) (fun _ cs => cs.tl.tl.l (w64_in _)) k
  rw [n_divL cs.tl.l1 cs.l1]; exact K
theorem q_lrem {x y : Int} (hd : dcd Y.2.1 pc = some (.lrem, n)) (hn : n = pc + 1) (hy : ¬ y = 0) (k : AJ X Y R n ls ((1, lrm x y) :: st) h Φ) : AJ X Y R pc ls ((1, y) :: (1, x) :: st) h Φ := by
  subst hn
  refine AJ.op (fun p l e s m args below meth c H locs cells slots Q D ad aC A lsm C hS hL cl cs _ _ K => lv_lrem C.1 C.2.1 (dcd1 hd rfl) (fun q => hy ((n_eq64 cs.l1 in64_0).mp q)) ?_) (fun _ cs => cs.tl.tl.l (w64_in _)) k
  rw [n_remL cs.tl.l1 cs.l1]; exact K
theorem q_ineg {x : Int} (hd : dcd Y.2.1 pc = some (.ineg, n)) (hn : n = pc + 1) (k : AJ X Y R n ls ((0, w32 (-x)) :: st) h Φ) : AJ X Y R pc ls ((0, x) :: st) h Φ := by
  subst hn
  refine AJ.op (fun p l e s m args below meth c H locs cells slots Q D ad aC A lsm C hS hL cl cs _ _ K => lv_ineg C.1 C.2.1 (dcd1 hd rfl) ?_) (fun _ cs => cs.tl.i (w32_in _)) k
  rw [n_neg]; exact K
theorem q_lneg {x : Int} (hd : dcd Y.2.1 pc = some (.lneg, n)) (hn : n = pc + 1) (k : AJ X Y R n ls ((1, w64 (-x)) :: st) h Φ) : AJ X Y R pc ls ((1, x) :: st) h Φ := by
  subst hn
  refine AJ.op (fun p l e s m args below meth c H locs cells slots Q D ad aC A lsm C hS hL cl cs _ _ K => lv_lneg C.1 C.2.1 (dcd1 hd rfl) ?_) (fun _ cs => cs.tl.l (w64_in _)) k
  rw [n_negL]; exact K
theorem q_i2l {x : Int} (hd : dcd Y.2.1 pc = some (.i2l, n)) (hn : n = pc + 1) (k : AJ X Y R n ls ((1, x) :: st) h Φ) : AJ X Y R pc ls ((0, x) :: st) h Φ := by
  subst hn
  exact AJ.op (fun p l e s m args below meth c H locs cells slots Q D ad aC A lsm C hS hL cl cs _ _ K => lv_i2l C.1 C.2.1 (dcd1 hd rfl) (Int64.toInt_inj.1 (by rw [Int32.toInt_toInt64, n_id32 cs.i1, n_id64 ⟨by have := cs.i1.1; omega, by have := cs.i1.2; omega⟩])) K) (fun _ cs => cs.tl.l ⟨by have := cs.i1.1; omega, by have := cs.i1.2; omega⟩) k
theorem q_l2i {x : Int} (hd : dcd Y.2.1 pc = some (.l2i, n)) (hn : n = pc + 1) (k : AJ X Y R n ls ((0, w32 x) :: st) h Φ) : AJ X Y R pc ls ((1, x) :: st) h Φ := by
  subst hn
  exact AJ.op (fun p l e s m args below meth c H locs cells slots Q D ad aC A lsm C hS hL cl cs _ _ K => lv_l2i C.1 C.2.1 (dcd1 hd rfl) (by rw [Int64.toInt32_ofInt, n_of32]) K) (fun _ cs => cs.tl.i (w32_in _)) k
theorem q_i2c {x : Int} (hd : dcd Y.2.1 pc = some (.i2c, n)) (hn : n = pc + 1) (k : AJ X Y R n ls ((0, i2c x) :: st) h Φ) : AJ X Y R pc ls ((0, x) :: st) h Φ := by
  subst hn
  exact AJ.op (fun p l e s m args below meth c H locs cells slots Q D ad aC A lsm C hS hL cl cs _ _ K => lv_i2c C.1 C.2.1 (dcd1 hd rfl) (n_i2c x) K) (fun _ cs => cs.tl.i ⟨by unfold i2c; omega, by unfold i2c; omega⟩) k
theorem q_lcmp {x y : Int} (hd : dcd Y.2.1 pc = some (.lcmp, n)) (hn : n = pc + 1) (k : AJ X Y R n ls ((0, lcmp x y) :: st) h Φ) : AJ X Y R pc ls ((1, y) :: (1, x) :: st) h Φ := by
  subst hn
  refine AJ.op (fun p l e s m args below meth c H locs cells slots Q D ad aC A lsm C hS hL cl cs _ _ K => W.lcmp C.1 C.2.1 (dcd1 hd rfl) ?_) (fun _ cs => cs.tl.tl.i (by unfold lcmp in32; split <;> (try split) <;> omega)) k
  rw [n_lcmp cs.tl.l1 cs.l1]; exact K
theorem q_dup {t : Nat} {x : Int} (hd : dcd Y.2.1 pc = some (.dup, n)) (hn : n = pc + 1) (ht : t ≠ 1) (k : AJ X Y R n ls ((t, x) :: (t, x) :: st) h Φ) : AJ X Y R pc ls ((t, x) :: st) h Φ := by
  subst hn
  exact AJ.op (fun p l e s m args below meth c H locs cells slots Q D ad aC A lsm C hS hL cl cs _ _ K => lv_dup C.1 C.2.1 (dcd1 hd rfl) (by rw [av_cat, if_neg ht]) K) (fun _ cs => cs.of (cs _ List.mem_cons_self)) k
theorem q_dup2 {t u : Nat} {x y : Int} (hd : dcd Y.2.1 pc = some (.dup2, n)) (hn : n = pc + 1) (ht : t ≠ 1) (hu : u ≠ 1) (k : AJ X Y R n ls ((t, x) :: (u, y) :: (t, x) :: (u, y) :: st) h Φ) : AJ X Y R pc ls ((t, x) :: (u, y) :: st) h Φ := by
  subst hn
  exact AJ.op (fun p l e s m args below meth c H locs cells slots Q D ad aC A lsm C hS hL cl cs _ _ K => lv_dup2_11 C.1 C.2.1 (dcd1 hd rfl) (by rw [av_cat, if_neg ht]) (by rw [av_cat, if_neg hu]) K) (fun _ cs => Can.of (cs _ List.mem_cons_self) (Can.of (cs.tl _ List.mem_cons_self) cs)) k
theorem q_pop {t : Nat} {x : Int} (hd : dcd Y.2.1 pc = some (.pop, n)) (hn : n = pc + 1) (ht : t ≠ 1) (k : AJ X Y R n ls st h Φ) : AJ X Y R pc ls ((t, x) :: st) h Φ := by
  subst hn
  exact AJ.op (fun p l e s m args below meth c H locs cells slots Q D ad aC A lsm C hS hL cl cs _ _ K => lv_pop C.1 C.2.1 (dcd1 hd rfl) (by rw [av_cat, if_neg ht]) K) (fun _ cs => cs.tl) k
theorem q_goto {off : Int} {tgt : Nat} (hd : dcd Y.2.1 pc = some (.goto off, n)) (hn : n = pc + 3) (ht : (pc : Int) + off = (tgt : Int)) (k : AJ X Y R tgt ls st h Φ) : AJ X Y R pc ls st h Φ := by
  subst hn
  exact AJ.op (fun p l e s m args below meth c H locs cells slots Q D ad aC A lsm C hS hL cl cs _ _ K => lv_goto C.1 C.2.1 (dcd1 hd rfl) ht K) (fun _ cs => cs) k
theorem q_icmp_eq {x y : Int} {off : Int} {tgt : Nat} (hd : dcd Y.2.1 pc = some (.if_icmp .eq off, n)) (hn : n = pc + 3) (ht : (pc : Int) + off = (tgt : Int)) (kt : x = y → AJ X Y R tgt ls st h Φ) (kf : ¬ (x = y) → AJ X Y R n ls st h Φ) : AJ X Y R pc ls ((0, y) :: (0, x) :: st) h Φ := by
  subst hn
  intro p l e s m args below meth c H locs cells slots Q D ad aC A lsm C hP hD hS hL cl cs ho hc1 hc2 ret
  have kt := fun q => kt q p l e s m args below meth c H locs cells slots Q D ad aC A lsm C hP hD hS hL cl cs.tl.tl ho hc1 hc2 ret
  have kf := fun q => kf q p l e s m args below meth c H locs cells slots Q D ad aC A lsm C hP hD hS hL cl cs.tl.tl ho hc1 hc2 ret
  exact lv_icmp_eq C.1 C.2.1 (dcd1 hd rfl) ht (fun q => kt ((n_eq32 cs.tl.i1 cs.i1).mp q)) (fun q => kf (fun z => q ((n_eq32 cs.tl.i1 cs.i1).mpr z)))
theorem q_if_eq {x : Int} {off : Int} {tgt : Nat} (hd : dcd Y.2.1 pc = some (.ifCond .eq off, n)) (hn : n = pc + 3) (ht : (pc : Int) + off = (tgt : Int)) (kt : x = 0 → AJ X Y R tgt ls st h Φ) (kf : ¬ (x = 0) → AJ X Y R n ls st h Φ) : AJ X Y R pc ls ((0, x) :: st) h Φ := by
  subst hn
  intro p l e s m args below meth c H locs cells slots Q D ad aC A lsm C hP hD hS hL cl cs ho hc1 hc2 ret
  have kt := fun q => kt q p l e s m args below meth c H locs cells slots Q D ad aC A lsm C hP hD hS hL cl cs.tl ho hc1 hc2 ret
  have kf := fun q => kf q p l e s m args below meth c H locs cells slots Q D ad aC A lsm C hP hD hS hL cl cs.tl ho hc1 hc2 ret
  exact lv_if_eq C.1 C.2.1 (dcd1 hd rfl) ht (fun q => kt ((n_eq32 cs.i1 in32_0).mp q)) (fun q => kf (fun z => q ((n_eq32 cs.i1 in32_0).mpr z)))
theorem q_icmp_ne {x y : Int} {off : Int} {tgt : Nat} (hd : dcd Y.2.1 pc = some (.if_icmp .ne off, n)) (hn : n = pc + 3) (ht : (pc : Int) + off = (tgt : Int)) (kt : ¬ x = y → AJ X Y R tgt ls st h Φ) (kf : x = y → AJ X Y R n ls st h Φ) : AJ X Y R pc ls ((0, y) :: (0, x) :: st) h Φ := by
  subst hn
  intro p l e s m args below meth c H locs cells slots Q D ad aC A lsm C hP hD hS hL cl cs ho hc1 hc2 ret
  have kt := fun q => kt q p l e s m args below meth c H locs cells slots Q D ad aC A lsm C hP hD hS hL cl cs.tl.tl ho hc1 hc2 ret
  have kf := fun q => kf q p l e s m args below meth c H locs cells slots Q D ad aC A lsm C hP hD hS hL cl cs.tl.tl ho hc1 hc2 ret
  exact lv_icmp_ne C.1 C.2.1 (dcd1 hd rfl) ht (fun q => kt (fun z => q ((n_eq32 cs.tl.i1 cs.i1).mpr z))) (fun q => kf ((n_eq32 cs.tl.i1 cs.i1).mp q))
theorem q_if_ne {x : Int} {off : Int} {tgt : Nat} (hd : dcd Y.2.1 pc = some (.ifCond .ne off, n)) (hn : n = pc + 3) (ht : (pc : Int) + off = (tgt : Int)) (kt : ¬ x = 0 → AJ X Y R tgt ls st h Φ) (kf : x = 0 → AJ X Y R n ls st h Φ) : AJ X Y R pc ls ((0, x) :: st) h Φ := by
  subst hn
  intro p l e s m args below meth c H locs cells slots Q D ad aC A lsm C hP hD hS hL cl cs ho hc1 hc2 ret
  have kt := fun q => kt q p l e s m args below meth c H locs cells slots Q D ad aC A lsm C hP hD hS hL cl cs.tl ho hc1 hc2 ret
  have kf := fun q => kf q p l e s m args below meth c H locs cells slots Q D ad aC A lsm C hP hD hS hL cl cs.tl ho hc1 hc2 ret
  exact lv_if_ne C.1 C.2.1 (dcd1 hd rfl) ht (fun q => kt (fun z => q ((n_eq32 cs.i1 in32_0).mpr z))) (fun q => kf ((n_eq32 cs.i1 in32_0).mp q))
theorem q_icmp_lt {x y : Int} {off : Int} {tgt : Nat} (hd : dcd Y.2.1 pc = some (.if_icmp .lt off, n)) (hn : n = pc + 3) (ht : (pc : Int) + off = (tgt : Int)) (kt : x < y → AJ X Y R tgt ls st h Φ) (kf : ¬ (x < y) → AJ X Y R n ls st h Φ) : AJ X Y R pc ls ((0, y) :: (0, x) :: st) h Φ := by
  subst hn
  intro p l e s m args below meth c H locs cells slots Q D ad aC A lsm C hP hD hS hL cl cs ho hc1 hc2 ret
  have kt := fun q => kt q p l e s m args below meth c H locs cells slots Q D ad aC A lsm C hP hD hS hL cl cs.tl.tl ho hc1 hc2 ret
  have kf := fun q => kf q p l e s m args below meth c H locs cells slots Q D ad aC A lsm C hP hD hS hL cl cs.tl.tl ho hc1 hc2 ret
  exact lv_icmp_lt C.1 C.2.1 (dcd1 hd rfl) ht (fun q => kt ((n_lt32 cs.tl.i1 cs.i1).mp q)) (fun q => kf (fun z => q ((n_lt32 cs.tl.i1 cs.i1).mpr z)))
theorem q_if_lt {x : Int} {off : Int} {tgt : Nat} (hd : dcd Y.2.1 pc = some (.ifCond .lt off, n)) (hn : n = pc + 3) (ht : (pc : Int) + off = (tgt : Int)) (kt : x < 0 → AJ X Y R tgt ls st h Φ) (kf : ¬ (x < 0) → AJ X Y R n ls st h Φ) : AJ X Y R pc ls ((0, x) :: st) h Φ := by
  subst hn
  intro p l e s m args below meth c H locs cells slots Q D ad aC A lsm C hP hD hS hL cl cs ho hc1 hc2 ret
  have kt := fun q => kt q p l e s m args below meth c H locs cells slots Q D ad aC A lsm C hP hD hS hL cl cs.tl ho hc1 hc2 ret
  have kf := fun q => kf q p l e s m args below meth c H locs cells slots Q D ad aC A lsm C hP hD hS hL cl cs.tl ho hc1 hc2 ret
  exact lv_if_lt C.1 C.2.1 (dcd1 hd rfl) ht (fun q => kt ((n_lt32 cs.i1 in32_0).mp q)) (fun q => kf (fun z => q ((n_lt32 cs.i1 in32_0).mpr z)))
theorem q_icmp_ge {x y : Int} {off : Int} {tgt : Nat} (hd : dcd Y.2.1 pc = some (.if_icmp .ge off, n)) (hn : n = pc + 3) (ht : (pc : Int) + off = (tgt : Int)) (kt : y ≤ x → AJ X Y R tgt ls st h Φ) (kf : ¬ (y ≤ x) → AJ X Y R n ls st h Φ) : AJ X Y R pc ls ((0, y) :: (0, x) :: st) h Φ := by
  subst hn
  intro p l e s m args below meth c H locs cells slots Q D ad aC A lsm C hP hD hS hL cl cs ho hc1 hc2 ret
  have kt := fun q => kt q p l e s m args below meth c H locs cells slots Q D ad aC A lsm C hP hD hS hL cl cs.tl.tl ho hc1 hc2 ret
  have kf := fun q => kf q p l e s m args below meth c H locs cells slots Q D ad aC A lsm C hP hD hS hL cl cs.tl.tl ho hc1 hc2 ret
  exact lv_icmp_ge C.1 C.2.1 (dcd1 hd rfl) ht (fun q => kt ((n_le32 cs.i1 cs.tl.i1).mp q)) (fun q => kf (fun z => q ((n_le32 cs.i1 cs.tl.i1).mpr z)))
theorem q_if_ge {x : Int} {off : Int} {tgt : Nat} (hd : dcd Y.2.1 pc = some (.ifCond .ge off, n)) (hn : n = pc + 3) (ht : (pc : Int) + off = (tgt : Int)) (kt : 0 ≤ x → AJ X Y R tgt ls st h Φ) (kf : ¬ (0 ≤ x) → AJ X Y R n ls st h Φ) : AJ X Y R pc ls ((0, x) :: st) h Φ := by
  subst hn
  intro p l e s m args below meth c H locs cells slots Q D ad aC A lsm C hP hD hS hL cl cs ho hc1 hc2 ret
  have kt := fun q => kt q p l e s m args below meth c H locs cells slots Q D ad aC A lsm C hP hD hS hL cl cs.tl ho hc1 hc2 ret
  have kf := fun q => kf q p l e s m args below meth c H locs cells slots Q D ad aC A lsm C hP hD hS hL cl cs.tl ho hc1 hc2 ret
  exact lv_if_ge C.1 C.2.1 (dcd1 hd rfl) ht (fun q => kt ((n_le32 in32_0 cs.i1).mp q)) (fun q => kf (fun z => q ((n_le32 in32_0 cs.i1).mpr z)))
theorem q_icmp_gt {x y : Int} {off : Int} {tgt : Nat} (hd : dcd Y.2.1 pc = some (.if_icmp .gt off, n)) (hn : n = pc + 3) (ht : (pc : Int) + off = (tgt : Int)) (kt : y < x → AJ X Y R tgt ls st h Φ) (kf : ¬ (y < x) → AJ X Y R n ls st h Φ) : AJ X Y R pc ls ((0, y) :: (0, x) :: st) h Φ := by
  subst hn
  intro p l e s m args below meth c H locs cells slots Q D ad aC A lsm C hP hD hS hL cl cs ho hc1 hc2 ret
  have kt := fun q => kt q p l e s m args below meth c H locs cells slots Q D ad aC A lsm C hP hD hS hL cl cs.tl.tl ho hc1 hc2 ret
  have kf := fun q => kf q p l e s m args below meth c H locs cells slots Q D ad aC A lsm C hP hD hS hL cl cs.tl.tl ho hc1 hc2 ret
  exact lv_icmp_gt C.1 C.2.1 (dcd1 hd rfl) ht (fun q => kt ((n_lt32 cs.i1 cs.tl.i1).mp q)) (fun q => kf (fun z => q ((n_lt32 cs.i1 cs.tl.i1).mpr z)))
theorem q_if_gt {x : Int} {off : Int} {tgt : Nat} (hd : dcd Y.2.1 pc = some (.ifCond .gt off, n)) (hn : n = pc + 3) (ht : (pc : Int) + off = (tgt : Int)) (kt : 0 < x → AJ X Y R tgt ls st h Φ) (kf : ¬ (0 < x) → AJ X Y R n ls st h Φ) : AJ X Y R pc ls ((0, x) :: st) h Φ := by
  subst hn
  intro p l e s m args below meth c H locs cells slots Q D ad aC A lsm C hP hD hS hL cl cs ho hc1 hc2 ret
  have kt := fun q => kt q p l e s m args below meth c H locs cells slots Q D ad aC A lsm C hP hD hS hL cl cs.tl ho hc1 hc2 ret
  have kf := fun q => kf q p l e s m args below meth c H locs cells slots Q D ad aC A lsm C hP hD hS hL cl cs.tl ho hc1 hc2 ret
  exact lv_if_gt C.1 C.2.1 (dcd1 hd rfl) ht (fun q => kt ((n_lt32 in32_0 cs.i1).mp q)) (fun q => kf (fun z => q ((n_lt32 in32_0 cs.i1).mpr z)))
theorem q_icmp_le {x y : Int} {off : Int} {tgt : Nat} (hd : dcd Y.2.1 pc = some (.if_icmp .le off, n)) (hn : n = pc + 3) (ht : (pc : Int) + off = (tgt : Int)) (kt : x ≤ y → AJ X Y R tgt ls st h Φ) (kf : ¬ (x ≤ y) → AJ X Y R n ls st h Φ) : AJ X Y R pc ls ((0, y) :: (0, x) :: st) h Φ := by
  subst hn
  intro p l e s m args below meth c H locs cells slots Q D ad aC A lsm C hP hD hS hL cl cs ho hc1 hc2 ret
  have kt := fun q => kt q p l e s m args below meth c H locs cells slots Q D ad aC A lsm C hP hD hS hL cl cs.tl.tl ho hc1 hc2 ret
  have kf := fun q => kf q p l e s m args below meth c H locs cells slots Q D ad aC A lsm C hP hD hS hL cl cs.tl.tl ho hc1 hc2 ret
  exact lv_icmp_le C.1 C.2.1 (dcd1 hd rfl) ht (fun q => kt ((n_le32 cs.tl.i1 cs.i1).mp q)) (fun q => kf (fun z => q ((n_le32 cs.tl.i1 cs.i1).mpr z)))
theorem q_if_le {x : Int} {off : Int} {tgt : Nat} (hd : dcd Y.2.1 pc = some (.ifCond .le off, n)) (hn : n = pc + 3) (ht : (pc : Int) + off = (tgt : Int)) (kt : x ≤ 0 → AJ X Y R tgt ls st h Φ) (kf : ¬ (x ≤ 0) → AJ X Y R n ls st h Φ) : AJ X Y R pc ls ((0, x) :: st) h Φ := by
  subst hn
  intro p l e s m args below meth c H locs cells slots Q D ad aC A lsm C hP hD hS hL cl cs ho hc1 hc2 ret
  have kt := fun q => kt q p l e s m args below meth c H locs cells slots Q D ad aC A lsm C hP hD hS hL cl cs.tl ho hc1 hc2 ret
  have kf := fun q => kf q p l e s m args below meth c H locs cells slots Q D ad aC A lsm C hP hD hS hL cl cs.tl ho hc1 hc2 ret
  exact lv_if_le C.1 C.2.1 (dcd1 hd rfl) ht (fun q => kt ((n_le32 cs.i1 in32_0).mp q)) (fun q => kf (fun z => q ((n_le32 cs.i1 in32_0).mpr z)))
theorem q_istore {i : Nat} {x : Int} {ls' : List AV} (hd : dcd Y.2.1 pc = some (.istore i, n)) (hn : n = pc + 2) (hl : i < ls.length) (he : st1 ls i (0, x) = ls') (k : AJ X Y R n ls' st h Φ) : AJ X Y R pc ls ((0, x) :: st) h Φ := by
  subst hn; subst he
  intro p l e0 s m args below meth c H locs cells slots Q D ad aC A lsm C hP hD hS hL cl cs ho hc1 hc2 ret
  refine lv_istore C.1 C.2.1 (dcd1 hd rfl) hL.has (by have := hL.2.2.1; omega) rfl (fun ls' hl' => ?_)
  exact k p l e0 s m args below meth c H locs cells slots Q D ad aC A ls' C hP hD hS (LcR_st1 (v := (0, x)) hL (Nat.le_of_ble_eq_true rfl) hl') (Can_st1 cl (cs _ List.mem_cons_self)) cs.tl ho hc1 hc2 ret
theorem q_istore_n {j : Fin 4} {i : Nat} {x : Int} {ls' : List AV} (hd : dcd Y.2.1 pc = some (.istore_n j, n)) (hn : n = pc + 1) (hi : (j : Nat) = i) (hl : i < ls.length) (he : st1 ls i (0, x) = ls') (k : AJ X Y R n ls' st h Φ) : AJ X Y R pc ls ((0, x) :: st) h Φ := by
  subst hn; subst he
  intro p l e0 s m args below meth c H locs cells slots Q D ad aC A lsm C hP hD hS hL cl cs ho hc1 hc2 ret
  refine lv_istore_n C.1 C.2.1 (dcd1 hd rfl) hi hL.has (by have := hL.2.2.1; omega) rfl (fun ls' hl' => ?_)
  exact k p l e0 s m args below meth c H locs cells slots Q D ad aC A ls' C hP hD hS (LcR_st1 (v := (0, x)) hL (Nat.le_of_ble_eq_true rfl) hl') (Can_st1 cl (cs _ List.mem_cons_self)) cs.tl ho hc1 hc2 ret
theorem q_astore {i : Nat} {x : Int} {ls' : List AV} (hd : dcd Y.2.1 pc = some (.astore i, n)) (hn : n = pc + 2) (hx : ¬ x = 0) (hl : i < ls.length) (he : st1 ls i (2, x) = ls') (k : AJ X Y R n ls' st h Φ) : AJ X Y R pc ls ((2, x) :: st) h Φ := by
  subst hn; subst he
  intro p l e0 s m args below meth c H locs cells slots Q D ad aC A lsm C hP hD hS hL cl cs ho hc1 hc2 ret
  have e : av ad (2, x) = .ref (ad x) := if_neg hx
  rw [List.map_cons, e]
  refine lv_astore C.1 C.2.1 (dcd1 hd rfl) hL.has (by have := hL.2.2.1; omega) rfl (fun ls' hl' => ?_)
  rw [← e] at hl'
  exact k p l e0 s m args below meth c H locs cells slots Q D ad aC A ls' C hP hD hS (LcR_st1 hL (Nat.le_of_ble_eq_true rfl) hl') (Can_st1 cl (cs _ List.mem_cons_self)) cs.tl ho hc1 hc2 ret
theorem q_astore_n {j : Fin 4} {i : Nat} {x : Int} {ls' : List AV} (hd : dcd Y.2.1 pc = some (.astore_n j, n)) (hn : n = pc + 1) (hi : (j : Nat) = i) (hx : ¬ x = 0) (hl : i < ls.length) (he : st1 ls i (2, x) = ls') (k : AJ X Y R n ls' st h Φ) : AJ X Y R pc ls ((2, x) :: st) h Φ := by
  subst hn; subst he
  intro p l e0 s m args below meth c H locs cells slots Q D ad aC A lsm C hP hD hS hL cl cs ho hc1 hc2 ret
  have e : av ad (2, x) = .ref (ad x) := if_neg hx
  rw [List.map_cons, e]
  refine lv_astore_n C.1 C.2.1 (dcd1 hd rfl) hi hL.has (by have := hL.2.2.1; omega) rfl (fun ls' hl' => ?_)
  rw [← e] at hl'
  exact k p l e0 s m args below meth c H locs cells slots Q D ad aC A ls' C hP hD hS (LcR_st1 hL (Nat.le_of_ble_eq_true rfl) hl') (Can_st1 cl (cs _ List.mem_cons_self)) cs.tl ho hc1 hc2 ret
theorem q_lstore {i : Nat} {x : Int} {ls' : List AV} (hd : dcd Y.2.1 pc = some (.lstore i, n)) (hn : n = pc + 2) (hl : i + 1 < ls.length) (he : stL ls i (1, x) = ls') (k : AJ X Y R n ls' st h Φ) : AJ X Y R pc ls ((1, x) :: st) h Φ := by
  subst hn; subst he
  intro p l e0 s m args below meth c H locs cells slots Q D ad aC A lsm C hP hD hS hL cl cs ho hc1 hc2 ret
  refine lv_lstore C.1 C.2.1 (dcd1 hd rfl) hL.has (by have := hL.2.2.1; omega) rfl (fun ls' hl' => ?_)
  exact k p l e0 s m args below meth c H locs cells slots Q D ad aC A ls' C hP hD hS (LcR_stL (v := (1, x)) hL (Nat.le_of_ble_eq_true rfl) hl') (Can_stL cl (cs _ List.mem_cons_self)) cs.tl ho hc1 hc2 ret
theorem q_lstore_n {j : Fin 4} {i : Nat} {x : Int} {ls' : List AV} (hd : dcd Y.2.1 pc = some (.lstore_n j, n)) (hn : n = pc + 1) (hi : (j : Nat) = i) (hl : i + 1 < ls.length) (he : stL ls i (1, x) = ls') (k : AJ X Y R n ls' st h Φ) : AJ X Y R pc ls ((1, x) :: st) h Φ := by
  subst hn; subst he
  intro p l e0 s m args below meth c H locs cells slots Q D ad aC A lsm C hP hD hS hL cl cs ho hc1 hc2 ret
  refine lv_lstore_n C.1 C.2.1 (dcd1 hd rfl) hi hL.has (by have := hL.2.2.1; omega) rfl (fun ls' hl' => ?_)
  exact k p l e0 s m args below meth c H locs cells slots Q D ad aC A ls' C hP hD hS (LcR_stL (v := (1, x)) hL (Nat.le_of_ble_eq_true rfl) hl') (Can_stL cl (cs _ List.mem_cons_self)) cs.tl ho hc1 hc2 ret
theorem q_iinc {i : Nat} {d x : Int} {ls' : List AV} (hd : dcd Y.2.1 pc = some (.iinc i d, n)) (hn : n = pc + 3) (hx : ls[i]? = some (0, x)) (he : st1 ls i (0, w32 (x + d)) = ls') (k : AJ X Y R n ls' st h Φ) : AJ X Y R pc ls st h Φ := by
  subst hn; subst he
  intro p l e0 s m args below meth c H locs cells slots Q D ad aC A lsm C hP hD hS hL cl cs ho hc1 hc2 ret
  have hlt : i < ls.length := (List.getElem?_eq_some_iff.mp hx).1
  have hm : (i, av ad (0, x)) ∈ asl ad ls := asl_mem.mpr ⟨(0, x), hx, Nat.le_of_ble_eq_true rfl, rfl⟩
  obtain ⟨q, hq⟩ := List.getElem?_of_mem hm
  refine lv_iinc (k := q) (v := Int32.ofInt (w32 (x + d))) C.1 C.2.1 (dcd1 hd rfl) hL.has hq (n_add x d) (by have := hL.2.2.1; omega) rfl (fun ls' hl' => ?_)
  exact k p l e0 s m args below meth c H locs cells slots Q D ad aC A ls' C hP hD hS (LcR_st1 (v := (0, w32 (x + d))) hL (Nat.le_of_ble_eq_true rfl) hl') (Can_st1 cl ⟨fun _ => w32_in _, fun q => (by cases q)⟩) cs ho hc1 hc2 ret
/-- returns -/
theorem q_ireturn {x : Int} (hd : dcd Y.2.1 pc = some (.ireturn, n)) (hn : n = pc + 1) (hΦ : Φ (some (0, x)) h) : AJ X Y R pc ls [(0, x)] h Φ := by
  subst hn
  intro p l e0 s m args below meth c H locs cells slots Q D ad aC A lsm C hP hD hS hL cl cs ho hc1 hc2 ret
  exact ret (some (0, x)) h H locs lsm pc hΦ ho cs hP hD hS (dcd1 hd rfl)
theorem q_lreturn {x : Int} (hd : dcd Y.2.1 pc = some (.lreturn, n)) (hn : n = pc + 1) (hΦ : Φ (some (1, x)) h) : AJ X Y R pc ls [(1, x)] h Φ := by
  subst hn
  intro p l e0 s m args below meth c H locs cells slots Q D ad aC A lsm C hP hD hS hL cl cs ho hc1 hc2 ret
  exact ret (some (1, x)) h H locs lsm pc hΦ ho cs hP hD hS (dcd1 hd rfl)
theorem q_return (hd : dcd Y.2.1 pc = some (.return_, n)) (hn : n = pc + 1) (hΦ : Φ none h) : AJ X Y R pc ls [] h Φ := by
  subst hn
  intro p l e0 s m args below meth c H locs cells slots Q D ad aC A lsm C hP hD hS hL cl cs ho hc1 hc2 ret
  exact ret none h H locs lsm pc hΦ ho cs hP hD hS (dcd1 hd rfl)
end Rules
end
section
/-! the memory's rules -/
theorem vc_char {n : Nat} (h : n < 65536) : (Int32.ofNat n).toUInt32.toUInt16.toUInt32.toInt32 = Int32.ofNat n := by
  have := (pk_charN h).1
  exact Value.int.inj this
theorem sh_cls : ∀ sp ∈ SH, sp.1 < 100 → (vwCl[sp.1]?).map (fun q => q.2.2) = some sp.2 := by decide +kernel
theorem cl_in (ci : Nat) (q : vw_C) (h : vwCl[ci]? = some q) : ∀ w ∈ u_ws q.1 q.2.1 q.2.2, w ∈ gtb := by
  have key : (vwCl.all (fun q => (u_ws q.1 q.2.1 q.2.2).all (fun w => decide (w ∈ gtb)))) = true := by decide +kernel
  intro w hw
  have h1 := List.all_eq_true.mp key q (List.mem_of_getElem? h)
  exact of_decide_eq_true (List.all_eq_true.mp h1 w hw)
theorem cl_ty (ci : Nat) (q : vw_C) (h : vwCl[ci]? = some q) : ∀ k, k < q.2.2 → parseFieldDescriptor (q.2.1 k).2.2.1 = some (fty ci k) := by
  match ci, h with
  | 0, h => cases h; exact tyX0_ok
  | 1, h => cases h; exact tyX1_ok
  | 2, h => cases h; exact tyX2_ok
  | 3, h => cases h; exact tyX3_ok
  | 4, h => cases h; exact tyX4_ok
  | 5, h => cases h; exact tyX5_ok
  | 6, h => cases h; exact tyX6_ok
  | 7, h => cases h; exact tyX7_ok
  | 8, h => cases h; exact tyX8_ok
  | n + 9, h => simp [vwCl] at h
theorem cl_nm (ci : Nat) (q : vw_C) (h : vwCl[ci]? = some q) : ∀ a, a < q.2.2 → ∀ b, b < q.2.2 → a ≠ b → (q.2.1 a).2.1 ≠ (q.2.1 b).2.1 := by
  match ci, h with
  | 0, h => cases h; exact nmX0
  | 1, h => cases h; exact nmX1
  | 2, h => cases h; exact nmX2
  | 3, h => cases h; exact nmX3
  | 4, h => cases h; exact nmX4
  | 5, h => cases h; exact nmX5
  | 6, h => cases h; exact nmX6
  | 7, h => cases h; exact nmX7
  | 8, h => cases h; exact nmX8
  | n + 9, h => simp [vwCl] at h
theorem shp_at {r : Int} {sp : Shp} (h : shp r = some sp) : 1 ≤ r ∧ SH[(r - 1).toNat]? = some sp := by
  unfold shp at h
  split at h
  · exact ⟨by assumption, h⟩
  · cases h
theorem shp_of {k : Nat} {sp : Shp} (h : SH[k]? = some sp) : shp ((k : Int) + 1) = some sp := by
  unfold shp
  rw [if_pos (by omega), show ((k : Int) + 1 - 1).toNat = k by omega, h]
theorem okO_shp {ci : Nat} {r : Int} (h : okO ci r = true) : ∃ N, shp r = some (ci, N) ∧ ci < 100 := by
  unfold okO at h
  cases hs : shp r with
  | none => rw [hs] at h; cases h
  | some sp =>
    rw [hs] at h
    simp only [Bool.and_eq_true, beq_iff_eq, Nat.blt_eq] at h
    exact ⟨sp.2, by rw [← h.1], h.2⟩
theorem okO_N {ci N : Nat} {r : Int} {C : String} {T : u_T} (h : okO ci r = true) (hc : vwCl[ci]? = some (C, T, N)) : shp r = some (ci, N) ∧ ci < 100 := by
  obtain ⟨N', h1, h2⟩ := okO_shp h
  have h3 := sh_cls (ci, N') (List.mem_of_getElem? (shp_at h1).2) h2
  rw [hc] at h3
  have : N = N' := Option.some.inj h3
  rw [this]; exact ⟨h1, h2⟩
section World
variable {ad : Int → Nat} {aC : Nat → ClassId} {h h' : Mem} {r : Int} {sp : Shp}
theorem ws_at (hs : shp r = some sp) : (wsOf SH ad aC h)[(r - 1).toNat]? = some (ad r, cellE ad aC sp (h r)) := by
  obtain ⟨h1, h2⟩ := shp_at hs
  unfold wsOf
  rw [List.getElem?_mapIdx, h2]
  have e : (((r - 1).toNat : Nat) : Int) + 1 = r := by omega
  simp only [Option.map_some, e]
theorem ws_set {e : va_E} (hs : shp r = some sp) (he : cellE ad aC sp (h' r) = e) (ho : ∀ q, q ≠ r → h' q = h q) : (wsOf SH ad aC h).set (r - 1).toNat (ad r, e) = wsOf SH ad aC h' := by
  obtain ⟨h1, h2⟩ := shp_at hs
  apply List.ext_getElem?
  intro j
  have er : (((r - 1).toNat : Nat) : Int) + 1 = r := by omega
  by_cases hj : j = (r - 1).toNat
  · subst hj
    rw [ws_at (h := h') hs, List.getElem?_set_self (by rw [wsOf, List.length_mapIdx]; exact (List.getElem?_eq_some_iff.mp h2).1), he]
  · rw [List.getElem?_set_ne (fun q => hj q.symm)]
    unfold wsOf
    rw [List.getElem?_mapIdx, List.getElem?_mapIdx, ho ((j : Int) + 1) (by omega)]
theorem canT_tag {t : FieldType} {z : Int} (h : canT t z) : (ftag t = 0 → in32 z) ∧ (ftag t = 1 → in64 z) := by
  cases t with
  | long => exact ⟨fun q => (by cases q), fun _ => h⟩
  | object C => exact ⟨fun q => (by cases q), fun q => (by cases q)⟩
  | array u => exact ⟨fun q => (by cases q), fun q => (by cases q)⟩
  | boolean => exact ⟨fun _ => (by rcases h with rfl | rfl <;> (unfold in32; omega)), fun q => (by cases q)⟩
  | char => exact ⟨fun _ => ⟨by have := h.1; omega, by have := h.2; omega⟩, fun q => (by cases q)⟩
  | int => exact ⟨fun _ => h, fun q => (by cases q)⟩
  | byte => exact ⟨fun _ => h, fun q => (by cases q)⟩
  | short => exact ⟨fun _ => h, fun q => (by cases q)⟩
  | float => exact ⟨fun _ => h, fun q => (by cases q)⟩
  | double => exact ⟨fun _ => h, fun q => (by cases q)⟩
theorem av_fit {z : Int} (C : String) (u : FieldType) : (narrow (.object C) (av ad (2, z)) = av ad (2, z) ∧ fits (.object C) (av ad (2, z)) = true) ∧ (narrow (.array u) (av ad (2, z)) = av ad (2, z) ∧ fits (.array u) (av ad (2, z)) = true) := by
  by_cases hz : z = 0
  · have e : av ad (2, z) = .null := if_pos hz
    rw [e]; exact ⟨⟨rfl, rfl⟩, rfl, rfl⟩
  · have e : av ad (2, z) = .ref (ad z) := if_neg hz
    rw [e]; exact ⟨⟨rfl, rfl⟩, rfl, rfl⟩
theorem canT_fit {t : FieldType} {z : Int} (ht : t = .int ∨ t = .long ∨ t = .boolean ∨ (∃ C, t = .object C) ∨ ∃ u, t = .array u) (h : canT t z) : narrow t (av ad (ftag t, z)) = av ad (ftag t, z) ∧ fits t (av ad (ftag t, z)) = true := by
  rcases ht with rfl | rfl | rfl | ⟨C, rfl⟩ | ⟨u, rfl⟩
  · exact ⟨rfl, rfl⟩
  · exact ⟨rfl, rfl⟩
  · rcases h with rfl | rfl
    · exact ⟨rfl, rfl⟩
    · exact ⟨rfl, rfl⟩
  · exact (av_fit C .int).1
  · exact (av_fit "" u).2
theorem wr_ne {r q k v : Int} (hq : q ≠ r) : wr h r k v q = h q := by
  funext j; unfold wr; rw [if_neg (fun z => hq z.1)]
theorem wr_hit {r k v : Int} : wr h r k v r k = v := by unfold wr; rw [if_pos ⟨rfl, rfl⟩]
theorem wr_miss {r k v j : Int} (hj : j ≠ k) : wr h r k v r j = h r j := by unfold wr; rw [if_neg (fun z => hj z.2)]
theorem Hok_wr {k v : Int} (hs : shp r = some sp) (h0 : 0 ≤ k) (h1 : k < sp.2) (hv : canT (slT sp k.toNat) v) (hf : foff sp.1 k = none) (ho : Hok h) : Hok (wr h r k v) := by
  obtain ⟨r1, r2⟩ := shp_at hs
  refine ⟨fun a sq ha j hj => ?_, fun r' k' z g0 g1 hg => ?_⟩
  · by_cases e : (a : Int) + 1 = r ∧ (j : Int) = k
    · obtain ⟨e1, e2⟩ := e
      rw [e1, e2, wr_hit]
      have ea : a = (r - 1).toNat := by omega
      rw [ea] at ha
      have : sq = sp := Option.some.inj (ha.symm.trans r2)
      rw [this, show j = k.toNat by omega]; exact hv
    · unfold wr; rw [if_neg e]; exact ho.1 a sq ha j hj
  · unfold wr
    by_cases e : r' = r ∧ k' = k
    · obtain ⟨rfl, rfl⟩ := e
      unfold GF at hg
      rw [hs] at hg
      simp only [hf, Option.map_none] at hg
      cases hg
    · rw [if_neg e]; exact ho.2 r' k' z g0 g1 hg
theorem Hok_can {k : Int} (ho : Hok h) (hs : shp r = some sp) (h0 : 0 ≤ k) (h1 : k < sp.2) : canT (slT sp k.toNat) (h r k) := by
  obtain ⟨r1, r2⟩ := shp_at hs
  have := ho.1 (r - 1).toNat sp r2 k.toNat (by omega)
  rwa [show (((r - 1).toNat : Nat) : Int) + 1 = r by omega, show ((k.toNat : Nat) : Int) = k by omega] at this
theorem Hok_fin {k o : Int} (ho : Hok h) (hs : shp r = some sp) (h0 : 0 ≤ k) (h1 : k < sp.2) (hf : foff sp.1 k = some o) : h r k = r + o := by
  refine ho.2 r k (r + o) h0 (fun sq hq => ?_) ?_
  · rw [hs] at hq; cases hq; exact h1
  · unfold GF; rw [hs]; simp only [hf, Option.map_some]
theorem av_ref {z : Int} (hz : 1 ≤ z) : av ad (2, z) = .ref (ad z) := if_neg (by omega)
end World
theorem tys_at (aC : Nat → ClassId) {k : Nat} (h : 100 ≤ k) (h2 : k < 106) : (tysL aC)[aix k]? = some (aC (aix k), aty k) := by
  match k, h, h2 with
  | 100, _, _ => rfl
  | 101, _, _ => rfl
  | 102, _, _ => rfl
  | 103, _, _ => rfl
  | 104, _, _ => rfl
  | 105, _, _ => rfl
  | n + 106, _, h2 => omega
section Heap
variable {X : XS} {Y : MD} {R : Room} {pc n : Nat} {ls st : List AV} {h : Mem} {Φ : Option AV → Mem → Prop}
theorem q_get {ci N idx k t : Nat} {C : String} {T : u_T} {r : Int} (hd : dcd Y.2.1 pc = some (.getfield idx, n)) (hn : n = pc + 3) (hc : vwCl[ci]? = some (C, T, N)) (hk : k < N) (hw : Cond.fieldLink Y.1 idx (T k).1 (T k).2.1 (T k).2.2.1 ∈ gtb) (ht : ftag (fty ci k) = t) (ho : okO ci r = true)
    (kk : AJ X Y R n ls ((t, h r k) :: st) h Φ) : AJ X Y R pc ls ((2, r) :: st) h Φ := by
  subst hn; subst ht
  intro p l e s m args below meth c H locs cells slots Q D ad aC A lsm C0 hP hD hS hL cl cs hh hc1 hc2 ret
  obtain ⟨hs, hci⟩ := okO_N ho hc
  rw [List.map_cons, av_ref (shp_at hs).1]
  have hcell : cellE ad aC (ci, N) (h r) = .inr (ci, (List.range N).map (fun j => av ad (ftag (fty ci j), h r j))) := if_pos hci
  have hcan := Hok_can hh hs (k := (k : Int)) (by omega) (by exact Int.ofNat_lt.mpr hk)
  rw [slT, if_pos hci, Int.toNat_natCast] at hcan
  refine va_get (v := av ad (ftag (fty ci k), h r k)) C0.1 C0.2.1 C0.2.2.2.2.1 (cl_in ci _ hc) C0.2.2.2.1 C0.2.2.2.2.2.1 hP (r - 1).toNat (by rw [ws_at hs, hcell]) hc k hk (C0.2.2.2.2.1 _ hw) (fun x hx => hx) (by rw [List.getElem?_map, List.getElem?_range hk]; rfl) (dcd1 hd rfl) ?_
  exact kk p l e s m args below meth c H locs cells slots Q D ad aC A lsm C0 hP hD hS hL cl (Can.of (canT_tag hcan) cs.tl) hh hc1 hc2 ret
/-- a final reference -/
theorem q_getF {ci N idx k : Nat} {C : String} {T : u_T} {r o z : Int} (hd : dcd Y.2.1 pc = some (.getfield idx, n)) (hn : n = pc + 3) (hc : vwCl[ci]? = some (C, T, N)) (hk : k < N) (hw : Cond.fieldLink Y.1 idx (T k).1 (T k).2.1 (T k).2.2.1 ∈ gtb) (ht : ftag (fty ci k) = 2) (hf : foff ci k = some o) (ho : okO ci r = true) (hz : r + o = z)
    (kk : AJ X Y R n ls ((2, z) :: st) h Φ) : AJ X Y R pc ls ((2, r) :: st) h Φ := by
  subst hz
  intro p l e s m args below meth c H locs cells slots Q D ad aC A lsm C0 hP hD hS hL cl cs hh hc1 hc2 ret
  obtain ⟨hs, hci⟩ := okO_N ho hc
  have e1 := Hok_fin hh hs (k := (k : Int)) (by omega) (by exact Int.ofNat_lt.mpr hk) hf
  rw [← e1] at kk
  exact q_get hd hn hc hk hw ht ho kk p l e s m args below meth c H locs cells slots Q D ad aC A lsm C0 hP hD hS hL cl cs hh hc1 hc2 ret
theorem q_put {ci N idx k t : Nat} {C : String} {T : u_T} {r z : Int} (hd : dcd Y.2.1 pc = some (.putfield idx, n)) (hn : n = pc + 3) (hc : vwCl[ci]? = some (C, T, N)) (hk : k < N) (hw : Cond.fieldLink Y.1 idx (T k).1 (T k).2.1 (T k).2.2.1 ∈ gtb) (ht : ftag (fty ci k) = t) (hfin : (T k).2.2.2 = false) (hf : foff ci k = none)
    (hty : fty ci k = .int ∨ fty ci k = .long ∨ fty ci k = .boolean ∨ (∃ C, fty ci k = .object C) ∨ ∃ u, fty ci k = .array u) (hz : (t = 0 → in32 z) ∧ (t = 1 → in64 z) → canT (fty ci k) z) (ho : okO ci r = true)
    (kk : AJ X Y R n ls st (wr h r k z) Φ) : AJ X Y R pc ls ((t, z) :: (2, r) :: st) h Φ := by
  subst hn; subst ht
  intro p l e s m args below meth c H locs cells slots Q D ad aC A lsm C0 hP hD hS hL cl cs hh hc1 hc2 ret
  obtain ⟨hs, hci⟩ := okO_N ho hc
  rw [List.map_cons, List.map_cons, av_ref (shp_at hs).1]
  have hcell : cellE ad aC (ci, N) (h r) = .inr (ci, (List.range N).map (fun j => av ad (ftag (fty ci j), h r j))) := if_pos hci
  have hcan : canT (fty ci k) z := hz (cs _ List.mem_cons_self)
  have hok : Hok (wr h r k z) := Hok_wr hs (by omega) (by exact Int.ofNat_lt.mpr hk) (by rw [slT, if_pos hci, Int.toNat_natCast]; exact hcan) hf hh
  have hfit := canT_fit (ad := ad) hty hcan
  have hset : (wsOf SH ad aC h).set (r - 1).toNat (ad r, .inr (ci, ((List.range N).map (fun j => av ad (ftag (fty ci j), h r j))).set k (av ad (ftag (fty ci k), z)))) = wsOf SH ad aC (wr h r k z) := by
    refine ws_set hs ?_ (fun q hq => wr_ne hq)
    unfold cellE
    rw [if_pos hci]
    refine congrArg (fun x => Sum.inr (ci, x)) (List.ext_getElem? (fun j => ?_))
    by_cases hj : j = k
    · subst hj
      rw [List.getElem?_set_self (by simpa using hk), List.getElem?_map, List.getElem?_range hk]
      simp only [Option.map_some, wr_hit]
    · rw [List.getElem?_set_ne (fun q => hj q.symm), List.getElem?_map, List.getElem?_map]
      cases hl : (List.range N)[j]? with
      | none => rfl
      | some w =>
        have hw2 : w = j := by
          obtain ⟨q1, q2⟩ := List.getElem?_eq_some_iff.mp hl
          rw [List.getElem_range] at q2; exact q2.symm
        subst hw2
        simp only [Option.map_some]
        rw [wr_miss (by omega)]
  refine va_put (fs := (List.range N).map (fun j => av ad (ftag (fty ci j), h r j))) C0.1 C0.2.1 C0.2.2.2.2.1 (cl_in ci _ hc) (fty ci) (cl_ty ci _ hc) (cl_nm ci _ hc) C0.2.2.2.1 C0.2.2.2.2.2.1 hP hD hS (r - 1).toNat (by rw [ws_at hs, hcell]) hc k hk (C0.2.2.2.2.1 _ hw) (fun x hx => hx) hfin (cl_ty ci _ hc k hk) hfit.1 hfit.2 (by simpa using hk) (dcd1 hd rfl) ?_
  intro H1 locs1 hP1 hD1 hS1
  rw [hset] at hP1 hD1
  exact kk p l e s m args below meth c H1 locs1 cells slots Q D ad aC A lsm C0 hP1 hD1 hS1 hL cl cs.tl.tl hok hc1 hc2 ret
theorem q_iaload {r i : Int} {N : Nat} (hd : dcd Y.2.1 pc = some (.iaload, n)) (hn : n = pc + 1) (hs : shp r = some (100, N)) (hi : 0 ≤ i ∧ i < N) (kk : AJ X Y R n ls ((0, h r i) :: st) h Φ) : AJ X Y R pc ls ((0, i) :: (2, r) :: st) h Φ := by
  subst hn
  intro p l e s m args below meth c H locs cells slots Q D ad aC A lsm C0 hP hD hS hL cl cs hh hc1 hc2 ret
  rw [List.map_cons, List.map_cons, av_ref (shp_at hs).1]
  have hcan := Hok_can hh hs hi.1 hi.2
  refine va_iald (f := fun j : Nat => Int32.ofInt (h r j)) C0.1 C0.2.1 C0.2.2.2.2.2.1 hP (r - 1).toNat 0 (ws_at hs) (tys_at aC (k := 100) (by omega) (by omega)) (n_vpin cs.i1 hi.1 hi.2) (dcd1 hd rfl) ?_
  rw [n_clamp cs.i1, show ((i.toNat : Nat) : Int) = i by omega]
  exact kk p l e s m args below meth c H locs cells slots Q D ad aC A lsm C0 hP hD hS hL cl (cs.tl.tl.i hcan) hh hc1 hc2 ret
theorem q_caload {r i : Int} {N : Nat} (hd : dcd Y.2.1 pc = some (.caload, n)) (hn : n = pc + 1) (hs : shp r = some (101, N)) (hi : 0 ≤ i ∧ i < N) (kk : AJ X Y R n ls ((0, h r i) :: st) h Φ) : AJ X Y R pc ls ((0, i) :: (2, r) :: st) h Φ := by
  subst hn
  intro p l e s m args below meth c H locs cells slots Q D ad aC A lsm C0 hP hD hS hL cl cs hh hc1 hc2 ret
  rw [List.map_cons, List.map_cons, av_ref (shp_at hs).1]
  have hcan : 0 ≤ h r i ∧ h r i < 65536 := Hok_can hh hs hi.1 hi.2
  refine va_cald (f := fun j : Nat => Int32.ofInt (h r j)) C0.1 C0.2.1 C0.2.2.2.2.2.1 hP (r - 1).toNat 1 (ws_at hs) (tys_at aC (k := 101) (by omega) (by omega)) (n_vpin cs.i1 hi.1 hi.2) (dcd1 hd rfl) ?_
  rw [n_clamp cs.i1, show ((i.toNat : Nat) : Int) = i by omega]
  exact kk p l e s m args below meth c H locs cells slots Q D ad aC A lsm C0 hP hD hS hL cl (cs.tl.tl.i ⟨by omega, by omega⟩) hh hc1 hc2 ret
theorem q_baload {r i : Int} {N : Nat} (hd : dcd Y.2.1 pc = some (.baload, n)) (hn : n = pc + 1) (hs : shp r = some (102, N)) (hi : 0 ≤ i ∧ i < N) (kk : AJ X Y R n ls ((0, h r i) :: st) h Φ) : AJ X Y R pc ls ((0, i) :: (2, r) :: st) h Φ := by
  subst hn
  intro p l e s m args below meth c H locs cells slots Q D ad aC A lsm C0 hP hD hS hL cl cs hh hc1 hc2 ret
  rw [List.map_cons, List.map_cons, av_ref (shp_at hs).1]
  have hcan : h r i = 0 ∨ h r i = 1 := Hok_can hh hs hi.1 hi.2
  refine va_zald (f := fun j : Nat => Int32.ofInt (h r j)) C0.1 C0.2.1 C0.2.2.2.2.2.1 hP (r - 1).toNat 2 (ws_at hs) (tys_at aC (k := 102) (by omega) (by omega)) (n_vpin cs.i1 hi.1 hi.2) (dcd1 hd rfl) ?_
  rw [n_clamp cs.i1, show ((i.toNat : Nat) : Int) = i by omega]
  exact kk p l e s m args below meth c H locs cells slots Q D ad aC A lsm C0 hP hD hS hL cl (cs.tl.tl.i ⟨by omega, by omega⟩) hh hc1 hc2 ret
theorem q_aaload {K : Nat} {r i : Int} {N : Nat} (hd : dcd Y.2.1 pc = some (.aaload, n)) (hn : n = pc + 1) (hs : shp r = some (K, N)) (hK : 103 ≤ K ∧ K < 106) (hi : 0 ≤ i ∧ i < N) (kk : AJ X Y R n ls ((2, h r i) :: st) h Φ) : AJ X Y R pc ls ((0, i) :: (2, r) :: st) h Φ := by
  subst hn
  intro p l e s m args below meth c H locs cells slots Q D ad aC A lsm C0 hP hD hS hL cl cs hh hc1 hc2 ret
  rw [List.map_cons, List.map_cons, av_ref (shp_at hs).1]
  have hcell : cellE ad aC (K, N) (h r) = .inl (aC (aix K), N, .inr (.inr (.inr (.inr (fun j : Nat => if h r j = 0 then none else some (ad (h r j))))))) := by
    unfold cellE; rw [if_neg (by omega), if_neg (by omega)]
  obtain ⟨CC, hCC⟩ : ∃ CC, aty K = .object CC := by
    obtain ⟨k1, k2⟩ := hK
    match K, k1, k2 with
    | 103, _, _ => exact ⟨_, rfl⟩
    | 104, _, _ => exact ⟨_, rfl⟩
    | 105, _, _ => exact ⟨_, rfl⟩
    | n + 106, _, h2 => omega
  have hty := tys_at aC (k := K) (by omega) (by omega)
  rw [hCC] at hty
  refine va_aldq (f := fun j : Nat => if h r j = 0 then none else some (ad (h r j))) C0.1 C0.2.1 C0.2.2.2.2.2.1 hP (r - 1).toNat (aix K) (by rw [ws_at hs, hcell]) hty (n_vpin cs.i1 hi.1 hi.2) (dcd1 hd rfl) ?_
  have e1 : va_rf (if h r ((Int32.ofInt i).toNatClampNeg : Nat) = 0 then none else some (ad (h r ((Int32.ofInt i).toNatClampNeg : Nat)))) = av ad (2, h r i) := by
    rw [n_clamp cs.i1, show ((i.toNat : Nat) : Int) = i by omega]
    unfold av
    dsimp only
    split <;> rfl
  dsimp only at e1 ⊢
  rw [e1]
  exact kk p l e s m args below meth c H locs cells slots Q D ad aC A lsm C0 hP hD hS hL cl cs.tl.tl.r hh hc1 hc2 ret
/-- an element of a row of references that were made once -/
theorem q_aaloadF {K : Nat} {r i o z : Int} {N : Nat} (hd : dcd Y.2.1 pc = some (.aaload, n)) (hn : n = pc + 1) (hs : shp r = some (K, N)) (hK : 103 ≤ K ∧ K < 106) (hi : 0 ≤ i ∧ i < N) (hf : foff K i = some o) (hz : r + o = z) (kk : AJ X Y R n ls ((2, z) :: st) h Φ) : AJ X Y R pc ls ((0, i) :: (2, r) :: st) h Φ := by
  subst hz
  intro p l e s m args below meth c H locs cells slots Q D ad aC A lsm C0 hP hD hS hL cl cs hh hc1 hc2 ret
  have e1 := Hok_fin hh hs hi.1 hi.2 hf
  rw [← e1] at kk
  exact q_aaload hd hn hs hK hi kk p l e s m args below meth c H locs cells slots Q D ad aC A lsm C0 hP hD hS hL cl cs hh hc1 hc2 ret
theorem arr_up {f g : Nat → Int32} {r i x : Int} (hi : 0 ≤ i) (hf : f = fun j : Nat => Int32.ofInt (h r j)) (hg : g = fun j : Nat => Int32.ofInt (wr h r i x r j)) : upd f i.toNat (Int32.ofInt x) = g := by
  subst hf; subst hg
  funext j
  unfold upd
  by_cases hj : j = i.toNat
  · rw [if_pos hj, show ((j : Nat) : Int) = i by omega, wr_hit]
  · rw [if_neg hj, wr_miss (by omega)]
theorem q_iastore {r i x : Int} {N : Nat} (hd : dcd Y.2.1 pc = some (.iastore, n)) (hn : n = pc + 1) (hs : shp r = some (100, N)) (hi : 0 ≤ i ∧ i < N) (kk : AJ X Y R n ls st (wr h r i x) Φ) : AJ X Y R pc ls ((0, x) :: (0, i) :: (2, r) :: st) h Φ := by
  subst hn
  intro p l e s m args below meth c H locs cells slots Q D ad aC A lsm C0 hP hD hS hL cl cs hh hc1 hc2 ret
  rw [List.map_cons, List.map_cons, List.map_cons, av_ref (shp_at hs).1]
  have hok : Hok (wr h r i x) := Hok_wr hs hi.1 hi.2 cs.i1 rfl hh
  refine va_iast (f := fun j : Nat => Int32.ofInt (h r j)) C0.1 C0.2.1 C0.2.2.2.2.2.1 hP hD hS (r - 1).toNat 0 (ws_at hs) (tys_at aC (k := 100) (by omega) (by omega)) (n_vpin cs.tl.i1 hi.1 hi.2) (dcd1 hd rfl) ?_
  intro H1 locs1 hP1 hD1 hS1
  have hset : (wsOf SH ad aC h).set (r - 1).toNat (ad r, .inl (aC (aix 100), N, .inl (upd (fun j : Nat => Int32.ofInt (h r j)) (Int32.ofInt i).toNatClampNeg (Int32.ofInt x)))) = wsOf SH ad aC (wr h r i x) := by
    refine ws_set hs ?_ (fun q hq => wr_ne hq)
    rw [n_clamp cs.tl.i1, arr_up hi.1 rfl rfl]; rfl
  rw [hset] at hP1 hD1
  exact kk p l e s m args below meth c H1 locs1 cells slots Q D ad aC A lsm C0 hP1 hD1 hS1 hL cl cs.tl.tl.tl hok hc1 hc2 ret
theorem q_castore {r i x : Int} {N : Nat} (hd : dcd Y.2.1 pc = some (.castore, n)) (hn : n = pc + 1) (hs : shp r = some (101, N)) (hi : 0 ≤ i ∧ i < N) (hx : 0 ≤ x ∧ x < 65536) (kk : AJ X Y R n ls st (wr h r i x) Φ) : AJ X Y R pc ls ((0, x) :: (0, i) :: (2, r) :: st) h Φ := by
  subst hn
  intro p l e s m args below meth c H locs cells slots Q D ad aC A lsm C0 hP hD hS hL cl cs hh hc1 hc2 ret
  rw [List.map_cons, List.map_cons, List.map_cons, av_ref (shp_at hs).1]
  have hok : Hok (wr h r i x) := Hok_wr hs hi.1 hi.2 hx rfl hh
  refine va_cast (f := fun j : Nat => Int32.ofInt (h r j)) C0.1 C0.2.1 C0.2.2.2.2.2.1 hP hD hS (r - 1).toNat 1 (ws_at hs) (tys_at aC (k := 101) (by omega) (by omega)) (n_vpin cs.tl.i1 hi.1 hi.2) (dcd1 hd rfl) ?_
  intro H1 locs1 hP1 hD1 hS1
  have hset : (wsOf SH ad aC h).set (r - 1).toNat (ad r, .inl (aC (aix 101), N, .inl (upd (fun j : Nat => Int32.ofInt (h r j)) (Int32.ofInt i).toNatClampNeg (vp_nar .char (Int32.ofInt x))))) = wsOf SH ad aC (wr h r i x) := by
    refine ws_set hs ?_ (fun q hq => wr_ne hq)
    have e1 : vp_nar .char (Int32.ofInt x) = Int32.ofInt x := by
      obtain ⟨j, hj⟩ : ∃ j : Nat, x = j := ⟨x.toNat, by omega⟩
      subst hj
      rw [vp_nar_char, Int32.ofInt_eq_ofNat]
      exact vc_char (by omega)
    rw [n_clamp cs.tl.i1, e1, arr_up hi.1 rfl rfl]; rfl
  rw [hset] at hP1 hD1
  exact kk p l e s m args below meth c H1 locs1 cells slots Q D ad aC A lsm C0 hP1 hD1 hS1 hL cl cs.tl.tl.tl hok hc1 hc2 ret
theorem q_bastore {r i x : Int} {N : Nat} (hd : dcd Y.2.1 pc = some (.bastore, n)) (hn : n = pc + 1) (hs : shp r = some (102, N)) (hi : 0 ≤ i ∧ i < N) (hx : x = 0 ∨ x = 1) (kk : AJ X Y R n ls st (wr h r i x) Φ) : AJ X Y R pc ls ((0, x) :: (0, i) :: (2, r) :: st) h Φ := by
  subst hn
  intro p l e s m args below meth c H locs cells slots Q D ad aC A lsm C0 hP hD hS hL cl cs hh hc1 hc2 ret
  rw [List.map_cons, List.map_cons, List.map_cons, av_ref (shp_at hs).1]
  have hok : Hok (wr h r i x) := Hok_wr hs hi.1 hi.2 hx rfl hh
  refine va_zast (f := fun j : Nat => Int32.ofInt (h r j)) C0.1 C0.2.1 C0.2.2.2.2.2.1 hP hD hS (r - 1).toNat 2 (ws_at hs) (tys_at aC (k := 102) (by omega) (by omega)) (n_vpin cs.tl.i1 hi.1 hi.2) (dcd1 hd rfl) ?_
  intro H1 locs1 hP1 hD1 hS1
  have hset : (wsOf SH ad aC h).set (r - 1).toNat (ad r, .inl (aC (aix 102), N, .inl (upd (fun j : Nat => Int32.ofInt (h r j)) (Int32.ofInt i).toNatClampNeg (vp_nar .boolean (Int32.ofInt x))))) = wsOf SH ad aC (wr h r i x) := by
    refine ws_set hs ?_ (fun q hq => wr_ne hq)
    have e1 : vp_nar .boolean (Int32.ofInt x) = Int32.ofInt x := by
      rcases hx with rfl | rfl <;> decide +kernel
    rw [n_clamp cs.tl.i1, e1, arr_up hi.1 rfl rfl]; rfl
  rw [hset] at hP1 hD1
  exact kk p l e s m args below meth c H1 locs1 cells slots Q D ad aC A lsm C0 hP1 hD1 hS1 hL cl cs.tl.tl.tl hok hc1 hc2 ret
/-- an act into a row of acts -/
theorem q_aastore {r i x : Int} {N : Nat} (hd : dcd Y.2.1 pc = some (.aastore, n)) (hn : n = pc + 1) (hs : shp r = some (103, N)) (hi : 0 ≤ i ∧ i < N) (hx : okO 0 x = true) (kk : AJ X Y R n ls st (wr h r i x) Φ) : AJ X Y R pc ls ((2, x) :: (0, i) :: (2, r) :: st) h Φ := by
  subst hn
  intro p l e s m args below meth c H locs cells slots Q D ad aC A lsm C0 hP hD hS hL cl cs hh hc1 hc2 ret
  obtain ⟨N0, hxs, -⟩ := okO_shp hx
  have hx1 := (shp_at hxs).1
  rw [List.map_cons, List.map_cons, List.map_cons, av_ref (shp_at hs).1, av_ref hx1]
  have hok : Hok (wr h r i x) := Hok_wr hs hi.1 hi.2 trivial rfl hh
  refine va_astq (f := fun j : Nat => if h r j = 0 then none else some (ad (h r j))) C0.1 C0.2.1 C0.2.2.2.2.2.1 hP hD hS (r - 1).toNat 3 (x - 1).toNat 0 (r := (RX0, TX0, 11)) (ws_at hs) (tys_at aC (k := 103) (by omega) (by omega)) (ws_at hxs) rfl (n_vpin cs.tl.i1 hi.1 hi.2) (dcd1 hd rfl) ?_
  intro H1 locs1 hP1 hD1 hS1
  have hset : (wsOf SH ad aC h).set (r - 1).toNat (ad r, .inl (aC (aix 103), N, .inr (.inr (.inr (.inr (va_up (fun j : Nat => if h r j = 0 then none else some (ad (h r j))) (Int32.ofInt i).toNatClampNeg (some (ad x)))))))) = wsOf SH ad aC (wr h r i x) := by
    refine ws_set hs ?_ (fun q hq => wr_ne hq)
    rw [n_clamp cs.tl.i1]
    unfold cellE
    rw [if_neg (show ¬ (103 : Nat) < 100 by decide), if_neg (show ¬ (103 : Nat) < 103 by decide)]
    refine congrArg (fun f => Sum.inl (aC (aix 103), N, Sum.inr (Sum.inr (Sum.inr (Sum.inr f))))) (funext (fun j => ?_))
    unfold va_up
    by_cases hj : j = i.toNat
    · rw [if_pos hj, show ((j : Nat) : Int) = i by omega, wr_hit, if_neg (by omega)]
    · rw [if_neg hj, wr_miss (by omega)]
  rw [hset] at hP1 hD1
  exact kk p l e s m args below meth c H1 locs1 cells slots Q D ad aC A lsm C0 hP1 hD1 hS1 hL cl cs.tl.tl.tl hok hc1 hc2 ret
/-- what never changes: the script, the tunes' rows -/
theorem q_sload {i : Int} (hd : dcd Y.2.1 pc = some (.iaload, n)) (hn : n = pc + 1) (hi : 0 ≤ i ∧ i < X.1) (kk : AJ X Y R n ls ((0, (X.2 i.toNat).toInt) :: st) h Φ) : AJ X Y R pc ls ((0, i) :: (2, -1) :: st) h Φ := by
  subst hn
  intro p l e s m args below meth c H locs cells slots Q D ad aC A lsm C0 hP hD hS hL cl cs hh hc1 hc2 ret
  obtain ⟨i1, i2, i3⟩ := C0.2.2.2.2.2.2.2.1
  refine va_sld C0.1 C0.2.1 i1 i2 i3 hS (n_vpin cs.i1 hi.1 hi.2) (dcd1 hd rfl) ?_
  have e1 : av ad (0, (X.2 i.toNat).toInt) = .int (X.2 (Int32.ofInt i).toNatClampNeg) := by rw [n_clamp cs.i1]; exact congrArg Value.int (Int32.ofInt_toInt _)
  have K := kk p l e s m args below meth c H locs cells slots Q D ad aC A lsm C0 hP hD hS hL cl (cs.tl.tl.i (n_in32 _)) hh hc1 hc2 ret
  rw [List.map_cons, e1] at K
  exact K
theorem q_slen (hd : dcd Y.2.1 pc = some (.arraylength, n)) (hn : n = pc + 1) (hL0 : X.1 < 2147483648) (kk : AJ X Y R n ls ((0, X.1) :: st) h Φ) : AJ X Y R pc ls ((2, -1) :: st) h Φ := by
  subst hn
  intro p l e s m args below meth c H locs cells slots Q D ad aC A lsm C0 hP hD hS hL cl cs hh hc1 hc2 ret
  obtain ⟨i1, i2, i3⟩ := C0.2.2.2.2.2.2.2.1
  refine va_slen C0.1 C0.2.1 i1 i2 i3 hS (dcd1 hd rfl) ?_
  have K := kk p l e s m args below meth c H locs cells slots Q D ad aC A lsm C0 hP hD hS hL cl (cs.tl.i ⟨by omega, by omega⟩) hh hc1 hc2 ret
  have e1 : av ad (0, (X.1 : Int)) = .int (Int32.ofNat X.1) := congrArg Value.int Int32.ofInt_eq_ofNat
  rw [List.map_cons, e1] at K
  exact K
theorem tu_in : ∀ l ∈ [tuLeast, tuMost, tuFirst], ∀ z ∈ l, 0 ≤ z ∧ z < 1000 := by decide +kernel
theorem imm_in (l : List Int) (hl : l ∈ [tuLeast, tuMost, tuFirst]) (j : Nat) : 0 ≤ l.getD j 0 ∧ l.getD j 0 < 1000 := by
  rw [List.getD_eq_getElem?_getD]
  cases hj : l[j]? with
  | none => exact ⟨by simp, by simp⟩
  | some v => exact tu_in l hl v (List.mem_of_getElem? hj)
theorem q_tload {i z : Int} {l0 : List Int} (hd : dcd Y.2.1 pc = some (.iaload, n)) (hn : n = pc + 1) (hz : (z = -2 ∧ l0 = tuLeast) ∨ (z = -3 ∧ l0 = tuMost)) (hi : 0 ≤ i ∧ i < 8) (kk : AJ X Y R n ls ((0, l0.getD i.toNat 0) :: st) h Φ) : AJ X Y R pc ls ((0, i) :: (2, z) :: st) h Φ := by
  subst hn
  intro p l e s m args below meth c H locs cells slots Q D ad aC A lsm C0 hP hD hS hL cl cs hh hc1 hc2 ret
  obtain ⟨i1, i2, i3⟩ : imm ad A s s.heap z 8 (immF l0) := by
    rcases hz with ⟨rfl, rfl⟩ | ⟨rfl, rfl⟩
    · exact C0.2.2.2.2.2.2.2.2.1
    · exact C0.2.2.2.2.2.2.2.2.2.1
  have hl0 : l0 ∈ [tuLeast, tuMost, tuFirst] := by rcases hz with ⟨-, rfl⟩ | ⟨-, rfl⟩ <;> simp
  have hz0 : ¬ z = 0 := by rcases hz with ⟨rfl, -⟩ | ⟨rfl, -⟩ <;> decide
  have er : av ad (2, z) = .ref (ad z) := if_neg hz0
  rw [List.map_cons, List.map_cons, er]
  refine va_sld C0.1 C0.2.1 i1 i2 i3 hS (n_vpin cs.i1 hi.1 hi.2) (dcd1 hd rfl) ?_
  have b := imm_in l0 hl0 i.toNat
  have K := kk p l e s m args below meth c H locs cells slots Q D ad aC A lsm C0 hP hD hS hL cl (cs.tl.tl.i ⟨by omega, by omega⟩) hh hc1 hc2 ret
  have e1 : av ad (0, l0.getD i.toNat 0) = .int (immF l0 (Int32.ofInt i).toNatClampNeg) := by rw [n_clamp cs.i1]; rfl
  rw [List.map_cons, e1] at K
  exact K
theorem q_gets {idx : Nat} {nm : String} {z : Int} (hd : dcd Y.2.1 pc = some (.getstatic idx, n)) (hn : n = pc + 3) (hz : (z = -2 ∧ nm = "TUNE_LEAST") ∨ (z = -3 ∧ nm = "TUNE_MOST")) (hw : Cond.fieldLink Y.1 idx "NineActs" nm "[I" ∈ gtb) (kk : AJ X Y R n ls ((2, z) :: st) h Φ) : AJ X Y R pc ls st h Φ := by
  subst hn
  intro p l e s m args below meth c H locs cells slots Q D ad aC A lsm C0 hP hD hS hL cl cs hh hc1 hc2 ret
  have hZ : va_Z "NineActs" nm "[I" (.ref (ad z)) A s s.heap := by
    rcases hz with ⟨rfl, rfl⟩ | ⟨rfl, rfl⟩
    · exact C0.2.2.2.2.2.2.2.2.2.2.2.1
    · exact C0.2.2.2.2.2.2.2.2.2.2.2.2.1
  have hz0 : ¬ z = 0 := by rcases hz with ⟨rfl, -⟩ | ⟨rfl, -⟩ <;> decide
  have er : av ad (2, z) = .ref (ad z) := if_neg hz0
  refine va_gets C0.1 C0.2.1 hZ hS C0.2.2.2.1 (C0.2.2.2.2.1 _ hw) (fun x hx => hx) (dcd1 hd rfl) ?_
  have K := kk p l e s m args below meth c H locs cells slots Q D ad aC A lsm C0 hP hD hS hL cl cs.r hh hc1 hc2 ret
  rw [List.map_cons, er] at K
  exact K
end Heap
end
section
/-! contracts of methods, and calls -/
def rmD (d : Nat) : Room := { frames := d, cells := 0, slots := 0, locals := 60 * d }
def QQi (Φ : Option AV → Mem → Prop) (D : va_G) (ad : Int → Nat) (aC : Nat → ClassId) (A : Nat → Prop) : Array Value → State → Outcome → State → Prop :=
  va_Qi (fun (r : Int32) (u : Int × Mem) => r = Int32.ofInt u.1 ∧ in32 u.1 ∧ Hok u.2 ∧ Φ (some (0, u.1)) u.2) (fun (u : Int × Mem) (T : State) => va_P D vwCl (wsOf SH ad aC u.2) T.heap) A
def QQl (Φ : Option AV → Mem → Prop) (D : va_G) (ad : Int → Nat) (aC : Nat → ClassId) (A : Nat → Prop) : Array Value → State → Outcome → State → Prop :=
  va_Ql (fun (r : Int64) (u : Int × Mem) => r = Int64.ofInt u.1 ∧ in64 u.1 ∧ Hok u.2 ∧ Φ (some (1, u.1)) u.2) (fun (u : Int × Mem) (T : State) => va_P D vwCl (wsOf SH ad aC u.2) T.heap) A
def QQv (Φ : Option AV → Mem → Prop) (D : va_G) (ad : Int → Nat) (aC : Nat → ClassId) (A : Nat → Prop) : Array Value → State → Outcome → State → Prop :=
  va_Qv (fun (u : Mem) => Hok u ∧ Φ none u) (fun (u : Mem) (T : State) => va_P D vwCl (wsOf SH ad aC u) T.heap) A
def QQ (t : Nat) : (Option AV → Mem → Prop) → va_G → (Int → Nat) → (Nat → ClassId) → (Nat → Prop) → Array Value → State → Outcome → State → Prop := match t with
  | 0 => QQi
  | 1 => QQl
  | _ => QQv
def PP (X : XS) (D : va_G) (ad : Int → Nat) (aC : Nat → ClassId) (h : Mem) (sz : Nat) (U : State) : Prop :=
  U.heap.size = sz ∧ va_P D vwCl (wsOf SH ad aC h) U.heap ∧ va_K D vwCl (tysL aC) U ∧ va_D (fun _ => True) (wsOf SH ad aC h) ∧ Cst X ad (va_A (wsOf SH ad aC h) sz) U U.heap
/-- a method's contract: t is the tag of what it answers (9: nothing), d how many frames it may need -/
def AM (X : XS) (y : MethodName) (Y : MD) (ret : Option FieldType) (t d : Nat) (vs : List AV) (h : Mem) (Φ : Option AV → Mem → Prop) : Prop :=
  Can vs → Hok h → ∀ (l : Launch) (D : va_G) (ad : Int → Nat) (aC : Nat → ClassId) (sz : Nat),
    Met l y (.code y Y.2.1 Y.2.2 ret :: gtb) (rmD d) (va_Pc (vs.map (av ad)) (PP X D ad aC h sz)) (QQ t Φ D ad aC (va_A (wsOf SH ad aC h) sz)) 0 0 (va_A (wsOf SH ad aC h) sz)
theorem imm.moved {ad : Int → Nat} {A : Nat → Prop} {u U : State} {H : Heap} {z : Int} {L : Nat} {xs : Nat → Int32} (hvm : u.vm.Alike U.vm) (h : imm ad A u H z L xs) : imm ad A U H z L xs := ⟨h.1.moved hvm, h.2⟩
theorem imm.next {ad : Int → Nat} {A B : Nat → Prop} {U : State} {H H1 : Heap} {z : Int} {L : Nat} {xs : Nat → Int32} {locs : List Loc} (h : imm ad A U H z L xs) (hS : va_S A H H1 locs) (hAB : ∀ q, B q → A q) : imm ad B U H1 z L xs :=
  ⟨h.1.kept (hS.2.1 _ h.2.1 h.2.2), Nat.lt_of_lt_of_le h.2.1 hS.1, fun q => h.2.2 (hAB _ q)⟩
theorem Cst.moved {X : XS} {ad : Int → Nat} {A : Nat → Prop} {u U : State} {H : Heap} (hvm : u.vm.Alike U.vm) (h : Cst X ad A u H) : Cst X ad A U H :=
  ⟨h.1.moved hvm, h.2.1.moved hvm, h.2.2.1.moved hvm, h.2.2.2.1.moved hvm, h.2.2.2.2.1.moved hvm, h.2.2.2.2.2.1.moved hvm, h.2.2.2.2.2.2.moved hvm⟩
theorem Cst.next {X : XS} {ad : Int → Nat} {A B : Nat → Prop} {U : State} {H H1 : Heap} {locs : List Loc} (h : Cst X ad A U H) (hS : va_S A H H1 locs) (hAB : ∀ q, B q → A q) : Cst X ad B U H1 :=
  have hk : ∀ a : Nat, a < H.size → ¬ A a → H1[a]? = H[a]? := hS.2.1
  ⟨h.1.next hS hAB, h.2.1.next hS hAB, h.2.2.1.next hS hAB, h.2.2.2.1.next hS hAB, (h.2.2.2.2.1.kept hk).narrow hAB, (h.2.2.2.2.2.1.kept hk).narrow hAB, (h.2.2.2.2.2.2.kept hk).narrow hAB⟩
theorem ws_fst {ad : Int → Nat} {aC : Nat → ClassId} {h : Mem} {k : Nat} {q : Nat × va_E} (hk : (wsOf SH ad aC h)[k]? = some q) (h' : Mem) : ∃ e, (wsOf SH ad aC h')[k]? = some (q.1, e) := by
  unfold wsOf at hk ⊢
  rw [List.getElem?_mapIdx] at hk ⊢
  cases hs : SH[k]? with
  | none => rw [hs] at hk; cases hk
  | some sp => rw [hs] at hk; cases hk; exact ⟨_, rfl⟩
theorem ws_D {ad : Int → Nat} {aC : Nat → ClassId} {A : Nat → Prop} {h : Mem} (hD : va_D A (wsOf SH ad aC h)) (h' : Mem) : va_D A (wsOf SH ad aC h') := by
  refine ⟨fun i j p q hi hj hpq => ?_, fun k q hk => ?_⟩
  · obtain ⟨e1, h1⟩ := ws_fst hi h
    obtain ⟨e2, h2⟩ := ws_fst hj h
    exact hD.1 i j _ _ h1 h2 hpq
  · obtain ⟨e1, h1⟩ := ws_fst hk h
    exact hD.2 k (q.1, e1) h1
/-- the locals at a method's entry -/
def entS (vs : List AV) : List AV := vs.flatMap (fun v => if v.1 = 1 then [v, (3, 0)] else [v])
def entL (vs : List AV) (n : Nat) : List AV := entS vs ++ List.replicate (n - (entS vs).length) (3, 0)
theorem ent_len (ad : Int → Nat) : ∀ vs : List AV, (lg_sl (vs.map (av ad))).length = (entS vs).length
  | [] => rfl
  | v :: vs => by
    have ih := ent_len ad vs
    unfold lg_sl entS at ih ⊢
    rw [List.map_cons, List.flatMap_cons, List.flatMap_cons, List.length_append, List.length_append, ih, av_cat]
    by_cases hv : v.1 = 1
    · simp [hv]
    · simp [hv]
theorem ent_at (ad : Int → Nat) : ∀ (vs : List AV) (k i : Nat) (v : AV), (entS vs)[i]? = some v → v.1 ≤ 2 → (k + i, av ad v) ∈ lv_args k (vs.map (av ad))
  | [], k, i, v, h, _ => by simp [entS] at h
  | w :: vs, k, i, v, h, hv => by
    have ih := ent_at ad vs
    unfold entS at h ih
    rw [List.flatMap_cons] at h
    rw [List.map_cons, lv_args, av_cat]
    by_cases hw : w.1 = 1
    · rw [if_pos hw] at h
      simp only [hw, if_true]
      match i, h with
      | 0, h => simp at h; subst h; exact List.mem_cons_self
      | 1, h => simp at h; subst h; exact absurd hv (by decide)
      | i + 2, h =>
        have := ih (k + 2) i v (by simpa using h) hv
        rw [show k + 2 + i = k + (i + 2) by omega] at this
        exact List.mem_cons_of_mem _ this
    · rw [if_neg hw] at h
      simp only [hw, if_false]
      match i, h with
      | 0, h => simp at h; subst h; exact List.mem_cons_self
      | i + 1, h =>
        have := ih (k + 1) i v (by simpa using h) hv
        rw [show k + 1 + i = k + (i + 1) by omega] at this
        exact List.mem_cons_of_mem _ (by simpa using this)
theorem ent_loc {ad : Int → Nat} {vs : List AV} {n : Nat} (hn : (entS vs).length ≤ n) :
    LcR ad ((lg_sl (vs.map (av ad)) ++ List.replicate (n - (lg_sl (vs.map (av ad))).length) Slot.unset).toArray) n (entL vs n) := by
  have h := lv_entry (vs.map (av ad)) (n := n) (by rw [ent_len]; exact hn)
  refine ⟨h.1, h.2.1, by unfold entL; rw [List.length_append, List.length_replicate]; omega, fun i v hi hv => ?_⟩
  unfold entL at hi
  by_cases hl : i < (entS vs).length
  · rw [List.getElem?_append_left hl] at hi
    have := ent_at ad vs 0 i v hi hv
    rw [Nat.zero_add] at this
    exact h.2.2 _ this
  · rw [List.getElem?_append_right (by omega)] at hi
    have := List.mem_replicate.mp (List.mem_of_getElem? hi)
    rw [this.2] at hv
    exact absurd hv (by decide)
theorem ent_can {vs : List AV} {n : Nat} (h : Can vs) : Can (entL vs n) := by
  intro v hv
  unfold entL entS at hv
  rcases List.mem_append.mp hv with hv | hv
  · obtain ⟨w, hw, hm⟩ := List.mem_flatMap.mp hv
    split at hm
    · simp at hm
      rcases hm with rfl | rfl
      · exact h _ hw
      · exact ⟨fun q => (by cases q), fun q => (by cases q)⟩
    · simp at hm; subst hm; exact h _ hw
  · rw [(List.mem_replicate.mp hv).2]
    exact ⟨fun q => (by cases q), fun q => (by cases q)⟩
/-- a contract out of a walk -/
theorem AM.of {X : XS} {y : MethodName} {Y : MD} {ret : Option FieldType} {t d : Nat} {vs : List AV} {h : Mem} {Φ : Option AV → Mem → Prop} (hy : plainName y.cls = true) (hY : Y.1 = y.cls) (hn : (entS vs).length ≤ Y.2.2)
    (hr : (t = 0 ∧ (ret = some .int ∧ (∀ r h', Φ r h' → ∃ z, r = some (0, z)) ∨ ret = some .boolean ∧ ∀ r h', Φ r h' → ∃ z, r = some (0, z) ∧ (z = 0 ∨ z = 1))) ∨ (t = 1 ∧ ret = some .long ∧ ∀ r h', Φ r h' → ∃ z, r = some (1, z)) ∨ (t = 9 ∧ ret = none ∧ ∀ r h', Φ r h' → r = none))
    (k : AJ X Y (rmD d) 0 (entL vs Y.2.2) [] h Φ) : AM X y Y ret t d vs h Φ := by
  intro hc hh l D ad aC sz
  refine Met.ofW (cc := Y.2.1) (maxL := Y.2.2) (ret := ret) hy rfl ?_
  intro p e s m args below meth c s₁ B hml hv
  obtain ⟨rfl, hsz, hP, hK, hD0, hC⟩ := hv
  have hts := atoms_spec (ws := .code y Y.2.1 Y.2.2 ret :: gtb) B.pre
  have hown : s.vm.findClass Y.1 = some m.cls := by rw [hY]; exact findClass_of_methodNamed B.named
  have hlocks := B.notSynchronized
  have hrt := B.returns
  subst hsz
  have hD := hD0.self (sz := s.heap.size)
  rw [lg_entry_eq]
  refine k p l e s m _ below meth c s.heap [] 0 0 _ D ad aC (va_A (wsOf SH ad aC h) s.heap.size) _ ⟨B.exec, B.bytes, hml, hown, fun w hw => hts w (List.mem_cons_of_mem _ hw), hK, fun q hq => Or.inr hq, hC⟩ hP hD va_S.rf (ent_loc hn) (ent_can hc) Can.nil hh (Nat.zero_le _) (Nat.zero_le _) ?_
  intro r h' H' locs' lsm' pc' hΦ ho hcr hP' hD' hS' hret
  rcases hr with ⟨rfl, hr⟩ | ⟨rfl, rfl, hr⟩ | ⟨rfl, rfl, hr⟩
  · obtain ⟨z, rfl⟩ : ∃ z, r = some (0, z) := by
      rcases hr with ⟨-, hr⟩ | ⟨-, hr⟩
      · exact hr r h' hΦ
      · obtain ⟨z, h1, -⟩ := hr r h' hΦ; exact ⟨z, h1⟩
    have hq : ∀ T : State, T.heap = H' → s.WarmedH T.vm → QQ 0 Φ D ad aC (va_A (wsOf SH ad aC h) s.heap.size) (vs.map (av ad)).toArray s (.returned (some (.int (Int32.ofInt z)))) T := fun T hT _ => ⟨⟨Int32.ofInt z, (z, h'), rfl, ⟨rfl, hcr.i1, ho, hΦ⟩, by subst hT; exact hP'⟩, hS'.F hT⟩
    rcases hr with ⟨rfl, hr⟩ | ⟨rfl, hr⟩
    · exact W.iret B.exec B.bytes hrt hq hS'.2.2 hret
    · obtain ⟨z', h1, h2⟩ := hr _ _ hΦ
      cases h1
      exact W.zret B.exec B.bytes hrt (by rcases h2 with rfl | rfl <;> decide +kernel) hq hS'.2.2 hret
  · obtain ⟨z, rfl⟩ := hr r h' hΦ
    exact W.lret B.exec B.bytes hrt (fun T hT _ => ⟨⟨Int64.ofInt z, (z, h'), rfl, ⟨rfl, hcr.l1, ho, hΦ⟩, by subst hT; exact hP'⟩, hS'.F hT⟩) hS'.2.2 hret
  · have := hr r h' hΦ
    subst this
    exact W.vret B.exec B.bytes hrt (fun T hT _ => ⟨⟨h', rfl, ⟨ho, hΦ⟩, by subst hT; exact hP'⟩, hS'.F hT⟩) hS'.2.2 hret
theorem gtb_good {y : MethodName} {b : ByteArray} {nl : Nat} {ret : Option FieldType} (hc : Cond.code y b nl ret ∈ gtb) : GoodIn gtb (.code y b nl ret :: gtb) := by
  intro w hw
  have hm : w ∈ gtb := by
    rcases List.mem_cons.mp hw with rfl | hw
    · exact hc
    · exact hw
  exact ⟨hm, good_of_word (List.mem_filter.mp hm).2⟩
def cats (st : List AV) : Nat := (st.map (fun v => if v.1 = 1 then 2 else 1)).sum
theorem cats_eq (ad : Int → Nat) (st : List AV) : ((st.map (av ad)).map fun v => v.category).sum = cats st := by
  unfold cats
  rw [List.map_map]
  refine congrArg List.sum (List.map_congr_left (fun v _ => ?_))
  exact av_cat ad v
section CallsQ
variable {X : XS} {Y : MD} {R : Room} {pc n : Nat} {ls st : List AV} {h : Mem} {Φ : Option AV → Mem → Prop}
theorem q_callVi {ci NN : Nat} {TT : u_T} {r0 : Int} {idx d : Nat} {y : MethodName} {Yc : MD} {ret : Option FieldType} {vs st0 : List AV} {Ψ : Option AV → Mem → Prop} (hd : dcd Y.2.1 pc = some (.invokevirtual idx, n)) (hn : n = pc + 3) (hM : AM X y Yc ret 0 d ((2, r0) :: vs) h Ψ) (hl : Cond.methodLink Y.1 idx y ∈ gtb) (hinst : Cond.instanceMethod y ∈ gtb) (hsel : Cond.selects y.cls y y ∈ gtb) (hini : Cond.initialized y.cls ∈ gtb) (hcode : Cond.code y Yc.2.1 Yc.2.2 ret ∈ gtb)
    (hp : decide (y.cls ≠ "java/lang/invoke/MethodHandle" ∧ y.cls ≠ "java/lang/invoke/VarHandle" ∧ (parseMethodDescriptor y.desc).map (fun d => d.parameters.length) = some vs.length) = true) (hm : decide (Yc.2.2 ≤ 41 ∧ cats st ≤ 8) = true) (hR : d + 1 ≤ R.frames ∧ 60 * (d + 1) ≤ R.locals) (hcl : vwCl[ci]? = some (y.cls, TT, NN)) (ho : okO ci r0 = true) (hst : st0 = vs.reverse ++ (2, r0) :: st)
    (kk : ∀ (z : Int) (h' : Mem), Ψ (some (0, z)) h' → AJ X Y R n ls ((0, z) :: st) h' Φ) : AJ X Y R pc ls st0 h Φ := by
  subst hn; subst hst
  intro p l e s m args below meth c H locs cells slots Q D ad aC A lsm C0 hP hD hS hL cl cs hh hc1 hc2 ret0
  have hp := of_decide_eq_true hp
  have hm := of_decide_eq_true hm
  obtain ⟨hs, hci⟩ := okO_N ho hcl
  have hr1 := (shp_at hs).1
  have hcv : Can ((2, r0) :: vs) := Can.r (fun v hv => cs v (List.mem_append_left _ (List.mem_reverse.mpr hv)))
  have hcst : Can st := fun v hv => cs v (List.mem_append_right _ (List.mem_cons_of_mem _ hv))
  have hFc : ∀ q, va_A (wsOf SH ad aC h) H.size q → A q := by
    intro q hq
    rcases hq with ⟨k, e1, hk⟩ | hq
    · exact hD.2 k _ hk
    · exact C0.2.2.2.2.2.2.1 q (Nat.le_trans hS.1 hq)
  have hM := hM hcv hh l D ad aC H.size
  have hcellr : (wsOf SH ad aC h)[(r0 - 1).toNat]? = some (ad r0, .inr (ci, (List.range NN).map (fun j => av ad (ftag (fty ci j), h r0 j)))) := by
    rw [ws_at hs]; unfold cellE; rw [if_pos hci]
  have hroom : 2 * (F0 m pc lsm ((vs.reverse ++ (2, r0) :: st).map (av ad))).monitorRoom + ((st.map (av ad)).map fun v => v.category).sum ≤ 8 := lv_room (by rw [cats_eq]; exact hm.2)
  refine va_calli (a := _) (va_runV (As := vs.map (av ad)) (rest := st.map (av ad)) (b := ad r0) ⟨C0.1, C0.2.1, C0.2.2.1, C0.2.2.2.1, C0.2.2.2.2.1⟩ hM ⟨callB_of (ws' := gtb) vs.length C0.2.2.2.2.1 (gtb_good hcode) rfl rfl rfl (C0.2.2.2.2.1 _ hini) (C0.2.2.2.2.1 _ hl) hp ⟨hR.1, by show 8 + (Yc.2.2 + 11) + 60 * d ≤ R.locals; omega⟩, C0.2.2.2.2.1 _ hinst, C0.2.2.2.2.1 _ hsel⟩ ⟨fun a U g mk q => ⟨q.1, q.2.1, q.2.2.1, va_K.moved (u := U) (U := U.calling g mk a) (Vm.Alike.refl U.vm) q.2.2.2.1, q.2.2.2.2.1, Cst.moved (u := U) (U := U.calling g mk a) (Vm.Alike.refl U.vm) q.2.2.2.2.2⟩, va_recv C0.2.2.2.2.2.1 hP hcl (q0 := (r0 - 1).toNat) hcellr, fun U hU hW => ⟨by rw [List.map_cons, av_ref hr1], by rw [hU], by rw [hU]; exact hP, va_K.moved hW.alike C0.2.2.2.2.2.1, hD.weaken (fun _ _ _ _ => trivial), by rw [hU]; exact (C0.2.2.2.2.2.2.2.next hS hFc).moved hW.alike⟩⟩ rfl (List.length_map _) hL.1 (by rw [List.map_append, List.map_cons, List.map_reverse, av_ref hr1]) hroom (dcd1 hd rfl) ⟨hc1, hc2⟩) hS (fun q _ hq => hFc q hq) hFc (fun r u T H1 locs1 hT hvm hpost hB hz1 hk1 hS1 => ?_)
  obtain ⟨z, h1⟩ := u
  obtain ⟨rfl, hz, ho1, hΨ⟩ := hpost
  rw [hT] at hB
  exact kk z h1 hΨ p l e s m args below meth c H1 locs1 cells slots Q D ad aC A lsm C0 hB (ws_D hD _) hS1 hL cl (hcst.i hz) ho1 hc1 hc2 ret0
theorem q_callSi {idx d : Nat} {y : MethodName} {Yc : MD} {ret : Option FieldType} {vs st0 : List AV} {Ψ : Option AV → Mem → Prop} (hd : dcd Y.2.1 pc = some (.invokestatic idx, n)) (hn : n = pc + 3) (hM : AM X y Yc ret 0 d vs h Ψ) (hl : Cond.methodLink Y.1 idx y ∈ gtb) (hinst : Cond.static y ∈ gtb) (hini : Cond.initialized y.cls ∈ gtb) (hcode : Cond.code y Yc.2.1 Yc.2.2 ret ∈ gtb)
    (hp : decide (y.cls ≠ "java/lang/invoke/MethodHandle" ∧ y.cls ≠ "java/lang/invoke/VarHandle" ∧ (parseMethodDescriptor y.desc).map (fun d => d.parameters.length) = some vs.length) = true) (hm : decide (Yc.2.2 ≤ 41 ∧ cats st ≤ 8) = true) (hR : d + 1 ≤ R.frames ∧ 60 * (d + 1) ≤ R.locals) (hst : st0 = vs.reverse ++ st)
    (kk : ∀ (z : Int) (h' : Mem), Ψ (some (0, z)) h' → AJ X Y R n ls ((0, z) :: st) h' Φ) : AJ X Y R pc ls st0 h Φ := by
  subst hn; subst hst
  intro p l e s m args below meth c H locs cells slots Q D ad aC A lsm C0 hP hD hS hL cl cs hh hc1 hc2 ret0
  have hp := of_decide_eq_true hp
  have hm := of_decide_eq_true hm
  have hcv : Can vs := fun v hv => cs v (List.mem_append_left _ (List.mem_reverse.mpr hv))
  have hcst : Can st := fun v hv => cs v (List.mem_append_right _ hv)
  have hFc : ∀ q, va_A (wsOf SH ad aC h) H.size q → A q := by
    intro q hq
    rcases hq with ⟨k, e1, hk⟩ | hq
    · exact hD.2 k _ hk
    · exact C0.2.2.2.2.2.2.1 q (Nat.le_trans hS.1 hq)
  have hM := hM hcv hh l D ad aC H.size
  have hroom : 2 * (F0 m pc lsm ((vs.reverse ++ st).map (av ad))).monitorRoom + ((st.map (av ad)).map fun v => v.category).sum ≤ 8 := lv_room (by rw [cats_eq]; exact hm.2)
  refine va_calli (a := _) (va_runS (As := vs.map (av ad)) (rest := st.map (av ad)) ⟨C0.1, C0.2.1, C0.2.2.1, C0.2.2.2.1, C0.2.2.2.2.1⟩ hM ⟨callB_of (ws' := gtb) vs.length C0.2.2.2.2.1 (gtb_good hcode) rfl rfl rfl (C0.2.2.2.2.1 _ hini) (C0.2.2.2.2.1 _ hl) hp ⟨hR.1, by show 8 + (Yc.2.2 + 11) + 60 * d ≤ R.locals; omega⟩, C0.2.2.2.2.1 _ hinst⟩ ⟨fun a U g mk q => ⟨q.1, q.2.1, q.2.2.1, va_K.moved (u := U) (U := U.calling g mk a) (Vm.Alike.refl U.vm) q.2.2.2.1, q.2.2.2.2.1, Cst.moved (u := U) (U := U.calling g mk a) (Vm.Alike.refl U.vm) q.2.2.2.2.2⟩, fun U hU hW => ⟨rfl, by rw [hU], by rw [hU]; exact hP, va_K.moved hW.alike C0.2.2.2.2.2.1, hD.weaken (fun _ _ _ _ => trivial), by rw [hU]; exact (C0.2.2.2.2.2.2.2.next hS hFc).moved hW.alike⟩⟩ rfl (List.length_map _) hL.1 (by rw [List.map_append, List.map_reverse]) hroom (dcd1 hd rfl) ⟨hc1, hc2⟩) hS (fun q _ hq => hFc q hq) hFc (fun r u T H1 locs1 hT hvm hpost hB hz1 hk1 hS1 => ?_)
  obtain ⟨z, h1⟩ := u
  obtain ⟨rfl, hz, ho1, hΨ⟩ := hpost
  rw [hT] at hB
  exact kk z h1 hΨ p l e s m args below meth c H1 locs1 cells slots Q D ad aC A lsm C0 hB (ws_D hD _) hS1 hL cl (hcst.i hz) ho1 hc1 hc2 ret0
theorem q_callVl {ci NN : Nat} {TT : u_T} {r0 : Int} {idx d : Nat} {y : MethodName} {Yc : MD} {ret : Option FieldType} {vs st0 : List AV} {Ψ : Option AV → Mem → Prop} (hd : dcd Y.2.1 pc = some (.invokevirtual idx, n)) (hn : n = pc + 3) (hM : AM X y Yc ret 1 d ((2, r0) :: vs) h Ψ) (hl : Cond.methodLink Y.1 idx y ∈ gtb) (hinst : Cond.instanceMethod y ∈ gtb) (hsel : Cond.selects y.cls y y ∈ gtb) (hini : Cond.initialized y.cls ∈ gtb) (hcode : Cond.code y Yc.2.1 Yc.2.2 ret ∈ gtb)
    (hp : decide (y.cls ≠ "java/lang/invoke/MethodHandle" ∧ y.cls ≠ "java/lang/invoke/VarHandle" ∧ (parseMethodDescriptor y.desc).map (fun d => d.parameters.length) = some vs.length) = true) (hm : decide (Yc.2.2 ≤ 41 ∧ cats st ≤ 8) = true) (hR : d + 1 ≤ R.frames ∧ 60 * (d + 1) ≤ R.locals) (hcl : vwCl[ci]? = some (y.cls, TT, NN)) (ho : okO ci r0 = true) (hst : st0 = vs.reverse ++ (2, r0) :: st)
    (kk : ∀ (z : Int) (h' : Mem), Ψ (some (1, z)) h' → AJ X Y R n ls ((1, z) :: st) h' Φ) : AJ X Y R pc ls st0 h Φ := by
  subst hn; subst hst
  intro p l e s m args below meth c H locs cells slots Q D ad aC A lsm C0 hP hD hS hL cl cs hh hc1 hc2 ret0
  have hp := of_decide_eq_true hp
  have hm := of_decide_eq_true hm
  obtain ⟨hs, hci⟩ := okO_N ho hcl
  have hr1 := (shp_at hs).1
  have hcv : Can ((2, r0) :: vs) := Can.r (fun v hv => cs v (List.mem_append_left _ (List.mem_reverse.mpr hv)))
  have hcst : Can st := fun v hv => cs v (List.mem_append_right _ (List.mem_cons_of_mem _ hv))
  have hFc : ∀ q, va_A (wsOf SH ad aC h) H.size q → A q := by
    intro q hq
    rcases hq with ⟨k, e1, hk⟩ | hq
    · exact hD.2 k _ hk
    · exact C0.2.2.2.2.2.2.1 q (Nat.le_trans hS.1 hq)
  have hM := hM hcv hh l D ad aC H.size
  have hcellr : (wsOf SH ad aC h)[(r0 - 1).toNat]? = some (ad r0, .inr (ci, (List.range NN).map (fun j => av ad (ftag (fty ci j), h r0 j)))) := by
    rw [ws_at hs]; unfold cellE; rw [if_pos hci]
  have hroom : 2 * (F0 m pc lsm ((vs.reverse ++ (2, r0) :: st).map (av ad))).monitorRoom + ((st.map (av ad)).map fun v => v.category).sum ≤ 8 := lv_room (by rw [cats_eq]; exact hm.2)
  refine va_calll (a := _) (va_runV (As := vs.map (av ad)) (rest := st.map (av ad)) (b := ad r0) ⟨C0.1, C0.2.1, C0.2.2.1, C0.2.2.2.1, C0.2.2.2.2.1⟩ hM ⟨callB_of (ws' := gtb) vs.length C0.2.2.2.2.1 (gtb_good hcode) rfl rfl rfl (C0.2.2.2.2.1 _ hini) (C0.2.2.2.2.1 _ hl) hp ⟨hR.1, by show 8 + (Yc.2.2 + 11) + 60 * d ≤ R.locals; omega⟩, C0.2.2.2.2.1 _ hinst, C0.2.2.2.2.1 _ hsel⟩ ⟨fun a U g mk q => ⟨q.1, q.2.1, q.2.2.1, va_K.moved (u := U) (U := U.calling g mk a) (Vm.Alike.refl U.vm) q.2.2.2.1, q.2.2.2.2.1, Cst.moved (u := U) (U := U.calling g mk a) (Vm.Alike.refl U.vm) q.2.2.2.2.2⟩, va_recv C0.2.2.2.2.2.1 hP hcl (q0 := (r0 - 1).toNat) hcellr, fun U hU hW => ⟨by rw [List.map_cons, av_ref hr1], by rw [hU], by rw [hU]; exact hP, va_K.moved hW.alike C0.2.2.2.2.2.1, hD.weaken (fun _ _ _ _ => trivial), by rw [hU]; exact (C0.2.2.2.2.2.2.2.next hS hFc).moved hW.alike⟩⟩ rfl (List.length_map _) hL.1 (by rw [List.map_append, List.map_cons, List.map_reverse, av_ref hr1]) hroom (dcd1 hd rfl) ⟨hc1, hc2⟩) hS (fun q _ hq => hFc q hq) hFc (fun r u T H1 locs1 hT hvm hpost hB hz1 hk1 hS1 => ?_)
  obtain ⟨z, h1⟩ := u
  obtain ⟨rfl, hz, ho1, hΨ⟩ := hpost
  rw [hT] at hB
  exact kk z h1 hΨ p l e s m args below meth c H1 locs1 cells slots Q D ad aC A lsm C0 hB (ws_D hD _) hS1 hL cl (hcst.l hz) ho1 hc1 hc2 ret0
theorem q_callSl {idx d : Nat} {y : MethodName} {Yc : MD} {ret : Option FieldType} {vs st0 : List AV} {Ψ : Option AV → Mem → Prop} (hd : dcd Y.2.1 pc = some (.invokestatic idx, n)) (hn : n = pc + 3) (hM : AM X y Yc ret 1 d vs h Ψ) (hl : Cond.methodLink Y.1 idx y ∈ gtb) (hinst : Cond.static y ∈ gtb) (hini : Cond.initialized y.cls ∈ gtb) (hcode : Cond.code y Yc.2.1 Yc.2.2 ret ∈ gtb)
    (hp : decide (y.cls ≠ "java/lang/invoke/MethodHandle" ∧ y.cls ≠ "java/lang/invoke/VarHandle" ∧ (parseMethodDescriptor y.desc).map (fun d => d.parameters.length) = some vs.length) = true) (hm : decide (Yc.2.2 ≤ 41 ∧ cats st ≤ 8) = true) (hR : d + 1 ≤ R.frames ∧ 60 * (d + 1) ≤ R.locals) (hst : st0 = vs.reverse ++ st)
    (kk : ∀ (z : Int) (h' : Mem), Ψ (some (1, z)) h' → AJ X Y R n ls ((1, z) :: st) h' Φ) : AJ X Y R pc ls st0 h Φ := by
  subst hn; subst hst
  intro p l e s m args below meth c H locs cells slots Q D ad aC A lsm C0 hP hD hS hL cl cs hh hc1 hc2 ret0
  have hp := of_decide_eq_true hp
  have hm := of_decide_eq_true hm
  have hcv : Can vs := fun v hv => cs v (List.mem_append_left _ (List.mem_reverse.mpr hv))
  have hcst : Can st := fun v hv => cs v (List.mem_append_right _ hv)
  have hFc : ∀ q, va_A (wsOf SH ad aC h) H.size q → A q := by
    intro q hq
    rcases hq with ⟨k, e1, hk⟩ | hq
    · exact hD.2 k _ hk
    · exact C0.2.2.2.2.2.2.1 q (Nat.le_trans hS.1 hq)
  have hM := hM hcv hh l D ad aC H.size
  have hroom : 2 * (F0 m pc lsm ((vs.reverse ++ st).map (av ad))).monitorRoom + ((st.map (av ad)).map fun v => v.category).sum ≤ 8 := lv_room (by rw [cats_eq]; exact hm.2)
  refine va_calll (a := _) (va_runS (As := vs.map (av ad)) (rest := st.map (av ad)) ⟨C0.1, C0.2.1, C0.2.2.1, C0.2.2.2.1, C0.2.2.2.2.1⟩ hM ⟨callB_of (ws' := gtb) vs.length C0.2.2.2.2.1 (gtb_good hcode) rfl rfl rfl (C0.2.2.2.2.1 _ hini) (C0.2.2.2.2.1 _ hl) hp ⟨hR.1, by show 8 + (Yc.2.2 + 11) + 60 * d ≤ R.locals; omega⟩, C0.2.2.2.2.1 _ hinst⟩ ⟨fun a U g mk q => ⟨q.1, q.2.1, q.2.2.1, va_K.moved (u := U) (U := U.calling g mk a) (Vm.Alike.refl U.vm) q.2.2.2.1, q.2.2.2.2.1, Cst.moved (u := U) (U := U.calling g mk a) (Vm.Alike.refl U.vm) q.2.2.2.2.2⟩, fun U hU hW => ⟨rfl, by rw [hU], by rw [hU]; exact hP, va_K.moved hW.alike C0.2.2.2.2.2.1, hD.weaken (fun _ _ _ _ => trivial), by rw [hU]; exact (C0.2.2.2.2.2.2.2.next hS hFc).moved hW.alike⟩⟩ rfl (List.length_map _) hL.1 (by rw [List.map_append, List.map_reverse]) hroom (dcd1 hd rfl) ⟨hc1, hc2⟩) hS (fun q _ hq => hFc q hq) hFc (fun r u T H1 locs1 hT hvm hpost hB hz1 hk1 hS1 => ?_)
  obtain ⟨z, h1⟩ := u
  obtain ⟨rfl, hz, ho1, hΨ⟩ := hpost
  rw [hT] at hB
  exact kk z h1 hΨ p l e s m args below meth c H1 locs1 cells slots Q D ad aC A lsm C0 hB (ws_D hD _) hS1 hL cl (hcst.l hz) ho1 hc1 hc2 ret0
theorem q_callVv {ci NN : Nat} {TT : u_T} {r0 : Int} {idx d : Nat} {y : MethodName} {Yc : MD} {ret : Option FieldType} {vs st0 : List AV} {Ψ : Option AV → Mem → Prop} (hd : dcd Y.2.1 pc = some (.invokevirtual idx, n)) (hn : n = pc + 3) (hM : AM X y Yc ret 9 d ((2, r0) :: vs) h Ψ) (hl : Cond.methodLink Y.1 idx y ∈ gtb) (hinst : Cond.instanceMethod y ∈ gtb) (hsel : Cond.selects y.cls y y ∈ gtb) (hini : Cond.initialized y.cls ∈ gtb) (hcode : Cond.code y Yc.2.1 Yc.2.2 ret ∈ gtb)
    (hp : decide (y.cls ≠ "java/lang/invoke/MethodHandle" ∧ y.cls ≠ "java/lang/invoke/VarHandle" ∧ (parseMethodDescriptor y.desc).map (fun d => d.parameters.length) = some vs.length) = true) (hm : decide (Yc.2.2 ≤ 41 ∧ cats st ≤ 8) = true) (hR : d + 1 ≤ R.frames ∧ 60 * (d + 1) ≤ R.locals) (hcl : vwCl[ci]? = some (y.cls, TT, NN)) (ho : okO ci r0 = true) (hst : st0 = vs.reverse ++ (2, r0) :: st)
    (kk : ∀ (h' : Mem), Ψ none h' → AJ X Y R n ls st h' Φ) : AJ X Y R pc ls st0 h Φ := by
  subst hn; subst hst
  intro p l e s m args below meth c H locs cells slots Q D ad aC A lsm C0 hP hD hS hL cl cs hh hc1 hc2 ret0
  have hp := of_decide_eq_true hp
  have hm := of_decide_eq_true hm
  obtain ⟨hs, hci⟩ := okO_N ho hcl
  have hr1 := (shp_at hs).1
  have hcv : Can ((2, r0) :: vs) := Can.r (fun v hv => cs v (List.mem_append_left _ (List.mem_reverse.mpr hv)))
  have hcst : Can st := fun v hv => cs v (List.mem_append_right _ (List.mem_cons_of_mem _ hv))
  have hFc : ∀ q, va_A (wsOf SH ad aC h) H.size q → A q := by
    intro q hq
    rcases hq with ⟨k, e1, hk⟩ | hq
    · exact hD.2 k _ hk
    · exact C0.2.2.2.2.2.2.1 q (Nat.le_trans hS.1 hq)
  have hM := hM hcv hh l D ad aC H.size
  have hcellr : (wsOf SH ad aC h)[(r0 - 1).toNat]? = some (ad r0, .inr (ci, (List.range NN).map (fun j => av ad (ftag (fty ci j), h r0 j)))) := by
    rw [ws_at hs]; unfold cellE; rw [if_pos hci]
  have hroom : 2 * (F0 m pc lsm ((vs.reverse ++ (2, r0) :: st).map (av ad))).monitorRoom + ((st.map (av ad)).map fun v => v.category).sum ≤ 8 := lv_room (by rw [cats_eq]; exact hm.2)
  refine va_callv (a := _) (va_runV (As := vs.map (av ad)) (rest := st.map (av ad)) (b := ad r0) ⟨C0.1, C0.2.1, C0.2.2.1, C0.2.2.2.1, C0.2.2.2.2.1⟩ hM ⟨callB_of (ws' := gtb) vs.length C0.2.2.2.2.1 (gtb_good hcode) rfl rfl rfl (C0.2.2.2.2.1 _ hini) (C0.2.2.2.2.1 _ hl) hp ⟨hR.1, by show 8 + (Yc.2.2 + 11) + 60 * d ≤ R.locals; omega⟩, C0.2.2.2.2.1 _ hinst, C0.2.2.2.2.1 _ hsel⟩ ⟨fun a U g mk q => ⟨q.1, q.2.1, q.2.2.1, va_K.moved (u := U) (U := U.calling g mk a) (Vm.Alike.refl U.vm) q.2.2.2.1, q.2.2.2.2.1, Cst.moved (u := U) (U := U.calling g mk a) (Vm.Alike.refl U.vm) q.2.2.2.2.2⟩, va_recv C0.2.2.2.2.2.1 hP hcl (q0 := (r0 - 1).toNat) hcellr, fun U hU hW => ⟨by rw [List.map_cons, av_ref hr1], by rw [hU], by rw [hU]; exact hP, va_K.moved hW.alike C0.2.2.2.2.2.1, hD.weaken (fun _ _ _ _ => trivial), by rw [hU]; exact (C0.2.2.2.2.2.2.2.next hS hFc).moved hW.alike⟩⟩ rfl (List.length_map _) hL.1 (by rw [List.map_append, List.map_cons, List.map_reverse, av_ref hr1]) hroom (dcd1 hd rfl) ⟨hc1, hc2⟩) hS (fun q _ hq => hFc q hq) hFc (fun u T H1 locs1 hT hvm hpost hB hz1 hk1 hS1 => ?_)
  obtain ⟨ho1, hΨ⟩ := hpost
  rw [hT] at hB
  exact kk u hΨ p l e s m args below meth c H1 locs1 cells slots Q D ad aC A lsm C0 hB (ws_D hD _) hS1 hL cl hcst ho1 hc1 hc2 ret0
theorem q_callSv {idx d : Nat} {y : MethodName} {Yc : MD} {ret : Option FieldType} {vs st0 : List AV} {Ψ : Option AV → Mem → Prop} (hd : dcd Y.2.1 pc = some (.invokestatic idx, n)) (hn : n = pc + 3) (hM : AM X y Yc ret 9 d vs h Ψ) (hl : Cond.methodLink Y.1 idx y ∈ gtb) (hinst : Cond.static y ∈ gtb) (hini : Cond.initialized y.cls ∈ gtb) (hcode : Cond.code y Yc.2.1 Yc.2.2 ret ∈ gtb)
    (hp : decide (y.cls ≠ "java/lang/invoke/MethodHandle" ∧ y.cls ≠ "java/lang/invoke/VarHandle" ∧ (parseMethodDescriptor y.desc).map (fun d => d.parameters.length) = some vs.length) = true) (hm : decide (Yc.2.2 ≤ 41 ∧ cats st ≤ 8) = true) (hR : d + 1 ≤ R.frames ∧ 60 * (d + 1) ≤ R.locals) (hst : st0 = vs.reverse ++ st)
    (kk : ∀ (h' : Mem), Ψ none h' → AJ X Y R n ls st h' Φ) : AJ X Y R pc ls st0 h Φ := by
  subst hn; subst hst
  intro p l e s m args below meth c H locs cells slots Q D ad aC A lsm C0 hP hD hS hL cl cs hh hc1 hc2 ret0
  have hp := of_decide_eq_true hp
  have hm := of_decide_eq_true hm
  have hcv : Can vs := fun v hv => cs v (List.mem_append_left _ (List.mem_reverse.mpr hv))
  have hcst : Can st := fun v hv => cs v (List.mem_append_right _ hv)
  have hFc : ∀ q, va_A (wsOf SH ad aC h) H.size q → A q := by
    intro q hq
    rcases hq with ⟨k, e1, hk⟩ | hq
    · exact hD.2 k _ hk
    · exact C0.2.2.2.2.2.2.1 q (Nat.le_trans hS.1 hq)
  have hM := hM hcv hh l D ad aC H.size
  have hroom : 2 * (F0 m pc lsm ((vs.reverse ++ st).map (av ad))).monitorRoom + ((st.map (av ad)).map fun v => v.category).sum ≤ 8 := lv_room (by rw [cats_eq]; exact hm.2)
  refine va_callv (a := _) (va_runS (As := vs.map (av ad)) (rest := st.map (av ad)) ⟨C0.1, C0.2.1, C0.2.2.1, C0.2.2.2.1, C0.2.2.2.2.1⟩ hM ⟨callB_of (ws' := gtb) vs.length C0.2.2.2.2.1 (gtb_good hcode) rfl rfl rfl (C0.2.2.2.2.1 _ hini) (C0.2.2.2.2.1 _ hl) hp ⟨hR.1, by show 8 + (Yc.2.2 + 11) + 60 * d ≤ R.locals; omega⟩, C0.2.2.2.2.1 _ hinst⟩ ⟨fun a U g mk q => ⟨q.1, q.2.1, q.2.2.1, va_K.moved (u := U) (U := U.calling g mk a) (Vm.Alike.refl U.vm) q.2.2.2.1, q.2.2.2.2.1, Cst.moved (u := U) (U := U.calling g mk a) (Vm.Alike.refl U.vm) q.2.2.2.2.2⟩, fun U hU hW => ⟨rfl, by rw [hU], by rw [hU]; exact hP, va_K.moved hW.alike C0.2.2.2.2.2.1, hD.weaken (fun _ _ _ _ => trivial), by rw [hU]; exact (C0.2.2.2.2.2.2.2.next hS hFc).moved hW.alike⟩⟩ rfl (List.length_map _) hL.1 (by rw [List.map_append, List.map_reverse]) hroom (dcd1 hd rfl) ⟨hc1, hc2⟩) hS (fun q _ hq => hFc q hq) hFc (fun u T H1 locs1 hT hvm hpost hB hz1 hk1 hS1 => ?_)
  obtain ⟨ho1, hΨ⟩ := hpost
  rw [hT] at hB
  exact kk u hΨ p l e s m args below meth c H1 locs1 cells slots Q D ad aC A lsm C0 hB (ws_D hD _) hS1 hL cl hcst ho1 hc1 hc2 ret0
end CallsQ
end
section
/-! programs as functions: what a method does is an Option of an answer and a memory; none: the walk says nothing -/
abbrev Res : Type := Option (Int × Mem)
def gd (c : Prop) [Decidable c] (a : Res) : Res := if c then a else none
def nm {α : Type} (e : α) (k : α → Res) : Res := k e
def bd (f : Res) (k : Int → Mem → Res) : Res := match f with
  | none => none
  | some q => k q.1 q.2
def jn {α : Type} (B : α → Res) (K : α) : Res := B K
def FU : Nat := 10000
theorem gd_ex {c : Prop} [Decidable c] {a : Res} {r : Int × Mem} (h : gd c a = some r) : c ∧ a = some r := by
  unfold gd at h
  split at h
  · exact ⟨by assumption, h⟩
  · cases h
theorem nm_ex {α : Type} {e : α} {k : α → Res} {r : Int × Mem} (h : nm e k = some r) : ∃ x, x = e ∧ k x = some r := ⟨e, rfl, h⟩
theorem bd_ex {f : Res} {k : Int → Mem → Res} {r : Int × Mem} (h : bd f k = some r) : ∃ v h1, f = some (v, h1) ∧ k v h1 = some r := by
  unfold bd at h
  cases f with
  | none => cases h
  | some q => exact ⟨q.1, q.2, rfl, h⟩
theorem jn_ex {α : Type} {B : α → Res} {K : α} {P : α → Prop} {r : Int × Mem} (h : jn B K = some r) (hJ : P K) : ∃ K', P K' ∧ B K' = some r := ⟨K, hJ, h⟩
theorem it_t {c : Prop} [Decidable c] {a b : Res} {r : Int × Mem} (h : (if c then a else b) = some r) (hc : c) : a = some r := by rwa [if_pos hc] at h
theorem it_f {c : Prop} [Decidable c] {a b : Res} {r : Int × Mem} (h : (if c then a else b) = some r) (hc : ¬ c) : b = some r := by rwa [if_neg hc] at h
def rvO (t : Nat) (v : Int) : Option AV := match t with
  | 0 => some (0, v)
  | 1 => some (1, v)
  | _ => none
/-- what is claimed of a walk whose program answers r -/
abbrev PH (t : Nat) (r : Int × Mem) : Option AV → Mem → Prop := fun a k => a = rvO t r.1 ∧ k = r.2
abbrev PB (r : Int × Mem) : Option AV → Mem → Prop := fun a k => a = some (0, r.1) ∧ k = r.2 ∧ (r.1 = 0 ∨ r.1 = 1)
def CT (X : XS) (y : MethodName) (Y : MD) (ret : Option FieldType) (t d : Nat) (vs : List AV) (h : Mem) (f : Res) : Prop := ∀ r, f = some r → AM X y Y ret t d vs h (PH t r)
def CB (X : XS) (y : MethodName) (Y : MD) (d : Nat) (vs : List AV) (h : Mem) (f : Res) : Prop := ∀ r, f = some r → AM X y Y (some .boolean) 0 d vs h (PB r)
theorem CT.ofI {X : XS} {y : MethodName} {Y : MD} {d : Nat} {vs : List AV} {h : Mem} {f : Res} (hy : plainName y.cls = true) (hY : Y.1 = y.cls) (hn : (entS vs).length ≤ Y.2.2) (k : ∀ r, f = some r → AJ X Y (rmD d) 0 (entL vs Y.2.2) [] h (PH 0 r)) : CT X y Y (some .int) 0 d vs h f :=
  fun r hf => AM.of hy hY hn (Or.inl ⟨rfl, Or.inl ⟨rfl, fun _ _ q => ⟨r.1, q.1⟩⟩⟩) (k r hf)
theorem CB.of {X : XS} {y : MethodName} {Y : MD} {d : Nat} {vs : List AV} {h : Mem} {f : Res} (hy : plainName y.cls = true) (hY : Y.1 = y.cls) (hn : (entS vs).length ≤ Y.2.2) (k : ∀ r, f = some r → AJ X Y (rmD d) 0 (entL vs Y.2.2) [] h (PB r)) : CB X y Y d vs h f :=
  fun r hf => AM.of hy hY hn (Or.inl ⟨rfl, Or.inr ⟨rfl, fun _ _ q => ⟨r.1, q.1, q.2.2⟩⟩⟩) (k r hf)
theorem CT.ofL {X : XS} {y : MethodName} {Y : MD} {d : Nat} {vs : List AV} {h : Mem} {f : Res} (hy : plainName y.cls = true) (hY : Y.1 = y.cls) (hn : (entS vs).length ≤ Y.2.2) (k : ∀ r, f = some r → AJ X Y (rmD d) 0 (entL vs Y.2.2) [] h (PH 1 r)) : CT X y Y (some .long) 1 d vs h f :=
  fun r hf => AM.of hy hY hn (Or.inr (Or.inl ⟨rfl, rfl, fun _ _ q => ⟨r.1, q.1⟩⟩)) (k r hf)
theorem CT.ofV {X : XS} {y : MethodName} {Y : MD} {d : Nat} {vs : List AV} {h : Mem} {f : Res} (hy : plainName y.cls = true) (hY : Y.1 = y.cls) (hn : (entS vs).length ≤ Y.2.2) (k : ∀ r, f = some r → AJ X Y (rmD d) 0 (entL vs Y.2.2) [] h (PH 9 r)) : CT X y Y none 9 d vs h f :=
  fun r hf => AM.of hy hY hn (Or.inr (Or.inr ⟨rfl, rfl, fun _ _ q => q.1⟩)) (k r hf)
/-- what a method's tables say: by method, class ci of its receiver (static: any), n parameters -/
def MfV (ci : Nat) (y : MethodName) (Y : MD) (ret : Option FieldType) (n : Nat) : Prop :=
  (∃ TT NN, vwCl[ci]? = some (y.cls, TT, NN)) ∧ Cond.instanceMethod y ∈ gtb ∧ Cond.selects y.cls y y ∈ gtb ∧ Cond.initialized y.cls ∈ gtb ∧ Cond.code y Y.2.1 Y.2.2 ret ∈ gtb
  ∧ decide (y.cls ≠ "java/lang/invoke/MethodHandle" ∧ y.cls ≠ "java/lang/invoke/VarHandle" ∧ (parseMethodDescriptor y.desc).map (fun d => d.parameters.length) = some n) = true ∧ Y.2.2 ≤ 41
def MfS (y : MethodName) (Y : MD) (ret : Option FieldType) (n : Nat) : Prop :=
  Cond.static y ∈ gtb ∧ Cond.initialized y.cls ∈ gtb ∧ Cond.code y Y.2.1 Y.2.2 ret ∈ gtb
  ∧ decide (y.cls ≠ "java/lang/invoke/MethodHandle" ∧ y.cls ≠ "java/lang/invoke/VarHandle" ∧ (parseMethodDescriptor y.desc).map (fun d => d.parameters.length) = some n) = true ∧ Y.2.2 ≤ 41
theorem gt_of (i : Nat) {w : Cond} (h : lw_tbl[i]? = some w) (g : goodWord w = true) : w ∈ gtb := List.mem_filter.mpr ⟨List.mem_of_getElem? h, g⟩
def Fld (own : String) (idx ci k t : Nat) : Prop := ∃ C T N, vwCl[ci]? = some (C, T, N) ∧ k < N ∧ Cond.fieldLink own idx (T k).1 (T k).2.1 (T k).2.2.1 ∈ gtb ∧ ftag (fty ci k) = t
def FldP (own : String) (idx ci k t : Nat) : Prop := ∃ C T N, vwCl[ci]? = some (C, T, N) ∧ k < N ∧ Cond.fieldLink own idx (T k).1 (T k).2.1 (T k).2.2.1 ∈ gtb ∧ ftag (fty ci k) = t ∧ (T k).2.2.2 = false ∧ foff ci k = none ∧ (fty ci k = .int ∨ fty ci k = .long ∨ fty ci k = .boolean ∨ (∃ C, fty ci k = .object C) ∨ ∃ u, fty ci k = .array u)
def frg (ls : List AV) (ks : List Nat) : List AV := ls.mapIdx (fun i v => if i ∈ ks then (3, 0) else v)
section Short
variable {X : XS} {Y : MD} {R : Room} {pc n : Nat} {ls st : List AV} {h : Mem} {Φ : Option AV → Mem → Prop}
theorem g_get {ci idx k t : Nat} {r kz : Int} (hd : dcd Y.2.1 pc = some (.getfield idx, n)) (hn : n = pc + 3) (hF : Fld Y.1 idx ci k t) (hz : (k : Int) = kz) (ho : okO ci r = true) (kk : AJ X Y R n ls ((t, h r kz) :: st) h Φ) : AJ X Y R pc ls ((2, r) :: st) h Φ := by
  obtain ⟨C, T, N, h1, h2, h3, h4⟩ := hF
  subst hz
  exact q_get hd hn h1 h2 h3 h4 ho kk
theorem g_getF {ci idx k : Nat} {r o z : Int} (hd : dcd Y.2.1 pc = some (.getfield idx, n)) (hn : n = pc + 3) (hF : Fld Y.1 idx ci k 2) (hf : foff ci k = some o) (ho : okO ci r = true) (hz : r + o = z) (kk : AJ X Y R n ls ((2, z) :: st) h Φ) : AJ X Y R pc ls ((2, r) :: st) h Φ := by
  obtain ⟨C, T, N, h1, h2, h3, h4⟩ := hF
  exact q_getF hd hn h1 h2 h3 h4 hf ho hz kk
theorem g_put {ci idx k t : Nat} {r z kz : Int} (hd : dcd Y.2.1 pc = some (.putfield idx, n)) (hn : n = pc + 3) (hF : FldP Y.1 idx ci k t) (hk : (k : Int) = kz) (hz : (t = 0 → in32 z) ∧ (t = 1 → in64 z) → canT (fty ci k) z) (ho : okO ci r = true) (kk : AJ X Y R n ls st (wr h r kz z) Φ) : AJ X Y R pc ls ((t, z) :: (2, r) :: st) h Φ := by
  obtain ⟨C, T, N, h1, h2, h3, h4, h5, h6, h7⟩ := hF
  subst hk
  exact q_put hd hn h1 h2 h3 h4 h5 h6 h7 hz ho kk
theorem g_frg {ls' : List AV} (ks : List Nat) (he : frg ls ks = ls') (k : AJ X Y R pc ls' st h Φ) : AJ X Y R pc ls st h Φ := by
  subst he
  intro p l e s m args below meth c H locs cells slots Q D ad aC A lsm C hP hD hS hL cl cs ho hc1 hc2 ret
  refine k p l e s m args below meth c H locs cells slots Q D ad aC A lsm C hP hD hS ⟨hL.1, hL.2.1, by unfold frg; rw [List.length_mapIdx]; exact hL.2.2.1, fun i v hi hv => ?_⟩ (fun v hv => ?_) cs ho hc1 hc2 ret
  · unfold frg at hi
    rw [List.getElem?_mapIdx] at hi
    cases hl : ls[i]? with
    | none => rw [hl] at hi; cases hi
    | some w =>
      rw [hl] at hi
      simp only [Option.map_some, Option.some.injEq] at hi
      split at hi
      · subst hi; exact absurd hv (by decide)
      · subst hi; exact hL.2.2.2 i _ hl hv
  · obtain ⟨i, hi⟩ := List.getElem?_of_mem hv
    unfold frg at hi
    rw [List.getElem?_mapIdx] at hi
    cases hl : ls[i]? with
    | none => rw [hl] at hi; cases hi
    | some w =>
      rw [hl] at hi
      simp only [Option.map_some, Option.some.injEq] at hi
      split at hi
      · subst hi; exact ⟨fun q => (by cases q), fun q => (by cases q)⟩
      · subst hi; exact cl.at hl
theorem g_Vi {ci idx d : Nat} {y : MethodName} {Yc : MD} {vs st0 : List AV} {r0 : Int} {f : Res} {q : Int × Mem} (hd : dcd Y.2.1 pc = some (.invokevirtual idx, n)) (hn : n = pc + 3) (hM : CT X y Yc (some .int) 0 d ((2, r0) :: vs) h f) (hf : f = some q) (hF : MfV ci y Yc (some .int) vs.length) (hl : Cond.methodLink Y.1 idx y ∈ gtb) (ho : okO ci r0 = true)
    (hs : Nat.ble (cats st) 8 = true) (hR : (Nat.ble (d + 1) R.frames && Nat.ble (60 * (d + 1)) R.locals) = true) (hst : st0 = vs.reverse ++ (2, r0) :: st) (kk : AJ X Y R n ls ((0, q.1) :: st) q.2 Φ) : AJ X Y R pc ls st0 h Φ := by
  obtain ⟨⟨TT, NN, h1⟩, h2, h3, h4, h5, h6, h7⟩ := hF
  rw [Bool.and_eq_true] at hR
  refine q_callVi hd hn (hM q hf) hl h2 h3 h4 h5 h6 (decide_eq_true ⟨h7, Nat.le_of_ble_eq_true hs⟩) ⟨Nat.le_of_ble_eq_true hR.1, Nat.le_of_ble_eq_true hR.2⟩ h1 ho hst (fun z h' e => ?_)
  obtain ⟨e1, e2⟩ := e
  have e1 : some ((0 : Nat), z) = some (0, q.1) := e1
  have e3 : z = q.1 := congrArg Prod.snd (Option.some.inj e1)
  rw [e2, e3]; exact kk
theorem g_Vb {ci idx d : Nat} {y : MethodName} {Yc : MD} {vs st0 : List AV} {r0 : Int} {f : Res} {q : Int × Mem} (hd : dcd Y.2.1 pc = some (.invokevirtual idx, n)) (hn : n = pc + 3) (hM : CB X y Yc d ((2, r0) :: vs) h f) (hf : f = some q) (hF : MfV ci y Yc (some .boolean) vs.length) (hl : Cond.methodLink Y.1 idx y ∈ gtb) (ho : okO ci r0 = true)
    (hs : Nat.ble (cats st) 8 = true) (hR : (Nat.ble (d + 1) R.frames && Nat.ble (60 * (d + 1)) R.locals) = true) (hst : st0 = vs.reverse ++ (2, r0) :: st) (kk : (q.1 = 0 ∨ q.1 = 1) → AJ X Y R n ls ((0, q.1) :: st) q.2 Φ) : AJ X Y R pc ls st0 h Φ := by
  obtain ⟨⟨TT, NN, h1⟩, h2, h3, h4, h5, h6, h7⟩ := hF
  rw [Bool.and_eq_true] at hR
  refine q_callVi hd hn (hM q hf) hl h2 h3 h4 h5 h6 (decide_eq_true ⟨h7, Nat.le_of_ble_eq_true hs⟩) ⟨Nat.le_of_ble_eq_true hR.1, Nat.le_of_ble_eq_true hR.2⟩ h1 ho hst (fun z h' e => ?_)
  obtain ⟨e1, e2, e4⟩ := e
  have e1 : some ((0 : Nat), z) = some (0, q.1) := e1
  have e3 : z = q.1 := congrArg Prod.snd (Option.some.inj e1)
  rw [e2, e3]; exact kk e4
theorem g_Vl {ci idx d : Nat} {y : MethodName} {Yc : MD} {vs st0 : List AV} {r0 : Int} {f : Res} {q : Int × Mem} (hd : dcd Y.2.1 pc = some (.invokevirtual idx, n)) (hn : n = pc + 3) (hM : CT X y Yc (some .long) 1 d ((2, r0) :: vs) h f) (hf : f = some q) (hF : MfV ci y Yc (some .long) vs.length) (hl : Cond.methodLink Y.1 idx y ∈ gtb) (ho : okO ci r0 = true)
    (hs : Nat.ble (cats st) 8 = true) (hR : (Nat.ble (d + 1) R.frames && Nat.ble (60 * (d + 1)) R.locals) = true) (hst : st0 = vs.reverse ++ (2, r0) :: st) (kk : AJ X Y R n ls ((1, q.1) :: st) q.2 Φ) : AJ X Y R pc ls st0 h Φ := by
  obtain ⟨⟨TT, NN, h1⟩, h2, h3, h4, h5, h6, h7⟩ := hF
  rw [Bool.and_eq_true] at hR
  refine q_callVl hd hn (hM q hf) hl h2 h3 h4 h5 h6 (decide_eq_true ⟨h7, Nat.le_of_ble_eq_true hs⟩) ⟨Nat.le_of_ble_eq_true hR.1, Nat.le_of_ble_eq_true hR.2⟩ h1 ho hst (fun z h' e => ?_)
  obtain ⟨e1, e2⟩ := e
  have e1 : some ((1 : Nat), z) = some (1, q.1) := e1
  have e3 : z = q.1 := congrArg Prod.snd (Option.some.inj e1)
  rw [e2, e3]; exact kk
theorem g_Vv {ci idx d : Nat} {y : MethodName} {Yc : MD} {vs st0 : List AV} {r0 : Int} {f : Res} {q : Int × Mem} (hd : dcd Y.2.1 pc = some (.invokevirtual idx, n)) (hn : n = pc + 3) (hM : CT X y Yc none 9 d ((2, r0) :: vs) h f) (hf : f = some q) (hF : MfV ci y Yc none vs.length) (hl : Cond.methodLink Y.1 idx y ∈ gtb) (ho : okO ci r0 = true)
    (hs : Nat.ble (cats st) 8 = true) (hR : (Nat.ble (d + 1) R.frames && Nat.ble (60 * (d + 1)) R.locals) = true) (hst : st0 = vs.reverse ++ (2, r0) :: st) (kk : AJ X Y R n ls st q.2 Φ) : AJ X Y R pc ls st0 h Φ := by
  obtain ⟨⟨TT, NN, h1⟩, h2, h3, h4, h5, h6, h7⟩ := hF
  rw [Bool.and_eq_true] at hR
  refine q_callVv hd hn (hM q hf) hl h2 h3 h4 h5 h6 (decide_eq_true ⟨h7, Nat.le_of_ble_eq_true hs⟩) ⟨Nat.le_of_ble_eq_true hR.1, Nat.le_of_ble_eq_true hR.2⟩ h1 ho hst (fun h' e => ?_)
  rw [e.2]; exact kk
theorem g_Si {idx d : Nat} {y : MethodName} {Yc : MD} {vs st0 : List AV} {f : Res} {q : Int × Mem} (hd : dcd Y.2.1 pc = some (.invokestatic idx, n)) (hn : n = pc + 3) (hM : CT X y Yc (some .int) 0 d vs h f) (hf : f = some q) (hF : MfS y Yc (some .int) vs.length) (hl : Cond.methodLink Y.1 idx y ∈ gtb)
    (hs : Nat.ble (cats st) 8 = true) (hR : (Nat.ble (d + 1) R.frames && Nat.ble (60 * (d + 1)) R.locals) = true) (hst : st0 = vs.reverse ++ st) (kk : AJ X Y R n ls ((0, q.1) :: st) q.2 Φ) : AJ X Y R pc ls st0 h Φ := by
  obtain ⟨h2, h4, h5, h6, h7⟩ := hF
  rw [Bool.and_eq_true] at hR
  refine q_callSi hd hn (hM q hf) hl h2 h4 h5 h6 (decide_eq_true ⟨h7, Nat.le_of_ble_eq_true hs⟩) ⟨Nat.le_of_ble_eq_true hR.1, Nat.le_of_ble_eq_true hR.2⟩ hst (fun z h' e => ?_)
  obtain ⟨e1, e2⟩ := e
  have e1 : some ((0 : Nat), z) = some (0, q.1) := e1
  have e3 : z = q.1 := congrArg Prod.snd (Option.some.inj e1)
  rw [e2, e3]; exact kk
theorem g_Sb {idx d : Nat} {y : MethodName} {Yc : MD} {vs st0 : List AV} {f : Res} {q : Int × Mem} (hd : dcd Y.2.1 pc = some (.invokestatic idx, n)) (hn : n = pc + 3) (hM : CB X y Yc d vs h f) (hf : f = some q) (hF : MfS y Yc (some .boolean) vs.length) (hl : Cond.methodLink Y.1 idx y ∈ gtb)
    (hs : Nat.ble (cats st) 8 = true) (hR : (Nat.ble (d + 1) R.frames && Nat.ble (60 * (d + 1)) R.locals) = true) (hst : st0 = vs.reverse ++ st) (kk : (q.1 = 0 ∨ q.1 = 1) → AJ X Y R n ls ((0, q.1) :: st) q.2 Φ) : AJ X Y R pc ls st0 h Φ := by
  obtain ⟨h2, h4, h5, h6, h7⟩ := hF
  rw [Bool.and_eq_true] at hR
  refine q_callSi hd hn (hM q hf) hl h2 h4 h5 h6 (decide_eq_true ⟨h7, Nat.le_of_ble_eq_true hs⟩) ⟨Nat.le_of_ble_eq_true hR.1, Nat.le_of_ble_eq_true hR.2⟩ hst (fun z h' e => ?_)
  obtain ⟨e1, e2, e4⟩ := e
  have e1 : some ((0 : Nat), z) = some (0, q.1) := e1
  have e3 : z = q.1 := congrArg Prod.snd (Option.some.inj e1)
  rw [e2, e3]; exact kk e4
theorem g_Sl {idx d : Nat} {y : MethodName} {Yc : MD} {vs st0 : List AV} {f : Res} {q : Int × Mem} (hd : dcd Y.2.1 pc = some (.invokestatic idx, n)) (hn : n = pc + 3) (hM : CT X y Yc (some .long) 1 d vs h f) (hf : f = some q) (hF : MfS y Yc (some .long) vs.length) (hl : Cond.methodLink Y.1 idx y ∈ gtb)
    (hs : Nat.ble (cats st) 8 = true) (hR : (Nat.ble (d + 1) R.frames && Nat.ble (60 * (d + 1)) R.locals) = true) (hst : st0 = vs.reverse ++ st) (kk : AJ X Y R n ls ((1, q.1) :: st) q.2 Φ) : AJ X Y R pc ls st0 h Φ := by
  obtain ⟨h2, h4, h5, h6, h7⟩ := hF
  rw [Bool.and_eq_true] at hR
  refine q_callSl hd hn (hM q hf) hl h2 h4 h5 h6 (decide_eq_true ⟨h7, Nat.le_of_ble_eq_true hs⟩) ⟨Nat.le_of_ble_eq_true hR.1, Nat.le_of_ble_eq_true hR.2⟩ hst (fun z h' e => ?_)
  obtain ⟨e1, e2⟩ := e
  have e1 : some ((1 : Nat), z) = some (1, q.1) := e1
  have e3 : z = q.1 := congrArg Prod.snd (Option.some.inj e1)
  rw [e2, e3]; exact kk
/-- returns: the program's answer is what the walk answers -/
theorem g_ireturn {x : Int} {r : Int × Mem} (hd : dcd Y.2.1 pc = some (.ireturn, n)) (hn : n = pc + 1) (hf : some (x, h) = some r) : AJ X Y R pc ls [(0, x)] h (PH 0 r) := by
  cases hf; exact q_ireturn hd hn ⟨rfl, rfl⟩
theorem g_breturn {x : Int} {r : Int × Mem} (hd : dcd Y.2.1 pc = some (.ireturn, n)) (hn : n = pc + 1) (hb : x = 0 ∨ x = 1) (hf : some (x, h) = some r) : AJ X Y R pc ls [(0, x)] h (PB r) := by
  cases hf; exact q_ireturn hd hn ⟨rfl, rfl, hb⟩
theorem g_lreturn {x : Int} {r : Int × Mem} (hd : dcd Y.2.1 pc = some (.lreturn, n)) (hn : n = pc + 1) (hf : some (x, h) = some r) : AJ X Y R pc ls [(1, x)] h (PH 1 r) := by
  cases hf; exact q_lreturn hd hn ⟨rfl, rfl⟩
theorem g_return {r : Int × Mem} (hd : dcd Y.2.1 pc = some (.return_, n)) (hn : n = pc + 1) (hf : some ((0 : Int), h) = some r) : AJ X Y R pc ls [] h (PH 9 r) := by
  cases hf; exact q_return hd hn ⟨rfl, rfl⟩
/-- switches -/
theorem g_tsw {x c lo hi dflt off : Int} {offs : Array Int} {tgt len : Nat} (hd : dcd Y.2.1 pc = some (.tableswitch dflt lo hi offs, n)) (hx : x = c) (h1 : decide (lo ≤ c ∧ c ≤ hi) = true) (ho : offs[(c - lo).toNat]? = some off) (ht : (pc : Int) + off = (tgt : Int)) (k : AJ X Y R tgt ls st h Φ) : AJ X Y R pc ls ((0, x) :: st) h Φ := by
  obtain ⟨len, hd1, -⟩ := dcd_ok hd
  have h1 := of_decide_eq_true h1
  subst hx
  exact AJ.op (fun p l e s m args below meth c H locs cells slots Q D ad aC A lsm C hS hL cl cs _ _ K => lv_tableIn C.1 C.2.1 hd1 (by rw [n_id32 cs.i1]; omega) (by rw [n_id32 cs.i1]; omega) (by rw [n_id32 cs.i1]; exact ho) ht K) (fun _ cs => cs.tl) k
theorem g_tswD {x lo hi dflt : Int} {offs : Array Int} {tgt : Nat} (hd : dcd Y.2.1 pc = some (.tableswitch dflt lo hi offs, n)) (h1 : x < lo ∨ hi < x) (ht : (pc : Int) + dflt = (tgt : Int)) (k : AJ X Y R tgt ls st h Φ) : AJ X Y R pc ls ((0, x) :: st) h Φ := by
  obtain ⟨len, hd1, -⟩ := dcd_ok hd
  exact AJ.op (fun p l e s m args below meth c H locs cells slots Q D ad aC A lsm C hS hL cl cs _ _ K => lv_tableOut C.1 C.2.1 hd1 (by rw [n_id32 cs.i1]; exact h1) ht K) (fun _ cs => cs.tl) k
theorem g_lsw {x dflt off : Int} {ps : Array (Int × Int)} {tgt : Nat} (hd : dcd Y.2.1 pc = some (.lookupswitch dflt ps, n)) (hp : (ps.toList.zip (ps.toList.drop 1)).all (fun (a, next) => a.1 < next.1) = true) (ho : Op.lookupswitch.offset ps.toList dflt x = off) (ht : (pc : Int) + off = (tgt : Int)) (k : AJ X Y R tgt ls st h Φ) : AJ X Y R pc ls ((0, x) :: st) h Φ := by
  obtain ⟨len, hd1, -⟩ := dcd_ok hd
  exact AJ.op (fun p l e s m args below meth c H locs cells slots Q D ad aC A lsm C hS hL cl cs _ _ K => lv_lookup C.1 C.2.1 hd1 hp (by rw [n_id32 cs.i1]; exact ho) ht K) (fun _ cs => cs.tl) k
/-- Math -/
def mxI (x y : Int) : Int := if x < y then y else x
def mnI (x y : Int) : Int := if y < x then y else x
def abI (x : Int) : Int := if 0 ≤ x then x else w32 (0 - x)
def abL (x : Int) : Int := if 0 < x then x else w64 (-x)
theorem g_max {x y : Int} {idx : Nat} (hd : dcd Y.2.1 pc = some (.invokestatic idx, n)) (hn : n = pc + 3) (hl : Cond.methodLink Y.1 idx Lib.Math.max.name ∈ gtb) (hw : Cond.static Lib.Math.max.name ∈ gtb ∧ Cond.initialized "java/lang/Math" ∈ gtb ∧ Cond.code Lib.Math.max.name Lib.Math.max.code 2 (some .int) ∈ gtb) (hs : Nat.ble (cats st) 8 = true) (hR : (Nat.ble 1 R.frames && Nat.ble 60 R.locals) = true) (k : AJ X Y R n ls ((0, mxI x y) :: st) h Φ) : AJ X Y R pc ls ((0, y) :: (0, x) :: st) h Φ := by
  subst hn
  rw [Bool.and_eq_true] at hR
  have r1 := Nat.le_of_ble_eq_true hR.1
  have r2 := Nat.le_of_ble_eq_true hR.2
  have r3 := Nat.le_of_ble_eq_true hs
  refine AJ.op (fun p l e s m args below meth c H locs cells slots Q D ad aC A lsm C hS hL cl cs c1 c2 K => va_mmax C.1 C.2.1 (C.2.2.1.trans hL.1.symm) C.2.2.2.1 (C.2.2.2.2.1 _ hl) (C.2.2.2.2.1 _ hw.1) (C.2.2.2.2.1 _ hw.2.1) (C.2.2.2.2.1 _ hw.2.2) r1 (by rw [cats_eq]; omega) c1 c2 (dcd1 hd rfl) ?_) (fun _ cs => cs.tl.tl.i (by unfold mxI; split; exact cs.i1; exact cs.tl.i1)) k
  have e1 : (if Int32.ofInt x < Int32.ofInt y then Int32.ofInt y else Int32.ofInt x) = Int32.ofInt (mxI x y) := by
    unfold mxI
    by_cases q : x < y
    · rw [if_pos ((n_lt32 cs.tl.i1 cs.i1).mpr q), if_pos q]
    · rw [if_neg (fun z => q ((n_lt32 cs.tl.i1 cs.i1).mp z)), if_neg q]
  rw [e1]; exact K
theorem g_min {x y : Int} {idx : Nat} (hd : dcd Y.2.1 pc = some (.invokestatic idx, n)) (hn : n = pc + 3) (hl : Cond.methodLink Y.1 idx Lib.Math.min.name ∈ gtb) (hw : Cond.static Lib.Math.min.name ∈ gtb ∧ Cond.initialized "java/lang/Math" ∈ gtb ∧ Cond.code Lib.Math.min.name Lib.Math.min.code 2 (some .int) ∈ gtb) (hs : Nat.ble (cats st) 8 = true) (hR : (Nat.ble 1 R.frames && Nat.ble 60 R.locals) = true) (k : AJ X Y R n ls ((0, mnI x y) :: st) h Φ) : AJ X Y R pc ls ((0, y) :: (0, x) :: st) h Φ := by
  subst hn
  rw [Bool.and_eq_true] at hR
  have r1 := Nat.le_of_ble_eq_true hR.1
  have r2 := Nat.le_of_ble_eq_true hR.2
  have r3 := Nat.le_of_ble_eq_true hs
  refine AJ.op (fun p l e s m args below meth c H locs cells slots Q D ad aC A lsm C hS hL cl cs c1 c2 K => va_mmin C.1 C.2.1 (C.2.2.1.trans hL.1.symm) C.2.2.2.1 (C.2.2.2.2.1 _ hl) (C.2.2.2.2.1 _ hw.1) (C.2.2.2.2.1 _ hw.2.1) (C.2.2.2.2.1 _ hw.2.2) r1 (by rw [cats_eq]; omega) c1 c2 (dcd1 hd rfl) ?_) (fun _ cs => cs.tl.tl.i (by unfold mnI; split; exact cs.i1; exact cs.tl.i1)) k
  have e1 : (if Int32.ofInt y < Int32.ofInt x then Int32.ofInt y else Int32.ofInt x) = Int32.ofInt (mnI x y) := by
    unfold mnI
    by_cases q : y < x
    · rw [if_pos ((n_lt32 cs.i1 cs.tl.i1).mpr q), if_pos q]
    · rw [if_neg (fun z => q ((n_lt32 cs.i1 cs.tl.i1).mp z)), if_neg q]
  rw [e1]; exact K
theorem g_abs {x : Int} {idx : Nat} (hd : dcd Y.2.1 pc = some (.invokestatic idx, n)) (hn : n = pc + 3) (hl : Cond.methodLink Y.1 idx Lib.Math.abs.name ∈ gtb) (hw : Cond.static Lib.Math.abs.name ∈ gtb ∧ Cond.initialized "java/lang/Math" ∈ gtb ∧ Cond.code Lib.Math.abs.name Lib.Math.abs.code 1 (some .int) ∈ gtb) (hs : Nat.ble (cats st) 8 = true) (hR : (Nat.ble 1 R.frames && Nat.ble 60 R.locals) = true) (k : AJ X Y R n ls ((0, abI x) :: st) h Φ) : AJ X Y R pc ls ((0, x) :: st) h Φ := by
  subst hn
  rw [Bool.and_eq_true] at hR
  have r1 := Nat.le_of_ble_eq_true hR.1
  have r2 := Nat.le_of_ble_eq_true hR.2
  have r3 := Nat.le_of_ble_eq_true hs
  refine AJ.op (fun p l e s m args below meth c H locs cells slots Q D ad aC A lsm C hS hL cl cs c1 c2 K => va_mabs C.1 C.2.1 (C.2.2.1.trans hL.1.symm) C.2.2.2.1 (C.2.2.2.2.1 _ hl) (C.2.2.2.2.1 _ hw.1) (C.2.2.2.2.1 _ hw.2.1) (C.2.2.2.2.1 _ hw.2.2) r1 (by rw [cats_eq]; omega) c1 c2 (dcd1 hd rfl) ?_) (fun _ cs => cs.tl.i (by unfold abI; split; exact cs.i1; exact w32_in _)) k
  have e1 : (if 0 ≤ Int32.ofInt x then Int32.ofInt x else 0 - Int32.ofInt x) = Int32.ofInt (abI x) := by
    unfold abI
    show (if Int32.ofInt 0 ≤ Int32.ofInt x then Int32.ofInt x else Int32.ofInt 0 - Int32.ofInt x) = _
    by_cases q : 0 ≤ x
    · rw [if_pos ((n_le32 in32_0 cs.i1).mpr q), if_pos q]
    · rw [if_neg (fun z => q ((n_le32 in32_0 cs.i1).mp z)), if_neg q]; exact n_sub 0 x
  rw [e1]; exact K
theorem g_absL {x : Int} {idx : Nat} (hd : dcd Y.2.1 pc = some (.invokestatic idx, n)) (hn : n = pc + 3) (hl : Cond.methodLink Y.1 idx Lib.MathLoose.abs_long.x ∈ gtb) (hw : Cond.static Lib.MathLoose.abs_long.x ∈ gtb ∧ Cond.initialized "java/lang/Math" ∈ gtb ∧ Cond.code Lib.MathLoose.abs_long.x Lib.MathLoose.abs_long.code 2 (some .long) ∈ gtb) (hs : Nat.ble (cats st) 8 = true) (hR : (Nat.ble 1 R.frames && Nat.ble 60 R.locals) = true) (k : AJ X Y R n ls ((1, abL x) :: st) h Φ) : AJ X Y R pc ls ((1, x) :: st) h Φ := by
  subst hn
  rw [Bool.and_eq_true] at hR
  have r1 := Nat.le_of_ble_eq_true hR.1
  have r2 := Nat.le_of_ble_eq_true hR.2
  have r3 := Nat.le_of_ble_eq_true hs
  refine AJ.op (fun p l e s m args below meth c H locs cells slots Q D ad aC A lsm C hS hL cl cs c1 c2 K => va_mabs_long C.1 C.2.1 (C.2.2.1.trans hL.1.symm) C.2.2.2.1 (C.2.2.2.2.1 _ hl) (C.2.2.2.2.1 _ hw.1) (C.2.2.2.2.1 _ hw.2.1) (C.2.2.2.2.1 _ hw.2.2) r1 (by rw [cats_eq]; omega) c1 c2 (dcd1 hd rfl) ?_) (fun _ cs => cs.tl.l (by unfold abL; split; exact cs.l1; exact w64_in _)) k
  have e1 : (if 0 < Int64.ofInt x then Int64.ofInt x else -Int64.ofInt x) = Int64.ofInt (abL x) := by
    unfold abL
    show (if Int64.ofInt 0 < Int64.ofInt x then Int64.ofInt x else -Int64.ofInt x) = _
    by_cases q : 0 < x
    · rw [if_pos ((n_lt64 in64_0 cs.l1).mpr q), if_pos q]
    · rw [if_neg (fun z => q ((n_lt64 in64_0 cs.l1).mp z)), if_neg q]; exact n_negL x
  rw [e1]; exact K
end Short
end
section
/-! what the printed walks use: which cells are of which class -/
theorem okO_ne {ci : Nat} {r : Int} (h : okO ci r = true) : ¬ r = 0 := by
  obtain ⟨N, h1, -⟩ := okO_shp h
  have := (shp_at h1).1
  omega
theorem shp_ne {r : Int} {sp : Shp} (h : shp r = some sp) : ¬ r = 0 := by
  have := (shp_at h).1
  omega
theorem sh_dec {P : Int → Shp → Prop} [∀ r sp, Decidable (P r sp)] (h : ((List.range 75).all (fun k => match SH[k]? with | some sp => decide (P ((k : Int) + 1) sp) | none => true)) = true) {r : Int} {sp : Shp} (hs : shp r = some sp) : P r sp := by
  obtain ⟨h1, h2⟩ := shp_at hs
  have hl : (r - 1).toNat < 75 := by
    have := (List.getElem?_eq_some_iff.mp h2).1
    have e : SH.length = 75 := by decide +kernel
    omega
  have h3 := List.all_eq_true.mp h (r - 1).toNat (List.mem_range.mpr hl)
  rw [h2] at h3
  have h4 := of_decide_eq_true h3
  rwa [show (((r - 1).toNat : Nat) : Int) + 1 = r by omega] at h4
theorem ok_dec {ci : Nat} {P : Int → Prop} [∀ r, Decidable (P r)] (h : ((List.range 75).all (fun k => match SH[k]? with | some sp => decide (sp.1 = ci → P ((k : Int) + 1)) | none => true)) = true) {r : Int} (ho : okO ci r = true) : P r := by
  obtain ⟨N, h1, -⟩ := okO_shp ho
  exact sh_dec (P := fun r sp => sp.1 = ci → P r) h h1 rfl
theorem sf_1_0 {r : Int} (h : okO 1 r = true) : shp (r + 1) = some (100, 9) := ok_dec (P := fun r => shp (r + 1) = some (100, 9)) (by decide +kernel) h
theorem sf_2_0 {r : Int} (h : okO 2 r = true) : shp (r + 1) = some (105, 9) := ok_dec (P := fun r => shp (r + 1) = some (105, 9)) (by decide +kernel) h
theorem sf_5_0 {r : Int} (h : okO 5 r = true) : shp (r + 1) = some (103, 7) := ok_dec (P := fun r => shp (r + 1) = some (103, 7)) (by decide +kernel) h
theorem sf_5_1 {r : Int} (h : okO 5 r = true) : shp (r + 2) = some (100, 7) := ok_dec (P := fun r => shp (r + 2) = some (100, 7)) (by decide +kernel) h
theorem ok_2 {r : Int} (h : okO 2 r = true) : r = 4 ∨ r = 15 := ok_dec (P := fun r => r = 4 ∨ r = 15) (by decide +kernel) h
theorem ok_1 {r : Int} (h : okO 1 r = true) : r = 26 ∨ r = 29 ∨ r = 31 := ok_dec (P := fun r => r = 26 ∨ r = 29 ∨ r = 31) (by decide +kernel) h
theorem ok_5 {r : Int} (h : okO 5 r = true) : r = 45 ∨ r = 48 := ok_dec (P := fun r => r = 45 ∨ r = 48) (by decide +kernel) h
theorem ok_0 {r : Int} (h : okO 0 r = true) : (6 ≤ r ∧ r ≤ 14) ∨ (17 ≤ r ∧ r ≤ 25) ∨ r = 54 := ok_dec (P := fun r => (6 ≤ r ∧ r ≤ 14) ∨ (17 ≤ r ∧ r ≤ 25) ∨ r = 54) (by decide +kernel) h
theorem ok0_of {r : Int} (h : (6 ≤ r ∧ r ≤ 14) ∨ (17 ≤ r ∧ r ≤ 25) ∨ r = 54) : okO 0 r = true := by
  have key : ((List.range 60).all (fun k => decide (((6 ≤ (k : Int) ∧ (k : Int) ≤ 14) ∨ (17 ≤ (k : Int) ∧ (k : Int) ≤ 25) ∨ (k : Int) = 54) → okO 0 (k : Int) = true))) = true := by decide +kernel
  have h1 := of_decide_eq_true (List.all_eq_true.mp key r.toNat (List.mem_range.mpr (by omega)))
  rw [show ((r.toNat : Nat) : Int) = r by omega] at h1
  exact h1 h
theorem ok_mem {c i : Int} (h : okO 2 c = true) (g : 0 ≤ i ∧ i < (9 : Nat)) : okO 0 (c + 2 + i) = true := by
  refine ok0_of ?_
  rcases ok_2 h with rfl | rfl <;> omega
theorem ok_img {i : Int} (g : 0 ≤ i ∧ i < (2 : Nat)) : okO 1 (29 + 2 * i) = true := by
  rcases (show i = 0 ∨ i = 1 by omega) with rfl | rfl <;> decide +kernel
theorem i2c_in (x : Int) : 0 ≤ i2c x ∧ i2c x < 65536 := by unfold i2c; omega
theorem lcmp_iff (x y : Int) : (lcmp x y = 0 ↔ x = y) ∧ (lcmp x y < 0 ↔ x < y) ∧ (0 < lcmp x y ↔ y < x) := by
  unfold lcmp
  split
  · omega
  · split <;> omega
theorem rm_ge {c d : Nat} (h : c + 1 ≤ d) : (Nat.ble (c + 1) (rmD d).frames && Nat.ble (60 * (c + 1)) (rmD d).locals) = true := by
  rw [Bool.and_eq_true]
  exact ⟨Nat.ble_eq.mpr h, Nat.ble_eq.mpr (by show 60 * (c + 1) ≤ 60 * d; omega)⟩
end
section
abbrev MX0_forget : MD := (RX0, cX0_forget, 1)
theorem mf_X0_forget : MfV 0 yX0_forget MX0_forget none 0 := ⟨⟨_, _, rfl⟩, gt_of 516 (by decide +kernel) (by decide +kernel), gt_of 517 (by decide +kernel) (by decide +kernel), gt_of 72 (by decide +kernel) (by decide +kernel), gt_of 518 (by decide +kernel) (by decide +kernel), by decide +kernel, by decide⟩
abbrev MX0_hates : MD := (RX0, cX0_hates, 2)
theorem mf_X0_hates : MfV 0 yX0_hates MX0_hates (some .boolean) 1 := ⟨⟨_, _, rfl⟩, gt_of 569 (by decide +kernel) (by decide +kernel), gt_of 570 (by decide +kernel) (by decide +kernel), gt_of 72 (by decide +kernel) (by decide +kernel), gt_of 571 (by decide +kernel) (by decide +kernel), by decide +kernel, by decide⟩
abbrev MX1_hasPlace : MD := (RX1, cX1_hasPlace, 2)
theorem mf_X1_hasPlace : MfV 1 yX1_hasPlace MX1_hasPlace (some .boolean) 1 := ⟨⟨_, _, rfl⟩, gt_of 609 (by decide +kernel) (by decide +kernel), gt_of 610 (by decide +kernel) (by decide +kernel), gt_of 73 (by decide +kernel) (by decide +kernel), gt_of 611 (by decide +kernel) (by decide +kernel), by decide +kernel, by decide⟩
abbrev MX1_placeOf : MD := (RX1, cX1_placeOf, 3)
theorem mf_X1_placeOf : MfV 1 yX1_placeOf MX1_placeOf (some .int) 1 := ⟨⟨_, _, rfl⟩, gt_of 589 (by decide +kernel) (by decide +kernel), gt_of 590 (by decide +kernel) (by decide +kernel), gt_of 73 (by decide +kernel) (by decide +kernel), gt_of 591 (by decide +kernel) (by decide +kernel), by decide +kernel, by decide⟩
abbrev MX1_append : MD := (RX1, cX1_append, 2)
theorem mf_X1_append : MfV 1 yX1_append MX1_append none 1 := ⟨⟨_, _, rfl⟩, gt_of 593 (by decide +kernel) (by decide +kernel), gt_of 594 (by decide +kernel) (by decide +kernel), gt_of 73 (by decide +kernel) (by decide +kernel), gt_of 595 (by decide +kernel) (by decide +kernel), by decide +kernel, by decide⟩
abbrev MX1_strip : MD := (RX1, cX1_strip, 1)
theorem mf_X1_strip : MfV 1 yX1_strip MX1_strip none 0 := ⟨⟨_, _, rfl⟩, gt_of 548 (by decide +kernel) (by decide +kernel), gt_of 549 (by decide +kernel) (by decide +kernel), gt_of 73 (by decide +kernel) (by decide +kernel), gt_of 550 (by decide +kernel) (by decide +kernel), by decide +kernel, by decide⟩
abbrev MX1_bits : MD := (RX1, cX1_bits, 3)
theorem mf_X1_bits : MfV 1 yX1_bits MX1_bits (some .int) 0 := ⟨⟨_, _, rfl⟩, gt_of 754 (by decide +kernel) (by decide +kernel), gt_of 755 (by decide +kernel) (by decide +kernel), gt_of 73 (by decide +kernel) (by decide +kernel), gt_of 756 (by decide +kernel) (by decide +kernel), by decide +kernel, by decide⟩
abbrev MX1_draw : MD := (RX1, cX1_draw, 1)
theorem mf_X1_draw : MfV 1 yX1_draw MX1_draw (some .int) 0 := ⟨⟨_, _, rfl⟩, gt_of 845 (by decide +kernel) (by decide +kernel), gt_of 846 (by decide +kernel) (by decide +kernel), gt_of 73 (by decide +kernel) (by decide +kernel), gt_of 847 (by decide +kernel) (by decide +kernel), by decide +kernel, by decide⟩
abbrev MX1_copy : MD := (RX1, cX1_copy, 3)
theorem mf_X1_copy : MfV 1 yX1_copy MX1_copy none 1 := ⟨⟨_, _, rfl⟩, gt_of 891 (by decide +kernel) (by decide +kernel), gt_of 892 (by decide +kernel) (by decide +kernel), gt_of 73 (by decide +kernel) (by decide +kernel), gt_of 893 (by decide +kernel) (by decide +kernel), by decide +kernel, by decide⟩
theorem fp_X0_43 : FldP RX0 43 0 10 0 := ⟨_, _, _, rfl, by decide, gt_of 171 (by decide +kernel) (by decide +kernel), rfl, rfl, rfl, Or.inl rfl⟩
theorem fp_X0_40 : FldP RX0 40 0 9 0 := ⟨_, _, _, rfl, by decide, gt_of 168 (by decide +kernel) (by decide +kernel), rfl, rfl, rfl, Or.inl rfl⟩
theorem fp_X0_37 : FldP RX0 37 0 8 0 := ⟨_, _, _, rfl, by decide, gt_of 164 (by decide +kernel) (by decide +kernel), rfl, rfl, rfl, Or.inl rfl⟩
theorem fp_X0_34 : FldP RX0 34 0 7 0 := ⟨_, _, _, rfl, by decide, gt_of 160 (by decide +kernel) (by decide +kernel), rfl, rfl, rfl, Or.inl rfl⟩
theorem fp_X0_31 : FldP RX0 31 0 6 0 := ⟨_, _, _, rfl, by decide, gt_of 156 (by decide +kernel) (by decide +kernel), rfl, rfl, rfl, Or.inl rfl⟩
theorem fp_X0_28 : FldP RX0 28 0 5 0 := ⟨_, _, _, rfl, by decide, gt_of 152 (by decide +kernel) (by decide +kernel), rfl, rfl, rfl, Or.inl rfl⟩
theorem fp_X0_24 : FldP RX0 24 0 4 0 := ⟨_, _, _, rfl, by decide, gt_of 148 (by decide +kernel) (by decide +kernel), rfl, rfl, rfl, Or.inr (Or.inr (Or.inl rfl))⟩
theorem fp_X0_21 : FldP RX0 21 0 3 0 := ⟨_, _, _, rfl, by decide, gt_of 144 (by decide +kernel) (by decide +kernel), rfl, rfl, rfl, Or.inl rfl⟩
theorem fp_X0_18 : FldP RX0 18 0 2 0 := ⟨_, _, _, rfl, by decide, gt_of 140 (by decide +kernel) (by decide +kernel), rfl, rfl, rfl, Or.inl rfl⟩
theorem fp_X0_15 : FldP RX0 15 0 1 0 := ⟨_, _, _, rfl, by decide, gt_of 136 (by decide +kernel) (by decide +kernel), rfl, rfl, rfl, Or.inl rfl⟩
theorem fg_X0_43 : Fld RX0 43 0 10 0 := ⟨_, _, _, rfl, by decide, gt_of 171 (by decide +kernel) (by decide +kernel), rfl⟩
theorem fg_X1_15 : Fld RX1 15 1 1 0 := ⟨_, _, _, rfl, by decide, gt_of 214 (by decide +kernel) (by decide +kernel), rfl⟩
theorem fg_X1_9 : Fld RX1 9 1 0 2 := ⟨_, _, _, rfl, by decide, gt_of 212 (by decide +kernel) (by decide +kernel), rfl⟩
theorem fp_X1_15 : FldP RX1 15 1 1 0 := ⟨_, _, _, rfl, by decide, gt_of 214 (by decide +kernel) (by decide +kernel), rfl, rfl, rfl, Or.inl rfl⟩
theorem fp_X1_19 : FldP RX1 19 1 2 0 := ⟨_, _, _, rfl, by decide, gt_of 216 (by decide +kernel) (by decide +kernel), rfl, rfl, rfl, Or.inl rfl⟩
theorem fg_X1_22 : Fld RX1 22 1 3 0 := ⟨_, _, _, rfl, by decide, gt_of 219 (by decide +kernel) (by decide +kernel), rfl⟩
theorem kc_X1_25 : Cond.constant RX1 25 (1103515245) ∈ gtb := gt_of 848 (by decide +kernel) (by decide +kernel)
theorem fp_X1_22 : FldP RX1 22 1 3 0 := ⟨_, _, _, rfl, by decide, gt_of 219 (by decide +kernel) (by decide +kernel), rfl, rfl, rfl, Or.inl rfl⟩
theorem fg_X1_19 : Fld RX1 19 1 2 0 := ⟨_, _, _, rfl, by decide, gt_of 216 (by decide +kernel) (by decide +kernel), rfl⟩
def F_X0_forget (o0 : Int) (h : Mem) : Res := nm (wr h o0 1 0) (fun (h_1 : Mem) => nm (wr h_1 o0 2 0) (fun (h_2 : Mem) => nm (wr h_2 o0 3 0) (fun (h_3 : Mem) => nm (wr h_3 o0 4 0) (fun (h_4 : Mem) => nm (wr h_4 o0 5 0) (fun (h_5 : Mem) => nm (wr h_5 o0 6 0) (fun (h_6 : Mem) => nm (wr h_6 o0 7 0) (fun (h_7 : Mem) => nm (wr h_7 o0 8 0) (fun (h_8 : Mem) => nm (wr h_8 o0 9 0) (fun (h_9 : Mem) => nm (wr h_9 o0 10 0) (fun (h_10 : Mem) => some (0, h_10)))))))))))
def F_X0_hates (o0 other_0 : Int) (h : Mem) : Res := if ((iand (ishr (h o0 10) other_0) 1) = 1) then (some (1, h)) else (some (0, h))
def F_X1_hasPlace (o0 p_0 : Int) (h : Mem) : Res := if ((0 ≤ p_0) ∧ (p_0 < (h o0 1))) then (some (1, h)) else (some (0, h))
def L_X1_placeOf_1 (i_0 o0 : Int) (Kx : Int → Mem → Res) : Nat → Int → Mem → Res
  | 0, _, _ => none
  | n + 1, p_2, h_1 => if (p_2 < (h_1 o0 1)) then (gd (0 ≤ p_2 ∧ p_2 < 9) (if ((h_1 (o0 + 1) p_2) = i_0) then (some (p_2, h_1)) else (nm (w32 (p_2 + 1)) (fun p_5 => L_X1_placeOf_1 i_0 o0 Kx n p_5 h_1)))) else (Kx p_2 h_1)
def F_X1_placeOf (o0 i_0 : Int) (h : Mem) : Res := L_X1_placeOf_1 i_0 o0 (fun p_8 (h_7 : Mem) => some ((-9), h_7)) FU 0 h
def F_X1_append (o0 i_0 : Int) (h : Mem) : Res := if ((h o0 1) < 9) then (gd (0 ≤ (h o0 1) ∧ (h o0 1) < 9) (nm (wr h (o0 + 1) (h o0 1) i_0) (fun (h_2 : Mem) => nm (wr h_2 o0 1 (w32 ((h_2 o0 1) + 1))) (fun (h_3 : Mem) => some (0, h_3))))) else (some (0, h))
def F_X1_strip (o0 : Int) (h : Mem) : Res := nm (wr h o0 1 0) (fun (h_1 : Mem) => nm (wr h_1 o0 2 0) (fun (h_2 : Mem) => some (0, h_2)))
def L_X1_bits_1 (o0 : Int) (Kx : Int → Int → Mem → Res) : Nat → Int → Int → Mem → Res
  | 0, _, _, _ => none
  | n + 1, bits_2, p_3, h_1 => if (p_3 < (h_1 o0 1)) then (gd (0 ≤ p_3 ∧ p_3 < 9) (nm (ior bits_2 (ishl 1 (h_1 (o0 + 1) p_3))) (fun bits_5 => nm (w32 (p_3 + 1)) (fun p_6 => L_X1_bits_1 o0 Kx n bits_5 p_6 h_1)))) else (Kx bits_2 p_3 h_1)
def F_X1_bits (o0 : Int) (h : Mem) : Res := L_X1_bits_1 o0 (fun bits_9 p_10 (h_8 : Mem) => some (bits_9, h_8)) FU 0 0 h
def F_X1_draw (o0 : Int) (h : Mem) : Res := nm (wr h o0 3 (w32 ((w32 ((h o0 3) * 1103515245)) + 12345))) (fun (h_1 : Mem) => some (irm (iushr (h_1 o0 3) 16) 5, h_1))
def L_X1_copy_1 (other_0 o0 : Int) (Kx : Int → Mem → Res) : Nat → Int → Mem → Res
  | 0, _, _ => none
  | n + 1, p_2, h_1 => if (p_2 < (h_1 other_0 1)) then (gd (0 ≤ p_2 ∧ p_2 < 9) (nm (wr h_1 (o0 + 1) p_2 (h_1 (other_0 + 1) p_2)) (fun (h_4 : Mem) => nm (w32 (p_2 + 1)) (fun p_5 => L_X1_copy_1 other_0 o0 Kx n p_5 h_4)))) else (Kx p_2 h_1)
def F_X1_copy (o0 other_0 : Int) (h : Mem) : Res := L_X1_copy_1 other_0 o0 (fun p_8 (h_7 : Mem) => nm (wr h_7 o0 1 (h_7 other_0 1)) (fun (h_9 : Mem) => nm (wr h_9 o0 2 (h_9 other_0 2)) (fun (h_10 : Mem) => nm (wr h_10 o0 3 (h_10 other_0 3)) (fun (h_11 : Mem) => some (0, h_11))))) FU 0 h
theorem S_X0_forget (X : XS) (o0 : Int) (o_o0 : okO 0 o0 = true) (h : Mem) : CT X yX0_forget MX0_forget none 9 0 [(2, o0)] h (F_X0_forget o0 h) := by
  refine CT.ofV (by decide) rfl (Nat.le_of_ble_eq_true rfl) (fun r hf => ?_)
  unfold F_X0_forget at hf
  show AJ X MX0_forget (rmD 0) 0 [(2, o0)] [] h (PH 9 r)
  refine q_aload_n dX0_forget_0 rfl rfl ?_
  refine q_iconst dX0_forget_1 rfl rfl ?_
  refine g_put (k := 1) (kz := 1) dX0_forget_2 rfl fp_X0_15 rfl (fun q => q.1 rfl) o_o0 ?_
  obtain ⟨h_1, e_h_1, hf⟩ := nm_ex hf
  rw [← e_h_1]
  refine q_aload_n dX0_forget_5 rfl rfl ?_
  refine q_iconst dX0_forget_6 rfl rfl ?_
  refine g_put (k := 2) (kz := 2) dX0_forget_7 rfl fp_X0_18 rfl (fun q => q.1 rfl) o_o0 ?_
  obtain ⟨h_2, e_h_2, hf⟩ := nm_ex hf
  rw [← e_h_2]
  refine q_aload_n dX0_forget_10 rfl rfl ?_
  refine q_iconst dX0_forget_11 rfl rfl ?_
  refine g_put (k := 3) (kz := 3) dX0_forget_12 rfl fp_X0_21 rfl (fun q => q.1 rfl) o_o0 ?_
  obtain ⟨h_3, e_h_3, hf⟩ := nm_ex hf
  rw [← e_h_3]
  refine q_aload_n dX0_forget_15 rfl rfl ?_
  refine q_iconst dX0_forget_16 rfl rfl ?_
  refine g_put (k := 4) (kz := 4) dX0_forget_17 rfl fp_X0_24 rfl (fun _ => Or.inl rfl) o_o0 ?_
  obtain ⟨h_4, e_h_4, hf⟩ := nm_ex hf
  rw [← e_h_4]
  refine q_aload_n dX0_forget_20 rfl rfl ?_
  refine q_iconst dX0_forget_21 rfl rfl ?_
  refine g_put (k := 5) (kz := 5) dX0_forget_22 rfl fp_X0_28 rfl (fun q => q.1 rfl) o_o0 ?_
  obtain ⟨h_5, e_h_5, hf⟩ := nm_ex hf
  rw [← e_h_5]
  refine q_aload_n dX0_forget_25 rfl rfl ?_
  refine q_iconst dX0_forget_26 rfl rfl ?_
  refine g_put (k := 6) (kz := 6) dX0_forget_27 rfl fp_X0_31 rfl (fun q => q.1 rfl) o_o0 ?_
  obtain ⟨h_6, e_h_6, hf⟩ := nm_ex hf
  rw [← e_h_6]
  refine q_aload_n dX0_forget_30 rfl rfl ?_
  refine q_iconst dX0_forget_31 rfl rfl ?_
  refine g_put (k := 7) (kz := 7) dX0_forget_32 rfl fp_X0_34 rfl (fun q => q.1 rfl) o_o0 ?_
  obtain ⟨h_7, e_h_7, hf⟩ := nm_ex hf
  rw [← e_h_7]
  refine q_aload_n dX0_forget_35 rfl rfl ?_
  refine q_iconst dX0_forget_36 rfl rfl ?_
  refine g_put (k := 8) (kz := 8) dX0_forget_37 rfl fp_X0_37 rfl (fun q => q.1 rfl) o_o0 ?_
  obtain ⟨h_8, e_h_8, hf⟩ := nm_ex hf
  rw [← e_h_8]
  refine q_aload_n dX0_forget_40 rfl rfl ?_
  refine q_iconst dX0_forget_41 rfl rfl ?_
  refine g_put (k := 9) (kz := 9) dX0_forget_42 rfl fp_X0_40 rfl (fun q => q.1 rfl) o_o0 ?_
  obtain ⟨h_9, e_h_9, hf⟩ := nm_ex hf
  rw [← e_h_9]
  refine q_aload_n dX0_forget_45 rfl rfl ?_
  refine q_iconst dX0_forget_46 rfl rfl ?_
  refine g_put (k := 10) (kz := 10) dX0_forget_47 rfl fp_X0_43 rfl (fun q => q.1 rfl) o_o0 ?_
  obtain ⟨h_10, e_h_10, hf⟩ := nm_ex hf
  rw [← e_h_10]
  exact g_return dX0_forget_50 rfl hf
theorem S_X0_hates (X : XS) (o0 : Int) (o_o0 : okO 0 o0 = true) (other_0 : Int) (h : Mem) : CB X yX0_hates MX0_hates 0 [(2, o0), (0, other_0)] h (F_X0_hates o0 other_0 h) := by
  refine CB.of (by decide) rfl (Nat.le_of_ble_eq_true rfl) (fun r hf => ?_)
  unfold F_X0_hates at hf
  show AJ X MX0_hates (rmD 0) 0 [(2, o0), (0, other_0)] [] h (PB r)
  refine q_aload_n dX0_hates_0 rfl rfl ?_
  refine g_get (k := 10) (kz := 10) dX0_hates_1 rfl fg_X0_43 rfl o_o0 ?_
  refine q_iload_n dX0_hates_4 rfl rfl ?_
  refine q_ishr dX0_hates_5 rfl ?_
  refine q_iconst dX0_hates_6 rfl rfl ?_
  refine q_iand dX0_hates_7 rfl ?_
  refine q_iconst dX0_hates_8 rfl rfl ?_
  refine q_icmp_ne (tgt := 16) dX0_hates_9 rfl (by decide) (fun c_1 => ?_) (fun c_1 => ?_)
  · replace hf := it_f hf (by omega)
    refine q_iconst dX0_hates_16 rfl rfl ?_
    exact g_breturn dX0_hates_17 rfl (Or.inl rfl) hf
  · replace hf := it_t hf (by omega)
    refine q_iconst dX0_hates_12 rfl rfl ?_
    refine q_goto (tgt := 17) dX0_hates_13 rfl (by decide) ?_
    exact g_breturn dX0_hates_17 rfl (Or.inr rfl) hf
theorem S_X1_hasPlace (X : XS) (o0 : Int) (o_o0 : okO 1 o0 = true) (p_0 : Int) (h : Mem) : CB X yX1_hasPlace MX1_hasPlace 0 [(2, o0), (0, p_0)] h (F_X1_hasPlace o0 p_0 h) := by
  refine CB.of (by decide) rfl (Nat.le_of_ble_eq_true rfl) (fun r hf => ?_)
  unfold F_X1_hasPlace at hf
  show AJ X MX1_hasPlace (rmD 0) 0 [(2, o0), (0, p_0)] [] h (PB r)
  have HF_1 : ¬ ((0 ≤ p_0) ∧ (p_0 < (h o0 1))) → AJ X MX1_hasPlace (rmD 0) 16 [(2, o0), (0, p_0)] [] h (PB r) := by
    intro hc
    replace hf := it_f hf hc
    refine q_iconst dX1_hasPlace_16 rfl rfl ?_
    exact g_breturn dX1_hasPlace_17 rfl (Or.inl rfl) hf
  refine q_iload_n dX1_hasPlace_0 rfl rfl ?_
  refine q_if_lt (tgt := 16) dX1_hasPlace_1 rfl (by decide) (fun c_2 => ?_) (fun c_2 => ?_)
  · exact HF_1 (by omega)
  · refine q_iload_n dX1_hasPlace_4 rfl rfl ?_
    refine q_aload_n dX1_hasPlace_5 rfl rfl ?_
    refine g_get (k := 1) (kz := 1) dX1_hasPlace_6 rfl fg_X1_15 rfl o_o0 ?_
    refine q_icmp_ge (tgt := 16) dX1_hasPlace_9 rfl (by decide) (fun c_3 => ?_) (fun c_3 => ?_)
    · exact HF_1 (by omega)
    · replace hf := it_t hf (by omega)
      refine q_iconst dX1_hasPlace_12 rfl rfl ?_
      refine q_goto (tgt := 17) dX1_hasPlace_13 rfl (by decide) ?_
      exact g_breturn dX1_hasPlace_17 rfl (Or.inr rfl) hf
theorem SL_X1_placeOf_1 (X : XS) (i_0 o0 : Int) (o_o0 : okO 1 o0 = true) (Kx : Int → Mem → Res) {r : Int × Mem} (hK : ∀ (p_2 : Int) (h_1 : Mem), Kx p_2 h_1 = some r → AJ X MX1_placeOf (rmD 0) 28 [(2, o0), (0, i_0), (0, p_2)] [] h_1 (PH 0 r)) :
    ∀ (n : Nat) (p_2 : Int) (h_1 : Mem), L_X1_placeOf_1 i_0 o0 Kx n p_2 h_1 = some r → AJ X MX1_placeOf (rmD 0) 2 [(2, o0), (0, i_0), (0, p_2)] [] h_1 (PH 0 r) := by
  intro n
  induction n with
  | zero => intro p_2 h_1 hf; cases hf
  | succ n ih =>
    intro p_2 h_1 hf
    rw [L_X1_placeOf_1] at hf
    refine q_iload_n dX1_placeOf_2 rfl rfl ?_
    refine q_aload_n dX1_placeOf_3 rfl rfl ?_
    refine g_get (k := 1) (kz := 1) dX1_placeOf_4 rfl fg_X1_15 rfl o_o0 ?_
    refine q_icmp_ge (tgt := 28) dX1_placeOf_7 rfl (by decide) (fun c_6 => ?_) (fun c_6 => ?_)
    · replace hf := it_f hf (by omega)
      exact hK _ _ hf
    · replace hf := it_t hf (by omega)
      refine q_aload_n dX1_placeOf_10 rfl rfl ?_
      refine g_getF (k := 0) (o := 1) dX1_placeOf_11 rfl fg_X1_9 rfl o_o0 rfl ?_
      refine q_iload_n dX1_placeOf_14 rfl rfl ?_
      obtain ⟨g_3, hf⟩ := gd_ex hf
      refine q_iaload dX1_placeOf_15 rfl (sf_1_0 o_o0) g_3 ?_
      refine q_iload_n dX1_placeOf_16 rfl rfl ?_
      refine q_icmp_ne (tgt := 22) dX1_placeOf_17 rfl (by decide) (fun c_4 => ?_) (fun c_4 => ?_)
      · replace hf := it_f hf (by omega)
        refine q_iinc (ls' := [(2, o0), (0, i_0), (0, w32 (p_2 + 1))]) dX1_placeOf_22 rfl rfl rfl ?_
        obtain ⟨p_5, e_p_5, hf⟩ := nm_ex hf
        rw [← e_p_5]
        refine q_goto (tgt := 2) dX1_placeOf_25 rfl (by decide) ?_
        exact ih _ _ hf
      · replace hf := it_t hf (by omega)
        refine q_iload_n dX1_placeOf_20 rfl rfl ?_
        exact g_ireturn dX1_placeOf_21 rfl hf
theorem S_X1_placeOf (X : XS) (o0 : Int) (o_o0 : okO 1 o0 = true) (i_0 : Int) (h : Mem) : CT X yX1_placeOf MX1_placeOf (some .int) 0 0 [(2, o0), (0, i_0)] h (F_X1_placeOf o0 i_0 h) := by
  refine CT.ofI (by decide) rfl (Nat.le_of_ble_eq_true rfl) (fun r hf => ?_)
  unfold F_X1_placeOf at hf
  show AJ X MX1_placeOf (rmD 0) 0 [(2, o0), (0, i_0), (3, 0)] [] h (PH 0 r)
  refine q_iconst dX1_placeOf_0 rfl rfl ?_
  refine q_istore_n (ls' := [(2, o0), (0, i_0), (0, 0)]) dX1_placeOf_1 rfl rfl (Nat.le_of_ble_eq_true rfl) rfl ?_
  refine SL_X1_placeOf_1 X i_0 o0 o_o0 _ (fun p_8 h_7 hf => ?_) FU _ _ hf
  refine q_bipush dX1_placeOf_28 rfl (by decide) ?_
  exact g_ireturn dX1_placeOf_30 rfl hf
theorem S_X1_append (X : XS) (o0 : Int) (o_o0 : okO 1 o0 = true) (i_0 : Int) (h : Mem) : CT X yX1_append MX1_append none 9 0 [(2, o0), (0, i_0)] h (F_X1_append o0 i_0 h) := by
  refine CT.ofV (by decide) rfl (Nat.le_of_ble_eq_true rfl) (fun r hf => ?_)
  unfold F_X1_append at hf
  show AJ X MX1_append (rmD 0) 0 [(2, o0), (0, i_0)] [] h (PH 9 r)
  refine q_aload_n dX1_append_0 rfl rfl ?_
  refine g_get (k := 1) (kz := 1) dX1_append_1 rfl fg_X1_15 rfl o_o0 ?_
  refine q_bipush dX1_append_4 rfl (by decide) ?_
  refine q_icmp_ge (tgt := 29) dX1_append_6 rfl (by decide) (fun c_4 => ?_) (fun c_4 => ?_)
  · replace hf := it_f hf (by omega)
    exact g_return dX1_append_29 rfl hf
  · replace hf := it_t hf (by omega)
    refine q_aload_n dX1_append_9 rfl rfl ?_
    refine g_getF (k := 0) (o := 1) dX1_append_10 rfl fg_X1_9 rfl o_o0 rfl ?_
    refine q_aload_n dX1_append_13 rfl rfl ?_
    refine g_get (k := 1) (kz := 1) dX1_append_14 rfl fg_X1_15 rfl o_o0 ?_
    refine q_iload_n dX1_append_17 rfl rfl ?_
    obtain ⟨g_1, hf⟩ := gd_ex hf
    refine q_iastore dX1_append_18 rfl (sf_1_0 o_o0) g_1 ?_
    obtain ⟨h_2, e_h_2, hf⟩ := nm_ex hf
    rw [← e_h_2]
    refine q_aload_n dX1_append_19 rfl rfl ?_
    refine q_dup dX1_append_20 rfl (by decide) ?_
    refine g_get (k := 1) (kz := 1) dX1_append_21 rfl fg_X1_15 rfl o_o0 ?_
    refine q_iconst dX1_append_24 rfl rfl ?_
    refine q_iadd dX1_append_25 rfl ?_
    refine g_put (k := 1) (kz := 1) dX1_append_26 rfl fp_X1_15 rfl (fun q => q.1 rfl) o_o0 ?_
    obtain ⟨h_3, e_h_3, hf⟩ := nm_ex hf
    rw [← e_h_3]
    exact g_return dX1_append_29 rfl hf
theorem S_X1_strip (X : XS) (o0 : Int) (o_o0 : okO 1 o0 = true) (h : Mem) : CT X yX1_strip MX1_strip none 9 0 [(2, o0)] h (F_X1_strip o0 h) := by
  refine CT.ofV (by decide) rfl (Nat.le_of_ble_eq_true rfl) (fun r hf => ?_)
  unfold F_X1_strip at hf
  show AJ X MX1_strip (rmD 0) 0 [(2, o0)] [] h (PH 9 r)
  refine q_aload_n dX1_strip_0 rfl rfl ?_
  refine q_iconst dX1_strip_1 rfl rfl ?_
  refine g_put (k := 1) (kz := 1) dX1_strip_2 rfl fp_X1_15 rfl (fun q => q.1 rfl) o_o0 ?_
  obtain ⟨h_1, e_h_1, hf⟩ := nm_ex hf
  rw [← e_h_1]
  refine q_aload_n dX1_strip_5 rfl rfl ?_
  refine q_iconst dX1_strip_6 rfl rfl ?_
  refine g_put (k := 2) (kz := 2) dX1_strip_7 rfl fp_X1_19 rfl (fun q => q.1 rfl) o_o0 ?_
  obtain ⟨h_2, e_h_2, hf⟩ := nm_ex hf
  rw [← e_h_2]
  exact g_return dX1_strip_10 rfl hf
theorem SL_X1_bits_1 (X : XS) (o0 : Int) (o_o0 : okO 1 o0 = true) (Kx : Int → Int → Mem → Res) {r : Int × Mem} (hK : ∀ (bits_2 p_3 : Int) (h_1 : Mem), Kx bits_2 p_3 h_1 = some r → AJ X MX1_bits (rmD 0) 29 [(2, o0), (0, bits_2), (0, p_3)] [] h_1 (PH 0 r)) :
    ∀ (n : Nat) (bits_2 p_3 : Int) (h_1 : Mem), L_X1_bits_1 o0 Kx n bits_2 p_3 h_1 = some r → AJ X MX1_bits (rmD 0) 4 [(2, o0), (0, bits_2), (0, p_3)] [] h_1 (PH 0 r) := by
  intro n
  induction n with
  | zero => intro bits_2 p_3 h_1 hf; cases hf
  | succ n ih =>
    intro bits_2 p_3 h_1 hf
    rw [L_X1_bits_1] at hf
    refine q_iload_n dX1_bits_4 rfl rfl ?_
    refine q_aload_n dX1_bits_5 rfl rfl ?_
    refine g_get (k := 1) (kz := 1) dX1_bits_6 rfl fg_X1_15 rfl o_o0 ?_
    refine q_icmp_ge (tgt := 29) dX1_bits_9 rfl (by decide) (fun c_7 => ?_) (fun c_7 => ?_)
    · replace hf := it_f hf (by omega)
      exact hK _ _ _ hf
    · replace hf := it_t hf (by omega)
      refine q_iload_n dX1_bits_12 rfl rfl ?_
      refine q_iconst dX1_bits_13 rfl rfl ?_
      refine q_aload_n dX1_bits_14 rfl rfl ?_
      refine g_getF (k := 0) (o := 1) dX1_bits_15 rfl fg_X1_9 rfl o_o0 rfl ?_
      refine q_iload_n dX1_bits_18 rfl rfl ?_
      obtain ⟨g_4, hf⟩ := gd_ex hf
      refine q_iaload dX1_bits_19 rfl (sf_1_0 o_o0) g_4 ?_
      refine q_ishl dX1_bits_20 rfl ?_
      refine q_ior dX1_bits_21 rfl ?_
      obtain ⟨bits_5, e_bits_5, hf⟩ := nm_ex hf
      rw [← e_bits_5]
      refine q_istore_n (ls' := [(2, o0), (0, bits_5), (0, p_3)]) dX1_bits_22 rfl rfl (Nat.le_of_ble_eq_true rfl) rfl ?_
      refine q_iinc (ls' := [(2, o0), (0, bits_5), (0, w32 (p_3 + 1))]) dX1_bits_23 rfl rfl rfl ?_
      obtain ⟨p_6, e_p_6, hf⟩ := nm_ex hf
      rw [← e_p_6]
      refine q_goto (tgt := 4) dX1_bits_26 rfl (by decide) ?_
      exact ih _ _ _ hf
theorem S_X1_bits (X : XS) (o0 : Int) (o_o0 : okO 1 o0 = true) (h : Mem) : CT X yX1_bits MX1_bits (some .int) 0 0 [(2, o0)] h (F_X1_bits o0 h) := by
  refine CT.ofI (by decide) rfl (Nat.le_of_ble_eq_true rfl) (fun r hf => ?_)
  unfold F_X1_bits at hf
  show AJ X MX1_bits (rmD 0) 0 [(2, o0), (3, 0), (3, 0)] [] h (PH 0 r)
  refine q_iconst dX1_bits_0 rfl rfl ?_
  refine q_istore_n (ls' := [(2, o0), (0, 0), (3, 0)]) dX1_bits_1 rfl rfl (Nat.le_of_ble_eq_true rfl) rfl ?_
  refine q_iconst dX1_bits_2 rfl rfl ?_
  refine q_istore_n (ls' := [(2, o0), (0, 0), (0, 0)]) dX1_bits_3 rfl rfl (Nat.le_of_ble_eq_true rfl) rfl ?_
  refine SL_X1_bits_1 X o0 o_o0 _ (fun bits_9 p_10 h_8 hf => ?_) FU _ _ _ hf
  refine q_iload_n dX1_bits_29 rfl rfl ?_
  exact g_ireturn dX1_bits_30 rfl hf
theorem S_X1_draw (X : XS) (o0 : Int) (o_o0 : okO 1 o0 = true) (h : Mem) : CT X yX1_draw MX1_draw (some .int) 0 0 [(2, o0)] h (F_X1_draw o0 h) := by
  refine CT.ofI (by decide) rfl (Nat.le_of_ble_eq_true rfl) (fun r hf => ?_)
  unfold F_X1_draw at hf
  show AJ X MX1_draw (rmD 0) 0 [(2, o0)] [] h (PH 0 r)
  refine q_aload_n dX1_draw_0 rfl rfl ?_
  refine q_aload_n dX1_draw_1 rfl rfl ?_
  refine g_get (k := 3) (kz := 3) dX1_draw_2 rfl fg_X1_22 rfl o_o0 ?_
  refine q_ldc (z := 1103515245) dX1_draw_5 rfl kc_X1_25 (by decide +kernel) ?_
  refine q_imul dX1_draw_7 rfl ?_
  refine q_sipush dX1_draw_8 rfl (by decide) ?_
  refine q_iadd dX1_draw_11 rfl ?_
  refine g_put (k := 3) (kz := 3) dX1_draw_12 rfl fp_X1_22 rfl (fun q => q.1 rfl) o_o0 ?_
  obtain ⟨h_1, e_h_1, hf⟩ := nm_ex hf
  rw [← e_h_1]
  refine q_aload_n dX1_draw_15 rfl rfl ?_
  refine g_get (k := 3) (kz := 3) dX1_draw_16 rfl fg_X1_22 rfl o_o0 ?_
  refine q_bipush dX1_draw_19 rfl (by decide) ?_
  refine q_iushr dX1_draw_21 rfl ?_
  refine q_iconst dX1_draw_22 rfl rfl ?_
  refine q_irem dX1_draw_23 rfl (by decide) ?_
  exact g_ireturn dX1_draw_24 rfl hf
theorem SL_X1_copy_1 (X : XS) (other_0 o0 : Int) (o_other_0 : okO 1 other_0 = true) (o_o0 : okO 1 o0 = true) (Kx : Int → Mem → Res) {r : Int × Mem} (hK : ∀ (p_2 : Int) (h_1 : Mem), Kx p_2 h_1 = some r → AJ X MX1_copy (rmD 0) 28 [(2, o0), (2, other_0), (0, p_2)] [] h_1 (PH 9 r)) :
    ∀ (n : Nat) (p_2 : Int) (h_1 : Mem), L_X1_copy_1 other_0 o0 Kx n p_2 h_1 = some r → AJ X MX1_copy (rmD 0) 2 [(2, o0), (2, other_0), (0, p_2)] [] h_1 (PH 9 r) := by
  intro n
  induction n with
  | zero => intro p_2 h_1 hf; cases hf
  | succ n ih =>
    intro p_2 h_1 hf
    rw [L_X1_copy_1] at hf
    refine q_iload_n dX1_copy_2 rfl rfl ?_
    refine q_aload_n dX1_copy_3 rfl rfl ?_
    refine g_get (k := 1) (kz := 1) dX1_copy_4 rfl fg_X1_15 rfl o_other_0 ?_
    refine q_icmp_ge (tgt := 28) dX1_copy_7 rfl (by decide) (fun c_6 => ?_) (fun c_6 => ?_)
    · replace hf := it_f hf (by omega)
      exact hK _ _ hf
    · replace hf := it_t hf (by omega)
      refine q_aload_n dX1_copy_10 rfl rfl ?_
      refine g_getF (k := 0) (o := 1) dX1_copy_11 rfl fg_X1_9 rfl o_o0 rfl ?_
      refine q_iload_n dX1_copy_14 rfl rfl ?_
      refine q_aload_n dX1_copy_15 rfl rfl ?_
      refine g_getF (k := 0) (o := 1) dX1_copy_16 rfl fg_X1_9 rfl o_other_0 rfl ?_
      refine q_iload_n dX1_copy_19 rfl rfl ?_
      obtain ⟨g_3, hf⟩ := gd_ex hf
      refine q_iaload dX1_copy_20 rfl (sf_1_0 o_other_0) g_3 ?_
      refine q_iastore dX1_copy_21 rfl (sf_1_0 o_o0) g_3 ?_
      obtain ⟨h_4, e_h_4, hf⟩ := nm_ex hf
      rw [← e_h_4]
      refine q_iinc (ls' := [(2, o0), (2, other_0), (0, w32 (p_2 + 1))]) dX1_copy_22 rfl rfl rfl ?_
      obtain ⟨p_5, e_p_5, hf⟩ := nm_ex hf
      rw [← e_p_5]
      refine q_goto (tgt := 2) dX1_copy_25 rfl (by decide) ?_
      exact ih _ _ hf
theorem S_X1_copy (X : XS) (o0 : Int) (o_o0 : okO 1 o0 = true) (other_0 : Int) (o_other_0 : okO 1 other_0 = true) (h : Mem) : CT X yX1_copy MX1_copy none 9 0 [(2, o0), (2, other_0)] h (F_X1_copy o0 other_0 h) := by
  refine CT.ofV (by decide) rfl (Nat.le_of_ble_eq_true rfl) (fun r hf => ?_)
  unfold F_X1_copy at hf
  show AJ X MX1_copy (rmD 0) 0 [(2, o0), (2, other_0), (3, 0)] [] h (PH 9 r)
  refine q_iconst dX1_copy_0 rfl rfl ?_
  refine q_istore_n (ls' := [(2, o0), (2, other_0), (0, 0)]) dX1_copy_1 rfl rfl (Nat.le_of_ble_eq_true rfl) rfl ?_
  refine SL_X1_copy_1 X other_0 o0 o_other_0 o_o0 _ (fun p_8 h_7 hf => ?_) FU _ _ hf
  refine q_aload_n dX1_copy_28 rfl rfl ?_
  refine q_aload_n dX1_copy_29 rfl rfl ?_
  refine g_get (k := 1) (kz := 1) dX1_copy_30 rfl fg_X1_15 rfl o_other_0 ?_
  refine g_put (k := 1) (kz := 1) dX1_copy_33 rfl fp_X1_15 rfl (fun q => q.1 rfl) o_o0 ?_
  obtain ⟨h_9, e_h_9, hf⟩ := nm_ex hf
  rw [← e_h_9]
  refine q_aload_n dX1_copy_36 rfl rfl ?_
  refine q_aload_n dX1_copy_37 rfl rfl ?_
  refine g_get (k := 2) (kz := 2) dX1_copy_38 rfl fg_X1_19 rfl o_other_0 ?_
  refine g_put (k := 2) (kz := 2) dX1_copy_41 rfl fp_X1_19 rfl (fun q => q.1 rfl) o_o0 ?_
  obtain ⟨h_10, e_h_10, hf⟩ := nm_ex hf
  rw [← e_h_10]
  refine q_aload_n dX1_copy_44 rfl rfl ?_
  refine q_aload_n dX1_copy_45 rfl rfl ?_
  refine g_get (k := 3) (kz := 3) dX1_copy_46 rfl fg_X1_22 rfl o_other_0 ?_
  refine g_put (k := 3) (kz := 3) dX1_copy_49 rfl fp_X1_22 rfl (fun q => q.1 rfl) o_o0 ?_
  obtain ⟨h_11, e_h_11, hf⟩ := nm_ex hf
  rw [← e_h_11]
  exact g_return dX1_copy_52 rfl hf
end
