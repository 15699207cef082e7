-- ===== PART A: goes FIRST, ahead of the names: the tables' words, and 'selects' of the private methods out of them =====
/-- a private method of a class that the tables say can be made, by its rows of tables_1 -/
def lw_okq (q : MethodName × Nat) : Prop := (q.1.cls ≠ "java/lang/invoke/MethodHandle" ∧ q.1.cls ≠ "java/lang/invoke/VarHandle") ∧ Cond.instantiable q.1.cls q.2 ∈ tables_1 ∧ Cond.privateMethod q.1 ∈ tables_1 ∧ Cond.instanceMethod q.1 ∈ tables_1
theorem lw_p0 : lw_okq (⟨"CoinCircle", "refuse", "(I)I"⟩, 14) := ⟨⟨by decide +kernel, by decide +kernel⟩, List.mem_of_getElem? (i := 21) (by decide +kernel), List.mem_of_getElem? (i := 399) (by decide +kernel), List.mem_of_getElem? (i := 400) (by decide +kernel)⟩
theorem lw_p1 : lw_okq (⟨"CoinCircle", "putNumber", "(II)V"⟩, 14) := ⟨⟨by decide +kernel, by decide +kernel⟩, List.mem_of_getElem? (i := 21) (by decide +kernel), List.mem_of_getElem? (i := 403) (by decide +kernel), List.mem_of_getElem? (i := 404) (by decide +kernel)⟩
theorem lw_p2 : lw_okq (⟨"CoinCircle$Scanner", "readOne", "([BI)V"⟩, 12) := ⟨⟨by decide +kernel, by decide +kernel⟩, List.mem_of_getElem? (i := 35) (by decide +kernel), List.mem_of_getElem? (i := 437) (by decide +kernel), List.mem_of_getElem? (i := 438) (by decide +kernel)⟩
theorem lw_p3 : lw_okq (⟨"CoinCircle$Scanner", "skipBlanks", "([BI)V"⟩, 12) := ⟨⟨by decide +kernel, by decide +kernel⟩, List.mem_of_getElem? (i := 35) (by decide +kernel), List.mem_of_getElem? (i := 441) (by decide +kernel), List.mem_of_getElem? (i := 442) (by decide +kernel)⟩
theorem lw_p4 : lw_okq (⟨"CoinCircle$Scanner", "readWord", "([BI)V"⟩, 12) := ⟨⟨by decide +kernel, by decide +kernel⟩, List.mem_of_getElem? (i := 35) (by decide +kernel), List.mem_of_getElem? (i := 448) (by decide +kernel), List.mem_of_getElem? (i := 449) (by decide +kernel)⟩
theorem lw_p5 : lw_okq (⟨"CoinCircle$Scanner", "ownWordOf", "(J)I"⟩, 12) := ⟨⟨by decide +kernel, by decide +kernel⟩, List.mem_of_getElem? (i := 35) (by decide +kernel), List.mem_of_getElem? (i := 452) (by decide +kernel), List.mem_of_getElem? (i := 453) (by decide +kernel)⟩
theorem lw_p6 : lw_okq (⟨"CoinCircle$Scanner", "readNumber", "([BI)V"⟩, 12) := ⟨⟨by decide +kernel, by decide +kernel⟩, List.mem_of_getElem? (i := 35) (by decide +kernel), List.mem_of_getElem? (i := 459) (by decide +kernel), List.mem_of_getElem? (i := 460) (by decide +kernel)⟩
theorem lw_p7 : lw_okq (⟨"CoinCircle$Teller", "fail", "(I)Z"⟩, 6) := ⟨⟨by decide +kernel, by decide +kernel⟩, List.mem_of_getElem? (i := 29) (by decide +kernel), List.mem_of_getElem? (i := 523) (by decide +kernel), List.mem_of_getElem? (i := 524) (by decide +kernel)⟩
theorem lw_p8 : lw_okq (⟨"CoinCircle$Teller", "statement", "()Z"⟩, 6) := ⟨⟨by decide +kernel, by decide +kernel⟩, List.mem_of_getElem? (i := 29) (by decide +kernel), List.mem_of_getElem? (i := 527) (by decide +kernel), List.mem_of_getElem? (i := 528) (by decide +kernel)⟩
theorem lw_p9 : lw_okq (⟨"CoinCircle$Teller", "tellPerson", "()Z"⟩, 6) := ⟨⟨by decide +kernel, by decide +kernel⟩, List.mem_of_getElem? (i := 29) (by decide +kernel), List.mem_of_getElem? (i := 531) (by decide +kernel), List.mem_of_getElem? (i := 532) (by decide +kernel)⟩
theorem lw_p10 : lw_okq (⟨"CoinCircle$Teller", "newOne", "(I)I"⟩, 6) := ⟨⟨by decide +kernel, by decide +kernel⟩, List.mem_of_getElem? (i := 29) (by decide +kernel), List.mem_of_getElem? (i := 535) (by decide +kernel), List.mem_of_getElem? (i := 536) (by decide +kernel)⟩
theorem lw_p11 : lw_okq (⟨"CoinCircle$Teller", "word", "(I)Z"⟩, 6) := ⟨⟨by decide +kernel, by decide +kernel⟩, List.mem_of_getElem? (i := 29) (by decide +kernel), List.mem_of_getElem? (i := 564) (by decide +kernel), List.mem_of_getElem? (i := 565) (by decide +kernel)⟩
theorem lw_p12 : lw_okq (⟨"CoinCircle$Teller", "number", "(II)I"⟩, 6) := ⟨⟨by decide +kernel, by decide +kernel⟩, List.mem_of_getElem? (i := 29) (by decide +kernel), List.mem_of_getElem? (i := 572) (by decide +kernel), List.mem_of_getElem? (i := 573) (by decide +kernel)⟩
theorem lw_p13 : lw_okq (⟨"CoinCircle$Teller", "tellCoin", "()Z"⟩, 6) := ⟨⟨by decide +kernel, by decide +kernel⟩, List.mem_of_getElem? (i := 29) (by decide +kernel), List.mem_of_getElem? (i := 576) (by decide +kernel), List.mem_of_getElem? (i := 577) (by decide +kernel)⟩
theorem lw_p14 : lw_okq (⟨"CoinCircle$Teller", "asked", "(II)I"⟩, 6) := ⟨⟨by decide +kernel, by decide +kernel⟩, List.mem_of_getElem? (i := 29) (by decide +kernel), List.mem_of_getElem? (i := 580) (by decide +kernel), List.mem_of_getElem? (i := 581) (by decide +kernel)⟩
theorem lw_p15 : lw_okq (⟨"CoinCircle$Teller", "tellKnown", "(I)Z"⟩, 6) := ⟨⟨by decide +kernel, by decide +kernel⟩, List.mem_of_getElem? (i := 29) (by decide +kernel), List.mem_of_getElem? (i := 588) (by decide +kernel), List.mem_of_getElem? (i := 589) (by decide +kernel)⟩
def lw_privs_1 : List (MethodName × Nat) := [(⟨"CoinCircle", "refuse", "(I)I"⟩, 14), (⟨"CoinCircle", "putNumber", "(II)V"⟩, 14), (⟨"CoinCircle$Scanner", "readOne", "([BI)V"⟩, 12), (⟨"CoinCircle$Scanner", "skipBlanks", "([BI)V"⟩, 12), (⟨"CoinCircle$Scanner", "readWord", "([BI)V"⟩, 12), (⟨"CoinCircle$Scanner", "ownWordOf", "(J)I"⟩, 12), (⟨"CoinCircle$Scanner", "readNumber", "([BI)V"⟩, 12), (⟨"CoinCircle$Teller", "fail", "(I)Z"⟩, 6), (⟨"CoinCircle$Teller", "statement", "()Z"⟩, 6), (⟨"CoinCircle$Teller", "tellPerson", "()Z"⟩, 6), (⟨"CoinCircle$Teller", "newOne", "(I)I"⟩, 6), (⟨"CoinCircle$Teller", "word", "(I)Z"⟩, 6), (⟨"CoinCircle$Teller", "number", "(II)I"⟩, 6), (⟨"CoinCircle$Teller", "tellCoin", "()Z"⟩, 6), (⟨"CoinCircle$Teller", "asked", "(II)I"⟩, 6), (⟨"CoinCircle$Teller", "tellKnown", "(I)Z"⟩, 6)]
theorem lw_r1 : ∀ q ∈ lw_privs_1, lw_okq q := List.forall_mem_cons.mpr ⟨lw_p0, List.forall_mem_cons.mpr ⟨lw_p1, List.forall_mem_cons.mpr ⟨lw_p2, List.forall_mem_cons.mpr ⟨lw_p3, List.forall_mem_cons.mpr ⟨lw_p4, List.forall_mem_cons.mpr ⟨lw_p5, List.forall_mem_cons.mpr ⟨lw_p6, List.forall_mem_cons.mpr ⟨lw_p7, List.forall_mem_cons.mpr ⟨lw_p8, List.forall_mem_cons.mpr ⟨lw_p9, List.forall_mem_cons.mpr ⟨lw_p10, List.forall_mem_cons.mpr ⟨lw_p11, List.forall_mem_cons.mpr ⟨lw_p12, List.forall_mem_cons.mpr ⟨lw_p13, List.forall_mem_cons.mpr ⟨lw_p14, List.forall_mem_cons.mpr ⟨lw_p15, fun _ h => absurd h List.not_mem_nil⟩⟩⟩⟩⟩⟩⟩⟩⟩⟩⟩⟩⟩⟩⟩⟩
theorem lw_p16 : lw_okq (⟨"CoinCircle$Teller", "tellGoods", "()Z"⟩, 6) := ⟨⟨by decide +kernel, by decide +kernel⟩, List.mem_of_getElem? (i := 29) (by decide +kernel), List.mem_of_getElem? (i := 592) (by decide +kernel), List.mem_of_getElem? (i := 593) (by decide +kernel)⟩
theorem lw_p17 : lw_okq (⟨"CoinCircle$Teller", "tellSnub", "()Z"⟩, 6) := ⟨⟨by decide +kernel, by decide +kernel⟩, List.mem_of_getElem? (i := 29) (by decide +kernel), List.mem_of_getElem? (i := 596) (by decide +kernel), List.mem_of_getElem? (i := 597) (by decide +kernel)⟩
theorem lw_p18 : lw_okq (⟨"CoinCircle$Teller", "tellFades", "()Z"⟩, 6) := ⟨⟨by decide +kernel, by decide +kernel⟩, List.mem_of_getElem? (i := 29) (by decide +kernel), List.mem_of_getElem? (i := 600) (by decide +kernel), List.mem_of_getElem? (i := 601) (by decide +kernel)⟩
theorem lw_p19 : lw_okq (⟨"CoinCircle$Teller", "tellVogue", "()Z"⟩, 6) := ⟨⟨by decide +kernel, by decide +kernel⟩, List.mem_of_getElem? (i := 29) (by decide +kernel), List.mem_of_getElem? (i := 604) (by decide +kernel), List.mem_of_getElem? (i := 605) (by decide +kernel)⟩
theorem lw_p20 : lw_okq (⟨"CoinCircle$Teller", "tellPresents", "()Z"⟩, 6) := ⟨⟨by decide +kernel, by decide +kernel⟩, List.mem_of_getElem? (i := 29) (by decide +kernel), List.mem_of_getElem? (i := 608) (by decide +kernel), List.mem_of_getElem? (i := 609) (by decide +kernel)⟩
theorem lw_p21 : lw_okq (⟨"CoinCircle$Teller", "test", "()Z"⟩, 6) := ⟨⟨by decide +kernel, by decide +kernel⟩, List.mem_of_getElem? (i := 29) (by decide +kernel), List.mem_of_getElem? (i := 616) (by decide +kernel), List.mem_of_getElem? (i := 617) (by decide +kernel)⟩
theorem lw_p22 : lw_okq (⟨"CoinCircle$Teller", "both", "()Z"⟩, 6) := ⟨⟨by decide +kernel, by decide +kernel⟩, List.mem_of_getElem? (i := 29) (by decide +kernel), List.mem_of_getElem? (i := 620) (by decide +kernel), List.mem_of_getElem? (i := 621) (by decide +kernel)⟩
theorem lw_p23 : lw_okq (⟨"CoinCircle$Teller", "fact", "()Z"⟩, 6) := ⟨⟨by decide +kernel, by decide +kernel⟩, List.mem_of_getElem? (i := 29) (by decide +kernel), List.mem_of_getElem? (i := 624) (by decide +kernel), List.mem_of_getElem? (i := 625) (by decide +kernel)⟩
theorem lw_p24 : lw_okq (⟨"CoinCircle$Teller", "notFact", "()Z"⟩, 6) := ⟨⟨by decide +kernel, by decide +kernel⟩, List.mem_of_getElem? (i := 29) (by decide +kernel), List.mem_of_getElem? (i := 628) (by decide +kernel), List.mem_of_getElem? (i := 629) (by decide +kernel)⟩
theorem lw_p25 : lw_okq (⟨"CoinCircle$Teller", "enter", "()Z"⟩, 6) := ⟨⟨by decide +kernel, by decide +kernel⟩, List.mem_of_getElem? (i := 29) (by decide +kernel), List.mem_of_getElem? (i := 632) (by decide +kernel), List.mem_of_getElem? (i := 633) (by decide +kernel)⟩
theorem lw_p26 : lw_okq (⟨"CoinCircle$Teller", "inBrackets", "()Z"⟩, 6) := ⟨⟨by decide +kernel, by decide +kernel⟩, List.mem_of_getElem? (i := 29) (by decide +kernel), List.mem_of_getElem? (i := 644) (by decide +kernel), List.mem_of_getElem? (i := 645) (by decide +kernel)⟩
theorem lw_p27 : lw_okq (⟨"CoinCircle$Teller", "sign", "(C)Z"⟩, 6) := ⟨⟨by decide +kernel, by decide +kernel⟩, List.mem_of_getElem? (i := 29) (by decide +kernel), List.mem_of_getElem? (i := 648) (by decide +kernel), List.mem_of_getElem? (i := 649) (by decide +kernel)⟩
theorem lw_p28 : lw_okq (⟨"CoinCircle$Teller", "sum", "()Z"⟩, 6) := ⟨⟨by decide +kernel, by decide +kernel⟩, List.mem_of_getElem? (i := 29) (by decide +kernel), List.mem_of_getElem? (i := 652) (by decide +kernel), List.mem_of_getElem? (i := 653) (by decide +kernel)⟩
theorem lw_p29 : lw_okq (⟨"CoinCircle$Teller", "product", "()Z"⟩, 6) := ⟨⟨by decide +kernel, by decide +kernel⟩, List.mem_of_getElem? (i := 29) (by decide +kernel), List.mem_of_getElem? (i := 656) (by decide +kernel), List.mem_of_getElem? (i := 657) (by decide +kernel)⟩
theorem lw_p30 : lw_okq (⟨"CoinCircle$Teller", "part", "()Z"⟩, 6) := ⟨⟨by decide +kernel, by decide +kernel⟩, List.mem_of_getElem? (i := 29) (by decide +kernel), List.mem_of_getElem? (i := 660) (by decide +kernel), List.mem_of_getElem? (i := 661) (by decide +kernel)⟩
theorem lw_p31 : lw_okq (⟨"CoinCircle$Teller", "inParentheses", "()Z"⟩, 6) := ⟨⟨by decide +kernel, by decide +kernel⟩, List.mem_of_getElem? (i := 29) (by decide +kernel), List.mem_of_getElem? (i := 664) (by decide +kernel), List.mem_of_getElem? (i := 665) (by decide +kernel)⟩
def lw_privs_2 : List (MethodName × Nat) := [(⟨"CoinCircle$Teller", "tellGoods", "()Z"⟩, 6), (⟨"CoinCircle$Teller", "tellSnub", "()Z"⟩, 6), (⟨"CoinCircle$Teller", "tellFades", "()Z"⟩, 6), (⟨"CoinCircle$Teller", "tellVogue", "()Z"⟩, 6), (⟨"CoinCircle$Teller", "tellPresents", "()Z"⟩, 6), (⟨"CoinCircle$Teller", "test", "()Z"⟩, 6), (⟨"CoinCircle$Teller", "both", "()Z"⟩, 6), (⟨"CoinCircle$Teller", "fact", "()Z"⟩, 6), (⟨"CoinCircle$Teller", "notFact", "()Z"⟩, 6), (⟨"CoinCircle$Teller", "enter", "()Z"⟩, 6), (⟨"CoinCircle$Teller", "inBrackets", "()Z"⟩, 6), (⟨"CoinCircle$Teller", "sign", "(C)Z"⟩, 6), (⟨"CoinCircle$Teller", "sum", "()Z"⟩, 6), (⟨"CoinCircle$Teller", "product", "()Z"⟩, 6), (⟨"CoinCircle$Teller", "part", "()Z"⟩, 6), (⟨"CoinCircle$Teller", "inParentheses", "()Z"⟩, 6)]
theorem lw_r2 : ∀ q ∈ lw_privs_2, lw_okq q := List.forall_mem_cons.mpr ⟨lw_p16, List.forall_mem_cons.mpr ⟨lw_p17, List.forall_mem_cons.mpr ⟨lw_p18, List.forall_mem_cons.mpr ⟨lw_p19, List.forall_mem_cons.mpr ⟨lw_p20, List.forall_mem_cons.mpr ⟨lw_p21, List.forall_mem_cons.mpr ⟨lw_p22, List.forall_mem_cons.mpr ⟨lw_p23, List.forall_mem_cons.mpr ⟨lw_p24, List.forall_mem_cons.mpr ⟨lw_p25, List.forall_mem_cons.mpr ⟨lw_p26, List.forall_mem_cons.mpr ⟨lw_p27, List.forall_mem_cons.mpr ⟨lw_p28, List.forall_mem_cons.mpr ⟨lw_p29, List.forall_mem_cons.mpr ⟨lw_p30, List.forall_mem_cons.mpr ⟨lw_p31, fun _ h => absurd h List.not_mem_nil⟩⟩⟩⟩⟩⟩⟩⟩⟩⟩⟩⟩⟩⟩⟩⟩
theorem lw_p32 : lw_okq (⟨"CoinCircle$Teller", "oneOfTwo", "(I)Z"⟩, 6) := ⟨⟨by decide +kernel, by decide +kernel⟩, List.mem_of_getElem? (i := 29) (by decide +kernel), List.mem_of_getElem? (i := 668) (by decide +kernel), List.mem_of_getElem? (i := 669) (by decide +kernel)⟩
theorem lw_p33 : lw_okq (⟨"CoinCircle$Teller", "factWord", "()I"⟩, 6) := ⟨⟨by decide +kernel, by decide +kernel⟩, List.mem_of_getElem? (i := 29) (by decide +kernel), List.mem_of_getElem? (i := 672) (by decide +kernel), List.mem_of_getElem? (i := 673) (by decide +kernel)⟩
theorem lw_p34 : lw_okq (⟨"CoinCircle$Teller", "productDeed", "()I"⟩, 6) := ⟨⟨by decide +kernel, by decide +kernel⟩, List.mem_of_getElem? (i := 29) (by decide +kernel), List.mem_of_getElem? (i := 676) (by decide +kernel), List.mem_of_getElem? (i := 677) (by decide +kernel)⟩
theorem lw_p35 : lw_okq (⟨"CoinCircle$Teller", "comparison", "()I"⟩, 6) := ⟨⟨by decide +kernel, by decide +kernel⟩, List.mem_of_getElem? (i := 29) (by decide +kernel), List.mem_of_getElem? (i := 680) (by decide +kernel), List.mem_of_getElem? (i := 681) (by decide +kernel)⟩
theorem lw_p36 : lw_okq (⟨"CoinCircle$Teller", "tellPrice", "()Z"⟩, 6) := ⟨⟨by decide +kernel, by decide +kernel⟩, List.mem_of_getElem? (i := 29) (by decide +kernel), List.mem_of_getElem? (i := 684) (by decide +kernel), List.mem_of_getElem? (i := 685) (by decide +kernel)⟩
theorem lw_p37 : lw_okq (⟨"CoinCircle", "areThere", "(II)Z"⟩, 14) := ⟨⟨by decide +kernel, by decide +kernel⟩, List.mem_of_getElem? (i := 21) (by decide +kernel), List.mem_of_getElem? (i := 795) (by decide +kernel), List.mem_of_getElem? (i := 796) (by decide +kernel)⟩
theorem lw_p38 : lw_okq (⟨"CoinCircle$Circle", "putFacts", "(IIIII)V"⟩, 3) := ⟨⟨by decide +kernel, by decide +kernel⟩, List.mem_of_getElem? (i := 331) (by decide +kernel), List.mem_of_getElem? (i := 821) (by decide +kernel), List.mem_of_getElem? (i := 822) (by decide +kernel)⟩
theorem lw_p39 : lw_okq (⟨"CoinCircle", "areTwo", "(II)Z"⟩, 14) := ⟨⟨by decide +kernel, by decide +kernel⟩, List.mem_of_getElem? (i := 21) (by decide +kernel), List.mem_of_getElem? (i := 867) (by decide +kernel), List.mem_of_getElem? (i := 868) (by decide +kernel)⟩
theorem lw_p40 : lw_okq (⟨"CoinCircle$Circle", "meet", "(II)V"⟩, 3) := ⟨⟨by decide +kernel, by decide +kernel⟩, List.mem_of_getElem? (i := 331) (by decide +kernel), List.mem_of_getElem? (i := 897) (by decide +kernel), List.mem_of_getElem? (i := 898) (by decide +kernel)⟩
theorem lw_p41 : lw_okq (⟨"CoinCircle$Circle", "forget", "(I)I"⟩, 3) := ⟨⟨by decide +kernel, by decide +kernel⟩, List.mem_of_getElem? (i := 331) (by decide +kernel), List.mem_of_getElem? (i := 947) (by decide +kernel), List.mem_of_getElem? (i := 948) (by decide +kernel)⟩
theorem lw_p42 : lw_okq (⟨"CoinCircle", "callIsPaid", "()Z"⟩, 14) := ⟨⟨by decide +kernel, by decide +kernel⟩, List.mem_of_getElem? (i := 21) (by decide +kernel), List.mem_of_getElem? (i := 956) (by decide +kernel), List.mem_of_getElem? (i := 957) (by decide +kernel)⟩
theorem lw_p43 : lw_okq (⟨"CoinCircle", "draw", "(I)I"⟩, 14) := ⟨⟨by decide +kernel, by decide +kernel⟩, List.mem_of_getElem? (i := 21) (by decide +kernel), List.mem_of_getElem? (i := 960) (by decide +kernel), List.mem_of_getElem? (i := 961) (by decide +kernel)⟩
theorem lw_p44 : lw_okq (⟨"CoinCircle$Circle", "worthiest", "(II)I"⟩, 3) := ⟨⟨by decide +kernel, by decide +kernel⟩, List.mem_of_getElem? (i := 331) (by decide +kernel), List.mem_of_getElem? (i := 988) (by decide +kernel), List.mem_of_getElem? (i := 989) (by decide +kernel)⟩
theorem lw_p45 : lw_okq (⟨"CoinCircle$Ways", "begin", "(LCoinCircle$Circle;I)V"⟩, 8) := ⟨⟨by decide +kernel, by decide +kernel⟩, List.mem_of_getElem? (i := 298) (by decide +kernel), List.mem_of_getElem? (i := 1000) (by decide +kernel), List.mem_of_getElem? (i := 1001) (by decide +kernel)⟩
theorem lw_p46 : lw_okq (⟨"CoinCircle$Ways", "reach", "(III)V"⟩, 8) := ⟨⟨by decide +kernel, by decide +kernel⟩, List.mem_of_getElem? (i := 298) (by decide +kernel), List.mem_of_getElem? (i := 1009) (by decide +kernel), List.mem_of_getElem? (i := 1010) (by decide +kernel)⟩
theorem lw_p47 : lw_okq (⟨"CoinCircle$Ways", "stateOf", "(II)I"⟩, 8) := ⟨⟨by decide +kernel, by decide +kernel⟩, List.mem_of_getElem? (i := 298) (by decide +kernel), List.mem_of_getElem? (i := 1013) (by decide +kernel), List.mem_of_getElem? (i := 1014) (by decide +kernel)⟩
def lw_privs_3 : List (MethodName × Nat) := [(⟨"CoinCircle$Teller", "oneOfTwo", "(I)Z"⟩, 6), (⟨"CoinCircle$Teller", "factWord", "()I"⟩, 6), (⟨"CoinCircle$Teller", "productDeed", "()I"⟩, 6), (⟨"CoinCircle$Teller", "comparison", "()I"⟩, 6), (⟨"CoinCircle$Teller", "tellPrice", "()Z"⟩, 6), (⟨"CoinCircle", "areThere", "(II)Z"⟩, 14), (⟨"CoinCircle$Circle", "putFacts", "(IIIII)V"⟩, 3), (⟨"CoinCircle", "areTwo", "(II)Z"⟩, 14), (⟨"CoinCircle$Circle", "meet", "(II)V"⟩, 3), (⟨"CoinCircle$Circle", "forget", "(I)I"⟩, 3), (⟨"CoinCircle", "callIsPaid", "()Z"⟩, 14), (⟨"CoinCircle", "draw", "(I)I"⟩, 14), (⟨"CoinCircle$Circle", "worthiest", "(II)I"⟩, 3), (⟨"CoinCircle$Ways", "begin", "(LCoinCircle$Circle;I)V"⟩, 8), (⟨"CoinCircle$Ways", "reach", "(III)V"⟩, 8), (⟨"CoinCircle$Ways", "stateOf", "(II)I"⟩, 8)]
theorem lw_r3 : ∀ q ∈ lw_privs_3, lw_okq q := List.forall_mem_cons.mpr ⟨lw_p32, List.forall_mem_cons.mpr ⟨lw_p33, List.forall_mem_cons.mpr ⟨lw_p34, List.forall_mem_cons.mpr ⟨lw_p35, List.forall_mem_cons.mpr ⟨lw_p36, List.forall_mem_cons.mpr ⟨lw_p37, List.forall_mem_cons.mpr ⟨lw_p38, List.forall_mem_cons.mpr ⟨lw_p39, List.forall_mem_cons.mpr ⟨lw_p40, List.forall_mem_cons.mpr ⟨lw_p41, List.forall_mem_cons.mpr ⟨lw_p42, List.forall_mem_cons.mpr ⟨lw_p43, List.forall_mem_cons.mpr ⟨lw_p44, List.forall_mem_cons.mpr ⟨lw_p45, List.forall_mem_cons.mpr ⟨lw_p46, List.forall_mem_cons.mpr ⟨lw_p47, fun _ h => absurd h List.not_mem_nil⟩⟩⟩⟩⟩⟩⟩⟩⟩⟩⟩⟩⟩⟩⟩⟩
theorem lw_p48 : lw_okq (⟨"CoinCircle$Ways", "payFrom", "(III)I"⟩, 8) := ⟨⟨by decide +kernel, by decide +kernel⟩, List.mem_of_getElem? (i := 298) (by decide +kernel), List.mem_of_getElem? (i := 1017) (by decide +kernel), List.mem_of_getElem? (i := 1018) (by decide +kernel)⟩
theorem lw_p49 : lw_okq (⟨"CoinCircle$Ways", "presentFrom", "(LCoinCircle$Circle;II)V"⟩, 8) := ⟨⟨by decide +kernel, by decide +kernel⟩, List.mem_of_getElem? (i := 298) (by decide +kernel), List.mem_of_getElem? (i := 1022) (by decide +kernel), List.mem_of_getElem? (i := 1023) (by decide +kernel)⟩
theorem lw_p50 : lw_okq (⟨"CoinCircle$Ways", "testHolds", "(LCoinCircle$Circle;IIII)Z"⟩, 8) := ⟨⟨by decide +kernel, by decide +kernel⟩, List.mem_of_getElem? (i := 298) (by decide +kernel), List.mem_of_getElem? (i := 1026) (by decide +kernel), List.mem_of_getElem? (i := 1027) (by decide +kernel)⟩
theorem lw_p51 : lw_okq (⟨"CoinCircle$Ways", "trace", "(I)V"⟩, 8) := ⟨⟨by decide +kernel, by decide +kernel⟩, List.mem_of_getElem? (i := 298) (by decide +kernel), List.mem_of_getElem? (i := 1031) (by decide +kernel), List.mem_of_getElem? (i := 1032) (by decide +kernel)⟩
theorem lw_p52 : lw_okq (⟨"CoinCircle", "tellsLetters", "(I)Z"⟩, 14) := ⟨⟨by decide +kernel, by decide +kernel⟩, List.mem_of_getElem? (i := 21) (by decide +kernel), List.mem_of_getElem? (i := 1048) (by decide +kernel), List.mem_of_getElem? (i := 1049) (by decide +kernel)⟩
theorem lw_p53 : lw_okq (⟨"CoinCircle", "tapeByte", "(I)I"⟩, 14) := ⟨⟨by decide +kernel, by decide +kernel⟩, List.mem_of_getElem? (i := 21) (by decide +kernel), List.mem_of_getElem? (i := 1052) (by decide +kernel), List.mem_of_getElem? (i := 1053) (by decide +kernel)⟩
theorem lw_p54 : lw_okq (⟨"CoinCircle", "putImageByte", "(I)V"⟩, 14) := ⟨⟨by decide +kernel, by decide +kernel⟩, List.mem_of_getElem? (i := 21) (by decide +kernel), List.mem_of_getElem? (i := 1096) (by decide +kernel), List.mem_of_getElem? (i := 1097) (by decide +kernel)⟩
theorem lw_p55 : lw_okq (⟨"CoinCircle", "tellsImage", "(I)Z"⟩, 14) := ⟨⟨by decide +kernel, by decide +kernel⟩, List.mem_of_getElem? (i := 21) (by decide +kernel), List.mem_of_getElem? (i := 1112) (by decide +kernel), List.mem_of_getElem? (i := 1113) (by decide +kernel)⟩
theorem lw_p56 : lw_okq (⟨"CoinCircle", "imageRow", "(I)I"⟩, 14) := ⟨⟨by decide +kernel, by decide +kernel⟩, List.mem_of_getElem? (i := 21) (by decide +kernel), List.mem_of_getElem? (i := 1116) (by decide +kernel), List.mem_of_getElem? (i := 1117) (by decide +kernel)⟩
theorem lw_p57 : lw_okq (⟨"CoinCircle", "tapeDay", "()I"⟩, 14) := ⟨⟨by decide +kernel, by decide +kernel⟩, List.mem_of_getElem? (i := 21) (by decide +kernel), List.mem_of_getElem? (i := 1120) (by decide +kernel), List.mem_of_getElem? (i := 1121) (by decide +kernel)⟩
theorem lw_p58 : lw_okq (⟨"CoinCircle", "tellsCoin", "(I)Z"⟩, 14) := ⟨⟨by decide +kernel, by decide +kernel⟩, List.mem_of_getElem? (i := 21) (by decide +kernel), List.mem_of_getElem? (i := 1124) (by decide +kernel), List.mem_of_getElem? (i := 1125) (by decide +kernel)⟩
theorem lw_p59 : lw_okq (⟨"CoinCircleModel", "refuses", "(I)I"⟩, 71) := ⟨⟨by decide +kernel, by decide +kernel⟩, List.mem_of_getElem? (i := 1137) (by decide +kernel), List.mem_of_getElem? (i := 1362) (by decide +kernel), List.mem_of_getElem? (i := 1363) (by decide +kernel)⟩
theorem lw_p60 : lw_okq (⟨"CoinCircleModel", "put", "(I)V"⟩, 71) := ⟨⟨by decide +kernel, by decide +kernel⟩, List.mem_of_getElem? (i := 1137) (by decide +kernel), List.mem_of_getElem? (i := 1366) (by decide +kernel), List.mem_of_getElem? (i := 1367) (by decide +kernel)⟩
theorem lw_p61 : lw_okq (⟨"CoinCircleModel", "ahead", "()V"⟩, 71) := ⟨⟨by decide +kernel, by decide +kernel⟩, List.mem_of_getElem? (i := 1137) (by decide +kernel), List.mem_of_getElem? (i := 1378) (by decide +kernel), List.mem_of_getElem? (i := 1379) (by decide +kernel)⟩
theorem lw_p62 : lw_okq (⟨"CoinCircleModel", "isOwn", "(J)Z"⟩, 71) := ⟨⟨by decide +kernel, by decide +kernel⟩, List.mem_of_getElem? (i := 1137) (by decide +kernel), List.mem_of_getElem? (i := 1388) (by decide +kernel), List.mem_of_getElem? (i := 1389) (by decide +kernel)⟩
theorem lw_p63 : lw_okq (⟨"CoinCircleModel", "statement", "()V"⟩, 71) := ⟨⟨by decide +kernel, by decide +kernel⟩, List.mem_of_getElem? (i := 1137) (by decide +kernel), List.mem_of_getElem? (i := 1415) (by decide +kernel), List.mem_of_getElem? (i := 1416) (by decide +kernel)⟩
def lw_privs_4 : List (MethodName × Nat) := [(⟨"CoinCircle$Ways", "payFrom", "(III)I"⟩, 8), (⟨"CoinCircle$Ways", "presentFrom", "(LCoinCircle$Circle;II)V"⟩, 8), (⟨"CoinCircle$Ways", "testHolds", "(LCoinCircle$Circle;IIII)Z"⟩, 8), (⟨"CoinCircle$Ways", "trace", "(I)V"⟩, 8), (⟨"CoinCircle", "tellsLetters", "(I)Z"⟩, 14), (⟨"CoinCircle", "tapeByte", "(I)I"⟩, 14), (⟨"CoinCircle", "putImageByte", "(I)V"⟩, 14), (⟨"CoinCircle", "tellsImage", "(I)Z"⟩, 14), (⟨"CoinCircle", "imageRow", "(I)I"⟩, 14), (⟨"CoinCircle", "tapeDay", "()I"⟩, 14), (⟨"CoinCircle", "tellsCoin", "(I)Z"⟩, 14), (⟨"CoinCircleModel", "refuses", "(I)I"⟩, 71), (⟨"CoinCircleModel", "put", "(I)V"⟩, 71), (⟨"CoinCircleModel", "ahead", "()V"⟩, 71), (⟨"CoinCircleModel", "isOwn", "(J)Z"⟩, 71), (⟨"CoinCircleModel", "statement", "()V"⟩, 71)]
theorem lw_r4 : ∀ q ∈ lw_privs_4, lw_okq q := List.forall_mem_cons.mpr ⟨lw_p48, List.forall_mem_cons.mpr ⟨lw_p49, List.forall_mem_cons.mpr ⟨lw_p50, List.forall_mem_cons.mpr ⟨lw_p51, List.forall_mem_cons.mpr ⟨lw_p52, List.forall_mem_cons.mpr ⟨lw_p53, List.forall_mem_cons.mpr ⟨lw_p54, List.forall_mem_cons.mpr ⟨lw_p55, List.forall_mem_cons.mpr ⟨lw_p56, List.forall_mem_cons.mpr ⟨lw_p57, List.forall_mem_cons.mpr ⟨lw_p58, List.forall_mem_cons.mpr ⟨lw_p59, List.forall_mem_cons.mpr ⟨lw_p60, List.forall_mem_cons.mpr ⟨lw_p61, List.forall_mem_cons.mpr ⟨lw_p62, List.forall_mem_cons.mpr ⟨lw_p63, fun _ h => absurd h List.not_mem_nil⟩⟩⟩⟩⟩⟩⟩⟩⟩⟩⟩⟩⟩⟩⟩⟩
theorem lw_p64 : lw_okq (⟨"CoinCircleModel", "lex", "()V"⟩, 71) := ⟨⟨by decide +kernel, by decide +kernel⟩, List.mem_of_getElem? (i := 1137) (by decide +kernel), List.mem_of_getElem? (i := 1419) (by decide +kernel), List.mem_of_getElem? (i := 1420) (by decide +kernel)⟩
theorem lw_p65 : lw_okq (⟨"CoinCircleModel", "blame", "(II)V"⟩, 71) := ⟨⟨by decide +kernel, by decide +kernel⟩, List.mem_of_getElem? (i := 1137) (by decide +kernel), List.mem_of_getElem? (i := 1423) (by decide +kernel), List.mem_of_getElem? (i := 1424) (by decide +kernel)⟩
theorem lw_p66 : lw_okq (⟨"CoinCircleModel", "isWord", "(J)Z"⟩, 71) := ⟨⟨by decide +kernel, by decide +kernel⟩, List.mem_of_getElem? (i := 1137) (by decide +kernel), List.mem_of_getElem? (i := 1427) (by decide +kernel), List.mem_of_getElem? (i := 1428) (by decide +kernel)⟩
theorem lw_p67 : lw_okq (⟨"CoinCircleModel", "personing", "()V"⟩, 71) := ⟨⟨by decide +kernel, by decide +kernel⟩, List.mem_of_getElem? (i := 1137) (by decide +kernel), List.mem_of_getElem? (i := 1431) (by decide +kernel), List.mem_of_getElem? (i := 1432) (by decide +kernel)⟩
theorem lw_p68 : lw_okq (⟨"CoinCircleModel", "counts", "(Z)Z"⟩, 71) := ⟨⟨by decide +kernel, by decide +kernel⟩, List.mem_of_getElem? (i := 1137) (by decide +kernel), List.mem_of_getElem? (i := 1435) (by decide +kernel), List.mem_of_getElem? (i := 1436) (by decide +kernel)⟩
theorem lw_p69 : lw_okq (⟨"CoinCircleModel", "fresh", "()J"⟩, 71) := ⟨⟨by decide +kernel, by decide +kernel⟩, List.mem_of_getElem? (i := 1137) (by decide +kernel), List.mem_of_getElem? (i := 1439) (by decide +kernel), List.mem_of_getElem? (i := 1440) (by decide +kernel)⟩
theorem lw_p70 : lw_okq (⟨"CoinCircleModel", "named", "(IJ)I"⟩, 71) := ⟨⟨by decide +kernel, by decide +kernel⟩, List.mem_of_getElem? (i := 1137) (by decide +kernel), List.mem_of_getElem? (i := 1443) (by decide +kernel), List.mem_of_getElem? (i := 1444) (by decide +kernel)⟩
theorem lw_p71 : lw_okq (⟨"CoinCircleModel", "manyOf", "(II)I"⟩, 71) := ⟨⟨by decide +kernel, by decide +kernel⟩, List.mem_of_getElem? (i := 1137) (by decide +kernel), List.mem_of_getElem? (i := 1447) (by decide +kernel), List.mem_of_getElem? (i := 1448) (by decide +kernel)⟩
theorem lw_p72 : lw_okq (⟨"CoinCircleModel", "nameOf", "(III)J"⟩, 71) := ⟨⟨by decide +kernel, by decide +kernel⟩, List.mem_of_getElem? (i := 1137) (by decide +kernel), List.mem_of_getElem? (i := 1451) (by decide +kernel), List.mem_of_getElem? (i := 1452) (by decide +kernel)⟩
theorem lw_p73 : lw_okq (⟨"CoinCircleModel", "must", "(J)V"⟩, 71) := ⟨⟨by decide +kernel, by decide +kernel⟩, List.mem_of_getElem? (i := 1137) (by decide +kernel), List.mem_of_getElem? (i := 1455) (by decide +kernel), List.mem_of_getElem? (i := 1456) (by decide +kernel)⟩
theorem lw_p74 : lw_okq (⟨"CoinCircleModel", "number", "(II)I"⟩, 71) := ⟨⟨by decide +kernel, by decide +kernel⟩, List.mem_of_getElem? (i := 1137) (by decide +kernel), List.mem_of_getElem? (i := 1459) (by decide +kernel), List.mem_of_getElem? (i := 1460) (by decide +kernel)⟩
theorem lw_p75 : lw_okq (⟨"CoinCircleModel", "coining", "()V"⟩, 71) := ⟨⟨by decide +kernel, by decide +kernel⟩, List.mem_of_getElem? (i := 1137) (by decide +kernel), List.mem_of_getElem? (i := 1466) (by decide +kernel), List.mem_of_getElem? (i := 1467) (by decide +kernel)⟩
theorem lw_p76 : lw_okq (⟨"CoinCircleModel", "asked", "(I)I"⟩, 71) := ⟨⟨by decide +kernel, by decide +kernel⟩, List.mem_of_getElem? (i := 1137) (by decide +kernel), List.mem_of_getElem? (i := 1470) (by decide +kernel), List.mem_of_getElem? (i := 1471) (by decide +kernel)⟩
theorem lw_p77 : lw_okq (⟨"CoinCircleModel", "looked", "(I)I"⟩, 71) := ⟨⟨by decide +kernel, by decide +kernel⟩, List.mem_of_getElem? (i := 1137) (by decide +kernel), List.mem_of_getElem? (i := 1474) (by decide +kernel), List.mem_of_getElem? (i := 1475) (by decide +kernel)⟩
theorem lw_p78 : lw_okq (⟨"CoinCircleModel", "waring", "()V"⟩, 71) := ⟨⟨by decide +kernel, by decide +kernel⟩, List.mem_of_getElem? (i := 1137) (by decide +kernel), List.mem_of_getElem? (i := 1481) (by decide +kernel), List.mem_of_getElem? (i := 1482) (by decide +kernel)⟩
theorem lw_p79 : lw_okq (⟨"CoinCircleModel", "snubbing", "()V"⟩, 71) := ⟨⟨by decide +kernel, by decide +kernel⟩, List.mem_of_getElem? (i := 1137) (by decide +kernel), List.mem_of_getElem? (i := 1485) (by decide +kernel), List.mem_of_getElem? (i := 1486) (by decide +kernel)⟩
def lw_privs_5 : List (MethodName × Nat) := [(⟨"CoinCircleModel", "lex", "()V"⟩, 71), (⟨"CoinCircleModel", "blame", "(II)V"⟩, 71), (⟨"CoinCircleModel", "isWord", "(J)Z"⟩, 71), (⟨"CoinCircleModel", "personing", "()V"⟩, 71), (⟨"CoinCircleModel", "counts", "(Z)Z"⟩, 71), (⟨"CoinCircleModel", "fresh", "()J"⟩, 71), (⟨"CoinCircleModel", "named", "(IJ)I"⟩, 71), (⟨"CoinCircleModel", "manyOf", "(II)I"⟩, 71), (⟨"CoinCircleModel", "nameOf", "(III)J"⟩, 71), (⟨"CoinCircleModel", "must", "(J)V"⟩, 71), (⟨"CoinCircleModel", "number", "(II)I"⟩, 71), (⟨"CoinCircleModel", "coining", "()V"⟩, 71), (⟨"CoinCircleModel", "asked", "(I)I"⟩, 71), (⟨"CoinCircleModel", "looked", "(I)I"⟩, 71), (⟨"CoinCircleModel", "waring", "()V"⟩, 71), (⟨"CoinCircleModel", "snubbing", "()V"⟩, 71)]
theorem lw_r5 : ∀ q ∈ lw_privs_5, lw_okq q := List.forall_mem_cons.mpr ⟨lw_p64, List.forall_mem_cons.mpr ⟨lw_p65, List.forall_mem_cons.mpr ⟨lw_p66, List.forall_mem_cons.mpr ⟨lw_p67, List.forall_mem_cons.mpr ⟨lw_p68, List.forall_mem_cons.mpr ⟨lw_p69, List.forall_mem_cons.mpr ⟨lw_p70, List.forall_mem_cons.mpr ⟨lw_p71, List.forall_mem_cons.mpr ⟨lw_p72, List.forall_mem_cons.mpr ⟨lw_p73, List.forall_mem_cons.mpr ⟨lw_p74, List.forall_mem_cons.mpr ⟨lw_p75, List.forall_mem_cons.mpr ⟨lw_p76, List.forall_mem_cons.mpr ⟨lw_p77, List.forall_mem_cons.mpr ⟨lw_p78, List.forall_mem_cons.mpr ⟨lw_p79, fun _ h => absurd h List.not_mem_nil⟩⟩⟩⟩⟩⟩⟩⟩⟩⟩⟩⟩⟩⟩⟩⟩
theorem lw_p80 : lw_okq (⟨"CoinCircleModel", "telling", "(Z)V"⟩, 71) := ⟨⟨by decide +kernel, by decide +kernel⟩, List.mem_of_getElem? (i := 1137) (by decide +kernel), List.mem_of_getElem? (i := 1489) (by decide +kernel), List.mem_of_getElem? (i := 1490) (by decide +kernel)⟩
theorem lw_p81 : lw_okq (⟨"CoinCircleModel", "presenting", "()V"⟩, 71) := ⟨⟨by decide +kernel, by decide +kernel⟩, List.mem_of_getElem? (i := 1137) (by decide +kernel), List.mem_of_getElem? (i := 1493) (by decide +kernel), List.mem_of_getElem? (i := 1494) (by decide +kernel)⟩
theorem lw_p82 : lw_okq (⟨"CoinCircleModel", "reads", "(Z)V"⟩, 71) := ⟨⟨by decide +kernel, by decide +kernel⟩, List.mem_of_getElem? (i := 1137) (by decide +kernel), List.mem_of_getElem? (i := 1497) (by decide +kernel), List.mem_of_getElem? (i := 1498) (by decide +kernel)⟩
theorem lw_p83 : lw_okq (⟨"CoinCircleModel", "pushes", "(I)V"⟩, 71) := ⟨⟨by decide +kernel, by decide +kernel⟩, List.mem_of_getElem? (i := 1137) (by decide +kernel), List.mem_of_getElem? (i := 1501) (by decide +kernel), List.mem_of_getElem? (i := 1502) (by decide +kernel)⟩
theorem lw_p84 : lw_okq (⟨"CoinCircleModel", "operand", "()Z"⟩, 71) := ⟨⟨by decide +kernel, by decide +kernel⟩, List.mem_of_getElem? (i := 1137) (by decide +kernel), List.mem_of_getElem? (i := 1505) (by decide +kernel), List.mem_of_getElem? (i := 1506) (by decide +kernel)⟩
theorem lw_p85 : lw_okq (⟨"CoinCircleModel", "holdsBack", "(I)V"⟩, 71) := ⟨⟨by decide +kernel, by decide +kernel⟩, List.mem_of_getElem? (i := 1137) (by decide +kernel), List.mem_of_getElem? (i := 1512) (by decide +kernel), List.mem_of_getElem? (i := 1513) (by decide +kernel)⟩
theorem lw_p86 : lw_okq (⟨"CoinCircleModel", "isSign", "(I)Z"⟩, 71) := ⟨⟨by decide +kernel, by decide +kernel⟩, List.mem_of_getElem? (i := 1137) (by decide +kernel), List.mem_of_getElem? (i := 1516) (by decide +kernel), List.mem_of_getElem? (i := 1517) (by decide +kernel)⟩
theorem lw_p87 : lw_okq (⟨"CoinCircleModel", "opens", "(I)V"⟩, 71) := ⟨⟨by decide +kernel, by decide +kernel⟩, List.mem_of_getElem? (i := 1137) (by decide +kernel), List.mem_of_getElem? (i := 1520) (by decide +kernel), List.mem_of_getElem? (i := 1521) (by decide +kernel)⟩
theorem lw_p88 : lw_okq (⟨"CoinCircleModel", "add", "(II)V"⟩, 71) := ⟨⟨by decide +kernel, by decide +kernel⟩, List.mem_of_getElem? (i := 1137) (by decide +kernel), List.mem_of_getElem? (i := 1524) (by decide +kernel), List.mem_of_getElem? (i := 1525) (by decide +kernel)⟩
theorem lw_p89 : lw_okq (⟨"CoinCircleModel", "goesOn", "()Z"⟩, 71) := ⟨⟨by decide +kernel, by decide +kernel⟩, List.mem_of_getElem? (i := 1137) (by decide +kernel), List.mem_of_getElem? (i := 1528) (by decide +kernel), List.mem_of_getElem? (i := 1529) (by decide +kernel)⟩
theorem lw_p90 : lw_okq (⟨"CoinCircleModel", "joins", "(I)V"⟩, 71) := ⟨⟨by decide +kernel, by decide +kernel⟩, List.mem_of_getElem? (i := 1137) (by decide +kernel), List.mem_of_getElem? (i := 1532) (by decide +kernel), List.mem_of_getElem? (i := 1533) (by decide +kernel)⟩
theorem lw_p91 : lw_okq (⟨"CoinCircleModel", "pricing", "()V"⟩, 71) := ⟨⟨by decide +kernel, by decide +kernel⟩, List.mem_of_getElem? (i := 1137) (by decide +kernel), List.mem_of_getElem? (i := 1539) (by decide +kernel), List.mem_of_getElem? (i := 1540) (by decide +kernel)⟩
theorem lw_p92 : lw_okq (⟨"CoinCircleModel", "finishes", "(I)V"⟩, 71) := ⟨⟨by decide +kernel, by decide +kernel⟩, List.mem_of_getElem? (i := 1137) (by decide +kernel), List.mem_of_getElem? (i := 1543) (by decide +kernel), List.mem_of_getElem? (i := 1544) (by decide +kernel)⟩
theorem lw_p93 : lw_okq (⟨"CoinCircleModel", "must", "(I)V"⟩, 71) := ⟨⟨by decide +kernel, by decide +kernel⟩, List.mem_of_getElem? (i := 1137) (by decide +kernel), List.mem_of_getElem? (i := 1547) (by decide +kernel), List.mem_of_getElem? (i := 1548) (by decide +kernel)⟩
theorem lw_p94 : lw_okq (⟨"CoinCircleModel", "begin", "()V"⟩, 71) := ⟨⟨by decide +kernel, by decide +kernel⟩, List.mem_of_getElem? (i := 1137) (by decide +kernel), List.mem_of_getElem? (i := 1551) (by decide +kernel), List.mem_of_getElem? (i := 1552) (by decide +kernel)⟩
theorem lw_p95 : lw_okq (⟨"CoinCircleModel", "ring", "(I)I"⟩, 71) := ⟨⟨by decide +kernel, by decide +kernel⟩, List.mem_of_getElem? (i := 1137) (by decide +kernel), List.mem_of_getElem? (i := 1567) (by decide +kernel), List.mem_of_getElem? (i := 1568) (by decide +kernel)⟩
def lw_privs_6 : List (MethodName × Nat) := [(⟨"CoinCircleModel", "telling", "(Z)V"⟩, 71), (⟨"CoinCircleModel", "presenting", "()V"⟩, 71), (⟨"CoinCircleModel", "reads", "(Z)V"⟩, 71), (⟨"CoinCircleModel", "pushes", "(I)V"⟩, 71), (⟨"CoinCircleModel", "operand", "()Z"⟩, 71), (⟨"CoinCircleModel", "holdsBack", "(I)V"⟩, 71), (⟨"CoinCircleModel", "isSign", "(I)Z"⟩, 71), (⟨"CoinCircleModel", "opens", "(I)V"⟩, 71), (⟨"CoinCircleModel", "add", "(II)V"⟩, 71), (⟨"CoinCircleModel", "goesOn", "()Z"⟩, 71), (⟨"CoinCircleModel", "joins", "(I)V"⟩, 71), (⟨"CoinCircleModel", "pricing", "()V"⟩, 71), (⟨"CoinCircleModel", "finishes", "(I)V"⟩, 71), (⟨"CoinCircleModel", "must", "(I)V"⟩, 71), (⟨"CoinCircleModel", "begin", "()V"⟩, 71), (⟨"CoinCircleModel", "ring", "(I)I"⟩, 71)]
theorem lw_r6 : ∀ q ∈ lw_privs_6, lw_okq q := List.forall_mem_cons.mpr ⟨lw_p80, List.forall_mem_cons.mpr ⟨lw_p81, List.forall_mem_cons.mpr ⟨lw_p82, List.forall_mem_cons.mpr ⟨lw_p83, List.forall_mem_cons.mpr ⟨lw_p84, List.forall_mem_cons.mpr ⟨lw_p85, List.forall_mem_cons.mpr ⟨lw_p86, List.forall_mem_cons.mpr ⟨lw_p87, List.forall_mem_cons.mpr ⟨lw_p88, List.forall_mem_cons.mpr ⟨lw_p89, List.forall_mem_cons.mpr ⟨lw_p90, List.forall_mem_cons.mpr ⟨lw_p91, List.forall_mem_cons.mpr ⟨lw_p92, List.forall_mem_cons.mpr ⟨lw_p93, List.forall_mem_cons.mpr ⟨lw_p94, List.forall_mem_cons.mpr ⟨lw_p95, fun _ h => absurd h List.not_mem_nil⟩⟩⟩⟩⟩⟩⟩⟩⟩⟩⟩⟩⟩⟩⟩⟩
theorem lw_p96 : lw_okq (⟨"CoinCircleModel", "copies", "(II)V"⟩, 71) := ⟨⟨by decide +kernel, by decide +kernel⟩, List.mem_of_getElem? (i := 1137) (by decide +kernel), List.mem_of_getElem? (i := 1571) (by decide +kernel), List.mem_of_getElem? (i := 1572) (by decide +kernel)⟩
theorem lw_p97 : lw_okq (⟨"CoinCircleModel", "flowOf", "(I)I"⟩, 71) := ⟨⟨by decide +kernel, by decide +kernel⟩, List.mem_of_getElem? (i := 1137) (by decide +kernel), List.mem_of_getElem? (i := 1579) (by decide +kernel), List.mem_of_getElem? (i := 1580) (by decide +kernel)⟩
theorem lw_p98 : lw_okq (⟨"CoinCircleModel", "worthOf", "(I)I"⟩, 71) := ⟨⟨by decide +kernel, by decide +kernel⟩, List.mem_of_getElem? (i := 1137) (by decide +kernel), List.mem_of_getElem? (i := 1583) (by decide +kernel), List.mem_of_getElem? (i := 1584) (by decide +kernel)⟩
theorem lw_p99 : lw_okq (⟨"CoinCircleModel", "isUseless", "(II)Z"⟩, 71) := ⟨⟨by decide +kernel, by decide +kernel⟩, List.mem_of_getElem? (i := 1137) (by decide +kernel), List.mem_of_getElem? (i := 1590) (by decide +kernel), List.mem_of_getElem? (i := 1591) (by decide +kernel)⟩
theorem lw_p100 : lw_okq (⟨"CoinCircleModel", "heldBy", "(II)I"⟩, 71) := ⟨⟨by decide +kernel, by decide +kernel⟩, List.mem_of_getElem? (i := 1137) (by decide +kernel), List.mem_of_getElem? (i := 1594) (by decide +kernel), List.mem_of_getElem? (i := 1595) (by decide +kernel)⟩
theorem lw_p101 : lw_okq (⟨"CoinCircleModel", "isPerson", "(I)Z"⟩, 71) := ⟨⟨by decide +kernel, by decide +kernel⟩, List.mem_of_getElem? (i := 1137) (by decide +kernel), List.mem_of_getElem? (i := 1607) (by decide +kernel), List.mem_of_getElem? (i := 1608) (by decide +kernel)⟩
theorem lw_p102 : lw_okq (⟨"CoinCircleModel", "rankOf", "(I)I"⟩, 71) := ⟨⟨by decide +kernel, by decide +kernel⟩, List.mem_of_getElem? (i := 1137) (by decide +kernel), List.mem_of_getElem? (i := 1611) (by decide +kernel), List.mem_of_getElem? (i := 1612) (by decide +kernel)⟩
theorem lw_p103 : lw_okq (⟨"CoinCircleModel", "worthAll", "(I)I"⟩, 71) := ⟨⟨by decide +kernel, by decide +kernel⟩, List.mem_of_getElem? (i := 1137) (by decide +kernel), List.mem_of_getElem? (i := 1615) (by decide +kernel), List.mem_of_getElem? (i := 1616) (by decide +kernel)⟩
theorem lw_p104 : lw_okq (⟨"CoinCircleModel", "knowing", "(II)I"⟩, 71) := ⟨⟨by decide +kernel, by decide +kernel⟩, List.mem_of_getElem? (i := 1137) (by decide +kernel), List.mem_of_getElem? (i := 1619) (by decide +kernel), List.mem_of_getElem? (i := 1620) (by decide +kernel)⟩
theorem lw_p105 : lw_okq (⟨"CoinCircleModel", "isCoin", "(I)Z"⟩, 71) := ⟨⟨by decide +kernel, by decide +kernel⟩, List.mem_of_getElem? (i := 1137) (by decide +kernel), List.mem_of_getElem? (i := 1627) (by decide +kernel), List.mem_of_getElem? (i := 1628) (by decide +kernel)⟩
theorem lw_p106 : lw_okq (⟨"CoinCircleModel", "canPresent", "(III)Z"⟩, 71) := ⟨⟨by decide +kernel, by decide +kernel⟩, List.mem_of_getElem? (i := 1137) (by decide +kernel), List.mem_of_getElem? (i := 1639) (by decide +kernel), List.mem_of_getElem? (i := 1640) (by decide +kernel)⟩
theorem lw_p107 : lw_okq (⟨"CoinCircleModel", "wouldKnow", "(III)Z"⟩, 71) := ⟨⟨by decide +kernel, by decide +kernel⟩, List.mem_of_getElem? (i := 1137) (by decide +kernel), List.mem_of_getElem? (i := 1643) (by decide +kernel), List.mem_of_getElem? (i := 1644) (by decide +kernel)⟩
theorem lw_p108 : lw_okq (⟨"CoinCircleModel", "holdsTest", "(IIIIII)Z"⟩, 71) := ⟨⟨by decide +kernel, by decide +kernel⟩, List.mem_of_getElem? (i := 1137) (by decide +kernel), List.mem_of_getElem? (i := 1647) (by decide +kernel), List.mem_of_getElem? (i := 1648) (by decide +kernel)⟩
theorem lw_p109 : lw_okq (⟨"CoinCircleModel", "reckons", "(II)J"⟩, 71) := ⟨⟨by decide +kernel, by decide +kernel⟩, List.mem_of_getElem? (i := 1137) (by decide +kernel), List.mem_of_getElem? (i := 1651) (by decide +kernel), List.mem_of_getElem? (i := 1652) (by decide +kernel)⟩
theorem lw_p110 : lw_okq (⟨"CoinCircleModel", "part", "(II)J"⟩, 71) := ⟨⟨by decide +kernel, by decide +kernel⟩, List.mem_of_getElem? (i := 1137) (by decide +kernel), List.mem_of_getElem? (i := 1655) (by decide +kernel), List.mem_of_getElem? (i := 1656) (by decide +kernel)⟩
theorem lw_p111 : lw_okq (⟨"CoinCircleModel", "isWare", "(I)Z"⟩, 71) := ⟨⟨by decide +kernel, by decide +kernel⟩, List.mem_of_getElem? (i := 1137) (by decide +kernel), List.mem_of_getElem? (i := 1674) (by decide +kernel), List.mem_of_getElem? (i := 1675) (by decide +kernel)⟩
def lw_privs_7 : List (MethodName × Nat) := [(⟨"CoinCircleModel", "copies", "(II)V"⟩, 71), (⟨"CoinCircleModel", "flowOf", "(I)I"⟩, 71), (⟨"CoinCircleModel", "worthOf", "(I)I"⟩, 71), (⟨"CoinCircleModel", "isUseless", "(II)Z"⟩, 71), (⟨"CoinCircleModel", "heldBy", "(II)I"⟩, 71), (⟨"CoinCircleModel", "isPerson", "(I)Z"⟩, 71), (⟨"CoinCircleModel", "rankOf", "(I)I"⟩, 71), (⟨"CoinCircleModel", "worthAll", "(I)I"⟩, 71), (⟨"CoinCircleModel", "knowing", "(II)I"⟩, 71), (⟨"CoinCircleModel", "isCoin", "(I)Z"⟩, 71), (⟨"CoinCircleModel", "canPresent", "(III)Z"⟩, 71), (⟨"CoinCircleModel", "wouldKnow", "(III)Z"⟩, 71), (⟨"CoinCircleModel", "holdsTest", "(IIIIII)Z"⟩, 71), (⟨"CoinCircleModel", "reckons", "(II)J"⟩, 71), (⟨"CoinCircleModel", "part", "(II)J"⟩, 71), (⟨"CoinCircleModel", "isWare", "(I)Z"⟩, 71)]
theorem lw_r7 : ∀ q ∈ lw_privs_7, lw_okq q := List.forall_mem_cons.mpr ⟨lw_p96, List.forall_mem_cons.mpr ⟨lw_p97, List.forall_mem_cons.mpr ⟨lw_p98, List.forall_mem_cons.mpr ⟨lw_p99, List.forall_mem_cons.mpr ⟨lw_p100, List.forall_mem_cons.mpr ⟨lw_p101, List.forall_mem_cons.mpr ⟨lw_p102, List.forall_mem_cons.mpr ⟨lw_p103, List.forall_mem_cons.mpr ⟨lw_p104, List.forall_mem_cons.mpr ⟨lw_p105, List.forall_mem_cons.mpr ⟨lw_p106, List.forall_mem_cons.mpr ⟨lw_p107, List.forall_mem_cons.mpr ⟨lw_p108, List.forall_mem_cons.mpr ⟨lw_p109, List.forall_mem_cons.mpr ⟨lw_p110, List.forall_mem_cons.mpr ⟨lw_p111, fun _ h => absurd h List.not_mem_nil⟩⟩⟩⟩⟩⟩⟩⟩⟩⟩⟩⟩⟩⟩⟩⟩
theorem lw_p112 : lw_okq (⟨"CoinCircleModel", "priceFor", "(II)I"⟩, 71) := ⟨⟨by decide +kernel, by decide +kernel⟩, List.mem_of_getElem? (i := 1137) (by decide +kernel), List.mem_of_getElem? (i := 1678) (by decide +kernel), List.mem_of_getElem? (i := 1679) (by decide +kernel)⟩
theorem lw_p113 : lw_okq (⟨"CoinCircleModel", "spends", "(II)I"⟩, 71) := ⟨⟨by decide +kernel, by decide +kernel⟩, List.mem_of_getElem? (i := 1137) (by decide +kernel), List.mem_of_getElem? (i := 1687) (by decide +kernel), List.mem_of_getElem? (i := 1688) (by decide +kernel)⟩
theorem lw_p114 : lw_okq (⟨"CoinCircleModel", "keeps", "()V"⟩, 71) := ⟨⟨by decide +kernel, by decide +kernel⟩, List.mem_of_getElem? (i := 1137) (by decide +kernel), List.mem_of_getElem? (i := 1695) (by decide +kernel), List.mem_of_getElem? (i := 1696) (by decide +kernel)⟩
theorem lw_p115 : lw_okq (⟨"CoinCircleModel", "presents", "(III)Z"⟩, 71) := ⟨⟨by decide +kernel, by decide +kernel⟩, List.mem_of_getElem? (i := 1137) (by decide +kernel), List.mem_of_getElem? (i := 1699) (by decide +kernel), List.mem_of_getElem? (i := 1700) (by decide +kernel)⟩
theorem lw_p116 : lw_okq (⟨"CoinCircleModel", "learns", "(III)V"⟩, 71) := ⟨⟨by decide +kernel, by decide +kernel⟩, List.mem_of_getElem? (i := 1137) (by decide +kernel), List.mem_of_getElem? (i := 1703) (by decide +kernel), List.mem_of_getElem? (i := 1704) (by decide +kernel)⟩
theorem lw_p117 : lw_okq (⟨"CoinCircleModel", "meets", "(III)V"⟩, 71) := ⟨⟨by decide +kernel, by decide +kernel⟩, List.mem_of_getElem? (i := 1137) (by decide +kernel), List.mem_of_getElem? (i := 1707) (by decide +kernel), List.mem_of_getElem? (i := 1708) (by decide +kernel)⟩
theorem lw_p118 : lw_okq (⟨"CoinCircleModel", "pays", "(II)V"⟩, 71) := ⟨⟨by decide +kernel, by decide +kernel⟩, List.mem_of_getElem? (i := 1137) (by decide +kernel), List.mem_of_getElem? (i := 1715) (by decide +kernel), List.mem_of_getElem? (i := 1716) (by decide +kernel)⟩
theorem lw_p119 : lw_okq (⟨"CoinCircleModel", "changeOf", "(II)I"⟩, 71) := ⟨⟨by decide +kernel, by decide +kernel⟩, List.mem_of_getElem? (i := 1137) (by decide +kernel), List.mem_of_getElem? (i := 1723) (by decide +kernel), List.mem_of_getElem? (i := 1724) (by decide +kernel)⟩
theorem lw_p120 : lw_okq (⟨"CoinCircleModel", "teaOf", "(II)I"⟩, 71) := ⟨⟨by decide +kernel, by decide +kernel⟩, List.mem_of_getElem? (i := 1137) (by decide +kernel), List.mem_of_getElem? (i := 1731) (by decide +kernel), List.mem_of_getElem? (i := 1732) (by decide +kernel)⟩
theorem lw_p121 : lw_okq (⟨"CoinCircleModel", "dayGoes", "(I)I"⟩, 71) := ⟨⟨by decide +kernel, by decide +kernel⟩, List.mem_of_getElem? (i := 1137) (by decide +kernel), List.mem_of_getElem? (i := 1739) (by decide +kernel), List.mem_of_getElem? (i := 1740) (by decide +kernel)⟩
theorem lw_p122 : lw_okq (⟨"CoinCircleModel", "draw", "(I)I"⟩, 71) := ⟨⟨by decide +kernel, by decide +kernel⟩, List.mem_of_getElem? (i := 1137) (by decide +kernel), List.mem_of_getElem? (i := 1747) (by decide +kernel), List.mem_of_getElem? (i := 1748) (by decide +kernel)⟩
theorem lw_p123 : lw_okq (⟨"CoinCircleModel", "findsState", "(II)I"⟩, 71) := ⟨⟨by decide +kernel, by decide +kernel⟩, List.mem_of_getElem? (i := 1137) (by decide +kernel), List.mem_of_getElem? (i := 1767) (by decide +kernel), List.mem_of_getElem? (i := 1768) (by decide +kernel)⟩
theorem lw_p124 : lw_okq (⟨"CoinCircleModel", "reaches", "(IIII)V"⟩, 71) := ⟨⟨by decide +kernel, by decide +kernel⟩, List.mem_of_getElem? (i := 1137) (by decide +kernel), List.mem_of_getElem? (i := 1772) (by decide +kernel), List.mem_of_getElem? (i := 1773) (by decide +kernel)⟩
theorem lw_p125 : lw_okq (⟨"CoinCircleModel", "goesOn", "(II)V"⟩, 71) := ⟨⟨by decide +kernel, by decide +kernel⟩, List.mem_of_getElem? (i := 1137) (by decide +kernel), List.mem_of_getElem? (i := 1776) (by decide +kernel), List.mem_of_getElem? (i := 1777) (by decide +kernel)⟩
theorem lw_p126 : lw_okq (⟨"CoinCircleModel", "isAhead", "(I)Z"⟩, 71) := ⟨⟨by decide +kernel, by decide +kernel⟩, List.mem_of_getElem? (i := 1137) (by decide +kernel), List.mem_of_getElem? (i := 1800) (by decide +kernel), List.mem_of_getElem? (i := 1801) (by decide +kernel)⟩
theorem lw_p127 : lw_okq (⟨"CoinCircleModel", "writes", "(I)V"⟩, 71) := ⟨⟨by decide +kernel, by decide +kernel⟩, List.mem_of_getElem? (i := 1137) (by decide +kernel), List.mem_of_getElem? (i := 1812) (by decide +kernel), List.mem_of_getElem? (i := 1813) (by decide +kernel)⟩
def lw_privs_8 : List (MethodName × Nat) := [(⟨"CoinCircleModel", "priceFor", "(II)I"⟩, 71), (⟨"CoinCircleModel", "spends", "(II)I"⟩, 71), (⟨"CoinCircleModel", "keeps", "()V"⟩, 71), (⟨"CoinCircleModel", "presents", "(III)Z"⟩, 71), (⟨"CoinCircleModel", "learns", "(III)V"⟩, 71), (⟨"CoinCircleModel", "meets", "(III)V"⟩, 71), (⟨"CoinCircleModel", "pays", "(II)V"⟩, 71), (⟨"CoinCircleModel", "changeOf", "(II)I"⟩, 71), (⟨"CoinCircleModel", "teaOf", "(II)I"⟩, 71), (⟨"CoinCircleModel", "dayGoes", "(I)I"⟩, 71), (⟨"CoinCircleModel", "draw", "(I)I"⟩, 71), (⟨"CoinCircleModel", "findsState", "(II)I"⟩, 71), (⟨"CoinCircleModel", "reaches", "(IIII)V"⟩, 71), (⟨"CoinCircleModel", "goesOn", "(II)V"⟩, 71), (⟨"CoinCircleModel", "isAhead", "(I)Z"⟩, 71), (⟨"CoinCircleModel", "writes", "(I)V"⟩, 71)]
theorem lw_r8 : ∀ q ∈ lw_privs_8, lw_okq q := List.forall_mem_cons.mpr ⟨lw_p112, List.forall_mem_cons.mpr ⟨lw_p113, List.forall_mem_cons.mpr ⟨lw_p114, List.forall_mem_cons.mpr ⟨lw_p115, List.forall_mem_cons.mpr ⟨lw_p116, List.forall_mem_cons.mpr ⟨lw_p117, List.forall_mem_cons.mpr ⟨lw_p118, List.forall_mem_cons.mpr ⟨lw_p119, List.forall_mem_cons.mpr ⟨lw_p120, List.forall_mem_cons.mpr ⟨lw_p121, List.forall_mem_cons.mpr ⟨lw_p122, List.forall_mem_cons.mpr ⟨lw_p123, List.forall_mem_cons.mpr ⟨lw_p124, List.forall_mem_cons.mpr ⟨lw_p125, List.forall_mem_cons.mpr ⟨lw_p126, List.forall_mem_cons.mpr ⟨lw_p127, fun _ h => absurd h List.not_mem_nil⟩⟩⟩⟩⟩⟩⟩⟩⟩⟩⟩⟩⟩⟩⟩⟩
theorem lw_p128 : lw_okq (⟨"CoinCircleModel", "toldOf", "(II)I"⟩, 71) := ⟨⟨by decide +kernel, by decide +kernel⟩, List.mem_of_getElem? (i := 1137) (by decide +kernel), List.mem_of_getElem? (i := 1816) (by decide +kernel), List.mem_of_getElem? (i := 1817) (by decide +kernel)⟩
theorem lw_p129 : lw_okq (⟨"CoinCircleModel", "comesOn", "(I)Z"⟩, 71) := ⟨⟨by decide +kernel, by decide +kernel⟩, List.mem_of_getElem? (i := 1137) (by decide +kernel), List.mem_of_getElem? (i := 1828) (by decide +kernel), List.mem_of_getElem? (i := 1829) (by decide +kernel)⟩
theorem lw_p130 : lw_okq (⟨"CoinCircleModel", "coinOn", "(II)Z"⟩, 71) := ⟨⟨by decide +kernel, by decide +kernel⟩, List.mem_of_getElem? (i := 1137) (by decide +kernel), List.mem_of_getElem? (i := 1832) (by decide +kernel), List.mem_of_getElem? (i := 1833) (by decide +kernel)⟩
def lw_privs_9 : List (MethodName × Nat) := [(⟨"CoinCircleModel", "toldOf", "(II)I"⟩, 71), (⟨"CoinCircleModel", "comesOn", "(I)Z"⟩, 71), (⟨"CoinCircleModel", "coinOn", "(II)Z"⟩, 71)]
theorem lw_r9 : ∀ q ∈ lw_privs_9, lw_okq q := List.forall_mem_cons.mpr ⟨lw_p128, List.forall_mem_cons.mpr ⟨lw_p129, List.forall_mem_cons.mpr ⟨lw_p130, fun _ h => absurd h List.not_mem_nil⟩⟩⟩
def lw_privs : List (MethodName × Nat) := lw_privs_1 ++ (lw_privs_2 ++ (lw_privs_3 ++ (lw_privs_4 ++ (lw_privs_5 ++ (lw_privs_6 ++ (lw_privs_7 ++ (lw_privs_8 ++ (lw_privs_9))))))))
def lw_tbl : List Cond := k2_sels lw_privs ++ tables_1
theorem lw_privs_ok : ∀ q ∈ lw_privs, lw_okq q := by
  show ∀ q ∈ lw_privs_1 ++ (lw_privs_2 ++ (lw_privs_3 ++ (lw_privs_4 ++ (lw_privs_5 ++ (lw_privs_6 ++ (lw_privs_7 ++ (lw_privs_8 ++ (lw_privs_9)))))))), lw_okq q
  exact List.forall_mem_append.mpr ⟨lw_r1, List.forall_mem_append.mpr ⟨lw_r2, List.forall_mem_append.mpr ⟨lw_r3, List.forall_mem_append.mpr ⟨lw_r4, List.forall_mem_append.mpr ⟨lw_r5, List.forall_mem_append.mpr ⟨lw_r6, List.forall_mem_append.mpr ⟨lw_r7, List.forall_mem_append.mpr ⟨lw_r8, lw_r9⟩⟩⟩⟩⟩⟩⟩⟩
theorem goodIn_r {big : List Cond} (ws : List Cond) (ps : List Nat) (hp : ws = ps.filterMap (fun i => big[i]?)) (h : ws.all goodWord = true) : GoodIn big ws := by
  intro w hw
  have h1 := List.all_eq_true.mp h w hw
  rw [hp] at hw
  obtain ⟨i, -, hi⟩ := List.mem_filterMap.mp hw
  have hm : w ∈ big := by first | exact List.mem_of_getElem? hi | exact List.getElem?_mem hi
  exact ⟨hm, good_of_word h1⟩
theorem goodIn_app {big a b : List Cond} (ha : GoodIn big a) (hb : GoodIn big b) : GoodIn big (a ++ b) := fun w h => (List.mem_append.mp h).elim (ha w) (hb w)
theorem goodIn_ca {big a b : List Cond} {c : Cond} (ha : GoodIn big (c :: a)) (hb : GoodIn big b) : GoodIn big (c :: (a ++ b)) := fun w h => (List.mem_cons.mp h).elim (fun e => ha w (List.mem_cons.mpr (Or.inl e))) (fun h => (List.mem_append.mp h).elim (fun h => ha w (List.mem_cons.mpr (Or.inr h))) (hb w))
theorem goodIn_sub {big ws : List Cond} (hm : ∀ w ∈ ws, w ∈ big) (h : ws.all goodWord = true) : GoodIn big ws := fun w hw => ⟨hm w hw, good_of_word (List.all_eq_true.mp h w hw)⟩
def RX0 : String := "CoinCircle$Circle"
def TX0 : u_T := fun k => match k with
  | 0 => ("CoinCircle$Circle", "ledger", "LCoinCircle$Ledger;", true)
  | 1 => ("CoinCircle$Circle", "society", "LCoinCircle$Society;", false)
  | _ => ("CoinCircle$Circle", "facts", "[I", true)
def tyX0 : Nat → FieldType := fun k => match k with
  | 0 => .object "CoinCircle$Ledger"
  | 1 => .object "CoinCircle$Society"
  | _ => .array .int
abbrev wsX00 : List Cond := u_ws RX0 TX0 3
theorem nmX0 : ∀ a, a < 3 → ∀ b, b < 3 → a ≠ b → (TX0 a).2.1 ≠ (TX0 b).2.1 := by decide +kernel
theorem tyX0_ok : ∀ k, k < 3 → parseFieldDescriptor (TX0 k).2.2.1 = some (tyX0 k) := by decide +kernel
abbrev cX0_init : ByteArray := prog_2_method_1_code
def yX0_init : MethodName := ⟨RX0, "<init>", "(LCoinCircle$Society;)V"⟩
abbrev cX0_begin : ByteArray := prog_2_method_2_code
def yX0_begin : MethodName := ⟨RX0, "begin", "(LCoinCircle$Society;)V"⟩
abbrev cX0_coins : ByteArray := prog_2_method_3_code
def yX0_coins : MethodName := ⟨RX0, "coins", "()I"⟩
abbrev cX0_knows : ByteArray := prog_2_method_4_code
def yX0_knows : MethodName := ⟨RX0, "knows", "(II)Z"⟩
abbrev cX0_heldBy : ByteArray := prog_2_method_5_code
def yX0_heldBy : MethodName := ⟨RX0, "heldBy", "(I)I"⟩
abbrev cX0_knowing : ByteArray := prog_2_method_6_code
def yX0_knowing : MethodName := ⟨RX0, "knowing", "(I)I"⟩
abbrev cX0_snubbedBy : ByteArray := prog_2_method_7_code
def yX0_snubbedBy : MethodName := ⟨RX0, "snubbedBy", "(I)I"⟩
abbrev cX0_flow : ByteArray := prog_2_method_8_code
def yX0_flow : MethodName := ⟨RX0, "flow", "()I"⟩
abbrev cX0_snubCount : ByteArray := prog_2_method_9_code
def yX0_snubCount : MethodName := ⟨RX0, "snubCount", "()I"⟩
abbrev cX0_knowingAllCount : ByteArray := prog_2_method_10_code
def yX0_knowingAllCount : MethodName := ⟨RX0, "knowingAllCount", "()I"⟩
abbrev cX0_isUseless : ByteArray := prog_2_method_11_code
def yX0_isUseless : MethodName := ⟨RX0, "isUseless", "(I)Z"⟩
abbrev cX0_uselessPurses : ByteArray := prog_2_method_12_code
def yX0_uselessPurses : MethodName := ⟨RX0, "uselessPurses", "()I"⟩
abbrev cX0_canSpend : ByteArray := prog_2_method_13_code
def yX0_canSpend : MethodName := ⟨RX0, "canSpend", "(II)I"⟩
abbrev cX0_canBePresented : ByteArray := prog_2_method_14_code
def yX0_canBePresented : MethodName := ⟨RX0, "canBePresented", "(II)Z"⟩
abbrev cX0_testHolds : ByteArray := prog_2_method_15_code
def yX0_testHolds : MethodName := ⟨RX0, "testHolds", "(II)Z"⟩
abbrev cX0_testWouldHold : ByteArray := prog_2_method_16_code
def yX0_testWouldHold : MethodName := ⟨RX0, "testWouldHold", "(IIIII)Z"⟩
abbrev cX0_putFacts : ByteArray := prog_2_method_17_code
def yX0_putFacts : MethodName := ⟨RX0, "putFacts", "(IIIII)V"⟩
abbrev cX0_priceFor : ByteArray := prog_2_method_18_code
def yX0_priceFor : MethodName := ⟨RX0, "priceFor", "(II)I"⟩
abbrev cX0_meet : ByteArray := prog_2_method_19_code
def yX0_meet : MethodName := ⟨RX0, "meet", "(II)V"⟩
abbrev cX0_presentTo : ByteArray := prog_2_method_20_code
def yX0_presentTo : MethodName := ⟨RX0, "presentTo", "(II)Z"⟩
abbrev cX0_payTo : ByteArray := prog_2_method_21_code
def yX0_payTo : MethodName := ⟨RX0, "payTo", "(II)V"⟩
abbrev cX0_payAll : ByteArray := prog_2_method_22_code
def yX0_payAll : MethodName := ⟨RX0, "payAll", "(II)V"⟩
abbrev cX0_changeOf : ByteArray := prog_2_method_23_code
def yX0_changeOf : MethodName := ⟨RX0, "changeOf", "(III)I"⟩
abbrev cX0_takeTea : ByteArray := prog_2_method_24_code
def yX0_takeTea : MethodName := ⟨RX0, "takeTea", "(I)I"⟩
abbrev cX0_passDays : ByteArray := prog_2_method_25_code
def yX0_passDays : MethodName := ⟨RX0, "passDays", "(I)I"⟩
abbrev cX0_forget : ByteArray := prog_2_method_26_code
def yX0_forget : MethodName := ⟨RX0, "forget", "(I)I"⟩
abbrev cX0_introductions : ByteArray := prog_2_method_27_code
def yX0_introductions : MethodName := ⟨RX0, "introductions", "(III)I"⟩
abbrev cX0_worthiest : ByteArray := prog_2_method_28_code
def yX0_worthiest : MethodName := ⟨RX0, "worthiest", "(II)I"⟩
abbrev cX0_letterVerdict : ByteArray := prog_2_method_29_code
def yX0_letterVerdict : MethodName := ⟨RX0, "letterVerdict", "(II)I"⟩
abbrev cX0_standing : ByteArray := prog_2_method_30_code
def yX0_standing : MethodName := ⟨RX0, "standing", "(II)I"⟩
abbrev cX0_stand : ByteArray := prog_2_method_31_code
def yX0_stand : MethodName := ⟨RX0, "stand", "(III)V"⟩
def RX1 : String := "CoinCircle$Formula"
def TX1 : u_T := fun k => match k with
  | 0 => ("CoinCircle$Formula", "cells", "[I", true)
  | 1 => ("CoinCircle$Formula", "size", "I", false)
  | _ => ("CoinCircle$Formula", "waiting", "[I", true)
def tyX1 : Nat → FieldType := fun k => match k with
  | 0 => .array .int
  | 1 => .int
  | _ => .array .int
abbrev wsX10 : List Cond := u_ws RX1 TX1 3
theorem nmX1 : ∀ a, a < 3 → ∀ b, b < 3 → a ≠ b → (TX1 a).2.1 ≠ (TX1 b).2.1 := by decide +kernel
theorem tyX1_ok : ∀ k, k < 3 → parseFieldDescriptor (TX1 k).2.2.1 = some (tyX1 k) := by decide +kernel
abbrev cX1_init : ByteArray := prog_3_method_1_code
def yX1_init : MethodName := ⟨RX1, "<init>", "()V"⟩
abbrev cX1_clear : ByteArray := prog_3_method_2_code
def yX1_clear : MethodName := ⟨RX1, "clear", "()V"⟩
abbrev cX1_isTold : ByteArray := prog_3_method_3_code
def yX1_isTold : MethodName := ⟨RX1, "isTold", "()Z"⟩
abbrev cX1_add : ByteArray := prog_3_method_4_code
def yX1_add : MethodName := ⟨RX1, "add", "(I)V"⟩
abbrev cX1_value : ByteArray := prog_3_method_5_code
def yX1_value : MethodName := ⟨RX1, "value", "([I)I"⟩
abbrev cX1_factOf : ByteArray := prog_3_method_6_code
def yX1_factOf : MethodName := ⟨RX1, "factOf", "([II)I"⟩
abbrev cX1_done : ByteArray := prog_3_method_7_code
def yX1_done : MethodName := ⟨RX1, "done", "(IJJ)J"⟩
abbrev cX1_bounded : ByteArray := prog_3_method_8_code
def yX1_bounded : MethodName := ⟨RX1, "bounded", "(J)I"⟩
def RX2 : String := "CoinCircle$History"
def TX2 : u_T := fun k => match k with
  | 0 => ("CoinCircle$History", "ledgers", "[LCoinCircle$Ledger;", true)
  | 1 => ("CoinCircle$History", "next", "I", false)
  | _ => ("CoinCircle$History", "count", "I", false)
def tyX2 : Nat → FieldType := fun k => match k with
  | 0 => .array (.object "CoinCircle$Ledger")
  | 1 => .int
  | _ => .int
abbrev wsX20 : List Cond := u_ws RX2 TX2 3
theorem nmX2 : ∀ a, a < 3 → ∀ b, b < 3 → a ≠ b → (TX2 a).2.1 ≠ (TX2 b).2.1 := by decide +kernel
theorem tyX2_ok : ∀ k, k < 3 → parseFieldDescriptor (TX2 k).2.2.1 = some (tyX2 k) := by decide +kernel
abbrev cX2_init : ByteArray := prog_4_method_1_code
def yX2_init : MethodName := ⟨RX2, "<init>", "()V"⟩
abbrev cX2_clear : ByteArray := prog_4_method_2_code
def yX2_clear : MethodName := ⟨RX2, "clear", "()V"⟩
abbrev cX2_keep : ByteArray := prog_4_method_3_code
def yX2_keep : MethodName := ⟨RX2, "keep", "(LCoinCircle$Ledger;)V"⟩
abbrev cX2_giveBack : ByteArray := prog_4_method_4_code
def yX2_giveBack : MethodName := ⟨RX2, "giveBack", "(LCoinCircle$Ledger;)V"⟩
def RX3 : String := "CoinCircle$Ledger"
def TX3 : u_T := fun k => match k with
  | 0 => ("CoinCircle$Ledger", "day", "I", false)
  | 1 => ("CoinCircle$Ledger", "holders", "[I", true)
  | 2 => ("CoinCircle$Ledger", "known", "[I", true)
  | 3 => ("CoinCircle$Ledger", "snubs", "[I", true)
  | _ => ("CoinCircle$Ledger", "met", "[I", true)
def tyX3 : Nat → FieldType := fun k => match k with
  | 0 => .int
  | 1 => .array .int
  | 2 => .array .int
  | 3 => .array .int
  | _ => .array .int
abbrev wsX30 : List Cond := u_ws RX3 TX3 5
theorem nmX3 : ∀ a, a < 5 → ∀ b, b < 5 → a ≠ b → (TX3 a).2.1 ≠ (TX3 b).2.1 := by decide +kernel
theorem tyX3_ok : ∀ k, k < 5 → parseFieldDescriptor (TX3 k).2.2.1 = some (tyX3 k) := by decide +kernel
abbrev cX3_init : ByteArray := prog_5_method_1_code
def yX3_init : MethodName := ⟨RX3, "<init>", "()V"⟩
abbrev cX3_copyFrom : ByteArray := prog_5_method_2_code
def yX3_copyFrom : MethodName := ⟨RX3, "copyFrom", "(LCoinCircle$Ledger;)V"⟩
abbrev cX3_metOn : ByteArray := prog_5_method_3_code
def yX3_metOn : MethodName := ⟨RX3, "metOn", "(II)I"⟩
abbrev cX3_setMet : ByteArray := prog_5_method_4_code
def yX3_setMet : MethodName := ⟨RX3, "setMet", "(III)V"⟩
def RX4 : String := "CoinCircle$Scanner"
def TX4 : u_T := fun k => match k with
  | 0 => ("CoinCircle$Scanner", "ownWords", "[J", true)
  | 1 => ("CoinCircle$Scanner", "kinds", "[I", true)
  | 2 => ("CoinCircle$Scanner", "values", "[I", true)
  | 3 => ("CoinCircle$Scanner", "starts", "[I", true)
  | 4 => ("CoinCircle$Scanner", "places", "[I", true)
  | 5 => ("CoinCircle$Scanner", "count", "I", false)
  | 6 => ("CoinCircle$Scanner", "looked", "I", false)
  | 7 => ("CoinCircle$Scanner", "at", "I", false)
  | 8 => ("CoinCircle$Scanner", "kind", "I", false)
  | 9 => ("CoinCircle$Scanner", "value", "I", false)
  | 10 => ("CoinCircle$Scanner", "start", "I", false)
  | _ => ("CoinCircle$Scanner", "place", "I", false)
def tyX4 : Nat → FieldType := fun k => match k with
  | 0 => .array .long
  | 1 => .array .int
  | 2 => .array .int
  | 3 => .array .int
  | 4 => .array .int
  | 5 => .int
  | 6 => .int
  | 7 => .int
  | 8 => .int
  | 9 => .int
  | 10 => .int
  | _ => .int
abbrev wsX40 : List Cond := u_ws RX4 TX4 12
theorem nmX4 : ∀ a, a < 12 → ∀ b, b < 12 → a ≠ b → (TX4 a).2.1 ≠ (TX4 b).2.1 := by decide +kernel
theorem tyX4_ok : ∀ k, k < 12 → parseFieldDescriptor (TX4 k).2.2.1 = some (tyX4 k) := by decide +kernel
abbrev cX4_init : ByteArray := prog_6_method_1_code
def yX4_init : MethodName := ⟨RX4, "<init>", "()V"⟩
abbrev cX4_read : ByteArray := prog_6_method_2_code
def yX4_read : MethodName := ⟨RX4, "read", "([BI)V"⟩
abbrev cX4_next : ByteArray := prog_6_method_3_code
def yX4_next : MethodName := ⟨RX4, "next", "()V"⟩
abbrev cX4_readOne : ByteArray := prog_6_method_4_code
def yX4_readOne : MethodName := ⟨RX4, "readOne", "([BI)V"⟩
abbrev cX4_skipBlanks : ByteArray := prog_6_method_5_code
def yX4_skipBlanks : MethodName := ⟨RX4, "skipBlanks", "([BI)V"⟩
abbrev cX4_readWord : ByteArray := prog_6_method_6_code
def yX4_readWord : MethodName := ⟨RX4, "readWord", "([BI)V"⟩
abbrev cX4_ownWordOf : ByteArray := prog_6_method_7_code
def yX4_ownWordOf : MethodName := ⟨RX4, "ownWordOf", "(J)I"⟩
abbrev cX4_readNumber : ByteArray := prog_6_method_8_code
def yX4_readNumber : MethodName := ⟨RX4, "readNumber", "([BI)V"⟩
abbrev cX4_isLetter : ByteArray := prog_6_method_9_code
def yX4_isLetter : MethodName := ⟨RX4, "isLetter", "(B)Z"⟩
abbrev cX4_isDigit : ByteArray := prog_6_method_10_code
def yX4_isDigit : MethodName := ⟨RX4, "isDigit", "(B)Z"⟩
abbrev cX4_isSign : ByteArray := prog_6_method_11_code
def yX4_isSign : MethodName := ⟨RX4, "isSign", "(C)Z"⟩
abbrev cX4_isOwnWord : ByteArray := prog_6_method_12_code
def yX4_isOwnWord : MethodName := ⟨RX4, "isOwnWord", "(I)Z"⟩
def RX5 : String := "CoinCircle$Society"
def TX5 : u_T := fun k => match k with
  | 0 => ("CoinCircle$Society", "counts", "[I", true)
  | 1 => ("CoinCircle$Society", "names", "[I", true)
  | 2 => ("CoinCircle$Society", "ranks", "[I", true)
  | 3 => ("CoinCircle$Society", "worths", "[I", true)
  | 4 => ("CoinCircle$Society", "holders", "[I", true)
  | 5 => ("CoinCircle$Society", "known", "[I", true)
  | 6 => ("CoinCircle$Society", "snubs", "[I", true)
  | 7 => ("CoinCircle$Society", "goodsWorths", "[I", true)
  | 8 => ("CoinCircle$Society", "sellers", "[I", true)
  | 9 => ("CoinCircle$Society", "presents", "LCoinCircle$Formula;", true)
  | 10 => ("CoinCircle$Society", "price", "LCoinCircle$Formula;", true)
  | 11 => ("CoinCircle$Society", "fades", "I", false)
  | _ => ("CoinCircle$Society", "vogue", "I", false)
def tyX5 : Nat → FieldType := fun k => match k with
  | 0 => .array .int
  | 1 => .array .int
  | 2 => .array .int
  | 3 => .array .int
  | 4 => .array .int
  | 5 => .array .int
  | 6 => .array .int
  | 7 => .array .int
  | 8 => .array .int
  | 9 => .object "CoinCircle$Formula"
  | 10 => .object "CoinCircle$Formula"
  | 11 => .int
  | _ => .int
abbrev wsX50 : List Cond := u_ws RX5 TX5 13
theorem nmX5 : ∀ a, a < 13 → ∀ b, b < 13 → a ≠ b → (TX5 a).2.1 ≠ (TX5 b).2.1 := by decide +kernel
theorem tyX5_ok : ∀ k, k < 13 → parseFieldDescriptor (TX5 k).2.2.1 = some (tyX5 k) := by decide +kernel
abbrev cX5_init : ByteArray := prog_7_method_1_code
def yX5_init : MethodName := ⟨RX5, "<init>", "()V"⟩
abbrev cX5_clear : ByteArray := prog_7_method_2_code
def yX5_clear : MethodName := ⟨RX5, "clear", "()V"⟩
abbrev cX5_most : ByteArray := prog_7_method_3_code
def yX5_most : MethodName := ⟨RX5, "most", "(I)I"⟩
abbrev cX5_isFull : ByteArray := prog_7_method_4_code
def yX5_isFull : MethodName := ⟨RX5, "isFull", "(I)Z"⟩
abbrev cX5_isThere : ByteArray := prog_7_method_5_code
def yX5_isThere : MethodName := ⟨RX5, "isThere", "(II)Z"⟩
abbrev cX5_nameOf : ByteArray := prog_7_method_6_code
def yX5_nameOf : MethodName := ⟨RX5, "nameOf", "(II)I"⟩
abbrev cX5_find : ByteArray := prog_7_method_7_code
def yX5_find : MethodName := ⟨RX5, "find", "(II)I"⟩
abbrev cX5_isGiven : ByteArray := prog_7_method_8_code
def yX5_isGiven : MethodName := ⟨RX5, "isGiven", "(I)Z"⟩
abbrev cX5_give : ByteArray := prog_7_method_9_code
def yX5_give : MethodName := ⟨RX5, "give", "(II)I"⟩
abbrev cX5_allPeople : ByteArray := prog_7_method_10_code
def yX5_allPeople : MethodName := ⟨RX5, "allPeople", "()I"⟩
abbrev cX5_worthOf : ByteArray := prog_7_method_11_code
def yX5_worthOf : MethodName := ⟨RX5, "worthOf", "(I)I"⟩
abbrev cX5_difference : ByteArray := prog_7_method_12_code
def yX5_difference : MethodName := ⟨RX5, "difference", "(II)I"⟩
abbrev cX5_fairPurse : ByteArray := prog_7_method_13_code
def yX5_fairPurse : MethodName := ⟨RX5, "fairPurse", "(I)I"⟩
abbrev cX5_fewestWorth : ByteArray := prog_7_method_14_code
def yX5_fewestWorth : MethodName := ⟨RX5, "fewestWorth", "(II)I"⟩
def RX6 : String := "CoinCircle$Teller"
def TX6 : u_T := fun k => match k with
  | 0 => ("CoinCircle$Teller", "scan", "LCoinCircle$Scanner;", true)
  | 1 => ("CoinCircle$Teller", "draft", "LCoinCircle$Society;", false)
  | 2 => ("CoinCircle$Teller", "formula", "LCoinCircle$Formula;", false)
  | 3 => ("CoinCircle$Teller", "open", "I", false)
  | 4 => ("CoinCircle$Teller", "fault", "I", false)
  | _ => ("CoinCircle$Teller", "place", "I", false)
def tyX6 : Nat → FieldType := fun k => match k with
  | 0 => .object "CoinCircle$Scanner"
  | 1 => .object "CoinCircle$Society"
  | 2 => .object "CoinCircle$Formula"
  | 3 => .int
  | 4 => .int
  | _ => .int
abbrev wsX60 : List Cond := u_ws RX6 TX6 6
theorem nmX6 : ∀ a, a < 6 → ∀ b, b < 6 → a ≠ b → (TX6 a).2.1 ≠ (TX6 b).2.1 := by decide +kernel
theorem tyX6_ok : ∀ k, k < 6 → parseFieldDescriptor (TX6 k).2.2.1 = some (tyX6 k) := by decide +kernel
abbrev cX6_init : ByteArray := prog_8_method_1_code
def yX6_init : MethodName := ⟨RX6, "<init>", "()V"⟩
abbrev cX6_exchange : ByteArray := prog_8_method_2_code
def yX6_exchange : MethodName := ⟨RX6, "exchange", "(LCoinCircle$Society;)LCoinCircle$Society;"⟩
abbrev cX6_tell : ByteArray := prog_8_method_3_code
def yX6_tell : MethodName := ⟨RX6, "tell", "([BI)I"⟩
abbrev cX6_statement : ByteArray := prog_8_method_4_code
def yX6_statement : MethodName := ⟨RX6, "statement", "()Z"⟩
abbrev cX6_tellPerson : ByteArray := prog_8_method_5_code
def yX6_tellPerson : MethodName := ⟨RX6, "tellPerson", "()Z"⟩
abbrev cX6_tellCoin : ByteArray := prog_8_method_6_code
def yX6_tellCoin : MethodName := ⟨RX6, "tellCoin", "()Z"⟩
abbrev cX6_tellKnown : ByteArray := prog_8_method_7_code
def yX6_tellKnown : MethodName := ⟨RX6, "tellKnown", "(I)Z"⟩
abbrev cX6_tellGoods : ByteArray := prog_8_method_8_code
def yX6_tellGoods : MethodName := ⟨RX6, "tellGoods", "()Z"⟩
abbrev cX6_tellSnub : ByteArray := prog_8_method_9_code
def yX6_tellSnub : MethodName := ⟨RX6, "tellSnub", "()Z"⟩
abbrev cX6_tellFades : ByteArray := prog_8_method_10_code
def yX6_tellFades : MethodName := ⟨RX6, "tellFades", "()Z"⟩
abbrev cX6_tellVogue : ByteArray := prog_8_method_11_code
def yX6_tellVogue : MethodName := ⟨RX6, "tellVogue", "()Z"⟩
abbrev cX6_tellPresents : ByteArray := prog_8_method_12_code
def yX6_tellPresents : MethodName := ⟨RX6, "tellPresents", "()Z"⟩
abbrev cX6_tellPrice : ByteArray := prog_8_method_13_code
def yX6_tellPrice : MethodName := ⟨RX6, "tellPrice", "()Z"⟩
abbrev cX6_fail : ByteArray := prog_8_method_14_code
def yX6_fail : MethodName := ⟨RX6, "fail", "(I)Z"⟩
abbrev cX6_sign : ByteArray := prog_8_method_15_code
def yX6_sign : MethodName := ⟨RX6, "sign", "(C)Z"⟩
abbrev cX6_word : ByteArray := prog_8_method_16_code
def yX6_word : MethodName := ⟨RX6, "word", "(I)Z"⟩
abbrev cX6_number : ByteArray := prog_8_method_17_code
def yX6_number : MethodName := ⟨RX6, "number", "(II)I"⟩
abbrev cX6_newOne : ByteArray := prog_8_method_18_code
def yX6_newOne : MethodName := ⟨RX6, "newOne", "(I)I"⟩
abbrev cX6_asked : ByteArray := prog_8_method_19_code
def yX6_asked : MethodName := ⟨RX6, "asked", "(II)I"⟩
abbrev cX6_enter : ByteArray := prog_8_method_20_code
def yX6_enter : MethodName := ⟨RX6, "enter", "()Z"⟩
abbrev cX6_test : ByteArray := prog_8_method_21_code
def yX6_test : MethodName := ⟨RX6, "test", "()Z"⟩
abbrev cX6_both : ByteArray := prog_8_method_22_code
def yX6_both : MethodName := ⟨RX6, "both", "()Z"⟩
abbrev cX6_fact : ByteArray := prog_8_method_23_code
def yX6_fact : MethodName := ⟨RX6, "fact", "()Z"⟩
abbrev cX6_inBrackets : ByteArray := prog_8_method_24_code
def yX6_inBrackets : MethodName := ⟨RX6, "inBrackets", "()Z"⟩
abbrev cX6_notFact : ByteArray := prog_8_method_25_code
def yX6_notFact : MethodName := ⟨RX6, "notFact", "()Z"⟩
abbrev cX6_sum : ByteArray := prog_8_method_26_code
def yX6_sum : MethodName := ⟨RX6, "sum", "()Z"⟩
abbrev cX6_product : ByteArray := prog_8_method_27_code
def yX6_product : MethodName := ⟨RX6, "product", "()Z"⟩
abbrev cX6_part : ByteArray := prog_8_method_28_code
def yX6_part : MethodName := ⟨RX6, "part", "()Z"⟩
abbrev cX6_inParentheses : ByteArray := prog_8_method_29_code
def yX6_inParentheses : MethodName := ⟨RX6, "inParentheses", "()Z"⟩
abbrev cX6_oneOfTwo : ByteArray := prog_8_method_30_code
def yX6_oneOfTwo : MethodName := ⟨RX6, "oneOfTwo", "(I)Z"⟩
abbrev cX6_comparison : ByteArray := prog_8_method_31_code
def yX6_comparison : MethodName := ⟨RX6, "comparison", "()I"⟩
abbrev cX6_productDeed : ByteArray := prog_8_method_32_code
def yX6_productDeed : MethodName := ⟨RX6, "productDeed", "()I"⟩
abbrev cX6_factWord : ByteArray := prog_8_method_33_code
def yX6_factWord : MethodName := ⟨RX6, "factWord", "()I"⟩
def RX7 : String := "CoinCircle$Ways"
def TX7 : u_T := fun k => match k with
  | 0 => ("CoinCircle$Ways", "reached", "[I", true)
  | 1 => ("CoinCircle$Ways", "queue", "[I", true)
  | 2 => ("CoinCircle$Ways", "queueLength", "I", false)
  | 3 => ("CoinCircle$Ways", "verdicts", "[I", true)
  | 4 => ("CoinCircle$Ways", "holds", "[I", true)
  | 5 => ("CoinCircle$Ways", "people", "I", false)
  | 6 => ("CoinCircle$Ways", "acts", "[I", true)
  | _ => ("CoinCircle$Ways", "length", "I", false)
def tyX7 : Nat → FieldType := fun k => match k with
  | 0 => .array .int
  | 1 => .array .int
  | 2 => .int
  | 3 => .array .int
  | 4 => .array .int
  | 5 => .int
  | 6 => .array .int
  | _ => .int
abbrev wsX70 : List Cond := u_ws RX7 TX7 8
theorem nmX7 : ∀ a, a < 8 → ∀ b, b < 8 → a ≠ b → (TX7 a).2.1 ≠ (TX7 b).2.1 := by decide +kernel
theorem tyX7_ok : ∀ k, k < 8 → parseFieldDescriptor (TX7 k).2.2.1 = some (tyX7 k) := by decide +kernel
abbrev cX7_init : ByteArray := prog_9_method_1_code
def yX7_init : MethodName := ⟨RX7, "<init>", "()V"⟩
abbrev cX7_find : ByteArray := prog_9_method_2_code
def yX7_find : MethodName := ⟨RX7, "find", "(LCoinCircle$Circle;II)I"⟩
abbrev cX7_act : ByteArray := prog_9_method_3_code
def yX7_act : MethodName := ⟨RX7, "act", "(I)I"⟩
abbrev cX7_begin : ByteArray := prog_9_method_4_code
def yX7_begin : MethodName := ⟨RX7, "begin", "(LCoinCircle$Circle;I)V"⟩
abbrev cX7_stateOf : ByteArray := prog_9_method_5_code
def yX7_stateOf : MethodName := ⟨RX7, "stateOf", "(II)I"⟩
abbrev cX7_reach : ByteArray := prog_9_method_6_code
def yX7_reach : MethodName := ⟨RX7, "reach", "(III)V"⟩
abbrev cX7_payFrom : ByteArray := prog_9_method_7_code
def yX7_payFrom : MethodName := ⟨RX7, "payFrom", "(III)I"⟩
abbrev cX7_presentFrom : ByteArray := prog_9_method_8_code
def yX7_presentFrom : MethodName := ⟨RX7, "presentFrom", "(LCoinCircle$Circle;II)V"⟩
abbrev cX7_testHolds : ByteArray := prog_9_method_9_code
def yX7_testHolds : MethodName := ⟨RX7, "testHolds", "(LCoinCircle$Circle;IIII)Z"⟩
abbrev cX7_trace : ByteArray := prog_9_method_10_code
def yX7_trace : MethodName := ⟨RX7, "trace", "(I)V"⟩
def RX8 : String := "CoinCircle"
def TX8 : u_T := fun k => match k with
  | 0 => ("CoinCircle", "tape", "[B", true)
  | 1 => ("CoinCircle", "tapeLength", "I", false)
  | 2 => ("CoinCircle", "teller", "LCoinCircle$Teller;", true)
  | 3 => ("CoinCircle", "society", "LCoinCircle$Society;", false)
  | 4 => ("CoinCircle", "now", "LCoinCircle$Circle;", true)
  | 5 => ("CoinCircle", "trial", "LCoinCircle$Circle;", true)
  | 6 => ("CoinCircle", "history", "LCoinCircle$History;", true)
  | 7 => ("CoinCircle", "ways", "LCoinCircle$Ways;", true)
  | 8 => ("CoinCircle", "refused", "[I", true)
  | 9 => ("CoinCircle", "letterVerdicts", "[I", true)
  | 10 => ("CoinCircle", "letterCount", "I", false)
  | 11 => ("CoinCircle", "image", "[B", true)
  | 12 => ("CoinCircle", "imageLength", "I", false)
  | _ => ("CoinCircle", "seed", "I", false)
def tyX8 : Nat → FieldType := fun k => match k with
  | 0 => .array .byte
  | 1 => .int
  | 2 => .object "CoinCircle$Teller"
  | 3 => .object "CoinCircle$Society"
  | 4 => .object "CoinCircle$Circle"
  | 5 => .object "CoinCircle$Circle"
  | 6 => .object "CoinCircle$History"
  | 7 => .object "CoinCircle$Ways"
  | 8 => .array .int
  | 9 => .array .int
  | 10 => .int
  | 11 => .array .byte
  | 12 => .int
  | _ => .int
abbrev wsX80 : List Cond := u_ws RX8 TX8 14
theorem nmX8 : ∀ a, a < 14 → ∀ b, b < 14 → a ≠ b → (TX8 a).2.1 ≠ (TX8 b).2.1 := by decide +kernel
theorem tyX8_ok : ∀ k, k < 14 → parseFieldDescriptor (TX8 k).2.2.1 = some (tyX8 k) := by decide +kernel
abbrev cX8_init : ByteArray := prog_1_method_1_code
def yX8_init : MethodName := ⟨RX8, "<init>", "()V"⟩
abbrev cX8_feed : ByteArray := prog_1_method_2_code
def yX8_feed : MethodName := ⟨RX8, "feed", "(IIIII)I"⟩
abbrev cX8_putNumber : ByteArray := prog_1_method_3_code
def yX8_putNumber : MethodName := ⟨RX8, "putNumber", "(II)V"⟩
abbrev cX8_tapeByte : ByteArray := prog_1_method_4_code
def yX8_tapeByte : MethodName := ⟨RX8, "tapeByte", "(I)I"⟩
abbrev cX8_end : ByteArray := prog_1_method_5_code
def yX8_end : MethodName := ⟨RX8, "end", "(I)Z"⟩
abbrev cX8_society : ByteArray := prog_1_method_6_code
def yX8_society : MethodName := ⟨RX8, "society", "()I"⟩
abbrev cX8_fault : ByteArray := prog_1_method_7_code
def yX8_fault : MethodName := ⟨RX8, "fault", "(I)I"⟩
abbrev cX8_has : ByteArray := prog_1_method_8_code
def yX8_has : MethodName := ⟨RX8, "has", "(I)I"⟩
abbrev cX8_letter : ByteArray := prog_1_method_9_code
def yX8_letter : MethodName := ⟨RX8, "letter", "(III)I"⟩
abbrev cX8_person : ByteArray := prog_1_method_10_code
def yX8_person : MethodName := ⟨RX8, "person", "(II)I"⟩
abbrev cX8_coin : ByteArray := prog_1_method_11_code
def yX8_coin : MethodName := ⟨RX8, "coin", "(II)I"⟩
abbrev cX8_met : ByteArray := prog_1_method_12_code
def yX8_met : MethodName := ⟨RX8, "met", "(II)I"⟩
abbrev cX8_may : ByteArray := prog_1_method_13_code
def yX8_may : MethodName := ⟨RX8, "may", "(II)I"⟩
abbrev cX8_goods : ByteArray := prog_1_method_14_code
def yX8_goods : MethodName := ⟨RX8, "goods", "(III)I"⟩
abbrev cX8_spend : ByteArray := prog_1_method_15_code
def yX8_spend : MethodName := ⟨RX8, "spend", "(II)I"⟩
abbrev cX8_present : ByteArray := prog_1_method_16_code
def yX8_present : MethodName := ⟨RX8, "present", "(II)I"⟩
abbrev cX8_pay : ByteArray := prog_1_method_17_code
def yX8_pay : MethodName := ⟨RX8, "pay", "(II)Z"⟩
abbrev cX8_buy : ByteArray := prog_1_method_18_code
def yX8_buy : MethodName := ⟨RX8, "buy", "(III)I"⟩
abbrev cX8_tea : ByteArray := prog_1_method_19_code
def yX8_tea : MethodName := ⟨RX8, "tea", "(I)I"⟩
abbrev cX8_days : ByteArray := prog_1_method_20_code
def yX8_days : MethodName := ⟨RX8, "days", "(I)I"⟩
abbrev cX8_calls : ByteArray := prog_1_method_21_code
def yX8_calls : MethodName := ⟨RX8, "calls", "(I)I"⟩
abbrev cX8_callIsPaid : ByteArray := prog_1_method_22_code
def yX8_callIsPaid : MethodName := ⟨RX8, "callIsPaid", "()Z"⟩
abbrev cX8_draw : ByteArray := prog_1_method_23_code
def yX8_draw : MethodName := ⟨RX8, "draw", "(I)I"⟩
abbrev cX8_undo : ByteArray := prog_1_method_24_code
def yX8_undo : MethodName := ⟨RX8, "undo", "()Z"⟩
abbrev cX8_seed : ByteArray := prog_1_method_25_code
def yX8_seed : MethodName := ⟨RX8, "seed", "(I)Z"⟩
abbrev cX8_introduce : ByteArray := prog_1_method_26_code
def yX8_introduce : MethodName := ⟨RX8, "introduce", "(IIII)I"⟩
abbrev cX8_comes : ByteArray := prog_1_method_27_code
def yX8_comes : MethodName := ⟨RX8, "comes", "(III)I"⟩
abbrev cX8_best : ByteArray := prog_1_method_28_code
def yX8_best : MethodName := ⟨RX8, "best", "(II)I"⟩
abbrev cX8_letters : ByteArray := prog_1_method_29_code
def yX8_letters : MethodName := ⟨RX8, "letters", "()I"⟩
abbrev cX8_tellsLetters : ByteArray := prog_1_method_30_code
def yX8_tellsLetters : MethodName := ⟨RX8, "tellsLetters", "(I)Z"⟩
abbrev cX8_letterIs : ByteArray := prog_1_method_31_code
def yX8_letterIs : MethodName := ⟨RX8, "letterIs", "(I)I"⟩
abbrev cX8_fair : ByteArray := prog_1_method_32_code
def yX8_fair : MethodName := ⟨RX8, "fair", "(II)I"⟩
abbrev cX8_later : ByteArray := prog_1_method_33_code
def yX8_later : MethodName := ⟨RX8, "later", "(II)I"⟩
abbrev cX8_useless : ByteArray := prog_1_method_34_code
def yX8_useless : MethodName := ⟨RX8, "useless", "(I)I"⟩
abbrev cX8_image : ByteArray := prog_1_method_35_code
def yX8_image : MethodName := ⟨RX8, "image", "()I"⟩
abbrev cX8_putImageByte : ByteArray := prog_1_method_36_code
def yX8_putImageByte : MethodName := ⟨RX8, "putImageByte", "(I)V"⟩
abbrev cX8_octet : ByteArray := prog_1_method_37_code
def yX8_octet : MethodName := ⟨RX8, "octet", "(I)I"⟩
abbrev cX8_on : ByteArray := prog_1_method_38_code
def yX8_on : MethodName := ⟨RX8, "on", "()Z"⟩
abbrev cX8_tapeDay : ByteArray := prog_1_method_39_code
def yX8_tapeDay : MethodName := ⟨RX8, "tapeDay", "()I"⟩
abbrev cX8_imageRow : ByteArray := prog_1_method_40_code
def yX8_imageRow : MethodName := ⟨RX8, "imageRow", "(I)I"⟩
abbrev cX8_tellsImage : ByteArray := prog_1_method_41_code
def yX8_tellsImage : MethodName := ⟨RX8, "tellsImage", "(I)Z"⟩
abbrev cX8_tellsCoin : ByteArray := prog_1_method_42_code
def yX8_tellsCoin : MethodName := ⟨RX8, "tellsCoin", "(I)Z"⟩
abbrev cX8_status : ByteArray := prog_1_method_43_code
def yX8_status : MethodName := ⟨RX8, "status", "(I)I"⟩
abbrev cX8_refuse : ByteArray := prog_1_method_44_code
def yX8_refuse : MethodName := ⟨RX8, "refuse", "(I)I"⟩
abbrev cX8_areThere : ByteArray := prog_1_method_45_code
def yX8_areThere : MethodName := ⟨RX8, "areThere", "(II)Z"⟩
abbrev cX8_areTwo : ByteArray := prog_1_method_46_code
def yX8_areTwo : MethodName := ⟨RX8, "areTwo", "(II)Z"⟩
abbrev cX8_letterOf : ByteArray := prog_1_method_47_code
def yX8_letterOf : MethodName := ⟨RX8, "letterOf", "(JI)I"⟩
abbrev cX8_isIn : ByteArray := prog_1_method_48_code
def yX8_isIn : MethodName := ⟨RX8, "isIn", "(II)Z"⟩
def RX9 : String := "CoinCircleModel"
def TX9 : u_T := fun k => match k with
  | 0 => ("CoinCircleModel", "tape", "[I", true)
  | 1 => ("CoinCircleModel", "taped", "I", false)
  | 2 => ("CoinCircleModel", "size", "I", false)
  | 3 => ("CoinCircleModel", "sign", "I", false)
  | 4 => ("CoinCircleModel", "signAt", "I", false)
  | 5 => ("CoinCircleModel", "signEnd", "I", false)
  | 6 => ("CoinCircleModel", "value", "I", false)
  | 7 => ("CoinCircleModel", "word", "J", false)
  | 8 => ("CoinCircleModel", "faultKind", "I", false)
  | 9 => ("CoinCircleModel", "faultPlace", "I", false)
  | 10 => ("CoinCircleModel", "toldKind", "I", false)
  | 11 => ("CoinCircleModel", "toldPlace", "I", false)
  | 12 => ("CoinCircleModel", "lexAt", "I", false)
  | 13 => ("CoinCircleModel", "bank", "I", false)
  | 14 => ("CoinCircleModel", "persons", "[I", true)
  | 15 => ("CoinCircleModel", "personRank", "[I", true)
  | 16 => ("CoinCircleModel", "coins", "[I", true)
  | 17 => ("CoinCircleModel", "coinWorth", "[I", true)
  | 18 => ("CoinCircleModel", "coinHolder", "[I", true)
  | 19 => ("CoinCircleModel", "coinKnows", "[I", true)
  | 20 => ("CoinCircleModel", "coinSnubs", "[I", true)
  | 21 => ("CoinCircleModel", "wares", "[I", true)
  | 22 => ("CoinCircleModel", "wareWorth", "[I", true)
  | 23 => ("CoinCircleModel", "wareBy", "[I", true)
  | 24 => ("CoinCircleModel", "fading", "[I", true)
  | 25 => ("CoinCircleModel", "vogue", "[I", true)
  | 26 => ("CoinCircleModel", "presentsFrom", "[I", true)
  | 27 => ("CoinCircleModel", "presentsBehind", "[I", true)
  | 28 => ("CoinCircleModel", "priceFrom", "[I", true)
  | 29 => ("CoinCircleModel", "priceBehind", "[I", true)
  | 30 => ("CoinCircleModel", "codeSort", "[I", true)
  | 31 => ("CoinCircleModel", "codeValue", "[I", true)
  | 32 => ("CoinCircleModel", "personName", "[J", true)
  | 33 => ("CoinCircleModel", "coinName", "[J", true)
  | 34 => ("CoinCircleModel", "wareName", "[J", true)
  | 35 => ("CoinCircleModel", "codes", "I", false)
  | 36 => ("CoinCircleModel", "in", "I", false)
  | 37 => ("CoinCircleModel", "frame", "[I", true)
  | 38 => ("CoinCircleModel", "phase", "[I", true)
  | 39 => ("CoinCircleModel", "begins", "[Z", true)
  | 40 => ("CoinCircleModel", "pair", "[I", true)
  | 41 => ("CoinCircleModel", "base", "[I", true)
  | 42 => ("CoinCircleModel", "deep", "I", false)
  | 43 => ("CoinCircleModel", "open", "I", false)
  | 44 => ("CoinCircleModel", "ops", "[I", true)
  | 45 => ("CoinCircleModel", "opMany", "I", false)
  | 46 => ("CoinCircleModel", "operand", "Z", false)
  | 47 => ("CoinCircleModel", "refused", "[I", true)
  | 48 => ("CoinCircleModel", "dayOf", "[I", true)
  | 49 => ("CoinCircleModel", "holderOf", "[I", true)
  | 50 => ("CoinCircleModel", "knowsOf", "[I", true)
  | 51 => ("CoinCircleModel", "snubsOf", "[I", true)
  | 52 => ("CoinCircleModel", "metOf", "[I", true)
  | 53 => ("CoinCircleModel", "undoFirst", "I", false)
  | 54 => ("CoinCircleModel", "undos", "I", false)
  | 55 => ("CoinCircleModel", "seeds", "J", false)
  | 56 => ("CoinCircleModel", "stack", "[J", true)
  | 57 => ("CoinCircleModel", "askedWorth", "I", false)
  | 58 => ("CoinCircleModel", "askedRank", "I", false)
  | 59 => ("CoinCircleModel", "askedOther", "I", false)
  | 60 => ("CoinCircleModel", "askedCircle", "I", false)
  | 61 => ("CoinCircleModel", "askedDay", "I", false)
  | 62 => ("CoinCircleModel", "askedHolds", "I", false)
  | 63 => ("CoinCircleModel", "stateFrom", "[I", true)
  | 64 => ("CoinCircleModel", "stateBy", "[I", true)
  | 65 => ("CoinCircleModel", "stateOf", "[I", true)
  | 66 => ("CoinCircleModel", "stateMany", "I", false)
  | 67 => ("CoinCircleModel", "letterMany", "I", false)
  | 68 => ("CoinCircleModel", "letterKind", "[I", true)
  | 69 => ("CoinCircleModel", "out", "[I", true)
  | _ => ("CoinCircleModel", "outs", "I", false)
def tyX9 : Nat → FieldType := fun k => match k with
  | 0 => .array .int
  | 1 => .int
  | 2 => .int
  | 3 => .int
  | 4 => .int
  | 5 => .int
  | 6 => .int
  | 7 => .long
  | 8 => .int
  | 9 => .int
  | 10 => .int
  | 11 => .int
  | 12 => .int
  | 13 => .int
  | 14 => .array .int
  | 15 => .array .int
  | 16 => .array .int
  | 17 => .array .int
  | 18 => .array .int
  | 19 => .array .int
  | 20 => .array .int
  | 21 => .array .int
  | 22 => .array .int
  | 23 => .array .int
  | 24 => .array .int
  | 25 => .array .int
  | 26 => .array .int
  | 27 => .array .int
  | 28 => .array .int
  | 29 => .array .int
  | 30 => .array .int
  | 31 => .array .int
  | 32 => .array .long
  | 33 => .array .long
  | 34 => .array .long
  | 35 => .int
  | 36 => .int
  | 37 => .array .int
  | 38 => .array .int
  | 39 => .array .boolean
  | 40 => .array .int
  | 41 => .array .int
  | 42 => .int
  | 43 => .int
  | 44 => .array .int
  | 45 => .int
  | 46 => .boolean
  | 47 => .array .int
  | 48 => .array .int
  | 49 => .array .int
  | 50 => .array .int
  | 51 => .array .int
  | 52 => .array .int
  | 53 => .int
  | 54 => .int
  | 55 => .long
  | 56 => .array .long
  | 57 => .int
  | 58 => .int
  | 59 => .int
  | 60 => .int
  | 61 => .int
  | 62 => .int
  | 63 => .array .int
  | 64 => .array .int
  | 65 => .array .int
  | 66 => .int
  | 67 => .int
  | 68 => .array .int
  | 69 => .array .int
  | _ => .int
abbrev wsX90 : List Cond := u_ws RX9 TX9 71
theorem nmX9 : ∀ a, a < 71 → ∀ b, b < 71 → a ≠ b → (TX9 a).2.1 ≠ (TX9 b).2.1 := by decide +kernel
theorem tyX9_ok : ∀ k, k < 71 → parseFieldDescriptor (TX9 k).2.2.1 = some (tyX9 k) := by decide +kernel
abbrev cX9_init : ByteArray := prog_11_method_1_code
def yX9_init : MethodName := ⟨RX9, "<init>", "()V"⟩
abbrev cX9_is : ByteArray := prog_11_method_2_code
def yX9_is : MethodName := ⟨RX9, "is", "(III)Z"⟩
abbrev cX9_put : ByteArray := prog_11_method_3_code
def yX9_put : MethodName := ⟨RX9, "put", "(I)V"⟩
abbrev cX9_feed : ByteArray := prog_11_method_4_code
def yX9_feed : MethodName := ⟨RX9, "feed", "(IIIII)I"⟩
abbrev cX9_end : ByteArray := prog_11_method_5_code
def yX9_end : MethodName := ⟨RX9, "end", "(I)Z"⟩
abbrev cX9_blame : ByteArray := prog_11_method_6_code
def yX9_blame : MethodName := ⟨RX9, "blame", "(II)V"⟩
abbrev cX9_isLetter : ByteArray := prog_11_method_7_code
def yX9_isLetter : MethodName := ⟨RX9, "isLetter", "(I)Z"⟩
abbrev cX9_isDigit : ByteArray := prog_11_method_8_code
def yX9_isDigit : MethodName := ⟨RX9, "isDigit", "(I)Z"⟩
abbrev cX9_lex : ByteArray := prog_11_method_9_code
def yX9_lex : MethodName := ⟨RX9, "lex", "()V"⟩
abbrev cX9_ahead : ByteArray := prog_11_method_10_code
def yX9_ahead : MethodName := ⟨RX9, "ahead", "()V"⟩
abbrev cX9_isSign : ByteArray := prog_11_method_11_code
def yX9_isSign : MethodName := ⟨RX9, "isSign", "(I)Z"⟩
abbrev cX9_isWord : ByteArray := prog_11_method_12_code
def yX9_isWord : MethodName := ⟨RX9, "isWord", "(J)Z"⟩
abbrev cX9_must : ByteArray := prog_11_method_13_code
def yX9_must : MethodName := ⟨RX9, "must", "(I)V"⟩
abbrev cX9_isOwn : ByteArray := prog_11_method_14_code
def yX9_isOwn : MethodName := ⟨RX9, "isOwn", "(J)Z"⟩
abbrev cX9_manyOf : ByteArray := prog_11_method_15_code
def yX9_manyOf : MethodName := ⟨RX9, "manyOf", "(II)I"⟩
abbrev cX9_nameOf : ByteArray := prog_11_method_16_code
def yX9_nameOf : MethodName := ⟨RX9, "nameOf", "(III)J"⟩
abbrev cX9_named : ByteArray := prog_11_method_17_code
def yX9_named : MethodName := ⟨RX9, "named", "(IJ)I"⟩
abbrev cX9_number : ByteArray := prog_11_method_18_code
def yX9_number : MethodName := ⟨RX9, "number", "(II)I"⟩
abbrev cX9_add : ByteArray := prog_11_method_19_code
def yX9_add : MethodName := ⟨RX9, "add", "(II)V"⟩
abbrev cX9_rank : ByteArray := prog_11_method_20_code
def yX9_rank : MethodName := ⟨RX9, "rank", "(I)I"⟩
abbrev cX9_joins : ByteArray := prog_11_method_21_code
def yX9_joins : MethodName := ⟨RX9, "joins", "(I)V"⟩
abbrev cX9_holdsBack : ByteArray := prog_11_method_22_code
def yX9_holdsBack : MethodName := ⟨RX9, "holdsBack", "(I)V"⟩
abbrev cX9_pushes : ByteArray := prog_11_method_23_code
def yX9_pushes : MethodName := ⟨RX9, "pushes", "(I)V"⟩
abbrev cX9_opens : ByteArray := prog_11_method_24_code
def yX9_opens : MethodName := ⟨RX9, "opens", "(I)V"⟩
abbrev cX9_isTest : ByteArray := prog_11_method_25_code
def yX9_isTest : MethodName := ⟨RX9, "isTest", "(I)Z"⟩
abbrev cX9_operand : ByteArray := prog_11_method_26_code
def yX9_operand : MethodName := ⟨RX9, "operand", "()Z"⟩
abbrev cX9_goesOn : ByteArray := prog_11_method_27_code
def yX9_goesOn : MethodName := ⟨RX9, "goesOn", "()Z"⟩
abbrev cX9_reads : ByteArray := prog_11_method_28_code
def yX9_reads : MethodName := ⟨RX9, "reads", "(Z)V"⟩
abbrev cX9_counts : ByteArray := prog_11_method_29_code
def yX9_counts : MethodName := ⟨RX9, "counts", "(Z)Z"⟩
abbrev cX9_must_ : ByteArray := prog_11_method_30_code
def yX9_must_ : MethodName := ⟨RX9, "must", "(J)V"⟩
abbrev cX9_fresh : ByteArray := prog_11_method_31_code
def yX9_fresh : MethodName := ⟨RX9, "fresh", "()J"⟩
abbrev cX9_looked : ByteArray := prog_11_method_32_code
def yX9_looked : MethodName := ⟨RX9, "looked", "(I)I"⟩
abbrev cX9_asked : ByteArray := prog_11_method_33_code
def yX9_asked : MethodName := ⟨RX9, "asked", "(I)I"⟩
abbrev cX9_personing : ByteArray := prog_11_method_34_code
def yX9_personing : MethodName := ⟨RX9, "personing", "()V"⟩
abbrev cX9_coining : ByteArray := prog_11_method_35_code
def yX9_coining : MethodName := ⟨RX9, "coining", "()V"⟩
abbrev cX9_waring : ByteArray := prog_11_method_36_code
def yX9_waring : MethodName := ⟨RX9, "waring", "()V"⟩
abbrev cX9_snubbing : ByteArray := prog_11_method_37_code
def yX9_snubbing : MethodName := ⟨RX9, "snubbing", "()V"⟩
abbrev cX9_telling : ByteArray := prog_11_method_38_code
def yX9_telling : MethodName := ⟨RX9, "telling", "(Z)V"⟩
abbrev cX9_presenting : ByteArray := prog_11_method_39_code
def yX9_presenting : MethodName := ⟨RX9, "presenting", "()V"⟩
abbrev cX9_pricing : ByteArray := prog_11_method_40_code
def yX9_pricing : MethodName := ⟨RX9, "pricing", "()V"⟩
abbrev cX9_statement : ByteArray := prog_11_method_41_code
def yX9_statement : MethodName := ⟨RX9, "statement", "()V"⟩
abbrev cX9_finishes : ByteArray := prog_11_method_42_code
def yX9_finishes : MethodName := ⟨RX9, "finishes", "(I)V"⟩
abbrev cX9_society : ByteArray := prog_11_method_43_code
def yX9_society : MethodName := ⟨RX9, "society", "()I"⟩
abbrev cX9_fault : ByteArray := prog_11_method_44_code
def yX9_fault : MethodName := ⟨RX9, "fault", "(I)I"⟩
abbrev cX9_refuses : ByteArray := prog_11_method_45_code
def yX9_refuses : MethodName := ⟨RX9, "refuses", "(I)I"⟩
abbrev cX9_status : ByteArray := prog_11_method_46_code
def yX9_status : MethodName := ⟨RX9, "status", "(I)I"⟩
abbrev cX9_isPerson : ByteArray := prog_11_method_47_code
def yX9_isPerson : MethodName := ⟨RX9, "isPerson", "(I)Z"⟩
abbrev cX9_isCoin : ByteArray := prog_11_method_48_code
def yX9_isCoin : MethodName := ⟨RX9, "isCoin", "(I)Z"⟩
abbrev cX9_isWare : ByteArray := prog_11_method_49_code
def yX9_isWare : MethodName := ⟨RX9, "isWare", "(I)Z"⟩
abbrev cX9_has2 : ByteArray := prog_11_method_50_code
def yX9_has2 : MethodName := ⟨RX9, "has2", "(II)Z"⟩
abbrev cX9_bits : ByteArray := prog_11_method_51_code
def yX9_bits : MethodName := ⟨RX9, "bits", "(I)I"⟩
abbrev cX9_worthOf : ByteArray := prog_11_method_52_code
def yX9_worthOf : MethodName := ⟨RX9, "worthOf", "(I)I"⟩
abbrev cX9_rankOf : ByteArray := prog_11_method_53_code
def yX9_rankOf : MethodName := ⟨RX9, "rankOf", "(I)I"⟩
abbrev cX9_copies : ByteArray := prog_11_method_54_code
def yX9_copies : MethodName := ⟨RX9, "copies", "(II)V"⟩
abbrev cX9_begin : ByteArray := prog_11_method_55_code
def yX9_begin : MethodName := ⟨RX9, "begin", "()V"⟩
abbrev cX9_ring : ByteArray := prog_11_method_56_code
def yX9_ring : MethodName := ⟨RX9, "ring", "(I)I"⟩
abbrev cX9_keeps : ByteArray := prog_11_method_57_code
def yX9_keeps : MethodName := ⟨RX9, "keeps", "()V"⟩
abbrev cX9_undo : ByteArray := prog_11_method_58_code
def yX9_undo : MethodName := ⟨RX9, "undo", "()Z"⟩
abbrev cX9_heldBy : ByteArray := prog_11_method_59_code
def yX9_heldBy : MethodName := ⟨RX9, "heldBy", "(II)I"⟩
abbrev cX9_knowing : ByteArray := prog_11_method_60_code
def yX9_knowing : MethodName := ⟨RX9, "knowing", "(II)I"⟩
abbrev cX9_worthAll : ByteArray := prog_11_method_61_code
def yX9_worthAll : MethodName := ⟨RX9, "worthAll", "(I)I"⟩
abbrev cX9_part : ByteArray := prog_11_method_62_code
def yX9_part : MethodName := ⟨RX9, "part", "(II)J"⟩
abbrev cX9_held : ByteArray := prog_11_method_63_code
def yX9_held : MethodName := ⟨RX9, "held", "(J)J"⟩
abbrev cX9_floor : ByteArray := prog_11_method_64_code
def yX9_floor : MethodName := ⟨RX9, "floor", "(JJ)J"⟩
abbrev cX9_two : ByteArray := prog_11_method_65_code
def yX9_two : MethodName := ⟨RX9, "two", "(IJJ)J"⟩
abbrev cX9_reckons : ByteArray := prog_11_method_66_code
def yX9_reckons : MethodName := ⟨RX9, "reckons", "(II)J"⟩
abbrev cX9_holdsTest : ByteArray := prog_11_method_67_code
def yX9_holdsTest : MethodName := ⟨RX9, "holdsTest", "(IIIIII)Z"⟩
abbrev cX9_wouldKnow : ByteArray := prog_11_method_68_code
def yX9_wouldKnow : MethodName := ⟨RX9, "wouldKnow", "(III)Z"⟩
abbrev cX9_canPresent : ByteArray := prog_11_method_69_code
def yX9_canPresent : MethodName := ⟨RX9, "canPresent", "(III)Z"⟩
abbrev cX9_priceFor : ByteArray := prog_11_method_70_code
def yX9_priceFor : MethodName := ⟨RX9, "priceFor", "(II)I"⟩
abbrev cX9_flowOf : ByteArray := prog_11_method_71_code
def yX9_flowOf : MethodName := ⟨RX9, "flowOf", "(I)I"⟩
abbrev cX9_isUseless : ByteArray := prog_11_method_72_code
def yX9_isUseless : MethodName := ⟨RX9, "isUseless", "(II)Z"⟩
abbrev cX9_has : ByteArray := prog_11_method_73_code
def yX9_has : MethodName := ⟨RX9, "has", "(I)I"⟩
abbrev cX9_letter : ByteArray := prog_11_method_74_code
def yX9_letter : MethodName := ⟨RX9, "letter", "(III)I"⟩
abbrev cX9_person : ByteArray := prog_11_method_75_code
def yX9_person : MethodName := ⟨RX9, "person", "(II)I"⟩
abbrev cX9_coin : ByteArray := prog_11_method_76_code
def yX9_coin : MethodName := ⟨RX9, "coin", "(II)I"⟩
abbrev cX9_met : ByteArray := prog_11_method_77_code
def yX9_met : MethodName := ⟨RX9, "met", "(II)I"⟩
abbrev cX9_may : ByteArray := prog_11_method_78_code
def yX9_may : MethodName := ⟨RX9, "may", "(II)I"⟩
abbrev cX9_goods : ByteArray := prog_11_method_79_code
def yX9_goods : MethodName := ⟨RX9, "goods", "(III)I"⟩
abbrev cX9_spends : ByteArray := prog_11_method_80_code
def yX9_spends : MethodName := ⟨RX9, "spends", "(II)I"⟩
abbrev cX9_spend : ByteArray := prog_11_method_81_code
def yX9_spend : MethodName := ⟨RX9, "spend", "(II)I"⟩
abbrev cX9_meets : ByteArray := prog_11_method_82_code
def yX9_meets : MethodName := ⟨RX9, "meets", "(III)V"⟩
abbrev cX9_learns : ByteArray := prog_11_method_83_code
def yX9_learns : MethodName := ⟨RX9, "learns", "(III)V"⟩
abbrev cX9_presents : ByteArray := prog_11_method_84_code
def yX9_presents : MethodName := ⟨RX9, "presents", "(III)Z"⟩
abbrev cX9_present : ByteArray := prog_11_method_85_code
def yX9_present : MethodName := ⟨RX9, "present", "(II)I"⟩
abbrev cX9_pays : ByteArray := prog_11_method_86_code
def yX9_pays : MethodName := ⟨RX9, "pays", "(II)V"⟩
abbrev cX9_pay : ByteArray := prog_11_method_87_code
def yX9_pay : MethodName := ⟨RX9, "pay", "(II)Z"⟩
abbrev cX9_changeOf : ByteArray := prog_11_method_88_code
def yX9_changeOf : MethodName := ⟨RX9, "changeOf", "(II)I"⟩
abbrev cX9_buy : ByteArray := prog_11_method_89_code
def yX9_buy : MethodName := ⟨RX9, "buy", "(III)I"⟩
abbrev cX9_teaOf : ByteArray := prog_11_method_90_code
def yX9_teaOf : MethodName := ⟨RX9, "teaOf", "(II)I"⟩
abbrev cX9_tea : ByteArray := prog_11_method_91_code
def yX9_tea : MethodName := ⟨RX9, "tea", "(I)I"⟩
abbrev cX9_dayGoes : ByteArray := prog_11_method_92_code
def yX9_dayGoes : MethodName := ⟨RX9, "dayGoes", "(I)I"⟩
abbrev cX9_days : ByteArray := prog_11_method_93_code
def yX9_days : MethodName := ⟨RX9, "days", "(I)I"⟩
abbrev cX9_draw : ByteArray := prog_11_method_94_code
def yX9_draw : MethodName := ⟨RX9, "draw", "(I)I"⟩
abbrev cX9_calls : ByteArray := prog_11_method_95_code
def yX9_calls : MethodName := ⟨RX9, "calls", "(I)I"⟩
abbrev cX9_seed : ByteArray := prog_11_method_96_code
def yX9_seed : MethodName := ⟨RX9, "seed", "(I)Z"⟩
abbrev cX9_introduce : ByteArray := prog_11_method_97_code
def yX9_introduce : MethodName := ⟨RX9, "introduce", "(IIII)I"⟩
abbrev cX9_reaches : ByteArray := prog_11_method_98_code
def yX9_reaches : MethodName := ⟨RX9, "reaches", "(IIII)V"⟩
abbrev cX9_goesOn_ : ByteArray := prog_11_method_99_code
def yX9_goesOn_ : MethodName := ⟨RX9, "goesOn", "(II)V"⟩
abbrev cX9_findsState : ByteArray := prog_11_method_100_code
def yX9_findsState : MethodName := ⟨RX9, "findsState", "(II)I"⟩
abbrev cX9_comes : ByteArray := prog_11_method_101_code
def yX9_comes : MethodName := ⟨RX9, "comes", "(III)I"⟩
abbrev cX9_best : ByteArray := prog_11_method_102_code
def yX9_best : MethodName := ⟨RX9, "best", "(II)I"⟩
abbrev cX9_letters : ByteArray := prog_11_method_103_code
def yX9_letters : MethodName := ⟨RX9, "letters", "()I"⟩
abbrev cX9_letterIs : ByteArray := prog_11_method_104_code
def yX9_letterIs : MethodName := ⟨RX9, "letterIs", "(I)I"⟩
abbrev cX9_fair : ByteArray := prog_11_method_105_code
def yX9_fair : MethodName := ⟨RX9, "fair", "(II)I"⟩
abbrev cX9_isAhead : ByteArray := prog_11_method_106_code
def yX9_isAhead : MethodName := ⟨RX9, "isAhead", "(I)Z"⟩
abbrev cX9_later : ByteArray := prog_11_method_107_code
def yX9_later : MethodName := ⟨RX9, "later", "(II)I"⟩
abbrev cX9_useless : ByteArray := prog_11_method_108_code
def yX9_useless : MethodName := ⟨RX9, "useless", "(I)I"⟩
abbrev cX9_writes : ByteArray := prog_11_method_109_code
def yX9_writes : MethodName := ⟨RX9, "writes", "(I)V"⟩
abbrev cX9_toldOf : ByteArray := prog_11_method_110_code
def yX9_toldOf : MethodName := ⟨RX9, "toldOf", "(II)I"⟩
abbrev cX9_image : ByteArray := prog_11_method_111_code
def yX9_image : MethodName := ⟨RX9, "image", "()I"⟩
abbrev cX9_octet : ByteArray := prog_11_method_112_code
def yX9_octet : MethodName := ⟨RX9, "octet", "(I)I"⟩
abbrev cX9_coinOn : ByteArray := prog_11_method_113_code
def yX9_coinOn : MethodName := ⟨RX9, "coinOn", "(II)Z"⟩
abbrev cX9_comesOn : ByteArray := prog_11_method_114_code
def yX9_comesOn : MethodName := ⟨RX9, "comesOn", "(I)Z"⟩
abbrev cX9_on : ByteArray := prog_11_method_115_code
def yX9_on : MethodName := ⟨RX9, "on", "()Z"⟩
def RJx145de : String := "java/io/Serializable"
def TJx145de : u_T := fun k => match k with
  | _ => ("", "", "", false)
def tyJx145de : Nat → FieldType := fun k => match k with
  | _ => .int
def RJx9f9b0 : String := "java/lang/CharSequence"
def TJx9f9b0 : u_T := fun k => match k with
  | _ => ("", "", "", false)
def tyJx9f9b0 : Nat → FieldType := fun k => match k with
  | _ => .int
def RJ11 : String := "java/lang/Character"
def TJ11 : u_T := fun k => match k with
  | _ => ("", "", "", false)
def tyJ11 : Nat → FieldType := fun k => match k with
  | _ => .int
abbrev cJ11_isValidCodePoint_9a6ad : ByteArray := prog_12_method_11_code
def yJ11_isValidCodePoint_9a6ad : MethodName := ⟨RJ11, "isValidCodePoint", "(I)Z"⟩
abbrev cJ11_highSurrogate_5068e : ByteArray := prog_12_method_28_code
def yJ11_highSurrogate_5068e : MethodName := ⟨RJ11, "highSurrogate", "(I)C"⟩
abbrev cJ11_lowSurrogate_5068e : ByteArray := prog_12_method_29_code
def yJ11_lowSurrogate_5068e : MethodName := ⟨RJ11, "lowSurrogate", "(I)C"⟩
def RJxb160c : String := "java/lang/Comparable"
def TJxb160c : u_T := fun k => match k with
  | _ => ("", "", "", false)
def tyJxb160c : Nat → FieldType := fun k => match k with
  | _ => .int
def RJ6 : String := "java/lang/Integer"
def TJ6 : u_T := fun k => match k with
  | _ => ("", "", "", false)
def tyJ6 : Nat → FieldType := fun k => match k with
  | _ => .int
abbrev cJ6_numberOfTrailingZeros_0f7a4 : ByteArray := prog_13_method_48_code
def yJ6_numberOfTrailingZeros_0f7a4 : MethodName := ⟨RJ6, "numberOfTrailingZeros", "(I)I"⟩
abbrev cJ6_bitCount_0f7a4 : ByteArray := prog_13_method_49_code
def yJ6_bitCount_0f7a4 : MethodName := ⟨RJ6, "bitCount", "(I)I"⟩
def RJ9 : String := "java/lang/Math"
def TJ9 : u_T := fun k => match k with
  | _ => ("", "", "", false)
def tyJ9 : Nat → FieldType := fun k => match k with
  | _ => .int
abbrev cJ9_floorDiv_f86c9 : ByteArray := prog_14_method_49_code
def yJ9_floorDiv_f86c9 : MethodName := ⟨RJ9, "floorDiv", "(JJ)J"⟩
abbrev cJ9_floorMod_f86c9 : ByteArray := prog_14_method_52_code
def yJ9_floorMod_f86c9 : MethodName := ⟨RJ9, "floorMod", "(JJ)J"⟩
abbrev cJ9_abs_0f7a4 : ByteArray := prog_14_method_59_code
def yJ9_abs_0f7a4 : MethodName := ⟨RJ9, "abs", "(I)I"⟩
abbrev cJ9_max_7cf53 : ByteArray := prog_14_method_65_code
def yJ9_max_7cf53 : MethodName := ⟨RJ9, "max", "(II)I"⟩
abbrev cJ9_max_f86c9 : ByteArray := prog_14_method_66_code
def yJ9_max_f86c9 : MethodName := ⟨RJ9, "max", "(JJ)J"⟩
abbrev cJ9_min_7cf53 : ByteArray := prog_14_method_69_code
def yJ9_min_7cf53 : MethodName := ⟨RJ9, "min", "(II)I"⟩
abbrev cJ9_min_f86c9 : ByteArray := prog_14_method_70_code
def yJ9_min_f86c9 : MethodName := ⟨RJ9, "min", "(JJ)J"⟩
def RJ0 : String := "java/lang/String"
def TJ0 : u_T := fun k => match k with
  | _ => ("", "", "", false)
def tyJ0 : Nat → FieldType := fun k => match k with
  | _ => .int
abbrev cJ0_length_8abf5 : ByteArray := prog_15_method_54_code
def yJ0_length_8abf5 : MethodName := ⟨RJ0, "length", "()I"⟩
abbrev cJ0_charAt_5068e : ByteArray := prog_15_method_56_code
def yJ0_charAt_5068e : MethodName := ⟨RJ0, "charAt", "(I)C"⟩
abbrev cJ0_indexOf_0f7a4 : ByteArray := prog_15_method_79_code
def yJ0_indexOf_0f7a4 : MethodName := ⟨RJ0, "indexOf", "(I)I"⟩
abbrev cJ0_indexOf_7cf53 : ByteArray := prog_15_method_80_code
def yJ0_indexOf_7cf53 : MethodName := ⟨RJ0, "indexOf", "(II)I"⟩
abbrev cJ0_coder_7d493 : ByteArray := prog_15_method_152_code
def yJ0_coder_7d493 : MethodName := ⟨RJ0, "coder", "()B"⟩
abbrev cJ0_isLatin1_aae02 : ByteArray := prog_15_method_154_code
def yJ0_isLatin1_aae02 : MethodName := ⟨RJ0, "isLatin1", "()Z"⟩
abbrev cJ0_checkIndex_df160 : ByteArray := prog_15_method_155_code
def yJ0_checkIndex_df160 : MethodName := ⟨RJ0, "checkIndex", "(II)V"⟩
abbrev cJ0_checkBoundsBeginEnd_23922 : ByteArray := prog_15_method_158_code
def yJ0_checkBoundsBeginEnd_23922 : MethodName := ⟨RJ0, "checkBoundsBeginEnd", "(III)V"⟩
def RJ1 : String := "java/lang/StringLatin1"
def TJ1 : u_T := fun k => match k with
  | _ => ("", "", "", false)
def tyJ1 : Nat → FieldType := fun k => match k with
  | _ => .int
abbrev cJ1_charAt_3b067 : ByteArray := prog_16_method_2_code
def yJ1_charAt_3b067 : MethodName := ⟨RJ1, "charAt", "([BI)C"⟩
abbrev cJ1_canEncode_9a6ad : ByteArray := prog_16_method_4_code
def yJ1_canEncode_9a6ad : MethodName := ⟨RJ1, "canEncode", "(I)Z"⟩
abbrev cJ1_indexOf_4cfef : ByteArray := prog_16_method_22_code
def yJ1_indexOf_4cfef : MethodName := ⟨RJ1, "indexOf", "([BIII)I"⟩
abbrev cJ1_indexOfChar_4cfef : ByteArray := prog_16_method_23_code
def yJ1_indexOfChar_4cfef : MethodName := ⟨RJ1, "indexOfChar", "([BIII)I"⟩
def RJ2 : String := "java/lang/StringUTF16"
def TJ2 : u_T := fun k => match k with
  | _ => ("", "", "", false)
def tyJ2 : Nat → FieldType := fun k => match k with
  | _ => .int
abbrev cJ2_getChar_3b067 : ByteArray := prog_17_method_5_code
def yJ2_getChar_3b067 : MethodName := ⟨RJ2, "getChar", "([BI)C"⟩
abbrev cJ2_length_9d52b : ByteArray := prog_17_method_6_code
def yJ2_length_9d52b : MethodName := ⟨RJ2, "length", "([B)I"⟩
abbrev cJ2_indexOf_4cfef : ByteArray := prog_17_method_40_code
def yJ2_indexOf_4cfef : MethodName := ⟨RJ2, "indexOf", "([BIII)I"⟩
abbrev cJ2_indexOfChar_4cfef : ByteArray := prog_17_method_47_code
def yJ2_indexOfChar_4cfef : MethodName := ⟨RJ2, "indexOfChar", "([BIII)I"⟩
abbrev cJ2_indexOfCharUnsafe_4cfef : ByteArray := prog_17_method_48_code
def yJ2_indexOfCharUnsafe_4cfef : MethodName := ⟨RJ2, "indexOfCharUnsafe", "([BIII)I"⟩
abbrev cJ2_indexOfSupplementary_4cfef : ByteArray := prog_17_method_49_code
def yJ2_indexOfSupplementary_4cfef : MethodName := ⟨RJ2, "indexOfSupplementary", "([BIII)I"⟩
abbrev cJ2_charAt_3b067 : ByteArray := prog_17_method_83_code
def yJ2_charAt_3b067 : MethodName := ⟨RJ2, "charAt", "([BI)C"⟩
abbrev cJ2_checkIndex_2214a : ByteArray := prog_17_method_91_code
def yJ2_checkIndex_2214a : MethodName := ⟨RJ2, "checkIndex", "(I[B)V"⟩
abbrev cJ2_checkBoundsBeginEnd_d044e : ByteArray := prog_17_method_93_code
def yJ2_checkBoundsBeginEnd_d044e : MethodName := ⟨RJ2, "checkBoundsBeginEnd", "(II[B)V"⟩
def RJ10 : String := "java/lang/System"
def TJ10 : u_T := fun k => match k with
  | _ => ("", "", "", false)
def tyJ10 : Nat → FieldType := fun k => match k with
  | _ => .int
def RJxfd54e : String := "java/lang/constant/Constable"
def TJxfd54e : u_T := fun k => match k with
  | _ => ("", "", "", false)
def tyJxfd54e : Nat → FieldType := fun k => match k with
  | _ => .int
def RJx3cf43 : String := "java/lang/constant/ConstantDesc"
def TJx3cf43 : u_T := fun k => match k with
  | _ => ("", "", "", false)
def tyJx3cf43 : Nat → FieldType := fun k => match k with
  | _ => .int
def RJ7 : String := "java/util/Arrays"
def TJ7 : u_T := fun k => match k with
  | _ => ("", "", "", false)
def tyJ7 : Nat → FieldType := fun k => match k with
  | _ => .int
abbrev cJ7_fill_53178 : ByteArray := prog_19_method_103_code
def yJ7_fill_53178 : MethodName := ⟨RJ7, "fill", "([II)V"⟩
def RJ3 : String := "jdk/internal/util/Preconditions"
def TJ3 : u_T := fun k => match k with
  | _ => ("", "", "", false)
def tyJ3 : Nat → FieldType := fun k => match k with
  | _ => .int
abbrev cJ3_checkIndex_8e157 : ByteArray := prog_20_method_11_code
def yJ3_checkIndex_8e157 : MethodName := ⟨RJ3, "checkIndex", "(IILjava/util/function/BiFunction;)I"⟩
abbrev cJ3_checkFromToIndex_8c36e : ByteArray := prog_20_method_12_code
def yJ3_checkFromToIndex_8c36e : MethodName := ⟨RJ3, "checkFromToIndex", "(IIILjava/util/function/BiFunction;)I"⟩
def RL : String := "CoinCircleLaw"
abbrev cL_law : ByteArray := code
def yL_law : MethodName := ⟨RL, "law", "([I)Z"⟩
abbrev vwCl : List vw_C := [(RX0, TX0, 3), (RX1, TX1, 3), (RX2, TX2, 3), (RX3, TX3, 5), (RX4, TX4, 12), (RX5, TX5, 13), (RX6, TX6, 6), (RX7, TX7, 8), (RX8, TX8, 14), (RX9, TX9, 71)]
set_option maxRecDepth 20000 in
theorem inX0 : ∀ w ∈ wsX00, w ∈ lw_tbl := fun w h => (goodIn_r (big := lw_tbl) wsX00 [475, 477, 479] (by decide +kernel) (by decide +kernel) w h).1
set_option maxRecDepth 20000 in
theorem inX1 : ∀ w ∈ wsX10, w ∈ lw_tbl := fun w h => (goodIn_r (big := lw_tbl) wsX10 [279, 281, 283] (by decide +kernel) (by decide +kernel) w h).1
set_option maxRecDepth 20000 in
theorem inX2 : ∀ w ∈ wsX20, w ∈ lw_tbl := fun w h => (goodIn_r (big := lw_tbl) wsX20 [421, 423, 425] (by decide +kernel) (by decide +kernel) w h).1
set_option maxRecDepth 20000 in
theorem inX3 : ∀ w ∈ wsX30, w ∈ lw_tbl := fun w h => (goodIn_r (big := lw_tbl) wsX30 [406, 408, 410, 412, 414] (by decide +kernel) (by decide +kernel) w h).1
set_option maxRecDepth 20000 in
theorem inX4 : ∀ w ∈ wsX40, w ∈ lw_tbl := fun w h => (goodIn_r (big := lw_tbl) wsX40 [236, 238, 240, 242, 244, 246, 248, 250, 252, 254, 256, 258] (by decide +kernel) (by decide +kernel) w h).1
set_option maxRecDepth 20000 in
theorem inX5 : ∀ w ∈ wsX50, w ∈ lw_tbl := fun w h => (goodIn_r (big := lw_tbl) wsX50 [329, 331, 333, 335, 337, 339, 341, 343, 345, 347, 349, 351, 353] (by decide +kernel) (by decide +kernel) w h).1
set_option maxRecDepth 20000 in
theorem inX6 : ∀ w ∈ wsX60, w ∈ lw_tbl := fun w h => (goodIn_r (big := lw_tbl) wsX60 [364, 366, 368, 370, 372, 374] (by decide +kernel) (by decide +kernel) w h).1
set_option maxRecDepth 20000 in
theorem inX7 : ∀ w ∈ wsX70, w ∈ lw_tbl := fun w h => (goodIn_r (big := lw_tbl) wsX70 [442, 444, 446, 448, 450, 452, 454, 456] (by decide +kernel) (by decide +kernel) w h).1
set_option maxRecDepth 20000 in
theorem inX8 : ∀ w ∈ wsX80, w ∈ lw_tbl := fun w h => (goodIn_r (big := lw_tbl) wsX80 [496, 498, 500, 502, 504, 506, 508, 510, 512, 514, 516, 518, 520, 522] (by decide +kernel) (by decide +kernel) w h).1
set_option maxRecDepth 20000 in
theorem inX9 : ∀ w ∈ wsX90, w ∈ lw_tbl := fun w h => (goodIn_r (big := lw_tbl) wsX90 [1344, 1346, 1348, 1350, 1352, 1354, 1356, 1358, 1360, 1362, 1364, 1366, 1368, 1370, 1372, 1374, 1376, 1378, 1380, 1382, 1384, 1386, 1388, 1390, 1392, 1394, 1396, 1398, 1400, 1402, 1404, 1406, 1408, 1410, 1412, 1414, 1416, 1418, 1420, 1422, 1424, 1426, 1428, 1430, 1432, 1434, 1436, 1438, 1440, 1442, 1444, 1446, 1448, 1450, 1452, 1454, 1456, 1458, 1460, 1462, 1464, 1466, 1468, 1470, 1472, 1474, 1476, 1478, 1480, 1482, 1484] (by decide +kernel) (by decide +kernel) w h).1
