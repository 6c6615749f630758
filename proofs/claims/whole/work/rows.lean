section
-- ===== PART A: goes FIRST, ahead of the names: the tables' words, and 'selects' of the private methods out of them =====
/-- a private method of a class that the tables say can be made, by its rows of tables_1 -/
def lw_okq (q : MethodName × Nat) : Prop := (q.1.cls ≠ "java/lang/invoke/MethodHandle" ∧ q.1.cls ≠ "java/lang/invoke/VarHandle") ∧ Cond.instantiable q.1.cls q.2 ∈ tables_1 ∧ Cond.privateMethod q.1 ∈ tables_1 ∧ Cond.instanceMethod q.1 ∈ tables_1
theorem lw_p0 : lw_okq (⟨"PaperChancery$TokenRow", "skipBlanks", "(I)I"⟩, 5) := ⟨⟨by decide +kernel, by decide +kernel⟩, List.mem_of_getElem? (i := 88) (by decide +kernel), List.mem_of_getElem? (i := 506) (by decide +kernel), List.mem_of_getElem? (i := 507) (by decide +kernel)⟩
theorem lw_p1 : lw_okq (⟨"PaperChancery$TokenRow", "take", "(I)I"⟩, 5) := ⟨⟨by decide +kernel, by decide +kernel⟩, List.mem_of_getElem? (i := 88) (by decide +kernel), List.mem_of_getElem? (i := 510) (by decide +kernel), List.mem_of_getElem? (i := 511) (by decide +kernel)⟩
theorem lw_p2 : lw_okq (⟨"PaperChancery$TokenRow", "takeWord", "(I)I"⟩, 5) := ⟨⟨by decide +kernel, by decide +kernel⟩, List.mem_of_getElem? (i := 88) (by decide +kernel), List.mem_of_getElem? (i := 517) (by decide +kernel), List.mem_of_getElem? (i := 518) (by decide +kernel)⟩
theorem lw_p3 : lw_okq (⟨"PaperChancery$TokenRow", "isWord", "(III)Z"⟩, 5) := ⟨⟨by decide +kernel, by decide +kernel⟩, List.mem_of_getElem? (i := 88) (by decide +kernel), List.mem_of_getElem? (i := 521) (by decide +kernel), List.mem_of_getElem? (i := 522) (by decide +kernel)⟩
theorem lw_p4 : lw_okq (⟨"PaperChancery$TokenRow", "takeNumber", "(I)I"⟩, 5) := ⟨⟨by decide +kernel, by decide +kernel⟩, List.mem_of_getElem? (i := 88) (by decide +kernel), List.mem_of_getElem? (i := 569) (by decide +kernel), List.mem_of_getElem? (i := 570) (by decide +kernel)⟩
theorem lw_p5 : lw_okq (⟨"PaperChancery$TokenRow", "takeMark", "(I)V"⟩, 5) := ⟨⟨by decide +kernel, by decide +kernel⟩, List.mem_of_getElem? (i := 88) (by decide +kernel), List.mem_of_getElem? (i := 573) (by decide +kernel), List.mem_of_getElem? (i := 574) (by decide +kernel)⟩
theorem lw_p6 : lw_okq (⟨"PaperChancery$RuleReader", "readRule", "()Z"⟩, 6) := ⟨⟨by decide +kernel, by decide +kernel⟩, List.mem_of_getElem? (i := 47) (by decide +kernel), List.mem_of_getElem? (i := 580) (by decide +kernel), List.mem_of_getElem? (i := 581) (by decide +kernel)⟩
theorem lw_p7 : lw_okq (⟨"PaperChancery$RuleReader", "failWith", "(I)Z"⟩, 6) := ⟨⟨by decide +kernel, by decide +kernel⟩, List.mem_of_getElem? (i := 47) (by decide +kernel), List.mem_of_getElem? (i := 588) (by decide +kernel), List.mem_of_getElem? (i := 589) (by decide +kernel)⟩
theorem lw_p8 : lw_okq (⟨"PaperChancery$RuleReader", "advance", "()V"⟩, 6) := ⟨⟨by decide +kernel, by decide +kernel⟩, List.mem_of_getElem? (i := 47) (by decide +kernel), List.mem_of_getElem? (i := 597) (by decide +kernel), List.mem_of_getElem? (i := 598) (by decide +kernel)⟩
theorem lw_p9 : lw_okq (⟨"PaperChancery$RuleReader", "readTests", "(I)Z"⟩, 6) := ⟨⟨by decide +kernel, by decide +kernel⟩, List.mem_of_getElem? (i := 47) (by decide +kernel), List.mem_of_getElem? (i := 601) (by decide +kernel), List.mem_of_getElem? (i := 602) (by decide +kernel)⟩
theorem lw_p10 : lw_okq (⟨"PaperChancery$RuleReader", "readTest", "(I)Z"⟩, 6) := ⟨⟨by decide +kernel, by decide +kernel⟩, List.mem_of_getElem? (i := 47) (by decide +kernel), List.mem_of_getElem? (i := 605) (by decide +kernel), List.mem_of_getElem? (i := 606) (by decide +kernel)⟩
theorem lw_p11 : lw_okq (⟨"PaperChancery$RuleReader", "pass", "(I)Z"⟩, 6) := ⟨⟨by decide +kernel, by decide +kernel⟩, List.mem_of_getElem? (i := 47) (by decide +kernel), List.mem_of_getElem? (i := 609) (by decide +kernel), List.mem_of_getElem? (i := 610) (by decide +kernel)⟩
theorem lw_p12 : lw_okq (⟨"PaperChancery$RuleReader", "readKey", "()Z"⟩, 6) := ⟨⟨by decide +kernel, by decide +kernel⟩, List.mem_of_getElem? (i := 47) (by decide +kernel), List.mem_of_getElem? (i := 617) (by decide +kernel), List.mem_of_getElem? (i := 618) (by decide +kernel)⟩
theorem lw_p13 : lw_okq (⟨"PaperChancery$RuleReader", "readCondition", "()Z"⟩, 6) := ⟨⟨by decide +kernel, by decide +kernel⟩, List.mem_of_getElem? (i := 47) (by decide +kernel), List.mem_of_getElem? (i := 621) (by decide +kernel), List.mem_of_getElem? (i := 622) (by decide +kernel)⟩
theorem lw_p14 : lw_okq (⟨"PaperChancery$Gazette", "putInOrder", "(I)V"⟩, 7) := ⟨⟨by decide +kernel, by decide +kernel⟩, List.mem_of_getElem? (i := 224) (by decide +kernel), List.mem_of_getElem? (i := 662) (by decide +kernel), List.mem_of_getElem? (i := 663) (by decide +kernel)⟩
theorem lw_p15 : lw_okq (⟨"PaperChancery", "knownNow", "()I"⟩, 12) := ⟨⟨by decide +kernel, by decide +kernel⟩, List.mem_of_getElem? (i := 22) (by decide +kernel), List.mem_of_getElem? (i := 699) (by decide +kernel), List.mem_of_getElem? (i := 700) (by decide +kernel)⟩
def lw_privs_1 : List (MethodName × Nat) := [(⟨"PaperChancery$TokenRow", "skipBlanks", "(I)I"⟩, 5), (⟨"PaperChancery$TokenRow", "take", "(I)I"⟩, 5), (⟨"PaperChancery$TokenRow", "takeWord", "(I)I"⟩, 5), (⟨"PaperChancery$TokenRow", "isWord", "(III)Z"⟩, 5), (⟨"PaperChancery$TokenRow", "takeNumber", "(I)I"⟩, 5), (⟨"PaperChancery$TokenRow", "takeMark", "(I)V"⟩, 5), (⟨"PaperChancery$RuleReader", "readRule", "()Z"⟩, 6), (⟨"PaperChancery$RuleReader", "failWith", "(I)Z"⟩, 6), (⟨"PaperChancery$RuleReader", "advance", "()V"⟩, 6), (⟨"PaperChancery$RuleReader", "readTests", "(I)Z"⟩, 6), (⟨"PaperChancery$RuleReader", "readTest", "(I)Z"⟩, 6), (⟨"PaperChancery$RuleReader", "pass", "(I)Z"⟩, 6), (⟨"PaperChancery$RuleReader", "readKey", "()Z"⟩, 6), (⟨"PaperChancery$RuleReader", "readCondition", "()Z"⟩, 6), (⟨"PaperChancery$Gazette", "putInOrder", "(I)V"⟩, 7), (⟨"PaperChancery", "knownNow", "()I"⟩, 12)]
theorem lw_r1 : ∀ q ∈ lw_privs_1, lw_okq q := List.forall_mem_cons.mpr ⟨lw_p0, List.forall_mem_cons.mpr ⟨lw_p1, List.forall_mem_cons.mpr ⟨lw_p2, List.forall_mem_cons.mpr ⟨lw_p3, List.forall_mem_cons.mpr ⟨lw_p4, List.forall_mem_cons.mpr ⟨lw_p5, List.forall_mem_cons.mpr ⟨lw_p6, List.forall_mem_cons.mpr ⟨lw_p7, List.forall_mem_cons.mpr ⟨lw_p8, List.forall_mem_cons.mpr ⟨lw_p9, List.forall_mem_cons.mpr ⟨lw_p10, List.forall_mem_cons.mpr ⟨lw_p11, List.forall_mem_cons.mpr ⟨lw_p12, List.forall_mem_cons.mpr ⟨lw_p13, List.forall_mem_cons.mpr ⟨lw_p14, List.forall_mem_cons.mpr ⟨lw_p15, fun _ h => absurd h List.not_mem_nil⟩⟩⟩⟩⟩⟩⟩⟩⟩⟩⟩⟩⟩⟩⟩⟩
theorem lw_p16 : lw_okq (⟨"PaperChancery$Course", "begin", "()V"⟩, 19) := ⟨⟨by decide +kernel, by decide +kernel⟩, List.mem_of_getElem? (i := 283) (by decide +kernel), List.mem_of_getElem? (i := 707) (by decide +kernel), List.mem_of_getElem? (i := 708) (by decide +kernel)⟩
theorem lw_p17 : lw_okq (⟨"PaperChancery$Course", "place", "(II)V"⟩, 19) := ⟨⟨by decide +kernel, by decide +kernel⟩, List.mem_of_getElem? (i := 283) (by decide +kernel), List.mem_of_getElem? (i := 715) (by decide +kernel), List.mem_of_getElem? (i := 716) (by decide +kernel)⟩
theorem lw_p18 : lw_okq (⟨"PaperChancery$Course", "goTo", "(I)V"⟩, 19) := ⟨⟨by decide +kernel, by decide +kernel⟩, List.mem_of_getElem? (i := 283) (by decide +kernel), List.mem_of_getElem? (i := 719) (by decide +kernel), List.mem_of_getElem? (i := 720) (by decide +kernel)⟩
theorem lw_p19 : lw_okq (⟨"PaperChancery$Course", "happen", "(II)V"⟩, 19) := ⟨⟨by decide +kernel, by decide +kernel⟩, List.mem_of_getElem? (i := 283) (by decide +kernel), List.mem_of_getElem? (i := 727) (by decide +kernel), List.mem_of_getElem? (i := 728) (by decide +kernel)⟩
theorem lw_p20 : lw_okq (⟨"PaperChancery$Course", "comeAlive", "(I)V"⟩, 19) := ⟨⟨by decide +kernel, by decide +kernel⟩, List.mem_of_getElem? (i := 283) (by decide +kernel), List.mem_of_getElem? (i := 735) (by decide +kernel), List.mem_of_getElem? (i := 736) (by decide +kernel)⟩
theorem lw_p21 : lw_okq (⟨"PaperChancery$Course", "mayClaim", "(II)Z"⟩, 19) := ⟨⟨by decide +kernel, by decide +kernel⟩, List.mem_of_getElem? (i := 283) (by decide +kernel), List.mem_of_getElem? (i := 739) (by decide +kernel), List.mem_of_getElem? (i := 740) (by decide +kernel)⟩
theorem lw_p22 : lw_okq (⟨"PaperChancery$Course", "loadFacts", "([IIII)V"⟩, 19) := ⟨⟨by decide +kernel, by decide +kernel⟩, List.mem_of_getElem? (i := 283) (by decide +kernel), List.mem_of_getElem? (i := 747) (by decide +kernel), List.mem_of_getElem? (i := 748) (by decide +kernel)⟩
theorem lw_p23 : lw_okq (⟨"PaperChancery$RuleBook", "testsHold", "(I[I)Z"⟩, 9) := ⟨⟨by decide +kernel, by decide +kernel⟩, List.mem_of_getElem? (i := 53) (by decide +kernel), List.mem_of_getElem? (i := 755) (by decide +kernel), List.mem_of_getElem? (i := 756) (by decide +kernel)⟩
theorem lw_p24 : lw_okq (⟨"PaperChancery$Course", "use", "(II)V"⟩, 19) := ⟨⟨by decide +kernel, by decide +kernel⟩, List.mem_of_getElem? (i := 283) (by decide +kernel), List.mem_of_getElem? (i := 759) (by decide +kernel), List.mem_of_getElem? (i := 760) (by decide +kernel)⟩
theorem lw_p25 : lw_okq (⟨"PaperChancery$Course", "give", "(II)V"⟩, 19) := ⟨⟨by decide +kernel, by decide +kernel⟩, List.mem_of_getElem? (i := 283) (by decide +kernel), List.mem_of_getElem? (i := 763) (by decide +kernel), List.mem_of_getElem? (i := 764) (by decide +kernel)⟩
theorem lw_p26 : lw_okq (⟨"PaperChancery$Course", "die", "(I)V"⟩, 19) := ⟨⟨by decide +kernel, by decide +kernel⟩, List.mem_of_getElem? (i := 283) (by decide +kernel), List.mem_of_getElem? (i := 767) (by decide +kernel), List.mem_of_getElem? (i := 768) (by decide +kernel)⟩
theorem lw_p27 : lw_okq (⟨"PaperChancery$Course", "fill", "(I)V"⟩, 19) := ⟨⟨by decide +kernel, by decide +kernel⟩, List.mem_of_getElem? (i := 283) (by decide +kernel), List.mem_of_getElem? (i := 771) (by decide +kernel), List.mem_of_getElem? (i := 772) (by decide +kernel)⟩
theorem lw_p28 : lw_okq (⟨"PaperChancery$Course", "duel", "(III)I"⟩, 19) := ⟨⟨by decide +kernel, by decide +kernel⟩, List.mem_of_getElem? (i := 283) (by decide +kernel), List.mem_of_getElem? (i := 775) (by decide +kernel), List.mem_of_getElem? (i := 776) (by decide +kernel)⟩
theorem lw_p29 : lw_okq (⟨"PaperChancery$RuleBook", "standing", "(I[I)I"⟩, 9) := ⟨⟨by decide +kernel, by decide +kernel⟩, List.mem_of_getElem? (i := 53) (by decide +kernel), List.mem_of_getElem? (i := 783) (by decide +kernel), List.mem_of_getElem? (i := 784) (by decide +kernel)⟩
theorem lw_p30 : lw_okq (⟨"PaperChancery$Course", "leaveTo", "(II)V"⟩, 19) := ⟨⟨by decide +kernel, by decide +kernel⟩, List.mem_of_getElem? (i := 283) (by decide +kernel), List.mem_of_getElem? (i := 787) (by decide +kernel), List.mem_of_getElem? (i := 788) (by decide +kernel)⟩
theorem lw_p31 : lw_okq (⟨"PaperChancery$Course", "changePlaces", "(II)V"⟩, 19) := ⟨⟨by decide +kernel, by decide +kernel⟩, List.mem_of_getElem? (i := 283) (by decide +kernel), List.mem_of_getElem? (i := 791) (by decide +kernel), List.mem_of_getElem? (i := 792) (by decide +kernel)⟩
def lw_privs_2 : List (MethodName × Nat) := [(⟨"PaperChancery$Course", "begin", "()V"⟩, 19), (⟨"PaperChancery$Course", "place", "(II)V"⟩, 19), (⟨"PaperChancery$Course", "goTo", "(I)V"⟩, 19), (⟨"PaperChancery$Course", "happen", "(II)V"⟩, 19), (⟨"PaperChancery$Course", "comeAlive", "(I)V"⟩, 19), (⟨"PaperChancery$Course", "mayClaim", "(II)Z"⟩, 19), (⟨"PaperChancery$Course", "loadFacts", "([IIII)V"⟩, 19), (⟨"PaperChancery$RuleBook", "testsHold", "(I[I)Z"⟩, 9), (⟨"PaperChancery$Course", "use", "(II)V"⟩, 19), (⟨"PaperChancery$Course", "give", "(II)V"⟩, 19), (⟨"PaperChancery$Course", "die", "(I)V"⟩, 19), (⟨"PaperChancery$Course", "fill", "(I)V"⟩, 19), (⟨"PaperChancery$Course", "duel", "(III)I"⟩, 19), (⟨"PaperChancery$RuleBook", "standing", "(I[I)I"⟩, 9), (⟨"PaperChancery$Course", "leaveTo", "(II)V"⟩, 19), (⟨"PaperChancery$Course", "changePlaces", "(II)V"⟩, 19)]
theorem lw_r2 : ∀ q ∈ lw_privs_2, lw_okq q := List.forall_mem_cons.mpr ⟨lw_p16, List.forall_mem_cons.mpr ⟨lw_p17, List.forall_mem_cons.mpr ⟨lw_p18, List.forall_mem_cons.mpr ⟨lw_p19, List.forall_mem_cons.mpr ⟨lw_p20, List.forall_mem_cons.mpr ⟨lw_p21, List.forall_mem_cons.mpr ⟨lw_p22, List.forall_mem_cons.mpr ⟨lw_p23, List.forall_mem_cons.mpr ⟨lw_p24, List.forall_mem_cons.mpr ⟨lw_p25, List.forall_mem_cons.mpr ⟨lw_p26, List.forall_mem_cons.mpr ⟨lw_p27, List.forall_mem_cons.mpr ⟨lw_p28, List.forall_mem_cons.mpr ⟨lw_p29, List.forall_mem_cons.mpr ⟨lw_p30, List.forall_mem_cons.mpr ⟨lw_p31, fun _ h => absurd h List.not_mem_nil⟩⟩⟩⟩⟩⟩⟩⟩⟩⟩⟩⟩⟩⟩⟩⟩
theorem lw_p32 : lw_okq (⟨"PaperChancery$Exchange", "offerSinglePosts", "([II)V"⟩, 5) := ⟨⟨by decide +kernel, by decide +kernel⟩, List.mem_of_getElem? (i := 373) (by decide +kernel), List.mem_of_getElem? (i := 889) (by decide +kernel), List.mem_of_getElem? (i := 890) (by decide +kernel)⟩
theorem lw_p33 : lw_okq (⟨"PaperChancery$Exchange", "pointAll", "([I)V"⟩, 5) := ⟨⟨by decide +kernel, by decide +kernel⟩, List.mem_of_getElem? (i := 373) (by decide +kernel), List.mem_of_getElem? (i := 893) (by decide +kernel), List.mem_of_getElem? (i := 894) (by decide +kernel)⟩
theorem lw_p34 : lw_okq (⟨"PaperChancery$Exchange", "pointFrom", "(I[I)I"⟩, 5) := ⟨⟨by decide +kernel, by decide +kernel⟩, List.mem_of_getElem? (i := 373) (by decide +kernel), List.mem_of_getElem? (i := 897) (by decide +kernel), List.mem_of_getElem? (i := 898) (by decide +kernel)⟩
theorem lw_p35 : lw_okq (⟨"PaperChancery$Exchange", "leaveInRings", "()I"⟩, 5) := ⟨⟨by decide +kernel, by decide +kernel⟩, List.mem_of_getElem? (i := 373) (by decide +kernel), List.mem_of_getElem? (i := 901) (by decide +kernel), List.mem_of_getElem? (i := 902) (by decide +kernel)⟩
theorem lw_p36 : lw_okq (⟨"PaperChancery$Exchange", "isInRing", "(I)Z"⟩, 5) := ⟨⟨by decide +kernel, by decide +kernel⟩, List.mem_of_getElem? (i := 373) (by decide +kernel), List.mem_of_getElem? (i := 905) (by decide +kernel), List.mem_of_getElem? (i := 906) (by decide +kernel)⟩
theorem lw_p37 : lw_okq (⟨"PaperChanceryModel", "put", "(I)V"⟩, 43) := ⟨⟨by decide +kernel, by decide +kernel⟩, List.mem_of_getElem? (i := 913) (by decide +kernel), List.mem_of_getElem? (i := 1053) (by decide +kernel), List.mem_of_getElem? (i := 1054) (by decide +kernel)⟩
theorem lw_p38 : lw_okq (⟨"PaperChanceryModel", "isPost", "(I)Z"⟩, 43) := ⟨⟨by decide +kernel, by decide +kernel⟩, List.mem_of_getElem? (i := 913) (by decide +kernel), List.mem_of_getElem? (i := 1076) (by decide +kernel), List.mem_of_getElem? (i := 1077) (by decide +kernel)⟩
theorem lw_p39 : lw_okq (⟨"PaperChanceryModel", "isPerson", "(I)Z"⟩, 43) := ⟨⟨by decide +kernel, by decide +kernel⟩, List.mem_of_getElem? (i := 913) (by decide +kernel), List.mem_of_getElem? (i := 1080) (by decide +kernel), List.mem_of_getElem? (i := 1081) (by decide +kernel)⟩
theorem lw_p40 : lw_okq (⟨"PaperChanceryModel", "here", "()I"⟩, 43) := ⟨⟨by decide +kernel, by decide +kernel⟩, List.mem_of_getElem? (i := 913) (by decide +kernel), List.mem_of_getElem? (i := 1088) (by decide +kernel), List.mem_of_getElem? (i := 1089) (by decide +kernel)⟩
theorem lw_p41 : lw_okq (⟨"PaperChanceryModel", "blame", "(II)V"⟩, 43) := ⟨⟨by decide +kernel, by decide +kernel⟩, List.mem_of_getElem? (i := 913) (by decide +kernel), List.mem_of_getElem? (i := 1092) (by decide +kernel), List.mem_of_getElem? (i := 1093) (by decide +kernel)⟩
theorem lw_p42 : lw_okq (⟨"PaperChanceryModel", "rule", "()V"⟩, 43) := ⟨⟨by decide +kernel, by decide +kernel⟩, List.mem_of_getElem? (i := 913) (by decide +kernel), List.mem_of_getElem? (i := 1096) (by decide +kernel), List.mem_of_getElem? (i := 1097) (by decide +kernel)⟩
theorem lw_p43 : lw_okq (⟨"PaperChanceryModel", "passes", "(JI)Z"⟩, 43) := ⟨⟨by decide +kernel, by decide +kernel⟩, List.mem_of_getElem? (i := 913) (by decide +kernel), List.mem_of_getElem? (i := 1101) (by decide +kernel), List.mem_of_getElem? (i := 1102) (by decide +kernel)⟩
theorem lw_p44 : lw_okq (⟨"PaperChanceryModel", "spells", "(JI)Z"⟩, 43) := ⟨⟨by decide +kernel, by decide +kernel⟩, List.mem_of_getElem? (i := 913) (by decide +kernel), List.mem_of_getElem? (i := 1105) (by decide +kernel), List.mem_of_getElem? (i := 1106) (by decide +kernel)⟩
theorem lw_p45 : lw_okq (⟨"PaperChanceryModel", "wordSize", "()I"⟩, 43) := ⟨⟨by decide +kernel, by decide +kernel⟩, List.mem_of_getElem? (i := 913) (by decide +kernel), List.mem_of_getElem? (i := 1109) (by decide +kernel), List.mem_of_getElem? (i := 1110) (by decide +kernel)⟩
theorem lw_p46 : lw_okq (⟨"PaperChanceryModel", "subject", "()I"⟩, 43) := ⟨⟨by decide +kernel, by decide +kernel⟩, List.mem_of_getElem? (i := 913) (by decide +kernel), List.mem_of_getElem? (i := 1119) (by decide +kernel), List.mem_of_getElem? (i := 1120) (by decide +kernel)⟩
theorem lw_p47 : lw_okq (⟨"PaperChanceryModel", "add", "(III)V"⟩, 43) := ⟨⟨by decide +kernel, by decide +kernel⟩, List.mem_of_getElem? (i := 913) (by decide +kernel), List.mem_of_getElem? (i := 1132) (by decide +kernel), List.mem_of_getElem? (i := 1133) (by decide +kernel)⟩
def lw_privs_3 : List (MethodName × Nat) := [(⟨"PaperChancery$Exchange", "offerSinglePosts", "([II)V"⟩, 5), (⟨"PaperChancery$Exchange", "pointAll", "([I)V"⟩, 5), (⟨"PaperChancery$Exchange", "pointFrom", "(I[I)I"⟩, 5), (⟨"PaperChancery$Exchange", "leaveInRings", "()I"⟩, 5), (⟨"PaperChancery$Exchange", "isInRing", "(I)Z"⟩, 5), (⟨"PaperChanceryModel", "put", "(I)V"⟩, 43), (⟨"PaperChanceryModel", "isPost", "(I)Z"⟩, 43), (⟨"PaperChanceryModel", "isPerson", "(I)Z"⟩, 43), (⟨"PaperChanceryModel", "here", "()I"⟩, 43), (⟨"PaperChanceryModel", "blame", "(II)V"⟩, 43), (⟨"PaperChanceryModel", "rule", "()V"⟩, 43), (⟨"PaperChanceryModel", "passes", "(JI)Z"⟩, 43), (⟨"PaperChanceryModel", "spells", "(JI)Z"⟩, 43), (⟨"PaperChanceryModel", "wordSize", "()I"⟩, 43), (⟨"PaperChanceryModel", "subject", "()I"⟩, 43), (⟨"PaperChanceryModel", "add", "(III)V"⟩, 43)]
theorem lw_r3 : ∀ q ∈ lw_privs_3, lw_okq q := List.forall_mem_cons.mpr ⟨lw_p32, List.forall_mem_cons.mpr ⟨lw_p33, List.forall_mem_cons.mpr ⟨lw_p34, List.forall_mem_cons.mpr ⟨lw_p35, List.forall_mem_cons.mpr ⟨lw_p36, List.forall_mem_cons.mpr ⟨lw_p37, List.forall_mem_cons.mpr ⟨lw_p38, List.forall_mem_cons.mpr ⟨lw_p39, List.forall_mem_cons.mpr ⟨lw_p40, List.forall_mem_cons.mpr ⟨lw_p41, List.forall_mem_cons.mpr ⟨lw_p42, List.forall_mem_cons.mpr ⟨lw_p43, List.forall_mem_cons.mpr ⟨lw_p44, List.forall_mem_cons.mpr ⟨lw_p45, List.forall_mem_cons.mpr ⟨lw_p46, List.forall_mem_cons.mpr ⟨lw_p47, fun _ h => absurd h List.not_mem_nil⟩⟩⟩⟩⟩⟩⟩⟩⟩⟩⟩⟩⟩⟩⟩⟩
theorem lw_p48 : lw_okq (⟨"PaperChanceryModel", "tests", "(Z)I"⟩, 43) := ⟨⟨by decide +kernel, by decide +kernel⟩, List.mem_of_getElem? (i := 913) (by decide +kernel), List.mem_of_getElem? (i := 1136) (by decide +kernel), List.mem_of_getElem? (i := 1137) (by decide +kernel)⟩
theorem lw_p49 : lw_okq (⟨"PaperChanceryModel", "digits", "()I"⟩, 43) := ⟨⟨by decide +kernel, by decide +kernel⟩, List.mem_of_getElem? (i := 913) (by decide +kernel), List.mem_of_getElem? (i := 1140) (by decide +kernel), List.mem_of_getElem? (i := 1141) (by decide +kernel)⟩
theorem lw_p50 : lw_okq (⟨"PaperChanceryModel", "can", "(I)Z"⟩, 43) := ⟨⟨by decide +kernel, by decide +kernel⟩, List.mem_of_getElem? (i := 913) (by decide +kernel), List.mem_of_getElem? (i := 1158) (by decide +kernel), List.mem_of_getElem? (i := 1159) (by decide +kernel)⟩
theorem lw_p51 : lw_okq (⟨"PaperChanceryModel", "tell", "(IIII)I"⟩, 43) := ⟨⟨by decide +kernel, by decide +kernel⟩, List.mem_of_getElem? (i := 913) (by decide +kernel), List.mem_of_getElem? (i := 1162) (by decide +kernel), List.mem_of_getElem? (i := 1163) (by decide +kernel)⟩
theorem lw_p52 : lw_okq (⟨"PaperChanceryModel", "known", "()I"⟩, 43) := ⟨⟨by decide +kernel, by decide +kernel⟩, List.mem_of_getElem? (i := 913) (by decide +kernel), List.mem_of_getElem? (i := 1193) (by decide +kernel), List.mem_of_getElem? (i := 1194) (by decide +kernel)⟩
theorem lw_p53 : lw_okq (⟨"PaperChanceryModel", "goes", "(II)V"⟩, 43) := ⟨⟨by decide +kernel, by decide +kernel⟩, List.mem_of_getElem? (i := 913) (by decide +kernel), List.mem_of_getElem? (i := 1197) (by decide +kernel), List.mem_of_getElem? (i := 1198) (by decide +kernel)⟩
theorem lw_p54 : lw_okq (⟨"PaperChanceryModel", "comes", "(II)V"⟩, 43) := ⟨⟨by decide +kernel, by decide +kernel⟩, List.mem_of_getElem? (i := 913) (by decide +kernel), List.mem_of_getElem? (i := 1201) (by decide +kernel), List.mem_of_getElem? (i := 1202) (by decide +kernel)⟩
theorem lw_p55 : lw_okq (⟨"PaperChanceryModel", "mayHave", "(III)Z"⟩, 43) := ⟨⟨by decide +kernel, by decide +kernel⟩, List.mem_of_getElem? (i := 913) (by decide +kernel), List.mem_of_getElem? (i := 1205) (by decide +kernel), List.mem_of_getElem? (i := 1206) (by decide +kernel)⟩
theorem lw_p56 : lw_okq (⟨"PaperChanceryModel", "reaches", "(II)Z"⟩, 43) := ⟨⟨by decide +kernel, by decide +kernel⟩, List.mem_of_getElem? (i := 913) (by decide +kernel), List.mem_of_getElem? (i := 1209) (by decide +kernel), List.mem_of_getElem? (i := 1210) (by decide +kernel)⟩
theorem lw_p57 : lw_okq (⟨"PaperChanceryModel", "isBarred", "(IIII)Z"⟩, 43) := ⟨⟨by decide +kernel, by decide +kernel⟩, List.mem_of_getElem? (i := 913) (by decide +kernel), List.mem_of_getElem? (i := 1213) (by decide +kernel), List.mem_of_getElem? (i := 1214) (by decide +kernel)⟩
theorem lw_p58 : lw_okq (⟨"PaperChanceryModel", "force", "(I)I"⟩, 43) := ⟨⟨by decide +kernel, by decide +kernel⟩, List.mem_of_getElem? (i := 913) (by decide +kernel), List.mem_of_getElem? (i := 1217) (by decide +kernel), List.mem_of_getElem? (i := 1218) (by decide +kernel)⟩
theorem lw_p59 : lw_okq (⟨"PaperChanceryModel", "holds", "(IIIII)Z"⟩, 43) := ⟨⟨by decide +kernel, by decide +kernel⟩, List.mem_of_getElem? (i := 913) (by decide +kernel), List.mem_of_getElem? (i := 1221) (by decide +kernel), List.mem_of_getElem? (i := 1222) (by decide +kernel)⟩
theorem lw_p60 : lw_okq (⟨"PaperChanceryModel", "subjectOf", "(IIIII)I"⟩, 43) := ⟨⟨by decide +kernel, by decide +kernel⟩, List.mem_of_getElem? (i := 913) (by decide +kernel), List.mem_of_getElem? (i := 1225) (by decide +kernel), List.mem_of_getElem? (i := 1226) (by decide +kernel)⟩
theorem lw_p61 : lw_okq (⟨"PaperChanceryModel", "held", "(I)I"⟩, 43) := ⟨⟨by decide +kernel, by decide +kernel⟩, List.mem_of_getElem? (i := 913) (by decide +kernel), List.mem_of_getElem? (i := 1229) (by decide +kernel), List.mem_of_getElem? (i := 1230) (by decide +kernel)⟩
theorem lw_p62 : lw_okq (⟨"PaperChanceryModel", "uses", "(III)V"⟩, 43) := ⟨⟨by decide +kernel, by decide +kernel⟩, List.mem_of_getElem? (i := 913) (by decide +kernel), List.mem_of_getElem? (i := 1233) (by decide +kernel), List.mem_of_getElem? (i := 1234) (by decide +kernel)⟩
theorem lw_p63 : lw_okq (⟨"PaperChanceryModel", "takes", "(III)V"⟩, 43) := ⟨⟨by decide +kernel, by decide +kernel⟩, List.mem_of_getElem? (i := 913) (by decide +kernel), List.mem_of_getElem? (i := 1237) (by decide +kernel), List.mem_of_getElem? (i := 1238) (by decide +kernel)⟩
def lw_privs_4 : List (MethodName × Nat) := [(⟨"PaperChanceryModel", "tests", "(Z)I"⟩, 43), (⟨"PaperChanceryModel", "digits", "()I"⟩, 43), (⟨"PaperChanceryModel", "can", "(I)Z"⟩, 43), (⟨"PaperChanceryModel", "tell", "(IIII)I"⟩, 43), (⟨"PaperChanceryModel", "known", "()I"⟩, 43), (⟨"PaperChanceryModel", "goes", "(II)V"⟩, 43), (⟨"PaperChanceryModel", "comes", "(II)V"⟩, 43), (⟨"PaperChanceryModel", "mayHave", "(III)Z"⟩, 43), (⟨"PaperChanceryModel", "reaches", "(II)Z"⟩, 43), (⟨"PaperChanceryModel", "isBarred", "(IIII)Z"⟩, 43), (⟨"PaperChanceryModel", "force", "(I)I"⟩, 43), (⟨"PaperChanceryModel", "holds", "(IIIII)Z"⟩, 43), (⟨"PaperChanceryModel", "subjectOf", "(IIIII)I"⟩, 43), (⟨"PaperChanceryModel", "held", "(I)I"⟩, 43), (⟨"PaperChanceryModel", "uses", "(III)V"⟩, 43), (⟨"PaperChanceryModel", "takes", "(III)V"⟩, 43)]
theorem lw_r4 : ∀ q ∈ lw_privs_4, lw_okq q := List.forall_mem_cons.mpr ⟨lw_p48, List.forall_mem_cons.mpr ⟨lw_p49, List.forall_mem_cons.mpr ⟨lw_p50, List.forall_mem_cons.mpr ⟨lw_p51, List.forall_mem_cons.mpr ⟨lw_p52, List.forall_mem_cons.mpr ⟨lw_p53, List.forall_mem_cons.mpr ⟨lw_p54, List.forall_mem_cons.mpr ⟨lw_p55, List.forall_mem_cons.mpr ⟨lw_p56, List.forall_mem_cons.mpr ⟨lw_p57, List.forall_mem_cons.mpr ⟨lw_p58, List.forall_mem_cons.mpr ⟨lw_p59, List.forall_mem_cons.mpr ⟨lw_p60, List.forall_mem_cons.mpr ⟨lw_p61, List.forall_mem_cons.mpr ⟨lw_p62, List.forall_mem_cons.mpr ⟨lw_p63, fun _ h => absurd h List.not_mem_nil⟩⟩⟩⟩⟩⟩⟩⟩⟩⟩⟩⟩⟩⟩⟩⟩
theorem lw_p64 : lw_okq (⟨"PaperChanceryModel", "dies", "(II)V"⟩, 43) := ⟨⟨by decide +kernel, by decide +kernel⟩, List.mem_of_getElem? (i := 913) (by decide +kernel), List.mem_of_getElem? (i := 1241) (by decide +kernel), List.mem_of_getElem? (i := 1242) (by decide +kernel)⟩
theorem lw_p65 : lw_okq (⟨"PaperChanceryModel", "leaves", "(II)V"⟩, 43) := ⟨⟨by decide +kernel, by decide +kernel⟩, List.mem_of_getElem? (i := 913) (by decide +kernel), List.mem_of_getElem? (i := 1245) (by decide +kernel), List.mem_of_getElem? (i := 1246) (by decide +kernel)⟩
theorem lw_p66 : lw_okq (⟨"PaperChanceryModel", "gives", "(II)V"⟩, 43) := ⟨⟨by decide +kernel, by decide +kernel⟩, List.mem_of_getElem? (i := 913) (by decide +kernel), List.mem_of_getElem? (i := 1249) (by decide +kernel), List.mem_of_getElem? (i := 1250) (by decide +kernel)⟩
theorem lw_p67 : lw_okq (⟨"PaperChanceryModel", "decides", "(IIII)I"⟩, 43) := ⟨⟨by decide +kernel, by decide +kernel⟩, List.mem_of_getElem? (i := 913) (by decide +kernel), List.mem_of_getElem? (i := 1253) (by decide +kernel), List.mem_of_getElem? (i := 1254) (by decide +kernel)⟩
theorem lw_p68 : lw_okq (⟨"PaperChanceryModel", "differ", "(IIIII)I"⟩, 43) := ⟨⟨by decide +kernel, by decide +kernel⟩, List.mem_of_getElem? (i := 913) (by decide +kernel), List.mem_of_getElem? (i := 1257) (by decide +kernel), List.mem_of_getElem? (i := 1258) (by decide +kernel)⟩
theorem lw_p69 : lw_okq (⟨"PaperChanceryModel", "resigns", "(III)V"⟩, 43) := ⟨⟨by decide +kernel, by decide +kernel⟩, List.mem_of_getElem? (i := 913) (by decide +kernel), List.mem_of_getElem? (i := 1261) (by decide +kernel), List.mem_of_getElem? (i := 1262) (by decide +kernel)⟩
theorem lw_p70 : lw_okq (⟨"PaperChanceryModel", "swaps", "(III)V"⟩, 43) := ⟨⟨by decide +kernel, by decide +kernel⟩, List.mem_of_getElem? (i := 913) (by decide +kernel), List.mem_of_getElem? (i := 1265) (by decide +kernel), List.mem_of_getElem? (i := 1266) (by decide +kernel)⟩
theorem lw_p71 : lw_okq (⟨"PaperChanceryModel", "isPaper", "(I)Z"⟩, 43) := ⟨⟨by decide +kernel, by decide +kernel⟩, List.mem_of_getElem? (i := 913) (by decide +kernel), List.mem_of_getElem? (i := 1273) (by decide +kernel), List.mem_of_getElem? (i := 1274) (by decide +kernel)⟩
theorem lw_p72 : lw_okq (⟨"PaperChanceryModel", "points", "(I)I"⟩, 43) := ⟨⟨by decide +kernel, by decide +kernel⟩, List.mem_of_getElem? (i := 913) (by decide +kernel), List.mem_of_getElem? (i := 1319) (by decide +kernel), List.mem_of_getElem? (i := 1320) (by decide +kernel)⟩
def lw_privs_5 : List (MethodName × Nat) := [(⟨"PaperChanceryModel", "dies", "(II)V"⟩, 43), (⟨"PaperChanceryModel", "leaves", "(II)V"⟩, 43), (⟨"PaperChanceryModel", "gives", "(II)V"⟩, 43), (⟨"PaperChanceryModel", "decides", "(IIII)I"⟩, 43), (⟨"PaperChanceryModel", "differ", "(IIIII)I"⟩, 43), (⟨"PaperChanceryModel", "resigns", "(III)V"⟩, 43), (⟨"PaperChanceryModel", "swaps", "(III)V"⟩, 43), (⟨"PaperChanceryModel", "isPaper", "(I)Z"⟩, 43), (⟨"PaperChanceryModel", "points", "(I)I"⟩, 43)]
theorem lw_r5 : ∀ q ∈ lw_privs_5, lw_okq q := List.forall_mem_cons.mpr ⟨lw_p64, List.forall_mem_cons.mpr ⟨lw_p65, List.forall_mem_cons.mpr ⟨lw_p66, List.forall_mem_cons.mpr ⟨lw_p67, List.forall_mem_cons.mpr ⟨lw_p68, List.forall_mem_cons.mpr ⟨lw_p69, List.forall_mem_cons.mpr ⟨lw_p70, List.forall_mem_cons.mpr ⟨lw_p71, List.forall_mem_cons.mpr ⟨lw_p72, fun _ h => absurd h List.not_mem_nil⟩⟩⟩⟩⟩⟩⟩⟩⟩
def lw_privs : List (MethodName × Nat) := lw_privs_1 ++ (lw_privs_2 ++ (lw_privs_3 ++ (lw_privs_4 ++ (lw_privs_5))))
def lw_tbl : List Cond := k2_sels lw_privs ++ tables_1
theorem lw_privs_ok : ∀ q ∈ lw_privs, lw_okq q := by
  show ∀ q ∈ lw_privs_1 ++ (lw_privs_2 ++ (lw_privs_3 ++ (lw_privs_4 ++ (lw_privs_5)))), lw_okq q
  exact List.forall_mem_append.mpr ⟨lw_r1, List.forall_mem_append.mpr ⟨lw_r2, List.forall_mem_append.mpr ⟨lw_r3, List.forall_mem_append.mpr ⟨lw_r4, lw_r5⟩⟩⟩⟩
-- ===== end of PART A; then your names; then what follows =====
end
section
def R_Chan : String := "PaperChancery"
def F_Chan : u_T := fun k => match k with
  | 0 => ("PaperChancery", "tape", "LPaperChancery$Tape;", true)
  | 1 => ("PaperChancery", "reader", "LPaperChancery$RuleReader;", true)
  | 2 => ("PaperChancery", "roll", "LPaperChancery$Roll;", true)
  | 3 => ("PaperChancery", "box", "LPaperChancery$PaperBox;", true)
  | 4 => ("PaperChancery", "gazette", "LPaperChancery$Gazette;", true)
  | 5 => ("PaperChancery", "reigns", "LPaperChancery$Reigns;", true)
  | 6 => ("PaperChancery", "course", "LPaperChancery$Course;", true)
  | 7 => ("PaperChancery", "ends", "LPaperChancery$Ends;", true)
  | 8 => ("PaperChancery", "exchange", "LPaperChancery$Exchange;", true)
  | 9 => ("PaperChancery", "claimRow", "[I", true)
  | 10 => ("PaperChancery", "claimCount", "I", false)
  | _ => ("PaperChancery", "asKnown", "I", false)
def t_Chan : Nat → FieldType := fun k => match k with
  | 0 => .object "PaperChancery$Tape"
  | 1 => .object "PaperChancery$RuleReader"
  | 2 => .object "PaperChancery$Roll"
  | 3 => .object "PaperChancery$PaperBox"
  | 4 => .object "PaperChancery$Gazette"
  | 5 => .object "PaperChancery$Reigns"
  | 6 => .object "PaperChancery$Course"
  | 7 => .object "PaperChancery$Ends"
  | 8 => .object "PaperChancery$Exchange"
  | 9 => .array .int
  | 10 => .int
  | _ => .int
theorem n_Chan : ∀ a, a < 12 → ∀ b, b < 12 → a ≠ b → (F_Chan a).2.1 ≠ (F_Chan b).2.1 := by decide +kernel
theorem t_Chan_ok : ∀ k, k < 12 → parseFieldDescriptor (F_Chan k).2.2.1 = some (t_Chan k) := by decide +kernel
set_option maxRecDepth 20000 in
theorem i_Chan : ∀ w ∈ u_ws R_Chan F_Chan 12, w ∈ lw_tbl := by decide +kernel
def R_Tape : String := "PaperChancery$Tape"
def F_Tape : u_T := fun k => match k with
  | 0 => ("PaperChancery$Tape", "bytes", "[I", true)
  | _ => ("PaperChancery$Tape", "length", "I", false)
def t_Tape : Nat → FieldType := fun k => match k with
  | 0 => .array .int
  | _ => .int
theorem n_Tape : ∀ a, a < 2 → ∀ b, b < 2 → a ≠ b → (F_Tape a).2.1 ≠ (F_Tape b).2.1 := by decide +kernel
theorem t_Tape_ok : ∀ k, k < 2 → parseFieldDescriptor (F_Tape k).2.2.1 = some (t_Tape k) := by decide +kernel
set_option maxRecDepth 20000 in
theorem i_Tape : ∀ w ∈ u_ws R_Tape F_Tape 2, w ∈ lw_tbl := by decide +kernel
def R_RuleReader : String := "PaperChancery$RuleReader"
def F_RuleReader : u_T := fun k => match k with
  | 0 => ("PaperChancery$RuleReader", "tokens", "LPaperChancery$TokenRow;", true)
  | 1 => ("PaperChancery$RuleReader", "draft", "LPaperChancery$RuleBook;", true)
  | 2 => ("PaperChancery$RuleReader", "at", "I", false)
  | 3 => ("PaperChancery$RuleReader", "token", "I", false)
  | 4 => ("PaperChancery$RuleReader", "fault", "I", false)
  | _ => ("PaperChancery$RuleReader", "place", "I", false)
def t_RuleReader : Nat → FieldType := fun k => match k with
  | 0 => .object "PaperChancery$TokenRow"
  | 1 => .object "PaperChancery$RuleBook"
  | 2 => .int
  | 3 => .int
  | 4 => .int
  | _ => .int
theorem n_RuleReader : ∀ a, a < 6 → ∀ b, b < 6 → a ≠ b → (F_RuleReader a).2.1 ≠ (F_RuleReader b).2.1 := by decide +kernel
theorem t_RuleReader_ok : ∀ k, k < 6 → parseFieldDescriptor (F_RuleReader k).2.2.1 = some (t_RuleReader k) := by decide +kernel
set_option maxRecDepth 20000 in
theorem i_RuleReader : ∀ w ∈ u_ws R_RuleReader F_RuleReader 6, w ∈ lw_tbl := by decide +kernel
def R_RuleBook : String := "PaperChancery$RuleBook"
def F_RuleBook : u_T := fun k => match k with
  | 0 => ("PaperChancery$RuleBook", "kind", "[I", true)
  | 1 => ("PaperChancery$RuleBook", "detail", "[I", true)
  | 2 => ("PaperChancery$RuleBook", "testsFrom", "[I", true)
  | 3 => ("PaperChancery$RuleBook", "testsTo", "[I", true)
  | 4 => ("PaperChancery$RuleBook", "ruleCount", "I", false)
  | 5 => ("PaperChancery$RuleBook", "testSubject", "[I", true)
  | 6 => ("PaperChancery$RuleBook", "testSign", "[I", true)
  | 7 => ("PaperChancery$RuleBook", "testNumber", "[I", true)
  | _ => ("PaperChancery$RuleBook", "testCount", "I", false)
def t_RuleBook : Nat → FieldType := fun k => match k with
  | 0 => .array .int
  | 1 => .array .int
  | 2 => .array .int
  | 3 => .array .int
  | 4 => .int
  | 5 => .array .int
  | 6 => .array .int
  | 7 => .array .int
  | _ => .int
theorem n_RuleBook : ∀ a, a < 9 → ∀ b, b < 9 → a ≠ b → (F_RuleBook a).2.1 ≠ (F_RuleBook b).2.1 := by decide +kernel
theorem t_RuleBook_ok : ∀ k, k < 9 → parseFieldDescriptor (F_RuleBook k).2.2.1 = some (t_RuleBook k) := by decide +kernel
set_option maxRecDepth 20000 in
theorem i_RuleBook : ∀ w ∈ u_ws R_RuleBook F_RuleBook 9, w ∈ lw_tbl := by decide +kernel
def R_TokenRow : String := "PaperChancery$TokenRow"
def F_TokenRow : u_T := fun k => match k with
  | 0 => ("PaperChancery$TokenRow", "tape", "LPaperChancery$Tape;", true)
  | 1 => ("PaperChancery$TokenRow", "code", "[I", true)
  | 2 => ("PaperChancery$TokenRow", "start", "[I", true)
  | 3 => ("PaperChancery$TokenRow", "value", "[I", true)
  | _ => ("PaperChancery$TokenRow", "count", "I", false)
def t_TokenRow : Nat → FieldType := fun k => match k with
  | 0 => .object "PaperChancery$Tape"
  | 1 => .array .int
  | 2 => .array .int
  | 3 => .array .int
  | _ => .int
theorem n_TokenRow : ∀ a, a < 5 → ∀ b, b < 5 → a ≠ b → (F_TokenRow a).2.1 ≠ (F_TokenRow b).2.1 := by decide +kernel
theorem t_TokenRow_ok : ∀ k, k < 5 → parseFieldDescriptor (F_TokenRow k).2.2.1 = some (t_TokenRow k) := by decide +kernel
set_option maxRecDepth 20000 in
theorem i_TokenRow : ∀ w ∈ u_ws R_TokenRow F_TokenRow 5, w ∈ lw_tbl := by decide +kernel
def R_Roll : String := "PaperChancery$Roll"
def F_Roll : u_T := fun k => match k with
  | 0 => ("PaperChancery$Roll", "degree", "[I", true)
  | 1 => ("PaperChancery$Roll", "rank", "[I", true)
  | 2 => ("PaperChancery$Roll", "home", "[I", true)
  | 3 => ("PaperChancery$Roll", "persons", "I", false)
  | 4 => ("PaperChancery$Roll", "diocese", "[I", true)
  | 5 => ("PaperChancery$Roll", "worth", "[I", true)
  | 6 => ("PaperChancery$Roll", "seated", "[I", true)
  | 7 => ("PaperChancery$Roll", "posts", "I", false)
  | _ => ("PaperChancery$Roll", "world", "I", false)
def t_Roll : Nat → FieldType := fun k => match k with
  | 0 => .array .int
  | 1 => .array .int
  | 2 => .array .int
  | 3 => .int
  | 4 => .array .int
  | 5 => .array .int
  | 6 => .array .int
  | 7 => .int
  | _ => .int
theorem n_Roll : ∀ a, a < 9 → ∀ b, b < 9 → a ≠ b → (F_Roll a).2.1 ≠ (F_Roll b).2.1 := by decide +kernel
theorem t_Roll_ok : ∀ k, k < 9 → parseFieldDescriptor (F_Roll k).2.2.1 = some (t_Roll k) := by decide +kernel
set_option maxRecDepth 20000 in
theorem i_Roll : ∀ w ∈ u_ws R_Roll F_Roll 9, w ∈ lw_tbl := by decide +kernel
def R_PaperBox : String := "PaperChancery$PaperBox"
def F_PaperBox : u_T := fun k => match k with
  | 0 => ("PaperChancery$PaperBox", "owner", "[I", true)
  | 1 => ("PaperChancery$PaperBox", "date", "[I", true)
  | 2 => ("PaperChancery$PaperBox", "clauses", "[I", true)
  | 3 => ("PaperChancery$PaperBox", "dioceses", "[I", true)
  | 4 => ("PaperChancery$PaperBox", "least", "[I", true)
  | 5 => ("PaperChancery$PaperBox", "most", "[I", true)
  | 6 => ("PaperChancery$PaperBox", "news", "[I", true)
  | 7 => ("PaperChancery$PaperBox", "voidedBy", "[I", true)
  | _ => ("PaperChancery$PaperBox", "count", "I", false)
def t_PaperBox : Nat → FieldType := fun k => match k with
  | 0 => .array .int
  | 1 => .array .int
  | 2 => .array .int
  | 3 => .array .int
  | 4 => .array .int
  | 5 => .array .int
  | 6 => .array .int
  | 7 => .array .int
  | _ => .int
theorem n_PaperBox : ∀ a, a < 9 → ∀ b, b < 9 → a ≠ b → (F_PaperBox a).2.1 ≠ (F_PaperBox b).2.1 := by decide +kernel
theorem t_PaperBox_ok : ∀ k, k < 9 → parseFieldDescriptor (F_PaperBox k).2.2.1 = some (t_PaperBox k) := by decide +kernel
set_option maxRecDepth 20000 in
theorem i_PaperBox : ∀ w ∈ u_ws R_PaperBox F_PaperBox 9, w ∈ lw_tbl := by decide +kernel
def R_Gazette : String := "PaperChancery$Gazette"
def F_Gazette : u_T := fun k => match k with
  | 0 => ("PaperChancery$Gazette", "kind", "[I", true)
  | 1 => ("PaperChancery$Gazette", "time", "[I", true)
  | 2 => ("PaperChancery$Gazette", "first", "[I", true)
  | 3 => ("PaperChancery$Gazette", "second", "[I", true)
  | 4 => ("PaperChancery$Gazette", "count", "I", false)
  | 5 => ("PaperChancery$Gazette", "order", "[I", true)
  | _ => ("PaperChancery$Gazette", "ordered", "I", false)
def t_Gazette : Nat → FieldType := fun k => match k with
  | 0 => .array .int
  | 1 => .array .int
  | 2 => .array .int
  | 3 => .array .int
  | 4 => .int
  | 5 => .array .int
  | _ => .int
theorem n_Gazette : ∀ a, a < 7 → ∀ b, b < 7 → a ≠ b → (F_Gazette a).2.1 ≠ (F_Gazette b).2.1 := by decide +kernel
theorem t_Gazette_ok : ∀ k, k < 7 → parseFieldDescriptor (F_Gazette k).2.2.1 = some (t_Gazette k) := by decide +kernel
set_option maxRecDepth 20000 in
theorem i_Gazette : ∀ w ∈ u_ws R_Gazette F_Gazette 7, w ∈ lw_tbl := by decide +kernel
def R_Reigns : String := "PaperChancery$Reigns"
def F_Reigns : u_T := fun k => match k with
  | 0 => ("PaperChancery$Reigns", "from", "[I", true)
  | 1 => ("PaperChancery$Reigns", "books", "[LPaperChancery$RuleBook;", true)
  | 2 => ("PaperChancery$Reigns", "noRules", "LPaperChancery$RuleBook;", true)
  | _ => ("PaperChancery$Reigns", "count", "I", false)
def t_Reigns : Nat → FieldType := fun k => match k with
  | 0 => .array .int
  | 1 => .array (.object "PaperChancery$RuleBook")
  | 2 => .object "PaperChancery$RuleBook"
  | _ => .int
theorem n_Reigns : ∀ a, a < 4 → ∀ b, b < 4 → a ≠ b → (F_Reigns a).2.1 ≠ (F_Reigns b).2.1 := by decide +kernel
theorem t_Reigns_ok : ∀ k, k < 4 → parseFieldDescriptor (F_Reigns k).2.2.1 = some (t_Reigns k) := by decide +kernel
set_option maxRecDepth 20000 in
theorem i_Reigns : ∀ w ∈ u_ws R_Reigns F_Reigns 4, w ∈ lw_tbl := by decide +kernel
def R_Course : String := "PaperChancery$Course"
def F_Course : u_T := fun k => match k with
  | 0 => ("PaperChancery$Course", "roll", "LPaperChancery$Roll;", true)
  | 1 => ("PaperChancery$Course", "box", "LPaperChancery$PaperBox;", true)
  | 2 => ("PaperChancery$Course", "gazette", "LPaperChancery$Gazette;", true)
  | 3 => ("PaperChancery$Course", "reigns", "LPaperChancery$Reigns;", true)
  | 4 => ("PaperChancery$Course", "holder", "[I", true)
  | 5 => ("PaperChancery$Course", "heldFrom", "[I", true)
  | 6 => ("PaperChancery$Course", "held", "[I", true)
  | 7 => ("PaperChancery$Course", "earned", "[J", true)
  | 8 => ("PaperChancery$Course", "dead", "[Z", true)
  | 9 => ("PaperChancery$Course", "live", "[Z", true)
  | 10 => ("PaperChancery$Course", "usedFor", "[I", true)
  | 11 => ("PaperChancery$Course", "usedAt", "[I", true)
  | 12 => ("PaperChancery$Course", "facts", "[I", true)
  | 13 => ("PaperChancery$Course", "otherFacts", "[I", true)
  | 14 => ("PaperChancery$Course", "now", "I", false)
  | 15 => ("PaperChancery$Course", "rules", "LPaperChancery$RuleBook;", false)
  | 16 => ("PaperChancery$Course", "toldWorld", "I", false)
  | 17 => ("PaperChancery$Course", "toldKnown", "I", false)
  | _ => ("PaperChancery$Course", "toldUntil", "I", false)
def t_Course : Nat → FieldType := fun k => match k with
  | 0 => .object "PaperChancery$Roll"
  | 1 => .object "PaperChancery$PaperBox"
  | 2 => .object "PaperChancery$Gazette"
  | 3 => .object "PaperChancery$Reigns"
  | 4 => .array .int
  | 5 => .array .int
  | 6 => .array .int
  | 7 => .array .long
  | 8 => .array .boolean
  | 9 => .array .boolean
  | 10 => .array .int
  | 11 => .array .int
  | 12 => .array .int
  | 13 => .array .int
  | 14 => .int
  | 15 => .object "PaperChancery$RuleBook"
  | 16 => .int
  | 17 => .int
  | _ => .int
theorem n_Course : ∀ a, a < 19 → ∀ b, b < 19 → a ≠ b → (F_Course a).2.1 ≠ (F_Course b).2.1 := by decide +kernel
theorem t_Course_ok : ∀ k, k < 19 → parseFieldDescriptor (F_Course k).2.2.1 = some (t_Course k) := by decide +kernel
set_option maxRecDepth 20000 in
theorem i_Course : ∀ w ∈ u_ws R_Course F_Course 19, w ∈ lw_tbl := by decide +kernel
def R_Ends : String := "PaperChancery$Ends"
def F_Ends : u_T := fun k => match k with
  | 0 => ("PaperChancery$Ends", "roll", "LPaperChancery$Roll;", true)
  | 1 => ("PaperChancery$Ends", "holders", "[I", true)
  | _ => ("PaperChancery$Ends", "worlds", "[I", true)
def t_Ends : Nat → FieldType := fun k => match k with
  | 0 => .object "PaperChancery$Roll"
  | 1 => .array .int
  | _ => .array .int
theorem n_Ends : ∀ a, a < 3 → ∀ b, b < 3 → a ≠ b → (F_Ends a).2.1 ≠ (F_Ends b).2.1 := by decide +kernel
theorem t_Ends_ok : ∀ k, k < 3 → parseFieldDescriptor (F_Ends k).2.2.1 = some (t_Ends k) := by decide +kernel
set_option maxRecDepth 20000 in
theorem i_Ends : ∀ w ∈ u_ws R_Ends F_Ends 3, w ∈ lw_tbl := by decide +kernel
def R_Exchange : String := "PaperChancery$Exchange"
def F_Exchange : u_T := fun k => match k with
  | 0 => ("PaperChancery$Exchange", "wishes", "[I", true)
  | 1 => ("PaperChancery$Exchange", "wishCount", "[I", true)
  | 2 => ("PaperChancery$Exchange", "offered", "[I", true)
  | 3 => ("PaperChancery$Exchange", "target", "[I", true)
  | _ => ("PaperChancery$Exchange", "gained", "[I", true)
def t_Exchange : Nat → FieldType := fun k => match k with
  | 0 => .array .int
  | 1 => .array .int
  | 2 => .array .int
  | 3 => .array .int
  | _ => .array .int
theorem n_Exchange : ∀ a, a < 5 → ∀ b, b < 5 → a ≠ b → (F_Exchange a).2.1 ≠ (F_Exchange b).2.1 := by decide +kernel
theorem t_Exchange_ok : ∀ k, k < 5 → parseFieldDescriptor (F_Exchange k).2.2.1 = some (t_Exchange k) := by decide +kernel
set_option maxRecDepth 20000 in
theorem i_Exchange : ∀ w ∈ u_ws R_Exchange F_Exchange 5, w ∈ lw_tbl := by decide +kernel
def R_Md : String := "PaperChanceryModel"
def F_Md : u_T := fun k => match k with
  | 0 => ("PaperChanceryModel", "tape", "[I", true)
  | 1 => ("PaperChanceryModel", "taped", "I", false)
  | 2 => ("PaperChanceryModel", "persons", "I", false)
  | 3 => ("PaperChanceryModel", "person", "[I", true)
  | 4 => ("PaperChanceryModel", "posts", "I", false)
  | 5 => ("PaperChanceryModel", "post", "[I", true)
  | 6 => ("PaperChanceryModel", "news", "I", false)
  | 7 => ("PaperChanceryModel", "kinds", "[I", true)
  | 8 => ("PaperChanceryModel", "times", "[I", true)
  | 9 => ("PaperChanceryModel", "firsts", "[I", true)
  | 10 => ("PaperChanceryModel", "seconds", "[I", true)
  | 11 => ("PaperChanceryModel", "papers", "I", false)
  | 12 => ("PaperChanceryModel", "paper", "[I", true)
  | 13 => ("PaperChanceryModel", "voids", "[I", true)
  | 14 => ("PaperChanceryModel", "told", "I", false)
  | 15 => ("PaperChanceryModel", "reigns", "I", false)
  | 16 => ("PaperChanceryModel", "reignTime", "[I", true)
  | 17 => ("PaperChanceryModel", "reignRules", "[I", true)
  | 18 => ("PaperChanceryModel", "reignSize", "[I", true)
  | 19 => ("PaperChanceryModel", "rules", "[I", true)
  | 20 => ("PaperChanceryModel", "fresh", "[I", true)
  | 21 => ("PaperChanceryModel", "made", "I", false)
  | 22 => ("PaperChanceryModel", "at", "I", false)
  | 23 => ("PaperChanceryModel", "size", "I", false)
  | 24 => ("PaperChanceryModel", "faultKind", "I", false)
  | 25 => ("PaperChanceryModel", "faultPlace", "I", false)
  | 26 => ("PaperChanceryModel", "holders", "[I", true)
  | 27 => ("PaperChanceryModel", "heldFrom", "[I", true)
  | 28 => ("PaperChanceryModel", "dead", "[Z", true)
  | 29 => ("PaperChanceryModel", "live", "[Z", true)
  | 30 => ("PaperChanceryModel", "usedFor", "[I", true)
  | 31 => ("PaperChanceryModel", "usedAt", "[I", true)
  | 32 => ("PaperChanceryModel", "dues", "[J", true)
  | 33 => ("PaperChanceryModel", "done", "[Z", true)
  | 34 => ("PaperChanceryModel", "claims", "[I", true)
  | 35 => ("PaperChanceryModel", "claimMany", "I", false)
  | 36 => ("PaperChanceryModel", "wishes", "[I", true)
  | 37 => ("PaperChanceryModel", "wishMany", "[I", true)
  | 38 => ("PaperChanceryModel", "got", "[I", true)
  | 39 => ("PaperChanceryModel", "there", "[Z", true)
  | 40 => ("PaperChanceryModel", "own", "[I", true)
  | 41 => ("PaperChanceryModel", "ringed", "Z", false)
  | _ => ("PaperChanceryModel", "ringPersons", "I", false)
def t_Md : Nat → FieldType := fun k => match k with
  | 0 => .array .int
  | 1 => .int
  | 2 => .int
  | 3 => .array .int
  | 4 => .int
  | 5 => .array .int
  | 6 => .int
  | 7 => .array .int
  | 8 => .array .int
  | 9 => .array .int
  | 10 => .array .int
  | 11 => .int
  | 12 => .array .int
  | 13 => .array .int
  | 14 => .int
  | 15 => .int
  | 16 => .array .int
  | 17 => .array .int
  | 18 => .array .int
  | 19 => .array .int
  | 20 => .array .int
  | 21 => .int
  | 22 => .int
  | 23 => .int
  | 24 => .int
  | 25 => .int
  | 26 => .array .int
  | 27 => .array .int
  | 28 => .array .boolean
  | 29 => .array .boolean
  | 30 => .array .int
  | 31 => .array .int
  | 32 => .array .long
  | 33 => .array .boolean
  | 34 => .array .int
  | 35 => .int
  | 36 => .array .int
  | 37 => .array .int
  | 38 => .array .int
  | 39 => .array .boolean
  | 40 => .array .int
  | 41 => .boolean
  | _ => .int
theorem n_Md : ∀ a, a < 43 → ∀ b, b < 43 → a ≠ b → (F_Md a).2.1 ≠ (F_Md b).2.1 := by decide +kernel
theorem t_Md_ok : ∀ k, k < 43 → parseFieldDescriptor (F_Md k).2.2.1 = some (t_Md k) := by decide +kernel
set_option maxRecDepth 20000 in
theorem i_Md : ∀ w ∈ u_ws R_Md F_Md 43, w ∈ lw_tbl := by decide +kernel
abbrev classes : List vw_C := [(R_Chan, F_Chan, 12), (R_Tape, F_Tape, 2), (R_RuleReader, F_RuleReader, 6), (R_RuleBook, F_RuleBook, 9), (R_TokenRow, F_TokenRow, 5), (R_Roll, F_Roll, 9), (R_PaperBox, F_PaperBox, 9), (R_Gazette, F_Gazette, 7), (R_Reigns, F_Reigns, 4), (R_Course, F_Course, 19), (R_Ends, F_Ends, 3), (R_Exchange, F_Exchange, 5), (R_Md, F_Md, 43)]
abbrev b_Chan_init : ByteArray := prog_1_method_1_code
abbrev y_Chan_init : MethodName := ⟨"PaperChancery", "<init>", "()V"⟩
abbrev b_Object_init : ByteArray := object_method_1_code
abbrev y_Object_init : MethodName := ⟨"java/lang/Object", "<init>", "()V"⟩
abbrev b_Tape_init : ByteArray := prog_11_method_1_code
abbrev y_Tape_init : MethodName := ⟨"PaperChancery$Tape", "<init>", "()V"⟩
abbrev b_RuleReader_init : ByteArray := prog_10_method_1_code
abbrev y_RuleReader_init : MethodName := ⟨"PaperChancery$RuleReader", "<init>", "(LPaperChancery$Tape;)V"⟩
abbrev b_RuleBook_init : ByteArray := prog_9_method_1_code
abbrev y_RuleBook_init : MethodName := ⟨"PaperChancery$RuleBook", "<init>", "()V"⟩
abbrev b_TokenRow_init : ByteArray := prog_12_method_1_code
abbrev y_TokenRow_init : MethodName := ⟨"PaperChancery$TokenRow", "<init>", "(LPaperChancery$Tape;)V"⟩
abbrev b_Roll_init : ByteArray := prog_8_method_1_code
abbrev y_Roll_init : MethodName := ⟨"PaperChancery$Roll", "<init>", "()V"⟩
abbrev b_PaperBox_init : ByteArray := prog_6_method_1_code
abbrev y_PaperBox_init : MethodName := ⟨"PaperChancery$PaperBox", "<init>", "()V"⟩
abbrev b_Gazette_init : ByteArray := prog_5_method_1_code
abbrev y_Gazette_init : MethodName := ⟨"PaperChancery$Gazette", "<init>", "()V"⟩
abbrev b_Reigns_init : ByteArray := prog_7_method_1_code
abbrev y_Reigns_init : MethodName := ⟨"PaperChancery$Reigns", "<init>", "()V"⟩
abbrev b_Course_init : ByteArray := prog_2_method_1_code
abbrev y_Course_init : MethodName := ⟨"PaperChancery$Course", "<init>", "(LPaperChancery$Roll;LPaperChancery$PaperBox;LPaperChancery$Gazette;LPaperChancery$Reigns;)V"⟩
abbrev b_Ends_init : ByteArray := prog_3_method_1_code
abbrev y_Ends_init : MethodName := ⟨"PaperChancery$Ends", "<init>", "(LPaperChancery$Roll;)V"⟩
abbrev b_Arrays_fill_i : ByteArray := prog_20_method_103_code
abbrev y_Arrays_fill_i : MethodName := ⟨"java/util/Arrays", "fill", "([II)V"⟩
abbrev b_Exchange_init : ByteArray := prog_4_method_1_code
abbrev y_Exchange_init : MethodName := ⟨"PaperChancery$Exchange", "<init>", "()V"⟩
abbrev b_Chan_feed : ByteArray := prog_1_method_2_code
abbrev y_Chan_feed : MethodName := ⟨"PaperChancery", "feed", "(IIIII)I"⟩
abbrev b_Tape_hasRoom : ByteArray := prog_11_method_2_code
abbrev y_Tape_hasRoom : MethodName := ⟨"PaperChancery$Tape", "hasRoom", "()Z"⟩
abbrev b_Tape_append : ByteArray := prog_11_method_3_code
abbrev y_Tape_append : MethodName := ⟨"PaperChancery$Tape", "append", "(I)V"⟩
abbrev b_Chan_end : ByteArray := prog_1_method_3_code
abbrev y_Chan_end : MethodName := ⟨"PaperChancery", "end", "(I)Z"⟩
abbrev b_Tape_cutTo : ByteArray := prog_11_method_4_code
abbrev y_Tape_cutTo : MethodName := ⟨"PaperChancery$Tape", "cutTo", "(I)Z"⟩
abbrev b_Chan_person : ByteArray := prog_1_method_4_code
abbrev y_Chan_person : MethodName := ⟨"PaperChancery", "person", "(III)I"⟩
abbrev b_Chan_isWithin : ByteArray := prog_1_method_29_code
abbrev y_Chan_isWithin : MethodName := ⟨"PaperChancery", "isWithin", "(III)Z"⟩
abbrev b_Roll_addPerson : ByteArray := prog_8_method_4_code
abbrev y_Roll_addPerson : MethodName := ⟨"PaperChancery$Roll", "addPerson", "(III)I"⟩
abbrev b_Chan_post : ByteArray := prog_1_method_5_code
abbrev y_Chan_post : MethodName := ⟨"PaperChancery", "post", "(II)I"⟩
abbrev b_Roll_addPost : ByteArray := prog_8_method_5_code
abbrev y_Roll_addPost : MethodName := ⟨"PaperChancery$Roll", "addPost", "(II)I"⟩
abbrev b_Chan_seat : ByteArray := prog_1_method_6_code
abbrev y_Chan_seat : MethodName := ⟨"PaperChancery", "seat", "(II)Z"⟩
abbrev b_Roll_isPost : ByteArray := prog_8_method_3_code
abbrev y_Roll_isPost : MethodName := ⟨"PaperChancery$Roll", "isPost", "(I)Z"⟩
abbrev b_Roll_isPerson : ByteArray := prog_8_method_2_code
abbrev y_Roll_isPerson : MethodName := ⟨"PaperChancery$Roll", "isPerson", "(I)Z"⟩
abbrev b_Roll_putSeat : ByteArray := prog_8_method_6_code
abbrev y_Roll_putSeat : MethodName := ⟨"PaperChancery$Roll", "putSeat", "(II)V"⟩
abbrev b_Chan_reign : ByteArray := prog_1_method_7_code
abbrev y_Chan_reign : MethodName := ⟨"PaperChancery", "reign", "(I)I"⟩
abbrev b_RuleReader_read : ByteArray := prog_10_method_2_code
abbrev y_RuleReader_read : MethodName := ⟨"PaperChancery$RuleReader", "read", "()Z"⟩
abbrev b_RuleBook_clear : ByteArray := prog_9_method_2_code
abbrev y_RuleBook_clear : MethodName := ⟨"PaperChancery$RuleBook", "clear", "()V"⟩
abbrev b_TokenRow_scan : ByteArray := prog_12_method_2_code
abbrev y_TokenRow_scan : MethodName := ⟨"PaperChancery$TokenRow", "scan", "()V"⟩
abbrev b_TokenRow_skipBlanks : ByteArray := prog_12_method_3_code
abbrev y_TokenRow_skipBlanks : MethodName := ⟨"PaperChancery$TokenRow", "skipBlanks", "(I)I"⟩
abbrev b_TokenRow_take : ByteArray := prog_12_method_4_code
abbrev y_TokenRow_take : MethodName := ⟨"PaperChancery$TokenRow", "take", "(I)I"⟩
abbrev b_TokenRow_isLetter : ByteArray := prog_12_method_9_code
abbrev y_TokenRow_isLetter : MethodName := ⟨"PaperChancery$TokenRow", "isLetter", "(I)Z"⟩
abbrev b_TokenRow_takeWord : ByteArray := prog_12_method_5_code
abbrev y_TokenRow_takeWord : MethodName := ⟨"PaperChancery$TokenRow", "takeWord", "(I)I"⟩
abbrev b_TokenRow_isWord : ByteArray := prog_12_method_6_code
abbrev y_TokenRow_isWord : MethodName := ⟨"PaperChancery$TokenRow", "isWord", "(III)Z"⟩
abbrev b_String_charAt : ByteArray := prog_16_method_56_code
abbrev y_String_charAt : MethodName := ⟨"java/lang/String", "charAt", "(I)C"⟩
abbrev b_String_isLatin1 : ByteArray := prog_16_method_154_code
abbrev y_String_isLatin1 : MethodName := ⟨"java/lang/String", "isLatin1", "()Z"⟩
abbrev b_StringLatin1_charAt : ByteArray := prog_17_method_2_code
abbrev y_StringLatin1_charAt : MethodName := ⟨"java/lang/StringLatin1", "charAt", "([BI)C"⟩
abbrev b_String_checkIndex : ByteArray := prog_16_method_155_code
abbrev y_String_checkIndex : MethodName := ⟨"java/lang/String", "checkIndex", "(II)V"⟩
abbrev b_Preconditions_checkIndex : ByteArray := prog_21_method_11_code
abbrev y_Preconditions_checkIndex : MethodName := ⟨"jdk/internal/util/Preconditions", "checkIndex", "(IILjava/util/function/BiFunction;)I"⟩
abbrev b_StringUTF16_charAt : ByteArray := prog_18_method_83_code
abbrev y_StringUTF16_charAt : MethodName := ⟨"java/lang/StringUTF16", "charAt", "([BI)C"⟩
abbrev b_StringUTF16_checkIndex : ByteArray := prog_18_method_91_code
abbrev y_StringUTF16_checkIndex : MethodName := ⟨"java/lang/StringUTF16", "checkIndex", "(I[B)V"⟩
abbrev b_StringUTF16_length : ByteArray := prog_18_method_6_code
abbrev y_StringUTF16_length : MethodName := ⟨"java/lang/StringUTF16", "length", "([B)I"⟩
abbrev b_StringUTF16_getChar : ByteArray := prog_18_method_5_code
abbrev y_StringUTF16_getChar : MethodName := ⟨"java/lang/StringUTF16", "getChar", "([BI)C"⟩
abbrev b_TokenRow_isDigit : ByteArray := prog_12_method_10_code
abbrev y_TokenRow_isDigit : MethodName := ⟨"PaperChancery$TokenRow", "isDigit", "(I)Z"⟩
abbrev b_TokenRow_takeNumber : ByteArray := prog_12_method_7_code
abbrev y_TokenRow_takeNumber : MethodName := ⟨"PaperChancery$TokenRow", "takeNumber", "(I)I"⟩
abbrev b_TokenRow_takeMark : ByteArray := prog_12_method_8_code
abbrev y_TokenRow_takeMark : MethodName := ⟨"PaperChancery$TokenRow", "takeMark", "(I)V"⟩
abbrev b_Math_max : ByteArray := prog_15_method_65_code
abbrev y_Math_max : MethodName := ⟨"java/lang/Math", "max", "(II)I"⟩
abbrev b_RuleReader_readRule : ByteArray := prog_10_method_5_code
abbrev y_RuleReader_readRule : MethodName := ⟨"PaperChancery$RuleReader", "readRule", "()Z"⟩
abbrev b_RuleBook_isFull : ByteArray := prog_9_method_4_code
abbrev y_RuleBook_isFull : MethodName := ⟨"PaperChancery$RuleBook", "isFull", "()Z"⟩
abbrev b_RuleReader_failWith : ByteArray := prog_10_method_4_code
abbrev y_RuleReader_failWith : MethodName := ⟨"PaperChancery$RuleReader", "failWith", "(I)Z"⟩
abbrev b_RuleBook_addRule : ByteArray := prog_9_method_5_code
abbrev y_RuleBook_addRule : MethodName := ⟨"PaperChancery$RuleBook", "addRule", "(II)V"⟩
abbrev b_RuleReader_advance : ByteArray := prog_10_method_3_code
abbrev y_RuleReader_advance : MethodName := ⟨"PaperChancery$RuleReader", "advance", "()V"⟩
abbrev b_RuleReader_readTests : ByteArray := prog_10_method_8_code
abbrev y_RuleReader_readTests : MethodName := ⟨"PaperChancery$RuleReader", "readTests", "(I)Z"⟩
abbrev b_RuleReader_readTest : ByteArray := prog_10_method_9_code
abbrev y_RuleReader_readTest : MethodName := ⟨"PaperChancery$RuleReader", "readTest", "(I)Z"⟩
abbrev b_RuleReader_pass : ByteArray := prog_10_method_10_code
abbrev y_RuleReader_pass : MethodName := ⟨"PaperChancery$RuleReader", "pass", "(I)Z"⟩
abbrev b_RuleBook_addTest : ByteArray := prog_9_method_6_code
abbrev y_RuleBook_addTest : MethodName := ⟨"PaperChancery$RuleBook", "addTest", "(III)V"⟩
abbrev b_RuleReader_readKey : ByteArray := prog_10_method_6_code
abbrev y_RuleReader_readKey : MethodName := ⟨"PaperChancery$RuleReader", "readKey", "()Z"⟩
abbrev b_RuleReader_readCondition : ByteArray := prog_10_method_7_code
abbrev y_RuleReader_readCondition : MethodName := ⟨"PaperChancery$RuleReader", "readCondition", "()Z"⟩
abbrev b_Chan_isTime : ByteArray := prog_1_method_30_code
abbrev y_Chan_isTime : MethodName := ⟨"PaperChancery", "isTime", "(I)Z"⟩
abbrev b_Reigns_add : ByteArray := prog_7_method_2_code
abbrev y_Reigns_add : MethodName := ⟨"PaperChancery$Reigns", "add", "(ILPaperChancery$RuleBook;)V"⟩
abbrev b_RuleBook_copyFrom : ByteArray := prog_9_method_3_code
abbrev y_RuleBook_copyFrom : MethodName := ⟨"PaperChancery$RuleBook", "copyFrom", "(LPaperChancery$RuleBook;)V"⟩
abbrev b_Chan_fault : ByteArray := prog_1_method_8_code
abbrev y_Chan_fault : MethodName := ⟨"PaperChancery", "fault", "(I)I"⟩
abbrev b_Chan_paper : ByteArray := prog_1_method_9_code
abbrev y_Chan_paper : MethodName := ⟨"PaperChancery", "paper", "(IIIIII)I"⟩
abbrev b_PaperBox_isFull : ByteArray := prog_6_method_2_code
abbrev y_PaperBox_isFull : MethodName := ⟨"PaperChancery$PaperBox", "isFull", "()Z"⟩
abbrev b_Gazette_isFull : ByteArray := prog_5_method_2_code
abbrev y_Gazette_isFull : MethodName := ⟨"PaperChancery$Gazette", "isFull", "()Z"⟩
abbrev b_Gazette_add : ByteArray := prog_5_method_3_code
abbrev y_Gazette_add : MethodName := ⟨"PaperChancery$Gazette", "add", "(IIII)I"⟩
abbrev b_Gazette_putInOrder : ByteArray := prog_5_method_4_code
abbrev y_Gazette_putInOrder : MethodName := ⟨"PaperChancery$Gazette", "putInOrder", "(I)V"⟩
abbrev b_PaperBox_add : ByteArray := prog_6_method_6_code
abbrev y_PaperBox_add : MethodName := ⟨"PaperChancery$PaperBox", "add", "(IIIIIII)V"⟩
abbrev b_Chan_death : ByteArray := prog_1_method_10_code
abbrev y_Chan_death : MethodName := ⟨"PaperChancery", "death", "(II)I"⟩
abbrev b_Chan_resign : ByteArray := prog_1_method_11_code
abbrev y_Chan_resign : MethodName := ⟨"PaperChancery", "resign", "(III)I"⟩
abbrev b_Chan_swap : ByteArray := prog_1_method_12_code
abbrev y_Chan_swap : MethodName := ⟨"PaperChancery", "swap", "(III)I"⟩
abbrev b_Chan_disprove : ByteArray := prog_1_method_13_code
abbrev y_Chan_disprove : MethodName := ⟨"PaperChancery", "disprove", "(I)I"⟩
abbrev b_PaperBox_has : ByteArray := prog_6_method_3_code
abbrev y_PaperBox_has : MethodName := ⟨"PaperChancery$PaperBox", "has", "(I)Z"⟩
abbrev b_Chan_as : ByteArray := prog_1_method_14_code
abbrev y_Chan_as : MethodName := ⟨"PaperChancery", "as", "(I)Z"⟩
abbrev b_Chan_holder : ByteArray := prog_1_method_15_code
abbrev y_Chan_holder : MethodName := ⟨"PaperChancery", "holder", "(II)I"⟩
abbrev b_Chan_knownNow : ByteArray := prog_1_method_28_code
abbrev y_Chan_knownNow : MethodName := ⟨"PaperChancery", "knownNow", "()I"⟩
abbrev b_Course_tell : ByteArray := prog_2_method_2_code
abbrev y_Course_tell : MethodName := ⟨"PaperChancery$Course", "tell", "(II)V"⟩
abbrev b_Course_begin : ByteArray := prog_2_method_3_code
abbrev y_Course_begin : MethodName := ⟨"PaperChancery$Course", "begin", "()V"⟩
abbrev b_Arrays_fill_l : ByteArray := prog_20_method_101_code
abbrev y_Arrays_fill_l : MethodName := ⟨"java/util/Arrays", "fill", "([JJ)V"⟩
abbrev b_Course_place : ByteArray := prog_2_method_13_code
abbrev y_Course_place : MethodName := ⟨"PaperChancery$Course", "place", "(II)V"⟩
abbrev b_Course_goTo : ByteArray := prog_2_method_4_code
abbrev y_Course_goTo : MethodName := ⟨"PaperChancery$Course", "goTo", "(I)V"⟩
abbrev b_Reigns_inForceAt : ByteArray := prog_7_method_3_code
abbrev y_Reigns_inForceAt : MethodName := ⟨"PaperChancery$Reigns", "inForceAt", "(I)LPaperChancery$RuleBook;"⟩
abbrev b_Course_happen : ByteArray := prog_2_method_5_code
abbrev y_Course_happen : MethodName := ⟨"PaperChancery$Course", "happen", "(II)V"⟩
abbrev b_PaperBox_isVoid : ByteArray := prog_6_method_5_code
abbrev y_PaperBox_isVoid : MethodName := ⟨"PaperChancery$PaperBox", "isVoid", "(II)Z"⟩
abbrev b_Course_comeAlive : ByteArray := prog_2_method_6_code
abbrev y_Course_comeAlive : MethodName := ⟨"PaperChancery$Course", "comeAlive", "(I)V"⟩
abbrev b_Course_mayClaim : ByteArray := prog_2_method_14_code
abbrev y_Course_mayClaim : MethodName := ⟨"PaperChancery$Course", "mayClaim", "(II)Z"⟩
abbrev b_PaperBox_reaches : ByteArray := prog_6_method_7_code
abbrev y_PaperBox_reaches : MethodName := ⟨"PaperChancery$PaperBox", "reaches", "(III)Z"⟩
abbrev b_Course_loadFacts : ByteArray := prog_2_method_16_code
abbrev y_Course_loadFacts : MethodName := ⟨"PaperChancery$Course", "loadFacts", "([IIII)V"⟩
abbrev b_RuleBook_bars : ByteArray := prog_9_method_7_code
abbrev y_RuleBook_bars : MethodName := ⟨"PaperChancery$RuleBook", "bars", "([I)Z"⟩
abbrev b_RuleBook_testsHold : ByteArray := prog_9_method_9_code
abbrev y_RuleBook_testsHold : MethodName := ⟨"PaperChancery$RuleBook", "testsHold", "(I[I)Z"⟩
abbrev b_Course_use : ByteArray := prog_2_method_11_code
abbrev y_Course_use : MethodName := ⟨"PaperChancery$Course", "use", "(II)V"⟩
abbrev b_Course_give : ByteArray := prog_2_method_12_code
abbrev y_Course_give : MethodName := ⟨"PaperChancery$Course", "give", "(II)V"⟩
abbrev b_Course_die : ByteArray := prog_2_method_7_code
abbrev y_Course_die : MethodName := ⟨"PaperChancery$Course", "die", "(I)V"⟩
abbrev b_Course_fill : ByteArray := prog_2_method_10_code
abbrev y_Course_fill : MethodName := ⟨"PaperChancery$Course", "fill", "(I)V"⟩
abbrev b_Course_duel : ByteArray := prog_2_method_15_code
abbrev y_Course_duel : MethodName := ⟨"PaperChancery$Course", "duel", "(III)I"⟩
abbrev b_RuleBook_duel : ByteArray := prog_9_method_8_code
abbrev y_RuleBook_duel : MethodName := ⟨"PaperChancery$RuleBook", "duel", "([I[I)I"⟩
abbrev b_RuleBook_standing : ByteArray := prog_9_method_10_code
abbrev y_RuleBook_standing : MethodName := ⟨"PaperChancery$RuleBook", "standing", "(I[I)I"⟩
abbrev b_Course_leaveTo : ByteArray := prog_2_method_8_code
abbrev y_Course_leaveTo : MethodName := ⟨"PaperChancery$Course", "leaveTo", "(II)V"⟩
abbrev b_Course_changePlaces : ByteArray := prog_2_method_9_code
abbrev y_Course_changePlaces : MethodName := ⟨"PaperChancery$Course", "changePlaces", "(II)V"⟩
abbrev b_Chan_paperOf : ByteArray := prog_1_method_16_code
abbrev y_Chan_paperOf : MethodName := ⟨"PaperChancery", "paperOf", "(II)I"⟩
abbrev b_PaperBox_isKnown : ByteArray := prog_6_method_4_code
abbrev y_PaperBox_isKnown : MethodName := ⟨"PaperChancery$PaperBox", "isKnown", "(II)Z"⟩
abbrev b_Chan_posts : ByteArray := prog_1_method_17_code
abbrev y_Chan_posts : MethodName := ⟨"PaperChancery", "posts", "(II)I"⟩
abbrev b_Chan_due : ByteArray := prog_1_method_18_code
abbrev y_Chan_due : MethodName := ⟨"PaperChancery", "due", "(II)J"⟩
abbrev b_Course_earnedBy : ByteArray := prog_2_method_17_code
abbrev y_Course_earnedBy : MethodName := ⟨"PaperChancery$Course", "earnedBy", "(I)J"⟩
abbrev b_Chan_claims : ByteArray := prog_1_method_19_code
abbrev y_Chan_claims : MethodName := ⟨"PaperChancery", "claims", "(II)I"⟩
abbrev b_Course_gatherClaims : ByteArray := prog_2_method_19_code
abbrev y_Course_gatherClaims : MethodName := ⟨"PaperChancery$Course", "gatherClaims", "(I[I)I"⟩
abbrev b_Chan_claim : ByteArray := prog_1_method_20_code
abbrev y_Chan_claim : MethodName := ⟨"PaperChancery", "claim", "(I)I"⟩
abbrev b_Chan_by : ByteArray := prog_1_method_21_code
abbrev y_Chan_by : MethodName := ⟨"PaperChancery", "by", "(IIII)I"⟩
abbrev b_Course_duelWhenFree : ByteArray := prog_2_method_20_code
abbrev y_Course_duelWhenFree : MethodName := ⟨"PaperChancery$Course", "duelWhenFree", "(III)I"⟩
abbrev b_Chan_since : ByteArray := prog_1_method_22_code
abbrev y_Chan_since : MethodName := ⟨"PaperChancery", "since", "(I)I"⟩
abbrev b_Ends_knows : ByteArray := prog_3_method_2_code
abbrev y_Ends_knows : MethodName := ⟨"PaperChancery$Ends", "knows", "(I)Z"⟩
abbrev b_Ends_keep : ByteArray := prog_3_method_3_code
abbrev y_Ends_keep : MethodName := ⟨"PaperChancery$Ends", "keep", "(I[I)V"⟩
abbrev b_Ends_holderOf : ByteArray := prog_3_method_4_code
abbrev y_Ends_holderOf : MethodName := ⟨"PaperChancery$Ends", "holderOf", "(II)I"⟩
abbrev b_Chan_all : ByteArray := prog_1_method_23_code
abbrev y_Chan_all : MethodName := ⟨"PaperChancery", "all", "(I)I"⟩
abbrev b_Course_freePosts : ByteArray := prog_2_method_18_code
abbrev y_Course_freePosts : MethodName := ⟨"PaperChancery$Course", "freePosts", "()I"⟩
abbrev b_Chan_wish : ByteArray := prog_1_method_24_code
abbrev y_Chan_wish : MethodName := ⟨"PaperChancery", "wish", "(II)I"⟩
abbrev b_Exchange_addWish : ByteArray := prog_4_method_2_code
abbrev y_Exchange_addWish : MethodName := ⟨"PaperChancery$Exchange", "addWish", "(II)I"⟩
abbrev b_Chan_content : ByteArray := prog_1_method_25_code
abbrev y_Chan_content : MethodName := ⟨"PaperChancery", "content", "(I)I"⟩
abbrev b_Exchange_dropWishes : ByteArray := prog_4_method_3_code
abbrev y_Exchange_dropWishes : MethodName := ⟨"PaperChancery$Exchange", "dropWishes", "(I)I"⟩
abbrev b_Chan_rings : ByteArray := prog_1_method_26_code
abbrev y_Chan_rings : MethodName := ⟨"PaperChancery", "rings", "()I"⟩
abbrev b_Exchange_turn : ByteArray := prog_4_method_4_code
abbrev y_Exchange_turn : MethodName := ⟨"PaperChancery$Exchange", "turn", "([II)I"⟩
abbrev b_Exchange_offerSinglePosts : ByteArray := prog_4_method_5_code
abbrev y_Exchange_offerSinglePosts : MethodName := ⟨"PaperChancery$Exchange", "offerSinglePosts", "([II)V"⟩
abbrev b_Exchange_pointAll : ByteArray := prog_4_method_6_code
abbrev y_Exchange_pointAll : MethodName := ⟨"PaperChancery$Exchange", "pointAll", "([I)V"⟩
abbrev b_Exchange_pointFrom : ByteArray := prog_4_method_7_code
abbrev y_Exchange_pointFrom : MethodName := ⟨"PaperChancery$Exchange", "pointFrom", "(I[I)I"⟩
abbrev b_Exchange_leaveInRings : ByteArray := prog_4_method_8_code
abbrev y_Exchange_leaveInRings : MethodName := ⟨"PaperChancery$Exchange", "leaveInRings", "()I"⟩
abbrev b_Exchange_isInRing : ByteArray := prog_4_method_9_code
abbrev y_Exchange_isInRing : MethodName := ⟨"PaperChancery$Exchange", "isInRing", "(I)Z"⟩
abbrev b_Chan_got : ByteArray := prog_1_method_27_code
abbrev y_Chan_got : MethodName := ⟨"PaperChancery", "got", "(I)I"⟩
abbrev b_Md_init : ByteArray := prog_14_method_1_code
abbrev y_Md_init : MethodName := ⟨"PaperChanceryModel", "<init>", "()V"⟩
abbrev b_Md_feed : ByteArray := prog_14_method_4_code
abbrev y_Md_feed : MethodName := ⟨"PaperChanceryModel", "feed", "(IIIII)I"⟩
abbrev b_Md_put : ByteArray := prog_14_method_3_code
abbrev y_Md_put : MethodName := ⟨"PaperChanceryModel", "put", "(I)V"⟩
abbrev b_Md_end : ByteArray := prog_14_method_5_code
abbrev y_Md_end : MethodName := ⟨"PaperChanceryModel", "end", "(I)Z"⟩
abbrev b_Md_person : ByteArray := prog_14_method_6_code
abbrev y_Md_person : MethodName := ⟨"PaperChanceryModel", "person", "(III)I"⟩
abbrev b_Md_is : ByteArray := prog_14_method_2_code
abbrev y_Md_is : MethodName := ⟨"PaperChanceryModel", "is", "(III)Z"⟩
abbrev b_Md_post : ByteArray := prog_14_method_7_code
abbrev y_Md_post : MethodName := ⟨"PaperChanceryModel", "post", "(II)I"⟩
abbrev b_Md_seat : ByteArray := prog_14_method_10_code
abbrev y_Md_seat : MethodName := ⟨"PaperChanceryModel", "seat", "(II)Z"⟩
abbrev b_Md_isPost : ByteArray := prog_14_method_9_code
abbrev y_Md_isPost : MethodName := ⟨"PaperChanceryModel", "isPost", "(I)Z"⟩
abbrev b_Md_isPerson : ByteArray := prog_14_method_8_code
abbrev y_Md_isPerson : MethodName := ⟨"PaperChanceryModel", "isPerson", "(I)Z"⟩
abbrev b_Md_reign : ByteArray := prog_14_method_23_code
abbrev y_Md_reign : MethodName := ⟨"PaperChanceryModel", "reign", "(I)I"⟩
abbrev b_Md_here : ByteArray := prog_14_method_14_code
abbrev y_Md_here : MethodName := ⟨"PaperChanceryModel", "here", "()I"⟩
abbrev b_Md_blame : ByteArray := prog_14_method_11_code
abbrev y_Md_blame : MethodName := ⟨"PaperChanceryModel", "blame", "(II)V"⟩
abbrev b_Md_rule : ByteArray := prog_14_method_22_code
abbrev y_Md_rule : MethodName := ⟨"PaperChanceryModel", "rule", "()V"⟩
abbrev b_Md_passes : ByteArray := prog_14_method_17_code
abbrev y_Md_passes : MethodName := ⟨"PaperChanceryModel", "passes", "(JI)Z"⟩
abbrev b_Md_spells : ByteArray := prog_14_method_16_code
abbrev y_Md_spells : MethodName := ⟨"PaperChanceryModel", "spells", "(JI)Z"⟩
abbrev b_Md_wordSize : ByteArray := prog_14_method_15_code
abbrev y_Md_wordSize : MethodName := ⟨"PaperChanceryModel", "wordSize", "()I"⟩
abbrev b_Md_isLetter : ByteArray := prog_14_method_12_code
abbrev y_Md_isLetter : MethodName := ⟨"PaperChanceryModel", "isLetter", "(I)Z"⟩
abbrev b_Md_subject : ByteArray := prog_14_method_18_code
abbrev y_Md_subject : MethodName := ⟨"PaperChanceryModel", "subject", "()I"⟩
abbrev b_Md_add : ByteArray := prog_14_method_20_code
abbrev y_Md_add : MethodName := ⟨"PaperChanceryModel", "add", "(III)V"⟩
abbrev b_Md_tests : ByteArray := prog_14_method_21_code
abbrev y_Md_tests : MethodName := ⟨"PaperChanceryModel", "tests", "(Z)I"⟩
abbrev b_Md_digits : ByteArray := prog_14_method_19_code
abbrev y_Md_digits : MethodName := ⟨"PaperChanceryModel", "digits", "()I"⟩
abbrev b_Md_isDigit : ByteArray := prog_14_method_13_code
abbrev y_Md_isDigit : MethodName := ⟨"PaperChanceryModel", "isDigit", "(I)Z"⟩
abbrev b_Md_fault : ByteArray := prog_14_method_24_code
abbrev y_Md_fault : MethodName := ⟨"PaperChanceryModel", "fault", "(I)I"⟩
abbrev b_Md_paper : ByteArray := prog_14_method_28_code
abbrev y_Md_paper : MethodName := ⟨"PaperChanceryModel", "paper", "(IIIIII)I"⟩
abbrev b_Md_can : ByteArray := prog_14_method_26_code
abbrev y_Md_can : MethodName := ⟨"PaperChanceryModel", "can", "(I)Z"⟩
abbrev b_Md_tell : ByteArray := prog_14_method_27_code
abbrev y_Md_tell : MethodName := ⟨"PaperChanceryModel", "tell", "(IIII)I"⟩
abbrev b_Md_death : ByteArray := prog_14_method_29_code
abbrev y_Md_death : MethodName := ⟨"PaperChanceryModel", "death", "(II)I"⟩
abbrev b_Md_resign : ByteArray := prog_14_method_30_code
abbrev y_Md_resign : MethodName := ⟨"PaperChanceryModel", "resign", "(III)I"⟩
abbrev b_Md_swap : ByteArray := prog_14_method_31_code
abbrev y_Md_swap : MethodName := ⟨"PaperChanceryModel", "swap", "(III)I"⟩
abbrev b_Md_disprove : ByteArray := prog_14_method_32_code
abbrev y_Md_disprove : MethodName := ⟨"PaperChanceryModel", "disprove", "(I)I"⟩
abbrev b_Md_as : ByteArray := prog_14_method_33_code
abbrev y_Md_as : MethodName := ⟨"PaperChanceryModel", "as", "(I)Z"⟩
abbrev b_Md_holder : ByteArray := prog_14_method_53_code
abbrev y_Md_holder : MethodName := ⟨"PaperChanceryModel", "holder", "(II)I"⟩
abbrev b_Md_isTime : ByteArray := prog_14_method_52_code
abbrev y_Md_isTime : MethodName := ⟨"PaperChanceryModel", "isTime", "(I)Z"⟩
abbrev b_Md_known : ByteArray := prog_14_method_34_code
abbrev y_Md_known : MethodName := ⟨"PaperChanceryModel", "known", "()I"⟩
abbrev b_Md_goes : ByteArray := prog_14_method_51_code
abbrev y_Md_goes : MethodName := ⟨"PaperChanceryModel", "goes", "(II)V"⟩
abbrev b_Md_comes : ByteArray := prog_14_method_47_code
abbrev y_Md_comes : MethodName := ⟨"PaperChanceryModel", "comes", "(II)V"⟩
abbrev b_Md_mayHave : ByteArray := prog_14_method_42_code
abbrev y_Md_mayHave : MethodName := ⟨"PaperChanceryModel", "mayHave", "(III)Z"⟩
abbrev b_Md_reaches : ByteArray := prog_14_method_41_code
abbrev y_Md_reaches : MethodName := ⟨"PaperChanceryModel", "reaches", "(II)Z"⟩
abbrev b_Md_isBarred : ByteArray := prog_14_method_38_code
abbrev y_Md_isBarred : MethodName := ⟨"PaperChanceryModel", "isBarred", "(IIII)Z"⟩
abbrev b_Md_force : ByteArray := prog_14_method_25_code
abbrev y_Md_force : MethodName := ⟨"PaperChanceryModel", "force", "(I)I"⟩
abbrev b_Md_holds : ByteArray := prog_14_method_37_code
abbrev y_Md_holds : MethodName := ⟨"PaperChanceryModel", "holds", "(IIIII)Z"⟩
abbrev b_Md_subjectOf : ByteArray := prog_14_method_36_code
abbrev y_Md_subjectOf : MethodName := ⟨"PaperChanceryModel", "subjectOf", "(IIIII)I"⟩
abbrev b_Md_held : ByteArray := prog_14_method_35_code
abbrev y_Md_held : MethodName := ⟨"PaperChanceryModel", "held", "(I)I"⟩
abbrev b_Md_uses : ByteArray := prog_14_method_45_code
abbrev y_Md_uses : MethodName := ⟨"PaperChanceryModel", "uses", "(III)V"⟩
abbrev b_Md_takes : ByteArray := prog_14_method_43_code
abbrev y_Md_takes : MethodName := ⟨"PaperChanceryModel", "takes", "(III)V"⟩
abbrev b_Md_dies : ByteArray := prog_14_method_48_code
abbrev y_Md_dies : MethodName := ⟨"PaperChanceryModel", "dies", "(II)V"⟩
abbrev b_Md_leaves : ByteArray := prog_14_method_44_code
abbrev y_Md_leaves : MethodName := ⟨"PaperChanceryModel", "leaves", "(II)V"⟩
abbrev b_Md_gives : ByteArray := prog_14_method_46_code
abbrev y_Md_gives : MethodName := ⟨"PaperChanceryModel", "gives", "(II)V"⟩
abbrev b_Md_decides : ByteArray := prog_14_method_40_code
abbrev y_Md_decides : MethodName := ⟨"PaperChanceryModel", "decides", "(IIII)I"⟩
abbrev b_Md_differ : ByteArray := prog_14_method_39_code
abbrev y_Md_differ : MethodName := ⟨"PaperChanceryModel", "differ", "(IIIII)I"⟩
abbrev b_Md_resigns : ByteArray := prog_14_method_49_code
abbrev y_Md_resigns : MethodName := ⟨"PaperChanceryModel", "resigns", "(III)V"⟩
abbrev b_Md_swaps : ByteArray := prog_14_method_50_code
abbrev y_Md_swaps : MethodName := ⟨"PaperChanceryModel", "swaps", "(III)V"⟩
abbrev b_Md_paperOf : ByteArray := prog_14_method_55_code
abbrev y_Md_paperOf : MethodName := ⟨"PaperChanceryModel", "paperOf", "(II)I"⟩
abbrev b_Md_isPaper : ByteArray := prog_14_method_54_code
abbrev y_Md_isPaper : MethodName := ⟨"PaperChanceryModel", "isPaper", "(I)Z"⟩
abbrev b_Md_posts : ByteArray := prog_14_method_56_code
abbrev y_Md_posts : MethodName := ⟨"PaperChanceryModel", "posts", "(II)I"⟩
abbrev b_Md_due : ByteArray := prog_14_method_57_code
abbrev y_Md_due : MethodName := ⟨"PaperChanceryModel", "due", "(II)J"⟩
abbrev b_Md_claims : ByteArray := prog_14_method_58_code
abbrev y_Md_claims : MethodName := ⟨"PaperChanceryModel", "claims", "(II)I"⟩
abbrev b_Md_claim : ByteArray := prog_14_method_59_code
abbrev y_Md_claim : MethodName := ⟨"PaperChanceryModel", "claim", "(I)I"⟩
abbrev b_Md_by : ByteArray := prog_14_method_60_code
abbrev y_Md_by : MethodName := ⟨"PaperChanceryModel", "by", "(IIII)I"⟩
abbrev b_Md_since : ByteArray := prog_14_method_61_code
abbrev y_Md_since : MethodName := ⟨"PaperChanceryModel", "since", "(I)I"⟩
abbrev b_Md_all : ByteArray := prog_14_method_62_code
abbrev y_Md_all : MethodName := ⟨"PaperChanceryModel", "all", "(I)I"⟩
abbrev b_Md_wish : ByteArray := prog_14_method_63_code
abbrev y_Md_wish : MethodName := ⟨"PaperChanceryModel", "wish", "(II)I"⟩
abbrev b_Md_content : ByteArray := prog_14_method_64_code
abbrev y_Md_content : MethodName := ⟨"PaperChanceryModel", "content", "(I)I"⟩
abbrev b_Md_rings : ByteArray := prog_14_method_66_code
abbrev y_Md_rings : MethodName := ⟨"PaperChanceryModel", "rings", "()I"⟩
abbrev b_Md_points : ByteArray := prog_14_method_65_code
abbrev y_Md_points : MethodName := ⟨"PaperChanceryModel", "points", "(I)I"⟩
abbrev b_Md_got : ByteArray := prog_14_method_67_code
abbrev y_Md_got : MethodName := ⟨"PaperChanceryModel", "got", "(I)I"⟩
end
section
/-- the words that the rows use -/
def wok : Cond → Bool
  | .stringRef _ _ _ => false
  | .soleField _ _ => false
  | .privateMethod _ => false
  | .superclass _ _ => false
  | .laysStatic _ _ _ => false
  | _ => true
def wnest : Cond → Bool
  | .fieldLinkNest _ _ _ _ _ _ => true
  | .methodLinkNest _ _ _ _ => true
  | .arrayOver (.object _) => true
  | _ => false
set_option maxRecDepth 20000 in
theorem wtbl_ok : lw_tbl.all (fun w => !wok w || (goodWord w || wnest w)) = true := by decide +kernel
/-- every word holds at U -/
def CX (U : State) : Prop := ∀ w ∈ lw_tbl, wok w = true → va_Nw w U
theorem wtbl_cls {w : Cond} (hw : w ∈ lw_tbl) (hk : wok w = true) : goodWord w = true ∨ wnest w = true := by
  have h := List.all_eq_true.mp wtbl_ok w hw
  rw [hk] at h
  simpa using h
theorem wmove {w : Cond} (h2 : goodWord w = true ∨ wnest w = true) {s U : State} (hW : s.WarmedH U.vm) (h3 : va_Nw w s) {A : Array Value} : w.before A U = true := by
  rcases h2 with h2 | h2
  · exact word_at hW (good_of_word h2) h3
  · unfold wnest at h2
    split at h2
    · exact va_Nw.use rfl (va_Nw.warmF hW h3)
    · exact va_Nw.use rfl (va_Nw.warmM hW h3)
    · exact va_AO.use (va_AO.moved hW.alike h3)
    · cases h2
theorem CX.warm {s U : State} (hW : s.WarmedH U.vm) (hC : CX s) : CX U := fun w hw hk => wmove (wtbl_cls hw hk) hW (hC w hw hk)
theorem CX.same {u U : State} (h : u.vm = U.vm) (hC : CX u) : CX U := hC.warm (by rw [← h]; exact State.WarmedH.refl u)
theorem CX.use {U : State} (hC : CX U) {w : Cond} (hw : w ∈ lw_tbl) (hk : wok w = true) {A : Array Value} : w.before A U = true := wmove (wtbl_cls hw hk) (State.WarmedH.refl U) (hC w hw hk)
theorem CX.lays {U : State} (hC : CX U) {C : String} {T : u_T} {N : Nat} (hi : ∀ w ∈ u_ws C T N, w ∈ lw_tbl) {A : Array Value} : ∀ w ∈ u_ws C T N, w.before A U = true := fun w hw => hC.use (hi w hw) (by
  obtain ⟨k, -, rfl⟩ := List.mem_map.mp hw
  unfold u_lay
  split <;> rfl)
end
section
/-! the pure heap: how many cells; ints, longs and references by cell and place -/
abbrev AS : Type := Nat × (Nat → Nat → Int32) × (Nat → Nat → Int64) × (Nat → Nat → Option Nat)
def gi (S : AS) (c k : Nat) : Int32 := S.2.1 c k
def gl (S : AS) (c k : Nat) : Int64 := S.2.2.1 c k
def gr (S : AS) (c k : Nat) : Option Nat := S.2.2.2 c k
def si (S : AS) (c k : Nat) (v : Int32) : AS := (S.1, fun a j => if a = c ∧ j = k then v else S.2.1 a j, S.2.2.1, S.2.2.2)
def sl (S : AS) (c k : Nat) (v : Int64) : AS := (S.1, S.2.1, fun a j => if a = c ∧ j = k then v else S.2.2.1 a j, S.2.2.2)
def sr (S : AS) (c k : Nat) (v : Option Nat) : AS := (S.1, S.2.1, S.2.2.1, fun a j => if a = c ∧ j = k then v else S.2.2.2 a j)
def sa (S : AS) (c : Nat) (f : Nat → Int32) : AS := (S.1, fun a j => if a = c then f j else S.2.1 a j, S.2.2.1, S.2.2.2)
def nw (S : AS) : AS := (S.1 + 1, fun a j => if a = S.1 then 0 else S.2.1 a j, fun a j => if a = S.1 then 0 else S.2.2.1 a j, fun a j => if a = S.1 then none else S.2.2.2 a j)
/-- an index as a place -/
abbrev ix (i : Int32) : Nat := i.toNatClampNeg
/-- kinds of cells: an array (0 int, 1 long, 2 boolean, 3 RuleBook; its length), or an object of a class -/
def aKl : List ((Nat × Nat) ⊕ Nat) := [.inr 0, .inr 1, .inl (0, 400), .inr 2, .inr 3, .inl (0, 16), .inl (0, 16), .inl (0, 16), .inl (0, 16), .inl (0, 64), .inl (0, 64), .inl (0, 64), .inr 4, .inl (0, 401), .inl (0, 401), .inl (0, 401), .inr 5, .inl (0, 24), .inl (0, 24), .inl (0, 24), .inl (0, 16), .inl (0, 16), .inl (0, 16), .inr 6, .inl (0, 48), .inl (0, 48), .inl (0, 48), .inl (0, 48), .inl (0, 48), .inl (0, 48), .inl (0, 48), .inl (0, 48), .inr 7, .inl (0, 161), .inl (0, 161), .inl (0, 161), .inl (0, 161), .inl (0, 160), .inr 8, .inl (0, 6), .inl (3, 6), .inr 3, .inl (0, 16), .inl (0, 16), .inl (0, 16), .inl (0, 16), .inl (0, 64), .inl (0, 64), .inl (0, 64), .inr 9, .inl (0, 16), .inl (0, 16), .inl (0, 24), .inl (1, 24), .inl (2, 24), .inl (2, 48), .inl (0, 48), .inl (0, 48), .inl (0, 9), .inl (0, 9), .inr 10, .inl (0, 2576), .inl (0, 161), .inr 11, .inl (0, 72), .inl (0, 24), .inl (0, 24), .inl (0, 24), .inl (0, 24), .inl (0, 48), .inr 12, .inl (0, 400), .inl (0, 72), .inl (0, 48), .inl (0, 161), .inl (0, 161), .inl (0, 161), .inl (0, 161), .inl (0, 336), .inl (0, 48), .inl (0, 6), .inl (0, 6), .inl (0, 6), .inl (0, 3600), .inl (0, 600), .inl (0, 16), .inl (0, 16), .inl (2, 24), .inl (2, 48), .inl (0, 48), .inl (0, 48), .inl (1, 24), .inl (2, 161), .inl (0, 48), .inl (0, 72), .inl (0, 24), .inl (0, 24), .inl (2, 24), .inl (0, 24)]
def bkK : Nat → (Nat × Nat) ⊕ Nat
  | 0 => .inr 3
  | 1 => .inl (0, 16)
  | 2 => .inl (0, 16)
  | 3 => .inl (0, 16)
  | 4 => .inl (0, 16)
  | _ => .inl (0, 64)
def aK (i : Nat) : (Nat × Nat) ⊕ Nat := if i < 99 then aKl.getD i (.inr 0) else bkK ((i - 99) % 8)
/-- the fields' kinds of each class: 0 int or boolean, 2 a reference -/
def fts : List (List Nat) := [[2, 2, 2, 2, 2, 2, 2, 2, 2, 2, 0, 0], [2, 0], [2, 2, 0, 0, 0, 0], [2, 2, 2, 2, 0, 2, 2, 2, 0], [2, 2, 2, 2, 0], [2, 2, 2, 0, 2, 2, 2, 0, 0], [2, 2, 2, 2, 2, 2, 2, 2, 0], [2, 2, 2, 2, 0, 2, 0], [2, 2, 2, 0], [2, 2, 2, 2, 2, 2, 2, 2, 2, 2, 2, 2, 2, 2, 0, 2, 0, 0, 0], [2, 2, 2], [2, 2, 2, 2, 2], [2, 0, 0, 2, 0, 2, 0, 2, 2, 2, 2, 0, 2, 2, 0, 0, 2, 2, 2, 2, 2, 0, 0, 0, 0, 0, 2, 2, 2, 2, 2, 2, 2, 2, 2, 0, 2, 2, 2, 2, 2, 0, 0]]
def ft (ci : Nat) : List Nat := fts.getD ci []
/-- the launch, the first address of the pure heap, addresses beyond it, class numbers -/
abbrev GX : Type := Launch × Nat × (Nat → Nat) × va_G × ClassId × ClassId × ClassId × ClassId
abbrev gB (G : GX) : Nat := G.2.1
abbrev gx (G : GX) : Nat → Nat := G.2.2.1
abbrev gD (G : GX) : va_G := G.2.2.2.1
abbrev gI (G : GX) : ClassId := G.2.2.2.2.1
abbrev gJ (G : GX) : ClassId := G.2.2.2.2.2.1
abbrev gZ (G : GX) : ClassId := G.2.2.2.2.2.2.1
abbrev gO (G : GX) : ClassId := G.2.2.2.2.2.2.2
abbrev gA (G : GX) : Nat → Prop := fun q => gB G ≤ q
abbrev tys (G : GX) : List (ClassId × FieldType) := [(gI G, .int), (gJ G, .long), (gZ G, .boolean), (gO G, .object "PaperChancery$RuleBook")]
/-- a pure value as the machine's: references are cells' numbers, retAddr j is the address gx j -/
def cv (G : GX) : Value → Value
  | .ref q => .ref (gB G + q)
  | .retAddr j => .ref (gx G j)
  | v => v
def rfB (G : GX) (r : Option Nat) : Option Nat := r.map (fun q => gB G + q)
def fv (G : GX) (S : AS) (i t k : Nat) : Value := match t with
  | 0 => .int (gi S i k)
  | _ => va_rf (rfB G (gr S i k))
def fvs (G : GX) (S : AS) (i ci : Nat) : List Value := (List.range (ft ci).length).map (fun k => fv G S i ((ft ci).getD k 0) k)
def fcK (G : GX) (S : AS) (i : Nat) : (Nat × Nat) ⊕ Nat → va_E
  | .inl (0, n) => .inl (gI G, n, .inl (gi S i))
  | .inl (1, n) => .inl (gJ G, n, .inr (.inl (gl S i)))
  | .inl (2, n) => .inl (gZ G, n, .inl (gi S i))
  | .inl (_, n) => .inl (gO G, n, .inr (.inr (.inr (.inr (fun k => rfB G (gr S i k))))))
  | .inr ci => .inr (ci, fvs G S i ci)
def fcell (G : GX) (S : AS) (i : Nat) : va_E := fcK G S i (aK i)
theorem fcell_congr {G : GX} {S S' : AS} {j : Nat} (h1 : ∀ k, gi S' j k = gi S j k) (h2 : ∀ k, gl S' j k = gl S j k) (h3 : ∀ k, gr S' j k = gr S j k) : fcell G S' j = fcell G S j := by
  have e1 : gi S' j = gi S j := funext h1
  have e2 : gl S' j = gl S j := funext h2
  unfold fcell fcK fvs fv
  simp only [e1, e2, h3]
def RelH (G : GX) (S : AS) (H : Heap) : Prop := H.size = gB G + S.1 ∧ ∀ i, i < S.1 → va_at (gD G) classes (gB G + i, fcell G S i) H
theorem RelH.put {G : GX} {S S' : AS} {H H1 : Heap} {i : Nat} (h : RelH G S H) (hn : S'.1 = S.1) (hz : H1.size = H.size) (ho : ∀ q, q ≠ gB G + i → H1[q]? = H[q]?) (hc : va_at (gD G) classes (gB G + i, fcell G S' i) H1) (hf : ∀ j, j ≠ i → fcell G S' j = fcell G S j) : RelH G S' H1 := by
  refine ⟨by rw [hz, hn]; exact h.1, fun j hj => ?_⟩
  by_cases e : j = i
  · rw [e]; exact hc
  · rw [hf j e]
    exact (h.2 j (by rw [← hn]; exact hj)).kept (ho _ (by show gB G + j ≠ gB G + i; omega))
theorem RelH.lt {G : GX} {S : AS} {H : Heap} (h : RelH G S H) {i : Nat} (hi : i < S.1) : gB G + i < H.size := by rw [h.1]; omega
theorem RelH.arr {G : GX} {S : AS} {H : Heap} (h : RelH G S H) {i : Nat} (hi : i < S.1) {x : va_E} (hx : fcell G S i = x) : va_at (gD G) classes (gB G + i, x) H := hx ▸ h.2 i hi
def sW : String := "worth   diocese degree  rank    posts   date    days    with    home    high    low     bar     if      and     "
def bW : List Int32 := [119, 111, 114, 116, 104, 32, 32, 32, 100, 105, 111, 99, 101, 115, 101, 32, 100, 101, 103, 114, 101, 101, 32, 32, 114, 97, 110, 107, 32, 32, 32, 32, 112, 111, 115, 116, 115, 32, 32, 32, 100, 97, 116, 101, 32, 32, 32, 32, 100, 97, 121, 115, 32, 32, 32, 32, 119, 105, 116, 104, 32, 32, 32, 32, 104, 111, 109, 101, 32, 32, 32, 32, 104, 105, 103, 104, 32, 32, 32, 32, 108, 111, 119, 32, 32, 32, 32, 32, 98, 97, 114, 32, 32, 32, 32, 32, 105, 102, 32, 32, 32, 32, 32, 32, 97, 110, 100, 32, 32, 32, 32, 32]
/-- the String constant, and the JDK's static -/
def SX (G : GX) (s : State) (H : Heap) : Prop := vk_R "PaperChancery$TokenRow" 71 sW (gx G 1) s ∧ vk_S 1 [112] [bW] (fun _ => gx G 1) (fun _ => gx G 2) (gA G) s H ∧ va_Z "java/lang/String" "COMPACT_STRINGS" "Z" (.int 1) (gA G) s H
theorem SX.warm {G : GX} {s U : State} {H : Heap} (hW : s.WarmedH U.vm) (h : SX G s H) : SX G U H := ⟨h.1.warm hW, h.2.1.moved hW.alike, h.2.2.moved hW.alike⟩
theorem SX.kept {G : GX} {s : State} {H H1 : Heap} (h : SX G s H) (hq : ∀ a : Nat, a < H.size → ¬ gA G a → H1[a]? = H[a]?) : SX G s H1 := ⟨h.1, h.2.1.kept hq, h.2.2.kept hq⟩
theorem SX.same {G : GX} {u U : State} {H : Heap} (hv : u.vm = U.vm) (h : SX G u H) : SX G U H := ⟨h.1.same hv.symm, h.2.1.moved (by rw [hv]; exact Vm.Alike.refl _), h.2.2.moved (by rw [hv]; exact Vm.Alike.refl _)⟩
def EC (G : GX) (s : State) (H : Heap) : Prop := CX s ∧ va_K (gD G) classes (tys G) s ∧ SX G s H
theorem EC.warm {G : GX} {s U : State} {H : Heap} (hW : s.WarmedH U.vm) (h : EC G s H) : EC G U H := ⟨h.1.warm hW, h.2.1.moved hW.alike, h.2.2.warm hW⟩
theorem EC.same {G : GX} {u U : State} {H : Heap} (hv : u.vm = U.vm) (h : EC G u H) : EC G U H := ⟨h.1.same hv, h.2.1.moved (by rw [hv]; exact Vm.Alike.refl _), h.2.2.same hv⟩
theorem EC.kept {G : GX} {s : State} {H H1 : Heap} (h : EC G s H) (hq : ∀ a : Nat, a < H.size → ¬ gA G a → H1[a]? = H[a]?) : EC G s H1 := ⟨h.1, h.2.1, h.2.2.kept hq⟩
/-! the shape: which cells the fields of the two systems hold, from their making on -/
def shl : List (Nat × Nat × Nat) := [(0, 0, 1), (0, 1, 3), (0, 2, 16), (0, 3, 23), (0, 4, 32), (0, 5, 38), (0, 6, 49), (0, 7, 60), (0, 8, 63), (0, 9, 69), (1, 0, 2), (3, 0, 12), (3, 1, 4), (12, 0, 1), (12, 1, 13), (12, 2, 14), (12, 3, 15), (16, 0, 17), (16, 1, 18), (16, 2, 19), (16, 4, 20), (16, 5, 21), (16, 6, 22), (23, 0, 24), (23, 1, 25), (23, 2, 26), (23, 3, 27), (23, 4, 28), (23, 5, 29), (23, 6, 30), (23, 7, 31), (32, 0, 33), (32, 1, 34), (32, 2, 35), (32, 3, 36), (32, 5, 37), (38, 0, 39), (38, 1, 40), (38, 2, 41), (49, 0, 16), (49, 1, 23), (49, 2, 32), (49, 3, 38), (49, 4, 50), (49, 5, 51), (49, 6, 52), (49, 7, 53), (49, 8, 54), (49, 9, 55), (49, 10, 56), (49, 11, 57), (49, 12, 58), (49, 13, 59), (60, 0, 16), (60, 1, 61), (60, 2, 62), (63, 0, 64), (63, 1, 65), (63, 2, 66), (63, 3, 67), (63, 4, 68), (70, 0, 71), (70, 3, 72), (70, 5, 73), (70, 7, 74), (70, 8, 75), (70, 9, 76), (70, 10, 77), (70, 12, 78), (70, 13, 79), (70, 16, 80), (70, 17, 81), (70, 18, 82), (70, 19, 83), (70, 20, 84), (70, 26, 85), (70, 27, 86), (70, 28, 87), (70, 29, 88), (70, 30, 89), (70, 31, 90), (70, 32, 91), (70, 33, 92), (70, 34, 93), (70, 36, 94), (70, 37, 95), (70, 38, 96), (70, 39, 97), (70, 40, 98)]
/-- the RuleBook q is whole -/
def bkw (S : AS) (q : Nat) : Prop := (q = 4 ∨ q = 41 ∨ ∃ j, q = 99 + 8 * j) ∧ q + 8 ≤ S.1 ∧ gr S q 0 = some (q + 1) ∧ gr S q 1 = some (q + 2) ∧ gr S q 2 = some (q + 3) ∧ gr S q 3 = some (q + 4) ∧ gr S q 5 = some (q + 5) ∧ gr S q 6 = some (q + 6) ∧ gr S q 7 = some (q + 7)
def Sh (S : AS) : Prop := (∃ j, S.1 = 99 + 8 * j) ∧ (∀ t ∈ shl, gr S t.1 t.2.1 = some t.2.2) ∧ (∀ q, (q = 4 ∨ q = 41 ∨ (∃ j, q = 99 + 8 * j ∧ q < S.1)) → bkw S q) ∧ (∀ q, gr S 49 15 = some q → q = 4 ∨ q = 41 ∨ (∃ j, q = 99 + 8 * j ∧ q < S.1)) ∧ (∀ i q, gr S 40 i = some q → q = 4 ∨ q = 41 ∨ (∃ j, q = 99 + 8 * j ∧ q < S.1))
/-- what is kept on the way: nothing (constructors), the shape, the shape and one RuleBook -/
def Sp : Option (Option Nat) → AS → Prop
  | none, _ => True
  | some none, S => Sh S
  | some (some q), S => Sh S ∧ bkw S q
theorem bkw.congr {S S' : AS} {q : Nat} (hn : S'.1 = S.1) (hr : S'.2.2.2 = S.2.2.2) (h : bkw S q) : bkw S' q := by
  unfold bkw gr at h ⊢
  rw [hr, hn]; exact h
theorem Sh.congr {S S' : AS} (hn : S'.1 = S.1) (hr : S'.2.2.2 = S.2.2.2) (h : Sh S) : Sh S' := by
  unfold Sh bkw gr at h ⊢
  rw [hr, hn]; exact h
theorem Sp.congr {b : Option (Option Nat)} {S S' : AS} (hn : S'.1 = S.1) (hr : S'.2.2.2 = S.2.2.2) (h : Sp b S) : Sp b S' := by
  match b, h with
  | none, _ => trivial
  | some none, h => exact Sh.congr hn hr h
  | some (some q), h => exact ⟨Sh.congr hn hr h.1, h.2.congr hn hr⟩
theorem Sp.si {b : Option (Option Nat)} {S : AS} (h : Sp b S) (c k : Nat) (v : Int32) : Sp b (si S c k v) := Sp.congr (S := S) rfl rfl h
theorem Sp.sl {b : Option (Option Nat)} {S : AS} (h : Sp b S) (c k : Nat) (v : Int64) : Sp b (sl S c k v) := Sp.congr (S := S) rfl rfl h
theorem Sp.sa {b : Option (Option Nat)} {S : AS} (h : Sp b S) (c : Nat) (f : Nat → Int32) : Sp b (sa S c f) := Sp.congr (S := S) rfl rfl h
theorem Sp.sh {o : Option Nat} {S : AS} (h : Sp (some o) S) : Sh S := by
  match o, h with
  | none, h => exact h
  | some q, h => exact h.1
/-! reading behind writing -/
theorem gi_si (S : AS) (c k : Nat) (v : Int32) (a j : Nat) : gi (si S c k v) a j = if a = c ∧ j = k then v else gi S a j := rfl
theorem gi_sl (S : AS) (c k : Nat) (v : Int64) (a j : Nat) : gi (sl S c k v) a j = gi S a j := rfl
theorem gi_sr (S : AS) (c k : Nat) (v : Option Nat) (a j : Nat) : gi (sr S c k v) a j = gi S a j := rfl
theorem gi_sa (S : AS) (c : Nat) (f : Nat → Int32) (a j : Nat) : gi (sa S c f) a j = if a = c then f j else gi S a j := rfl
theorem gi_nw (S : AS) (a j : Nat) : gi (nw S) a j = if a = S.1 then 0 else gi S a j := rfl
theorem gl_si (S : AS) (c k : Nat) (v : Int32) (a j : Nat) : gl (si S c k v) a j = gl S a j := rfl
theorem gl_sl (S : AS) (c k : Nat) (v : Int64) (a j : Nat) : gl (sl S c k v) a j = if a = c ∧ j = k then v else gl S a j := rfl
theorem gl_sr (S : AS) (c k : Nat) (v : Option Nat) (a j : Nat) : gl (sr S c k v) a j = gl S a j := rfl
theorem gl_sa (S : AS) (c : Nat) (f : Nat → Int32) (a j : Nat) : gl (sa S c f) a j = gl S a j := rfl
theorem gl_nw (S : AS) (a j : Nat) : gl (nw S) a j = if a = S.1 then 0 else gl S a j := rfl
theorem gr_si (S : AS) (c k : Nat) (v : Int32) (a j : Nat) : gr (si S c k v) a j = gr S a j := rfl
theorem gr_sl (S : AS) (c k : Nat) (v : Int64) (a j : Nat) : gr (sl S c k v) a j = gr S a j := rfl
theorem gr_sr (S : AS) (c k : Nat) (v : Option Nat) (a j : Nat) : gr (sr S c k v) a j = if a = c ∧ j = k then v else gr S a j := rfl
theorem gr_sa (S : AS) (c : Nat) (f : Nat → Int32) (a j : Nat) : gr (sa S c f) a j = gr S a j := rfl
theorem gr_nw (S : AS) (a j : Nat) : gr (nw S) a j = if a = S.1 then none else gr S a j := rfl
end
section
/-! locals by place -/
theorem cv_cat (G : GX) (v : Value) : (cv G v).category = v.category := by cases v <;> rfl
def LR (G : GX) (ls : Array Slot) (nL : Nat) (lc : List (Option Value)) : Prop := ls.size = nL ∧ lc.length = nL ∧ lv_wf ls ∧ ∀ (i : Nat) (v : Value), lc[i]? = some (some v) → ls[i]? = some (Slot.val (cv G v))
def lrl (G : GX) (lc : List (Option Value)) : List (Nat × Value) := (List.range lc.length).filterMap (fun j => (lc[j]?.join).map (fun v => (j, cv G v)))
theorem lrl_mem {G : GX} {lc : List (Option Value)} {q : Nat × Value} : q ∈ lrl G lc ↔ ∃ v, lc[q.1]? = some (some v) ∧ q.2 = cv G v := by
  unfold lrl
  rw [List.mem_filterMap]
  constructor
  · rintro ⟨j, -, h⟩
    cases hj : lc[j]? with
    | none => rw [hj] at h; simp at h
    | some o =>
      cases o with
      | none => rw [hj] at h; simp at h
      | some v =>
        rw [hj] at h
        simp at h
        subst h
        exact ⟨v, hj, rfl⟩
  · rintro ⟨v, h1, h2⟩
    refine ⟨q.1, List.mem_range.mpr (List.getElem?_eq_some_iff.mp h1).1, ?_⟩
    rw [h1]
    simp [← h2]
theorem LR.has {G : GX} {ls : Array Slot} {nL : Nat} {lc : List (Option Value)} (h : LR G ls nL lc) : lv_has ls nL (lrl G lc) := by
  refine ⟨h.1, h.2.2.1, fun q hq => ?_⟩
  obtain ⟨v, h1, h2⟩ := lrl_mem.mp hq
  rw [h2]
  exact h.2.2.2 _ _ h1
def isLg : Option (Option Value) → Bool
  | some (some v) => v.category == 2
  | _ => false
def drp (lc : List (Option Value)) : Nat → List (Option Value)
  | 0 => lc
  | j + 1 => if isLg lc[j]? = true then lc.set j none else lc
def st1 (lc : List (Option Value)) (i : Nat) (v : Value) : List (Option Value) := (drp lc i).set i (some v)
def st2 (lc : List (Option Value)) (i : Nat) (v : Value) : List (Option Value) := ((drp lc i).set i (some v)).set (i + 1) none
theorem drp_succ (lc : List (Option Value)) (j : Nat) : drp lc (j + 1) = if isLg lc[j]? = true then lc.set j none else lc := rfl
theorem drp_len (lc : List (Option Value)) (i : Nat) : (drp lc i).length = lc.length := by
  cases i with
  | zero => rfl
  | succ j => rw [drp_succ]; split <;> simp
theorem drp_get {lc : List (Option Value)} {i j : Nat} {v : Value} (h : (drp lc i)[j]? = some (some v)) : lc[j]? = some (some v) ∧ ¬ (j + 1 = i ∧ v.category = 2) := by
  cases i with
  | zero => exact ⟨h, by omega⟩
  | succ k =>
    rw [drp_succ] at h
    split at h
    · rename_i hl
      by_cases e : j = k
      · subst e
        rw [List.getElem?_set] at h
        simp at h
      · rw [List.getElem?_set_ne (Ne.symm e)] at h
        exact ⟨h, by omega⟩
    · rename_i hl
      refine ⟨h, ?_⟩
      rintro ⟨e, hc⟩
      have e : j = k := by omega
      subst e
      rw [h] at hl
      simp [isLg, hc] at hl
theorem LR.of1 {G : GX} {ls ls' : Array Slot} {nL i : Nat} {lc : List (Option Value)} {v : Value} (h : LR G ls nL lc) (h' : lv_has ls' nL ((i, cv G v) :: (lrl G lc).filter (fun q => !(q.1 == i) && !(q.1 + 1 == i && q.2.category == 2)))) : LR G ls' nL (st1 lc i v) := by
  refine ⟨h'.1, by simp [st1, drp_len]; exact h.2.1, h'.2.1, fun j w hj => ?_⟩
  unfold st1 at hj
  by_cases e : j = i
  · subst e
    rw [List.getElem?_set] at hj
    simp at hj
    have := hj.2
    subst this
    exact h'.2.2 (j, cv G v) List.mem_cons_self
  · rw [List.getElem?_set_ne (Ne.symm e)] at hj
    obtain ⟨h1, h2⟩ := drp_get hj
    refine h'.2.2 (j, cv G w) (List.mem_cons_of_mem _ (List.mem_filter.mpr ⟨lrl_mem.mpr ⟨w, h1, rfl⟩, ?_⟩))
    simp only [cv_cat]
    simp [e]
    exact Decidable.not_and_iff_not_or_not.mp h2
theorem LR.of2 {G : GX} {ls ls' : Array Slot} {nL i : Nat} {lc : List (Option Value)} {v : Value} (h : LR G ls nL lc) (h' : lv_has ls' nL ((i, cv G v) :: (lrl G lc).filter (fun q => !(q.1 == i) && (!(q.1 == i + 1) && !(q.1 + 1 == i && q.2.category == 2))))) : LR G ls' nL (st2 lc i v) := by
  refine ⟨h'.1, by simp [st2, drp_len]; exact h.2.1, h'.2.1, fun j w hj => ?_⟩
  unfold st2 at hj
  by_cases e2 : j = i + 1
  · subst e2
    rw [List.getElem?_set] at hj
    simp at hj
  · rw [List.getElem?_set_ne (Ne.symm e2)] at hj
    by_cases e : j = i
    · subst e
      rw [List.getElem?_set] at hj
      simp at hj
      have := hj.2
      subst this
      exact h'.2.2 (j, cv G v) List.mem_cons_self
    · rw [List.getElem?_set_ne (Ne.symm e)] at hj
      obtain ⟨h1, h2⟩ := drp_get hj
      refine h'.2.2 (j, cv G w) (List.mem_cons_of_mem _ (List.mem_filter.mpr ⟨lrl_mem.mpr ⟨w, h1, rfl⟩, ?_⟩))
      simp only [cv_cat]
      simp [e, e2]
      exact Decidable.not_and_iff_not_or_not.mp h2
theorem LR.weak {G : GX} {ls : Array Slot} {nL : Nat} {lc lc' : List (Option Value)} (h : LR G ls nL lc) (hl : lc'.length = lc.length) (hw : ∀ (i : Nat) (v : Value), lc'[i]? = some (some v) → lc[i]? = some (some v)) : LR G ls nL lc' := ⟨h.1, by rw [hl]; exact h.2.1, h.2.2.1, fun i v hv => h.2.2.2 i v (hw i v hv)⟩
/-! the judgement: from pc, with locals lc, stack st, heap S, the machine comes to the end r -/
/-- a method: its class, code, locals, answer's type, whether it is a constructor, its room -/
abbrev MD : Type := String × ByteArray × Nat × Option FieldType × Bool × Room
abbrev RS : Type := Option Value × AS
/-- an end: what the last state is like, and its heap -/
abbrev QT (α : Type) : Type := (α → List Frame → Array Value → State → State → Prop) × (α → AS)
def CT (G : GX) (M : MD) (E : State → Prop) (p : Program) (s : State) (m : MethodId) (meth : Method) (c : Code) : Prop :=
  p.tables.exec = Jvm.exec ∧ c.code = M.2.1 ∧ c.maxLocals = M.2.2.1 ∧ meth.sig.returnType = M.2.2.2.1 ∧ meth.locks = false ∧ (M.2.2.2.2.1 = true → meth.name = "<init>") ∧ s.vm.findClass M.1 = some m.cls ∧ EC G s s.heap ∧ E s ∧ gB G ≤ s.heap.size
def VW {α : Type} (G : GX) (M : MD) (QQ : QT α) (E : State → Prop) (pc : Nat) (lc : List (Option Value)) (st : List Value) (k z : Nat) (S : AS) (r : α) : Prop :=
  ∀ (p : Program) (e : Env) (s : State) (m : MethodId) (args : Array Value) (below : List Frame) (meth : Method) (c : Code) (H : Heap) (locs : List Loc) (ls : Array Slot), CT G M E p s m meth c → RelH G S H → va_S (gA G) s.heap H locs → LR G ls M.2.2.1 lc →
    W p G.1 e M.2.2.2.2.2 s m args below meth c H locs k z (QQ.1 r below args s) (F0 m pc ls (st.map (cv G)))
def V {α : Type} (G : GX) (M : MD) (QQ : QT α) (E : State → Prop) (b : Option (Option Nat)) (pc : Nat) (lc : List (Option Value)) (st : List Value) (k z : Nat) (S : AS) (X : Option α) : Prop :=
  Sp b S → ∀ r, X = some r → Sp b (QQ.2 r) ∧ VW G M QQ E pc lc st k z S r
theorem V.lift {G : GX} {M : MD} {α : Type} {QQ : QT α} {E : State → Prop} {b : Option (Option Nat)} {pc pc' : Nat} {lc lc' : List (Option Value)} {st st' : List Value} {k z k' z' : Nat} {S S' : AS} {X : Option α} (hS : Sp b S → Sp b S') (f : ∀ r, VW G M QQ E pc' lc' st' k' z' S' r → VW G M QQ E pc lc st k z S r) (h : V G M QQ E b pc' lc' st' k' z' S' X) : V G M QQ E b pc lc st k z S X := fun h0 r hr => ⟨(h (hS h0) r hr).1, f r (h (hS h0) r hr).2⟩
theorem V.none {G : GX} {M : MD} {α : Type} {QQ : QT α} {E : State → Prop} {b : Option (Option Nat)} {pc : Nat} {lc : List (Option Value)} {st : List Value} {k z : Nat} {S : AS} : V G M QQ E b pc lc st k z S none := fun _ _ h => by cases h
theorem V.weak {G : GX} {M : MD} {α : Type} {QQ : QT α} {E : State → Prop} {b : Option (Option Nat)} {pc : Nat} {lc lc' : List (Option Value)} {st : List Value} {k z : Nat} {S : AS} {X : Option α} (h : V G M QQ E b pc lc' st k z S X) (hl : lc'.length = lc.length) (hw : ∀ (i : Nat) (v : Value), lc'[i]? = some (some v) → lc[i]? = some (some v)) : V G M QQ E b pc lc st k z S X :=
  h.lift id fun r hV p e s m args below meth c H locs ls C hR hS hL => hV p e s m args below meth c H locs ls C hR hS (hL.weak hl hw)
/-! words of the pure programs -/
noncomputable def chk {α : Type} (c : Prop) (k : Option α) : Option α := @ite _ c (Classical.propDecidable c) k none
def nm {α β : Type} (a : α) (f : α → β) : β := f a
def bI {β : Type} (x : Option (Int32 × AS)) (k : Int32 → AS → Option β) : Option β := match x with
  | none => none
  | some r => k r.1 r.2
def bL {β : Type} (x : Option (Int64 × AS)) (k : Int64 → AS → Option β) : Option β := match x with
  | none => none
  | some r => k r.1 r.2
def bR {β : Type} (x : Option (Nat × AS)) (k : Nat → AS → Option β) : Option β := match x with
  | none => none
  | some r => k r.1 r.2
def bV {β : Type} (x : Option AS) (k : AS → Option β) : Option β := match x with
  | none => none
  | some r => k r
theorem chk_pos {α : Type} {c : Prop} {k : Option α} (h : c) : chk c k = k := by unfold chk; rw [if_pos h]
theorem chk_some {α : Type} {c : Prop} {k : Option α} {r : α} (h : chk c k = some r) : c ∧ k = some r := by
  unfold chk at h
  by_cases hc : c
  · rw [if_pos hc] at h; exact ⟨hc, h⟩
  · rw [if_neg hc] at h; cases h
end
section
section ROWS
variable {G : GX} {M : MD} {α : Type} {QQ : QT α} {E : State → Prop} {b : Option (Option Nat)} {pc : Nat} {lc : List (Option Value)} {st : List Value} {k z : Nat} {S : AS} {X : Option α}
theorem x_iconst {n : Int} {v : Int32} (hd : decode M.2.1 pc = .ok (.iconst n, 1)) (hv : Int32.ofInt n = v) (h : V G M QQ E b (pc + 1) lc (.int v :: st) k z S X) : V G M QQ E b pc lc st k z S X :=
  h.lift id fun r hV p e s m args below meth c H locs ls C hR hS hL => lv_iconst C.1 C.2.1 hd hv (hV p e s m args below meth c H locs ls C hR hS hL)
theorem x_bipush {n : Int} {v : Int32} (hd : decode M.2.1 pc = .ok (.bipush n, 2)) (hv : (Int8.ofInt n).toInt32 = v) (h : V G M QQ E b (pc + 2) lc (.int v :: st) k z S X) : V G M QQ E b pc lc st k z S X :=
  h.lift id fun r hV p e s m args below meth c H locs ls C hR hS hL => lv_bipush C.1 C.2.1 hd hv (hV p e s m args below meth c H locs ls C hR hS hL)
theorem x_sipush {n : Int} {v : Int32} (hd : decode M.2.1 pc = .ok (.sipush n, 3)) (hv : (Int16.ofInt n).toInt32 = v) (h : V G M QQ E b (pc + 3) lc (.int v :: st) k z S X) : V G M QQ E b pc lc st k z S X :=
  h.lift id fun r hV p e s m args below meth c H locs ls C hR hS hL => lv_sipush C.1 C.2.1 hd hv (hV p e s m args below meth c H locs ls C hR hS hL)
theorem x_lconst0 (hd : decode M.2.1 pc = .ok (.lconst 0, 1)) (h : V G M QQ E b (pc + 1) lc (.long 0 :: st) k z S X) : V G M QQ E b pc lc st k z S X :=
  h.lift id fun r hV p e s m args below meth c H locs ls C hR hS hL => lv_lconst C.1 C.2.1 hd rfl (hV p e s m args below meth c H locs ls C hR hS hL)
theorem x_ldc {i : Nat} {v : Int32} (hw : Cond.constant M.1 i v ∈ lw_tbl) (hd : decode M.2.1 pc = .ok (.ldc i, 2)) (h : V G M QQ E b (pc + 2) lc (.int v :: st) k z S X) : V G M QQ E b pc lc st k z S X :=
  h.lift id fun r hV p e s m args below meth c H locs ls C hR hS hL => lv_ldc C.1 C.2.1 C.2.2.2.2.2.2.1 (C.2.2.2.2.2.2.2.1.1.use hw rfl) hd (hV p e s m args below meth c H locs ls C hR hS hL)
theorem x_ldc2 {i : Nat} {v : Int64} (hw : Cond.constantLong M.1 i v ∈ lw_tbl) (hd : decode M.2.1 pc = .ok (.ldc2_w i, 3)) (h : V G M QQ E b (pc + 3) lc (.long v :: st) k z S X) : V G M QQ E b pc lc st k z S X :=
  h.lift id fun r hV p e s m args below meth c H locs ls C hR hS hL => lv_ldc2 C.1 C.2.1 C.2.2.2.2.2.2.1 (C.2.2.2.2.2.2.2.1.1.use hw rfl) hd (hV p e s m args below meth c H locs ls C hR hS hL)
theorem x_iload {i : Nat} {v : Int32} (hd : decode M.2.1 pc = .ok (.iload i, 2)) (hl : lc[i]? = some (some (.int v))) (h : V G M QQ E b (pc + 2) lc (.int v :: st) k z S X) : V G M QQ E b pc lc st k z S X :=
  h.lift id fun r hV p e s m args below meth c H locs ls C hR hS hL => lv_iload C.1 C.2.1 hd (hL.2.2.2 _ _ hl) (hV p e s m args below meth c H locs ls C hR hS hL)
theorem x_iload_n {n : Fin 4} {v : Int32} (hd : decode M.2.1 pc = .ok (.iload_n n, 1)) (hl : lc[n.val]? = some (some (.int v))) (h : V G M QQ E b (pc + 1) lc (.int v :: st) k z S X) : V G M QQ E b pc lc st k z S X :=
  h.lift id fun r hV p e s m args below meth c H locs ls C hR hS hL => lv_iload_n C.1 C.2.1 hd rfl (hL.2.2.2 _ _ hl) (hV p e s m args below meth c H locs ls C hR hS hL)
theorem x_lload {i : Nat} {v : Int64} (hd : decode M.2.1 pc = .ok (.lload i, 2)) (hl : lc[i]? = some (some (.long v))) (h : V G M QQ E b (pc + 2) lc (.long v :: st) k z S X) : V G M QQ E b pc lc st k z S X :=
  h.lift id fun r hV p e s m args below meth c H locs ls C hR hS hL => lv_lload C.1 C.2.1 hd (hL.2.2.2 _ _ hl) (hV p e s m args below meth c H locs ls C hR hS hL)
theorem x_lload_n {n : Fin 4} {v : Int64} (hd : decode M.2.1 pc = .ok (.lload_n n, 1)) (hl : lc[n.val]? = some (some (.long v))) (h : V G M QQ E b (pc + 1) lc (.long v :: st) k z S X) : V G M QQ E b pc lc st k z S X :=
  h.lift id fun r hV p e s m args below meth c H locs ls C hR hS hL => lv_lload_n C.1 C.2.1 hd rfl (hL.2.2.2 _ _ hl) (hV p e s m args below meth c H locs ls C hR hS hL)
theorem x_aload_ref {i q : Nat} (hd : decode M.2.1 pc = .ok (.aload i, 2)) (hl : lc[i]? = some (some (.ref q))) (h : V G M QQ E b (pc + 2) lc ((.ref q) :: st) k z S X) : V G M QQ E b pc lc st k z S X :=
  h.lift id fun r hV p e s m args below meth c H locs ls C hR hS hL => lv_aload C.1 C.2.1 hd (hL.2.2.2 _ _ hl) (hV p e s m args below meth c H locs ls C hR hS hL)
theorem x_aload_n_ref {n : Fin 4} {q : Nat} (hd : decode M.2.1 pc = .ok (.aload_n n, 1)) (hl : lc[n.val]? = some (some (.ref q))) (h : V G M QQ E b (pc + 1) lc ((.ref q) :: st) k z S X) : V G M QQ E b pc lc st k z S X :=
  h.lift id fun r hV p e s m args below meth c H locs ls C hR hS hL => lv_aload_n C.1 C.2.1 hd rfl (hL.2.2.2 _ _ hl) (hV p e s m args below meth c H locs ls C hR hS hL)
theorem x_aload_ext {i q : Nat} (hd : decode M.2.1 pc = .ok (.aload i, 2)) (hl : lc[i]? = some (some (.retAddr q))) (h : V G M QQ E b (pc + 2) lc ((.retAddr q) :: st) k z S X) : V G M QQ E b pc lc st k z S X :=
  h.lift id fun r hV p e s m args below meth c H locs ls C hR hS hL => lv_aload C.1 C.2.1 hd (hL.2.2.2 _ _ hl) (hV p e s m args below meth c H locs ls C hR hS hL)
theorem x_aload_n_ext {n : Fin 4} {q : Nat} (hd : decode M.2.1 pc = .ok (.aload_n n, 1)) (hl : lc[n.val]? = some (some (.retAddr q))) (h : V G M QQ E b (pc + 1) lc ((.retAddr q) :: st) k z S X) : V G M QQ E b pc lc st k z S X :=
  h.lift id fun r hV p e s m args below meth c H locs ls C hR hS hL => lv_aload_n C.1 C.2.1 hd rfl (hL.2.2.2 _ _ hl) (hV p e s m args below meth c H locs ls C hR hS hL)
theorem x_istore {i : Nat} {v : Int32} {lc' : List (Option Value)} (hd : decode M.2.1 pc = .ok (.istore i, 2)) (hn : i < M.2.2.1) (hl : st1 lc i (.int v) = lc') (h : V G M QQ E b (pc + 2) lc' st k z S X) : V G M QQ E b pc lc ((.int v) :: st) k z S X :=
  h.lift id fun r hV p e s m args below meth c H locs ls C hR hS hL => lv_istore C.1 C.2.1 hd hL.has hn rfl (fun ls2 h2 => hV p e s m args below meth c H locs ls2 C hR hS (hl ▸ hL.of1 h2))
theorem x_istore_n {n : Fin 4} {v : Int32} {lc' : List (Option Value)} (hd : decode M.2.1 pc = .ok (.istore_n n, 1)) (hn : n.val < M.2.2.1) (hl : st1 lc n.val (.int v) = lc') (h : V G M QQ E b (pc + 1) lc' st k z S X) : V G M QQ E b pc lc ((.int v) :: st) k z S X :=
  h.lift id fun r hV p e s m args below meth c H locs ls C hR hS hL => lv_istore_n C.1 C.2.1 hd rfl hL.has hn rfl (fun ls2 h2 => hV p e s m args below meth c H locs ls2 C hR hS (hl ▸ hL.of1 h2))
theorem x_lstore {i : Nat} {v : Int64} {lc' : List (Option Value)} (hd : decode M.2.1 pc = .ok (.lstore i, 2)) (hn : i + 1 < M.2.2.1) (hl : st2 lc i (.long v) = lc') (h : V G M QQ E b (pc + 2) lc' st k z S X) : V G M QQ E b pc lc ((.long v) :: st) k z S X :=
  h.lift id fun r hV p e s m args below meth c H locs ls C hR hS hL => lv_lstore C.1 C.2.1 hd hL.has hn rfl (fun ls2 h2 => hV p e s m args below meth c H locs ls2 C hR hS (hl ▸ hL.of2 h2))
theorem x_lstore_n {n : Fin 4} {v : Int64} {lc' : List (Option Value)} (hd : decode M.2.1 pc = .ok (.lstore_n n, 1)) (hn : n.val + 1 < M.2.2.1) (hl : st2 lc n.val (.long v) = lc') (h : V G M QQ E b (pc + 1) lc' st k z S X) : V G M QQ E b pc lc ((.long v) :: st) k z S X :=
  h.lift id fun r hV p e s m args below meth c H locs ls C hR hS hL => lv_lstore_n C.1 C.2.1 hd rfl hL.has hn rfl (fun ls2 h2 => hV p e s m args below meth c H locs ls2 C hR hS (hl ▸ hL.of2 h2))
theorem x_astore {i : Nat} {v : Nat} {lc' : List (Option Value)} (hd : decode M.2.1 pc = .ok (.astore i, 2)) (hn : i < M.2.2.1) (hl : st1 lc i (.ref v) = lc') (h : V G M QQ E b (pc + 2) lc' st k z S X) : V G M QQ E b pc lc ((.ref v) :: st) k z S X :=
  h.lift id fun r hV p e s m args below meth c H locs ls C hR hS hL => lv_astore C.1 C.2.1 hd hL.has hn rfl (fun ls2 h2 => hV p e s m args below meth c H locs ls2 C hR hS (hl ▸ hL.of1 h2))
theorem x_astore_n {n : Fin 4} {v : Nat} {lc' : List (Option Value)} (hd : decode M.2.1 pc = .ok (.astore_n n, 1)) (hn : n.val < M.2.2.1) (hl : st1 lc n.val (.ref v) = lc') (h : V G M QQ E b (pc + 1) lc' st k z S X) : V G M QQ E b pc lc ((.ref v) :: st) k z S X :=
  h.lift id fun r hV p e s m args below meth c H locs ls C hR hS hL => lv_astore_n C.1 C.2.1 hd rfl hL.has hn rfl (fun ls2 h2 => hV p e s m args below meth c H locs ls2 C hR hS (hl ▸ hL.of1 h2))
theorem x_iinc {i : Nat} {n : Int} {v w : Int32} {lc' : List (Option Value)} (hd : decode M.2.1 pc = .ok (.iinc i n, 3)) (hn : i < M.2.2.1) (hg : lc[i]? = some (some (.int v))) (hv : v + Int32.ofInt n = w) (hl : st1 lc i (.int w) = lc') (h : V G M QQ E b (pc + 3) lc' st k z S X) : V G M QQ E b pc lc st k z S X :=
  h.lift id fun r hV p e s m args below meth c H locs ls C hR hS hL => by
    obtain ⟨kk, hkk⟩ := List.getElem?_of_mem (lrl_mem.mpr ⟨.int v, hg, rfl⟩ : (i, cv G (.int v)) ∈ lrl G lc)
    exact lv_iinc C.1 C.2.1 hd hL.has hkk hv hn rfl (fun ls2 h2 => hV p e s m args below meth c H locs ls2 C hR hS (hl ▸ hL.of1 h2))
theorem x_iadd {x y : Int32} (hd : decode M.2.1 pc = .ok (.iadd, 1)) (h : V G M QQ E b (pc + 1) lc (.int (x + y) :: st) k z S X) : V G M QQ E b pc lc (.int y :: .int x :: st) k z S X :=
  h.lift id fun r hV p e s m args below meth c H locs ls C hR hS hL => lv_iadd C.1 C.2.1 hd (hV p e s m args below meth c H locs ls C hR hS hL)
theorem x_isub {x y : Int32} (hd : decode M.2.1 pc = .ok (.isub, 1)) (h : V G M QQ E b (pc + 1) lc (.int (x - y) :: st) k z S X) : V G M QQ E b pc lc (.int y :: .int x :: st) k z S X :=
  h.lift id fun r hV p e s m args below meth c H locs ls C hR hS hL => lv_isub C.1 C.2.1 hd (hV p e s m args below meth c H locs ls C hR hS hL)
theorem x_imul {x y : Int32} (hd : decode M.2.1 pc = .ok (.imul, 1)) (h : V G M QQ E b (pc + 1) lc (.int (x * y) :: st) k z S X) : V G M QQ E b pc lc (.int y :: .int x :: st) k z S X :=
  h.lift id fun r hV p e s m args below meth c H locs ls C hR hS hL => lv_imul C.1 C.2.1 hd (hV p e s m args below meth c H locs ls C hR hS hL)
theorem x_iand {x y : Int32} (hd : decode M.2.1 pc = .ok (.iand, 1)) (h : V G M QQ E b (pc + 1) lc (.int (x &&& y) :: st) k z S X) : V G M QQ E b pc lc (.int y :: .int x :: st) k z S X :=
  h.lift id fun r hV p e s m args below meth c H locs ls C hR hS hL => lv_iand C.1 C.2.1 hd (hV p e s m args below meth c H locs ls C hR hS hL)
theorem x_idiv {x y : Int32}(hne : ¬ y = 0) (hd : decode M.2.1 pc = .ok (.idiv, 1)) (h : V G M QQ E b (pc + 1) lc (.int (x / y) :: st) k z S X) : V G M QQ E b pc lc (.int y :: .int x :: st) k z S X :=
  h.lift id fun r hV p e s m args below meth c H locs ls C hR hS hL => lv_idiv C.1 C.2.1 hd hne (hV p e s m args below meth c H locs ls C hR hS hL)
theorem x_ishr {x y : Int32} (hd : decode M.2.1 pc = .ok (.ishr, 1)) (h : V G M QQ E b (pc + 1) lc (.int (x >>> (y &&& 31)) :: st) k z S X) : V G M QQ E b pc lc (.int y :: .int x :: st) k z S X :=
  h.lift id fun r hV p e s m args below meth c H locs ls C hR hS hL => lv_ishr C.1 C.2.1 hd (hV p e s m args below meth c H locs ls C hR hS hL)
theorem x_iushr {x y : Int32} (hd : decode M.2.1 pc = .ok (.iushr, 1)) (h : V G M QQ E b (pc + 1) lc (.int (x.toUInt32 >>> (y.toUInt32 &&& Int32.toUInt32 31)).toInt32 :: st) k z S X) : V G M QQ E b pc lc (.int y :: .int x :: st) k z S X :=
  h.lift id fun r hV p e s m args below meth c H locs ls C hR hS hL => lv_iushr C.1 C.2.1 hd rfl (hV p e s m args below meth c H locs ls C hR hS hL)
theorem x_ladd {x y : Int64} (hd : decode M.2.1 pc = .ok (.ladd, 1)) (h : V G M QQ E b (pc + 1) lc (.long (x + y) :: st) k z S X) : V G M QQ E b pc lc (.long y :: .long x :: st) k z S X :=
  h.lift id fun r hV p e s m args below meth c H locs ls C hR hS hL => lv_ladd C.1 C.2.1 hd (hV p e s m args below meth c H locs ls C hR hS hL)
theorem x_lmul {x y : Int64} (hd : decode M.2.1 pc = .ok (.lmul, 1)) (h : V G M QQ E b (pc + 1) lc (.long (x * y) :: st) k z S X) : V G M QQ E b pc lc (.long y :: .long x :: st) k z S X :=
  h.lift id fun r hV p e s m args below meth c H locs ls C hR hS hL => lv_lmul C.1 C.2.1 hd (hV p e s m args below meth c H locs ls C hR hS hL)
theorem x_land {x y : Int64} (hd : decode M.2.1 pc = .ok (.land, 1)) (h : V G M QQ E b (pc + 1) lc (.long (x &&& y) :: st) k z S X) : V G M QQ E b pc lc (.long y :: .long x :: st) k z S X :=
  h.lift id fun r hV p e s m args below meth c H locs ls C hR hS hL => lv_land C.1 C.2.1 hd (hV p e s m args below meth c H locs ls C hR hS hL)
theorem x_ldiv {x y : Int64}(hne : ¬ y = 0) (hd : decode M.2.1 pc = .ok (.ldiv, 1)) (h : V G M QQ E b (pc + 1) lc (.long (x / y) :: st) k z S X) : V G M QQ E b pc lc (.long y :: .long x :: st) k z S X :=
  h.lift id fun r hV p e s m args below meth c H locs ls C hR hS hL => lv_ldiv C.1 C.2.1 hd hne (hV p e s m args below meth c H locs ls C hR hS hL)
theorem x_lcmp {x y : Int64} (hd : decode M.2.1 pc = .ok (.lcmp, 1)) (h : V G M QQ E b (pc + 1) lc (.int (lg_cmp x y) :: st) k z S X) : V G M QQ E b pc lc (.long y :: .long x :: st) k z S X :=
  h.lift id fun r hV p e s m args below meth c H locs ls C hR hS hL => W.lcmp C.1 C.2.1 hd (hV p e s m args below meth c H locs ls C hR hS hL)
theorem x_lushr {x : Int64} {y : Int32} (hd : decode M.2.1 pc = .ok (.lushr, 1)) (h : V G M QQ E b (pc + 1) lc (.long (x.toUInt64 >>> (y.toInt64.toUInt64 &&& Int64.toUInt64 63)).toInt64 :: st) k z S X) : V G M QQ E b pc lc (.int y :: .long x :: st) k z S X :=
  h.lift id fun r hV p e s m args below meth c H locs ls C hR hS hL => lv_lushr C.1 C.2.1 hd rfl (hV p e s m args below meth c H locs ls C hR hS hL)
theorem x_ineg {x : Int32} (hd : decode M.2.1 pc = .ok (.ineg, 1)) (h : V G M QQ E b (pc + 1) lc (.int (-x) :: st) k z S X) : V G M QQ E b pc lc (.int x :: st) k z S X :=
  h.lift id fun r hV p e s m args below meth c H locs ls C hR hS hL => lv_ineg C.1 C.2.1 hd (hV p e s m args below meth c H locs ls C hR hS hL)
theorem x_i2l {x : Int32} (hd : decode M.2.1 pc = .ok (.i2l, 1)) (h : V G M QQ E b (pc + 1) lc (.long x.toInt64 :: st) k z S X) : V G M QQ E b pc lc (.int x :: st) k z S X :=
  h.lift id fun r hV p e s m args below meth c H locs ls C hR hS hL => lv_i2l C.1 C.2.1 hd rfl (hV p e s m args below meth c H locs ls C hR hS hL)
theorem x_l2i {x : Int64} (hd : decode M.2.1 pc = .ok (.l2i, 1)) (h : V G M QQ E b (pc + 1) lc (.int x.toInt32 :: st) k z S X) : V G M QQ E b pc lc (.long x :: st) k z S X :=
  h.lift id fun r hV p e s m args below meth c H locs ls C hR hS hL => lv_l2i C.1 C.2.1 hd rfl (hV p e s m args below meth c H locs ls C hR hS hL)
theorem x_dup {v : Value} (hd : decode M.2.1 pc = .ok (.dup, 1)) (hc : v.category = 1) (h : V G M QQ E b (pc + 1) lc (v :: v :: st) k z S X) : V G M QQ E b pc lc (v :: st) k z S X :=
  h.lift id fun r hV p e s m args below meth c H locs ls C hR hS hL => lv_dup C.1 C.2.1 hd ((cv_cat G v).trans hc) (hV p e s m args below meth c H locs ls C hR hS hL)
theorem x_pop {v : Value} (hd : decode M.2.1 pc = .ok (.pop, 1)) (hc : v.category = 1) (h : V G M QQ E b (pc + 1) lc st k z S X) : V G M QQ E b pc lc (v :: st) k z S X :=
  h.lift id fun r hV p e s m args below meth c H locs ls C hR hS hL => lv_pop C.1 C.2.1 hd ((cv_cat G v).trans hc) (hV p e s m args below meth c H locs ls C hR hS hL)
theorem x_dup2 {v w : Value} (hd : decode M.2.1 pc = .ok (.dup2, 1)) (hc : v.category = 1) (hc2 : w.category = 1) (h : V G M QQ E b (pc + 1) lc (v :: w :: v :: w :: st) k z S X) : V G M QQ E b pc lc (v :: w :: st) k z S X :=
  h.lift id fun r hV p e s m args below meth c H locs ls C hR hS hL => lv_dup2_11 C.1 C.2.1 hd ((cv_cat G v).trans hc) ((cv_cat G w).trans hc2) (hV p e s m args below meth c H locs ls C hR hS hL)
theorem x_goto {off : Int} {tgt : Nat} (hd : decode M.2.1 pc = .ok (.goto off, 3)) (ht : (pc : Int) + off = (tgt : Int)) (h : V G M QQ E b tgt lc st k z S X) : V G M QQ E b pc lc st k z S X :=
  h.lift id fun r hV p e s m args below meth c H locs ls C hR hS hL => lv_goto C.1 C.2.1 hd ht (hV p e s m args below meth c H locs ls C hR hS hL)
theorem x_if_eq {x : Int32} {off : Int} {tgt : Nat} {Y : Option α} (hd : decode M.2.1 pc = .ok (.ifCond .eq off, 3)) (ht : (pc : Int) + off = (tgt : Int)) (h1 : (x = 0) → V G M QQ E b tgt lc st k z S X) (h2 : ¬ (x = 0) → V G M QQ E b (pc + 3) lc st k z S Y) : V G M QQ E b pc lc (.int x :: st) k z S (if (x = 0) then X else Y) := by
  intro h0 r hr
  by_cases hc : (x = 0)
  · rw [if_pos hc] at hr
    have a := h1 hc h0 r hr
    exact ⟨a.1, fun p e s m args below meth c H locs ls C hR hS hL => lv_if_eq C.1 C.2.1 hd ht (fun _ => a.2 p e s m args below meth c H locs ls C hR hS hL) (fun n => absurd hc n)⟩
  · rw [if_neg hc] at hr
    have a := h2 hc h0 r hr
    exact ⟨a.1, fun p e s m args below meth c H locs ls C hR hS hL => lv_if_eq C.1 C.2.1 hd ht (fun n => absurd n hc) (fun _ => a.2 p e s m args below meth c H locs ls C hR hS hL)⟩
theorem x_icmp_eq {x y : Int32} {off : Int} {tgt : Nat} {Y : Option α} (hd : decode M.2.1 pc = .ok (.if_icmp .eq off, 3)) (ht : (pc : Int) + off = (tgt : Int)) (h1 : (x = y) → V G M QQ E b tgt lc st k z S X) (h2 : ¬ (x = y) → V G M QQ E b (pc + 3) lc st k z S Y) : V G M QQ E b pc lc (.int y :: .int x :: st) k z S (if (x = y) then X else Y) := by
  intro h0 r hr
  by_cases hc : (x = y)
  · rw [if_pos hc] at hr
    have a := h1 hc h0 r hr
    exact ⟨a.1, fun p e s m args below meth c H locs ls C hR hS hL => lv_icmp_eq C.1 C.2.1 hd ht (fun _ => a.2 p e s m args below meth c H locs ls C hR hS hL) (fun n => absurd hc n)⟩
  · rw [if_neg hc] at hr
    have a := h2 hc h0 r hr
    exact ⟨a.1, fun p e s m args below meth c H locs ls C hR hS hL => lv_icmp_eq C.1 C.2.1 hd ht (fun n => absurd n hc) (fun _ => a.2 p e s m args below meth c H locs ls C hR hS hL)⟩
theorem x_if_ne {x : Int32} {off : Int} {tgt : Nat} {Y : Option α} (hd : decode M.2.1 pc = .ok (.ifCond .ne off, 3)) (ht : (pc : Int) + off = (tgt : Int)) (h1 : ¬ x = 0 → V G M QQ E b tgt lc st k z S X) (h2 : x = 0 → V G M QQ E b (pc + 3) lc st k z S Y) : V G M QQ E b pc lc (.int x :: st) k z S (if x = 0 then Y else X) := by
  intro h0 r hr
  by_cases hc : x = 0
  · rw [if_pos hc] at hr
    have a := h2 hc h0 r hr
    exact ⟨a.1, fun p e s m args below meth c H locs ls C hR hS hL => lv_if_ne C.1 C.2.1 hd ht (fun n => absurd hc n) (fun _ => a.2 p e s m args below meth c H locs ls C hR hS hL)⟩
  · rw [if_neg hc] at hr
    have a := h1 hc h0 r hr
    exact ⟨a.1, fun p e s m args below meth c H locs ls C hR hS hL => lv_if_ne C.1 C.2.1 hd ht (fun _ => a.2 p e s m args below meth c H locs ls C hR hS hL) (fun n => absurd n hc)⟩
theorem x_icmp_ne {x y : Int32} {off : Int} {tgt : Nat} {Y : Option α} (hd : decode M.2.1 pc = .ok (.if_icmp .ne off, 3)) (ht : (pc : Int) + off = (tgt : Int)) (h1 : ¬ x = y → V G M QQ E b tgt lc st k z S X) (h2 : x = y → V G M QQ E b (pc + 3) lc st k z S Y) : V G M QQ E b pc lc (.int y :: .int x :: st) k z S (if x = y then Y else X) := by
  intro h0 r hr
  by_cases hc : x = y
  · rw [if_pos hc] at hr
    have a := h2 hc h0 r hr
    exact ⟨a.1, fun p e s m args below meth c H locs ls C hR hS hL => lv_icmp_ne C.1 C.2.1 hd ht (fun n => absurd hc n) (fun _ => a.2 p e s m args below meth c H locs ls C hR hS hL)⟩
  · rw [if_neg hc] at hr
    have a := h1 hc h0 r hr
    exact ⟨a.1, fun p e s m args below meth c H locs ls C hR hS hL => lv_icmp_ne C.1 C.2.1 hd ht (fun _ => a.2 p e s m args below meth c H locs ls C hR hS hL) (fun n => absurd n hc)⟩
theorem x_if_lt {x : Int32} {off : Int} {tgt : Nat} {Y : Option α} (hd : decode M.2.1 pc = .ok (.ifCond .lt off, 3)) (ht : (pc : Int) + off = (tgt : Int)) (h1 : (x < 0) → V G M QQ E b tgt lc st k z S X) (h2 : ¬ (x < 0) → V G M QQ E b (pc + 3) lc st k z S Y) : V G M QQ E b pc lc (.int x :: st) k z S (if (x < 0) then X else Y) := by
  intro h0 r hr
  by_cases hc : (x < 0)
  · rw [if_pos hc] at hr
    have a := h1 hc h0 r hr
    exact ⟨a.1, fun p e s m args below meth c H locs ls C hR hS hL => lv_if_lt C.1 C.2.1 hd ht (fun _ => a.2 p e s m args below meth c H locs ls C hR hS hL) (fun n => absurd hc n)⟩
  · rw [if_neg hc] at hr
    have a := h2 hc h0 r hr
    exact ⟨a.1, fun p e s m args below meth c H locs ls C hR hS hL => lv_if_lt C.1 C.2.1 hd ht (fun n => absurd n hc) (fun _ => a.2 p e s m args below meth c H locs ls C hR hS hL)⟩
theorem x_icmp_lt {x y : Int32} {off : Int} {tgt : Nat} {Y : Option α} (hd : decode M.2.1 pc = .ok (.if_icmp .lt off, 3)) (ht : (pc : Int) + off = (tgt : Int)) (h1 : (x < y) → V G M QQ E b tgt lc st k z S X) (h2 : ¬ (x < y) → V G M QQ E b (pc + 3) lc st k z S Y) : V G M QQ E b pc lc (.int y :: .int x :: st) k z S (if (x < y) then X else Y) := by
  intro h0 r hr
  by_cases hc : (x < y)
  · rw [if_pos hc] at hr
    have a := h1 hc h0 r hr
    exact ⟨a.1, fun p e s m args below meth c H locs ls C hR hS hL => lv_icmp_lt C.1 C.2.1 hd ht (fun _ => a.2 p e s m args below meth c H locs ls C hR hS hL) (fun n => absurd hc n)⟩
  · rw [if_neg hc] at hr
    have a := h2 hc h0 r hr
    exact ⟨a.1, fun p e s m args below meth c H locs ls C hR hS hL => lv_icmp_lt C.1 C.2.1 hd ht (fun n => absurd n hc) (fun _ => a.2 p e s m args below meth c H locs ls C hR hS hL)⟩
theorem x_if_ge {x : Int32} {off : Int} {tgt : Nat} {Y : Option α} (hd : decode M.2.1 pc = .ok (.ifCond .ge off, 3)) (ht : (pc : Int) + off = (tgt : Int)) (h1 : (0 ≤ x) → V G M QQ E b tgt lc st k z S X) (h2 : ¬ (0 ≤ x) → V G M QQ E b (pc + 3) lc st k z S Y) : V G M QQ E b pc lc (.int x :: st) k z S (if (0 ≤ x) then X else Y) := by
  intro h0 r hr
  by_cases hc : (0 ≤ x)
  · rw [if_pos hc] at hr
    have a := h1 hc h0 r hr
    exact ⟨a.1, fun p e s m args below meth c H locs ls C hR hS hL => lv_if_ge C.1 C.2.1 hd ht (fun _ => a.2 p e s m args below meth c H locs ls C hR hS hL) (fun n => absurd hc n)⟩
  · rw [if_neg hc] at hr
    have a := h2 hc h0 r hr
    exact ⟨a.1, fun p e s m args below meth c H locs ls C hR hS hL => lv_if_ge C.1 C.2.1 hd ht (fun n => absurd n hc) (fun _ => a.2 p e s m args below meth c H locs ls C hR hS hL)⟩
theorem x_icmp_ge {x y : Int32} {off : Int} {tgt : Nat} {Y : Option α} (hd : decode M.2.1 pc = .ok (.if_icmp .ge off, 3)) (ht : (pc : Int) + off = (tgt : Int)) (h1 : (y ≤ x) → V G M QQ E b tgt lc st k z S X) (h2 : ¬ (y ≤ x) → V G M QQ E b (pc + 3) lc st k z S Y) : V G M QQ E b pc lc (.int y :: .int x :: st) k z S (if (y ≤ x) then X else Y) := by
  intro h0 r hr
  by_cases hc : (y ≤ x)
  · rw [if_pos hc] at hr
    have a := h1 hc h0 r hr
    exact ⟨a.1, fun p e s m args below meth c H locs ls C hR hS hL => lv_icmp_ge C.1 C.2.1 hd ht (fun _ => a.2 p e s m args below meth c H locs ls C hR hS hL) (fun n => absurd hc n)⟩
  · rw [if_neg hc] at hr
    have a := h2 hc h0 r hr
    exact ⟨a.1, fun p e s m args below meth c H locs ls C hR hS hL => lv_icmp_ge C.1 C.2.1 hd ht (fun n => absurd n hc) (fun _ => a.2 p e s m args below meth c H locs ls C hR hS hL)⟩
theorem x_if_gt {x : Int32} {off : Int} {tgt : Nat} {Y : Option α} (hd : decode M.2.1 pc = .ok (.ifCond .gt off, 3)) (ht : (pc : Int) + off = (tgt : Int)) (h1 : (0 < x) → V G M QQ E b tgt lc st k z S X) (h2 : ¬ (0 < x) → V G M QQ E b (pc + 3) lc st k z S Y) : V G M QQ E b pc lc (.int x :: st) k z S (if (0 < x) then X else Y) := by
  intro h0 r hr
  by_cases hc : (0 < x)
  · rw [if_pos hc] at hr
    have a := h1 hc h0 r hr
    exact ⟨a.1, fun p e s m args below meth c H locs ls C hR hS hL => lv_if_gt C.1 C.2.1 hd ht (fun _ => a.2 p e s m args below meth c H locs ls C hR hS hL) (fun n => absurd hc n)⟩
  · rw [if_neg hc] at hr
    have a := h2 hc h0 r hr
    exact ⟨a.1, fun p e s m args below meth c H locs ls C hR hS hL => lv_if_gt C.1 C.2.1 hd ht (fun n => absurd n hc) (fun _ => a.2 p e s m args below meth c H locs ls C hR hS hL)⟩
theorem x_icmp_gt {x y : Int32} {off : Int} {tgt : Nat} {Y : Option α} (hd : decode M.2.1 pc = .ok (.if_icmp .gt off, 3)) (ht : (pc : Int) + off = (tgt : Int)) (h1 : (y < x) → V G M QQ E b tgt lc st k z S X) (h2 : ¬ (y < x) → V G M QQ E b (pc + 3) lc st k z S Y) : V G M QQ E b pc lc (.int y :: .int x :: st) k z S (if (y < x) then X else Y) := by
  intro h0 r hr
  by_cases hc : (y < x)
  · rw [if_pos hc] at hr
    have a := h1 hc h0 r hr
    exact ⟨a.1, fun p e s m args below meth c H locs ls C hR hS hL => lv_icmp_gt C.1 C.2.1 hd ht (fun _ => a.2 p e s m args below meth c H locs ls C hR hS hL) (fun n => absurd hc n)⟩
  · rw [if_neg hc] at hr
    have a := h2 hc h0 r hr
    exact ⟨a.1, fun p e s m args below meth c H locs ls C hR hS hL => lv_icmp_gt C.1 C.2.1 hd ht (fun n => absurd n hc) (fun _ => a.2 p e s m args below meth c H locs ls C hR hS hL)⟩
theorem x_if_le {x : Int32} {off : Int} {tgt : Nat} {Y : Option α} (hd : decode M.2.1 pc = .ok (.ifCond .le off, 3)) (ht : (pc : Int) + off = (tgt : Int)) (h1 : (x ≤ 0) → V G M QQ E b tgt lc st k z S X) (h2 : ¬ (x ≤ 0) → V G M QQ E b (pc + 3) lc st k z S Y) : V G M QQ E b pc lc (.int x :: st) k z S (if (x ≤ 0) then X else Y) := by
  intro h0 r hr
  by_cases hc : (x ≤ 0)
  · rw [if_pos hc] at hr
    have a := h1 hc h0 r hr
    exact ⟨a.1, fun p e s m args below meth c H locs ls C hR hS hL => lv_if_le C.1 C.2.1 hd ht (fun _ => a.2 p e s m args below meth c H locs ls C hR hS hL) (fun n => absurd hc n)⟩
  · rw [if_neg hc] at hr
    have a := h2 hc h0 r hr
    exact ⟨a.1, fun p e s m args below meth c H locs ls C hR hS hL => lv_if_le C.1 C.2.1 hd ht (fun n => absurd n hc) (fun _ => a.2 p e s m args below meth c H locs ls C hR hS hL)⟩
theorem x_icmp_le {x y : Int32} {off : Int} {tgt : Nat} {Y : Option α} (hd : decode M.2.1 pc = .ok (.if_icmp .le off, 3)) (ht : (pc : Int) + off = (tgt : Int)) (h1 : (x ≤ y) → V G M QQ E b tgt lc st k z S X) (h2 : ¬ (x ≤ y) → V G M QQ E b (pc + 3) lc st k z S Y) : V G M QQ E b pc lc (.int y :: .int x :: st) k z S (if (x ≤ y) then X else Y) := by
  intro h0 r hr
  by_cases hc : (x ≤ y)
  · rw [if_pos hc] at hr
    have a := h1 hc h0 r hr
    exact ⟨a.1, fun p e s m args below meth c H locs ls C hR hS hL => lv_icmp_le C.1 C.2.1 hd ht (fun _ => a.2 p e s m args below meth c H locs ls C hR hS hL) (fun n => absurd hc n)⟩
  · rw [if_neg hc] at hr
    have a := h2 hc h0 r hr
    exact ⟨a.1, fun p e s m args below meth c H locs ls C hR hS hL => lv_icmp_le C.1 C.2.1 hd ht (fun n => absurd n hc) (fun _ => a.2 p e s m args below meth c H locs ls C hR hS hL)⟩
end ROWS
end
section
section HEAP
variable {G : GX} {M : MD} {α : Type} {QQ : QT α} {E : State → Prop} {b : Option (Option Nat)} {pc : Nat} {lc : List (Option Value)} {st : List Value} {k z : Nat} {S : AS} {X : Option α}
theorem fc_obj {G : GX} {S : AS} {i ci : Nat} (h : aK i = .inr ci) : fcell G S i = .inr (ci, fvs G S i ci) := by unfold fcell; rw [h]; rfl
theorem fc_int {G : GX} {S : AS} {i n : Nat} (h : aK i = .inl (0, n)) : fcell G S i = .inl (gI G, n, .inl (gi S i)) := by unfold fcell; rw [h]; rfl
theorem fc_long {G : GX} {S : AS} {i n : Nat} (h : aK i = .inl (1, n)) : fcell G S i = .inl (gJ G, n, .inr (.inl (gl S i))) := by unfold fcell; rw [h]; rfl
theorem fc_bool {G : GX} {S : AS} {i n : Nat} (h : aK i = .inl (2, n)) : fcell G S i = .inl (gZ G, n, .inl (gi S i)) := by unfold fcell; rw [h]; rfl
theorem fc_ref {G : GX} {S : AS} {i n : Nat} (h : aK i = .inl (3, n)) : fcell G S i = .inl (gO G, n, .inr (.inr (.inr (.inr (fun k => rfB G (gr S i k)))))) := by unfold fcell; rw [h]; rfl
theorem fvs_get {G : GX} {S : AS} {i ci k t : Nat} (h : (ft ci)[k]? = some t) : (fvs G S i ci)[k]? = some (fv G S i t k) := by
  have hk : k < (ft ci).length := (List.getElem?_eq_some_iff.mp h).1
  unfold fvs
  rw [List.getElem?_map, List.getElem?_range hk]
  simp [h]
theorem fvs_len {G : GX} {S : AS} {i ci : Nat} : (fvs G S i ci).length = (ft ci).length := by simp [fvs]
/-- the world with one cell -/
theorem RelH.one {G : GX} {S : AS} {H : Heap} (h : RelH G S H) {i : Nat} (hi : i < S.1) {x : va_E} (hx : fcell G S i = x) : va_P (gD G) classes [(gB G + i, x)] H := by
  intro k q hk
  have hz : k < 1 := (List.getElem?_eq_some_iff.mp hk).1
  rw [show k = 0 by omega] at hk
  cases hk
  exact h.arr hi hx
/-- a field's word: its link (own class or nest mate) -/
def fword (own : String) (idx : Nat) (C : String) (T : u_T) (k : Nat) (pl : Bool) (w : Cond) : Prop := (pl = true ∧ w = .fieldLink own idx C (T k).2.1 (T k).2.2.1) ∨ ∃ host, w = .fieldLinkNest own idx C (T k).2.1 (T k).2.2.1 host ∧ pl = false
def CLS (ci : Nat) (C : String) (T : u_T) (N : Nat) (ty : Nat → FieldType) : Prop := classes[ci]? = some (C, T, N) ∧ (∀ w ∈ u_ws C T N, w ∈ lw_tbl) ∧ (∀ k, k < N → (T k).1 = C) ∧ (∀ k, k < N → parseFieldDescriptor (T k).2.2.1 = some (ty k)) ∧ (∀ a, a < N → ∀ b, b < N → a ≠ b → (T a).2.1 ≠ (T b).2.1) ∧ (ft ci).length = N
/-- entry idx of class own is field f of class ci, of kind t and type ty; fin: it is final -/
def FLD (own : String) (idx ci f t : Nat) (ty : FieldType) (fin pl : Bool) : Prop := ∃ (C : String) (T : u_T) (N : Nat) (ty0 : Nat → FieldType) (w : Cond), CLS ci C T N ty0 ∧ f < N ∧ (ft ci)[f]? = some t ∧ fword own idx C T f pl w ∧ w ∈ lw_tbl ∧ ty0 f = ty ∧ (T f).2.2.2 = fin
/-- getfield at the W level -/
theorem w_get {q ci f idx t : Nat} {ty : FieldType} {fin pl : Bool} (hF : FLD M.1 idx ci f t ty fin pl) (hK : aK q = .inr ci) (hd : decode M.2.1 pc = .ok (.getfield idx, 3)) (hq : q < S.1)
    {p : Program} {e : Env} {s : State} {m : MethodId} {args : Array Value} {below : List Frame} {meth : Method} {c : Code} {H : Heap} {locs : List Loc} {ls : Array Slot} {Q : State → Prop} {rest : List Value} (C0 : CT G M E p s m meth c) (hR : RelH G S H)
    (kk : W p G.1 e M.2.2.2.2.2 s m args below meth c H locs k z Q (F0 m (pc + 3) ls (fv G S q t f :: rest))) : W p G.1 e M.2.2.2.2.2 s m args below meth c H locs k z Q (F0 m pc ls (.ref (gB G + q) :: rest)) := by
  have hEC := C0.2.2.2.2.2.2.2.1
  obtain ⟨C, T, N, ty0, w, ⟨hc, hi, hcl, -⟩, hf, hft, hwd, hw, -⟩ := hF
  have hcl := hcl f hf
  have hv : (fvs G S q ci)[f]? = some (fv G S q t f) := fvs_get hft
  rcases hwd with ⟨-, rfl⟩ | ⟨host, rfl, -⟩
  · exact va_get (C := C) (T := T) (N := N) (ci := ci) C0.1 C0.2.1 (hEC.1.lays hi) (fun _ h => h) C0.2.2.2.2.2.2.1 hEC.2.1 (hR.one hq (fc_obj hK)) 0 rfl hc f hf (hEC.1.use hw rfl) (fun _ h => hcl ▸ h) hv hd kk
  · exact va_getN (C := C) (T := T) (N := N) (ci := ci) C0.1 C0.2.1 (hEC.1.lays hi) (fun _ h => h) C0.2.2.2.2.2.2.1 hEC.2.1 (hR.one hq (fc_obj hK)) 0 rfl hc f hf (hEC.1.use hw rfl) (fun _ h => hcl ▸ h) hv hd kk
/-- putfield at the W level -/
theorem w_put {q ci f idx t : Nat} {ty : FieldType} {fin pl : Bool} {v : Value} {S' : AS} (hF : FLD M.1 idx ci f t ty fin pl) (hK : aK q = .inr ci) (hd : decode M.2.1 pc = .ok (.putfield idx, 3)) (hq : q < S.1) (hfin : fin = true → M.2.2.2.2.1 = true ∧ (classes[ci]?).map (fun x => x.1) = some M.1)
    (hpl : fin = true → pl = true)
    (hn : narrow ty v = v) (hfit : fits ty v = true) (h1 : S'.1 = S.1) (h2 : fvs G S' q ci = (fvs G S q ci).set f v) (h3 : ∀ j, j ≠ q → fcell G S' j = fcell G S j)
    {p : Program} {e : Env} {s : State} {m : MethodId} {args : Array Value} {below : List Frame} {meth : Method} {c : Code} {H : Heap} {locs : List Loc} {ls : Array Slot} {Q : State → Prop} {rest : List Value} (C0 : CT G M E p s m meth c) (hR : RelH G S H) (hSS : va_S (gA G) s.heap H locs)
    (kk : ∀ (H1 : Heap) (locs1 : List Loc), RelH G S' H1 → va_S (gA G) s.heap H1 locs1 → W p G.1 e M.2.2.2.2.2 s m args below meth c H1 locs1 k z Q (F0 m (pc + 3) ls rest)) : W p G.1 e M.2.2.2.2.2 s m args below meth c H locs k z Q (F0 m pc ls (v :: .ref (gB G + q) :: rest)) := by
  have hEC := C0.2.2.2.2.2.2.2.1
  have hKK := hEC.2.1
  have hown := C0.2.2.2.2.2.2.1
  obtain ⟨C, T, N, ty0, w, ⟨hc, hi, hcl, hty, hnm, hlen⟩, hf, hft, hwd, hw, htf, hfi⟩ := hF
  have hts := hEC.1.lays hi (A := args)
  have hap := va_apart (own := M.1) hts (fun _ h => h) ty0 hty hnm hKK hc
  obtain ⟨r, g1, cell, q1, q2, q3, q4⟩ := hR.arr hq (fc_obj hK)
  have hr : r = (C, T, N) := Option.some.inj (g1.symm.trans hc)
  subst hr
  obtain ⟨hS, hfc, kC, hkC, hkind⟩ := hKK.1 ci _ hc
  obtain ⟨cf, kf, fi, ff, hif, hsl⟩ := hS f hf
  have hlay := hts _ (u_in_lay hf)
  unfold u_lay at hlay
  have hst := (u_facts hfc hkC (u_lays hts (fun _ h => h) hf) hif).1
  have hd2 : parseFieldDescriptor (T f).2.2.1 = some ty := by rw [hty f hf, htf]
  have hl : f < (fvs G S q ci).length := by rw [fvs_len, hlen]; exact hf
  have hcf0 := hcl f hf
  have hsame : ∀ x, s.fieldFound? (T f).1 (T f).2.1 (T f).2.2.1 = some x → s.fieldFound? C (T f).2.1 (T f).2.2.1 = some x := fun _ h => hcf0 ▸ h
  have fin2 : ∀ H' : Heap, H'[gB G + q]? = some (cell.setSlot ff.slot v) → H'.size = H.size → (∀ q', q' ≠ gB G + q → H'[q']? = H[q']?) → W p G.1 e M.2.2.2.2.2 s m args below meth c H' (locs ++ [⟨gB G + q, ff.slot⟩]) k z Q (F0 m (pc + 3) ls rest) := by
    intro H' e1 e2 e3
    rw [hsl] at e1
    refine kk H' _ (hR.put h1 e2 e3 ?_ h3) (hSS.put e2 e3 (Nat.le_add_right _ _))
    rw [fc_obj hK, h2]
    exact ⟨_, hc, t_OB.to (V := updV (vp_V (fvs G S q ci)) f v) ⟨_, e1, q2, q3, t_set q4 hap hf v⟩ (fun j _ => vp_updV_set hl v j)⟩
  cases fin with
  | false =>
    rw [if_neg (by rw [hfi]; decide)] at hlay
    have h6 := u_store hfc hkC hkind hlay hif hd2 hn hfit
    rcases hwd with ⟨-, rfl⟩ | ⟨host, rfl, -⟩
    · exact W.putK C0.1 C0.2.1 (f := ff) ⟨hown, hEC.1.use hw rfl, ⟨_, _, _, hsame _ hif⟩, hst⟩ (by rw [q2]; exact h6) q1 q3 (by rw [hsl]; exact k2_hasslot (q4 f hf)) rfl rfl hd fin2
    · exact va_WputK C0.1 C0.2.1 (f := ff) hown (hEC.1.use hw rfl) (hsame _ hif) hst (by rw [q2]; exact h6) q1 q3 (by rw [hsl]; exact k2_hasslot (q4 f hf)) rfl rfl hd fin2
  | true =>
    rw [if_pos hfi] at hlay
    obtain ⟨hini, hM⟩ := hfin rfl
    have hCM : C = M.1 := by rw [hc] at hM; exact Option.some.inj hM
    have hw2 : w = .fieldLink M.1 idx C (T f).2.1 (T f).2.2.1 := by
      rcases hwd with ⟨-, h⟩ | ⟨_, -, h⟩
      · exact h
      · rw [hpl rfl] at h; cases h
    subst hw2
    have hcf : m.cls = cf := by
      obtain ⟨_, _, c', _, _, _, -, -, hf', -, -, -, hown2, -⟩ := Cond.laysFinal_spec hlay
      have e1 : c' = cf := by have := hif.symm.trans hf'; simp at this; exact this.1.symm
      rw [hcf0, hCM] at hown2
      rw [← e1]; exact Option.some.inj (hown.symm.trans hown2)
    have h6 := u_fits hfc hkC hkind (Or.inr hlay) hif hd2 hn hfit
    exact W.putFinK C0.1 C0.2.1 hown (hEC.1.use hw rfl) (hsame _ hif) hst hcf (C0.2.2.2.2.2.1 hini) (by rw [q2]; exact h6) q1 q3 (by rw [hsl]; exact k2_hasslot (q4 f hf)) rfl rfl hd fin2
theorem fvs_si {G : GX} {S : AS} {q ci f : Nat} (v : Int32) (h : (ft ci)[f]? = some 0) : fvs G (si S q f v) q ci = (fvs G S q ci).set f (.int v) := by
  apply List.ext_getElem?
  intro j
  have hl : f < (fvs G S q ci).length := by rw [fvs_len]; exact (List.getElem?_eq_some_iff.mp h).1
  by_cases e : j = f
  · subst e
    rw [List.getElem?_set_self hl, fvs_get h]
    simp [fv, gi_si]
  · rw [List.getElem?_set_ne (Ne.symm e)]
    by_cases hj : j < (ft ci).length
    · rw [fvs_get (List.getElem?_eq_getElem hj), fvs_get (List.getElem?_eq_getElem hj)]
      have : gi (si S q f v) q j = gi S q j := by simp [gi_si, e]
      simp only [fv, this, gr_si]
    · rw [List.getElem?_eq_none (by rw [fvs_len]; omega), List.getElem?_eq_none (by rw [fvs_len]; omega)]
theorem fvs_sr {G : GX} {S : AS} {q ci f : Nat} (v : Option Nat) (h : (ft ci)[f]? = some 2) : fvs G (sr S q f v) q ci = (fvs G S q ci).set f (va_rf (rfB G v)) := by
  apply List.ext_getElem?
  intro j
  have hl : f < (fvs G S q ci).length := by rw [fvs_len]; exact (List.getElem?_eq_some_iff.mp h).1
  by_cases e : j = f
  · subst e
    rw [List.getElem?_set_self hl, fvs_get h]
    simp [fv, gr_sr]
  · rw [List.getElem?_set_ne (Ne.symm e)]
    by_cases hj : j < (ft ci).length
    · rw [fvs_get (List.getElem?_eq_getElem hj), fvs_get (List.getElem?_eq_getElem hj)]
      have : gr (sr S q f v) q j = gr S q j := by simp [gr_sr, e]
      simp only [fv, this, gi_sr]
    · rw [List.getElem?_eq_none (by rw [fvs_len]; omega), List.getElem?_eq_none (by rw [fvs_len]; omega)]
theorem fcell_si {G : GX} {S : AS} {c k : Nat} {v : Int32} {j : Nat} (h : j ≠ c) : fcell G (si S c k v) j = fcell G S j := fcell_congr (fun i => by simp [gi_si, h]) (fun _ => rfl) (fun _ => rfl)
theorem fcell_sl {G : GX} {S : AS} {c k : Nat} {v : Int64} {j : Nat} (h : j ≠ c) : fcell G (sl S c k v) j = fcell G S j := fcell_congr (fun _ => rfl) (fun i => by simp [gl_sl, h]) (fun _ => rfl)
theorem fcell_sr {G : GX} {S : AS} {c k : Nat} {v : Option Nat} {j : Nat} (h : j ≠ c) : fcell G (sr S c k v) j = fcell G S j := fcell_congr (fun _ => rfl) (fun _ => rfl) (fun i => by simp [gr_sr, h])
theorem fcell_sa {G : GX} {S : AS} {c : Nat} {f : Nat → Int32} {j : Nat} (h : j ≠ c) : fcell G (sa S c f) j = fcell G S j := fcell_congr (fun i => by simp [gi_sa, h]) (fun _ => rfl) (fun _ => rfl)
theorem V.liftS {pc' : Nat} {lc' : List (Option Value)} {st' : List Value} {k' z' : Nat} {S' : AS} (hS : Sp b S → Sp b S') (f : Sp b S → ∀ r, VW G M QQ E pc' lc' st' k' z' S' r → VW G M QQ E pc lc st k z S r) (h : V G M QQ E b pc' lc' st' k' z' S' X) : V G M QQ E b pc lc st k z S X := fun h0 r hr => ⟨(h (hS h0) r hr).1, f h0 r (h (hS h0) r hr).2⟩
/-- an int field -/
theorem x_geti {q ci f idx : Nat} {ty : FieldType} {fin pl : Bool} (hd : decode M.2.1 pc = .ok (.getfield idx, 3)) (hF : FLD M.1 idx ci f 0 ty fin pl) (hK : aK q = .inr ci) (hq : Sp b S → q < S.1) (h : V G M QQ E b (pc + 3) lc (.int (gi S q f) :: st) k z S X) : V G M QQ E b pc lc (.ref q :: st) k z S X :=
  h.liftS id fun h0 r hV p e s m args below meth c H locs ls C hR hS hL => w_get (rest := st.map (cv G)) hF hK hd (hq h0) C hR (hV p e s m args below meth c H locs ls C hR hS hL)
/-- a field that holds a known cell -/
theorem x_getr {q q' ci f idx : Nat} {ty : FieldType} {fin pl : Bool} (hd : decode M.2.1 pc = .ok (.getfield idx, 3)) (hF : FLD M.1 idx ci f 2 ty fin pl) (hK : aK q = .inr ci) (hq : Sp b S → q < S.1) (hg : Sp b S → gr S q f = some q') (h : V G M QQ E b (pc + 3) lc (.ref q' :: st) k z S X) : V G M QQ E b pc lc (.ref q :: st) k z S X :=
  h.liftS id fun h0 r hV p e s m args below meth c H locs ls C hR hS hL => by
    refine w_get (rest := st.map (cv G)) hF hK hd (hq h0) C hR ?_
    have e1 : fv G S q 2 f = .ref (gB G + q') := by simp [fv, hg h0, rfB, va_rf]
    rw [e1]
    exact hV p e s m args below meth c H locs ls C hR hS hL
def obd {α : Type} (o : Option Nat) (f : Nat → Option α) : Option α := match o with
  | none => none
  | some q => f q
def oel {α : Type} (o : Option Nat) (x : Option α) (f : Nat → Option α) : Option α := match o with
  | none => x
  | some q => f q
/-- a field that holds a cell or null: null fails -/
theorem x_geto {q ci f idx : Nat} {ty : FieldType} {fin pl : Bool} {Y : Nat → Option α} (hd : decode M.2.1 pc = .ok (.getfield idx, 3)) (hF : FLD M.1 idx ci f 2 ty fin pl) (hK : aK q = .inr ci) (hq : Sp b S → q < S.1) (h : ∀ q', gr S q f = some q' → V G M QQ E b (pc + 3) lc (.ref q' :: st) k z S (Y q')) : V G M QQ E b pc lc (.ref q :: st) k z S (obd (gr S q f) Y) := by
  intro h0 r hr
  cases hg : gr S q f with
  | none => rw [hg] at hr; cases hr
  | some q' =>
    rw [hg] at hr
    exact x_getr hd hF hK hq (fun _ => hg) (h q' hg) h0 r hr
theorem x_puti {q ci f idx : Nat} {fin pl : Bool} {v : Int32} (hd : decode M.2.1 pc = .ok (.putfield idx, 3)) (hF : FLD M.1 idx ci f 0 .int fin pl) (hft : (ft ci)[f]? = some 0) (hK : aK q = .inr ci) (hq : Sp b S → q < S.1) (hfin : fin = true → M.2.2.2.2.1 = true ∧ (classes[ci]?).map (fun x => x.1) = some M.1) (hpl : fin = true → pl = true) (h : V G M QQ E b (pc + 3) lc st k z (si S q f v) X) : V G M QQ E b pc lc (.int v :: .ref q :: st) k z S X :=
  h.liftS (fun h0 => h0.si q f v) fun h0 r hV p e s m args below meth c H locs ls C hR hS hL => w_put (S' := si S q f v) (rest := st.map (cv G)) hF hK hd (hq h0) hfin hpl rfl rfl rfl (fvs_si v hft) (fun j hj => fcell_si hj) C hR hS (fun H1 locs1 hR1 hS1 => hV p e s m args below meth c H1 locs1 ls C hR1 hS1 hL)
theorem x_putz {q ci f idx : Nat} {fin pl : Bool} {v : Int32} (hd : decode M.2.1 pc = .ok (.putfield idx, 3)) (hF : FLD M.1 idx ci f 0 .boolean fin pl) (hv : v = 0 ∨ v = 1) (hft : (ft ci)[f]? = some 0) (hK : aK q = .inr ci) (hq : Sp b S → q < S.1) (hfin : fin = true → M.2.2.2.2.1 = true ∧ (classes[ci]?).map (fun x => x.1) = some M.1) (hpl : fin = true → pl = true) (h : V G M QQ E b (pc + 3) lc st k z (si S q f v) X) : V G M QQ E b pc lc (.int v :: .ref q :: st) k z S X :=
  h.liftS (fun h0 => h0.si q f v) fun h0 r hV p e s m args below meth c H locs ls C hR hS hL => w_put (S' := si S q f v) (rest := st.map (cv G)) hF hK hd (hq h0) hfin hpl (by rcases hv with rfl | rfl <;> rfl) (by rcases hv with rfl | rfl <;> rfl) rfl (fvs_si v hft) (fun j hj => fcell_si hj) C hR hS (fun H1 locs1 hR1 hS1 => hV p e s m args below meth c H1 locs1 ls C hR1 hS1 hL)
theorem x_putr {q q' ci f idx : Nat} {ty : FieldType} {fin pl : Bool} (hd : decode M.2.1 pc = .ok (.putfield idx, 3)) (hF : FLD M.1 idx ci f 2 ty fin pl) (hty : refKind ty = true) (hft : (ft ci)[f]? = some 2) (hK : aK q = .inr ci) (hq : Sp b S → q < S.1) (hfin : fin = true → M.2.2.2.2.1 = true ∧ (classes[ci]?).map (fun x => x.1) = some M.1) (hpl : fin = true → pl = true) (hsp : Sp b S → Sp b (sr S q f (some q'))) (h : V G M QQ E b (pc + 3) lc st k z (sr S q f (some q')) X) : V G M QQ E b pc lc (.ref q' :: .ref q :: st) k z S X :=
  h.liftS hsp fun h0 r hV p e s m args below meth c H locs ls C hR hS hL => w_put (S' := sr S q f (some q')) (rest := st.map (cv G)) (v := .ref (gB G + q')) hF hK hd (hq h0) hfin hpl (by cases ty <;> first | rfl | (simp [refKind] at hty)) (by cases ty <;> first | rfl | (simp [refKind] at hty)) rfl (fvs_sr (some q') hft) (fun j hj => fcell_sr hj) C hR hS (fun H1 locs1 hR1 hS1 => hV p e s m args below meth c H1 locs1 ls C hR1 hS1 hL)
end HEAP
end
section
section ARR
variable {G : GX} {M : MD} {α : Type} {QQ : QT α} {E : State → Prop} {b : Option (Option Nat)} {pc : Nat} {lc : List (Option Value)} {st : List Value} {k z : Nat} {S : AS} {X : Option α}
theorem x_chk {c : Prop} (h : c → V G M QQ E b pc lc st k z S X) : V G M QQ E b pc lc st k z S (chk c X) := by
  intro h0 r hr
  obtain ⟨h1, h2⟩ := chk_some hr
  exact h h1 h0 r h2
theorem x_nm {γ : Type} {a : γ} {f : γ → Option α} (h : ∀ y, y = a → V G M QQ E b pc lc st k z S (f y)) : V G M QQ E b pc lc st k z S (nm a f) := h a rfl
theorem x_iald {a n : Nat} {i : Int32} (hd : decode M.2.1 pc = .ok (.iaload, 1)) (hK : aK a = .inl (0, n)) (hq : Sp b S → a < S.1) (h : V G M QQ E b (pc + 1) lc (.int (gi S a (ix i)) :: st) k z S X) : V G M QQ E b pc lc (.int i :: .ref a :: st) k z S (chk (vp_in i n) X) :=
  x_chk fun hin => h.liftS id fun h0 r hV p e s m args below meth c H locs ls C hR hS hL => va_iald (rest := st.map (cv G)) (a := gB G + a) (n := n) (f := gi S a) (tys := tys G) C.1 C.2.1 C.2.2.2.2.2.2.2.1.2.1 (hR.one (hq h0) (fc_int hK)) 0 0 rfl rfl hin hd (hV p e s m args below meth c H locs ls C hR hS hL)
theorem x_zald {a n : Nat} {i : Int32} (hd : decode M.2.1 pc = .ok (.baload, 1)) (hK : aK a = .inl (2, n)) (hq : Sp b S → a < S.1) (h : V G M QQ E b (pc + 1) lc (.int (gi S a (ix i)) :: st) k z S X) : V G M QQ E b pc lc (.int i :: .ref a :: st) k z S (chk (vp_in i n) X) :=
  x_chk fun hin => h.liftS id fun h0 r hV p e s m args below meth c H locs ls C hR hS hL => va_zald (rest := st.map (cv G)) (a := gB G + a) (n := n) (f := gi S a) (tys := tys G) C.1 C.2.1 C.2.2.2.2.2.2.2.1.2.1 (hR.one (hq h0) (fc_bool hK)) 0 2 rfl rfl hin hd (hV p e s m args below meth c H locs ls C hR hS hL)
theorem x_lald {a n : Nat} {i : Int32} (hd : decode M.2.1 pc = .ok (.laload, 1)) (hK : aK a = .inl (1, n)) (hq : Sp b S → a < S.1) (h : V G M QQ E b (pc + 1) lc (.long (gl S a (ix i)) :: st) k z S X) : V G M QQ E b pc lc (.int i :: .ref a :: st) k z S (chk (vp_in i n) X) :=
  x_chk fun hin => h.liftS id fun h0 r hV p e s m args below meth c H locs ls C hR hS hL => va_lald (rest := st.map (cv G)) (a := gB G + a) (n := n) (f := gl S a) (tys := tys G) C.1 C.2.1 C.2.2.2.2.2.2.2.1.2.1 (hR.one (hq h0) (fc_long hK)) 0 1 rfl rfl hin hd (hV p e s m args below meth c H locs ls C hR hS hL)
/-- an array of RuleBooks: null, or one -/
theorem x_aald {a n : Nat} {i : Int32} {Y : Nat → Option α} (hd : decode M.2.1 pc = .ok (.aaload, 1)) (hK : aK a = .inl (3, n)) (hq : Sp b S → a < S.1) (h1 : gr S a (ix i) = none → V G M QQ E b (pc + 1) lc (.null :: st) k z S X) (h2 : ∀ q, gr S a (ix i) = some q → V G M QQ E b (pc + 1) lc (.ref q :: st) k z S (Y q)) : V G M QQ E b pc lc (.int i :: .ref a :: st) k z S (chk (vp_in i n) (oel (gr S a (ix i)) X Y)) := by
  refine x_chk fun hin => ?_
  intro h0 r hr
  cases hg : gr S a (ix i) with
  | none =>
    rw [hg] at hr
    have a1 := h1 hg h0 r hr
    refine ⟨a1.1, fun p e s m args below meth c H locs ls C hR hS hL => va_aldq (rest := st.map (cv G)) (a := gB G + a) (n := n) (f := fun k => rfB G (gr S a k)) (tys := tys G) C.1 C.2.1 C.2.2.2.2.2.2.2.1.2.1 (hR.one (hq h0) (fc_ref hK)) 0 3 rfl rfl hin hd ?_⟩
    show W _ _ _ _ _ _ _ _ _ _ _ _ _ _ _ (F0 _ _ _ (va_rf (rfB G (gr S a (ix i))) :: _))
    rw [hg]
    exact a1.2 p e s m args below meth c H locs ls C hR hS hL
  | some q =>
    rw [hg] at hr
    have a1 := h2 q hg h0 r hr
    refine ⟨a1.1, fun p e s m args below meth c H locs ls C hR hS hL => va_aldq (rest := st.map (cv G)) (a := gB G + a) (n := n) (f := fun k => rfB G (gr S a k)) (tys := tys G) C.1 C.2.1 C.2.2.2.2.2.2.2.1.2.1 (hR.one (hq h0) (fc_ref hK)) 0 3 rfl rfl hin hd ?_⟩
    show W _ _ _ _ _ _ _ _ _ _ _ _ _ _ _ (F0 _ _ _ (va_rf (rfB G (gr S a (ix i))) :: _))
    rw [hg]
    exact a1.2 p e s m args below meth c H locs ls C hR hS hL
theorem upd_si {S : AS} {a j : Nat} {x : Int32} : gi (si S a j x) a = upd (gi S a) j x := by
  funext i
  simp [gi_si, upd]
theorem upd_sl {S : AS} {a j : Nat} {x : Int64} : gl (sl S a j x) a = vp_updL (gl S a) j x := by
  funext i
  simp [gl_sl, vp_updL]
theorem upd_fun (f : Nat → Int32) (j : Nat) (x : Int32) : updV (fun i => Value.int (f i)) j (.int x) = fun i => Value.int (upd f j x i) := by
  funext i
  by_cases e : i = j <;> simp [updV, upd, e]
theorem updL_fun (f : Nat → Int64) (j : Nat) (x : Int64) : updV (fun i => Value.long (f i)) j (.long x) = fun i => Value.long (vp_updL f j x i) := by
  funext i
  by_cases e : i = j <;> simp [updV, vp_updL, e]
theorem x_iast {a n : Nat} {i v : Int32} (hd : decode M.2.1 pc = .ok (.iastore, 1)) (hK : aK a = .inl (0, n)) (hq : Sp b S → a < S.1) (h : V G M QQ E b (pc + 1) lc st k z (si S a (ix i) v) X) : V G M QQ E b pc lc (.int v :: .int i :: .ref a :: st) k z S (chk (vp_in i n) X) :=
  x_chk fun hin => h.liftS (fun h0 => h0.si _ _ _) fun h0 r hV p e s m args below meth c H locs ls C hR hS hL => by
    refine W.iast (g := F0 m pc ls (Value.int v :: Value.int i :: Value.ref (gB G + a) :: st.map (cv G))) (rest := st.map (cv G)) C.1 C.2.1 (hR.arr (hq h0) (fc_int hK)) ((C.2.2.2.2.2.2.2.1.2.1.2 0 _ rfl).1 n (fun j => .int (gi S a j))) (fun q => by cases q) (by show ¬ (i < 0 ∨ (arrV _ _ _).slots.size ≤ _); rw [arrV_size]; exact hin) rfl rfl hd fun H1 e1 e2 e3 => ?_
    refine hV p e s m args below meth c H1 _ ls C (hR.put (S' := si S a (ix i) v) rfl e2 e3 ?_ (fun j hj => fcell_si hj)) (hS.put e2 e3 (Nat.le_add_right _ _)) hL
    rw [fc_int hK, upd_si]
    show H1[_]? = some (vp_cell _ _)
    rw [e1, vp_cell_i, vp_cell_i, arrV_store, upd_fun]
theorem x_zast {a n : Nat} {i v : Int32} (hd : decode M.2.1 pc = .ok (.bastore, 1)) (hK : aK a = .inl (2, n)) (hq : Sp b S → a < S.1) (h : V G M QQ E b (pc + 1) lc st k z (si S a (ix i) (vp_nar .boolean v)) X) : V G M QQ E b pc lc (.int v :: .int i :: .ref a :: st) k z S (chk (vp_in i n) X) :=
  x_chk fun hin => h.liftS (fun h0 => h0.si _ _ _) fun h0 r hV p e s m args below meth c H locs ls C hR hS hL => by
    refine W.zast (g := F0 m pc ls (Value.int v :: Value.int i :: Value.ref (gB G + a) :: st.map (cv G))) (rest := st.map (cv G)) C.1 C.2.1 (hR.arr (hq h0) (fc_bool hK)) ((C.2.2.2.2.2.2.2.1.2.1.2 2 _ rfl).1 n (fun j => .int (gi S a j))) (fun q => by cases q) (by show ¬ (i < 0 ∨ (arrV _ _ _).slots.size ≤ _); rw [arrV_size]; exact hin) rfl rfl hd fun H1 e1 e2 e3 => ?_
    refine hV p e s m args below meth c H1 _ ls C (hR.put (S' := si S a (ix i) (vp_nar .boolean v)) rfl e2 e3 ?_ (fun j hj => fcell_si hj)) (hS.put e2 e3 (Nat.le_add_right _ _)) hL
    rw [fc_bool hK, upd_si]
    show H1[_]? = some (vp_cell _ _)
    rw [e1, vp_cell_i, vp_cell_i, arrV_store, ← upd_fun]
    rfl
theorem x_last {a n : Nat} {i : Int32} {v : Int64} (hd : decode M.2.1 pc = .ok (.lastore, 1)) (hK : aK a = .inl (1, n)) (hq : Sp b S → a < S.1) (h : V G M QQ E b (pc + 1) lc st k z (sl S a (ix i) v) X) : V G M QQ E b pc lc (.long v :: .int i :: .ref a :: st) k z S (chk (vp_in i n) X) :=
  x_chk fun hin => h.liftS (fun h0 => h0.sl _ _ _) fun h0 r hV p e s m args below meth c H locs ls C hR hS hL => by
    refine W.last (g := F0 m pc ls (Value.long v :: Value.int i :: Value.ref (gB G + a) :: st.map (cv G))) (rest := st.map (cv G)) C.1 C.2.1 (hR.arr (hq h0) (fc_long hK)) ((C.2.2.2.2.2.2.2.1.2.1.2 1 _ rfl).1 n (fun j => .long (gl S a j))) (fun q => by cases q) (by show ¬ (i < 0 ∨ (arrV _ _ _).slots.size ≤ _); rw [arrV_size]; exact hin) rfl rfl hd fun H1 e1 e2 e3 => ?_
    refine hV p e s m args below meth c H1 _ ls C (hR.put (S' := sl S a (ix i) v) rfl e2 e3 ?_ (fun j hj => fcell_sl hj)) (hS.put e2 e3 (Nat.le_add_right _ _)) hL
    rw [fc_long hK, upd_sl]
    show H1[_]? = some (vp_cell _ _)
    rw [e1, vp_cell_l, vp_cell_l, arrV_store, updL_fun]
theorem x_alen {a t n : Nat} {v : Int32} (hd : decode M.2.1 pc = .ok (.arraylength, 1)) (hK : aK a = .inl (t, n)) (ht : t < 3) (hv : Int32.ofNat n = v) (hq : Sp b S → a < S.1) (h : V G M QQ E b (pc + 1) lc (.int v :: st) k z S X) : V G M QQ E b pc lc (.ref a :: st) k z S X :=
  h.liftS id fun h0 r hV p e s m args below meth c H locs ls C hR hS hL => by
    have hKK := C.2.2.2.2.2.2.2.1.2.1
    have kk := hV p e s m args below meth c H locs ls C hR hS hL
    match t, ht, hK with
    | 0, _, hK => exact va_alen (rest := st.map (cv G)) (a := gB G + a) C.1 C.2.1 hKK (hR.one (hq h0) (fc_int hK)) 0 0 rfl rfl hv hd kk
    | 1, _, hK => exact va_alen (rest := st.map (cv G)) (a := gB G + a) C.1 C.2.1 hKK (hR.one (hq h0) (fc_long hK)) 0 1 rfl rfl hv hd kk
    | 2, _, hK => exact va_alen (rest := st.map (cv G)) (a := gB G + a) C.1 C.2.1 hKK (hR.one (hq h0) (fc_bool hK)) 0 2 rfl rfl hv hd kk
end ARR
end
section
/-! ends of methods, contracts, calls -/
def Qx (G : GX) (r : RS) : Array Value → State → Outcome → State → Prop := fun _ st oc t => oc = .returned (r.1.map (cv G)) ∧ RelH G r.2 t.heap ∧ va_F (gA G) st t
def QM {α : Type} (G : GX) (M : MD) (inj : α → RS) : QT α := (fun a below args s => MQ below (Qx G (inj a)) args s M.2.2.2.2.2.cells M.2.2.2.2.2.slots (gA G), fun a => (inj a).2)
abbrev iI : Int32 × AS → RS := fun a => (some (.int a.1), a.2)
abbrev iL : Int64 × AS → RS := fun a => (some (.long a.1), a.2)
abbrev iR : Nat × AS → RS := fun a => (some (.ref a.1), a.2)
abbrev iV : AS → RS := fun a => (none, a)
def CN {α : Type} (G : GX) (y : MethodName) (cc : ByteArray) (nL : Nat) (ret : Option FieldType) (rm : Room) (b : Option (Option Nat)) (inj : α → RS) (av : List Value) (S : AS) (X : Option α) : Prop :=
  Sp b S → ∀ a, X = some a → Sp b (inj a).2 ∧ Met G.1 y [.code y cc nL ret] rm (va_Pc (av.map (cv G)) (fun U => EC G U U.heap ∧ gB G ≤ U.heap.size ∧ RelH G S U.heap)) (Qx G (inj a)) rm.cells rm.slots (gA G)
def lcA : List Value → List (Option Value)
  | [] => []
  | v :: r => if v.category = 2 then some v :: none :: lcA r else some v :: lcA r
theorem lcA_mem (G : GX) : ∀ (av : List Value) (j i : Nat) (v : Value), (lcA av)[i]? = some (some v) → (j + i, cv G v) ∈ lv_args j (av.map (cv G))
  | [], j, i, v, h => by simp [lcA] at h
  | w :: r, j, i, v, h => by
    show (j + i, cv G v) ∈ (j, cv G w) :: lv_args (if (cv G w).category = 2 then j + 2 else j + 1) (r.map (cv G))
    rw [cv_cat]
    unfold lcA at h
    by_cases hc : w.category = 2
    · rw [if_pos hc] at h ⊢
      match i, h with
      | 0, h => simp at h; rw [h]; exact List.mem_cons_self
      | 1, h => simp at h
      | i + 2, h =>
        have := lcA_mem G r (j + 2) i v (by simpa using h)
        rw [show j + (i + 2) = j + 2 + i by omega]
        exact List.mem_cons_of_mem _ this
    · rw [if_neg hc] at h ⊢
      match i, h with
      | 0, h => simp at h; rw [h]; exact List.mem_cons_self
      | i + 1, h =>
        have := lcA_mem G r (j + 1) i v (by simpa using h)
        rw [show j + (i + 1) = j + 1 + i by omega]
        exact List.mem_cons_of_mem _ this
theorem lcA_len (G : GX) : ∀ av : List Value, (lg_sl (av.map (cv G))).length = (lcA av).length
  | [] => rfl
  | w :: r => by
    have ih := lcA_len G r
    unfold lg_sl at ih ⊢
    unfold lcA
    simp only [List.map_cons, List.flatMap_cons, List.length_append, ih, cv_cat]
    by_cases hc : w.category = 2
    · simp [hc]; omega
    · simp [hc]; omega
section CALLS
variable {α : Type} {G : GX} {M : MD} {b : Option (Option Nat)} {S : AS}
theorem cn_of_v {y : MethodName} {ini : Bool} {inj : α → RS} {av : List Value} {X : Option α} {lc : List (Option Value)} (hM : M = (y.cls, M.2.1, M.2.2.1, M.2.2.2.1, ini, M.2.2.2.2.2)) (hy : plainName y.cls = true) (hini : ini = true → y.name = "<init>") (hlc : lcA av ++ List.replicate (M.2.2.1 - (lcA av).length) none = lc) (hle : (lcA av).length ≤ M.2.2.1) (h : V G M (QM G M inj) (fun _ => True) b 0 lc [] 0 0 S X) : CN G y M.2.1 M.2.2.1 M.2.2.2.1 M.2.2.2.2.2 b inj av S X := by
  intro h0 a ha
  obtain ⟨h1, h2⟩ := h h0 a ha
  refine ⟨h1, ?_⟩
  refine Met.ofW (cc := M.2.1) (maxL := M.2.2.1) (ret := M.2.2.2.1) hy rfl ?_
  intro p e s m args below meth c s₁ B hml hv
  obtain ⟨rfl, hEC, hB, hR⟩ := hv
  have hown : s.vm.findClass y.cls = some m.cls := findClass_of_methodNamed B.named
  rw [lg_entry_eq]
  have hl := lv_entry (av.map (cv G)) (n := M.2.2.1) (by rw [lcA_len]; exact hle)
  generalize (lg_sl (av.map (cv G)) ++ List.replicate (M.2.2.1 - (lg_sl (av.map (cv G))).length) Slot.unset).toArray = ls at hl ⊢
  have hLR : LR G ls M.2.2.1 lc := by
    refine ⟨hl.1, by rw [← hlc]; simp; omega, hl.2.1, fun i v hi => ?_⟩
    rw [← hlc] at hi
    by_cases hlt : i < (lcA av).length
    · rw [List.getElem?_append_left hlt] at hi
      have := hl.2.2 _ (lcA_mem G av 0 i v hi)
      simpa using this
    · rw [List.getElem?_append_right (by omega), List.getElem?_replicate] at hi
      split at hi <;> simp at hi
  have hmn : M.1 = y.cls := by rw [hM]
  have hmi : M.2.2.2.2.1 = ini := by rw [hM]
  exact h2 p e s m _ below meth c s.heap [] ls ⟨B.exec, B.bytes, hml, B.returns, B.notSynchronized, fun hh => by rw [(name_of_methodNamed B.named B.method).1]; exact hini (hmi ▸ hh), hmn ▸ hown, hEC, trivial, hB⟩ hR va_S.rf hLR
variable {QQ : QT α} {E : State → Prop} {pc : Nat} {lc : List (Option Value)} {st : List Value} {k z : Nat} {X : Option α}
theorem x_ret {ty : FieldType} {v : Int32} (hd : decode M.2.1 pc = .ok (.ireturn, 1)) (hr : M.2.2.2.1 = some ty) (hn : narrow ty (.int v) = .int v) (hk : k ≤ M.2.2.2.2.2.cells) (hz : z ≤ M.2.2.2.2.2.slots) : V G M (QM G M iI) E b pc lc [.int v] k z S (some (v, S)) := by
  intro h0 r hr0
  cases hr0
  refine ⟨h0, fun p e s m args below meth c H locs ls C hR hS hL => W.widen hk hz ?_⟩
  exact W.zret C.1 C.2.1 (C.2.2.2.1.trans hr) hn (fun t ht hW => ⟨rfl, by rw [ht]; exact hR, hS.F ht⟩) hS.2.2 hd C.2.2.2.2.1
theorem x_lret {v : Int64} (hd : decode M.2.1 pc = .ok (.lreturn, 1)) (hr : M.2.2.2.1 = some .long) (hk : k ≤ M.2.2.2.2.2.cells) (hz : z ≤ M.2.2.2.2.2.slots) : V G M (QM G M iL) E b pc lc [.long v] k z S (some (v, S)) := by
  intro h0 r hr0
  cases hr0
  refine ⟨h0, fun p e s m args below meth c H locs ls C hR hS hL => W.widen hk hz ?_⟩
  exact W.lret C.1 C.2.1 (C.2.2.2.1.trans hr) (fun t ht hW => ⟨rfl, by rw [ht]; exact hR, hS.F ht⟩) hS.2.2 hd C.2.2.2.2.1
theorem x_aret {v : Nat} {C0 : String} (hd : decode M.2.1 pc = .ok (.areturn, 1)) (hr : M.2.2.2.1 = some (.object C0)) (hk : k ≤ M.2.2.2.2.2.cells) (hz : z ≤ M.2.2.2.2.2.slots) : V G M (QM G M iR) E b pc lc [.ref v] k z S (some (v, S)) := by
  intro h0 r hr0
  cases hr0
  refine ⟨h0, fun p e s m args below meth c H locs ls C hR hS hL => W.widen hk hz ?_⟩
  exact W.aret C.1 C.2.1 (C.2.2.2.1.trans hr) (Or.inl ⟨_, rfl⟩) (Or.inr ⟨_, rfl⟩) (fun t ht hW => ⟨rfl, by rw [ht]; exact hR, hS.F ht⟩) hS.2.2 hd C.2.2.2.2.1
theorem x_vret (hd : decode M.2.1 pc = .ok (.return_, 1)) (hr : M.2.2.2.1 = none) (hk : k ≤ M.2.2.2.2.2.cells) (hz : z ≤ M.2.2.2.2.2.slots) : V G M (QM G M iV) E b pc lc [] k z S (some S) := by
  intro h0 r hr0
  cases hr0
  refine ⟨h0, fun p e s m args below meth c H locs ls C hR hS hL => W.widen hk hz ?_⟩
  exact W.vret C.1 C.2.1 (C.2.2.2.1.trans hr) (fun t ht hW => ⟨rfl, by rw [ht]; exact hR, hS.F ht⟩) hS.2.2 hd C.2.2.2.2.1
/-- behind a call -/
theorem w_after {p : Program} {e : Env} {R : Room} {s : State} {m : MethodId} {args : Array Value} {below : List Frame} {meth : Method} {c : Code} {H : Heap} {locs : List Loc} {ls : Array Slot} {Q : State → Prop} {rest st0 : List Value} {cells slots mc ms : Nat} {r : RS} {a : Array Value}
    (hr : va_Run p G.1 e R s m args below meth c H locs cells slots mc ms (F0 m pc ls st0) rest (Qx G r a) (gA G)) (hS : va_S (gA G) s.heap H locs)
    (kk : ∀ (H1 : Heap) (locs1 : List Loc), RelH G r.2 H1 → va_S (gA G) s.heap H1 locs1 → W p G.1 e R s m args below meth c H1 locs1 (cells + mc) (slots + ms) Q (F0 m (pc + 3) ls ((r.1.map (cv G)).toList ++ rest))) : W p G.1 e R s m args below meth c H locs cells slots Q (F0 m pc ls st0) := by
  intro T hT X
  obtain ⟨v, st₀, t, T', L, h0, X', hL, e1, e2, ⟨hv, hR1, hz, hk⟩, st⟩ := hr T hT X
  cases hv
  rw [h0] at hz hk
  obtain ⟨t2, a1, b1⟩ := kk T'.heap (locs ++ L) (by rw [e1]; exact hR1)
    ⟨Nat.le_trans hS.1 (by rw [e1]; exact hz), fun q h1 h2 => by rw [e1, hk q (Nat.lt_of_lt_of_le h1 hS.1) h2]; exact hS.2.1 q h1 h2, fun q hq => by
      rcases List.mem_append.mp hq with h | h
      · exact hS.2.2 q h
      · exact hL q h⟩ T' rfl X'
  exact ⟨t2, st t2 a1, b1⟩
theorem fb_cn {av : List Value} : FrameBlind (va_Pc (av.map (cv G)) (fun U => EC G U U.heap ∧ gB G ≤ U.heap.size ∧ RelH G S U.heap)) := fun a U g mk h => ⟨h.1, EC.same (u := U) (U := U.calling g mk a) rfl h.2.1, h.2.2⟩
theorem pre_cn {av : List Value} {s : State} {H : Heap} {locs : List Loc} (hEC : EC G s s.heap) (hR : RelH G S H) (hS : va_S (gA G) s.heap H locs) {U : State} (hU : U.heap = H) (hW : s.WarmedH U.vm) : va_Pc (av.map (cv G)) (fun U => EC G U U.heap ∧ gB G ≤ U.heap.size ∧ RelH G S U.heap) (av.map (cv G)).toArray U := by
  refine ⟨rfl, ?_, ?_, ?_⟩
  · rw [hU]
    exact (hEC.kept (fun a h1 h2 => hS.2.1 a h1 h2)).warm hW
  · rw [hU, hR.1]; exact Nat.le_add_right _ _
  · rw [hU]; exact hR
def MHs (y : MethodName) (n : Nat) : Prop := y.cls ≠ "java/lang/invoke/MethodHandle" ∧ y.cls ≠ "java/lang/invoke/VarHandle" ∧ (parseMethodDescriptor y.desc).map (fun d => d.parameters.length) = some n
/-- the words of a call of an object's method -/
def MV (own : String) (idx : Nat) (y : MethodName) (cc : ByteArray) (nL : Nat) (ret : Option FieldType) (n : Nat) : Prop := Cond.methodLink own idx y ∈ lw_tbl ∧ Cond.instanceMethod y ∈ lw_tbl ∧ Cond.selects y.cls y y ∈ lw_tbl ∧ Cond.initialized y.cls ∈ lw_tbl ∧ Cond.code y cc nL ret ∈ lw_tbl ∧ MHs y n
def MS (own : String) (idx : Nat) (y : MethodName) (cc : ByteArray) (nL : Nat) (ret : Option FieldType) (n : Nat) : Prop := Cond.methodLink own idx y ∈ lw_tbl ∧ Cond.static y ∈ lw_tbl ∧ Cond.initialized y.cls ∈ lw_tbl ∧ Cond.code y cc nL ret ∈ lw_tbl ∧ MHs y n
def MI (own : String) (idx : Nat) (y : MethodName) (cc : ByteArray) (nL : Nat) (n : Nat) : Prop := (Cond.methodLink own idx y ∈ lw_tbl ∨ ∃ host, Cond.methodLinkNest own idx y host ∈ lw_tbl) ∧ y.name = "<init>" ∧ Cond.instanceMethod y ∈ lw_tbl ∧ Cond.initialized y.cls ∈ lw_tbl ∧ Cond.code y cc nL none ∈ lw_tbl ∧ MHs y n
theorem cb_of {own : String} {idx : Nat} {y : MethodName} {cc : ByteArray} {nL : Nat} {ret : Option FieldType} {n : Nat} {rm R : Room} {s : State} {args : Array Value} (hC : CX s) (hl : Cond.methodLink own idx y ∈ lw_tbl) (hi : Cond.initialized y.cls ∈ lw_tbl) (hc : Cond.code y cc nL ret ∈ lw_tbl) (hy : MHs y n) (hRm : rm.frames + 1 ≤ R.frames ∧ 8 + (nL + 11) + rm.locals ≤ R.locals) : CallB R s args own idx y cc nL ret [.code y cc nL ret] rm rm.cells rm.slots n := by
  refine ⟨rfl, rfl, hRm.1, hRm.2, fun w hw a' U hW => ?_, List.mem_cons_self, hC.use hc rfl, hC.use hi rfl, ⟨hy.1, hy.2.1⟩, fun sig h => ?_, hC.use hl rfl⟩
  · rw [List.mem_singleton.mp hw]
    exact (hC.warm hW).use hc rfl
  · have h2 := hy.2.2
    rw [h] at h2
    exact (Option.some.inj h2).symm
variable {β : Type} {inj : β → RS} {Y : Option β} {K : β → Option α}
theorem x_callV {y : MethodName} {cc : ByteArray} {nL : Nat} {ret : Option FieldType} {rm : Room} {idx n q ci : Nat} {As : List Value} {b' : Option (Option Nat)} (hd : decode M.2.1 pc = .ok (.invokevirtual idx, 3)) (hmv : MV M.1 idx y cc nL ret n) (hn : As.length = n) (hK : Sp b S → aK q = .inr ci) (hci : (classes[ci]?).map (fun x => x.1) = some y.cls) (hq : Sp b S → q < S.1) (hRm : rm.frames + 1 ≤ M.2.2.2.2.2.frames ∧ 8 + (nL + 11) + rm.locals ≤ M.2.2.2.2.2.locals) (hst : (st.map fun v => v.category).sum ≤ 8) (hcs : k + rm.cells ≤ M.2.2.2.2.2.cells ∧ z + rm.slots ≤ M.2.2.2.2.2.slots)
    (hbk : ∀ T, Sp b' T → Sp b T) (hcn : Sp b S → Sp b' S ∧ CN G y cc nL ret rm b' inj (.ref q :: As) S Y) (h : ∀ a, Y = some a → V G M QQ E b (pc + 3) lc ((inj a).1.toList ++ st) (k + rm.cells) (z + rm.slots) (inj a).2 (K a)) : V G M QQ E b pc lc (As.reverse ++ .ref q :: st) k z S (Y.bind K) := by
  intro h0 r hr
  obtain ⟨a, ha, hr⟩ := Option.bind_eq_some_iff.mp hr
  obtain ⟨c1, c2⟩ := (hcn h0).2 (hcn h0).1 a ha
  obtain ⟨d1, d2⟩ := h a ha (hbk _ c1) r hr
  refine ⟨d1, fun p e s m args below meth c H locs ls C hR hS hL => ?_⟩
  have hEC := C.2.2.2.2.2.2.2.1
  obtain ⟨m1, m2, m3, m4, m5, m6⟩ := hmv
  cases hcl : classes[ci]? with
  | none => rw [hcl] at hci; cases hci
  | some x =>
    rw [hcl] at hci
    have hx : x.1 = y.cls := Option.some.inj hci
    have hrun := va_runV (args := args) (p := p) (l := G.1) (e := e) (R := M.2.2.2.2.2) (below := below) (meth := meth) (locs := locs) (cells := k) (slots := z) (H := H) (C := y.cls) (b := gB G + q) (As := As.map (cv G)) (rest := st.map (cv G)) (g := F0 m pc ls ((As.reverse ++ .ref q :: st).map (cv G))) (nL := M.2.2.1) (Ts := []) ⟨C.1, C.2.1, C.2.2.1, C.2.2.2.2.2.2.1, fun _ h => by cases h⟩ c2 ⟨cb_of hEC.1 m1 m4 m5 m6 hRm, hEC.1.use m2 rfl, hEC.1.use m3 rfl⟩
      ⟨fb_cn, by rw [← hx]; exact va_recv hEC.2.1 (hR.one (hq h0) (fc_obj (hK h0))) hcl (q0 := 0) rfl, fun U hU hW => pre_cn (av := .ref q :: As) hEC hR hS hU hW⟩ rfl (by rw [List.length_map]; exact hn) hL.1 (by simp [cv]) (by show 2 * 0 + _ ≤ 8; rw [List.map_map, show ((fun v : Value => v.category) ∘ cv G) = fun v => v.category from funext (cv_cat G)]; omega) hd hcs
    refine w_after hrun hS (fun H1 locs1 hR1 hS1 => ?_)
    have := d2 p e s m args below meth c H1 locs1 ls C hR1 hS1 hL
    rw [List.map_append] at this
    have e9 : ((inj a).1.map (cv G)).toList = (inj a).1.toList.map (cv G) := by cases (inj a).1 <;> rfl
    rw [e9]
    exact this
theorem x_callS {y : MethodName} {cc : ByteArray} {nL : Nat} {ret : Option FieldType} {rm : Room} {idx n : Nat} {As : List Value} {b' : Option (Option Nat)} (hd : decode M.2.1 pc = .ok (.invokestatic idx, 3)) (hmv : MS M.1 idx y cc nL ret n) (hn : As.length = n) (hRm : rm.frames + 1 ≤ M.2.2.2.2.2.frames ∧ 8 + (nL + 11) + rm.locals ≤ M.2.2.2.2.2.locals) (hst : (st.map fun v => v.category).sum ≤ 8) (hcs : k + rm.cells ≤ M.2.2.2.2.2.cells ∧ z + rm.slots ≤ M.2.2.2.2.2.slots)
    (hbk : ∀ T, Sp b' T → Sp b T) (hcn : Sp b S → Sp b' S ∧ CN G y cc nL ret rm b' inj As S Y) (h : ∀ a, Y = some a → V G M QQ E b (pc + 3) lc ((inj a).1.toList ++ st) (k + rm.cells) (z + rm.slots) (inj a).2 (K a)) : V G M QQ E b pc lc (As.reverse ++ st) k z S (Y.bind K) := by
  intro h0 r hr
  obtain ⟨a, ha, hr⟩ := Option.bind_eq_some_iff.mp hr
  obtain ⟨c1, c2⟩ := (hcn h0).2 (hcn h0).1 a ha
  obtain ⟨d1, d2⟩ := h a ha (hbk _ c1) r hr
  refine ⟨d1, fun p e s m args below meth c H locs ls C hR hS hL => ?_⟩
  have hEC := C.2.2.2.2.2.2.2.1
  obtain ⟨m1, m2, m4, m5, m6⟩ := hmv
  have hrun := va_runS (args := args) (p := p) (l := G.1) (e := e) (R := M.2.2.2.2.2) (below := below) (meth := meth) (locs := locs) (cells := k) (slots := z) (H := H) (As := As.map (cv G)) (rest := st.map (cv G)) (g := F0 m pc ls ((As.reverse ++ st).map (cv G))) (nL := M.2.2.1) (Ts := []) ⟨C.1, C.2.1, C.2.2.1, C.2.2.2.2.2.2.1, fun _ h => by cases h⟩ c2 ⟨cb_of hEC.1 m1 m4 m5 m6 hRm, hEC.1.use m2 rfl⟩
      ⟨fb_cn, fun U hU hW => pre_cn (av := As) hEC hR hS hU hW⟩ rfl (by rw [List.length_map]; exact hn) hL.1 (by simp) (by show 2 * 0 + _ ≤ 8; rw [List.map_map, show ((fun v : Value => v.category) ∘ cv G) = fun v => v.category from funext (cv_cat G)]; omega) hd hcs
  refine w_after hrun hS (fun H1 locs1 hR1 hS1 => ?_)
  have := d2 p e s m args below meth c H1 locs1 ls C hR1 hS1 hL
  rw [List.map_append] at this
  have e9 : ((inj a).1.map (cv G)).toList = (inj a).1.toList.map (cv G) := by cases (inj a).1 <;> rfl
  rw [e9]
  exact this
end CALLS
end
section
section NEW
variable {α : Type} {G : GX} {M : MD} {b : Option (Option Nat)} {S : AS} {QQ : QT α} {E : State → Prop} {pc : Nat} {lc : List (Option Value)} {st : List Value} {k z : Nat} {X : Option α} {r : α}
theorem fcell_nw {G : GX} {S : AS} {j : Nat} (h : j ≠ S.1) : fcell G (nw S) j = fcell G S j := fcell_congr (fun i => by simp [gi_nw, h]) (fun i => by simp [gl_nw, h]) (fun i => by simp [gr_nw, h])
theorem RelH.grow {G : GX} {S : AS} {H H1 : Heap} (h : RelH G S H) (hz : H1.size = H.size + 1) (ho : ∀ q, q < H.size → H1[q]? = H[q]?) (hc : va_at (gD G) classes (gB G + S.1, fcell G (nw S) S.1) H1) : RelH G (nw S) H1 := by
  refine ⟨by rw [hz, h.1]; rfl, fun j hj => ?_⟩
  by_cases e : j = S.1
  · rw [e]; exact hc
  · have hj2 : j < S.1 := by have : j < S.1 + 1 := hj; omega
    rw [fcell_nw e]
    exact (h.2 j hj2).kept (ho _ (h.lt hj2))
theorem va_S_grow {G : GX} {H0 H H1 : Heap} {locs : List Loc} (hS : va_S (gA G) H0 H locs) (hz : H1.size = H.size + 1) (ho : ∀ q, q < H.size → H1[q]? = H[q]?) : va_S (gA G) H0 H1 locs := ⟨Nat.le_trans hS.1 (by omega), fun x h1 h2 => (ho x (Nat.lt_of_lt_of_le h1 hS.1)).trans (hS.2.1 x h1 h2), hS.2.2⟩
theorem fvs_nw {G : GX} {S : AS} {ci j : Nat} (hj : j < (ft ci).length) : vp_V (fvs G (nw S) S.1 ci) j = if (ft ci).getD j 0 = 0 then .int 0 else .null := by
  unfold vp_V
  rw [List.getD_eq_getElem?_getD, fvs_get (List.getElem?_eq_getElem hj)]
  rw [List.getD_eq_getElem?_getD, List.getElem?_eq_getElem hj]
  simp only [Option.getD_some]
  generalize (ft ci)[j] = t
  unfold fv
  split
  · simp [gi_nw]
  · rename_i h
    rw [if_neg (fun e => h e)]
    simp [gr_nw, rfB, va_rf]
/-- the words of 'new' -/
def NWC (own : String) (idx ci N : Nat) : Prop := ∃ (C : String) (T : u_T) (ty0 : Nat → FieldType), CLS ci C T N ty0 ∧ Cond.classLink own idx C ∈ lw_tbl ∧ Cond.instantiable C N ∈ lw_tbl ∧ Cond.initialized C ∈ lw_tbl ∧ ∀ j, j < N → defaultValue (ty0 j) = if (ft ci).getD j 0 = 0 then .int 0 else .null
theorem vw_new {idx ci N : Nat} (hd : decode M.2.1 pc = .ok (.new idx, 3)) (hc : NWC M.1 idx ci N) (hK : aK S.1 = .inr ci) (hk : k + 1 ≤ M.2.2.2.2.2.cells) (hz : z + N ≤ M.2.2.2.2.2.slots) (h : VW G M QQ E (pc + 3) lc (.ref S.1 :: st) (k + 1) (z + N) (nw S) r) : VW G M QQ E pc lc st k z S r := by
  intro p e s m args below meth c H locs ls C hR hS hL
  have hEC := C.2.2.2.2.2.2.2.1
  obtain ⟨Cn, T, ty0, ⟨h1, h2, h3, h4, h5, h6⟩, w1, w2, w3, hdf⟩ := hc
  have hKn := hEC.2.1.1 ci _ h1
  refine W.newcK (g := F0 m pc ls (st.map (cv G))) C.1 C.2.1 C.2.2.2.2.2.2.1 (hEC.1.use w1 rfl) (hEC.1.use w2 rfl) (hEC.1.use w3 rfl) rfl hd hk hz hKn.2.1 hR.1 fun H1 kC hkC e1 z1 o1 => ?_
  have o1' : ∀ q, q < H.size → H1[q]? = H[q]? := fun q hq => o1 q (by rw [← hR.1]; exact hq)
  refine h p e s m args below meth c H1 locs ls C (hR.grow (by rw [z1, hR.1]) o1' ?_) (va_S_grow hS (by rw [z1, hR.1]) o1') hL
  rw [fc_obj hK]
  exact ⟨_, h1, (u_born ty0 (hEC.1.lays h2 (A := args)) (fun _ h => h) hKn hkC e1 h4).to (fun j hj => by rw [fvs_nw (by rw [h6]; exact hj)]; exact hdf j hj)⟩
theorem x_new {idx ci N : Nat} (hd : decode M.2.1 pc = .ok (.new idx, 3)) (hc : NWC M.1 idx ci N) (hK : aK S.1 = .inr ci) (hk : k + 1 ≤ M.2.2.2.2.2.cells) (hz : z + N ≤ M.2.2.2.2.2.slots) (h : V G M QQ E none (pc + 3) lc (.ref S.1 :: st) (k + 1) (z + N) (nw S) X) : V G M QQ E none pc lc st k z S X := V.lift (fun _ => trivial) (fun r => vw_new hd hc hK hk hz) h
def aty : ArrayType → Nat
  | .int => 0
  | .long => 1
  | .boolean => 2
  | _ => 9
theorem vw_newa {at0 : ArrayType} {N : Nat} {v : Int32} (hd : decode M.2.1 pc = .ok (.newarray at0, 2)) (hw : Cond.arrayClass (newarray.typeOf at0) ∈ lw_tbl) (hat : aty at0 < 3) (hK : aK S.1 = .inl (aty at0, N)) (hv : ¬ v < 0) (hN : v.toNatClampNeg = N) (hb : N ≤ 60000000) (hk : k + 1 ≤ M.2.2.2.2.2.cells) (hz : z + N ≤ M.2.2.2.2.2.slots) (h : VW G M QQ E (pc + 2) lc (.ref S.1 :: st) (k + 1) (z + N) (nw S) r) : VW G M QQ E pc lc (.int v :: st) k z S r := by
  intro p e s m args below meth c H locs ls C hR hS hL
  have hEC := C.2.2.2.2.2.2.2.1
  have hKK := hEC.2.1
  refine va_newaK (g := F0 m pc ls (.int v :: st.map (cv G))) C.1 C.2.1 (hEC.1.use hw rfl) rfl hd rfl hv hN (by cases at0 <;> simp [componentBytes, newarray.typeOf] <;> omega) hk hz hR.1 fun H1 cA e1 z1 o1 hAr hNm => ?_
  have o1' : ∀ q, q < H.size → H1[q]? = H[q]? := fun q hq => o1 q (by rw [← hR.1]; exact hq)
  refine h p e s m args below meth c H1 locs ls C (hR.grow (by rw [z1, hR.1]) o1' ?_) (va_S_grow hS (by rw [z1, hR.1]) o1') hL
  cases at0 with
  | int =>
    have ec : cA = gI G := Option.some.inj (hNm.symm.trans (hKK.2 0 _ rfl).2)
    subst ec
    rw [fc_int hK]
    show H1[_]? = some (vp_cell _ _)
    rw [e1, vp_cell_i]
    have : gi (nw S) S.1 = fun _ => 0 := by funext i; simp [gi_nw]
    rw [this]; rfl
  | long =>
    have ec : cA = gJ G := Option.some.inj (hNm.symm.trans (hKK.2 1 _ rfl).2)
    subst ec
    rw [fc_long hK]
    show H1[_]? = some (vp_cell _ _)
    rw [e1, vp_cell_l]
    have : gl (nw S) S.1 = fun _ => 0 := by funext i; simp [gl_nw]
    rw [this]; rfl
  | boolean =>
    have ec : cA = gZ G := Option.some.inj (hNm.symm.trans (hKK.2 2 _ rfl).2)
    subst ec
    rw [fc_bool hK]
    show H1[_]? = some (vp_cell _ _)
    rw [e1, vp_cell_i]
    have : gi (nw S) S.1 = fun _ => 0 := by funext i; simp [gi_nw]
    rw [this]; rfl
  | _ => simp [aty] at hat
theorem x_newa {at0 : ArrayType} {N : Nat} {v : Int32} (hd : decode M.2.1 pc = .ok (.newarray at0, 2)) (hw : Cond.arrayClass (newarray.typeOf at0) ∈ lw_tbl) (hat : aty at0 < 3) (hK : aK S.1 = .inl (aty at0, N)) (hv : ¬ v < 0) (hN : v.toNatClampNeg = N) (hb : N ≤ 60000000) (hk : k + 1 ≤ M.2.2.2.2.2.cells) (hz : z + N ≤ M.2.2.2.2.2.slots) (h : V G M QQ E none (pc + 2) lc (.ref S.1 :: st) (k + 1) (z + N) (nw S) X) : V G M QQ E none pc lc (.int v :: st) k z S X := V.lift (fun _ => trivial) (fun r => vw_newa hd hw hat hK hv hN hb hk hz) h
theorem x_newq {idx N : Nat} {v : Int32} (hd : decode M.2.1 pc = .ok (.anewarray idx, 3)) (hw : Cond.classLink M.1 idx "PaperChancery$RuleBook" ∈ lw_tbl) (hw2 : Cond.arrayOver (.object "PaperChancery$RuleBook") ∈ lw_tbl) (hK : aK S.1 = .inl (3, N)) (hv : ¬ v < 0) (hN : v.toNatClampNeg = N) (hb : N ≤ 60000000) (hk : k + 1 ≤ M.2.2.2.2.2.cells) (hz : z + N ≤ M.2.2.2.2.2.slots) (h : V G M QQ E none (pc + 3) lc (.ref S.1 :: st) (k + 1) (z + N) (nw S) X) : V G M QQ E none pc lc (.int v :: st) k z S X := by
  refine V.lift (fun _ => trivial) (fun r hV p e s m args below meth c H locs ls C hR hS hL => ?_) h
  have hEC := C.2.2.2.2.2.2.2.1
  have hKK := hEC.2.1
  subst hN
  refine W.anew (g := F0 m pc ls (.int v :: st.map (cv G))) C.1 C.2.1 C.2.2.2.2.2.2.1 (hEC.1.use hw rfl) (hEC.1.use hw2 rfl) rfl hd rfl hv (by omega) hk hz fun cA kA comp f1 f2 f3 f4 => ?_
  generalize hH1 : H.push ({ cls := cA, slots := Array.replicate v.toNatClampNeg .null, vm := .none } : Cell) = H1
  have z1 : H1.size = H.size + 1 := by rw [← hH1, Array.size_push]
  have e1 : H1[H.size]? = some (arrV cA v.toNatClampNeg (fun _ => .null)) := by rw [← hH1, Array.getElem?_push_size, ← arrV_new]
  have o1 : ∀ q : Nat, q < H.size → H1[q]? = H[q]? := fun q hq => by rw [← hH1, Array.getElem?_push, if_neg (Nat.ne_of_lt hq)]
  have hh := hV p e s m args below meth c H1 locs ls C (hR.grow z1 o1 ?_) (va_S_grow hS z1 o1) hL
  · have e5 : gB G + S.1 = H.size := hR.1.symm
    simp only [List.map_cons, cv, e5] at hh
    exact hh
  · obtain ⟨kB, cB, b1, b2, b3, b4⟩ := (hKK.2 3 _ rfl).2
    have ec : cA = gO G := Option.some.inj (f1.symm.trans b4)
    subst ec
    rw [fc_ref hK]
    show H1[_]? = some (vp_cell _ _)
    rw [show gB G + S.1 = H.size from hR.1.symm, e1, vp_cell_q]
    have : (fun j => va_rf (rfB G (gr (nw S) S.1 j))) = fun _ => Value.null := by funext i; simp [gr_nw, rfB, va_rf]
    rw [this]
/-- Object's constructor -/
theorem x_obj {idx q : Nat} (hd : decode M.2.1 pc = .ok (.invokespecial idx, 3)) (hw : Cond.methodLink M.1 idx objectInit ∈ lw_tbl) (hw2 : Cond.instanceMethod objectInit ∈ lw_tbl) (hw3 : Cond.code objectInit ⟨#[0xb1]⟩ 1 none ∈ lw_tbl) (hst : (st.map fun v => v.category).sum ≤ 8) (hf : 1 ≤ M.2.2.2.2.2.frames) (hl : 20 ≤ M.2.2.2.2.2.locals) (h : V G M QQ E b (pc + 3) lc st k z S X) : V G M QQ E b pc lc (.ref q :: st) k z S X :=
  h.lift id fun r hV p e s m args below meth c H locs ls C hR hS hL => by
    have hEC := C.2.2.2.2.2.2.2.1
    exact W.objInit (g := F0 m pc ls (.ref (gB G + q) :: st.map (cv G))) C.1 C.2.1 C.2.2.2.2.2.2.1 (hEC.1.use hw rfl) (hEC.1.use hw2 rfl) (hEC.1.use hw3 rfl) rfl (by rw [C.2.2.1]; exact hL.1) rfl hd hf (by show 2 * 0 + _ + 12 ≤ _; rw [List.map_map, show ((fun v : Value => v.category) ∘ cv G) = fun v => v.category from funext (cv_cat G)]; omega) (hV p e s m args below meth c H locs ls C hR hS hL)
variable {β : Type} {inj : β → RS} {Y : Option β} {K : β → Option α}
theorem vw_callI {y : MethodName} {cc : ByteArray} {nL : Nat} {rm : Room} {idx n q : Nat} {As : List Value} {S' : AS} (hd : decode M.2.1 pc = .ok (.invokespecial idx, 3)) (hmi : MI M.1 idx y cc nL n) (hn : As.length = n) (hRm : rm.frames + 1 ≤ M.2.2.2.2.2.frames ∧ 8 + (nL + 11) + rm.locals ≤ M.2.2.2.2.2.locals) (hst : (st.map fun v => v.category).sum ≤ 8) (hcs : k + rm.cells ≤ M.2.2.2.2.2.cells ∧ z + rm.slots ≤ M.2.2.2.2.2.slots)
    (hcn : CN G y cc nL none rm none iV (.ref q :: As) S (some S')) (h : VW G M QQ E (pc + 3) lc st (k + rm.cells) (z + rm.slots) S' r) : VW G M QQ E pc lc (As.reverse ++ .ref q :: st) k z S r := by
  obtain ⟨c1, c2⟩ := hcn trivial S' rfl
  intro p e s m args below meth c H locs ls C hR hS hL
  have hEC := C.2.2.2.2.2.2.2.1
  obtain ⟨m1, m2, m3, m4, m5, m6⟩ := hmi
  have hsum : 2 * 0 + ((st.map (cv G)).map fun v => v.category).sum ≤ 8 := by rw [List.map_map, show ((fun v : Value => v.category) ∘ cv G) = fun v => v.category from funext (cv_cat G)]; omega
  rcases m1 with m1 | ⟨host, m1⟩
  · have hrun := va_runI (args := args) (p := p) (l := G.1) (e := e) (R := M.2.2.2.2.2) (below := below) (meth := meth) (locs := locs) (cells := k) (slots := z) (H := H) (b := gB G + q) (As := As.map (cv G)) (rest := st.map (cv G)) (g := F0 m pc ls ((As.reverse ++ .ref q :: st).map (cv G))) (nL := M.2.2.1) (Ts := []) ⟨C.1, C.2.1, C.2.2.1, C.2.2.2.2.2.2.1, fun _ h => by cases h⟩ c2 ⟨cb_of hEC.1 m1 m4 m5 m6 hRm, m2, hEC.1.use m3 rfl⟩
      ⟨fb_cn, fun U hU hW => pre_cn (av := .ref q :: As) hEC hR hS hU hW⟩ rfl (by rw [List.length_map]; exact hn) hL.1 (by simp [cv]) hsum hd hcs
    exact w_after hrun hS (fun H1 locs1 hR1 hS1 => h p e s m args below meth c H1 locs1 ls C hR1 hS1 hL)
  · have hrun := va_runIN (args := args) (p := p) (l := G.1) (e := e) (R := M.2.2.2.2.2) (below := below) (meth := meth) (locs := locs) (cells := k) (slots := z) (H := H) (b := gB G + q) (As := As.map (cv G)) (rest := st.map (cv G)) (g := F0 m pc ls ((As.reverse ++ .ref q :: st).map (cv G))) (nL := M.2.2.1) (Ts := []) (host := host) (n := n) ⟨C.1, C.2.1, C.2.2.1, C.2.2.2.2.2.2.1, fun _ h => by cases h⟩ c2
      ⟨⟨⟨rfl, rfl, hRm.1, hRm.2, fun w hw a' U hW => by rw [List.mem_singleton.mp hw]; exact (hEC.1.warm hW).use m5 rfl, List.mem_cons_self⟩, hEC.1.use m5 rfl, hEC.1.use m4 rfl, ⟨m6.1, m6.2.1⟩, fun sig h => by have h2 := m6.2.2; rw [h] at h2; exact (Option.some.inj h2).symm, hEC.1.use m1 rfl⟩, m2, hEC.1.use m3 rfl⟩
      ⟨fb_cn, fun U hU hW => pre_cn (av := .ref q :: As) hEC hR hS hU hW⟩ rfl (by rw [List.length_map]; exact hn) hL.1 (by simp [cv]) hsum hd hcs
    exact w_after hrun hS (fun H1 locs1 hR1 hS1 => h p e s m args below meth c H1 locs1 ls C hR1 hS1 hL)
theorem x_callI {y : MethodName} {cc : ByteArray} {nL : Nat} {rm : Room} {idx n q : Nat} {As : List Value} {Y : Option AS} {K : AS → Option α} (hd : decode M.2.1 pc = .ok (.invokespecial idx, 3)) (hmi : MI M.1 idx y cc nL n) (hn : As.length = n) (hRm : rm.frames + 1 ≤ M.2.2.2.2.2.frames ∧ 8 + (nL + 11) + rm.locals ≤ M.2.2.2.2.2.locals) (hst : (st.map fun v => v.category).sum ≤ 8) (hcs : k + rm.cells ≤ M.2.2.2.2.2.cells ∧ z + rm.slots ≤ M.2.2.2.2.2.slots)
    (hcn : CN G y cc nL none rm none iV (.ref q :: As) S Y) (h : ∀ S', Y = some S' → V G M QQ E none (pc + 3) lc st (k + rm.cells) (z + rm.slots) S' (K S')) : V G M QQ E none pc lc (As.reverse ++ .ref q :: st) k z S (bV Y K) := by
  intro h0 r hr
  cases hY : Y with
  | none => rw [hY] at hr; cases hr
  | some S' =>
    rw [hY] at hr hcn
    obtain ⟨d1, d2⟩ := h S' hY trivial r hr
    exact ⟨d1, vw_callI hd hmi hn hRm hst hcs hcn d2⟩
end NEW
end
section
/-- a RuleBook's cell -/
def isq (q : Nat) : Prop := q = 4 ∨ q = 41 ∨ ∃ j, q = 99 + 8 * j
theorem ak_add (j i : Nat) (h : i < 8) : aK (99 + 8 * j + i) = bkK i := by
  unfold aK
  rw [if_neg (by omega), show (99 + 8 * j + i - 99) % 8 = i by omega]
theorem ak_q (q i : Nat) (h : isq q) (hi : i < 8) : aK (q + i) = bkK i := by
  rcases h with rfl | rfl | ⟨j, rfl⟩
  · match i, hi with
    | 0, _ => rfl
    | 1, _ => rfl
    | 2, _ => rfl
    | 3, _ => rfl
    | 4, _ => rfl
    | 5, _ => rfl
    | 6, _ => rfl
    | 7, _ => rfl
  · match i, hi with
    | 0, _ => rfl
    | 1, _ => rfl
    | 2, _ => rfl
    | 3, _ => rfl
    | 4, _ => rfl
    | 5, _ => rfl
    | 6, _ => rfl
    | 7, _ => rfl
  · exact ak_add j i hi
theorem bq_lt {S : AS} {q i : Nat} (hi : i < 8) : Sp (some (some q)) S → q + i < S.1 := fun h => by have := h.2.2.1; omega
theorem bq_0 {S : AS} {q : Nat} : Sp (some (some q)) S → gr S q 0 = some (q + 1) := fun h => h.2.2.2.1
theorem bq_1 {S : AS} {q : Nat} : Sp (some (some q)) S → gr S q 1 = some (q + 2) := fun h => h.2.2.2.2.1
theorem bq_2 {S : AS} {q : Nat} : Sp (some (some q)) S → gr S q 2 = some (q + 3) := fun h => h.2.2.2.2.2.1
theorem bq_3 {S : AS} {q : Nat} : Sp (some (some q)) S → gr S q 3 = some (q + 4) := fun h => h.2.2.2.2.2.2.1
theorem bq_5 {S : AS} {q : Nat} : Sp (some (some q)) S → gr S q 5 = some (q + 5) := fun h => h.2.2.2.2.2.2.2.1
theorem bq_6 {S : AS} {q : Nat} : Sp (some (some q)) S → gr S q 6 = some (q + 6) := fun h => h.2.2.2.2.2.2.2.2.1
theorem bq_7 {S : AS} {q : Nat} : Sp (some (some q)) S → gr S q 7 = some (q + 7) := fun h => h.2.2.2.2.2.2.2.2.2
/-- q is a whole RuleBook of S -/
def isBk (S : AS) (q : Nat) : Prop := q = 4 ∨ q = 41 ∨ (∃ j, q = 99 + 8 * j ∧ q < S.1)
theorem isBk.q {S : AS} {q : Nat} (h : isBk S q) : isq q := by
  rcases h with h | h | ⟨j, h, -⟩
  · exact Or.inl h
  · exact Or.inr (Or.inl h)
  · exact Or.inr (Or.inr ⟨j, h⟩)
theorem sp_bk {S : AS} {q : Nat} (h : isBk S q) (hs : Sp (some none) S) : Sp (some (some q)) S := ⟨hs, hs.2.2.1 q h⟩
theorem bk_rules {S : AS} {q : Nat} (hg : gr S 49 15 = some q) (hs : Sp (some none) S) : isBk S q := hs.2.2.2.1 q hg
theorem bk_books {S : AS} {i q : Nat} (hg : gr S 40 i = some q) (hs : Sp (some none) S) : isBk S q := hs.2.2.2.2 i q hg
theorem bk_draft (S : AS) : isBk S 4 := Or.inl rfl
theorem sp_rules {S : AS} {q : Nat} (h : isBk S q) (hs : Sp (some none) S) : Sp (some none) (sr S 49 15 (some q)) := by
  obtain ⟨h1, h2, h3, h4, h5⟩ := hs
  have hne : ∀ (a k : Nat), ¬ (a = 49 ∧ k = 15) → gr (sr S 49 15 (some q)) a k = gr S a k := fun a k hh => by rw [gr_sr, if_neg hh]
  refine ⟨h1, fun t ht => ?_, fun q' hq' => ?_, fun q' hq' => ?_, fun i q' hq' => ?_⟩
  · rw [hne t.1 t.2.1 (by
      intro e
      have : ∀ t ∈ shl, ¬ (t.1 = 49 ∧ t.2.1 = 15) := by decide
      exact this t ht e)]
    exact h2 t ht
  · have hb := h3 q' hq'
    have hq4 : q' ≠ 49 := by rcases hq' with h | h | ⟨j, h, -⟩ <;> omega
    unfold bkw at hb ⊢
    simp only [gr_sr, hq4, false_and, if_false]
    exact hb
  · rw [gr_sr, if_pos ⟨rfl, rfl⟩] at hq'
    cases hq'
    exact h
  · rw [hne 40 i (by omega)] at hq'
    exact h5 i q' hq'
section MISC
variable {α : Type} {G : GX} {M : MD} {b : Option (Option Nat)} {S : AS} {QQ : QT α} {E : State → Prop} {pc : Nat} {lc : List (Option Value)} {st : List Value} {k z : Nat} {X : Option α}
theorem x_topi {e : Int32} {f : Int32 → Option α} (h : ∀ v, V G M QQ E b pc lc (.int v :: st) k z S (f v)) : V G M QQ E b pc lc (.int e :: st) k z S (nm e f) := h e
theorem x_topl {e : Int64} {f : Int64 → Option α} (h : ∀ v, V G M QQ E b pc lc (.long v :: st) k z S (f v)) : V G M QQ E b pc lc (.long e :: st) k z S (nm e f) := h e
theorem x_nmS {S' : AS} {f : AS → Option α} (h : ∀ T, T = S' → V G M QQ E b pc lc st k z T (f T)) : V G M QQ E b pc lc st k z S' (nm S' f) := h S' rfl
theorem x_ite {c : Prop} [Decidable c] {Y : Option α} (h1 : c → V G M QQ E b pc lc st k z S X) (h2 : ¬ c → V G M QQ E b pc lc st k z S Y) : V G M QQ E b pc lc st k z S (if c then X else Y) := by
  by_cases hc : c
  · rw [if_pos hc]; exact h1 hc
  · rw [if_neg hc]; exact h2 hc
/-- fewer locals known -/
def wkn : List (Option Value) → List (Option Value) → Prop
  | [], [] => True
  | none :: r, _ :: r' => wkn r r'
  | some v :: r, w :: r' => w = some v ∧ wkn r r'
  | _, _ => False
theorem wkn_spec : ∀ (lc' lc : List (Option Value)), wkn lc' lc → lc'.length = lc.length ∧ ∀ (i : Nat) (v : Value), lc'[i]? = some (some v) → lc[i]? = some (some v)
  | [], [], _ => ⟨rfl, fun i v h => by simp at h⟩
  | none :: r, w :: r', h => by
    obtain ⟨h1, h2⟩ := wkn_spec r r' h
    refine ⟨by simp [h1], fun i v hi => ?_⟩
    cases i with
    | zero => simp at hi
    | succ i => exact h2 i v (by simpa using hi)
  | some u :: r, w :: r', h => by
    obtain ⟨h1, h2⟩ := wkn_spec r r' h.2
    refine ⟨by simp [h1], fun i v hi => ?_⟩
    cases i with
    | zero => simp at hi; subst hi; simpa using h.1
    | succ i => exact h2 i v (by simpa using hi)
  | [], _ :: _, h => by cases h
  | none :: _, [], h => by cases h
  | some _ :: _, [], h => by cases h
theorem V.wk {lc' : List (Option Value)} (hw : wkn lc' lc) (h : V G M QQ E b pc lc' st k z S X) : V G M QQ E b pc lc st k z S X := h.weak (wkn_spec _ _ hw).1 (wkn_spec _ _ hw).2
theorem q99 {q : Nat} {o : Option Nat} (h : q < 99) : Sp (some o) S → q < S.1 := fun hs => by
  obtain ⟨j, hj⟩ := hs.sh.1
  omega
theorem shx {c f q : Nat} {o : Option Nat} (h : (c, f, q) ∈ shl) : Sp (some o) S → gr S c f = some q := fun hs => hs.sh.2.1 _ h
theorem x_nonnull_ref {off : Int} {tgt q : Nat} (hd : decode M.2.1 pc = .ok (.ifnonnull off, 3)) (ht : (pc : Int) + off = (tgt : Int)) (h : V G M QQ E b tgt lc st k z S X) : V G M QQ E b pc lc (.ref q :: st) k z S X :=
  h.lift id fun r hV p e s m args below meth c H locs ls C hR hS hL => lv_ifnonnull C.1 C.2.1 hd ht (hV p e s m args below meth c H locs ls C hR hS hL)
theorem x_nonnull_null {off : Int} (hd : decode M.2.1 pc = .ok (.ifnonnull off, 3)) (h : V G M QQ E b (pc + 3) lc st k z S X) : V G M QQ E b pc lc (.null :: st) k z S X :=
  h.lift id fun r hV p e s m args below meth c H locs ls C hR hS hL => lv_ifnonnullN C.1 C.2.1 hd (hV p e s m args below meth c H locs ls C hR hS hL)
theorem x_tsw_in {dflt lo hi : Int} {offs : Array Int} {len tgt : Nat} {x c : Int32} {off : Int} (hd : decode M.2.1 pc = .ok (.tableswitch dflt lo hi offs, len)) (hx : x = c) (h1 : ¬ c.toInt < lo) (h2 : ¬ hi < c.toInt) (ho : offs[(c.toInt - lo).toNat]? = some off) (ht : (pc : Int) + off = (tgt : Int)) (h : V G M QQ E b tgt lc st k z S X) : V G M QQ E b pc lc (.int x :: st) k z S X := by
  subst hx
  exact h.lift id fun r hV p e s m args below meth c H locs ls C hR hS hL => lv_tableIn C.1 C.2.1 hd h1 h2 ho ht (hV p e s m args below meth c H locs ls C hR hS hL)
theorem x_tsw_out {dflt lo hi : Int} {offs : Array Int} {len tgt n : Nat} {x : Int32} (hd : decode M.2.1 pc = .ok (.tableswitch dflt lo hi offs, len)) (hn : hi < lo + n) (hall : ∀ j : Nat, j < n → ¬ x = Int32.ofInt (lo + j)) (ht : (pc : Int) + dflt = (tgt : Int)) (h : V G M QQ E b tgt lc st k z S X) : V G M QQ E b pc lc (.int x :: st) k z S X := by
  have ho : x.toInt < lo ∨ hi < x.toInt := by
    by_cases h1 : x.toInt < lo
    · exact Or.inl h1
    · by_cases h2 : hi < x.toInt
      · exact Or.inr h2
      · exfalso
        refine hall (x.toInt - lo).toNat (by omega) ?_
        rw [show lo + (((x.toInt - lo).toNat : Nat) : Int) = x.toInt by omega]
        exact (Int32.ofInt_toInt x).symm
  exact h.lift id fun r hV p e s m args below meth c H locs ls C hR hS hL => lv_tableOut C.1 C.2.1 hd ho ht (hV p e s m args below meth c H locs ls C hR hS hL)
theorem x_lsw {dflt : Int} {ps : Array (Int × Int)} {len tgt : Nat} {x : Int32} {off : Int} (hd : decode M.2.1 pc = .ok (.lookupswitch dflt ps, len)) (hp : (ps.toList.zip (ps.toList.drop 1)).all (fun (a, next) => a.1 < next.1) = true) (ho : Op.lookupswitch.offset ps.toList dflt x.toInt = off) (ht : (pc : Int) + off = (tgt : Int)) (h : V G M QQ E b tgt lc st k z S X) : V G M QQ E b pc lc (.int x :: st) k z S X :=
  h.lift id fun r hV p e s m args below meth c H locs ls C hR hS hL => lv_lookup C.1 C.2.1 hd hp ho ht (hV p e s m args below meth c H locs ls C hR hS hL)
/-- a boolean -/
def isb (v : Int32) : Prop := v = 0 ∨ v = 1
theorem x_zretc {v : Int32} (hd : decode M.2.1 pc = .ok (.ireturn, 1)) (hr : M.2.2.2.1 = some .boolean) (hk : k ≤ M.2.2.2.2.2.cells) (hz : z ≤ M.2.2.2.2.2.slots) : V G M (QM G M iI) E b pc lc [.int v] k z S (chk (isb v) (some (v, S))) := x_chk fun hv => x_ret hd hr (by rcases hv with rfl | rfl <;> rfl) hk hz
variable {b' : Option (Option Nat)} {cc : ByteArray} {nL : Nat} {ret : Option FieldType} {rm : Room} {y : MethodName} {idx n q ci : Nat} {As : List Value}
theorem x_vI {Y : Option (Int32 × AS)} {K : Int32 → AS → Option α} (hd : decode M.2.1 pc = .ok (.invokevirtual idx, 3)) (hmv : MV M.1 idx y cc nL ret n) (hn : As.length = n) (hK : Sp b S → aK q = .inr ci) (hci : (classes[ci]?).map (fun x => x.1) = some y.cls) (hq : Sp b S → q < S.1) (hRm : rm.frames + 1 ≤ M.2.2.2.2.2.frames ∧ 8 + (nL + 11) + rm.locals ≤ M.2.2.2.2.2.locals) (hst : (st.map fun v => v.category).sum ≤ 8) (hcs : k + rm.cells ≤ M.2.2.2.2.2.cells ∧ z + rm.slots ≤ M.2.2.2.2.2.slots) (hbk : ∀ T, Sp b' T → Sp b T) (hcn : Sp b S → Sp b' S ∧ CN G y cc nL ret rm b' iI (.ref q :: As) S Y)
    (h : ∀ v T, V G M QQ E b (pc + 3) lc (.int v :: st) (k + rm.cells) (z + rm.slots) T (K v T)) : V G M QQ E b pc lc (As.reverse ++ .ref q :: st) k z S (bI Y K) := by
  have e : bI Y K = Y.bind (fun r => K r.1 r.2) := by cases Y <;> rfl
  rw [e]
  exact x_callV hd hmv hn hK hci hq hRm hst hcs hbk hcn (fun a _ => h a.1 a.2)
theorem x_vL {Y : Option (Int64 × AS)} {K : Int64 → AS → Option α} (hd : decode M.2.1 pc = .ok (.invokevirtual idx, 3)) (hmv : MV M.1 idx y cc nL ret n) (hn : As.length = n) (hK : Sp b S → aK q = .inr ci) (hci : (classes[ci]?).map (fun x => x.1) = some y.cls) (hq : Sp b S → q < S.1) (hRm : rm.frames + 1 ≤ M.2.2.2.2.2.frames ∧ 8 + (nL + 11) + rm.locals ≤ M.2.2.2.2.2.locals) (hst : (st.map fun v => v.category).sum ≤ 8) (hcs : k + rm.cells ≤ M.2.2.2.2.2.cells ∧ z + rm.slots ≤ M.2.2.2.2.2.slots) (hbk : ∀ T, Sp b' T → Sp b T) (hcn : Sp b S → Sp b' S ∧ CN G y cc nL ret rm b' iL (.ref q :: As) S Y)
    (h : ∀ v T, V G M QQ E b (pc + 3) lc (.long v :: st) (k + rm.cells) (z + rm.slots) T (K v T)) : V G M QQ E b pc lc (As.reverse ++ .ref q :: st) k z S (bL Y K) := by
  have e : bL Y K = Y.bind (fun r => K r.1 r.2) := by cases Y <;> rfl
  rw [e]
  exact x_callV hd hmv hn hK hci hq hRm hst hcs hbk hcn (fun a _ => h a.1 a.2)
theorem x_vR {Y : Option (Nat × AS)} {K : Nat → AS → Option α} (hd : decode M.2.1 pc = .ok (.invokevirtual idx, 3)) (hmv : MV M.1 idx y cc nL ret n) (hn : As.length = n) (hK : Sp b S → aK q = .inr ci) (hci : (classes[ci]?).map (fun x => x.1) = some y.cls) (hq : Sp b S → q < S.1) (hRm : rm.frames + 1 ≤ M.2.2.2.2.2.frames ∧ 8 + (nL + 11) + rm.locals ≤ M.2.2.2.2.2.locals) (hst : (st.map fun v => v.category).sum ≤ 8) (hcs : k + rm.cells ≤ M.2.2.2.2.2.cells ∧ z + rm.slots ≤ M.2.2.2.2.2.slots) (hbk : ∀ T, Sp b' T → Sp b T) (hcn : Sp b S → Sp b' S ∧ CN G y cc nL ret rm b' iR (.ref q :: As) S Y)
    (h : ∀ v T, V G M QQ E b (pc + 3) lc (.ref v :: st) (k + rm.cells) (z + rm.slots) T (K v T)) : V G M QQ E b pc lc (As.reverse ++ .ref q :: st) k z S (bR Y K) := by
  have e : bR Y K = Y.bind (fun r => K r.1 r.2) := by cases Y <;> rfl
  rw [e]
  exact x_callV hd hmv hn hK hci hq hRm hst hcs hbk hcn (fun a _ => h a.1 a.2)
theorem x_vV {Y : Option AS} {K : AS → Option α} (hd : decode M.2.1 pc = .ok (.invokevirtual idx, 3)) (hmv : MV M.1 idx y cc nL ret n) (hn : As.length = n) (hK : Sp b S → aK q = .inr ci) (hci : (classes[ci]?).map (fun x => x.1) = some y.cls) (hq : Sp b S → q < S.1) (hRm : rm.frames + 1 ≤ M.2.2.2.2.2.frames ∧ 8 + (nL + 11) + rm.locals ≤ M.2.2.2.2.2.locals) (hst : (st.map fun v => v.category).sum ≤ 8) (hcs : k + rm.cells ≤ M.2.2.2.2.2.cells ∧ z + rm.slots ≤ M.2.2.2.2.2.slots) (hbk : ∀ T, Sp b' T → Sp b T) (hcn : Sp b S → Sp b' S ∧ CN G y cc nL ret rm b' iV (.ref q :: As) S Y)
    (h : ∀ T, V G M QQ E b (pc + 3) lc st (k + rm.cells) (z + rm.slots) T (K T)) : V G M QQ E b pc lc (As.reverse ++ .ref q :: st) k z S (bV Y K) := by
  have e : bV Y K = Y.bind K := by cases Y <;> rfl
  rw [e]
  exact x_callV hd hmv hn hK hci hq hRm hst hcs hbk hcn (fun a _ => h a)
theorem x_sI {Y : Option (Int32 × AS)} {K : Int32 → AS → Option α} (hd : decode M.2.1 pc = .ok (.invokestatic idx, 3)) (hmv : MS M.1 idx y cc nL ret n) (hn : As.length = n) (hRm : rm.frames + 1 ≤ M.2.2.2.2.2.frames ∧ 8 + (nL + 11) + rm.locals ≤ M.2.2.2.2.2.locals) (hst : (st.map fun v => v.category).sum ≤ 8) (hcs : k + rm.cells ≤ M.2.2.2.2.2.cells ∧ z + rm.slots ≤ M.2.2.2.2.2.slots) (hbk : ∀ T, Sp b' T → Sp b T) (hcn : Sp b S → Sp b' S ∧ CN G y cc nL ret rm b' iI As S Y)
    (h : ∀ v T, V G M QQ E b (pc + 3) lc (.int v :: st) (k + rm.cells) (z + rm.slots) T (K v T)) : V G M QQ E b pc lc (As.reverse ++ st) k z S (bI Y K) := by
  have e : bI Y K = Y.bind (fun r => K r.1 r.2) := by cases Y <;> rfl
  rw [e]
  exact x_callS hd hmv hn hRm hst hcs hbk hcn (fun a _ => h a.1 a.2)
theorem x_sV {Y : Option AS} {K : AS → Option α} (hd : decode M.2.1 pc = .ok (.invokestatic idx, 3)) (hmv : MS M.1 idx y cc nL ret n) (hn : As.length = n) (hRm : rm.frames + 1 ≤ M.2.2.2.2.2.frames ∧ 8 + (nL + 11) + rm.locals ≤ M.2.2.2.2.2.locals) (hst : (st.map fun v => v.category).sum ≤ 8) (hcs : k + rm.cells ≤ M.2.2.2.2.2.cells ∧ z + rm.slots ≤ M.2.2.2.2.2.slots) (hbk : ∀ T, Sp b' T → Sp b T) (hcn : Sp b S → Sp b' S ∧ CN G y cc nL ret rm b' iV As S Y)
    (h : ∀ T, V G M QQ E b (pc + 3) lc st (k + rm.cells) (z + rm.slots) T (K T)) : V G M QQ E b pc lc (As.reverse ++ st) k z S (bV Y K) := by
  have e : bV Y K = Y.bind K := by cases Y <;> rfl
  rw [e]
  exact x_callS hd hmv hn hRm hst hcs hbk hcn (fun a _ => h a)
end MISC
end
section
theorem ak_0 : aK 0 = .inr 0 := rfl
theorem ak_1 : aK 1 = .inr 1 := rfl
theorem ak_2 : aK 2 = .inl (0, 400) := rfl
theorem ak_3 : aK 3 = .inr 2 := rfl
theorem ak_4 : aK 4 = .inr 3 := rfl
theorem ak_5 : aK 5 = .inl (0, 16) := rfl
theorem ak_6 : aK 6 = .inl (0, 16) := rfl
theorem ak_7 : aK 7 = .inl (0, 16) := rfl
theorem ak_8 : aK 8 = .inl (0, 16) := rfl
theorem ak_9 : aK 9 = .inl (0, 64) := rfl
theorem ak_10 : aK 10 = .inl (0, 64) := rfl
theorem ak_11 : aK 11 = .inl (0, 64) := rfl
theorem ak_12 : aK 12 = .inr 4 := rfl
theorem ak_13 : aK 13 = .inl (0, 401) := rfl
theorem ak_14 : aK 14 = .inl (0, 401) := rfl
theorem ak_15 : aK 15 = .inl (0, 401) := rfl
theorem ak_16 : aK 16 = .inr 5 := rfl
theorem ak_17 : aK 17 = .inl (0, 24) := rfl
theorem ak_18 : aK 18 = .inl (0, 24) := rfl
theorem ak_19 : aK 19 = .inl (0, 24) := rfl
theorem ak_20 : aK 20 = .inl (0, 16) := rfl
theorem ak_21 : aK 21 = .inl (0, 16) := rfl
theorem ak_22 : aK 22 = .inl (0, 16) := rfl
theorem ak_23 : aK 23 = .inr 6 := rfl
theorem ak_24 : aK 24 = .inl (0, 48) := rfl
theorem ak_25 : aK 25 = .inl (0, 48) := rfl
theorem ak_26 : aK 26 = .inl (0, 48) := rfl
theorem ak_27 : aK 27 = .inl (0, 48) := rfl
theorem ak_28 : aK 28 = .inl (0, 48) := rfl
theorem ak_29 : aK 29 = .inl (0, 48) := rfl
theorem ak_30 : aK 30 = .inl (0, 48) := rfl
theorem ak_31 : aK 31 = .inl (0, 48) := rfl
theorem ak_32 : aK 32 = .inr 7 := rfl
theorem ak_33 : aK 33 = .inl (0, 161) := rfl
theorem ak_34 : aK 34 = .inl (0, 161) := rfl
theorem ak_35 : aK 35 = .inl (0, 161) := rfl
theorem ak_36 : aK 36 = .inl (0, 161) := rfl
theorem ak_37 : aK 37 = .inl (0, 160) := rfl
theorem ak_38 : aK 38 = .inr 8 := rfl
theorem ak_39 : aK 39 = .inl (0, 6) := rfl
theorem ak_40 : aK 40 = .inl (3, 6) := rfl
theorem ak_41 : aK 41 = .inr 3 := rfl
theorem ak_42 : aK 42 = .inl (0, 16) := rfl
theorem ak_43 : aK 43 = .inl (0, 16) := rfl
theorem ak_44 : aK 44 = .inl (0, 16) := rfl
theorem ak_45 : aK 45 = .inl (0, 16) := rfl
theorem ak_46 : aK 46 = .inl (0, 64) := rfl
theorem ak_47 : aK 47 = .inl (0, 64) := rfl
theorem ak_48 : aK 48 = .inl (0, 64) := rfl
theorem ak_49 : aK 49 = .inr 9 := rfl
theorem ak_50 : aK 50 = .inl (0, 16) := rfl
theorem ak_51 : aK 51 = .inl (0, 16) := rfl
theorem ak_52 : aK 52 = .inl (0, 24) := rfl
theorem ak_53 : aK 53 = .inl (1, 24) := rfl
theorem ak_54 : aK 54 = .inl (2, 24) := rfl
theorem ak_55 : aK 55 = .inl (2, 48) := rfl
theorem ak_56 : aK 56 = .inl (0, 48) := rfl
theorem ak_57 : aK 57 = .inl (0, 48) := rfl
theorem ak_58 : aK 58 = .inl (0, 9) := rfl
theorem ak_59 : aK 59 = .inl (0, 9) := rfl
theorem ak_60 : aK 60 = .inr 10 := rfl
theorem ak_61 : aK 61 = .inl (0, 2576) := rfl
theorem ak_62 : aK 62 = .inl (0, 161) := rfl
theorem ak_63 : aK 63 = .inr 11 := rfl
theorem ak_64 : aK 64 = .inl (0, 72) := rfl
theorem ak_65 : aK 65 = .inl (0, 24) := rfl
theorem ak_66 : aK 66 = .inl (0, 24) := rfl
theorem ak_67 : aK 67 = .inl (0, 24) := rfl
theorem ak_68 : aK 68 = .inl (0, 24) := rfl
theorem ak_69 : aK 69 = .inl (0, 48) := rfl
theorem ak_70 : aK 70 = .inr 12 := rfl
theorem ak_71 : aK 71 = .inl (0, 400) := rfl
theorem ak_72 : aK 72 = .inl (0, 72) := rfl
theorem ak_73 : aK 73 = .inl (0, 48) := rfl
theorem ak_74 : aK 74 = .inl (0, 161) := rfl
theorem ak_75 : aK 75 = .inl (0, 161) := rfl
theorem ak_76 : aK 76 = .inl (0, 161) := rfl
theorem ak_77 : aK 77 = .inl (0, 161) := rfl
theorem ak_78 : aK 78 = .inl (0, 336) := rfl
theorem ak_79 : aK 79 = .inl (0, 48) := rfl
theorem ak_80 : aK 80 = .inl (0, 6) := rfl
theorem ak_81 : aK 81 = .inl (0, 6) := rfl
theorem ak_82 : aK 82 = .inl (0, 6) := rfl
theorem ak_83 : aK 83 = .inl (0, 3600) := rfl
theorem ak_84 : aK 84 = .inl (0, 600) := rfl
theorem ak_85 : aK 85 = .inl (0, 16) := rfl
theorem ak_86 : aK 86 = .inl (0, 16) := rfl
theorem ak_87 : aK 87 = .inl (2, 24) := rfl
theorem ak_88 : aK 88 = .inl (2, 48) := rfl
theorem ak_89 : aK 89 = .inl (0, 48) := rfl
theorem ak_90 : aK 90 = .inl (0, 48) := rfl
theorem ak_91 : aK 91 = .inl (1, 24) := rfl
theorem ak_92 : aK 92 = .inl (2, 161) := rfl
theorem ak_93 : aK 93 = .inl (0, 48) := rfl
theorem ak_94 : aK 94 = .inl (0, 72) := rfl
theorem ak_95 : aK 95 = .inl (0, 24) := rfl
theorem ak_96 : aK 96 = .inl (0, 24) := rfl
theorem ak_97 : aK 97 = .inl (2, 24) := rfl
theorem ak_98 : aK 98 = .inl (0, 24) := rfl
theorem cls_Chan : CLS 0 R_Chan F_Chan 12 t_Chan := ⟨rfl, i_Chan, by decide +kernel, t_Chan_ok, n_Chan, rfl⟩
theorem cls_Tape : CLS 1 R_Tape F_Tape 2 t_Tape := ⟨rfl, i_Tape, by decide +kernel, t_Tape_ok, n_Tape, rfl⟩
theorem cls_RuleReader : CLS 2 R_RuleReader F_RuleReader 6 t_RuleReader := ⟨rfl, i_RuleReader, by decide +kernel, t_RuleReader_ok, n_RuleReader, rfl⟩
theorem cls_RuleBook : CLS 3 R_RuleBook F_RuleBook 9 t_RuleBook := ⟨rfl, i_RuleBook, by decide +kernel, t_RuleBook_ok, n_RuleBook, rfl⟩
theorem cls_TokenRow : CLS 4 R_TokenRow F_TokenRow 5 t_TokenRow := ⟨rfl, i_TokenRow, by decide +kernel, t_TokenRow_ok, n_TokenRow, rfl⟩
theorem cls_Roll : CLS 5 R_Roll F_Roll 9 t_Roll := ⟨rfl, i_Roll, by decide +kernel, t_Roll_ok, n_Roll, rfl⟩
theorem cls_PaperBox : CLS 6 R_PaperBox F_PaperBox 9 t_PaperBox := ⟨rfl, i_PaperBox, by decide +kernel, t_PaperBox_ok, n_PaperBox, rfl⟩
theorem cls_Gazette : CLS 7 R_Gazette F_Gazette 7 t_Gazette := ⟨rfl, i_Gazette, by decide +kernel, t_Gazette_ok, n_Gazette, rfl⟩
theorem cls_Reigns : CLS 8 R_Reigns F_Reigns 4 t_Reigns := ⟨rfl, i_Reigns, by decide +kernel, t_Reigns_ok, n_Reigns, rfl⟩
theorem cls_Course : CLS 9 R_Course F_Course 19 t_Course := ⟨rfl, i_Course, by decide +kernel, t_Course_ok, n_Course, rfl⟩
theorem cls_Ends : CLS 10 R_Ends F_Ends 3 t_Ends := ⟨rfl, i_Ends, by decide +kernel, t_Ends_ok, n_Ends, rfl⟩
theorem cls_Exchange : CLS 11 R_Exchange F_Exchange 5 t_Exchange := ⟨rfl, i_Exchange, by decide +kernel, t_Exchange_ok, n_Exchange, rfl⟩
theorem cls_Md : CLS 12 R_Md F_Md 43 t_Md := ⟨rfl, i_Md, by decide +kernel, t_Md_ok, n_Md, rfl⟩
theorem fl_Chan_10 : FLD "PaperChancery" 10 0 0 2 (.object "PaperChancery$Tape") true true := ⟨_, _, _, _, _, cls_Chan, by decide, rfl, .inl ⟨rfl, rfl⟩, List.mem_append_right _ (List.mem_append_right _ (List.mem_append_left _ (List.mem_of_getElem? (i := 156) (by decide +kernel)))), rfl, rfl⟩
theorem fl_Chan_21 : FLD "PaperChancery" 21 0 1 2 (.object "PaperChancery$RuleReader") true true := ⟨_, _, _, _, _, cls_Chan, by decide, rfl, .inl ⟨rfl, rfl⟩, List.mem_append_right _ (List.mem_append_right _ (List.mem_append_left _ (List.mem_of_getElem? (i := 157) (by decide +kernel)))), rfl, rfl⟩
theorem fl_Chan_28 : FLD "PaperChancery" 28 0 2 2 (.object "PaperChancery$Roll") true true := ⟨_, _, _, _, _, cls_Chan, by decide, rfl, .inl ⟨rfl, rfl⟩, List.mem_append_right _ (List.mem_append_right _ (List.mem_append_left _ (List.mem_of_getElem? (i := 158) (by decide +kernel)))), rfl, rfl⟩
theorem fl_Chan_35 : FLD "PaperChancery" 35 0 3 2 (.object "PaperChancery$PaperBox") true true := ⟨_, _, _, _, _, cls_Chan, by decide, rfl, .inl ⟨rfl, rfl⟩, List.mem_append_right _ (List.mem_append_right _ (List.mem_append_left _ (List.mem_of_getElem? (i := 159) (by decide +kernel)))), rfl, rfl⟩
theorem fl_Chan_42 : FLD "PaperChancery" 42 0 4 2 (.object "PaperChancery$Gazette") true true := ⟨_, _, _, _, _, cls_Chan, by decide, rfl, .inl ⟨rfl, rfl⟩, List.mem_append_right _ (List.mem_append_right _ (List.mem_append_left _ (List.mem_of_getElem? (i := 160) (by decide +kernel)))), rfl, rfl⟩
theorem fl_Chan_49 : FLD "PaperChancery" 49 0 5 2 (.object "PaperChancery$Reigns") true true := ⟨_, _, _, _, _, cls_Chan, by decide, rfl, .inl ⟨rfl, rfl⟩, List.mem_append_right _ (List.mem_append_right _ (List.mem_append_left _ (List.mem_of_getElem? (i := 161) (by decide +kernel)))), rfl, rfl⟩
theorem fl_Chan_58 : FLD "PaperChancery" 58 0 6 2 (.object "PaperChancery$Course") true true := ⟨_, _, _, _, _, cls_Chan, by decide, rfl, .inl ⟨rfl, rfl⟩, List.mem_append_right _ (List.mem_append_right _ (List.mem_append_left _ (List.mem_of_getElem? (i := 162) (by decide +kernel)))), rfl, rfl⟩
theorem fl_Chan_67 : FLD "PaperChancery" 67 0 7 2 (.object "PaperChancery$Ends") true true := ⟨_, _, _, _, _, cls_Chan, by decide, rfl, .inl ⟨rfl, rfl⟩, List.mem_append_right _ (List.mem_append_right _ (List.mem_append_left _ (List.mem_of_getElem? (i := 163) (by decide +kernel)))), rfl, rfl⟩
theorem fl_Chan_74 : FLD "PaperChancery" 74 0 8 2 (.object "PaperChancery$Exchange") true true := ⟨_, _, _, _, _, cls_Chan, by decide, rfl, .inl ⟨rfl, rfl⟩, List.mem_append_right _ (List.mem_append_right _ (List.mem_append_left _ (List.mem_of_getElem? (i := 164) (by decide +kernel)))), rfl, rfl⟩
theorem fl_Chan_78 : FLD "PaperChancery" 78 0 9 2 (.array .int) true true := ⟨_, _, _, _, _, cls_Chan, by decide, rfl, .inl ⟨rfl, rfl⟩, List.mem_append_right _ (List.mem_append_right _ (List.mem_append_left _ (List.mem_of_getElem? (i := 165) (by decide +kernel)))), rfl, rfl⟩
theorem fl_Chan_82 : FLD "PaperChancery" 82 0 11 0 .int false true := ⟨_, _, _, _, _, cls_Chan, by decide, rfl, .inl ⟨rfl, rfl⟩, List.mem_append_right _ (List.mem_append_right _ (List.mem_append_left _ (List.mem_of_getElem? (i := 167) (by decide +kernel)))), rfl, rfl⟩
theorem fl_Chan_94 : FLD "PaperChancery" 94 1 1 0 .int false false := ⟨_, _, _, _, _, cls_Tape, by decide, rfl, .inr ⟨"PaperChancery", rfl, rfl⟩, List.mem_append_right _ (List.mem_append_left _ (List.mem_of_getElem? (i := 39) (by decide +kernel))), rfl, rfl⟩
theorem fl_Chan_119 : FLD "PaperChancery" 119 7 4 0 .int false false := ⟨_, _, _, _, _, cls_Gazette, by decide, rfl, .inr ⟨"PaperChancery", rfl, rfl⟩, List.mem_append_right _ (List.mem_append_left _ (List.mem_of_getElem? (i := 238) (by decide +kernel))), rfl, rfl⟩
theorem fl_Chan_132 : FLD "PaperChancery" 132 8 3 0 .int false false := ⟨_, _, _, _, _, cls_Reigns, by decide, rfl, .inr ⟨"PaperChancery", rfl, rfl⟩, List.mem_append_right _ (List.mem_append_right _ (List.mem_append_left _ (List.mem_of_getElem? (i := 32) (by decide +kernel)))), rfl, rfl⟩
theorem fl_Chan_133 : FLD "PaperChancery" 133 2 1 2 (.object "PaperChancery$RuleBook") true false := ⟨_, _, _, _, _, cls_RuleReader, by decide, rfl, .inr ⟨"PaperChancery", rfl, rfl⟩, List.mem_append_right _ (List.mem_append_left _ (List.mem_of_getElem? (i := 115) (by decide +kernel))), rfl, rfl⟩
theorem fl_Chan_141 : FLD "PaperChancery" 141 5 8 0 .int false false := ⟨_, _, _, _, _, cls_Roll, by decide, rfl, .inr ⟨"PaperChancery", rfl, rfl⟩, List.mem_append_right _ (List.mem_append_left _ (List.mem_of_getElem? (i := 161) (by decide +kernel))), rfl, rfl⟩
theorem fl_Chan_144 : FLD "PaperChancery" 144 3 4 0 .int false false := ⟨_, _, _, _, _, cls_RuleBook, by decide, rfl, .inr ⟨"PaperChancery", rfl, rfl⟩, List.mem_append_right _ (List.mem_append_left _ (List.mem_of_getElem? (i := 63) (by decide +kernel))), rfl, rfl⟩
theorem fl_Chan_149 : FLD "PaperChancery" 149 2 4 0 .int false false := ⟨_, _, _, _, _, cls_RuleReader, by decide, rfl, .inr ⟨"PaperChancery", rfl, rfl⟩, List.mem_append_right _ (List.mem_append_left _ (List.mem_of_getElem? (i := 119) (by decide +kernel))), rfl, rfl⟩
theorem fl_Chan_152 : FLD "PaperChancery" 152 2 5 0 .int false false := ⟨_, _, _, _, _, cls_RuleReader, by decide, rfl, .inr ⟨"PaperChancery", rfl, rfl⟩, List.mem_append_right _ (List.mem_append_left _ (List.mem_of_getElem? (i := 121) (by decide +kernel))), rfl, rfl⟩
theorem fl_Chan_159 : FLD "PaperChancery" 159 6 8 0 .int false false := ⟨_, _, _, _, _, cls_PaperBox, by decide, rfl, .inr ⟨"PaperChancery", rfl, rfl⟩, List.mem_append_right _ (List.mem_append_left _ (List.mem_of_getElem? (i := 203) (by decide +kernel))), rfl, rfl⟩
theorem fl_Chan_169 : FLD "PaperChancery" 169 6 7 2 (.array .int) true false := ⟨_, _, _, _, _, cls_PaperBox, by decide, rfl, .inr ⟨"PaperChancery", rfl, rfl⟩, List.mem_append_right _ (List.mem_append_left _ (List.mem_of_getElem? (i := 200) (by decide +kernel))), rfl, rfl⟩
theorem fl_Chan_179 : FLD "PaperChancery" 179 9 4 2 (.array .int) true false := ⟨_, _, _, _, _, cls_Course, by decide, rfl, .inr ⟨"PaperChancery", rfl, rfl⟩, List.mem_append_right _ (List.mem_append_right _ (List.mem_append_left _ (List.mem_of_getElem? (i := 53) (by decide +kernel)))), rfl, rfl⟩
theorem fl_Chan_187 : FLD "PaperChancery" 187 9 10 2 (.array .int) true false := ⟨_, _, _, _, _, cls_Course, by decide, rfl, .inr ⟨"PaperChancery", rfl, rfl⟩, List.mem_append_right _ (List.mem_append_right _ (List.mem_append_left _ (List.mem_of_getElem? (i := 62) (by decide +kernel)))), rfl, rfl⟩
theorem fl_Chan_190 : FLD "PaperChancery" 190 9 11 2 (.array .int) true false := ⟨_, _, _, _, _, cls_Course, by decide, rfl, .inr ⟨"PaperChancery", rfl, rfl⟩, List.mem_append_right _ (List.mem_append_right _ (List.mem_append_left _ (List.mem_of_getElem? (i := 64) (by decide +kernel)))), rfl, rfl⟩
theorem fl_Chan_193 : FLD "PaperChancery" 193 6 1 2 (.array .int) true false := ⟨_, _, _, _, _, cls_PaperBox, by decide, rfl, .inr ⟨"PaperChancery", rfl, rfl⟩, List.mem_append_right _ (List.mem_append_left _ (List.mem_of_getElem? (i := 191) (by decide +kernel))), rfl, rfl⟩
theorem fl_Chan_196 : FLD "PaperChancery" 196 9 9 2 (.array .boolean) true false := ⟨_, _, _, _, _, cls_Course, by decide, rfl, .inr ⟨"PaperChancery", rfl, rfl⟩, List.mem_append_right _ (List.mem_append_right _ (List.mem_append_left _ (List.mem_of_getElem? (i := 60) (by decide +kernel)))), rfl, rfl⟩
theorem fl_Chan_200 : FLD "PaperChancery" 200 6 6 2 (.array .int) true false := ⟨_, _, _, _, _, cls_PaperBox, by decide, rfl, .inr ⟨"PaperChancery", rfl, rfl⟩, List.mem_append_right _ (List.mem_append_left _ (List.mem_of_getElem? (i := 198) (by decide +kernel))), rfl, rfl⟩
theorem fl_Chan_203 : FLD "PaperChancery" 203 9 6 2 (.array .int) true false := ⟨_, _, _, _, _, cls_Course, by decide, rfl, .inr ⟨"PaperChancery", rfl, rfl⟩, List.mem_append_right _ (List.mem_append_right _ (List.mem_append_left _ (List.mem_of_getElem? (i := 56) (by decide +kernel)))), rfl, rfl⟩
theorem fl_Chan_218 : FLD "PaperChancery" 218 0 10 0 .int false true := ⟨_, _, _, _, _, cls_Chan, by decide, rfl, .inl ⟨rfl, rfl⟩, List.mem_append_right _ (List.mem_append_right _ (List.mem_append_left _ (List.mem_of_getElem? (i := 166) (by decide +kernel)))), rfl, rfl⟩
theorem fl_Chan_234 : FLD "PaperChancery" 234 5 3 0 .int false false := ⟨_, _, _, _, _, cls_Roll, by decide, rfl, .inr ⟨"PaperChancery", rfl, rfl⟩, List.mem_append_right _ (List.mem_append_left _ (List.mem_of_getElem? (i := 148) (by decide +kernel))), rfl, rfl⟩
theorem fl_Chan_237 : FLD "PaperChancery" 237 5 7 0 .int false false := ⟨_, _, _, _, _, cls_Roll, by decide, rfl, .inr ⟨"PaperChancery", rfl, rfl⟩, List.mem_append_right _ (List.mem_append_left _ (List.mem_of_getElem? (i := 157) (by decide +kernel))), rfl, rfl⟩
theorem fl_Chan_254 : FLD "PaperChancery" 254 11 4 2 (.array .int) true false := ⟨_, _, _, _, _, cls_Exchange, by decide, rfl, .inr ⟨"PaperChancery", rfl, rfl⟩, List.mem_append_right _ (List.mem_append_right _ (List.mem_append_left _ (List.mem_of_getElem? (i := 144) (by decide +kernel)))), rfl, rfl⟩
theorem fl_Course_9 : FLD "PaperChancery$Course" 9 9 4 2 (.array .int) true true := ⟨_, _, _, _, _, cls_Course, by decide, rfl, .inl ⟨rfl, rfl⟩, List.mem_append_right _ (List.mem_append_right _ (List.mem_append_left _ (List.mem_of_getElem? (i := 52) (by decide +kernel)))), rfl, rfl⟩
theorem fl_Course_15 : FLD "PaperChancery$Course" 15 9 5 2 (.array .int) true true := ⟨_, _, _, _, _, cls_Course, by decide, rfl, .inl ⟨rfl, rfl⟩, List.mem_append_right _ (List.mem_append_right _ (List.mem_append_left _ (List.mem_of_getElem? (i := 54) (by decide +kernel)))), rfl, rfl⟩
theorem fl_Course_18 : FLD "PaperChancery$Course" 18 9 6 2 (.array .int) true true := ⟨_, _, _, _, _, cls_Course, by decide, rfl, .inl ⟨rfl, rfl⟩, List.mem_append_right _ (List.mem_append_right _ (List.mem_append_left _ (List.mem_of_getElem? (i := 55) (by decide +kernel)))), rfl, rfl⟩
theorem fl_Course_21 : FLD "PaperChancery$Course" 21 9 7 2 (.array .long) true true := ⟨_, _, _, _, _, cls_Course, by decide, rfl, .inl ⟨rfl, rfl⟩, List.mem_append_right _ (List.mem_append_right _ (List.mem_append_left _ (List.mem_of_getElem? (i := 57) (by decide +kernel)))), rfl, rfl⟩
theorem fl_Course_25 : FLD "PaperChancery$Course" 25 9 8 2 (.array .boolean) true true := ⟨_, _, _, _, _, cls_Course, by decide, rfl, .inl ⟨rfl, rfl⟩, List.mem_append_right _ (List.mem_append_right _ (List.mem_append_left _ (List.mem_of_getElem? (i := 58) (by decide +kernel)))), rfl, rfl⟩
theorem fl_Course_29 : FLD "PaperChancery$Course" 29 9 9 2 (.array .boolean) true true := ⟨_, _, _, _, _, cls_Course, by decide, rfl, .inl ⟨rfl, rfl⟩, List.mem_append_right _ (List.mem_append_right _ (List.mem_append_left _ (List.mem_of_getElem? (i := 59) (by decide +kernel)))), rfl, rfl⟩
theorem fl_Course_32 : FLD "PaperChancery$Course" 32 9 10 2 (.array .int) true true := ⟨_, _, _, _, _, cls_Course, by decide, rfl, .inl ⟨rfl, rfl⟩, List.mem_append_right _ (List.mem_append_right _ (List.mem_append_left _ (List.mem_of_getElem? (i := 61) (by decide +kernel)))), rfl, rfl⟩
theorem fl_Course_35 : FLD "PaperChancery$Course" 35 9 11 2 (.array .int) true true := ⟨_, _, _, _, _, cls_Course, by decide, rfl, .inl ⟨rfl, rfl⟩, List.mem_append_right _ (List.mem_append_right _ (List.mem_append_left _ (List.mem_of_getElem? (i := 63) (by decide +kernel)))), rfl, rfl⟩
theorem fl_Course_38 : FLD "PaperChancery$Course" 38 9 12 2 (.array .int) true true := ⟨_, _, _, _, _, cls_Course, by decide, rfl, .inl ⟨rfl, rfl⟩, List.mem_append_right _ (List.mem_append_right _ (List.mem_append_left _ (List.mem_of_getElem? (i := 65) (by decide +kernel)))), rfl, rfl⟩
theorem fl_Course_41 : FLD "PaperChancery$Course" 41 9 13 2 (.array .int) true true := ⟨_, _, _, _, _, cls_Course, by decide, rfl, .inl ⟨rfl, rfl⟩, List.mem_append_right _ (List.mem_append_right _ (List.mem_append_left _ (List.mem_of_getElem? (i := 66) (by decide +kernel)))), rfl, rfl⟩
theorem fl_Course_44 : FLD "PaperChancery$Course" 44 9 0 2 (.object "PaperChancery$Roll") true true := ⟨_, _, _, _, _, cls_Course, by decide, rfl, .inl ⟨rfl, rfl⟩, List.mem_append_right _ (List.mem_append_right _ (List.mem_append_left _ (List.mem_of_getElem? (i := 48) (by decide +kernel)))), rfl, rfl⟩
theorem fl_Course_48 : FLD "PaperChancery$Course" 48 9 1 2 (.object "PaperChancery$PaperBox") true true := ⟨_, _, _, _, _, cls_Course, by decide, rfl, .inl ⟨rfl, rfl⟩, List.mem_append_right _ (List.mem_append_right _ (List.mem_append_left _ (List.mem_of_getElem? (i := 49) (by decide +kernel)))), rfl, rfl⟩
theorem fl_Course_52 : FLD "PaperChancery$Course" 52 9 2 2 (.object "PaperChancery$Gazette") true true := ⟨_, _, _, _, _, cls_Course, by decide, rfl, .inl ⟨rfl, rfl⟩, List.mem_append_right _ (List.mem_append_right _ (List.mem_append_left _ (List.mem_of_getElem? (i := 50) (by decide +kernel)))), rfl, rfl⟩
theorem fl_Course_56 : FLD "PaperChancery$Course" 56 9 3 2 (.object "PaperChancery$Reigns") true true := ⟨_, _, _, _, _, cls_Course, by decide, rfl, .inl ⟨rfl, rfl⟩, List.mem_append_right _ (List.mem_append_right _ (List.mem_append_left _ (List.mem_of_getElem? (i := 51) (by decide +kernel)))), rfl, rfl⟩
theorem fl_Course_60 : FLD "PaperChancery$Course" 60 8 2 2 (.object "PaperChancery$RuleBook") true false := ⟨_, _, _, _, _, cls_Reigns, by decide, rfl, .inr ⟨"PaperChancery", rfl, rfl⟩, List.mem_append_right _ (List.mem_append_right _ (List.mem_append_left _ (List.mem_of_getElem? (i := 30) (by decide +kernel)))), rfl, rfl⟩
theorem fl_Course_66 : FLD "PaperChancery$Course" 66 9 15 2 (.object "PaperChancery$RuleBook") false true := ⟨_, _, _, _, _, cls_Course, by decide, rfl, .inl ⟨rfl, rfl⟩, List.mem_append_right _ (List.mem_append_right _ (List.mem_append_left _ (List.mem_of_getElem? (i := 68) (by decide +kernel)))), rfl, rfl⟩
theorem fl_Course_69 : FLD "PaperChancery$Course" 69 9 16 0 .int false true := ⟨_, _, _, _, _, cls_Course, by decide, rfl, .inl ⟨rfl, rfl⟩, List.mem_append_right _ (List.mem_append_right _ (List.mem_append_left _ (List.mem_of_getElem? (i := 69) (by decide +kernel)))), rfl, rfl⟩
theorem fl_Course_73 : FLD "PaperChancery$Course" 73 5 8 0 .int false false := ⟨_, _, _, _, _, cls_Roll, by decide, rfl, .inr ⟨"PaperChancery", rfl, rfl⟩, List.mem_append_right _ (List.mem_append_left _ (List.mem_of_getElem? (i := 158) (by decide +kernel))), rfl, rfl⟩
theorem fl_Course_78 : FLD "PaperChancery$Course" 78 9 17 0 .int false true := ⟨_, _, _, _, _, cls_Course, by decide, rfl, .inl ⟨rfl, rfl⟩, List.mem_append_right _ (List.mem_append_right _ (List.mem_append_left _ (List.mem_of_getElem? (i := 70) (by decide +kernel)))), rfl, rfl⟩
theorem fl_Course_81 : FLD "PaperChancery$Course" 81 9 18 0 .int false true := ⟨_, _, _, _, _, cls_Course, by decide, rfl, .inl ⟨rfl, rfl⟩, List.mem_append_right _ (List.mem_append_right _ (List.mem_append_left _ (List.mem_of_getElem? (i := 71) (by decide +kernel)))), rfl, rfl⟩
theorem fl_Course_87 : FLD "PaperChancery$Course" 87 7 6 0 .int false false := ⟨_, _, _, _, _, cls_Gazette, by decide, rfl, .inr ⟨"PaperChancery", rfl, rfl⟩, List.mem_append_right _ (List.mem_append_right _ (List.mem_append_left _ (List.mem_of_getElem? (i := 1) (by decide +kernel)))), rfl, rfl⟩
theorem fl_Course_92 : FLD "PaperChancery$Course" 92 7 5 2 (.array .int) true false := ⟨_, _, _, _, _, cls_Gazette, by decide, rfl, .inr ⟨"PaperChancery", rfl, rfl⟩, List.mem_append_right _ (List.mem_append_right _ (List.mem_append_left _ (List.mem_of_getElem? (i := 0) (by decide +kernel)))), rfl, rfl⟩
theorem fl_Course_95 : FLD "PaperChancery$Course" 95 7 1 2 (.array .int) true false := ⟨_, _, _, _, _, cls_Gazette, by decide, rfl, .inr ⟨"PaperChancery", rfl, rfl⟩, List.mem_append_right _ (List.mem_append_left _ (List.mem_of_getElem? (i := 232) (by decide +kernel))), rfl, rfl⟩
theorem fl_Course_115 : FLD "PaperChancery$Course" 115 5 7 0 .int false false := ⟨_, _, _, _, _, cls_Roll, by decide, rfl, .inr ⟨"PaperChancery", rfl, rfl⟩, List.mem_append_right _ (List.mem_append_left _ (List.mem_of_getElem? (i := 156) (by decide +kernel))), rfl, rfl⟩
theorem fl_Course_118 : FLD "PaperChancery$Course" 118 5 6 2 (.array .int) true false := ⟨_, _, _, _, _, cls_Roll, by decide, rfl, .inr ⟨"PaperChancery", rfl, rfl⟩, List.mem_append_right _ (List.mem_append_left _ (List.mem_of_getElem? (i := 154) (by decide +kernel))), rfl, rfl⟩
theorem fl_Course_124 : FLD "PaperChancery$Course" 124 9 14 0 .int false true := ⟨_, _, _, _, _, cls_Course, by decide, rfl, .inl ⟨rfl, rfl⟩, List.mem_append_right _ (List.mem_append_right _ (List.mem_append_left _ (List.mem_of_getElem? (i := 67) (by decide +kernel)))), rfl, rfl⟩
theorem fl_Course_131 : FLD "PaperChancery$Course" 131 7 2 2 (.array .int) true false := ⟨_, _, _, _, _, cls_Gazette, by decide, rfl, .inr ⟨"PaperChancery", rfl, rfl⟩, List.mem_append_right _ (List.mem_append_left _ (List.mem_of_getElem? (i := 234) (by decide +kernel))), rfl, rfl⟩
theorem fl_Course_134 : FLD "PaperChancery$Course" 134 7 3 2 (.array .int) true false := ⟨_, _, _, _, _, cls_Gazette, by decide, rfl, .inr ⟨"PaperChancery", rfl, rfl⟩, List.mem_append_right _ (List.mem_append_left _ (List.mem_of_getElem? (i := 236) (by decide +kernel))), rfl, rfl⟩
theorem fl_Course_137 : FLD "PaperChancery$Course" 137 7 0 2 (.array .int) true false := ⟨_, _, _, _, _, cls_Gazette, by decide, rfl, .inr ⟨"PaperChancery", rfl, rfl⟩, List.mem_append_right _ (List.mem_append_left _ (List.mem_of_getElem? (i := 230) (by decide +kernel))), rfl, rfl⟩
theorem fl_Course_158 : FLD "PaperChancery$Course" 158 6 0 2 (.array .int) true false := ⟨_, _, _, _, _, cls_PaperBox, by decide, rfl, .inr ⟨"PaperChancery", rfl, rfl⟩, List.mem_append_right _ (List.mem_append_left _ (List.mem_of_getElem? (i := 188) (by decide +kernel))), rfl, rfl⟩
theorem fl_Course_161 : FLD "PaperChancery$Course" 161 5 5 2 (.array .int) true false := ⟨_, _, _, _, _, cls_Roll, by decide, rfl, .inr ⟨"PaperChancery", rfl, rfl⟩, List.mem_append_right _ (List.mem_append_left _ (List.mem_of_getElem? (i := 152) (by decide +kernel))), rfl, rfl⟩
theorem fl_Course_170 : FLD "PaperChancery$Course" 170 6 8 0 .int false false := ⟨_, _, _, _, _, cls_PaperBox, by decide, rfl, .inr ⟨"PaperChancery", rfl, rfl⟩, List.mem_append_right _ (List.mem_append_left _ (List.mem_of_getElem? (i := 202) (by decide +kernel))), rfl, rfl⟩
theorem fl_Course_192 : FLD "PaperChancery$Course" 192 5 4 2 (.array .int) true false := ⟨_, _, _, _, _, cls_Roll, by decide, rfl, .inr ⟨"PaperChancery", rfl, rfl⟩, List.mem_append_right _ (List.mem_append_left _ (List.mem_of_getElem? (i := 150) (by decide +kernel))), rfl, rfl⟩
theorem fl_Course_202 : FLD "PaperChancery$Course" 202 5 0 2 (.array .int) true false := ⟨_, _, _, _, _, cls_Roll, by decide, rfl, .inr ⟨"PaperChancery", rfl, rfl⟩, List.mem_append_right _ (List.mem_append_left _ (List.mem_of_getElem? (i := 142) (by decide +kernel))), rfl, rfl⟩
theorem fl_Course_205 : FLD "PaperChancery$Course" 205 5 1 2 (.array .int) true false := ⟨_, _, _, _, _, cls_Roll, by decide, rfl, .inr ⟨"PaperChancery", rfl, rfl⟩, List.mem_append_right _ (List.mem_append_left _ (List.mem_of_getElem? (i := 144) (by decide +kernel))), rfl, rfl⟩
theorem fl_Course_208 : FLD "PaperChancery$Course" 208 6 1 2 (.array .int) true false := ⟨_, _, _, _, _, cls_PaperBox, by decide, rfl, .inr ⟨"PaperChancery", rfl, rfl⟩, List.mem_append_right _ (List.mem_append_left _ (List.mem_of_getElem? (i := 190) (by decide +kernel))), rfl, rfl⟩
theorem fl_Course_211 : FLD "PaperChancery$Course" 211 5 2 2 (.array .int) true false := ⟨_, _, _, _, _, cls_Roll, by decide, rfl, .inr ⟨"PaperChancery", rfl, rfl⟩, List.mem_append_right _ (List.mem_append_left _ (List.mem_of_getElem? (i := 146) (by decide +kernel))), rfl, rfl⟩
theorem fl_Course_214 : FLD "PaperChancery$Course" 214 6 2 2 (.array .int) true false := ⟨_, _, _, _, _, cls_PaperBox, by decide, rfl, .inr ⟨"PaperChancery", rfl, rfl⟩, List.mem_append_right _ (List.mem_append_left _ (List.mem_of_getElem? (i := 193) (by decide +kernel))), rfl, rfl⟩
theorem fl_Ends_9 : FLD "PaperChancery$Ends" 9 10 1 2 (.array .int) true true := ⟨_, _, _, _, _, cls_Ends, by decide, rfl, .inl ⟨rfl, rfl⟩, List.mem_append_right _ (List.mem_append_right _ (List.mem_append_left _ (List.mem_of_getElem? (i := 123) (by decide +kernel)))), rfl, rfl⟩
theorem fl_Ends_15 : FLD "PaperChancery$Ends" 15 10 2 2 (.array .int) true true := ⟨_, _, _, _, _, cls_Ends, by decide, rfl, .inl ⟨rfl, rfl⟩, List.mem_append_right _ (List.mem_append_right _ (List.mem_append_left _ (List.mem_of_getElem? (i := 124) (by decide +kernel)))), rfl, rfl⟩
theorem fl_Ends_18 : FLD "PaperChancery$Ends" 18 10 0 2 (.object "PaperChancery$Roll") true true := ⟨_, _, _, _, _, cls_Ends, by decide, rfl, .inl ⟨rfl, rfl⟩, List.mem_append_right _ (List.mem_append_right _ (List.mem_append_left _ (List.mem_of_getElem? (i := 122) (by decide +kernel)))), rfl, rfl⟩
theorem fl_Ends_28 : FLD "PaperChancery$Ends" 28 5 8 0 .int false false := ⟨_, _, _, _, _, cls_Roll, by decide, rfl, .inr ⟨"PaperChancery", rfl, rfl⟩, List.mem_append_right _ (List.mem_append_left _ (List.mem_of_getElem? (i := 159) (by decide +kernel))), rfl, rfl⟩
theorem fl_Exchange_9 : FLD "PaperChancery$Exchange" 9 11 0 2 (.array .int) true true := ⟨_, _, _, _, _, cls_Exchange, by decide, rfl, .inl ⟨rfl, rfl⟩, List.mem_append_right _ (List.mem_append_right _ (List.mem_append_left _ (List.mem_of_getElem? (i := 139) (by decide +kernel)))), rfl, rfl⟩
theorem fl_Exchange_15 : FLD "PaperChancery$Exchange" 15 11 1 2 (.array .int) true true := ⟨_, _, _, _, _, cls_Exchange, by decide, rfl, .inl ⟨rfl, rfl⟩, List.mem_append_right _ (List.mem_append_right _ (List.mem_append_left _ (List.mem_of_getElem? (i := 140) (by decide +kernel)))), rfl, rfl⟩
theorem fl_Exchange_18 : FLD "PaperChancery$Exchange" 18 11 2 2 (.array .int) true true := ⟨_, _, _, _, _, cls_Exchange, by decide, rfl, .inl ⟨rfl, rfl⟩, List.mem_append_right _ (List.mem_append_right _ (List.mem_append_left _ (List.mem_of_getElem? (i := 141) (by decide +kernel)))), rfl, rfl⟩
theorem fl_Exchange_21 : FLD "PaperChancery$Exchange" 21 11 3 2 (.array .int) true true := ⟨_, _, _, _, _, cls_Exchange, by decide, rfl, .inl ⟨rfl, rfl⟩, List.mem_append_right _ (List.mem_append_right _ (List.mem_append_left _ (List.mem_of_getElem? (i := 142) (by decide +kernel)))), rfl, rfl⟩
theorem fl_Exchange_24 : FLD "PaperChancery$Exchange" 24 11 4 2 (.array .int) true true := ⟨_, _, _, _, _, cls_Exchange, by decide, rfl, .inl ⟨rfl, rfl⟩, List.mem_append_right _ (List.mem_append_right _ (List.mem_append_left _ (List.mem_of_getElem? (i := 143) (by decide +kernel)))), rfl, rfl⟩
theorem fl_Gazette_9 : FLD "PaperChancery$Gazette" 9 7 0 2 (.array .int) true true := ⟨_, _, _, _, _, cls_Gazette, by decide, rfl, .inl ⟨rfl, rfl⟩, List.mem_append_right _ (List.mem_append_left _ (List.mem_of_getElem? (i := 229) (by decide +kernel))), rfl, rfl⟩
theorem fl_Gazette_15 : FLD "PaperChancery$Gazette" 15 7 1 2 (.array .int) true true := ⟨_, _, _, _, _, cls_Gazette, by decide, rfl, .inl ⟨rfl, rfl⟩, List.mem_append_right _ (List.mem_append_left _ (List.mem_of_getElem? (i := 231) (by decide +kernel))), rfl, rfl⟩
theorem fl_Gazette_18 : FLD "PaperChancery$Gazette" 18 7 2 2 (.array .int) true true := ⟨_, _, _, _, _, cls_Gazette, by decide, rfl, .inl ⟨rfl, rfl⟩, List.mem_append_right _ (List.mem_append_left _ (List.mem_of_getElem? (i := 233) (by decide +kernel))), rfl, rfl⟩
theorem fl_Gazette_21 : FLD "PaperChancery$Gazette" 21 7 3 2 (.array .int) true true := ⟨_, _, _, _, _, cls_Gazette, by decide, rfl, .inl ⟨rfl, rfl⟩, List.mem_append_right _ (List.mem_append_left _ (List.mem_of_getElem? (i := 235) (by decide +kernel))), rfl, rfl⟩
theorem fl_Gazette_24 : FLD "PaperChancery$Gazette" 24 7 5 2 (.array .int) true true := ⟨_, _, _, _, _, cls_Gazette, by decide, rfl, .inl ⟨rfl, rfl⟩, List.mem_append_right _ (List.mem_append_left _ (List.mem_of_getElem? (i := 239) (by decide +kernel))), rfl, rfl⟩
theorem fl_Gazette_27 : FLD "PaperChancery$Gazette" 27 7 4 0 .int false true := ⟨_, _, _, _, _, cls_Gazette, by decide, rfl, .inl ⟨rfl, rfl⟩, List.mem_append_right _ (List.mem_append_left _ (List.mem_of_getElem? (i := 237) (by decide +kernel))), rfl, rfl⟩
theorem fl_Gazette_39 : FLD "PaperChancery$Gazette" 39 7 6 0 .int false true := ⟨_, _, _, _, _, cls_Gazette, by decide, rfl, .inl ⟨rfl, rfl⟩, List.mem_append_right _ (List.mem_append_right _ (List.mem_append_left _ (List.mem_of_getElem? (i := 2) (by decide +kernel)))), rfl, rfl⟩
theorem fl_PaperBox_9 : FLD "PaperChancery$PaperBox" 9 6 0 2 (.array .int) true true := ⟨_, _, _, _, _, cls_PaperBox, by decide, rfl, .inl ⟨rfl, rfl⟩, List.mem_append_right _ (List.mem_append_left _ (List.mem_of_getElem? (i := 187) (by decide +kernel))), rfl, rfl⟩
theorem fl_PaperBox_15 : FLD "PaperChancery$PaperBox" 15 6 1 2 (.array .int) true true := ⟨_, _, _, _, _, cls_PaperBox, by decide, rfl, .inl ⟨rfl, rfl⟩, List.mem_append_right _ (List.mem_append_left _ (List.mem_of_getElem? (i := 189) (by decide +kernel))), rfl, rfl⟩
theorem fl_PaperBox_18 : FLD "PaperChancery$PaperBox" 18 6 2 2 (.array .int) true true := ⟨_, _, _, _, _, cls_PaperBox, by decide, rfl, .inl ⟨rfl, rfl⟩, List.mem_append_right _ (List.mem_append_left _ (List.mem_of_getElem? (i := 192) (by decide +kernel))), rfl, rfl⟩
theorem fl_PaperBox_21 : FLD "PaperChancery$PaperBox" 21 6 3 2 (.array .int) true true := ⟨_, _, _, _, _, cls_PaperBox, by decide, rfl, .inl ⟨rfl, rfl⟩, List.mem_append_right _ (List.mem_append_left _ (List.mem_of_getElem? (i := 194) (by decide +kernel))), rfl, rfl⟩
theorem fl_PaperBox_24 : FLD "PaperChancery$PaperBox" 24 6 4 2 (.array .int) true true := ⟨_, _, _, _, _, cls_PaperBox, by decide, rfl, .inl ⟨rfl, rfl⟩, List.mem_append_right _ (List.mem_append_left _ (List.mem_of_getElem? (i := 195) (by decide +kernel))), rfl, rfl⟩
theorem fl_PaperBox_27 : FLD "PaperChancery$PaperBox" 27 6 5 2 (.array .int) true true := ⟨_, _, _, _, _, cls_PaperBox, by decide, rfl, .inl ⟨rfl, rfl⟩, List.mem_append_right _ (List.mem_append_left _ (List.mem_of_getElem? (i := 196) (by decide +kernel))), rfl, rfl⟩
theorem fl_PaperBox_30 : FLD "PaperChancery$PaperBox" 30 6 6 2 (.array .int) true true := ⟨_, _, _, _, _, cls_PaperBox, by decide, rfl, .inl ⟨rfl, rfl⟩, List.mem_append_right _ (List.mem_append_left _ (List.mem_of_getElem? (i := 197) (by decide +kernel))), rfl, rfl⟩
theorem fl_PaperBox_33 : FLD "PaperChancery$PaperBox" 33 6 7 2 (.array .int) true true := ⟨_, _, _, _, _, cls_PaperBox, by decide, rfl, .inl ⟨rfl, rfl⟩, List.mem_append_right _ (List.mem_append_left _ (List.mem_of_getElem? (i := 199) (by decide +kernel))), rfl, rfl⟩
theorem fl_PaperBox_36 : FLD "PaperChancery$PaperBox" 36 6 8 0 .int false true := ⟨_, _, _, _, _, cls_PaperBox, by decide, rfl, .inl ⟨rfl, rfl⟩, List.mem_append_right _ (List.mem_append_left _ (List.mem_of_getElem? (i := 201) (by decide +kernel))), rfl, rfl⟩
theorem fl_Reigns_9 : FLD "PaperChancery$Reigns" 9 8 0 2 (.array .int) true true := ⟨_, _, _, _, _, cls_Reigns, by decide, rfl, .inl ⟨rfl, rfl⟩, List.mem_append_right _ (List.mem_append_right _ (List.mem_append_left _ (List.mem_of_getElem? (i := 27) (by decide +kernel)))), rfl, rfl⟩
theorem fl_Reigns_17 : FLD "PaperChancery$Reigns" 17 8 1 2 (.array (.object "PaperChancery$RuleBook")) true true := ⟨_, _, _, _, _, cls_Reigns, by decide, rfl, .inl ⟨rfl, rfl⟩, List.mem_append_right _ (List.mem_append_right _ (List.mem_append_left _ (List.mem_of_getElem? (i := 28) (by decide +kernel)))), rfl, rfl⟩
theorem fl_Reigns_22 : FLD "PaperChancery$Reigns" 22 8 2 2 (.object "PaperChancery$RuleBook") true true := ⟨_, _, _, _, _, cls_Reigns, by decide, rfl, .inl ⟨rfl, rfl⟩, List.mem_append_right _ (List.mem_append_right _ (List.mem_append_left _ (List.mem_of_getElem? (i := 29) (by decide +kernel)))), rfl, rfl⟩
theorem fl_Reigns_26 : FLD "PaperChancery$Reigns" 26 8 3 0 .int false true := ⟨_, _, _, _, _, cls_Reigns, by decide, rfl, .inl ⟨rfl, rfl⟩, List.mem_append_right _ (List.mem_append_right _ (List.mem_append_left _ (List.mem_of_getElem? (i := 31) (by decide +kernel)))), rfl, rfl⟩
theorem fl_Roll_9 : FLD "PaperChancery$Roll" 9 5 0 2 (.array .int) true true := ⟨_, _, _, _, _, cls_Roll, by decide, rfl, .inl ⟨rfl, rfl⟩, List.mem_append_right _ (List.mem_append_left _ (List.mem_of_getElem? (i := 141) (by decide +kernel))), rfl, rfl⟩
theorem fl_Roll_15 : FLD "PaperChancery$Roll" 15 5 1 2 (.array .int) true true := ⟨_, _, _, _, _, cls_Roll, by decide, rfl, .inl ⟨rfl, rfl⟩, List.mem_append_right _ (List.mem_append_left _ (List.mem_of_getElem? (i := 143) (by decide +kernel))), rfl, rfl⟩
theorem fl_Roll_18 : FLD "PaperChancery$Roll" 18 5 2 2 (.array .int) true true := ⟨_, _, _, _, _, cls_Roll, by decide, rfl, .inl ⟨rfl, rfl⟩, List.mem_append_right _ (List.mem_append_left _ (List.mem_of_getElem? (i := 145) (by decide +kernel))), rfl, rfl⟩
theorem fl_Roll_21 : FLD "PaperChancery$Roll" 21 5 4 2 (.array .int) true true := ⟨_, _, _, _, _, cls_Roll, by decide, rfl, .inl ⟨rfl, rfl⟩, List.mem_append_right _ (List.mem_append_left _ (List.mem_of_getElem? (i := 149) (by decide +kernel))), rfl, rfl⟩
theorem fl_Roll_24 : FLD "PaperChancery$Roll" 24 5 5 2 (.array .int) true true := ⟨_, _, _, _, _, cls_Roll, by decide, rfl, .inl ⟨rfl, rfl⟩, List.mem_append_right _ (List.mem_append_left _ (List.mem_of_getElem? (i := 151) (by decide +kernel))), rfl, rfl⟩
theorem fl_Roll_27 : FLD "PaperChancery$Roll" 27 5 6 2 (.array .int) true true := ⟨_, _, _, _, _, cls_Roll, by decide, rfl, .inl ⟨rfl, rfl⟩, List.mem_append_right _ (List.mem_append_left _ (List.mem_of_getElem? (i := 153) (by decide +kernel))), rfl, rfl⟩
theorem fl_Roll_30 : FLD "PaperChancery$Roll" 30 5 3 0 .int false true := ⟨_, _, _, _, _, cls_Roll, by decide, rfl, .inl ⟨rfl, rfl⟩, List.mem_append_right _ (List.mem_append_left _ (List.mem_of_getElem? (i := 147) (by decide +kernel))), rfl, rfl⟩
theorem fl_Roll_34 : FLD "PaperChancery$Roll" 34 5 7 0 .int false true := ⟨_, _, _, _, _, cls_Roll, by decide, rfl, .inl ⟨rfl, rfl⟩, List.mem_append_right _ (List.mem_append_left _ (List.mem_of_getElem? (i := 155) (by decide +kernel))), rfl, rfl⟩
theorem fl_Roll_37 : FLD "PaperChancery$Roll" 37 5 8 0 .int false true := ⟨_, _, _, _, _, cls_Roll, by decide, rfl, .inl ⟨rfl, rfl⟩, List.mem_append_right _ (List.mem_append_left _ (List.mem_of_getElem? (i := 160) (by decide +kernel))), rfl, rfl⟩
theorem fl_RuleBook_9 : FLD "PaperChancery$RuleBook" 9 3 0 2 (.array .int) true true := ⟨_, _, _, _, _, cls_RuleBook, by decide, rfl, .inl ⟨rfl, rfl⟩, List.mem_append_right _ (List.mem_append_left _ (List.mem_of_getElem? (i := 58) (by decide +kernel))), rfl, rfl⟩
theorem fl_RuleBook_15 : FLD "PaperChancery$RuleBook" 15 3 1 2 (.array .int) true true := ⟨_, _, _, _, _, cls_RuleBook, by decide, rfl, .inl ⟨rfl, rfl⟩, List.mem_append_right _ (List.mem_append_left _ (List.mem_of_getElem? (i := 59) (by decide +kernel))), rfl, rfl⟩
theorem fl_RuleBook_18 : FLD "PaperChancery$RuleBook" 18 3 2 2 (.array .int) true true := ⟨_, _, _, _, _, cls_RuleBook, by decide, rfl, .inl ⟨rfl, rfl⟩, List.mem_append_right _ (List.mem_append_left _ (List.mem_of_getElem? (i := 60) (by decide +kernel))), rfl, rfl⟩
theorem fl_RuleBook_21 : FLD "PaperChancery$RuleBook" 21 3 3 2 (.array .int) true true := ⟨_, _, _, _, _, cls_RuleBook, by decide, rfl, .inl ⟨rfl, rfl⟩, List.mem_append_right _ (List.mem_append_left _ (List.mem_of_getElem? (i := 61) (by decide +kernel))), rfl, rfl⟩
theorem fl_RuleBook_24 : FLD "PaperChancery$RuleBook" 24 3 5 2 (.array .int) true true := ⟨_, _, _, _, _, cls_RuleBook, by decide, rfl, .inl ⟨rfl, rfl⟩, List.mem_append_right _ (List.mem_append_left _ (List.mem_of_getElem? (i := 64) (by decide +kernel))), rfl, rfl⟩
theorem fl_RuleBook_27 : FLD "PaperChancery$RuleBook" 27 3 6 2 (.array .int) true true := ⟨_, _, _, _, _, cls_RuleBook, by decide, rfl, .inl ⟨rfl, rfl⟩, List.mem_append_right _ (List.mem_append_left _ (List.mem_of_getElem? (i := 65) (by decide +kernel))), rfl, rfl⟩
theorem fl_RuleBook_30 : FLD "PaperChancery$RuleBook" 30 3 7 2 (.array .int) true true := ⟨_, _, _, _, _, cls_RuleBook, by decide, rfl, .inl ⟨rfl, rfl⟩, List.mem_append_right _ (List.mem_append_left _ (List.mem_of_getElem? (i := 66) (by decide +kernel))), rfl, rfl⟩
theorem fl_RuleBook_33 : FLD "PaperChancery$RuleBook" 33 3 4 0 .int false true := ⟨_, _, _, _, _, cls_RuleBook, by decide, rfl, .inl ⟨rfl, rfl⟩, List.mem_append_right _ (List.mem_append_left _ (List.mem_of_getElem? (i := 62) (by decide +kernel))), rfl, rfl⟩
theorem fl_RuleBook_37 : FLD "PaperChancery$RuleBook" 37 3 8 0 .int false true := ⟨_, _, _, _, _, cls_RuleBook, by decide, rfl, .inl ⟨rfl, rfl⟩, List.mem_append_right _ (List.mem_append_left _ (List.mem_of_getElem? (i := 67) (by decide +kernel))), rfl, rfl⟩
theorem fl_RuleReader_12 : FLD "PaperChancery$RuleReader" 12 2 1 2 (.object "PaperChancery$RuleBook") true true := ⟨_, _, _, _, _, cls_RuleReader, by decide, rfl, .inl ⟨rfl, rfl⟩, List.mem_append_right _ (List.mem_append_left _ (List.mem_of_getElem? (i := 114) (by decide +kernel))), rfl, rfl⟩
theorem fl_RuleReader_23 : FLD "PaperChancery$RuleReader" 23 2 0 2 (.object "PaperChancery$TokenRow") true true := ⟨_, _, _, _, _, cls_RuleReader, by decide, rfl, .inl ⟨rfl, rfl⟩, List.mem_append_right _ (List.mem_append_left _ (List.mem_of_getElem? (i := 113) (by decide +kernel))), rfl, rfl⟩
theorem fl_RuleReader_27 : FLD "PaperChancery$RuleReader" 27 2 5 0 .int false true := ⟨_, _, _, _, _, cls_RuleReader, by decide, rfl, .inl ⟨rfl, rfl⟩, List.mem_append_right _ (List.mem_append_left _ (List.mem_of_getElem? (i := 120) (by decide +kernel))), rfl, rfl⟩
theorem fl_RuleReader_31 : FLD "PaperChancery$RuleReader" 31 2 4 0 .int false true := ⟨_, _, _, _, _, cls_RuleReader, by decide, rfl, .inl ⟨rfl, rfl⟩, List.mem_append_right _ (List.mem_append_left _ (List.mem_of_getElem? (i := 118) (by decide +kernel))), rfl, rfl⟩
theorem fl_RuleReader_40 : FLD "PaperChancery$RuleReader" 40 2 2 0 .int false true := ⟨_, _, _, _, _, cls_RuleReader, by decide, rfl, .inl ⟨rfl, rfl⟩, List.mem_append_right _ (List.mem_append_left _ (List.mem_of_getElem? (i := 116) (by decide +kernel))), rfl, rfl⟩
theorem fl_RuleReader_43 : FLD "PaperChancery$RuleReader" 43 4 1 2 (.array .int) true false := ⟨_, _, _, _, _, cls_TokenRow, by decide, rfl, .inr ⟨"PaperChancery", rfl, rfl⟩, List.mem_append_right _ (List.mem_append_left _ (List.mem_of_getElem? (i := 95) (by decide +kernel))), rfl, rfl⟩
theorem fl_RuleReader_47 : FLD "PaperChancery$RuleReader" 47 2 3 0 .int false true := ⟨_, _, _, _, _, cls_RuleReader, by decide, rfl, .inl ⟨rfl, rfl⟩, List.mem_append_right _ (List.mem_append_left _ (List.mem_of_getElem? (i := 117) (by decide +kernel))), rfl, rfl⟩
theorem fl_RuleReader_54 : FLD "PaperChancery$RuleReader" 54 4 4 0 .int false false := ⟨_, _, _, _, _, cls_TokenRow, by decide, rfl, .inr ⟨"PaperChancery", rfl, rfl⟩, List.mem_append_right _ (List.mem_append_left _ (List.mem_of_getElem? (i := 101) (by decide +kernel))), rfl, rfl⟩
theorem fl_RuleReader_57 : FLD "PaperChancery$RuleReader" 57 4 2 2 (.array .int) true false := ⟨_, _, _, _, _, cls_TokenRow, by decide, rfl, .inr ⟨"PaperChancery", rfl, rfl⟩, List.mem_append_right _ (List.mem_append_left _ (List.mem_of_getElem? (i := 97) (by decide +kernel))), rfl, rfl⟩
theorem fl_RuleReader_86 : FLD "PaperChancery$RuleReader" 86 4 3 2 (.array .int) true false := ⟨_, _, _, _, _, cls_TokenRow, by decide, rfl, .inr ⟨"PaperChancery", rfl, rfl⟩, List.mem_append_right _ (List.mem_append_left _ (List.mem_of_getElem? (i := 99) (by decide +kernel))), rfl, rfl⟩
theorem fl_Tape_9 : FLD "PaperChancery$Tape" 9 1 0 2 (.array .int) true true := ⟨_, _, _, _, _, cls_Tape, by decide, rfl, .inl ⟨rfl, rfl⟩, List.mem_append_right _ (List.mem_append_left _ (List.mem_of_getElem? (i := 35) (by decide +kernel))), rfl, rfl⟩
theorem fl_Tape_15 : FLD "PaperChancery$Tape" 15 1 1 0 .int false true := ⟨_, _, _, _, _, cls_Tape, by decide, rfl, .inl ⟨rfl, rfl⟩, List.mem_append_right _ (List.mem_append_left _ (List.mem_of_getElem? (i := 37) (by decide +kernel))), rfl, rfl⟩
theorem fl_TokenRow_9 : FLD "PaperChancery$TokenRow" 9 4 1 2 (.array .int) true true := ⟨_, _, _, _, _, cls_TokenRow, by decide, rfl, .inl ⟨rfl, rfl⟩, List.mem_append_right _ (List.mem_append_left _ (List.mem_of_getElem? (i := 94) (by decide +kernel))), rfl, rfl⟩
theorem fl_TokenRow_15 : FLD "PaperChancery$TokenRow" 15 4 2 2 (.array .int) true true := ⟨_, _, _, _, _, cls_TokenRow, by decide, rfl, .inl ⟨rfl, rfl⟩, List.mem_append_right _ (List.mem_append_left _ (List.mem_of_getElem? (i := 96) (by decide +kernel))), rfl, rfl⟩
theorem fl_TokenRow_18 : FLD "PaperChancery$TokenRow" 18 4 3 2 (.array .int) true true := ⟨_, _, _, _, _, cls_TokenRow, by decide, rfl, .inl ⟨rfl, rfl⟩, List.mem_append_right _ (List.mem_append_left _ (List.mem_of_getElem? (i := 98) (by decide +kernel))), rfl, rfl⟩
theorem fl_TokenRow_21 : FLD "PaperChancery$TokenRow" 21 4 0 2 (.object "PaperChancery$Tape") true true := ⟨_, _, _, _, _, cls_TokenRow, by decide, rfl, .inl ⟨rfl, rfl⟩, List.mem_append_right _ (List.mem_append_left _ (List.mem_of_getElem? (i := 93) (by decide +kernel))), rfl, rfl⟩
theorem fl_TokenRow_25 : FLD "PaperChancery$TokenRow" 25 4 4 0 .int false true := ⟨_, _, _, _, _, cls_TokenRow, by decide, rfl, .inl ⟨rfl, rfl⟩, List.mem_append_right _ (List.mem_append_left _ (List.mem_of_getElem? (i := 100) (by decide +kernel))), rfl, rfl⟩
theorem fl_TokenRow_33 : FLD "PaperChancery$TokenRow" 33 1 1 0 .int false false := ⟨_, _, _, _, _, cls_Tape, by decide, rfl, .inr ⟨"PaperChancery", rfl, rfl⟩, List.mem_append_right _ (List.mem_append_left _ (List.mem_of_getElem? (i := 38) (by decide +kernel))), rfl, rfl⟩
theorem fl_TokenRow_47 : FLD "PaperChancery$TokenRow" 47 1 0 2 (.array .int) true false := ⟨_, _, _, _, _, cls_Tape, by decide, rfl, .inr ⟨"PaperChancery", rfl, rfl⟩, List.mem_append_right _ (List.mem_append_left _ (List.mem_of_getElem? (i := 36) (by decide +kernel))), rfl, rfl⟩
theorem fl_Md_7 : FLD "PaperChanceryModel" 7 12 0 2 (.array .int) true true := ⟨_, _, _, _, _, cls_Md, by decide, rfl, .inl ⟨rfl, rfl⟩, List.mem_append_right _ (List.mem_append_right _ (List.mem_append_right _ (List.mem_append_right _ (List.mem_append_left _ (List.mem_of_getElem? (i := 198) (by decide +kernel)))))), rfl, rfl⟩
theorem fl_Md_13 : FLD "PaperChanceryModel" 13 12 1 0 .int false true := ⟨_, _, _, _, _, cls_Md, by decide, rfl, .inl ⟨rfl, rfl⟩, List.mem_append_right _ (List.mem_append_right _ (List.mem_append_right _ (List.mem_append_right _ (List.mem_append_left _ (List.mem_of_getElem? (i := 199) (by decide +kernel)))))), rfl, rfl⟩
theorem fl_Md_17 : FLD "PaperChanceryModel" 17 12 2 0 .int false true := ⟨_, _, _, _, _, cls_Md, by decide, rfl, .inl ⟨rfl, rfl⟩, List.mem_append_right _ (List.mem_append_right _ (List.mem_append_right _ (List.mem_append_right _ (List.mem_append_left _ (List.mem_of_getElem? (i := 200) (by decide +kernel)))))), rfl, rfl⟩
theorem fl_Md_20 : FLD "PaperChanceryModel" 20 12 3 2 (.array .int) true true := ⟨_, _, _, _, _, cls_Md, by decide, rfl, .inl ⟨rfl, rfl⟩, List.mem_append_right _ (List.mem_append_right _ (List.mem_append_right _ (List.mem_append_right _ (List.mem_append_left _ (List.mem_of_getElem? (i := 201) (by decide +kernel)))))), rfl, rfl⟩
theorem fl_Md_23 : FLD "PaperChanceryModel" 23 12 4 0 .int false true := ⟨_, _, _, _, _, cls_Md, by decide, rfl, .inl ⟨rfl, rfl⟩, List.mem_append_right _ (List.mem_append_right _ (List.mem_append_right _ (List.mem_append_right _ (List.mem_append_left _ (List.mem_of_getElem? (i := 202) (by decide +kernel)))))), rfl, rfl⟩
theorem fl_Md_26 : FLD "PaperChanceryModel" 26 12 5 2 (.array .int) true true := ⟨_, _, _, _, _, cls_Md, by decide, rfl, .inl ⟨rfl, rfl⟩, List.mem_append_right _ (List.mem_append_right _ (List.mem_append_right _ (List.mem_append_right _ (List.mem_append_left _ (List.mem_of_getElem? (i := 203) (by decide +kernel)))))), rfl, rfl⟩
theorem fl_Md_29 : FLD "PaperChanceryModel" 29 12 6 0 .int false true := ⟨_, _, _, _, _, cls_Md, by decide, rfl, .inl ⟨rfl, rfl⟩, List.mem_append_right _ (List.mem_append_right _ (List.mem_append_right _ (List.mem_append_right _ (List.mem_append_left _ (List.mem_of_getElem? (i := 204) (by decide +kernel)))))), rfl, rfl⟩
theorem fl_Md_32 : FLD "PaperChanceryModel" 32 12 7 2 (.array .int) true true := ⟨_, _, _, _, _, cls_Md, by decide, rfl, .inl ⟨rfl, rfl⟩, List.mem_append_right _ (List.mem_append_right _ (List.mem_append_right _ (List.mem_append_right _ (List.mem_append_left _ (List.mem_of_getElem? (i := 205) (by decide +kernel)))))), rfl, rfl⟩
theorem fl_Md_35 : FLD "PaperChanceryModel" 35 12 8 2 (.array .int) true true := ⟨_, _, _, _, _, cls_Md, by decide, rfl, .inl ⟨rfl, rfl⟩, List.mem_append_right _ (List.mem_append_right _ (List.mem_append_right _ (List.mem_append_right _ (List.mem_append_left _ (List.mem_of_getElem? (i := 206) (by decide +kernel)))))), rfl, rfl⟩
theorem fl_Md_38 : FLD "PaperChanceryModel" 38 12 9 2 (.array .int) true true := ⟨_, _, _, _, _, cls_Md, by decide, rfl, .inl ⟨rfl, rfl⟩, List.mem_append_right _ (List.mem_append_right _ (List.mem_append_right _ (List.mem_append_right _ (List.mem_append_left _ (List.mem_of_getElem? (i := 207) (by decide +kernel)))))), rfl, rfl⟩
theorem fl_Md_41 : FLD "PaperChanceryModel" 41 12 10 2 (.array .int) true true := ⟨_, _, _, _, _, cls_Md, by decide, rfl, .inl ⟨rfl, rfl⟩, List.mem_append_right _ (List.mem_append_right _ (List.mem_append_right _ (List.mem_append_right _ (List.mem_append_left _ (List.mem_of_getElem? (i := 208) (by decide +kernel)))))), rfl, rfl⟩
theorem fl_Md_44 : FLD "PaperChanceryModel" 44 12 11 0 .int false true := ⟨_, _, _, _, _, cls_Md, by decide, rfl, .inl ⟨rfl, rfl⟩, List.mem_append_right _ (List.mem_append_right _ (List.mem_append_right _ (List.mem_append_right _ (List.mem_append_left _ (List.mem_of_getElem? (i := 209) (by decide +kernel)))))), rfl, rfl⟩
theorem fl_Md_47 : FLD "PaperChanceryModel" 47 12 12 2 (.array .int) true true := ⟨_, _, _, _, _, cls_Md, by decide, rfl, .inl ⟨rfl, rfl⟩, List.mem_append_right _ (List.mem_append_right _ (List.mem_append_right _ (List.mem_append_right _ (List.mem_append_left _ (List.mem_of_getElem? (i := 210) (by decide +kernel)))))), rfl, rfl⟩
theorem fl_Md_50 : FLD "PaperChanceryModel" 50 12 13 2 (.array .int) true true := ⟨_, _, _, _, _, cls_Md, by decide, rfl, .inl ⟨rfl, rfl⟩, List.mem_append_right _ (List.mem_append_right _ (List.mem_append_right _ (List.mem_append_right _ (List.mem_append_left _ (List.mem_of_getElem? (i := 211) (by decide +kernel)))))), rfl, rfl⟩
theorem fl_Md_53 : FLD "PaperChanceryModel" 53 12 14 0 .int false true := ⟨_, _, _, _, _, cls_Md, by decide, rfl, .inl ⟨rfl, rfl⟩, List.mem_append_right _ (List.mem_append_right _ (List.mem_append_right _ (List.mem_append_right _ (List.mem_append_left _ (List.mem_of_getElem? (i := 212) (by decide +kernel)))))), rfl, rfl⟩
theorem fl_Md_56 : FLD "PaperChanceryModel" 56 12 15 0 .int false true := ⟨_, _, _, _, _, cls_Md, by decide, rfl, .inl ⟨rfl, rfl⟩, List.mem_append_right _ (List.mem_append_right _ (List.mem_append_right _ (List.mem_append_right _ (List.mem_append_left _ (List.mem_of_getElem? (i := 213) (by decide +kernel)))))), rfl, rfl⟩
theorem fl_Md_59 : FLD "PaperChanceryModel" 59 12 16 2 (.array .int) true true := ⟨_, _, _, _, _, cls_Md, by decide, rfl, .inl ⟨rfl, rfl⟩, List.mem_append_right _ (List.mem_append_right _ (List.mem_append_right _ (List.mem_append_right _ (List.mem_append_left _ (List.mem_of_getElem? (i := 214) (by decide +kernel)))))), rfl, rfl⟩
theorem fl_Md_62 : FLD "PaperChanceryModel" 62 12 17 2 (.array .int) true true := ⟨_, _, _, _, _, cls_Md, by decide, rfl, .inl ⟨rfl, rfl⟩, List.mem_append_right _ (List.mem_append_right _ (List.mem_append_right _ (List.mem_append_right _ (List.mem_append_left _ (List.mem_of_getElem? (i := 215) (by decide +kernel)))))), rfl, rfl⟩
theorem fl_Md_65 : FLD "PaperChanceryModel" 65 12 18 2 (.array .int) true true := ⟨_, _, _, _, _, cls_Md, by decide, rfl, .inl ⟨rfl, rfl⟩, List.mem_append_right _ (List.mem_append_right _ (List.mem_append_right _ (List.mem_append_right _ (List.mem_append_left _ (List.mem_of_getElem? (i := 216) (by decide +kernel)))))), rfl, rfl⟩
theorem fl_Md_68 : FLD "PaperChanceryModel" 68 12 19 2 (.array .int) true true := ⟨_, _, _, _, _, cls_Md, by decide, rfl, .inl ⟨rfl, rfl⟩, List.mem_append_right _ (List.mem_append_right _ (List.mem_append_right _ (List.mem_append_right _ (List.mem_append_left _ (List.mem_of_getElem? (i := 217) (by decide +kernel)))))), rfl, rfl⟩
theorem fl_Md_71 : FLD "PaperChanceryModel" 71 12 20 2 (.array .int) true true := ⟨_, _, _, _, _, cls_Md, by decide, rfl, .inl ⟨rfl, rfl⟩, List.mem_append_right _ (List.mem_append_right _ (List.mem_append_right _ (List.mem_append_right _ (List.mem_append_left _ (List.mem_of_getElem? (i := 218) (by decide +kernel)))))), rfl, rfl⟩
theorem fl_Md_74 : FLD "PaperChanceryModel" 74 12 21 0 .int false true := ⟨_, _, _, _, _, cls_Md, by decide, rfl, .inl ⟨rfl, rfl⟩, List.mem_append_right _ (List.mem_append_right _ (List.mem_append_right _ (List.mem_append_right _ (List.mem_append_left _ (List.mem_of_getElem? (i := 219) (by decide +kernel)))))), rfl, rfl⟩
theorem fl_Md_77 : FLD "PaperChanceryModel" 77 12 22 0 .int false true := ⟨_, _, _, _, _, cls_Md, by decide, rfl, .inl ⟨rfl, rfl⟩, List.mem_append_right _ (List.mem_append_right _ (List.mem_append_right _ (List.mem_append_right _ (List.mem_append_left _ (List.mem_of_getElem? (i := 220) (by decide +kernel)))))), rfl, rfl⟩
theorem fl_Md_80 : FLD "PaperChanceryModel" 80 12 23 0 .int false true := ⟨_, _, _, _, _, cls_Md, by decide, rfl, .inl ⟨rfl, rfl⟩, List.mem_append_right _ (List.mem_append_right _ (List.mem_append_right _ (List.mem_append_right _ (List.mem_append_left _ (List.mem_of_getElem? (i := 221) (by decide +kernel)))))), rfl, rfl⟩
theorem fl_Md_83 : FLD "PaperChanceryModel" 83 12 24 0 .int false true := ⟨_, _, _, _, _, cls_Md, by decide, rfl, .inl ⟨rfl, rfl⟩, List.mem_append_right _ (List.mem_append_right _ (List.mem_append_right _ (List.mem_append_right _ (List.mem_append_left _ (List.mem_of_getElem? (i := 222) (by decide +kernel)))))), rfl, rfl⟩
theorem fl_Md_86 : FLD "PaperChanceryModel" 86 12 25 0 .int false true := ⟨_, _, _, _, _, cls_Md, by decide, rfl, .inl ⟨rfl, rfl⟩, List.mem_append_right _ (List.mem_append_right _ (List.mem_append_right _ (List.mem_append_right _ (List.mem_append_left _ (List.mem_of_getElem? (i := 223) (by decide +kernel)))))), rfl, rfl⟩
theorem fl_Md_89 : FLD "PaperChanceryModel" 89 12 26 2 (.array .int) true true := ⟨_, _, _, _, _, cls_Md, by decide, rfl, .inl ⟨rfl, rfl⟩, List.mem_append_right _ (List.mem_append_right _ (List.mem_append_right _ (List.mem_append_right _ (List.mem_append_left _ (List.mem_of_getElem? (i := 224) (by decide +kernel)))))), rfl, rfl⟩
theorem fl_Md_92 : FLD "PaperChanceryModel" 92 12 27 2 (.array .int) true true := ⟨_, _, _, _, _, cls_Md, by decide, rfl, .inl ⟨rfl, rfl⟩, List.mem_append_right _ (List.mem_append_right _ (List.mem_append_right _ (List.mem_append_right _ (List.mem_append_left _ (List.mem_of_getElem? (i := 225) (by decide +kernel)))))), rfl, rfl⟩
theorem fl_Md_95 : FLD "PaperChanceryModel" 95 12 28 2 (.array .boolean) true true := ⟨_, _, _, _, _, cls_Md, by decide, rfl, .inl ⟨rfl, rfl⟩, List.mem_append_right _ (List.mem_append_right _ (List.mem_append_right _ (List.mem_append_right _ (List.mem_append_left _ (List.mem_of_getElem? (i := 226) (by decide +kernel)))))), rfl, rfl⟩
theorem fl_Md_99 : FLD "PaperChanceryModel" 99 12 29 2 (.array .boolean) true true := ⟨_, _, _, _, _, cls_Md, by decide, rfl, .inl ⟨rfl, rfl⟩, List.mem_append_right _ (List.mem_append_right _ (List.mem_append_right _ (List.mem_append_right _ (List.mem_append_left _ (List.mem_of_getElem? (i := 227) (by decide +kernel)))))), rfl, rfl⟩
theorem fl_Md_102 : FLD "PaperChanceryModel" 102 12 30 2 (.array .int) true true := ⟨_, _, _, _, _, cls_Md, by decide, rfl, .inl ⟨rfl, rfl⟩, List.mem_append_right _ (List.mem_append_right _ (List.mem_append_right _ (List.mem_append_right _ (List.mem_append_left _ (List.mem_of_getElem? (i := 228) (by decide +kernel)))))), rfl, rfl⟩
theorem fl_Md_105 : FLD "PaperChanceryModel" 105 12 31 2 (.array .int) true true := ⟨_, _, _, _, _, cls_Md, by decide, rfl, .inl ⟨rfl, rfl⟩, List.mem_append_right _ (List.mem_append_right _ (List.mem_append_right _ (List.mem_append_right _ (List.mem_append_left _ (List.mem_of_getElem? (i := 229) (by decide +kernel)))))), rfl, rfl⟩
theorem fl_Md_108 : FLD "PaperChanceryModel" 108 12 32 2 (.array .long) true true := ⟨_, _, _, _, _, cls_Md, by decide, rfl, .inl ⟨rfl, rfl⟩, List.mem_append_right _ (List.mem_append_right _ (List.mem_append_right _ (List.mem_append_right _ (List.mem_append_left _ (List.mem_of_getElem? (i := 230) (by decide +kernel)))))), rfl, rfl⟩
theorem fl_Md_112 : FLD "PaperChanceryModel" 112 12 33 2 (.array .boolean) true true := ⟨_, _, _, _, _, cls_Md, by decide, rfl, .inl ⟨rfl, rfl⟩, List.mem_append_right _ (List.mem_append_right _ (List.mem_append_right _ (List.mem_append_right _ (List.mem_append_left _ (List.mem_of_getElem? (i := 231) (by decide +kernel)))))), rfl, rfl⟩
theorem fl_Md_115 : FLD "PaperChanceryModel" 115 12 34 2 (.array .int) true true := ⟨_, _, _, _, _, cls_Md, by decide, rfl, .inl ⟨rfl, rfl⟩, List.mem_append_right _ (List.mem_append_right _ (List.mem_append_right _ (List.mem_append_right _ (List.mem_append_left _ (List.mem_of_getElem? (i := 232) (by decide +kernel)))))), rfl, rfl⟩
theorem fl_Md_118 : FLD "PaperChanceryModel" 118 12 35 0 .int false true := ⟨_, _, _, _, _, cls_Md, by decide, rfl, .inl ⟨rfl, rfl⟩, List.mem_append_right _ (List.mem_append_right _ (List.mem_append_right _ (List.mem_append_right _ (List.mem_append_left _ (List.mem_of_getElem? (i := 233) (by decide +kernel)))))), rfl, rfl⟩
theorem fl_Md_121 : FLD "PaperChanceryModel" 121 12 36 2 (.array .int) true true := ⟨_, _, _, _, _, cls_Md, by decide, rfl, .inl ⟨rfl, rfl⟩, List.mem_append_right _ (List.mem_append_right _ (List.mem_append_right _ (List.mem_append_right _ (List.mem_append_left _ (List.mem_of_getElem? (i := 234) (by decide +kernel)))))), rfl, rfl⟩
theorem fl_Md_124 : FLD "PaperChanceryModel" 124 12 37 2 (.array .int) true true := ⟨_, _, _, _, _, cls_Md, by decide, rfl, .inl ⟨rfl, rfl⟩, List.mem_append_right _ (List.mem_append_right _ (List.mem_append_right _ (List.mem_append_right _ (List.mem_append_left _ (List.mem_of_getElem? (i := 235) (by decide +kernel)))))), rfl, rfl⟩
theorem fl_Md_127 : FLD "PaperChanceryModel" 127 12 38 2 (.array .int) true true := ⟨_, _, _, _, _, cls_Md, by decide, rfl, .inl ⟨rfl, rfl⟩, List.mem_append_right _ (List.mem_append_right _ (List.mem_append_right _ (List.mem_append_right _ (List.mem_append_left _ (List.mem_of_getElem? (i := 236) (by decide +kernel)))))), rfl, rfl⟩
theorem fl_Md_130 : FLD "PaperChanceryModel" 130 12 39 2 (.array .boolean) true true := ⟨_, _, _, _, _, cls_Md, by decide, rfl, .inl ⟨rfl, rfl⟩, List.mem_append_right _ (List.mem_append_right _ (List.mem_append_right _ (List.mem_append_right _ (List.mem_append_left _ (List.mem_of_getElem? (i := 237) (by decide +kernel)))))), rfl, rfl⟩
theorem fl_Md_133 : FLD "PaperChanceryModel" 133 12 40 2 (.array .int) true true := ⟨_, _, _, _, _, cls_Md, by decide, rfl, .inl ⟨rfl, rfl⟩, List.mem_append_right _ (List.mem_append_right _ (List.mem_append_right _ (List.mem_append_right _ (List.mem_append_left _ (List.mem_of_getElem? (i := 238) (by decide +kernel)))))), rfl, rfl⟩
theorem fl_Md_136 : FLD "PaperChanceryModel" 136 12 41 0 .boolean false true := ⟨_, _, _, _, _, cls_Md, by decide, rfl, .inl ⟨rfl, rfl⟩, List.mem_append_right _ (List.mem_append_right _ (List.mem_append_right _ (List.mem_append_right _ (List.mem_append_left _ (List.mem_of_getElem? (i := 239) (by decide +kernel)))))), rfl, rfl⟩
theorem fl_Md_140 : FLD "PaperChanceryModel" 140 12 42 0 .int false true := ⟨_, _, _, _, _, cls_Md, by decide, rfl, .inl ⟨rfl, rfl⟩, List.mem_append_right _ (List.mem_append_right _ (List.mem_append_right _ (List.mem_append_right _ (List.mem_append_right _ (List.mem_append_left _ (List.mem_of_getElem? (i := 0) (by decide +kernel))))))), rfl, rfl⟩
theorem mi_Chan_9 : MI "PaperChancery" 9 y_Tape_init b_Tape_init 1 0 := ⟨.inr ⟨"PaperChancery", List.mem_append_right _ (List.mem_append_left _ (List.mem_of_getElem? (i := 31) (by decide +kernel)))⟩, rfl, List.mem_append_right _ (List.mem_append_left _ (List.mem_of_getElem? (i := 32) (by decide +kernel))), List.mem_append_right _ (List.mem_append_left _ (List.mem_of_getElem? (i := 2) (by decide +kernel))), List.mem_append_right _ (List.mem_append_left _ (List.mem_of_getElem? (i := 33) (by decide +kernel))), ⟨by decide +kernel, by decide +kernel, by decide +kernel⟩⟩
theorem mi_Chan_18 : MI "PaperChancery" 18 y_RuleReader_init b_RuleReader_init 2 1 := ⟨.inl (List.mem_append_right _ (List.mem_append_left _ (List.mem_of_getElem? (i := 48) (by decide +kernel)))), rfl, List.mem_append_right _ (List.mem_append_left _ (List.mem_of_getElem? (i := 49) (by decide +kernel))), List.mem_append_right _ (List.mem_append_left _ (List.mem_of_getElem? (i := 3) (by decide +kernel))), List.mem_append_right _ (List.mem_append_left _ (List.mem_of_getElem? (i := 50) (by decide +kernel))), ⟨by decide +kernel, by decide +kernel, by decide +kernel⟩⟩
theorem mi_Chan_27 : MI "PaperChancery" 27 y_Roll_init b_Roll_init 1 0 := ⟨.inr ⟨"PaperChancery", List.mem_append_right _ (List.mem_append_left _ (List.mem_of_getElem? (i := 137) (by decide +kernel)))⟩, rfl, List.mem_append_right _ (List.mem_append_left _ (List.mem_of_getElem? (i := 138) (by decide +kernel))), List.mem_append_right _ (List.mem_append_left _ (List.mem_of_getElem? (i := 6) (by decide +kernel))), List.mem_append_right _ (List.mem_append_left _ (List.mem_of_getElem? (i := 139) (by decide +kernel))), ⟨by decide +kernel, by decide +kernel, by decide +kernel⟩⟩
theorem mi_Chan_34 : MI "PaperChancery" 34 y_PaperBox_init b_PaperBox_init 1 0 := ⟨.inr ⟨"PaperChancery", List.mem_append_right _ (List.mem_append_left _ (List.mem_of_getElem? (i := 183) (by decide +kernel)))⟩, rfl, List.mem_append_right _ (List.mem_append_left _ (List.mem_of_getElem? (i := 184) (by decide +kernel))), List.mem_append_right _ (List.mem_append_left _ (List.mem_of_getElem? (i := 7) (by decide +kernel))), List.mem_append_right _ (List.mem_append_left _ (List.mem_of_getElem? (i := 185) (by decide +kernel))), ⟨by decide +kernel, by decide +kernel, by decide +kernel⟩⟩
theorem mi_Chan_41 : MI "PaperChancery" 41 y_Gazette_init b_Gazette_init 1 0 := ⟨.inr ⟨"PaperChancery", List.mem_append_right _ (List.mem_append_left _ (List.mem_of_getElem? (i := 225) (by decide +kernel)))⟩, rfl, List.mem_append_right _ (List.mem_append_left _ (List.mem_of_getElem? (i := 226) (by decide +kernel))), List.mem_append_right _ (List.mem_append_left _ (List.mem_of_getElem? (i := 8) (by decide +kernel))), List.mem_append_right _ (List.mem_append_left _ (List.mem_of_getElem? (i := 227) (by decide +kernel))), ⟨by decide +kernel, by decide +kernel, by decide +kernel⟩⟩
theorem mi_Chan_48 : MI "PaperChancery" 48 y_Reigns_init b_Reigns_init 1 0 := ⟨.inr ⟨"PaperChancery", List.mem_append_right _ (List.mem_append_right _ (List.mem_append_left _ (List.mem_of_getElem? (i := 20) (by decide +kernel))))⟩, rfl, List.mem_append_right _ (List.mem_append_right _ (List.mem_append_left _ (List.mem_of_getElem? (i := 21) (by decide +kernel)))), List.mem_append_right _ (List.mem_append_left _ (List.mem_of_getElem? (i := 9) (by decide +kernel))), List.mem_append_right _ (List.mem_append_right _ (List.mem_append_left _ (List.mem_of_getElem? (i := 22) (by decide +kernel)))), ⟨by decide +kernel, by decide +kernel, by decide +kernel⟩⟩
theorem mi_Chan_55 : MI "PaperChancery" 55 y_Course_init b_Course_init 5 4 := ⟨.inl (List.mem_append_right _ (List.mem_append_right _ (List.mem_append_left _ (List.mem_of_getElem? (i := 44) (by decide +kernel))))), rfl, List.mem_append_right _ (List.mem_append_right _ (List.mem_append_left _ (List.mem_of_getElem? (i := 45) (by decide +kernel)))), List.mem_append_right _ (List.mem_append_left _ (List.mem_of_getElem? (i := 10) (by decide +kernel))), List.mem_append_right _ (List.mem_append_right _ (List.mem_append_left _ (List.mem_of_getElem? (i := 46) (by decide +kernel)))), ⟨by decide +kernel, by decide +kernel, by decide +kernel⟩⟩
theorem mi_Chan_64 : MI "PaperChancery" 64 y_Ends_init b_Ends_init 2 1 := ⟨.inl (List.mem_append_right _ (List.mem_append_right _ (List.mem_append_left _ (List.mem_of_getElem? (i := 115) (by decide +kernel))))), rfl, List.mem_append_right _ (List.mem_append_right _ (List.mem_append_left _ (List.mem_of_getElem? (i := 116) (by decide +kernel)))), List.mem_append_right _ (List.mem_append_left _ (List.mem_of_getElem? (i := 11) (by decide +kernel))), List.mem_append_right _ (List.mem_append_right _ (List.mem_append_left _ (List.mem_of_getElem? (i := 117) (by decide +kernel)))), ⟨by decide +kernel, by decide +kernel, by decide +kernel⟩⟩
theorem mi_Chan_73 : MI "PaperChancery" 73 y_Exchange_init b_Exchange_init 1 0 := ⟨.inl (List.mem_append_right _ (List.mem_append_right _ (List.mem_append_left _ (List.mem_of_getElem? (i := 134) (by decide +kernel))))), rfl, List.mem_append_right _ (List.mem_append_right _ (List.mem_append_left _ (List.mem_of_getElem? (i := 135) (by decide +kernel)))), List.mem_append_right _ (List.mem_append_left _ (List.mem_of_getElem? (i := 13) (by decide +kernel))), List.mem_append_right _ (List.mem_append_right _ (List.mem_append_left _ (List.mem_of_getElem? (i := 136) (by decide +kernel)))), ⟨by decide +kernel, by decide +kernel, by decide +kernel⟩⟩
theorem mv_Chan_86 : MV "PaperChancery" 86 y_Tape_hasRoom b_Tape_hasRoom 1 (some (FieldType.boolean)) 0 := ⟨List.mem_append_right _ (List.mem_append_right _ (List.mem_append_left _ (List.mem_of_getElem? (i := 197) (by decide +kernel)))), List.mem_append_right _ (List.mem_append_right _ (List.mem_append_left _ (List.mem_of_getElem? (i := 198) (by decide +kernel)))), List.mem_append_right _ (List.mem_append_right _ (List.mem_append_left _ (List.mem_of_getElem? (i := 199) (by decide +kernel)))), List.mem_append_right _ (List.mem_append_left _ (List.mem_of_getElem? (i := 2) (by decide +kernel))), List.mem_append_right _ (List.mem_append_right _ (List.mem_append_left _ (List.mem_of_getElem? (i := 200) (by decide +kernel)))), ⟨by decide +kernel, by decide +kernel, by decide +kernel⟩⟩
theorem mv_Chan_90 : MV "PaperChancery" 90 y_Tape_append b_Tape_append 3 none 1 := ⟨List.mem_append_right _ (List.mem_append_right _ (List.mem_append_left _ (List.mem_of_getElem? (i := 201) (by decide +kernel)))), List.mem_append_right _ (List.mem_append_right _ (List.mem_append_left _ (List.mem_of_getElem? (i := 202) (by decide +kernel)))), List.mem_append_right _ (List.mem_append_right _ (List.mem_append_left _ (List.mem_of_getElem? (i := 203) (by decide +kernel)))), List.mem_append_right _ (List.mem_append_left _ (List.mem_of_getElem? (i := 2) (by decide +kernel))), List.mem_append_right _ (List.mem_append_right _ (List.mem_append_left _ (List.mem_of_getElem? (i := 204) (by decide +kernel)))), ⟨by decide +kernel, by decide +kernel, by decide +kernel⟩⟩
theorem mv_Chan_97 : MV "PaperChancery" 97 y_Tape_cutTo b_Tape_cutTo 2 (some (FieldType.boolean)) 1 := ⟨List.mem_append_right _ (List.mem_append_right _ (List.mem_append_left _ (List.mem_of_getElem? (i := 209) (by decide +kernel)))), List.mem_append_right _ (List.mem_append_right _ (List.mem_append_left _ (List.mem_of_getElem? (i := 210) (by decide +kernel)))), List.mem_append_right _ (List.mem_append_right _ (List.mem_append_left _ (List.mem_of_getElem? (i := 211) (by decide +kernel)))), List.mem_append_right _ (List.mem_append_left _ (List.mem_of_getElem? (i := 2) (by decide +kernel))), List.mem_append_right _ (List.mem_append_right _ (List.mem_append_left _ (List.mem_of_getElem? (i := 212) (by decide +kernel)))), ⟨by decide +kernel, by decide +kernel, by decide +kernel⟩⟩
theorem ms_Chan_101 : MS "PaperChancery" 101 y_Chan_isWithin b_Chan_isWithin 3 (some (FieldType.boolean)) 3 := ⟨List.mem_append_right _ (List.mem_append_right _ (List.mem_append_left _ (List.mem_of_getElem? (i := 217) (by decide +kernel)))), List.mem_append_right _ (List.mem_append_right _ (List.mem_append_left _ (List.mem_of_getElem? (i := 218) (by decide +kernel)))), List.mem_append_right _ (List.mem_append_left _ (List.mem_of_getElem? (i := 1) (by decide +kernel))), List.mem_append_right _ (List.mem_append_right _ (List.mem_append_left _ (List.mem_of_getElem? (i := 219) (by decide +kernel)))), ⟨by decide +kernel, by decide +kernel, by decide +kernel⟩⟩
theorem mv_Chan_105 : MV "PaperChancery" 105 y_Roll_addPerson b_Roll_addPerson 4 (some (FieldType.int)) 3 := ⟨List.mem_append_right _ (List.mem_append_right _ (List.mem_append_left _ (List.mem_of_getElem? (i := 220) (by decide +kernel)))), List.mem_append_right _ (List.mem_append_right _ (List.mem_append_left _ (List.mem_of_getElem? (i := 221) (by decide +kernel)))), List.mem_append_right _ (List.mem_append_right _ (List.mem_append_left _ (List.mem_of_getElem? (i := 222) (by decide +kernel)))), List.mem_append_right _ (List.mem_append_left _ (List.mem_of_getElem? (i := 6) (by decide +kernel))), List.mem_append_right _ (List.mem_append_right _ (List.mem_append_left _ (List.mem_of_getElem? (i := 223) (by decide +kernel)))), ⟨by decide +kernel, by decide +kernel, by decide +kernel⟩⟩
theorem mv_Chan_109 : MV "PaperChancery" 109 y_Roll_addPost b_Roll_addPost 3 (some (FieldType.int)) 2 := ⟨List.mem_append_right _ (List.mem_append_right _ (List.mem_append_left _ (List.mem_of_getElem? (i := 228) (by decide +kernel)))), List.mem_append_right _ (List.mem_append_right _ (List.mem_append_left _ (List.mem_of_getElem? (i := 229) (by decide +kernel)))), List.mem_append_right _ (List.mem_append_right _ (List.mem_append_left _ (List.mem_of_getElem? (i := 230) (by decide +kernel)))), List.mem_append_right _ (List.mem_append_left _ (List.mem_of_getElem? (i := 6) (by decide +kernel))), List.mem_append_right _ (List.mem_append_right _ (List.mem_append_left _ (List.mem_of_getElem? (i := 231) (by decide +kernel)))), ⟨by decide +kernel, by decide +kernel, by decide +kernel⟩⟩
theorem mv_Chan_113 : MV "PaperChancery" 113 y_Roll_isPost b_Roll_isPost 2 (some (FieldType.boolean)) 1 := ⟨List.mem_append_right _ (List.mem_append_right _ (List.mem_append_left _ (List.mem_of_getElem? (i := 236) (by decide +kernel)))), List.mem_append_right _ (List.mem_append_right _ (List.mem_append_left _ (List.mem_of_getElem? (i := 237) (by decide +kernel)))), List.mem_append_right _ (List.mem_append_right _ (List.mem_append_left _ (List.mem_of_getElem? (i := 238) (by decide +kernel)))), List.mem_append_right _ (List.mem_append_left _ (List.mem_of_getElem? (i := 6) (by decide +kernel))), List.mem_append_right _ (List.mem_append_right _ (List.mem_append_left _ (List.mem_of_getElem? (i := 239) (by decide +kernel)))), ⟨by decide +kernel, by decide +kernel, by decide +kernel⟩⟩
theorem mv_Chan_116 : MV "PaperChancery" 116 y_Roll_isPerson b_Roll_isPerson 2 (some (FieldType.boolean)) 1 := ⟨List.mem_append_right _ (List.mem_append_right _ (List.mem_append_right _ (List.mem_append_left _ (List.mem_of_getElem? (i := 0) (by decide +kernel))))), List.mem_append_right _ (List.mem_append_right _ (List.mem_append_right _ (List.mem_append_left _ (List.mem_of_getElem? (i := 1) (by decide +kernel))))), List.mem_append_right _ (List.mem_append_right _ (List.mem_append_right _ (List.mem_append_left _ (List.mem_of_getElem? (i := 2) (by decide +kernel))))), List.mem_append_right _ (List.mem_append_left _ (List.mem_of_getElem? (i := 6) (by decide +kernel))), List.mem_append_right _ (List.mem_append_right _ (List.mem_append_right _ (List.mem_append_left _ (List.mem_of_getElem? (i := 3) (by decide +kernel))))), ⟨by decide +kernel, by decide +kernel, by decide +kernel⟩⟩
theorem mv_Chan_122 : MV "PaperChancery" 122 y_Roll_putSeat b_Roll_putSeat 3 none 2 := ⟨List.mem_append_right _ (List.mem_append_right _ (List.mem_append_right _ (List.mem_append_left _ (List.mem_of_getElem? (i := 4) (by decide +kernel))))), List.mem_append_right _ (List.mem_append_right _ (List.mem_append_right _ (List.mem_append_left _ (List.mem_of_getElem? (i := 5) (by decide +kernel))))), List.mem_append_right _ (List.mem_append_right _ (List.mem_append_right _ (List.mem_append_left _ (List.mem_of_getElem? (i := 6) (by decide +kernel))))), List.mem_append_right _ (List.mem_append_left _ (List.mem_of_getElem? (i := 6) (by decide +kernel))), List.mem_append_right _ (List.mem_append_right _ (List.mem_append_right _ (List.mem_append_left _ (List.mem_of_getElem? (i := 7) (by decide +kernel))))), ⟨by decide +kernel, by decide +kernel, by decide +kernel⟩⟩
theorem mv_Chan_126 : MV "PaperChancery" 126 y_RuleReader_read b_RuleReader_read 3 (some (FieldType.boolean)) 0 := ⟨List.mem_append_right _ (List.mem_append_right _ (List.mem_append_right _ (List.mem_append_left _ (List.mem_of_getElem? (i := 13) (by decide +kernel))))), List.mem_append_right _ (List.mem_append_right _ (List.mem_append_right _ (List.mem_append_left _ (List.mem_of_getElem? (i := 14) (by decide +kernel))))), List.mem_append_right _ (List.mem_append_right _ (List.mem_append_right _ (List.mem_append_left _ (List.mem_of_getElem? (i := 15) (by decide +kernel))))), List.mem_append_right _ (List.mem_append_left _ (List.mem_of_getElem? (i := 3) (by decide +kernel))), List.mem_append_right _ (List.mem_append_right _ (List.mem_append_right _ (List.mem_append_left _ (List.mem_of_getElem? (i := 16) (by decide +kernel))))), ⟨by decide +kernel, by decide +kernel, by decide +kernel⟩⟩
theorem ms_Chan_129 : MS "PaperChancery" 129 y_Chan_isTime b_Chan_isTime 1 (some (FieldType.boolean)) 1 := ⟨List.mem_append_right _ (List.mem_append_right _ (List.mem_append_right _ (List.mem_append_left _ (List.mem_of_getElem? (i := 144) (by decide +kernel))))), List.mem_append_right _ (List.mem_append_right _ (List.mem_append_right _ (List.mem_append_left _ (List.mem_of_getElem? (i := 145) (by decide +kernel))))), List.mem_append_right _ (List.mem_append_left _ (List.mem_of_getElem? (i := 1) (by decide +kernel))), List.mem_append_right _ (List.mem_append_right _ (List.mem_append_right _ (List.mem_append_left _ (List.mem_of_getElem? (i := 146) (by decide +kernel))))), ⟨by decide +kernel, by decide +kernel, by decide +kernel⟩⟩
theorem mv_Chan_137 : MV "PaperChancery" 137 y_Reigns_add b_Reigns_add 4 none 2 := ⟨List.mem_append_right _ (List.mem_append_right _ (List.mem_append_right _ (List.mem_append_left _ (List.mem_of_getElem? (i := 148) (by decide +kernel))))), List.mem_append_right _ (List.mem_append_right _ (List.mem_append_right _ (List.mem_append_left _ (List.mem_of_getElem? (i := 149) (by decide +kernel))))), List.mem_append_right _ (List.mem_append_right _ (List.mem_append_right _ (List.mem_append_left _ (List.mem_of_getElem? (i := 150) (by decide +kernel))))), List.mem_append_right _ (List.mem_append_left _ (List.mem_of_getElem? (i := 9) (by decide +kernel))), List.mem_append_right _ (List.mem_append_right _ (List.mem_append_right _ (List.mem_append_left _ (List.mem_of_getElem? (i := 151) (by decide +kernel))))), ⟨by decide +kernel, by decide +kernel, by decide +kernel⟩⟩
theorem mv_Chan_155 : MV "PaperChancery" 155 y_PaperBox_isFull b_PaperBox_isFull 1 (some (FieldType.boolean)) 0 := ⟨List.mem_append_right _ (List.mem_append_right _ (List.mem_append_right _ (List.mem_append_left _ (List.mem_of_getElem? (i := 168) (by decide +kernel))))), List.mem_append_right _ (List.mem_append_right _ (List.mem_append_right _ (List.mem_append_left _ (List.mem_of_getElem? (i := 169) (by decide +kernel))))), List.mem_append_right _ (List.mem_append_right _ (List.mem_append_right _ (List.mem_append_left _ (List.mem_of_getElem? (i := 170) (by decide +kernel))))), List.mem_append_right _ (List.mem_append_left _ (List.mem_of_getElem? (i := 7) (by decide +kernel))), List.mem_append_right _ (List.mem_append_right _ (List.mem_append_right _ (List.mem_append_left _ (List.mem_of_getElem? (i := 171) (by decide +kernel))))), ⟨by decide +kernel, by decide +kernel, by decide +kernel⟩⟩
theorem mv_Chan_158 : MV "PaperChancery" 158 y_Gazette_isFull b_Gazette_isFull 1 (some (FieldType.boolean)) 0 := ⟨List.mem_append_right _ (List.mem_append_right _ (List.mem_append_right _ (List.mem_append_left _ (List.mem_of_getElem? (i := 172) (by decide +kernel))))), List.mem_append_right _ (List.mem_append_right _ (List.mem_append_right _ (List.mem_append_left _ (List.mem_of_getElem? (i := 173) (by decide +kernel))))), List.mem_append_right _ (List.mem_append_right _ (List.mem_append_right _ (List.mem_append_left _ (List.mem_of_getElem? (i := 174) (by decide +kernel))))), List.mem_append_right _ (List.mem_append_left _ (List.mem_of_getElem? (i := 8) (by decide +kernel))), List.mem_append_right _ (List.mem_append_right _ (List.mem_append_right _ (List.mem_append_left _ (List.mem_of_getElem? (i := 175) (by decide +kernel))))), ⟨by decide +kernel, by decide +kernel, by decide +kernel⟩⟩
theorem mv_Chan_160 : MV "PaperChancery" 160 y_Gazette_add b_Gazette_add 5 (some (FieldType.int)) 4 := ⟨List.mem_append_right _ (List.mem_append_right _ (List.mem_append_right _ (List.mem_append_left _ (List.mem_of_getElem? (i := 176) (by decide +kernel))))), List.mem_append_right _ (List.mem_append_right _ (List.mem_append_right _ (List.mem_append_left _ (List.mem_of_getElem? (i := 177) (by decide +kernel))))), List.mem_append_right _ (List.mem_append_right _ (List.mem_append_right _ (List.mem_append_left _ (List.mem_of_getElem? (i := 178) (by decide +kernel))))), List.mem_append_right _ (List.mem_append_left _ (List.mem_of_getElem? (i := 8) (by decide +kernel))), List.mem_append_right _ (List.mem_append_right _ (List.mem_append_right _ (List.mem_append_left _ (List.mem_of_getElem? (i := 179) (by decide +kernel))))), ⟨by decide +kernel, by decide +kernel, by decide +kernel⟩⟩
theorem mv_Chan_163 : MV "PaperChancery" 163 y_PaperBox_add b_PaperBox_add 8 none 7 := ⟨List.mem_append_right _ (List.mem_append_right _ (List.mem_append_right _ (List.mem_append_left _ (List.mem_of_getElem? (i := 185) (by decide +kernel))))), List.mem_append_right _ (List.mem_append_right _ (List.mem_append_right _ (List.mem_append_left _ (List.mem_of_getElem? (i := 186) (by decide +kernel))))), List.mem_append_right _ (List.mem_append_right _ (List.mem_append_right _ (List.mem_append_left _ (List.mem_of_getElem? (i := 187) (by decide +kernel))))), List.mem_append_right _ (List.mem_append_left _ (List.mem_of_getElem? (i := 7) (by decide +kernel))), List.mem_append_right _ (List.mem_append_right _ (List.mem_append_right _ (List.mem_append_left _ (List.mem_of_getElem? (i := 188) (by decide +kernel))))), ⟨by decide +kernel, by decide +kernel, by decide +kernel⟩⟩
theorem mv_Chan_166 : MV "PaperChancery" 166 y_PaperBox_has b_PaperBox_has 2 (some (FieldType.boolean)) 1 := ⟨List.mem_append_right _ (List.mem_append_right _ (List.mem_append_right _ (List.mem_append_left _ (List.mem_of_getElem? (i := 206) (by decide +kernel))))), List.mem_append_right _ (List.mem_append_right _ (List.mem_append_right _ (List.mem_append_left _ (List.mem_of_getElem? (i := 207) (by decide +kernel))))), List.mem_append_right _ (List.mem_append_right _ (List.mem_append_right _ (List.mem_append_left _ (List.mem_of_getElem? (i := 208) (by decide +kernel))))), List.mem_append_right _ (List.mem_append_left _ (List.mem_of_getElem? (i := 7) (by decide +kernel))), List.mem_append_right _ (List.mem_append_right _ (List.mem_append_right _ (List.mem_append_left _ (List.mem_of_getElem? (i := 209) (by decide +kernel))))), ⟨by decide +kernel, by decide +kernel, by decide +kernel⟩⟩
theorem mv_Chan_172 : MV "PaperChancery" 172 y_Chan_knownNow b_Chan_knownNow 1 (some (FieldType.int)) 0 := ⟨List.mem_append_right _ (List.mem_append_right _ (List.mem_append_right _ (List.mem_append_left _ (List.mem_of_getElem? (i := 218) (by decide +kernel))))), List.mem_append_right _ (List.mem_append_right _ (List.mem_append_right _ (List.mem_append_left _ (List.mem_of_getElem? (i := 220) (by decide +kernel))))), List.mem_append_left _ (List.mem_of_getElem? (i := 15) (by decide +kernel)), List.mem_append_right _ (List.mem_append_left _ (List.mem_of_getElem? (i := 1) (by decide +kernel))), List.mem_append_right _ (List.mem_append_right _ (List.mem_append_right _ (List.mem_append_left _ (List.mem_of_getElem? (i := 221) (by decide +kernel))))), ⟨by decide +kernel, by decide +kernel, by decide +kernel⟩⟩
theorem mv_Chan_176 : MV "PaperChancery" 176 y_Course_tell b_Course_tell 5 none 2 := ⟨List.mem_append_right _ (List.mem_append_right _ (List.mem_append_right _ (List.mem_append_left _ (List.mem_of_getElem? (i := 222) (by decide +kernel))))), List.mem_append_right _ (List.mem_append_right _ (List.mem_append_right _ (List.mem_append_left _ (List.mem_of_getElem? (i := 223) (by decide +kernel))))), List.mem_append_right _ (List.mem_append_right _ (List.mem_append_right _ (List.mem_append_left _ (List.mem_of_getElem? (i := 224) (by decide +kernel))))), List.mem_append_right _ (List.mem_append_left _ (List.mem_of_getElem? (i := 10) (by decide +kernel))), List.mem_append_right _ (List.mem_append_right _ (List.mem_append_right _ (List.mem_append_left _ (List.mem_of_getElem? (i := 225) (by decide +kernel))))), ⟨by decide +kernel, by decide +kernel, by decide +kernel⟩⟩
theorem mv_Chan_182 : MV "PaperChancery" 182 y_PaperBox_isKnown b_PaperBox_isKnown 3 (some (FieldType.boolean)) 2 := ⟨List.mem_append_right _ (List.mem_append_right _ (List.mem_append_right _ (List.mem_append_right _ (List.mem_append_left _ (List.mem_of_getElem? (i := 78) (by decide +kernel)))))), List.mem_append_right _ (List.mem_append_right _ (List.mem_append_right _ (List.mem_append_right _ (List.mem_append_left _ (List.mem_of_getElem? (i := 79) (by decide +kernel)))))), List.mem_append_right _ (List.mem_append_right _ (List.mem_append_right _ (List.mem_append_right _ (List.mem_append_left _ (List.mem_of_getElem? (i := 80) (by decide +kernel)))))), List.mem_append_right _ (List.mem_append_left _ (List.mem_of_getElem? (i := 7) (by decide +kernel))), List.mem_append_right _ (List.mem_append_right _ (List.mem_append_right _ (List.mem_append_right _ (List.mem_append_left _ (List.mem_of_getElem? (i := 81) (by decide +kernel)))))), ⟨by decide +kernel, by decide +kernel, by decide +kernel⟩⟩
theorem mv_Chan_208 : MV "PaperChancery" 208 y_Course_earnedBy b_Course_earnedBy 5 (some (FieldType.long)) 1 := ⟨List.mem_append_right _ (List.mem_append_right _ (List.mem_append_right _ (List.mem_append_right _ (List.mem_append_left _ (List.mem_of_getElem? (i := 92) (by decide +kernel)))))), List.mem_append_right _ (List.mem_append_right _ (List.mem_append_right _ (List.mem_append_right _ (List.mem_append_left _ (List.mem_of_getElem? (i := 93) (by decide +kernel)))))), List.mem_append_right _ (List.mem_append_right _ (List.mem_append_right _ (List.mem_append_right _ (List.mem_append_left _ (List.mem_of_getElem? (i := 94) (by decide +kernel)))))), List.mem_append_right _ (List.mem_append_left _ (List.mem_of_getElem? (i := 10) (by decide +kernel))), List.mem_append_right _ (List.mem_append_right _ (List.mem_append_right _ (List.mem_append_right _ (List.mem_append_left _ (List.mem_of_getElem? (i := 95) (by decide +kernel)))))), ⟨by decide +kernel, by decide +kernel, by decide +kernel⟩⟩
theorem mv_Chan_214 : MV "PaperChancery" 214 y_Course_gatherClaims b_Course_gatherClaims 7 (some (FieldType.int)) 2 := ⟨List.mem_append_right _ (List.mem_append_right _ (List.mem_append_right _ (List.mem_append_right _ (List.mem_append_left _ (List.mem_of_getElem? (i := 101) (by decide +kernel)))))), List.mem_append_right _ (List.mem_append_right _ (List.mem_append_right _ (List.mem_append_right _ (List.mem_append_left _ (List.mem_of_getElem? (i := 102) (by decide +kernel)))))), List.mem_append_right _ (List.mem_append_right _ (List.mem_append_right _ (List.mem_append_right _ (List.mem_append_left _ (List.mem_of_getElem? (i := 103) (by decide +kernel)))))), List.mem_append_right _ (List.mem_append_left _ (List.mem_of_getElem? (i := 10) (by decide +kernel))), List.mem_append_right _ (List.mem_append_right _ (List.mem_append_right _ (List.mem_append_right _ (List.mem_append_left _ (List.mem_of_getElem? (i := 104) (by decide +kernel)))))), ⟨by decide +kernel, by decide +kernel, by decide +kernel⟩⟩
theorem mv_Chan_221 : MV "PaperChancery" 221 y_Course_duelWhenFree b_Course_duelWhenFree 6 (some (FieldType.int)) 3 := ⟨List.mem_append_right _ (List.mem_append_right _ (List.mem_append_right _ (List.mem_append_right _ (List.mem_append_left _ (List.mem_of_getElem? (i := 113) (by decide +kernel)))))), List.mem_append_right _ (List.mem_append_right _ (List.mem_append_right _ (List.mem_append_right _ (List.mem_append_left _ (List.mem_of_getElem? (i := 114) (by decide +kernel)))))), List.mem_append_right _ (List.mem_append_right _ (List.mem_append_right _ (List.mem_append_right _ (List.mem_append_left _ (List.mem_of_getElem? (i := 115) (by decide +kernel)))))), List.mem_append_right _ (List.mem_append_left _ (List.mem_of_getElem? (i := 10) (by decide +kernel))), List.mem_append_right _ (List.mem_append_right _ (List.mem_append_right _ (List.mem_append_right _ (List.mem_append_left _ (List.mem_of_getElem? (i := 116) (by decide +kernel)))))), ⟨by decide +kernel, by decide +kernel, by decide +kernel⟩⟩
theorem mv_Chan_224 : MV "PaperChancery" 224 y_Ends_knows b_Ends_knows 2 (some (FieldType.boolean)) 1 := ⟨List.mem_append_right _ (List.mem_append_right _ (List.mem_append_right _ (List.mem_append_right _ (List.mem_append_left _ (List.mem_of_getElem? (i := 121) (by decide +kernel)))))), List.mem_append_right _ (List.mem_append_right _ (List.mem_append_right _ (List.mem_append_right _ (List.mem_append_left _ (List.mem_of_getElem? (i := 122) (by decide +kernel)))))), List.mem_append_right _ (List.mem_append_right _ (List.mem_append_right _ (List.mem_append_right _ (List.mem_append_left _ (List.mem_of_getElem? (i := 123) (by decide +kernel)))))), List.mem_append_right _ (List.mem_append_left _ (List.mem_of_getElem? (i := 11) (by decide +kernel))), List.mem_append_right _ (List.mem_append_right _ (List.mem_append_right _ (List.mem_append_right _ (List.mem_append_left _ (List.mem_of_getElem? (i := 124) (by decide +kernel)))))), ⟨by decide +kernel, by decide +kernel, by decide +kernel⟩⟩
theorem mv_Chan_227 : MV "PaperChancery" 227 y_Ends_keep b_Ends_keep 3 none 2 := ⟨List.mem_append_right _ (List.mem_append_right _ (List.mem_append_right _ (List.mem_append_right _ (List.mem_append_left _ (List.mem_of_getElem? (i := 125) (by decide +kernel)))))), List.mem_append_right _ (List.mem_append_right _ (List.mem_append_right _ (List.mem_append_right _ (List.mem_append_left _ (List.mem_of_getElem? (i := 126) (by decide +kernel)))))), List.mem_append_right _ (List.mem_append_right _ (List.mem_append_right _ (List.mem_append_right _ (List.mem_append_left _ (List.mem_of_getElem? (i := 127) (by decide +kernel)))))), List.mem_append_right _ (List.mem_append_left _ (List.mem_of_getElem? (i := 11) (by decide +kernel))), List.mem_append_right _ (List.mem_append_right _ (List.mem_append_right _ (List.mem_append_right _ (List.mem_append_left _ (List.mem_of_getElem? (i := 128) (by decide +kernel)))))), ⟨by decide +kernel, by decide +kernel, by decide +kernel⟩⟩
theorem mv_Chan_231 : MV "PaperChancery" 231 y_Ends_holderOf b_Ends_holderOf 3 (some (FieldType.int)) 2 := ⟨List.mem_append_right _ (List.mem_append_right _ (List.mem_append_right _ (List.mem_append_right _ (List.mem_append_left _ (List.mem_of_getElem? (i := 130) (by decide +kernel)))))), List.mem_append_right _ (List.mem_append_right _ (List.mem_append_right _ (List.mem_append_right _ (List.mem_append_left _ (List.mem_of_getElem? (i := 131) (by decide +kernel)))))), List.mem_append_right _ (List.mem_append_right _ (List.mem_append_right _ (List.mem_append_right _ (List.mem_append_left _ (List.mem_of_getElem? (i := 132) (by decide +kernel)))))), List.mem_append_right _ (List.mem_append_left _ (List.mem_of_getElem? (i := 11) (by decide +kernel))), List.mem_append_right _ (List.mem_append_right _ (List.mem_append_right _ (List.mem_append_right _ (List.mem_append_left _ (List.mem_of_getElem? (i := 133) (by decide +kernel)))))), ⟨by decide +kernel, by decide +kernel, by decide +kernel⟩⟩
theorem mv_Chan_240 : MV "PaperChancery" 240 y_Course_freePosts b_Course_freePosts 3 (some (FieldType.int)) 0 := ⟨List.mem_append_right _ (List.mem_append_right _ (List.mem_append_right _ (List.mem_append_right _ (List.mem_append_left _ (List.mem_of_getElem? (i := 140) (by decide +kernel)))))), List.mem_append_right _ (List.mem_append_right _ (List.mem_append_right _ (List.mem_append_right _ (List.mem_append_left _ (List.mem_of_getElem? (i := 141) (by decide +kernel)))))), List.mem_append_right _ (List.mem_append_right _ (List.mem_append_right _ (List.mem_append_right _ (List.mem_append_left _ (List.mem_of_getElem? (i := 142) (by decide +kernel)))))), List.mem_append_right _ (List.mem_append_left _ (List.mem_of_getElem? (i := 10) (by decide +kernel))), List.mem_append_right _ (List.mem_append_right _ (List.mem_append_right _ (List.mem_append_right _ (List.mem_append_left _ (List.mem_of_getElem? (i := 143) (by decide +kernel)))))), ⟨by decide +kernel, by decide +kernel, by decide +kernel⟩⟩
theorem mv_Chan_243 : MV "PaperChancery" 243 y_Exchange_addWish b_Exchange_addWish 5 (some (FieldType.int)) 2 := ⟨List.mem_append_right _ (List.mem_append_right _ (List.mem_append_right _ (List.mem_append_right _ (List.mem_append_left _ (List.mem_of_getElem? (i := 148) (by decide +kernel)))))), List.mem_append_right _ (List.mem_append_right _ (List.mem_append_right _ (List.mem_append_right _ (List.mem_append_left _ (List.mem_of_getElem? (i := 149) (by decide +kernel)))))), List.mem_append_right _ (List.mem_append_right _ (List.mem_append_right _ (List.mem_append_right _ (List.mem_append_left _ (List.mem_of_getElem? (i := 150) (by decide +kernel)))))), List.mem_append_right _ (List.mem_append_left _ (List.mem_of_getElem? (i := 13) (by decide +kernel))), List.mem_append_right _ (List.mem_append_right _ (List.mem_append_right _ (List.mem_append_right _ (List.mem_append_left _ (List.mem_of_getElem? (i := 151) (by decide +kernel)))))), ⟨by decide +kernel, by decide +kernel, by decide +kernel⟩⟩
theorem mv_Chan_246 : MV "PaperChancery" 246 y_Exchange_dropWishes b_Exchange_dropWishes 3 (some (FieldType.int)) 1 := ⟨List.mem_append_right _ (List.mem_append_right _ (List.mem_append_right _ (List.mem_append_right _ (List.mem_append_left _ (List.mem_of_getElem? (i := 156) (by decide +kernel)))))), List.mem_append_right _ (List.mem_append_right _ (List.mem_append_right _ (List.mem_append_right _ (List.mem_append_left _ (List.mem_of_getElem? (i := 157) (by decide +kernel)))))), List.mem_append_right _ (List.mem_append_right _ (List.mem_append_right _ (List.mem_append_right _ (List.mem_append_left _ (List.mem_of_getElem? (i := 158) (by decide +kernel)))))), List.mem_append_right _ (List.mem_append_left _ (List.mem_of_getElem? (i := 13) (by decide +kernel))), List.mem_append_right _ (List.mem_append_right _ (List.mem_append_right _ (List.mem_append_right _ (List.mem_append_left _ (List.mem_of_getElem? (i := 159) (by decide +kernel)))))), ⟨by decide +kernel, by decide +kernel, by decide +kernel⟩⟩
theorem mv_Chan_250 : MV "PaperChancery" 250 y_Exchange_turn b_Exchange_turn 5 (some (FieldType.int)) 2 := ⟨List.mem_append_right _ (List.mem_append_right _ (List.mem_append_right _ (List.mem_append_right _ (List.mem_append_left _ (List.mem_of_getElem? (i := 164) (by decide +kernel)))))), List.mem_append_right _ (List.mem_append_right _ (List.mem_append_right _ (List.mem_append_right _ (List.mem_append_left _ (List.mem_of_getElem? (i := 165) (by decide +kernel)))))), List.mem_append_right _ (List.mem_append_right _ (List.mem_append_right _ (List.mem_append_right _ (List.mem_append_left _ (List.mem_of_getElem? (i := 166) (by decide +kernel)))))), List.mem_append_right _ (List.mem_append_left _ (List.mem_of_getElem? (i := 13) (by decide +kernel))), List.mem_append_right _ (List.mem_append_right _ (List.mem_append_right _ (List.mem_append_right _ (List.mem_append_left _ (List.mem_of_getElem? (i := 167) (by decide +kernel)))))), ⟨by decide +kernel, by decide +kernel, by decide +kernel⟩⟩
theorem mv_Course_84 : MV "PaperChancery$Course" 84 y_Course_begin b_Course_begin 2 none 0 := ⟨List.mem_append_right _ (List.mem_append_right _ (List.mem_append_right _ (List.mem_append_left _ (List.mem_of_getElem? (i := 226) (by decide +kernel))))), List.mem_append_right _ (List.mem_append_right _ (List.mem_append_right _ (List.mem_append_left _ (List.mem_of_getElem? (i := 228) (by decide +kernel))))), List.mem_append_left _ (List.mem_of_getElem? (i := 16) (by decide +kernel)), List.mem_append_right _ (List.mem_append_left _ (List.mem_of_getElem? (i := 10) (by decide +kernel))), List.mem_append_right _ (List.mem_append_right _ (List.mem_append_right _ (List.mem_append_left _ (List.mem_of_getElem? (i := 229) (by decide +kernel))))), ⟨by decide +kernel, by decide +kernel, by decide +kernel⟩⟩
theorem mv_Course_98 : MV "PaperChancery$Course" 98 y_Course_goTo b_Course_goTo 2 none 1 := ⟨List.mem_append_right _ (List.mem_append_right _ (List.mem_append_right _ (List.mem_append_left _ (List.mem_of_getElem? (i := 238) (by decide +kernel))))), List.mem_append_right _ (List.mem_append_right _ (List.mem_append_right _ (List.mem_append_right _ (List.mem_append_left _ (List.mem_of_getElem? (i := 0) (by decide +kernel)))))), List.mem_append_left _ (List.mem_of_getElem? (i := 18) (by decide +kernel)), List.mem_append_right _ (List.mem_append_left _ (List.mem_of_getElem? (i := 10) (by decide +kernel))), List.mem_append_right _ (List.mem_append_right _ (List.mem_append_right _ (List.mem_append_right _ (List.mem_append_left _ (List.mem_of_getElem? (i := 1) (by decide +kernel)))))), ⟨by decide +kernel, by decide +kernel, by decide +kernel⟩⟩
theorem mv_Course_102 : MV "PaperChancery$Course" 102 y_Course_happen b_Course_happen 5 none 2 := ⟨List.mem_append_right _ (List.mem_append_right _ (List.mem_append_right _ (List.mem_append_right _ (List.mem_append_left _ (List.mem_of_getElem? (i := 6) (by decide +kernel)))))), List.mem_append_right _ (List.mem_append_right _ (List.mem_append_right _ (List.mem_append_right _ (List.mem_append_left _ (List.mem_of_getElem? (i := 8) (by decide +kernel)))))), List.mem_append_left _ (List.mem_of_getElem? (i := 19) (by decide +kernel)), List.mem_append_right _ (List.mem_append_left _ (List.mem_of_getElem? (i := 10) (by decide +kernel))), List.mem_append_right _ (List.mem_append_right _ (List.mem_append_right _ (List.mem_append_right _ (List.mem_append_left _ (List.mem_of_getElem? (i := 9) (by decide +kernel)))))), ⟨by decide +kernel, by decide +kernel, by decide +kernel⟩⟩
theorem ms_Course_106 : MS "PaperChancery$Course" 106 y_Arrays_fill_i b_Arrays_fill_i 4 none 2 := ⟨List.mem_append_right _ (List.mem_append_right _ (List.mem_append_right _ (List.mem_append_left _ (List.mem_of_getElem? (i := 230) (by decide +kernel))))), List.mem_append_right _ (List.mem_append_right _ (List.mem_append_left _ (List.mem_of_getElem? (i := 120) (by decide +kernel)))), List.mem_append_right _ (List.mem_append_left _ (List.mem_of_getElem? (i := 12) (by decide +kernel))), List.mem_append_right _ (List.mem_append_right _ (List.mem_append_left _ (List.mem_of_getElem? (i := 121) (by decide +kernel)))), ⟨by decide +kernel, by decide +kernel, by decide +kernel⟩⟩
theorem ms_Course_112 : MS "PaperChancery$Course" 112 y_Arrays_fill_l b_Arrays_fill_l 5 none 2 := ⟨List.mem_append_right _ (List.mem_append_right _ (List.mem_append_right _ (List.mem_append_left _ (List.mem_of_getElem? (i := 231) (by decide +kernel))))), List.mem_append_right _ (List.mem_append_right _ (List.mem_append_right _ (List.mem_append_left _ (List.mem_of_getElem? (i := 232) (by decide +kernel))))), List.mem_append_right _ (List.mem_append_left _ (List.mem_of_getElem? (i := 12) (by decide +kernel))), List.mem_append_right _ (List.mem_append_right _ (List.mem_append_right _ (List.mem_append_left _ (List.mem_of_getElem? (i := 233) (by decide +kernel))))), ⟨by decide +kernel, by decide +kernel, by decide +kernel⟩⟩
theorem mv_Course_121 : MV "PaperChancery$Course" 121 y_Course_place b_Course_place 3 none 2 := ⟨List.mem_append_right _ (List.mem_append_right _ (List.mem_append_right _ (List.mem_append_left _ (List.mem_of_getElem? (i := 234) (by decide +kernel))))), List.mem_append_right _ (List.mem_append_right _ (List.mem_append_right _ (List.mem_append_left _ (List.mem_of_getElem? (i := 236) (by decide +kernel))))), List.mem_append_left _ (List.mem_of_getElem? (i := 17) (by decide +kernel)), List.mem_append_right _ (List.mem_append_left _ (List.mem_of_getElem? (i := 10) (by decide +kernel))), List.mem_append_right _ (List.mem_append_right _ (List.mem_append_right _ (List.mem_append_left _ (List.mem_of_getElem? (i := 237) (by decide +kernel))))), ⟨by decide +kernel, by decide +kernel, by decide +kernel⟩⟩
theorem mv_Course_127 : MV "PaperChancery$Course" 127 y_Reigns_inForceAt b_Reigns_inForceAt 4 (some (FieldType.object "PaperChancery$RuleBook")) 1 := ⟨List.mem_append_right _ (List.mem_append_right _ (List.mem_append_right _ (List.mem_append_right _ (List.mem_append_left _ (List.mem_of_getElem? (i := 2) (by decide +kernel)))))), List.mem_append_right _ (List.mem_append_right _ (List.mem_append_right _ (List.mem_append_right _ (List.mem_append_left _ (List.mem_of_getElem? (i := 3) (by decide +kernel)))))), List.mem_append_right _ (List.mem_append_right _ (List.mem_append_right _ (List.mem_append_right _ (List.mem_append_left _ (List.mem_of_getElem? (i := 4) (by decide +kernel)))))), List.mem_append_right _ (List.mem_append_left _ (List.mem_of_getElem? (i := 9) (by decide +kernel))), List.mem_append_right _ (List.mem_append_right _ (List.mem_append_right _ (List.mem_append_right _ (List.mem_append_left _ (List.mem_of_getElem? (i := 5) (by decide +kernel)))))), ⟨by decide +kernel, by decide +kernel, by decide +kernel⟩⟩
theorem mv_Course_140 : MV "PaperChancery$Course" 140 y_PaperBox_isVoid b_PaperBox_isVoid 3 (some (FieldType.boolean)) 2 := ⟨List.mem_append_right _ (List.mem_append_right _ (List.mem_append_right _ (List.mem_append_right _ (List.mem_append_left _ (List.mem_of_getElem? (i := 10) (by decide +kernel)))))), List.mem_append_right _ (List.mem_append_right _ (List.mem_append_right _ (List.mem_append_right _ (List.mem_append_left _ (List.mem_of_getElem? (i := 11) (by decide +kernel)))))), List.mem_append_right _ (List.mem_append_right _ (List.mem_append_right _ (List.mem_append_right _ (List.mem_append_left _ (List.mem_of_getElem? (i := 12) (by decide +kernel)))))), List.mem_append_right _ (List.mem_append_left _ (List.mem_of_getElem? (i := 7) (by decide +kernel))), List.mem_append_right _ (List.mem_append_right _ (List.mem_append_right _ (List.mem_append_right _ (List.mem_append_left _ (List.mem_of_getElem? (i := 13) (by decide +kernel)))))), ⟨by decide +kernel, by decide +kernel, by decide +kernel⟩⟩
theorem mv_Course_146 : MV "PaperChancery$Course" 146 y_Course_comeAlive b_Course_comeAlive 4 none 1 := ⟨List.mem_append_right _ (List.mem_append_right _ (List.mem_append_right _ (List.mem_append_right _ (List.mem_append_left _ (List.mem_of_getElem? (i := 14) (by decide +kernel)))))), List.mem_append_right _ (List.mem_append_right _ (List.mem_append_right _ (List.mem_append_right _ (List.mem_append_left _ (List.mem_of_getElem? (i := 16) (by decide +kernel)))))), List.mem_append_left _ (List.mem_of_getElem? (i := 20) (by decide +kernel)), List.mem_append_right _ (List.mem_append_left _ (List.mem_of_getElem? (i := 10) (by decide +kernel))), List.mem_append_right _ (List.mem_append_right _ (List.mem_append_right _ (List.mem_append_right _ (List.mem_append_left _ (List.mem_of_getElem? (i := 17) (by decide +kernel)))))), ⟨by decide +kernel, by decide +kernel, by decide +kernel⟩⟩
theorem mv_Course_149 : MV "PaperChancery$Course" 149 y_Course_die b_Course_die 3 none 1 := ⟨List.mem_append_right _ (List.mem_append_right _ (List.mem_append_right _ (List.mem_append_right _ (List.mem_append_left _ (List.mem_of_getElem? (i := 46) (by decide +kernel)))))), List.mem_append_right _ (List.mem_append_right _ (List.mem_append_right _ (List.mem_append_right _ (List.mem_append_left _ (List.mem_of_getElem? (i := 48) (by decide +kernel)))))), List.mem_append_left _ (List.mem_of_getElem? (i := 26) (by decide +kernel)), List.mem_append_right _ (List.mem_append_left _ (List.mem_of_getElem? (i := 10) (by decide +kernel))), List.mem_append_right _ (List.mem_append_right _ (List.mem_append_right _ (List.mem_append_right _ (List.mem_append_left _ (List.mem_of_getElem? (i := 49) (by decide +kernel)))))), ⟨by decide +kernel, by decide +kernel, by decide +kernel⟩⟩
theorem mv_Course_152 : MV "PaperChancery$Course" 152 y_Course_leaveTo b_Course_leaveTo 3 none 2 := ⟨List.mem_append_right _ (List.mem_append_right _ (List.mem_append_right _ (List.mem_append_right _ (List.mem_append_left _ (List.mem_of_getElem? (i := 66) (by decide +kernel)))))), List.mem_append_right _ (List.mem_append_right _ (List.mem_append_right _ (List.mem_append_right _ (List.mem_append_left _ (List.mem_of_getElem? (i := 68) (by decide +kernel)))))), List.mem_append_left _ (List.mem_of_getElem? (i := 30) (by decide +kernel)), List.mem_append_right _ (List.mem_append_left _ (List.mem_of_getElem? (i := 10) (by decide +kernel))), List.mem_append_right _ (List.mem_append_right _ (List.mem_append_right _ (List.mem_append_right _ (List.mem_append_left _ (List.mem_of_getElem? (i := 69) (by decide +kernel)))))), ⟨by decide +kernel, by decide +kernel, by decide +kernel⟩⟩
theorem mv_Course_155 : MV "PaperChancery$Course" 155 y_Course_changePlaces b_Course_changePlaces 5 none 2 := ⟨List.mem_append_right _ (List.mem_append_right _ (List.mem_append_right _ (List.mem_append_right _ (List.mem_append_left _ (List.mem_of_getElem? (i := 70) (by decide +kernel)))))), List.mem_append_right _ (List.mem_append_right _ (List.mem_append_right _ (List.mem_append_right _ (List.mem_append_left _ (List.mem_of_getElem? (i := 72) (by decide +kernel)))))), List.mem_append_left _ (List.mem_of_getElem? (i := 31) (by decide +kernel)), List.mem_append_right _ (List.mem_append_left _ (List.mem_of_getElem? (i := 10) (by decide +kernel))), List.mem_append_right _ (List.mem_append_right _ (List.mem_append_right _ (List.mem_append_right _ (List.mem_append_left _ (List.mem_of_getElem? (i := 73) (by decide +kernel)))))), ⟨by decide +kernel, by decide +kernel, by decide +kernel⟩⟩
theorem mv_Course_164 : MV "PaperChancery$Course" 164 y_Course_mayClaim b_Course_mayClaim 3 (some (FieldType.boolean)) 2 := ⟨List.mem_append_right _ (List.mem_append_right _ (List.mem_append_right _ (List.mem_append_right _ (List.mem_append_left _ (List.mem_of_getElem? (i := 18) (by decide +kernel)))))), List.mem_append_right _ (List.mem_append_right _ (List.mem_append_right _ (List.mem_append_right _ (List.mem_append_left _ (List.mem_of_getElem? (i := 20) (by decide +kernel)))))), List.mem_append_left _ (List.mem_of_getElem? (i := 21) (by decide +kernel)), List.mem_append_right _ (List.mem_append_left _ (List.mem_of_getElem? (i := 10) (by decide +kernel))), List.mem_append_right _ (List.mem_append_right _ (List.mem_append_right _ (List.mem_append_right _ (List.mem_append_left _ (List.mem_of_getElem? (i := 21) (by decide +kernel)))))), ⟨by decide +kernel, by decide +kernel, by decide +kernel⟩⟩
theorem mv_Course_167 : MV "PaperChancery$Course" 167 y_Course_use b_Course_use 3 none 2 := ⟨List.mem_append_right _ (List.mem_append_right _ (List.mem_append_right _ (List.mem_append_right _ (List.mem_append_left _ (List.mem_of_getElem? (i := 38) (by decide +kernel)))))), List.mem_append_right _ (List.mem_append_right _ (List.mem_append_right _ (List.mem_append_right _ (List.mem_append_left _ (List.mem_of_getElem? (i := 40) (by decide +kernel)))))), List.mem_append_left _ (List.mem_of_getElem? (i := 24) (by decide +kernel)), List.mem_append_right _ (List.mem_append_left _ (List.mem_of_getElem? (i := 10) (by decide +kernel))), List.mem_append_right _ (List.mem_append_right _ (List.mem_append_right _ (List.mem_append_right _ (List.mem_append_left _ (List.mem_of_getElem? (i := 41) (by decide +kernel)))))), ⟨by decide +kernel, by decide +kernel, by decide +kernel⟩⟩
theorem mv_Course_173 : MV "PaperChancery$Course" 173 y_Course_give b_Course_give 3 none 2 := ⟨List.mem_append_right _ (List.mem_append_right _ (List.mem_append_right _ (List.mem_append_right _ (List.mem_append_left _ (List.mem_of_getElem? (i := 42) (by decide +kernel)))))), List.mem_append_right _ (List.mem_append_right _ (List.mem_append_right _ (List.mem_append_right _ (List.mem_append_left _ (List.mem_of_getElem? (i := 44) (by decide +kernel)))))), List.mem_append_left _ (List.mem_of_getElem? (i := 25) (by decide +kernel)), List.mem_append_right _ (List.mem_append_left _ (List.mem_of_getElem? (i := 10) (by decide +kernel))), List.mem_append_right _ (List.mem_append_right _ (List.mem_append_right _ (List.mem_append_right _ (List.mem_append_left _ (List.mem_of_getElem? (i := 45) (by decide +kernel)))))), ⟨by decide +kernel, by decide +kernel, by decide +kernel⟩⟩
theorem mv_Course_176 : MV "PaperChancery$Course" 176 y_Course_fill b_Course_fill 4 none 1 := ⟨List.mem_append_right _ (List.mem_append_right _ (List.mem_append_right _ (List.mem_append_right _ (List.mem_append_left _ (List.mem_of_getElem? (i := 50) (by decide +kernel)))))), List.mem_append_right _ (List.mem_append_right _ (List.mem_append_right _ (List.mem_append_right _ (List.mem_append_left _ (List.mem_of_getElem? (i := 52) (by decide +kernel)))))), List.mem_append_left _ (List.mem_of_getElem? (i := 27) (by decide +kernel)), List.mem_append_right _ (List.mem_append_left _ (List.mem_of_getElem? (i := 10) (by decide +kernel))), List.mem_append_right _ (List.mem_append_right _ (List.mem_append_right _ (List.mem_append_right _ (List.mem_append_left _ (List.mem_of_getElem? (i := 53) (by decide +kernel)))))), ⟨by decide +kernel, by decide +kernel, by decide +kernel⟩⟩
theorem mv_Course_178 : MV "PaperChancery$Course" 178 y_Course_loadFacts b_Course_loadFacts 5 none 4 := ⟨List.mem_append_right _ (List.mem_append_right _ (List.mem_append_right _ (List.mem_append_right _ (List.mem_append_left _ (List.mem_of_getElem? (i := 26) (by decide +kernel)))))), List.mem_append_right _ (List.mem_append_right _ (List.mem_append_right _ (List.mem_append_right _ (List.mem_append_left _ (List.mem_of_getElem? (i := 28) (by decide +kernel)))))), List.mem_append_left _ (List.mem_of_getElem? (i := 22) (by decide +kernel)), List.mem_append_right _ (List.mem_append_left _ (List.mem_of_getElem? (i := 10) (by decide +kernel))), List.mem_append_right _ (List.mem_append_right _ (List.mem_append_right _ (List.mem_append_right _ (List.mem_append_left _ (List.mem_of_getElem? (i := 29) (by decide +kernel)))))), ⟨by decide +kernel, by decide +kernel, by decide +kernel⟩⟩
theorem mv_Course_182 : MV "PaperChancery$Course" 182 y_RuleBook_bars b_RuleBook_bars 3 (some (FieldType.boolean)) 1 := ⟨List.mem_append_right _ (List.mem_append_right _ (List.mem_append_right _ (List.mem_append_right _ (List.mem_append_left _ (List.mem_of_getElem? (i := 30) (by decide +kernel)))))), List.mem_append_right _ (List.mem_append_right _ (List.mem_append_right _ (List.mem_append_right _ (List.mem_append_left _ (List.mem_of_getElem? (i := 31) (by decide +kernel)))))), List.mem_append_right _ (List.mem_append_right _ (List.mem_append_right _ (List.mem_append_right _ (List.mem_append_left _ (List.mem_of_getElem? (i := 32) (by decide +kernel)))))), List.mem_append_right _ (List.mem_append_left _ (List.mem_of_getElem? (i := 4) (by decide +kernel))), List.mem_append_right _ (List.mem_append_right _ (List.mem_append_right _ (List.mem_append_right _ (List.mem_append_left _ (List.mem_of_getElem? (i := 33) (by decide +kernel)))))), ⟨by decide +kernel, by decide +kernel, by decide +kernel⟩⟩
theorem mv_Course_188 : MV "PaperChancery$Course" 188 y_Course_duel b_Course_duel 5 (some (FieldType.int)) 3 := ⟨List.mem_append_right _ (List.mem_append_right _ (List.mem_append_right _ (List.mem_append_right _ (List.mem_append_left _ (List.mem_of_getElem? (i := 54) (by decide +kernel)))))), List.mem_append_right _ (List.mem_append_right _ (List.mem_append_right _ (List.mem_append_right _ (List.mem_append_left _ (List.mem_of_getElem? (i := 56) (by decide +kernel)))))), List.mem_append_left _ (List.mem_of_getElem? (i := 28) (by decide +kernel)), List.mem_append_right _ (List.mem_append_left _ (List.mem_of_getElem? (i := 10) (by decide +kernel))), List.mem_append_right _ (List.mem_append_right _ (List.mem_append_right _ (List.mem_append_right _ (List.mem_append_left _ (List.mem_of_getElem? (i := 57) (by decide +kernel)))))), ⟨by decide +kernel, by decide +kernel, by decide +kernel⟩⟩
theorem mv_Course_195 : MV "PaperChancery$Course" 195 y_PaperBox_reaches b_PaperBox_reaches 4 (some (FieldType.boolean)) 3 := ⟨List.mem_append_right _ (List.mem_append_right _ (List.mem_append_right _ (List.mem_append_right _ (List.mem_append_left _ (List.mem_of_getElem? (i := 22) (by decide +kernel)))))), List.mem_append_right _ (List.mem_append_right _ (List.mem_append_right _ (List.mem_append_right _ (List.mem_append_left _ (List.mem_of_getElem? (i := 23) (by decide +kernel)))))), List.mem_append_right _ (List.mem_append_right _ (List.mem_append_right _ (List.mem_append_right _ (List.mem_append_left _ (List.mem_of_getElem? (i := 24) (by decide +kernel)))))), List.mem_append_right _ (List.mem_append_left _ (List.mem_of_getElem? (i := 7) (by decide +kernel))), List.mem_append_right _ (List.mem_append_right _ (List.mem_append_right _ (List.mem_append_right _ (List.mem_append_left _ (List.mem_of_getElem? (i := 25) (by decide +kernel)))))), ⟨by decide +kernel, by decide +kernel, by decide +kernel⟩⟩
theorem mv_Course_199 : MV "PaperChancery$Course" 199 y_RuleBook_duel b_RuleBook_duel 6 (some (FieldType.int)) 2 := ⟨List.mem_append_right _ (List.mem_append_right _ (List.mem_append_right _ (List.mem_append_right _ (List.mem_append_left _ (List.mem_of_getElem? (i := 58) (by decide +kernel)))))), List.mem_append_right _ (List.mem_append_right _ (List.mem_append_right _ (List.mem_append_right _ (List.mem_append_left _ (List.mem_of_getElem? (i := 59) (by decide +kernel)))))), List.mem_append_right _ (List.mem_append_right _ (List.mem_append_right _ (List.mem_append_right _ (List.mem_append_left _ (List.mem_of_getElem? (i := 60) (by decide +kernel)))))), List.mem_append_right _ (List.mem_append_left _ (List.mem_of_getElem? (i := 4) (by decide +kernel))), List.mem_append_right _ (List.mem_append_right _ (List.mem_append_right _ (List.mem_append_right _ (List.mem_append_left _ (List.mem_of_getElem? (i := 61) (by decide +kernel)))))), ⟨by decide +kernel, by decide +kernel, by decide +kernel⟩⟩
theorem ms_Ends_22 : MS "PaperChancery$Ends" 22 y_Arrays_fill_i b_Arrays_fill_i 4 none 2 := ⟨List.mem_append_right _ (List.mem_append_right _ (List.mem_append_left _ (List.mem_of_getElem? (i := 119) (by decide +kernel)))), List.mem_append_right _ (List.mem_append_right _ (List.mem_append_left _ (List.mem_of_getElem? (i := 120) (by decide +kernel)))), List.mem_append_right _ (List.mem_append_left _ (List.mem_of_getElem? (i := 12) (by decide +kernel))), List.mem_append_right _ (List.mem_append_right _ (List.mem_append_left _ (List.mem_of_getElem? (i := 121) (by decide +kernel)))), ⟨by decide +kernel, by decide +kernel, by decide +kernel⟩⟩
theorem mv_Ends_40 : MV "PaperChancery$Ends" 40 y_Roll_isPost b_Roll_isPost 2 (some (FieldType.boolean)) 1 := ⟨List.mem_append_right _ (List.mem_append_right _ (List.mem_append_right _ (List.mem_append_right _ (List.mem_append_left _ (List.mem_of_getElem? (i := 134) (by decide +kernel)))))), List.mem_append_right _ (List.mem_append_right _ (List.mem_append_left _ (List.mem_of_getElem? (i := 237) (by decide +kernel)))), List.mem_append_right _ (List.mem_append_right _ (List.mem_append_left _ (List.mem_of_getElem? (i := 238) (by decide +kernel)))), List.mem_append_right _ (List.mem_append_left _ (List.mem_of_getElem? (i := 6) (by decide +kernel))), List.mem_append_right _ (List.mem_append_right _ (List.mem_append_left _ (List.mem_of_getElem? (i := 239) (by decide +kernel)))), ⟨by decide +kernel, by decide +kernel, by decide +kernel⟩⟩
theorem mv_Ends_44 : MV "PaperChancery$Ends" 44 y_Ends_knows b_Ends_knows 2 (some (FieldType.boolean)) 1 := ⟨List.mem_append_right _ (List.mem_append_right _ (List.mem_append_right _ (List.mem_append_right _ (List.mem_append_left _ (List.mem_of_getElem? (i := 135) (by decide +kernel)))))), List.mem_append_right _ (List.mem_append_right _ (List.mem_append_right _ (List.mem_append_right _ (List.mem_append_left _ (List.mem_of_getElem? (i := 122) (by decide +kernel)))))), List.mem_append_right _ (List.mem_append_right _ (List.mem_append_right _ (List.mem_append_right _ (List.mem_append_left _ (List.mem_of_getElem? (i := 123) (by decide +kernel)))))), List.mem_append_right _ (List.mem_append_left _ (List.mem_of_getElem? (i := 11) (by decide +kernel))), List.mem_append_right _ (List.mem_append_right _ (List.mem_append_right _ (List.mem_append_right _ (List.mem_append_left _ (List.mem_of_getElem? (i := 124) (by decide +kernel)))))), ⟨by decide +kernel, by decide +kernel, by decide +kernel⟩⟩
theorem ms_Exchange_27 : MS "PaperChancery$Exchange" 27 y_Arrays_fill_i b_Arrays_fill_i 4 none 2 := ⟨List.mem_append_right _ (List.mem_append_right _ (List.mem_append_left _ (List.mem_of_getElem? (i := 138) (by decide +kernel)))), List.mem_append_right _ (List.mem_append_right _ (List.mem_append_left _ (List.mem_of_getElem? (i := 120) (by decide +kernel)))), List.mem_append_right _ (List.mem_append_left _ (List.mem_of_getElem? (i := 12) (by decide +kernel))), List.mem_append_right _ (List.mem_append_right _ (List.mem_append_left _ (List.mem_of_getElem? (i := 121) (by decide +kernel)))), ⟨by decide +kernel, by decide +kernel, by decide +kernel⟩⟩
theorem mv_Exchange_33 : MV "PaperChancery$Exchange" 33 y_Exchange_offerSinglePosts b_Exchange_offerSinglePosts 7 none 2 := ⟨List.mem_append_right _ (List.mem_append_right _ (List.mem_append_right _ (List.mem_append_right _ (List.mem_append_left _ (List.mem_of_getElem? (i := 168) (by decide +kernel)))))), List.mem_append_right _ (List.mem_append_right _ (List.mem_append_right _ (List.mem_append_right _ (List.mem_append_left _ (List.mem_of_getElem? (i := 170) (by decide +kernel)))))), List.mem_append_left _ (List.mem_of_getElem? (i := 32) (by decide +kernel)), List.mem_append_right _ (List.mem_append_left _ (List.mem_of_getElem? (i := 13) (by decide +kernel))), List.mem_append_right _ (List.mem_append_right _ (List.mem_append_right _ (List.mem_append_right _ (List.mem_append_left _ (List.mem_of_getElem? (i := 171) (by decide +kernel)))))), ⟨by decide +kernel, by decide +kernel, by decide +kernel⟩⟩
theorem mv_Exchange_36 : MV "PaperChancery$Exchange" 36 y_Exchange_pointAll b_Exchange_pointAll 3 none 1 := ⟨List.mem_append_right _ (List.mem_append_right _ (List.mem_append_right _ (List.mem_append_right _ (List.mem_append_left _ (List.mem_of_getElem? (i := 172) (by decide +kernel)))))), List.mem_append_right _ (List.mem_append_right _ (List.mem_append_right _ (List.mem_append_right _ (List.mem_append_left _ (List.mem_of_getElem? (i := 174) (by decide +kernel)))))), List.mem_append_left _ (List.mem_of_getElem? (i := 33) (by decide +kernel)), List.mem_append_right _ (List.mem_append_left _ (List.mem_of_getElem? (i := 13) (by decide +kernel))), List.mem_append_right _ (List.mem_append_right _ (List.mem_append_right _ (List.mem_append_right _ (List.mem_append_left _ (List.mem_of_getElem? (i := 175) (by decide +kernel)))))), ⟨by decide +kernel, by decide +kernel, by decide +kernel⟩⟩
theorem mv_Exchange_40 : MV "PaperChancery$Exchange" 40 y_Exchange_leaveInRings b_Exchange_leaveInRings 3 (some (FieldType.int)) 0 := ⟨List.mem_append_right _ (List.mem_append_right _ (List.mem_append_right _ (List.mem_append_right _ (List.mem_append_left _ (List.mem_of_getElem? (i := 180) (by decide +kernel)))))), List.mem_append_right _ (List.mem_append_right _ (List.mem_append_right _ (List.mem_append_right _ (List.mem_append_left _ (List.mem_of_getElem? (i := 182) (by decide +kernel)))))), List.mem_append_left _ (List.mem_of_getElem? (i := 35) (by decide +kernel)), List.mem_append_right _ (List.mem_append_left _ (List.mem_of_getElem? (i := 13) (by decide +kernel))), List.mem_append_right _ (List.mem_append_right _ (List.mem_append_right _ (List.mem_append_right _ (List.mem_append_left _ (List.mem_of_getElem? (i := 183) (by decide +kernel)))))), ⟨by decide +kernel, by decide +kernel, by decide +kernel⟩⟩
theorem mv_Exchange_44 : MV "PaperChancery$Exchange" 44 y_Exchange_pointFrom b_Exchange_pointFrom 5 (some (FieldType.int)) 2 := ⟨List.mem_append_right _ (List.mem_append_right _ (List.mem_append_right _ (List.mem_append_right _ (List.mem_append_left _ (List.mem_of_getElem? (i := 176) (by decide +kernel)))))), List.mem_append_right _ (List.mem_append_right _ (List.mem_append_right _ (List.mem_append_right _ (List.mem_append_left _ (List.mem_of_getElem? (i := 178) (by decide +kernel)))))), List.mem_append_left _ (List.mem_of_getElem? (i := 34) (by decide +kernel)), List.mem_append_right _ (List.mem_append_left _ (List.mem_of_getElem? (i := 13) (by decide +kernel))), List.mem_append_right _ (List.mem_append_right _ (List.mem_append_right _ (List.mem_append_right _ (List.mem_append_left _ (List.mem_of_getElem? (i := 179) (by decide +kernel)))))), ⟨by decide +kernel, by decide +kernel, by decide +kernel⟩⟩
theorem mv_Exchange_48 : MV "PaperChancery$Exchange" 48 y_Exchange_isInRing b_Exchange_isInRing 4 (some (FieldType.boolean)) 1 := ⟨List.mem_append_right _ (List.mem_append_right _ (List.mem_append_right _ (List.mem_append_right _ (List.mem_append_left _ (List.mem_of_getElem? (i := 184) (by decide +kernel)))))), List.mem_append_right _ (List.mem_append_right _ (List.mem_append_right _ (List.mem_append_right _ (List.mem_append_left _ (List.mem_of_getElem? (i := 186) (by decide +kernel)))))), List.mem_append_left _ (List.mem_of_getElem? (i := 36) (by decide +kernel)), List.mem_append_right _ (List.mem_append_left _ (List.mem_of_getElem? (i := 13) (by decide +kernel))), List.mem_append_right _ (List.mem_append_right _ (List.mem_append_right _ (List.mem_append_right _ (List.mem_append_left _ (List.mem_of_getElem? (i := 187) (by decide +kernel)))))), ⟨by decide +kernel, by decide +kernel, by decide +kernel⟩⟩
theorem mv_Gazette_31 : MV "PaperChancery$Gazette" 31 y_Gazette_isFull b_Gazette_isFull 1 (some (FieldType.boolean)) 0 := ⟨List.mem_append_right _ (List.mem_append_right _ (List.mem_append_right _ (List.mem_append_left _ (List.mem_of_getElem? (i := 180) (by decide +kernel))))), List.mem_append_right _ (List.mem_append_right _ (List.mem_append_right _ (List.mem_append_left _ (List.mem_of_getElem? (i := 173) (by decide +kernel))))), List.mem_append_right _ (List.mem_append_right _ (List.mem_append_right _ (List.mem_append_left _ (List.mem_of_getElem? (i := 174) (by decide +kernel))))), List.mem_append_right _ (List.mem_append_left _ (List.mem_of_getElem? (i := 8) (by decide +kernel))), List.mem_append_right _ (List.mem_append_right _ (List.mem_append_right _ (List.mem_append_left _ (List.mem_of_getElem? (i := 175) (by decide +kernel))))), ⟨by decide +kernel, by decide +kernel, by decide +kernel⟩⟩
theorem mv_Gazette_35 : MV "PaperChancery$Gazette" 35 y_Gazette_putInOrder b_Gazette_putInOrder 3 none 1 := ⟨List.mem_append_right _ (List.mem_append_right _ (List.mem_append_right _ (List.mem_append_left _ (List.mem_of_getElem? (i := 181) (by decide +kernel))))), List.mem_append_right _ (List.mem_append_right _ (List.mem_append_right _ (List.mem_append_left _ (List.mem_of_getElem? (i := 183) (by decide +kernel))))), List.mem_append_left _ (List.mem_of_getElem? (i := 14) (by decide +kernel)), List.mem_append_right _ (List.mem_append_left _ (List.mem_of_getElem? (i := 8) (by decide +kernel))), List.mem_append_right _ (List.mem_append_right _ (List.mem_append_right _ (List.mem_append_left _ (List.mem_of_getElem? (i := 184) (by decide +kernel))))), ⟨by decide +kernel, by decide +kernel, by decide +kernel⟩⟩
theorem mv_PaperBox_40 : MV "PaperChancery$PaperBox" 40 y_PaperBox_has b_PaperBox_has 2 (some (FieldType.boolean)) 1 := ⟨List.mem_append_right _ (List.mem_append_right _ (List.mem_append_right _ (List.mem_append_right _ (List.mem_append_left _ (List.mem_of_getElem? (i := 82) (by decide +kernel)))))), List.mem_append_right _ (List.mem_append_right _ (List.mem_append_right _ (List.mem_append_left _ (List.mem_of_getElem? (i := 207) (by decide +kernel))))), List.mem_append_right _ (List.mem_append_right _ (List.mem_append_right _ (List.mem_append_left _ (List.mem_of_getElem? (i := 208) (by decide +kernel))))), List.mem_append_right _ (List.mem_append_left _ (List.mem_of_getElem? (i := 7) (by decide +kernel))), List.mem_append_right _ (List.mem_append_right _ (List.mem_append_right _ (List.mem_append_left _ (List.mem_of_getElem? (i := 209) (by decide +kernel))))), ⟨by decide +kernel, by decide +kernel, by decide +kernel⟩⟩
theorem mv_PaperBox_44 : MV "PaperChancery$PaperBox" 44 y_PaperBox_isFull b_PaperBox_isFull 1 (some (FieldType.boolean)) 0 := ⟨List.mem_append_right _ (List.mem_append_right _ (List.mem_append_right _ (List.mem_append_left _ (List.mem_of_getElem? (i := 189) (by decide +kernel))))), List.mem_append_right _ (List.mem_append_right _ (List.mem_append_right _ (List.mem_append_left _ (List.mem_of_getElem? (i := 169) (by decide +kernel))))), List.mem_append_right _ (List.mem_append_right _ (List.mem_append_right _ (List.mem_append_left _ (List.mem_of_getElem? (i := 170) (by decide +kernel))))), List.mem_append_right _ (List.mem_append_left _ (List.mem_of_getElem? (i := 7) (by decide +kernel))), List.mem_append_right _ (List.mem_append_right _ (List.mem_append_right _ (List.mem_append_left _ (List.mem_of_getElem? (i := 171) (by decide +kernel))))), ⟨by decide +kernel, by decide +kernel, by decide +kernel⟩⟩
theorem mi_Reigns_21 : MI "PaperChancery$Reigns" 21 y_RuleBook_init b_RuleBook_init 1 0 := ⟨.inr ⟨"PaperChancery", List.mem_append_right _ (List.mem_append_right _ (List.mem_append_left _ (List.mem_of_getElem? (i := 26) (by decide +kernel))))⟩, rfl, List.mem_append_right _ (List.mem_append_left _ (List.mem_of_getElem? (i := 55) (by decide +kernel))), List.mem_append_right _ (List.mem_append_left _ (List.mem_of_getElem? (i := 4) (by decide +kernel))), List.mem_append_right _ (List.mem_append_left _ (List.mem_of_getElem? (i := 56) (by decide +kernel))), ⟨by decide +kernel, by decide +kernel, by decide +kernel⟩⟩
theorem mv_Reigns_30 : MV "PaperChancery$Reigns" 30 y_RuleBook_copyFrom b_RuleBook_copyFrom 2 none 1 := ⟨List.mem_append_right _ (List.mem_append_right _ (List.mem_append_right _ (List.mem_append_left _ (List.mem_of_getElem? (i := 152) (by decide +kernel))))), List.mem_append_right _ (List.mem_append_right _ (List.mem_append_right _ (List.mem_append_left _ (List.mem_of_getElem? (i := 153) (by decide +kernel))))), List.mem_append_right _ (List.mem_append_right _ (List.mem_append_right _ (List.mem_append_left _ (List.mem_of_getElem? (i := 154) (by decide +kernel))))), List.mem_append_right _ (List.mem_append_left _ (List.mem_of_getElem? (i := 4) (by decide +kernel))), List.mem_append_right _ (List.mem_append_right _ (List.mem_append_right _ (List.mem_append_left _ (List.mem_of_getElem? (i := 155) (by decide +kernel))))), ⟨by decide +kernel, by decide +kernel, by decide +kernel⟩⟩
theorem mv_Roll_40 : MV "PaperChancery$Roll" 40 y_Roll_isPost b_Roll_isPost 2 (some (FieldType.boolean)) 1 := ⟨List.mem_append_right _ (List.mem_append_right _ (List.mem_append_right _ (List.mem_append_left _ (List.mem_of_getElem? (i := 8) (by decide +kernel))))), List.mem_append_right _ (List.mem_append_right _ (List.mem_append_left _ (List.mem_of_getElem? (i := 237) (by decide +kernel)))), List.mem_append_right _ (List.mem_append_right _ (List.mem_append_left _ (List.mem_of_getElem? (i := 238) (by decide +kernel)))), List.mem_append_right _ (List.mem_append_left _ (List.mem_of_getElem? (i := 6) (by decide +kernel))), List.mem_append_right _ (List.mem_append_right _ (List.mem_append_left _ (List.mem_of_getElem? (i := 239) (by decide +kernel)))), ⟨by decide +kernel, by decide +kernel, by decide +kernel⟩⟩
theorem mv_RuleBook_46 : MV "PaperChancery$RuleBook" 46 y_RuleBook_isFull b_RuleBook_isFull 1 (some (FieldType.boolean)) 0 := ⟨List.mem_append_right _ (List.mem_append_right _ (List.mem_append_right _ (List.mem_append_left _ (List.mem_of_getElem? (i := 115) (by decide +kernel))))), List.mem_append_right _ (List.mem_append_right _ (List.mem_append_right _ (List.mem_append_left _ (List.mem_of_getElem? (i := 104) (by decide +kernel))))), List.mem_append_right _ (List.mem_append_right _ (List.mem_append_right _ (List.mem_append_left _ (List.mem_of_getElem? (i := 105) (by decide +kernel))))), List.mem_append_right _ (List.mem_append_left _ (List.mem_of_getElem? (i := 4) (by decide +kernel))), List.mem_append_right _ (List.mem_append_right _ (List.mem_append_right _ (List.mem_append_left _ (List.mem_of_getElem? (i := 106) (by decide +kernel))))), ⟨by decide +kernel, by decide +kernel, by decide +kernel⟩⟩
theorem mv_RuleBook_50 : MV "PaperChancery$RuleBook" 50 y_RuleBook_testsHold b_RuleBook_testsHold 6 (some (FieldType.boolean)) 2 := ⟨List.mem_append_right _ (List.mem_append_right _ (List.mem_append_right _ (List.mem_append_right _ (List.mem_append_left _ (List.mem_of_getElem? (i := 34) (by decide +kernel)))))), List.mem_append_right _ (List.mem_append_right _ (List.mem_append_right _ (List.mem_append_right _ (List.mem_append_left _ (List.mem_of_getElem? (i := 36) (by decide +kernel)))))), List.mem_append_left _ (List.mem_of_getElem? (i := 23) (by decide +kernel)), List.mem_append_right _ (List.mem_append_left _ (List.mem_of_getElem? (i := 4) (by decide +kernel))), List.mem_append_right _ (List.mem_append_right _ (List.mem_append_right _ (List.mem_append_right _ (List.mem_append_left _ (List.mem_of_getElem? (i := 37) (by decide +kernel)))))), ⟨by decide +kernel, by decide +kernel, by decide +kernel⟩⟩
theorem mv_RuleBook_54 : MV "PaperChancery$RuleBook" 54 y_RuleBook_standing b_RuleBook_standing 3 (some (FieldType.int)) 2 := ⟨List.mem_append_right _ (List.mem_append_right _ (List.mem_append_right _ (List.mem_append_right _ (List.mem_append_left _ (List.mem_of_getElem? (i := 62) (by decide +kernel)))))), List.mem_append_right _ (List.mem_append_right _ (List.mem_append_right _ (List.mem_append_right _ (List.mem_append_left _ (List.mem_of_getElem? (i := 64) (by decide +kernel)))))), List.mem_append_left _ (List.mem_of_getElem? (i := 29) (by decide +kernel)), List.mem_append_right _ (List.mem_append_left _ (List.mem_of_getElem? (i := 4) (by decide +kernel))), List.mem_append_right _ (List.mem_append_right _ (List.mem_append_right _ (List.mem_append_right _ (List.mem_append_left _ (List.mem_of_getElem? (i := 65) (by decide +kernel)))))), ⟨by decide +kernel, by decide +kernel, by decide +kernel⟩⟩
theorem mi_RuleReader_11 : MI "PaperChancery$RuleReader" 11 y_RuleBook_init b_RuleBook_init 1 0 := ⟨.inr ⟨"PaperChancery", List.mem_append_right _ (List.mem_append_left _ (List.mem_of_getElem? (i := 54) (by decide +kernel)))⟩, rfl, List.mem_append_right _ (List.mem_append_left _ (List.mem_of_getElem? (i := 55) (by decide +kernel))), List.mem_append_right _ (List.mem_append_left _ (List.mem_of_getElem? (i := 4) (by decide +kernel))), List.mem_append_right _ (List.mem_append_left _ (List.mem_of_getElem? (i := 56) (by decide +kernel))), ⟨by decide +kernel, by decide +kernel, by decide +kernel⟩⟩
theorem mi_RuleReader_20 : MI "PaperChancery$RuleReader" 20 y_TokenRow_init b_TokenRow_init 2 1 := ⟨.inl (List.mem_append_right _ (List.mem_append_left _ (List.mem_of_getElem? (i := 89) (by decide +kernel)))), rfl, List.mem_append_right _ (List.mem_append_left _ (List.mem_of_getElem? (i := 90) (by decide +kernel))), List.mem_append_right _ (List.mem_append_left _ (List.mem_of_getElem? (i := 5) (by decide +kernel))), List.mem_append_right _ (List.mem_append_left _ (List.mem_of_getElem? (i := 91) (by decide +kernel))), ⟨by decide +kernel, by decide +kernel, by decide +kernel⟩⟩
theorem mv_RuleReader_34 : MV "PaperChancery$RuleReader" 34 y_RuleBook_clear b_RuleBook_clear 1 none 0 := ⟨List.mem_append_right _ (List.mem_append_right _ (List.mem_append_right _ (List.mem_append_left _ (List.mem_of_getElem? (i := 17) (by decide +kernel))))), List.mem_append_right _ (List.mem_append_right _ (List.mem_append_right _ (List.mem_append_left _ (List.mem_of_getElem? (i := 18) (by decide +kernel))))), List.mem_append_right _ (List.mem_append_right _ (List.mem_append_right _ (List.mem_append_left _ (List.mem_of_getElem? (i := 19) (by decide +kernel))))), List.mem_append_right _ (List.mem_append_left _ (List.mem_of_getElem? (i := 4) (by decide +kernel))), List.mem_append_right _ (List.mem_append_right _ (List.mem_append_right _ (List.mem_append_left _ (List.mem_of_getElem? (i := 20) (by decide +kernel))))), ⟨by decide +kernel, by decide +kernel, by decide +kernel⟩⟩
theorem mv_RuleReader_37 : MV "PaperChancery$RuleReader" 37 y_TokenRow_scan b_TokenRow_scan 3 none 0 := ⟨List.mem_append_right _ (List.mem_append_right _ (List.mem_append_right _ (List.mem_append_left _ (List.mem_of_getElem? (i := 21) (by decide +kernel))))), List.mem_append_right _ (List.mem_append_right _ (List.mem_append_right _ (List.mem_append_left _ (List.mem_of_getElem? (i := 22) (by decide +kernel))))), List.mem_append_right _ (List.mem_append_right _ (List.mem_append_right _ (List.mem_append_left _ (List.mem_of_getElem? (i := 23) (by decide +kernel))))), List.mem_append_right _ (List.mem_append_left _ (List.mem_of_getElem? (i := 5) (by decide +kernel))), List.mem_append_right _ (List.mem_append_right _ (List.mem_append_right _ (List.mem_append_left _ (List.mem_of_getElem? (i := 24) (by decide +kernel))))), ⟨by decide +kernel, by decide +kernel, by decide +kernel⟩⟩
theorem mv_RuleReader_50 : MV "PaperChancery$RuleReader" 50 y_RuleReader_readRule b_RuleReader_readRule 1 (some (FieldType.boolean)) 0 := ⟨List.mem_append_right _ (List.mem_append_right _ (List.mem_append_right _ (List.mem_append_left _ (List.mem_of_getElem? (i := 99) (by decide +kernel))))), List.mem_append_right _ (List.mem_append_right _ (List.mem_append_right _ (List.mem_append_left _ (List.mem_of_getElem? (i := 101) (by decide +kernel))))), List.mem_append_left _ (List.mem_of_getElem? (i := 6) (by decide +kernel)), List.mem_append_right _ (List.mem_append_left _ (List.mem_of_getElem? (i := 3) (by decide +kernel))), List.mem_append_right _ (List.mem_append_right _ (List.mem_append_right _ (List.mem_append_left _ (List.mem_of_getElem? (i := 102) (by decide +kernel))))), ⟨by decide +kernel, by decide +kernel, by decide +kernel⟩⟩
theorem mv_RuleReader_60 : MV "PaperChancery$RuleReader" 60 y_RuleBook_isFull b_RuleBook_isFull 1 (some (FieldType.boolean)) 0 := ⟨List.mem_append_right _ (List.mem_append_right _ (List.mem_append_right _ (List.mem_append_left _ (List.mem_of_getElem? (i := 103) (by decide +kernel))))), List.mem_append_right _ (List.mem_append_right _ (List.mem_append_right _ (List.mem_append_left _ (List.mem_of_getElem? (i := 104) (by decide +kernel))))), List.mem_append_right _ (List.mem_append_right _ (List.mem_append_right _ (List.mem_append_left _ (List.mem_of_getElem? (i := 105) (by decide +kernel))))), List.mem_append_right _ (List.mem_append_left _ (List.mem_of_getElem? (i := 4) (by decide +kernel))), List.mem_append_right _ (List.mem_append_right _ (List.mem_append_right _ (List.mem_append_left _ (List.mem_of_getElem? (i := 106) (by decide +kernel))))), ⟨by decide +kernel, by decide +kernel, by decide +kernel⟩⟩
theorem mv_RuleReader_63 : MV "PaperChancery$RuleReader" 63 y_RuleReader_failWith b_RuleReader_failWith 2 (some (FieldType.boolean)) 1 := ⟨List.mem_append_right _ (List.mem_append_right _ (List.mem_append_right _ (List.mem_append_left _ (List.mem_of_getElem? (i := 107) (by decide +kernel))))), List.mem_append_right _ (List.mem_append_right _ (List.mem_append_right _ (List.mem_append_left _ (List.mem_of_getElem? (i := 109) (by decide +kernel))))), List.mem_append_left _ (List.mem_of_getElem? (i := 7) (by decide +kernel)), List.mem_append_right _ (List.mem_append_left _ (List.mem_of_getElem? (i := 3) (by decide +kernel))), List.mem_append_right _ (List.mem_append_right _ (List.mem_append_right _ (List.mem_append_left _ (List.mem_of_getElem? (i := 110) (by decide +kernel))))), ⟨by decide +kernel, by decide +kernel, by decide +kernel⟩⟩
theorem mv_RuleReader_67 : MV "PaperChancery$RuleReader" 67 y_RuleBook_addRule b_RuleBook_addRule 3 none 2 := ⟨List.mem_append_right _ (List.mem_append_right _ (List.mem_append_right _ (List.mem_append_left _ (List.mem_of_getElem? (i := 111) (by decide +kernel))))), List.mem_append_right _ (List.mem_append_right _ (List.mem_append_right _ (List.mem_append_left _ (List.mem_of_getElem? (i := 112) (by decide +kernel))))), List.mem_append_right _ (List.mem_append_right _ (List.mem_append_right _ (List.mem_append_left _ (List.mem_of_getElem? (i := 113) (by decide +kernel))))), List.mem_append_right _ (List.mem_append_left _ (List.mem_of_getElem? (i := 4) (by decide +kernel))), List.mem_append_right _ (List.mem_append_right _ (List.mem_append_right _ (List.mem_append_left _ (List.mem_of_getElem? (i := 114) (by decide +kernel))))), ⟨by decide +kernel, by decide +kernel, by decide +kernel⟩⟩
theorem mv_RuleReader_71 : MV "PaperChancery$RuleReader" 71 y_RuleReader_advance b_RuleReader_advance 1 none 0 := ⟨List.mem_append_right _ (List.mem_append_right _ (List.mem_append_right _ (List.mem_append_left _ (List.mem_of_getElem? (i := 116) (by decide +kernel))))), List.mem_append_right _ (List.mem_append_right _ (List.mem_append_right _ (List.mem_append_left _ (List.mem_of_getElem? (i := 118) (by decide +kernel))))), List.mem_append_left _ (List.mem_of_getElem? (i := 8) (by decide +kernel)), List.mem_append_right _ (List.mem_append_left _ (List.mem_of_getElem? (i := 3) (by decide +kernel))), List.mem_append_right _ (List.mem_append_right _ (List.mem_append_right _ (List.mem_append_left _ (List.mem_of_getElem? (i := 119) (by decide +kernel))))), ⟨by decide +kernel, by decide +kernel, by decide +kernel⟩⟩
theorem mv_RuleReader_74 : MV "PaperChancery$RuleReader" 74 y_RuleReader_readTests b_RuleReader_readTests 3 (some (FieldType.boolean)) 1 := ⟨List.mem_append_right _ (List.mem_append_right _ (List.mem_append_right _ (List.mem_append_left _ (List.mem_of_getElem? (i := 120) (by decide +kernel))))), List.mem_append_right _ (List.mem_append_right _ (List.mem_append_right _ (List.mem_append_left _ (List.mem_of_getElem? (i := 122) (by decide +kernel))))), List.mem_append_left _ (List.mem_of_getElem? (i := 9) (by decide +kernel)), List.mem_append_right _ (List.mem_append_left _ (List.mem_of_getElem? (i := 3) (by decide +kernel))), List.mem_append_right _ (List.mem_append_right _ (List.mem_append_right _ (List.mem_append_left _ (List.mem_of_getElem? (i := 123) (by decide +kernel))))), ⟨by decide +kernel, by decide +kernel, by decide +kernel⟩⟩
theorem mv_RuleReader_77 : MV "PaperChancery$RuleReader" 77 y_RuleReader_pass b_RuleReader_pass 2 (some (FieldType.boolean)) 1 := ⟨List.mem_append_right _ (List.mem_append_right _ (List.mem_append_right _ (List.mem_append_left _ (List.mem_of_getElem? (i := 128) (by decide +kernel))))), List.mem_append_right _ (List.mem_append_right _ (List.mem_append_right _ (List.mem_append_left _ (List.mem_of_getElem? (i := 130) (by decide +kernel))))), List.mem_append_left _ (List.mem_of_getElem? (i := 11) (by decide +kernel)), List.mem_append_right _ (List.mem_append_left _ (List.mem_of_getElem? (i := 3) (by decide +kernel))), List.mem_append_right _ (List.mem_append_right _ (List.mem_append_right _ (List.mem_append_left _ (List.mem_of_getElem? (i := 131) (by decide +kernel))))), ⟨by decide +kernel, by decide +kernel, by decide +kernel⟩⟩
theorem mv_RuleReader_80 : MV "PaperChancery$RuleReader" 80 y_RuleReader_readKey b_RuleReader_readKey 2 (some (FieldType.boolean)) 0 := ⟨List.mem_append_right _ (List.mem_append_right _ (List.mem_append_right _ (List.mem_append_left _ (List.mem_of_getElem? (i := 136) (by decide +kernel))))), List.mem_append_right _ (List.mem_append_right _ (List.mem_append_right _ (List.mem_append_left _ (List.mem_of_getElem? (i := 138) (by decide +kernel))))), List.mem_append_left _ (List.mem_of_getElem? (i := 12) (by decide +kernel)), List.mem_append_right _ (List.mem_append_left _ (List.mem_of_getElem? (i := 3) (by decide +kernel))), List.mem_append_right _ (List.mem_append_right _ (List.mem_append_right _ (List.mem_append_left _ (List.mem_of_getElem? (i := 139) (by decide +kernel))))), ⟨by decide +kernel, by decide +kernel, by decide +kernel⟩⟩
theorem mv_RuleReader_83 : MV "PaperChancery$RuleReader" 83 y_RuleReader_readCondition b_RuleReader_readCondition 1 (some (FieldType.boolean)) 0 := ⟨List.mem_append_right _ (List.mem_append_right _ (List.mem_append_right _ (List.mem_append_left _ (List.mem_of_getElem? (i := 140) (by decide +kernel))))), List.mem_append_right _ (List.mem_append_right _ (List.mem_append_right _ (List.mem_append_left _ (List.mem_of_getElem? (i := 142) (by decide +kernel))))), List.mem_append_left _ (List.mem_of_getElem? (i := 13) (by decide +kernel)), List.mem_append_right _ (List.mem_append_left _ (List.mem_of_getElem? (i := 3) (by decide +kernel))), List.mem_append_right _ (List.mem_append_right _ (List.mem_append_right _ (List.mem_append_left _ (List.mem_of_getElem? (i := 143) (by decide +kernel))))), ⟨by decide +kernel, by decide +kernel, by decide +kernel⟩⟩
theorem mv_RuleReader_89 : MV "PaperChancery$RuleReader" 89 y_RuleReader_readTest b_RuleReader_readTest 5 (some (FieldType.boolean)) 1 := ⟨List.mem_append_right _ (List.mem_append_right _ (List.mem_append_right _ (List.mem_append_left _ (List.mem_of_getElem? (i := 124) (by decide +kernel))))), List.mem_append_right _ (List.mem_append_right _ (List.mem_append_right _ (List.mem_append_left _ (List.mem_of_getElem? (i := 126) (by decide +kernel))))), List.mem_append_left _ (List.mem_of_getElem? (i := 10) (by decide +kernel)), List.mem_append_right _ (List.mem_append_left _ (List.mem_of_getElem? (i := 3) (by decide +kernel))), List.mem_append_right _ (List.mem_append_right _ (List.mem_append_right _ (List.mem_append_left _ (List.mem_of_getElem? (i := 127) (by decide +kernel))))), ⟨by decide +kernel, by decide +kernel, by decide +kernel⟩⟩
theorem mv_RuleReader_92 : MV "PaperChancery$RuleReader" 92 y_RuleBook_addTest b_RuleBook_addTest 4 none 3 := ⟨List.mem_append_right _ (List.mem_append_right _ (List.mem_append_right _ (List.mem_append_left _ (List.mem_of_getElem? (i := 132) (by decide +kernel))))), List.mem_append_right _ (List.mem_append_right _ (List.mem_append_right _ (List.mem_append_left _ (List.mem_of_getElem? (i := 133) (by decide +kernel))))), List.mem_append_right _ (List.mem_append_right _ (List.mem_append_right _ (List.mem_append_left _ (List.mem_of_getElem? (i := 134) (by decide +kernel))))), List.mem_append_right _ (List.mem_append_left _ (List.mem_of_getElem? (i := 4) (by decide +kernel))), List.mem_append_right _ (List.mem_append_right _ (List.mem_append_right _ (List.mem_append_left _ (List.mem_of_getElem? (i := 135) (by decide +kernel))))), ⟨by decide +kernel, by decide +kernel, by decide +kernel⟩⟩
theorem mv_TokenRow_29 : MV "PaperChancery$TokenRow" 29 y_TokenRow_skipBlanks b_TokenRow_skipBlanks 3 (some (FieldType.int)) 1 := ⟨List.mem_append_right _ (List.mem_append_right _ (List.mem_append_right _ (List.mem_append_left _ (List.mem_of_getElem? (i := 25) (by decide +kernel))))), List.mem_append_right _ (List.mem_append_right _ (List.mem_append_right _ (List.mem_append_left _ (List.mem_of_getElem? (i := 27) (by decide +kernel))))), List.mem_append_left _ (List.mem_of_getElem? (i := 0) (by decide +kernel)), List.mem_append_right _ (List.mem_append_left _ (List.mem_of_getElem? (i := 5) (by decide +kernel))), List.mem_append_right _ (List.mem_append_right _ (List.mem_append_right _ (List.mem_append_left _ (List.mem_of_getElem? (i := 28) (by decide +kernel))))), ⟨by decide +kernel, by decide +kernel, by decide +kernel⟩⟩
theorem mv_TokenRow_38 : MV "PaperChancery$TokenRow" 38 y_TokenRow_take b_TokenRow_take 3 (some (FieldType.int)) 1 := ⟨List.mem_append_right _ (List.mem_append_right _ (List.mem_append_right _ (List.mem_append_left _ (List.mem_of_getElem? (i := 29) (by decide +kernel))))), List.mem_append_right _ (List.mem_append_right _ (List.mem_append_right _ (List.mem_append_left _ (List.mem_of_getElem? (i := 31) (by decide +kernel))))), List.mem_append_left _ (List.mem_of_getElem? (i := 1) (by decide +kernel)), List.mem_append_right _ (List.mem_append_left _ (List.mem_of_getElem? (i := 5) (by decide +kernel))), List.mem_append_right _ (List.mem_append_right _ (List.mem_append_right _ (List.mem_append_left _ (List.mem_of_getElem? (i := 32) (by decide +kernel))))), ⟨by decide +kernel, by decide +kernel, by decide +kernel⟩⟩
theorem ms_TokenRow_50 : MS "PaperChancery$TokenRow" 50 y_TokenRow_isLetter b_TokenRow_isLetter 1 (some (FieldType.boolean)) 1 := ⟨List.mem_append_right _ (List.mem_append_right _ (List.mem_append_right _ (List.mem_append_left _ (List.mem_of_getElem? (i := 33) (by decide +kernel))))), List.mem_append_right _ (List.mem_append_right _ (List.mem_append_right _ (List.mem_append_left _ (List.mem_of_getElem? (i := 34) (by decide +kernel))))), List.mem_append_right _ (List.mem_append_left _ (List.mem_of_getElem? (i := 5) (by decide +kernel))), List.mem_append_right _ (List.mem_append_right _ (List.mem_append_right _ (List.mem_append_left _ (List.mem_of_getElem? (i := 35) (by decide +kernel))))), ⟨by decide +kernel, by decide +kernel, by decide +kernel⟩⟩
theorem mv_TokenRow_54 : MV "PaperChancery$TokenRow" 54 y_TokenRow_takeWord b_TokenRow_takeWord 4 (some (FieldType.int)) 1 := ⟨List.mem_append_right _ (List.mem_append_right _ (List.mem_append_right _ (List.mem_append_left _ (List.mem_of_getElem? (i := 36) (by decide +kernel))))), List.mem_append_right _ (List.mem_append_right _ (List.mem_append_right _ (List.mem_append_left _ (List.mem_of_getElem? (i := 38) (by decide +kernel))))), List.mem_append_left _ (List.mem_of_getElem? (i := 2) (by decide +kernel)), List.mem_append_right _ (List.mem_append_left _ (List.mem_of_getElem? (i := 5) (by decide +kernel))), List.mem_append_right _ (List.mem_append_right _ (List.mem_append_right _ (List.mem_append_left _ (List.mem_of_getElem? (i := 39) (by decide +kernel))))), ⟨by decide +kernel, by decide +kernel, by decide +kernel⟩⟩
theorem ms_TokenRow_57 : MS "PaperChancery$TokenRow" 57 y_TokenRow_isDigit b_TokenRow_isDigit 1 (some (FieldType.boolean)) 1 := ⟨List.mem_append_right _ (List.mem_append_right _ (List.mem_append_right _ (List.mem_append_left _ (List.mem_of_getElem? (i := 85) (by decide +kernel))))), List.mem_append_right _ (List.mem_append_right _ (List.mem_append_right _ (List.mem_append_left _ (List.mem_of_getElem? (i := 86) (by decide +kernel))))), List.mem_append_right _ (List.mem_append_left _ (List.mem_of_getElem? (i := 5) (by decide +kernel))), List.mem_append_right _ (List.mem_append_right _ (List.mem_append_right _ (List.mem_append_left _ (List.mem_of_getElem? (i := 87) (by decide +kernel))))), ⟨by decide +kernel, by decide +kernel, by decide +kernel⟩⟩
theorem mv_TokenRow_60 : MV "PaperChancery$TokenRow" 60 y_TokenRow_takeNumber b_TokenRow_takeNumber 3 (some (FieldType.int)) 1 := ⟨List.mem_append_right _ (List.mem_append_right _ (List.mem_append_right _ (List.mem_append_left _ (List.mem_of_getElem? (i := 88) (by decide +kernel))))), List.mem_append_right _ (List.mem_append_right _ (List.mem_append_right _ (List.mem_append_left _ (List.mem_of_getElem? (i := 90) (by decide +kernel))))), List.mem_append_left _ (List.mem_of_getElem? (i := 4) (by decide +kernel)), List.mem_append_right _ (List.mem_append_left _ (List.mem_of_getElem? (i := 5) (by decide +kernel))), List.mem_append_right _ (List.mem_append_right _ (List.mem_append_right _ (List.mem_append_left _ (List.mem_of_getElem? (i := 91) (by decide +kernel))))), ⟨by decide +kernel, by decide +kernel, by decide +kernel⟩⟩
theorem mv_TokenRow_63 : MV "PaperChancery$TokenRow" 63 y_TokenRow_takeMark b_TokenRow_takeMark 2 none 1 := ⟨List.mem_append_right _ (List.mem_append_right _ (List.mem_append_right _ (List.mem_append_left _ (List.mem_of_getElem? (i := 92) (by decide +kernel))))), List.mem_append_right _ (List.mem_append_right _ (List.mem_append_right _ (List.mem_append_left _ (List.mem_of_getElem? (i := 94) (by decide +kernel))))), List.mem_append_left _ (List.mem_of_getElem? (i := 5) (by decide +kernel)), List.mem_append_right _ (List.mem_append_left _ (List.mem_of_getElem? (i := 5) (by decide +kernel))), List.mem_append_right _ (List.mem_append_right _ (List.mem_append_right _ (List.mem_append_left _ (List.mem_of_getElem? (i := 95) (by decide +kernel))))), ⟨by decide +kernel, by decide +kernel, by decide +kernel⟩⟩
theorem mv_TokenRow_67 : MV "PaperChancery$TokenRow" 67 y_TokenRow_isWord b_TokenRow_isWord 6 (some (FieldType.boolean)) 3 := ⟨List.mem_append_right _ (List.mem_append_right _ (List.mem_append_right _ (List.mem_append_left _ (List.mem_of_getElem? (i := 40) (by decide +kernel))))), List.mem_append_right _ (List.mem_append_right _ (List.mem_append_right _ (List.mem_append_left _ (List.mem_of_getElem? (i := 42) (by decide +kernel))))), List.mem_append_left _ (List.mem_of_getElem? (i := 3) (by decide +kernel)), List.mem_append_right _ (List.mem_append_left _ (List.mem_of_getElem? (i := 5) (by decide +kernel))), List.mem_append_right _ (List.mem_append_right _ (List.mem_append_right _ (List.mem_append_left _ (List.mem_of_getElem? (i := 43) (by decide +kernel))))), ⟨by decide +kernel, by decide +kernel, by decide +kernel⟩⟩
theorem mi_Law_9 : MI "PaperChanceryLaw" 9 y_Chan_init b_Chan_init 1 0 := ⟨.inl (List.mem_append_right _ (List.mem_append_left _ (List.mem_of_getElem? (i := 23) (by decide +kernel)))), rfl, List.mem_append_right _ (List.mem_append_left _ (List.mem_of_getElem? (i := 24) (by decide +kernel))), List.mem_append_right _ (List.mem_append_left _ (List.mem_of_getElem? (i := 1) (by decide +kernel))), List.mem_append_right _ (List.mem_append_left _ (List.mem_of_getElem? (i := 25) (by decide +kernel))), ⟨by decide +kernel, by decide +kernel, by decide +kernel⟩⟩
theorem mi_Law_12 : MI "PaperChanceryLaw" 12 y_Md_init b_Md_init 1 0 := ⟨.inl (List.mem_append_right _ (List.mem_append_right _ (List.mem_append_right _ (List.mem_append_right _ (List.mem_append_left _ (List.mem_of_getElem? (i := 194) (by decide +kernel))))))), rfl, List.mem_append_right _ (List.mem_append_right _ (List.mem_append_right _ (List.mem_append_right _ (List.mem_append_left _ (List.mem_of_getElem? (i := 195) (by decide +kernel)))))), List.mem_append_right _ (List.mem_append_left _ (List.mem_of_getElem? (i := 14) (by decide +kernel))), List.mem_append_right _ (List.mem_append_right _ (List.mem_append_right _ (List.mem_append_right _ (List.mem_append_left _ (List.mem_of_getElem? (i := 196) (by decide +kernel)))))), ⟨by decide +kernel, by decide +kernel, by decide +kernel⟩⟩
theorem mv_Law_13 : MV "PaperChanceryLaw" 13 y_Chan_feed b_Chan_feed 6 (some (FieldType.int)) 5 := ⟨List.mem_append_right _ (List.mem_append_right _ (List.mem_append_left _ (List.mem_of_getElem? (i := 193) (by decide +kernel)))), List.mem_append_right _ (List.mem_append_right _ (List.mem_append_left _ (List.mem_of_getElem? (i := 194) (by decide +kernel)))), List.mem_append_right _ (List.mem_append_right _ (List.mem_append_left _ (List.mem_of_getElem? (i := 195) (by decide +kernel)))), List.mem_append_right _ (List.mem_append_left _ (List.mem_of_getElem? (i := 1) (by decide +kernel))), List.mem_append_right _ (List.mem_append_right _ (List.mem_append_left _ (List.mem_of_getElem? (i := 196) (by decide +kernel)))), ⟨by decide +kernel, by decide +kernel, by decide +kernel⟩⟩
theorem mv_Law_17 : MV "PaperChanceryLaw" 17 y_Md_feed b_Md_feed 6 (some (FieldType.int)) 5 := ⟨List.mem_append_right _ (List.mem_append_right _ (List.mem_append_right _ (List.mem_append_right _ (List.mem_append_right _ (List.mem_append_left _ (List.mem_of_getElem? (i := 88) (by decide +kernel))))))), List.mem_append_right _ (List.mem_append_right _ (List.mem_append_right _ (List.mem_append_right _ (List.mem_append_right _ (List.mem_append_left _ (List.mem_of_getElem? (i := 89) (by decide +kernel))))))), List.mem_append_right _ (List.mem_append_right _ (List.mem_append_right _ (List.mem_append_right _ (List.mem_append_right _ (List.mem_append_left _ (List.mem_of_getElem? (i := 90) (by decide +kernel))))))), List.mem_append_right _ (List.mem_append_left _ (List.mem_of_getElem? (i := 14) (by decide +kernel))), List.mem_append_right _ (List.mem_append_right _ (List.mem_append_right _ (List.mem_append_right _ (List.mem_append_right _ (List.mem_append_left _ (List.mem_of_getElem? (i := 91) (by decide +kernel))))))), ⟨by decide +kernel, by decide +kernel, by decide +kernel⟩⟩
theorem mv_Law_18 : MV "PaperChanceryLaw" 18 y_Chan_end b_Chan_end 2 (some (FieldType.boolean)) 1 := ⟨List.mem_append_right _ (List.mem_append_right _ (List.mem_append_left _ (List.mem_of_getElem? (i := 205) (by decide +kernel)))), List.mem_append_right _ (List.mem_append_right _ (List.mem_append_left _ (List.mem_of_getElem? (i := 206) (by decide +kernel)))), List.mem_append_right _ (List.mem_append_right _ (List.mem_append_left _ (List.mem_of_getElem? (i := 207) (by decide +kernel)))), List.mem_append_right _ (List.mem_append_left _ (List.mem_of_getElem? (i := 1) (by decide +kernel))), List.mem_append_right _ (List.mem_append_right _ (List.mem_append_left _ (List.mem_of_getElem? (i := 208) (by decide +kernel)))), ⟨by decide +kernel, by decide +kernel, by decide +kernel⟩⟩
theorem mv_Law_22 : MV "PaperChanceryLaw" 22 y_Md_end b_Md_end 2 (some (FieldType.boolean)) 1 := ⟨List.mem_append_right _ (List.mem_append_right _ (List.mem_append_right _ (List.mem_append_right _ (List.mem_append_right _ (List.mem_append_left _ (List.mem_of_getElem? (i := 96) (by decide +kernel))))))), List.mem_append_right _ (List.mem_append_right _ (List.mem_append_right _ (List.mem_append_right _ (List.mem_append_right _ (List.mem_append_left _ (List.mem_of_getElem? (i := 97) (by decide +kernel))))))), List.mem_append_right _ (List.mem_append_right _ (List.mem_append_right _ (List.mem_append_right _ (List.mem_append_right _ (List.mem_append_left _ (List.mem_of_getElem? (i := 98) (by decide +kernel))))))), List.mem_append_right _ (List.mem_append_left _ (List.mem_of_getElem? (i := 14) (by decide +kernel))), List.mem_append_right _ (List.mem_append_right _ (List.mem_append_right _ (List.mem_append_right _ (List.mem_append_right _ (List.mem_append_left _ (List.mem_of_getElem? (i := 99) (by decide +kernel))))))), ⟨by decide +kernel, by decide +kernel, by decide +kernel⟩⟩
theorem mv_Law_23 : MV "PaperChanceryLaw" 23 y_Chan_person b_Chan_person 4 (some (FieldType.int)) 3 := ⟨List.mem_append_right _ (List.mem_append_right _ (List.mem_append_left _ (List.mem_of_getElem? (i := 213) (by decide +kernel)))), List.mem_append_right _ (List.mem_append_right _ (List.mem_append_left _ (List.mem_of_getElem? (i := 214) (by decide +kernel)))), List.mem_append_right _ (List.mem_append_right _ (List.mem_append_left _ (List.mem_of_getElem? (i := 215) (by decide +kernel)))), List.mem_append_right _ (List.mem_append_left _ (List.mem_of_getElem? (i := 1) (by decide +kernel))), List.mem_append_right _ (List.mem_append_right _ (List.mem_append_left _ (List.mem_of_getElem? (i := 216) (by decide +kernel)))), ⟨by decide +kernel, by decide +kernel, by decide +kernel⟩⟩
theorem mv_Law_27 : MV "PaperChanceryLaw" 27 y_Md_person b_Md_person 4 (some (FieldType.int)) 3 := ⟨List.mem_append_right _ (List.mem_append_right _ (List.mem_append_right _ (List.mem_append_right _ (List.mem_append_right _ (List.mem_append_left _ (List.mem_of_getElem? (i := 100) (by decide +kernel))))))), List.mem_append_right _ (List.mem_append_right _ (List.mem_append_right _ (List.mem_append_right _ (List.mem_append_right _ (List.mem_append_left _ (List.mem_of_getElem? (i := 101) (by decide +kernel))))))), List.mem_append_right _ (List.mem_append_right _ (List.mem_append_right _ (List.mem_append_right _ (List.mem_append_right _ (List.mem_append_left _ (List.mem_of_getElem? (i := 102) (by decide +kernel))))))), List.mem_append_right _ (List.mem_append_left _ (List.mem_of_getElem? (i := 14) (by decide +kernel))), List.mem_append_right _ (List.mem_append_right _ (List.mem_append_right _ (List.mem_append_right _ (List.mem_append_right _ (List.mem_append_left _ (List.mem_of_getElem? (i := 103) (by decide +kernel))))))), ⟨by decide +kernel, by decide +kernel, by decide +kernel⟩⟩
theorem mv_Law_28 : MV "PaperChanceryLaw" 28 y_Chan_post b_Chan_post 3 (some (FieldType.int)) 2 := ⟨List.mem_append_right _ (List.mem_append_right _ (List.mem_append_left _ (List.mem_of_getElem? (i := 224) (by decide +kernel)))), List.mem_append_right _ (List.mem_append_right _ (List.mem_append_left _ (List.mem_of_getElem? (i := 225) (by decide +kernel)))), List.mem_append_right _ (List.mem_append_right _ (List.mem_append_left _ (List.mem_of_getElem? (i := 226) (by decide +kernel)))), List.mem_append_right _ (List.mem_append_left _ (List.mem_of_getElem? (i := 1) (by decide +kernel))), List.mem_append_right _ (List.mem_append_right _ (List.mem_append_left _ (List.mem_of_getElem? (i := 227) (by decide +kernel)))), ⟨by decide +kernel, by decide +kernel, by decide +kernel⟩⟩
theorem mv_Law_32 : MV "PaperChanceryLaw" 32 y_Md_post b_Md_post 3 (some (FieldType.int)) 2 := ⟨List.mem_append_right _ (List.mem_append_right _ (List.mem_append_right _ (List.mem_append_right _ (List.mem_append_right _ (List.mem_append_left _ (List.mem_of_getElem? (i := 107) (by decide +kernel))))))), List.mem_append_right _ (List.mem_append_right _ (List.mem_append_right _ (List.mem_append_right _ (List.mem_append_right _ (List.mem_append_left _ (List.mem_of_getElem? (i := 108) (by decide +kernel))))))), List.mem_append_right _ (List.mem_append_right _ (List.mem_append_right _ (List.mem_append_right _ (List.mem_append_right _ (List.mem_append_left _ (List.mem_of_getElem? (i := 109) (by decide +kernel))))))), List.mem_append_right _ (List.mem_append_left _ (List.mem_of_getElem? (i := 14) (by decide +kernel))), List.mem_append_right _ (List.mem_append_right _ (List.mem_append_right _ (List.mem_append_right _ (List.mem_append_right _ (List.mem_append_left _ (List.mem_of_getElem? (i := 110) (by decide +kernel))))))), ⟨by decide +kernel, by decide +kernel, by decide +kernel⟩⟩
theorem mv_Law_33 : MV "PaperChanceryLaw" 33 y_Chan_seat b_Chan_seat 3 (some (FieldType.boolean)) 2 := ⟨List.mem_append_right _ (List.mem_append_right _ (List.mem_append_left _ (List.mem_of_getElem? (i := 232) (by decide +kernel)))), List.mem_append_right _ (List.mem_append_right _ (List.mem_append_left _ (List.mem_of_getElem? (i := 233) (by decide +kernel)))), List.mem_append_right _ (List.mem_append_right _ (List.mem_append_left _ (List.mem_of_getElem? (i := 234) (by decide +kernel)))), List.mem_append_right _ (List.mem_append_left _ (List.mem_of_getElem? (i := 1) (by decide +kernel))), List.mem_append_right _ (List.mem_append_right _ (List.mem_append_left _ (List.mem_of_getElem? (i := 235) (by decide +kernel)))), ⟨by decide +kernel, by decide +kernel, by decide +kernel⟩⟩
theorem mv_Law_37 : MV "PaperChanceryLaw" 37 y_Md_seat b_Md_seat 3 (some (FieldType.boolean)) 2 := ⟨List.mem_append_right _ (List.mem_append_right _ (List.mem_append_right _ (List.mem_append_right _ (List.mem_append_right _ (List.mem_append_left _ (List.mem_of_getElem? (i := 111) (by decide +kernel))))))), List.mem_append_right _ (List.mem_append_right _ (List.mem_append_right _ (List.mem_append_right _ (List.mem_append_right _ (List.mem_append_left _ (List.mem_of_getElem? (i := 112) (by decide +kernel))))))), List.mem_append_right _ (List.mem_append_right _ (List.mem_append_right _ (List.mem_append_right _ (List.mem_append_right _ (List.mem_append_left _ (List.mem_of_getElem? (i := 113) (by decide +kernel))))))), List.mem_append_right _ (List.mem_append_left _ (List.mem_of_getElem? (i := 14) (by decide +kernel))), List.mem_append_right _ (List.mem_append_right _ (List.mem_append_right _ (List.mem_append_right _ (List.mem_append_right _ (List.mem_append_left _ (List.mem_of_getElem? (i := 114) (by decide +kernel))))))), ⟨by decide +kernel, by decide +kernel, by decide +kernel⟩⟩
theorem mv_Law_38 : MV "PaperChanceryLaw" 38 y_Chan_reign b_Chan_reign 3 (some (FieldType.int)) 1 := ⟨List.mem_append_right _ (List.mem_append_right _ (List.mem_append_right _ (List.mem_append_left _ (List.mem_of_getElem? (i := 9) (by decide +kernel))))), List.mem_append_right _ (List.mem_append_right _ (List.mem_append_right _ (List.mem_append_left _ (List.mem_of_getElem? (i := 10) (by decide +kernel))))), List.mem_append_right _ (List.mem_append_right _ (List.mem_append_right _ (List.mem_append_left _ (List.mem_of_getElem? (i := 11) (by decide +kernel))))), List.mem_append_right _ (List.mem_append_left _ (List.mem_of_getElem? (i := 1) (by decide +kernel))), List.mem_append_right _ (List.mem_append_right _ (List.mem_append_right _ (List.mem_append_left _ (List.mem_of_getElem? (i := 12) (by decide +kernel))))), ⟨by decide +kernel, by decide +kernel, by decide +kernel⟩⟩
theorem mv_Law_42 : MV "PaperChanceryLaw" 42 y_Md_reign b_Md_reign 4 (some (FieldType.int)) 1 := ⟨List.mem_append_right _ (List.mem_append_right _ (List.mem_append_right _ (List.mem_append_right _ (List.mem_append_right _ (List.mem_append_left _ (List.mem_of_getElem? (i := 123) (by decide +kernel))))))), List.mem_append_right _ (List.mem_append_right _ (List.mem_append_right _ (List.mem_append_right _ (List.mem_append_right _ (List.mem_append_left _ (List.mem_of_getElem? (i := 124) (by decide +kernel))))))), List.mem_append_right _ (List.mem_append_right _ (List.mem_append_right _ (List.mem_append_right _ (List.mem_append_right _ (List.mem_append_left _ (List.mem_of_getElem? (i := 125) (by decide +kernel))))))), List.mem_append_right _ (List.mem_append_left _ (List.mem_of_getElem? (i := 14) (by decide +kernel))), List.mem_append_right _ (List.mem_append_right _ (List.mem_append_right _ (List.mem_append_right _ (List.mem_append_right _ (List.mem_append_left _ (List.mem_of_getElem? (i := 126) (by decide +kernel))))))), ⟨by decide +kernel, by decide +kernel, by decide +kernel⟩⟩
theorem mv_Law_43 : MV "PaperChanceryLaw" 43 y_Chan_fault b_Chan_fault 2 (some (FieldType.int)) 1 := ⟨List.mem_append_right _ (List.mem_append_right _ (List.mem_append_right _ (List.mem_append_left _ (List.mem_of_getElem? (i := 160) (by decide +kernel))))), List.mem_append_right _ (List.mem_append_right _ (List.mem_append_right _ (List.mem_append_left _ (List.mem_of_getElem? (i := 161) (by decide +kernel))))), List.mem_append_right _ (List.mem_append_right _ (List.mem_append_right _ (List.mem_append_left _ (List.mem_of_getElem? (i := 162) (by decide +kernel))))), List.mem_append_right _ (List.mem_append_left _ (List.mem_of_getElem? (i := 1) (by decide +kernel))), List.mem_append_right _ (List.mem_append_right _ (List.mem_append_right _ (List.mem_append_left _ (List.mem_of_getElem? (i := 163) (by decide +kernel))))), ⟨by decide +kernel, by decide +kernel, by decide +kernel⟩⟩
theorem mv_Law_46 : MV "PaperChanceryLaw" 46 y_Md_fault b_Md_fault 2 (some (FieldType.int)) 1 := ⟨List.mem_append_right _ (List.mem_append_right _ (List.mem_append_right _ (List.mem_append_right _ (List.mem_append_right _ (List.mem_append_left _ (List.mem_of_getElem? (i := 189) (by decide +kernel))))))), List.mem_append_right _ (List.mem_append_right _ (List.mem_append_right _ (List.mem_append_right _ (List.mem_append_right _ (List.mem_append_left _ (List.mem_of_getElem? (i := 190) (by decide +kernel))))))), List.mem_append_right _ (List.mem_append_right _ (List.mem_append_right _ (List.mem_append_right _ (List.mem_append_right _ (List.mem_append_left _ (List.mem_of_getElem? (i := 191) (by decide +kernel))))))), List.mem_append_right _ (List.mem_append_left _ (List.mem_of_getElem? (i := 14) (by decide +kernel))), List.mem_append_right _ (List.mem_append_right _ (List.mem_append_right _ (List.mem_append_right _ (List.mem_append_right _ (List.mem_append_left _ (List.mem_of_getElem? (i := 192) (by decide +kernel))))))), ⟨by decide +kernel, by decide +kernel, by decide +kernel⟩⟩
theorem mv_Law_47 : MV "PaperChanceryLaw" 47 y_Chan_paper b_Chan_paper 9 (some (FieldType.int)) 6 := ⟨List.mem_append_right _ (List.mem_append_right _ (List.mem_append_right _ (List.mem_append_left _ (List.mem_of_getElem? (i := 164) (by decide +kernel))))), List.mem_append_right _ (List.mem_append_right _ (List.mem_append_right _ (List.mem_append_left _ (List.mem_of_getElem? (i := 165) (by decide +kernel))))), List.mem_append_right _ (List.mem_append_right _ (List.mem_append_right _ (List.mem_append_left _ (List.mem_of_getElem? (i := 166) (by decide +kernel))))), List.mem_append_right _ (List.mem_append_left _ (List.mem_of_getElem? (i := 1) (by decide +kernel))), List.mem_append_right _ (List.mem_append_right _ (List.mem_append_right _ (List.mem_append_left _ (List.mem_of_getElem? (i := 167) (by decide +kernel))))), ⟨by decide +kernel, by decide +kernel, by decide +kernel⟩⟩
theorem mv_Law_51 : MV "PaperChanceryLaw" 51 y_Md_paper b_Md_paper 8 (some (FieldType.int)) 6 := ⟨List.mem_append_right _ (List.mem_append_right _ (List.mem_append_right _ (List.mem_append_right _ (List.mem_append_right _ (List.mem_append_left _ (List.mem_of_getElem? (i := 193) (by decide +kernel))))))), List.mem_append_right _ (List.mem_append_right _ (List.mem_append_right _ (List.mem_append_right _ (List.mem_append_right _ (List.mem_append_left _ (List.mem_of_getElem? (i := 194) (by decide +kernel))))))), List.mem_append_right _ (List.mem_append_right _ (List.mem_append_right _ (List.mem_append_right _ (List.mem_append_right _ (List.mem_append_left _ (List.mem_of_getElem? (i := 195) (by decide +kernel))))))), List.mem_append_right _ (List.mem_append_left _ (List.mem_of_getElem? (i := 14) (by decide +kernel))), List.mem_append_right _ (List.mem_append_right _ (List.mem_append_right _ (List.mem_append_right _ (List.mem_append_right _ (List.mem_append_left _ (List.mem_of_getElem? (i := 196) (by decide +kernel))))))), ⟨by decide +kernel, by decide +kernel, by decide +kernel⟩⟩
theorem mv_Law_52 : MV "PaperChanceryLaw" 52 y_Chan_death b_Chan_death 3 (some (FieldType.int)) 2 := ⟨List.mem_append_right _ (List.mem_append_right _ (List.mem_append_right _ (List.mem_append_left _ (List.mem_of_getElem? (i := 190) (by decide +kernel))))), List.mem_append_right _ (List.mem_append_right _ (List.mem_append_right _ (List.mem_append_left _ (List.mem_of_getElem? (i := 191) (by decide +kernel))))), List.mem_append_right _ (List.mem_append_right _ (List.mem_append_right _ (List.mem_append_left _ (List.mem_of_getElem? (i := 192) (by decide +kernel))))), List.mem_append_right _ (List.mem_append_left _ (List.mem_of_getElem? (i := 1) (by decide +kernel))), List.mem_append_right _ (List.mem_append_right _ (List.mem_append_right _ (List.mem_append_left _ (List.mem_of_getElem? (i := 193) (by decide +kernel))))), ⟨by decide +kernel, by decide +kernel, by decide +kernel⟩⟩
theorem mv_Law_55 : MV "PaperChanceryLaw" 55 y_Md_death b_Md_death 3 (some (FieldType.int)) 2 := ⟨List.mem_append_right _ (List.mem_append_right _ (List.mem_append_right _ (List.mem_append_right _ (List.mem_append_right _ (List.mem_append_left _ (List.mem_of_getElem? (i := 205) (by decide +kernel))))))), List.mem_append_right _ (List.mem_append_right _ (List.mem_append_right _ (List.mem_append_right _ (List.mem_append_right _ (List.mem_append_left _ (List.mem_of_getElem? (i := 206) (by decide +kernel))))))), List.mem_append_right _ (List.mem_append_right _ (List.mem_append_right _ (List.mem_append_right _ (List.mem_append_right _ (List.mem_append_left _ (List.mem_of_getElem? (i := 207) (by decide +kernel))))))), List.mem_append_right _ (List.mem_append_left _ (List.mem_of_getElem? (i := 14) (by decide +kernel))), List.mem_append_right _ (List.mem_append_right _ (List.mem_append_right _ (List.mem_append_right _ (List.mem_append_right _ (List.mem_append_left _ (List.mem_of_getElem? (i := 208) (by decide +kernel))))))), ⟨by decide +kernel, by decide +kernel, by decide +kernel⟩⟩
theorem mv_Law_56 : MV "PaperChanceryLaw" 56 y_Chan_resign b_Chan_resign 4 (some (FieldType.int)) 3 := ⟨List.mem_append_right _ (List.mem_append_right _ (List.mem_append_right _ (List.mem_append_left _ (List.mem_of_getElem? (i := 194) (by decide +kernel))))), List.mem_append_right _ (List.mem_append_right _ (List.mem_append_right _ (List.mem_append_left _ (List.mem_of_getElem? (i := 195) (by decide +kernel))))), List.mem_append_right _ (List.mem_append_right _ (List.mem_append_right _ (List.mem_append_left _ (List.mem_of_getElem? (i := 196) (by decide +kernel))))), List.mem_append_right _ (List.mem_append_left _ (List.mem_of_getElem? (i := 1) (by decide +kernel))), List.mem_append_right _ (List.mem_append_right _ (List.mem_append_right _ (List.mem_append_left _ (List.mem_of_getElem? (i := 197) (by decide +kernel))))), ⟨by decide +kernel, by decide +kernel, by decide +kernel⟩⟩
theorem mv_Law_59 : MV "PaperChanceryLaw" 59 y_Md_resign b_Md_resign 4 (some (FieldType.int)) 3 := ⟨List.mem_append_right _ (List.mem_append_right _ (List.mem_append_right _ (List.mem_append_right _ (List.mem_append_right _ (List.mem_append_left _ (List.mem_of_getElem? (i := 209) (by decide +kernel))))))), List.mem_append_right _ (List.mem_append_right _ (List.mem_append_right _ (List.mem_append_right _ (List.mem_append_right _ (List.mem_append_left _ (List.mem_of_getElem? (i := 210) (by decide +kernel))))))), List.mem_append_right _ (List.mem_append_right _ (List.mem_append_right _ (List.mem_append_right _ (List.mem_append_right _ (List.mem_append_left _ (List.mem_of_getElem? (i := 211) (by decide +kernel))))))), List.mem_append_right _ (List.mem_append_left _ (List.mem_of_getElem? (i := 14) (by decide +kernel))), List.mem_append_right _ (List.mem_append_right _ (List.mem_append_right _ (List.mem_append_right _ (List.mem_append_right _ (List.mem_append_left _ (List.mem_of_getElem? (i := 212) (by decide +kernel))))))), ⟨by decide +kernel, by decide +kernel, by decide +kernel⟩⟩
theorem mv_Law_60 : MV "PaperChanceryLaw" 60 y_Chan_swap b_Chan_swap 4 (some (FieldType.int)) 3 := ⟨List.mem_append_right _ (List.mem_append_right _ (List.mem_append_right _ (List.mem_append_left _ (List.mem_of_getElem? (i := 198) (by decide +kernel))))), List.mem_append_right _ (List.mem_append_right _ (List.mem_append_right _ (List.mem_append_left _ (List.mem_of_getElem? (i := 199) (by decide +kernel))))), List.mem_append_right _ (List.mem_append_right _ (List.mem_append_right _ (List.mem_append_left _ (List.mem_of_getElem? (i := 200) (by decide +kernel))))), List.mem_append_right _ (List.mem_append_left _ (List.mem_of_getElem? (i := 1) (by decide +kernel))), List.mem_append_right _ (List.mem_append_right _ (List.mem_append_right _ (List.mem_append_left _ (List.mem_of_getElem? (i := 201) (by decide +kernel))))), ⟨by decide +kernel, by decide +kernel, by decide +kernel⟩⟩
theorem mv_Law_63 : MV "PaperChanceryLaw" 63 y_Md_swap b_Md_swap 4 (some (FieldType.int)) 3 := ⟨List.mem_append_right _ (List.mem_append_right _ (List.mem_append_right _ (List.mem_append_right _ (List.mem_append_right _ (List.mem_append_left _ (List.mem_of_getElem? (i := 213) (by decide +kernel))))))), List.mem_append_right _ (List.mem_append_right _ (List.mem_append_right _ (List.mem_append_right _ (List.mem_append_right _ (List.mem_append_left _ (List.mem_of_getElem? (i := 214) (by decide +kernel))))))), List.mem_append_right _ (List.mem_append_right _ (List.mem_append_right _ (List.mem_append_right _ (List.mem_append_right _ (List.mem_append_left _ (List.mem_of_getElem? (i := 215) (by decide +kernel))))))), List.mem_append_right _ (List.mem_append_left _ (List.mem_of_getElem? (i := 14) (by decide +kernel))), List.mem_append_right _ (List.mem_append_right _ (List.mem_append_right _ (List.mem_append_right _ (List.mem_append_right _ (List.mem_append_left _ (List.mem_of_getElem? (i := 216) (by decide +kernel))))))), ⟨by decide +kernel, by decide +kernel, by decide +kernel⟩⟩
theorem mv_Law_64 : MV "PaperChanceryLaw" 64 y_Chan_disprove b_Chan_disprove 3 (some (FieldType.int)) 1 := ⟨List.mem_append_right _ (List.mem_append_right _ (List.mem_append_right _ (List.mem_append_left _ (List.mem_of_getElem? (i := 202) (by decide +kernel))))), List.mem_append_right _ (List.mem_append_right _ (List.mem_append_right _ (List.mem_append_left _ (List.mem_of_getElem? (i := 203) (by decide +kernel))))), List.mem_append_right _ (List.mem_append_right _ (List.mem_append_right _ (List.mem_append_left _ (List.mem_of_getElem? (i := 204) (by decide +kernel))))), List.mem_append_right _ (List.mem_append_left _ (List.mem_of_getElem? (i := 1) (by decide +kernel))), List.mem_append_right _ (List.mem_append_right _ (List.mem_append_right _ (List.mem_append_left _ (List.mem_of_getElem? (i := 205) (by decide +kernel))))), ⟨by decide +kernel, by decide +kernel, by decide +kernel⟩⟩
theorem mv_Law_67 : MV "PaperChanceryLaw" 67 y_Md_disprove b_Md_disprove 2 (some (FieldType.int)) 1 := ⟨List.mem_append_right _ (List.mem_append_right _ (List.mem_append_right _ (List.mem_append_right _ (List.mem_append_right _ (List.mem_append_left _ (List.mem_of_getElem? (i := 217) (by decide +kernel))))))), List.mem_append_right _ (List.mem_append_right _ (List.mem_append_right _ (List.mem_append_right _ (List.mem_append_right _ (List.mem_append_left _ (List.mem_of_getElem? (i := 218) (by decide +kernel))))))), List.mem_append_right _ (List.mem_append_right _ (List.mem_append_right _ (List.mem_append_right _ (List.mem_append_right _ (List.mem_append_left _ (List.mem_of_getElem? (i := 219) (by decide +kernel))))))), List.mem_append_right _ (List.mem_append_left _ (List.mem_of_getElem? (i := 14) (by decide +kernel))), List.mem_append_right _ (List.mem_append_right _ (List.mem_append_right _ (List.mem_append_right _ (List.mem_append_right _ (List.mem_append_left _ (List.mem_of_getElem? (i := 220) (by decide +kernel))))))), ⟨by decide +kernel, by decide +kernel, by decide +kernel⟩⟩
theorem mv_Law_68 : MV "PaperChanceryLaw" 68 y_Chan_as b_Chan_as 2 (some (FieldType.boolean)) 1 := ⟨List.mem_append_right _ (List.mem_append_right _ (List.mem_append_right _ (List.mem_append_left _ (List.mem_of_getElem? (i := 210) (by decide +kernel))))), List.mem_append_right _ (List.mem_append_right _ (List.mem_append_right _ (List.mem_append_left _ (List.mem_of_getElem? (i := 211) (by decide +kernel))))), List.mem_append_right _ (List.mem_append_right _ (List.mem_append_right _ (List.mem_append_left _ (List.mem_of_getElem? (i := 212) (by decide +kernel))))), List.mem_append_right _ (List.mem_append_left _ (List.mem_of_getElem? (i := 1) (by decide +kernel))), List.mem_append_right _ (List.mem_append_right _ (List.mem_append_right _ (List.mem_append_left _ (List.mem_of_getElem? (i := 213) (by decide +kernel))))), ⟨by decide +kernel, by decide +kernel, by decide +kernel⟩⟩
theorem mv_Law_71 : MV "PaperChanceryLaw" 71 y_Md_as b_Md_as 2 (some (FieldType.boolean)) 1 := ⟨List.mem_append_right _ (List.mem_append_right _ (List.mem_append_right _ (List.mem_append_right _ (List.mem_append_right _ (List.mem_append_left _ (List.mem_of_getElem? (i := 221) (by decide +kernel))))))), List.mem_append_right _ (List.mem_append_right _ (List.mem_append_right _ (List.mem_append_right _ (List.mem_append_right _ (List.mem_append_left _ (List.mem_of_getElem? (i := 222) (by decide +kernel))))))), List.mem_append_right _ (List.mem_append_right _ (List.mem_append_right _ (List.mem_append_right _ (List.mem_append_right _ (List.mem_append_left _ (List.mem_of_getElem? (i := 223) (by decide +kernel))))))), List.mem_append_right _ (List.mem_append_left _ (List.mem_of_getElem? (i := 14) (by decide +kernel))), List.mem_append_right _ (List.mem_append_right _ (List.mem_append_right _ (List.mem_append_right _ (List.mem_append_right _ (List.mem_append_left _ (List.mem_of_getElem? (i := 224) (by decide +kernel))))))), ⟨by decide +kernel, by decide +kernel, by decide +kernel⟩⟩
theorem mv_Law_72 : MV "PaperChanceryLaw" 72 y_Chan_holder b_Chan_holder 3 (some (FieldType.int)) 2 := ⟨List.mem_append_right _ (List.mem_append_right _ (List.mem_append_right _ (List.mem_append_left _ (List.mem_of_getElem? (i := 214) (by decide +kernel))))), List.mem_append_right _ (List.mem_append_right _ (List.mem_append_right _ (List.mem_append_left _ (List.mem_of_getElem? (i := 215) (by decide +kernel))))), List.mem_append_right _ (List.mem_append_right _ (List.mem_append_right _ (List.mem_append_left _ (List.mem_of_getElem? (i := 216) (by decide +kernel))))), List.mem_append_right _ (List.mem_append_left _ (List.mem_of_getElem? (i := 1) (by decide +kernel))), List.mem_append_right _ (List.mem_append_right _ (List.mem_append_right _ (List.mem_append_left _ (List.mem_of_getElem? (i := 217) (by decide +kernel))))), ⟨by decide +kernel, by decide +kernel, by decide +kernel⟩⟩
theorem mv_Law_75 : MV "PaperChanceryLaw" 75 y_Md_holder b_Md_holder 3 (some (FieldType.int)) 2 := ⟨List.mem_append_right _ (List.mem_append_right _ (List.mem_append_right _ (List.mem_append_right _ (List.mem_append_right _ (List.mem_append_left _ (List.mem_of_getElem? (i := 225) (by decide +kernel))))))), List.mem_append_right _ (List.mem_append_right _ (List.mem_append_right _ (List.mem_append_right _ (List.mem_append_right _ (List.mem_append_left _ (List.mem_of_getElem? (i := 226) (by decide +kernel))))))), List.mem_append_right _ (List.mem_append_right _ (List.mem_append_right _ (List.mem_append_right _ (List.mem_append_right _ (List.mem_append_left _ (List.mem_of_getElem? (i := 227) (by decide +kernel))))))), List.mem_append_right _ (List.mem_append_left _ (List.mem_of_getElem? (i := 14) (by decide +kernel))), List.mem_append_right _ (List.mem_append_right _ (List.mem_append_right _ (List.mem_append_right _ (List.mem_append_right _ (List.mem_append_left _ (List.mem_of_getElem? (i := 228) (by decide +kernel))))))), ⟨by decide +kernel, by decide +kernel, by decide +kernel⟩⟩
theorem mv_Law_76 : MV "PaperChanceryLaw" 76 y_Chan_paperOf b_Chan_paperOf 4 (some (FieldType.int)) 2 := ⟨List.mem_append_right _ (List.mem_append_right _ (List.mem_append_right _ (List.mem_append_right _ (List.mem_append_left _ (List.mem_of_getElem? (i := 74) (by decide +kernel)))))), List.mem_append_right _ (List.mem_append_right _ (List.mem_append_right _ (List.mem_append_right _ (List.mem_append_left _ (List.mem_of_getElem? (i := 75) (by decide +kernel)))))), List.mem_append_right _ (List.mem_append_right _ (List.mem_append_right _ (List.mem_append_right _ (List.mem_append_left _ (List.mem_of_getElem? (i := 76) (by decide +kernel)))))), List.mem_append_right _ (List.mem_append_left _ (List.mem_of_getElem? (i := 1) (by decide +kernel))), List.mem_append_right _ (List.mem_append_right _ (List.mem_append_right _ (List.mem_append_right _ (List.mem_append_left _ (List.mem_of_getElem? (i := 77) (by decide +kernel)))))), ⟨by decide +kernel, by decide +kernel, by decide +kernel⟩⟩
theorem mv_Law_79 : MV "PaperChanceryLaw" 79 y_Md_paperOf b_Md_paperOf 3 (some (FieldType.int)) 2 := ⟨List.mem_append_right _ (List.mem_append_right _ (List.mem_append_right _ (List.mem_append_right _ (List.mem_append_right _ (List.mem_append_right _ (List.mem_of_getElem? (i := 68) (by decide +kernel))))))), List.mem_append_right _ (List.mem_append_right _ (List.mem_append_right _ (List.mem_append_right _ (List.mem_append_right _ (List.mem_append_right _ (List.mem_of_getElem? (i := 69) (by decide +kernel))))))), List.mem_append_right _ (List.mem_append_right _ (List.mem_append_right _ (List.mem_append_right _ (List.mem_append_right _ (List.mem_append_right _ (List.mem_of_getElem? (i := 70) (by decide +kernel))))))), List.mem_append_right _ (List.mem_append_left _ (List.mem_of_getElem? (i := 14) (by decide +kernel))), List.mem_append_right _ (List.mem_append_right _ (List.mem_append_right _ (List.mem_append_right _ (List.mem_append_right _ (List.mem_append_right _ (List.mem_of_getElem? (i := 71) (by decide +kernel))))))), ⟨by decide +kernel, by decide +kernel, by decide +kernel⟩⟩
theorem mv_Law_80 : MV "PaperChanceryLaw" 80 y_Chan_posts b_Chan_posts 3 (some (FieldType.int)) 2 := ⟨List.mem_append_right _ (List.mem_append_right _ (List.mem_append_right _ (List.mem_append_right _ (List.mem_append_left _ (List.mem_of_getElem? (i := 83) (by decide +kernel)))))), List.mem_append_right _ (List.mem_append_right _ (List.mem_append_right _ (List.mem_append_right _ (List.mem_append_left _ (List.mem_of_getElem? (i := 84) (by decide +kernel)))))), List.mem_append_right _ (List.mem_append_right _ (List.mem_append_right _ (List.mem_append_right _ (List.mem_append_left _ (List.mem_of_getElem? (i := 85) (by decide +kernel)))))), List.mem_append_right _ (List.mem_append_left _ (List.mem_of_getElem? (i := 1) (by decide +kernel))), List.mem_append_right _ (List.mem_append_right _ (List.mem_append_right _ (List.mem_append_right _ (List.mem_append_left _ (List.mem_of_getElem? (i := 86) (by decide +kernel)))))), ⟨by decide +kernel, by decide +kernel, by decide +kernel⟩⟩
theorem mv_Law_83 : MV "PaperChanceryLaw" 83 y_Md_posts b_Md_posts 3 (some (FieldType.int)) 2 := ⟨List.mem_append_right _ (List.mem_append_right _ (List.mem_append_right _ (List.mem_append_right _ (List.mem_append_right _ (List.mem_append_right _ (List.mem_of_getElem? (i := 76) (by decide +kernel))))))), List.mem_append_right _ (List.mem_append_right _ (List.mem_append_right _ (List.mem_append_right _ (List.mem_append_right _ (List.mem_append_right _ (List.mem_of_getElem? (i := 77) (by decide +kernel))))))), List.mem_append_right _ (List.mem_append_right _ (List.mem_append_right _ (List.mem_append_right _ (List.mem_append_right _ (List.mem_append_right _ (List.mem_of_getElem? (i := 78) (by decide +kernel))))))), List.mem_append_right _ (List.mem_append_left _ (List.mem_of_getElem? (i := 14) (by decide +kernel))), List.mem_append_right _ (List.mem_append_right _ (List.mem_append_right _ (List.mem_append_right _ (List.mem_append_right _ (List.mem_append_right _ (List.mem_of_getElem? (i := 79) (by decide +kernel))))))), ⟨by decide +kernel, by decide +kernel, by decide +kernel⟩⟩
theorem mv_Law_84 : MV "PaperChanceryLaw" 84 y_Chan_due b_Chan_due 3 (some (FieldType.long)) 2 := ⟨List.mem_append_right _ (List.mem_append_right _ (List.mem_append_right _ (List.mem_append_right _ (List.mem_append_left _ (List.mem_of_getElem? (i := 87) (by decide +kernel)))))), List.mem_append_right _ (List.mem_append_right _ (List.mem_append_right _ (List.mem_append_right _ (List.mem_append_left _ (List.mem_of_getElem? (i := 88) (by decide +kernel)))))), List.mem_append_right _ (List.mem_append_right _ (List.mem_append_right _ (List.mem_append_right _ (List.mem_append_left _ (List.mem_of_getElem? (i := 89) (by decide +kernel)))))), List.mem_append_right _ (List.mem_append_left _ (List.mem_of_getElem? (i := 1) (by decide +kernel))), List.mem_append_right _ (List.mem_append_right _ (List.mem_append_right _ (List.mem_append_right _ (List.mem_append_left _ (List.mem_of_getElem? (i := 90) (by decide +kernel)))))), ⟨by decide +kernel, by decide +kernel, by decide +kernel⟩⟩
theorem mv_Law_88 : MV "PaperChanceryLaw" 88 y_Md_due b_Md_due 6 (some (FieldType.long)) 2 := ⟨List.mem_append_right _ (List.mem_append_right _ (List.mem_append_right _ (List.mem_append_right _ (List.mem_append_right _ (List.mem_append_right _ (List.mem_of_getElem? (i := 80) (by decide +kernel))))))), List.mem_append_right _ (List.mem_append_right _ (List.mem_append_right _ (List.mem_append_right _ (List.mem_append_right _ (List.mem_append_right _ (List.mem_of_getElem? (i := 81) (by decide +kernel))))))), List.mem_append_right _ (List.mem_append_right _ (List.mem_append_right _ (List.mem_append_right _ (List.mem_append_right _ (List.mem_append_right _ (List.mem_of_getElem? (i := 82) (by decide +kernel))))))), List.mem_append_right _ (List.mem_append_left _ (List.mem_of_getElem? (i := 14) (by decide +kernel))), List.mem_append_right _ (List.mem_append_right _ (List.mem_append_right _ (List.mem_append_right _ (List.mem_append_right _ (List.mem_append_right _ (List.mem_of_getElem? (i := 83) (by decide +kernel))))))), ⟨by decide +kernel, by decide +kernel, by decide +kernel⟩⟩
theorem mv_Law_89 : MV "PaperChanceryLaw" 89 y_Chan_claims b_Chan_claims 3 (some (FieldType.int)) 2 := ⟨List.mem_append_right _ (List.mem_append_right _ (List.mem_append_right _ (List.mem_append_right _ (List.mem_append_left _ (List.mem_of_getElem? (i := 97) (by decide +kernel)))))), List.mem_append_right _ (List.mem_append_right _ (List.mem_append_right _ (List.mem_append_right _ (List.mem_append_left _ (List.mem_of_getElem? (i := 98) (by decide +kernel)))))), List.mem_append_right _ (List.mem_append_right _ (List.mem_append_right _ (List.mem_append_right _ (List.mem_append_left _ (List.mem_of_getElem? (i := 99) (by decide +kernel)))))), List.mem_append_right _ (List.mem_append_left _ (List.mem_of_getElem? (i := 1) (by decide +kernel))), List.mem_append_right _ (List.mem_append_right _ (List.mem_append_right _ (List.mem_append_right _ (List.mem_append_left _ (List.mem_of_getElem? (i := 100) (by decide +kernel)))))), ⟨by decide +kernel, by decide +kernel, by decide +kernel⟩⟩
theorem mv_Law_92 : MV "PaperChanceryLaw" 92 y_Md_claims b_Md_claims 5 (some (FieldType.int)) 2 := ⟨List.mem_append_right _ (List.mem_append_right _ (List.mem_append_right _ (List.mem_append_right _ (List.mem_append_right _ (List.mem_append_right _ (List.mem_of_getElem? (i := 86) (by decide +kernel))))))), List.mem_append_right _ (List.mem_append_right _ (List.mem_append_right _ (List.mem_append_right _ (List.mem_append_right _ (List.mem_append_right _ (List.mem_of_getElem? (i := 87) (by decide +kernel))))))), List.mem_append_right _ (List.mem_append_right _ (List.mem_append_right _ (List.mem_append_right _ (List.mem_append_right _ (List.mem_append_right _ (List.mem_of_getElem? (i := 88) (by decide +kernel))))))), List.mem_append_right _ (List.mem_append_left _ (List.mem_of_getElem? (i := 14) (by decide +kernel))), List.mem_append_right _ (List.mem_append_right _ (List.mem_append_right _ (List.mem_append_right _ (List.mem_append_right _ (List.mem_append_right _ (List.mem_of_getElem? (i := 89) (by decide +kernel))))))), ⟨by decide +kernel, by decide +kernel, by decide +kernel⟩⟩
theorem mv_Law_93 : MV "PaperChanceryLaw" 93 y_Chan_claim b_Chan_claim 2 (some (FieldType.int)) 1 := ⟨List.mem_append_right _ (List.mem_append_right _ (List.mem_append_right _ (List.mem_append_right _ (List.mem_append_left _ (List.mem_of_getElem? (i := 105) (by decide +kernel)))))), List.mem_append_right _ (List.mem_append_right _ (List.mem_append_right _ (List.mem_append_right _ (List.mem_append_left _ (List.mem_of_getElem? (i := 106) (by decide +kernel)))))), List.mem_append_right _ (List.mem_append_right _ (List.mem_append_right _ (List.mem_append_right _ (List.mem_append_left _ (List.mem_of_getElem? (i := 107) (by decide +kernel)))))), List.mem_append_right _ (List.mem_append_left _ (List.mem_of_getElem? (i := 1) (by decide +kernel))), List.mem_append_right _ (List.mem_append_right _ (List.mem_append_right _ (List.mem_append_right _ (List.mem_append_left _ (List.mem_of_getElem? (i := 108) (by decide +kernel)))))), ⟨by decide +kernel, by decide +kernel, by decide +kernel⟩⟩
theorem mv_Law_96 : MV "PaperChanceryLaw" 96 y_Md_claim b_Md_claim 2 (some (FieldType.int)) 1 := ⟨List.mem_append_right _ (List.mem_append_right _ (List.mem_append_right _ (List.mem_append_right _ (List.mem_append_right _ (List.mem_append_right _ (List.mem_of_getElem? (i := 90) (by decide +kernel))))))), List.mem_append_right _ (List.mem_append_right _ (List.mem_append_right _ (List.mem_append_right _ (List.mem_append_right _ (List.mem_append_right _ (List.mem_of_getElem? (i := 91) (by decide +kernel))))))), List.mem_append_right _ (List.mem_append_right _ (List.mem_append_right _ (List.mem_append_right _ (List.mem_append_right _ (List.mem_append_right _ (List.mem_of_getElem? (i := 92) (by decide +kernel))))))), List.mem_append_right _ (List.mem_append_left _ (List.mem_of_getElem? (i := 14) (by decide +kernel))), List.mem_append_right _ (List.mem_append_right _ (List.mem_append_right _ (List.mem_append_right _ (List.mem_append_right _ (List.mem_append_right _ (List.mem_of_getElem? (i := 93) (by decide +kernel))))))), ⟨by decide +kernel, by decide +kernel, by decide +kernel⟩⟩
theorem mv_Law_97 : MV "PaperChanceryLaw" 97 y_Chan_by b_Chan_by 6 (some (FieldType.int)) 4 := ⟨List.mem_append_right _ (List.mem_append_right _ (List.mem_append_right _ (List.mem_append_right _ (List.mem_append_left _ (List.mem_of_getElem? (i := 109) (by decide +kernel)))))), List.mem_append_right _ (List.mem_append_right _ (List.mem_append_right _ (List.mem_append_right _ (List.mem_append_left _ (List.mem_of_getElem? (i := 110) (by decide +kernel)))))), List.mem_append_right _ (List.mem_append_right _ (List.mem_append_right _ (List.mem_append_right _ (List.mem_append_left _ (List.mem_of_getElem? (i := 111) (by decide +kernel)))))), List.mem_append_right _ (List.mem_append_left _ (List.mem_of_getElem? (i := 1) (by decide +kernel))), List.mem_append_right _ (List.mem_append_right _ (List.mem_append_right _ (List.mem_append_right _ (List.mem_append_left _ (List.mem_of_getElem? (i := 112) (by decide +kernel)))))), ⟨by decide +kernel, by decide +kernel, by decide +kernel⟩⟩
theorem mv_Law_101 : MV "PaperChanceryLaw" 101 y_Md_by b_Md_by 5 (some (FieldType.int)) 4 := ⟨List.mem_append_right _ (List.mem_append_right _ (List.mem_append_right _ (List.mem_append_right _ (List.mem_append_right _ (List.mem_append_right _ (List.mem_of_getElem? (i := 94) (by decide +kernel))))))), List.mem_append_right _ (List.mem_append_right _ (List.mem_append_right _ (List.mem_append_right _ (List.mem_append_right _ (List.mem_append_right _ (List.mem_of_getElem? (i := 95) (by decide +kernel))))))), List.mem_append_right _ (List.mem_append_right _ (List.mem_append_right _ (List.mem_append_right _ (List.mem_append_right _ (List.mem_append_right _ (List.mem_of_getElem? (i := 96) (by decide +kernel))))))), List.mem_append_right _ (List.mem_append_left _ (List.mem_of_getElem? (i := 14) (by decide +kernel))), List.mem_append_right _ (List.mem_append_right _ (List.mem_append_right _ (List.mem_append_right _ (List.mem_append_right _ (List.mem_append_right _ (List.mem_of_getElem? (i := 97) (by decide +kernel))))))), ⟨by decide +kernel, by decide +kernel, by decide +kernel⟩⟩
theorem mv_Law_102 : MV "PaperChanceryLaw" 102 y_Chan_since b_Chan_since 4 (some (FieldType.int)) 1 := ⟨List.mem_append_right _ (List.mem_append_right _ (List.mem_append_right _ (List.mem_append_right _ (List.mem_append_left _ (List.mem_of_getElem? (i := 117) (by decide +kernel)))))), List.mem_append_right _ (List.mem_append_right _ (List.mem_append_right _ (List.mem_append_right _ (List.mem_append_left _ (List.mem_of_getElem? (i := 118) (by decide +kernel)))))), List.mem_append_right _ (List.mem_append_right _ (List.mem_append_right _ (List.mem_append_right _ (List.mem_append_left _ (List.mem_of_getElem? (i := 119) (by decide +kernel)))))), List.mem_append_right _ (List.mem_append_left _ (List.mem_of_getElem? (i := 1) (by decide +kernel))), List.mem_append_right _ (List.mem_append_right _ (List.mem_append_right _ (List.mem_append_right _ (List.mem_append_left _ (List.mem_of_getElem? (i := 120) (by decide +kernel)))))), ⟨by decide +kernel, by decide +kernel, by decide +kernel⟩⟩
theorem mv_Law_105 : MV "PaperChanceryLaw" 105 y_Md_since b_Md_since 5 (some (FieldType.int)) 1 := ⟨List.mem_append_right _ (List.mem_append_right _ (List.mem_append_right _ (List.mem_append_right _ (List.mem_append_right _ (List.mem_append_right _ (List.mem_of_getElem? (i := 98) (by decide +kernel))))))), List.mem_append_right _ (List.mem_append_right _ (List.mem_append_right _ (List.mem_append_right _ (List.mem_append_right _ (List.mem_append_right _ (List.mem_of_getElem? (i := 99) (by decide +kernel))))))), List.mem_append_right _ (List.mem_append_right _ (List.mem_append_right _ (List.mem_append_right _ (List.mem_append_right _ (List.mem_append_right _ (List.mem_of_getElem? (i := 100) (by decide +kernel))))))), List.mem_append_right _ (List.mem_append_left _ (List.mem_of_getElem? (i := 14) (by decide +kernel))), List.mem_append_right _ (List.mem_append_right _ (List.mem_append_right _ (List.mem_append_right _ (List.mem_append_right _ (List.mem_append_right _ (List.mem_of_getElem? (i := 101) (by decide +kernel))))))), ⟨by decide +kernel, by decide +kernel, by decide +kernel⟩⟩
theorem mv_Law_106 : MV "PaperChanceryLaw" 106 y_Chan_all b_Chan_all 2 (some (FieldType.int)) 1 := ⟨List.mem_append_right _ (List.mem_append_right _ (List.mem_append_right _ (List.mem_append_right _ (List.mem_append_left _ (List.mem_of_getElem? (i := 136) (by decide +kernel)))))), List.mem_append_right _ (List.mem_append_right _ (List.mem_append_right _ (List.mem_append_right _ (List.mem_append_left _ (List.mem_of_getElem? (i := 137) (by decide +kernel)))))), List.mem_append_right _ (List.mem_append_right _ (List.mem_append_right _ (List.mem_append_right _ (List.mem_append_left _ (List.mem_of_getElem? (i := 138) (by decide +kernel)))))), List.mem_append_right _ (List.mem_append_left _ (List.mem_of_getElem? (i := 1) (by decide +kernel))), List.mem_append_right _ (List.mem_append_right _ (List.mem_append_right _ (List.mem_append_right _ (List.mem_append_left _ (List.mem_of_getElem? (i := 139) (by decide +kernel)))))), ⟨by decide +kernel, by decide +kernel, by decide +kernel⟩⟩
theorem mv_Law_109 : MV "PaperChanceryLaw" 109 y_Md_all b_Md_all 4 (some (FieldType.int)) 1 := ⟨List.mem_append_right _ (List.mem_append_right _ (List.mem_append_right _ (List.mem_append_right _ (List.mem_append_right _ (List.mem_append_right _ (List.mem_of_getElem? (i := 102) (by decide +kernel))))))), List.mem_append_right _ (List.mem_append_right _ (List.mem_append_right _ (List.mem_append_right _ (List.mem_append_right _ (List.mem_append_right _ (List.mem_of_getElem? (i := 103) (by decide +kernel))))))), List.mem_append_right _ (List.mem_append_right _ (List.mem_append_right _ (List.mem_append_right _ (List.mem_append_right _ (List.mem_append_right _ (List.mem_of_getElem? (i := 104) (by decide +kernel))))))), List.mem_append_right _ (List.mem_append_left _ (List.mem_of_getElem? (i := 14) (by decide +kernel))), List.mem_append_right _ (List.mem_append_right _ (List.mem_append_right _ (List.mem_append_right _ (List.mem_append_right _ (List.mem_append_right _ (List.mem_of_getElem? (i := 105) (by decide +kernel))))))), ⟨by decide +kernel, by decide +kernel, by decide +kernel⟩⟩
theorem mv_Law_110 : MV "PaperChanceryLaw" 110 y_Chan_wish b_Chan_wish 3 (some (FieldType.int)) 2 := ⟨List.mem_append_right _ (List.mem_append_right _ (List.mem_append_right _ (List.mem_append_right _ (List.mem_append_left _ (List.mem_of_getElem? (i := 144) (by decide +kernel)))))), List.mem_append_right _ (List.mem_append_right _ (List.mem_append_right _ (List.mem_append_right _ (List.mem_append_left _ (List.mem_of_getElem? (i := 145) (by decide +kernel)))))), List.mem_append_right _ (List.mem_append_right _ (List.mem_append_right _ (List.mem_append_right _ (List.mem_append_left _ (List.mem_of_getElem? (i := 146) (by decide +kernel)))))), List.mem_append_right _ (List.mem_append_left _ (List.mem_of_getElem? (i := 1) (by decide +kernel))), List.mem_append_right _ (List.mem_append_right _ (List.mem_append_right _ (List.mem_append_right _ (List.mem_append_left _ (List.mem_of_getElem? (i := 147) (by decide +kernel)))))), ⟨by decide +kernel, by decide +kernel, by decide +kernel⟩⟩
theorem mv_Law_113 : MV "PaperChanceryLaw" 113 y_Md_wish b_Md_wish 4 (some (FieldType.int)) 2 := ⟨List.mem_append_right _ (List.mem_append_right _ (List.mem_append_right _ (List.mem_append_right _ (List.mem_append_right _ (List.mem_append_right _ (List.mem_of_getElem? (i := 106) (by decide +kernel))))))), List.mem_append_right _ (List.mem_append_right _ (List.mem_append_right _ (List.mem_append_right _ (List.mem_append_right _ (List.mem_append_right _ (List.mem_of_getElem? (i := 107) (by decide +kernel))))))), List.mem_append_right _ (List.mem_append_right _ (List.mem_append_right _ (List.mem_append_right _ (List.mem_append_right _ (List.mem_append_right _ (List.mem_of_getElem? (i := 108) (by decide +kernel))))))), List.mem_append_right _ (List.mem_append_left _ (List.mem_of_getElem? (i := 14) (by decide +kernel))), List.mem_append_right _ (List.mem_append_right _ (List.mem_append_right _ (List.mem_append_right _ (List.mem_append_right _ (List.mem_append_right _ (List.mem_of_getElem? (i := 109) (by decide +kernel))))))), ⟨by decide +kernel, by decide +kernel, by decide +kernel⟩⟩
theorem mv_Law_114 : MV "PaperChanceryLaw" 114 y_Chan_content b_Chan_content 2 (some (FieldType.int)) 1 := ⟨List.mem_append_right _ (List.mem_append_right _ (List.mem_append_right _ (List.mem_append_right _ (List.mem_append_left _ (List.mem_of_getElem? (i := 152) (by decide +kernel)))))), List.mem_append_right _ (List.mem_append_right _ (List.mem_append_right _ (List.mem_append_right _ (List.mem_append_left _ (List.mem_of_getElem? (i := 153) (by decide +kernel)))))), List.mem_append_right _ (List.mem_append_right _ (List.mem_append_right _ (List.mem_append_right _ (List.mem_append_left _ (List.mem_of_getElem? (i := 154) (by decide +kernel)))))), List.mem_append_right _ (List.mem_append_left _ (List.mem_of_getElem? (i := 1) (by decide +kernel))), List.mem_append_right _ (List.mem_append_right _ (List.mem_append_right _ (List.mem_append_right _ (List.mem_append_left _ (List.mem_of_getElem? (i := 155) (by decide +kernel)))))), ⟨by decide +kernel, by decide +kernel, by decide +kernel⟩⟩
theorem mv_Law_117 : MV "PaperChanceryLaw" 117 y_Md_content b_Md_content 3 (some (FieldType.int)) 1 := ⟨List.mem_append_right _ (List.mem_append_right _ (List.mem_append_right _ (List.mem_append_right _ (List.mem_append_right _ (List.mem_append_right _ (List.mem_of_getElem? (i := 110) (by decide +kernel))))))), List.mem_append_right _ (List.mem_append_right _ (List.mem_append_right _ (List.mem_append_right _ (List.mem_append_right _ (List.mem_append_right _ (List.mem_of_getElem? (i := 111) (by decide +kernel))))))), List.mem_append_right _ (List.mem_append_right _ (List.mem_append_right _ (List.mem_append_right _ (List.mem_append_right _ (List.mem_append_right _ (List.mem_of_getElem? (i := 112) (by decide +kernel))))))), List.mem_append_right _ (List.mem_append_left _ (List.mem_of_getElem? (i := 14) (by decide +kernel))), List.mem_append_right _ (List.mem_append_right _ (List.mem_append_right _ (List.mem_append_right _ (List.mem_append_right _ (List.mem_append_right _ (List.mem_of_getElem? (i := 113) (by decide +kernel))))))), ⟨by decide +kernel, by decide +kernel, by decide +kernel⟩⟩
theorem mv_Law_118 : MV "PaperChanceryLaw" 118 y_Chan_rings b_Chan_rings 1 (some (FieldType.int)) 0 := ⟨List.mem_append_right _ (List.mem_append_right _ (List.mem_append_right _ (List.mem_append_right _ (List.mem_append_left _ (List.mem_of_getElem? (i := 160) (by decide +kernel)))))), List.mem_append_right _ (List.mem_append_right _ (List.mem_append_right _ (List.mem_append_right _ (List.mem_append_left _ (List.mem_of_getElem? (i := 161) (by decide +kernel)))))), List.mem_append_right _ (List.mem_append_right _ (List.mem_append_right _ (List.mem_append_right _ (List.mem_append_left _ (List.mem_of_getElem? (i := 162) (by decide +kernel)))))), List.mem_append_right _ (List.mem_append_left _ (List.mem_of_getElem? (i := 1) (by decide +kernel))), List.mem_append_right _ (List.mem_append_right _ (List.mem_append_right _ (List.mem_append_right _ (List.mem_append_left _ (List.mem_of_getElem? (i := 163) (by decide +kernel)))))), ⟨by decide +kernel, by decide +kernel, by decide +kernel⟩⟩
theorem mv_Law_122 : MV "PaperChanceryLaw" 122 y_Md_rings b_Md_rings 6 (some (FieldType.int)) 0 := ⟨List.mem_append_right _ (List.mem_append_right _ (List.mem_append_right _ (List.mem_append_right _ (List.mem_append_right _ (List.mem_append_right _ (List.mem_of_getElem? (i := 114) (by decide +kernel))))))), List.mem_append_right _ (List.mem_append_right _ (List.mem_append_right _ (List.mem_append_right _ (List.mem_append_right _ (List.mem_append_right _ (List.mem_of_getElem? (i := 115) (by decide +kernel))))))), List.mem_append_right _ (List.mem_append_right _ (List.mem_append_right _ (List.mem_append_right _ (List.mem_append_right _ (List.mem_append_right _ (List.mem_of_getElem? (i := 116) (by decide +kernel))))))), List.mem_append_right _ (List.mem_append_left _ (List.mem_of_getElem? (i := 14) (by decide +kernel))), List.mem_append_right _ (List.mem_append_right _ (List.mem_append_right _ (List.mem_append_right _ (List.mem_append_right _ (List.mem_append_right _ (List.mem_of_getElem? (i := 117) (by decide +kernel))))))), ⟨by decide +kernel, by decide +kernel, by decide +kernel⟩⟩
theorem mv_Law_123 : MV "PaperChanceryLaw" 123 y_Chan_got b_Chan_got 2 (some (FieldType.int)) 1 := ⟨List.mem_append_right _ (List.mem_append_right _ (List.mem_append_right _ (List.mem_append_right _ (List.mem_append_left _ (List.mem_of_getElem? (i := 188) (by decide +kernel)))))), List.mem_append_right _ (List.mem_append_right _ (List.mem_append_right _ (List.mem_append_right _ (List.mem_append_left _ (List.mem_of_getElem? (i := 189) (by decide +kernel)))))), List.mem_append_right _ (List.mem_append_right _ (List.mem_append_right _ (List.mem_append_right _ (List.mem_append_left _ (List.mem_of_getElem? (i := 190) (by decide +kernel)))))), List.mem_append_right _ (List.mem_append_left _ (List.mem_of_getElem? (i := 1) (by decide +kernel))), List.mem_append_right _ (List.mem_append_right _ (List.mem_append_right _ (List.mem_append_right _ (List.mem_append_left _ (List.mem_of_getElem? (i := 191) (by decide +kernel)))))), ⟨by decide +kernel, by decide +kernel, by decide +kernel⟩⟩
theorem mv_Law_126 : MV "PaperChanceryLaw" 126 y_Md_got b_Md_got 2 (some (FieldType.int)) 1 := ⟨List.mem_append_right _ (List.mem_append_right _ (List.mem_append_right _ (List.mem_append_right _ (List.mem_append_right _ (List.mem_append_right _ (List.mem_of_getElem? (i := 122) (by decide +kernel))))))), List.mem_append_right _ (List.mem_append_right _ (List.mem_append_right _ (List.mem_append_right _ (List.mem_append_right _ (List.mem_append_right _ (List.mem_of_getElem? (i := 123) (by decide +kernel))))))), List.mem_append_right _ (List.mem_append_right _ (List.mem_append_right _ (List.mem_append_right _ (List.mem_append_right _ (List.mem_append_right _ (List.mem_of_getElem? (i := 124) (by decide +kernel))))))), List.mem_append_right _ (List.mem_append_left _ (List.mem_of_getElem? (i := 14) (by decide +kernel))), List.mem_append_right _ (List.mem_append_right _ (List.mem_append_right _ (List.mem_append_right _ (List.mem_append_right _ (List.mem_append_right _ (List.mem_of_getElem? (i := 125) (by decide +kernel))))))), ⟨by decide +kernel, by decide +kernel, by decide +kernel⟩⟩
theorem mv_Md_143 : MV "PaperChanceryModel" 143 y_Md_put b_Md_put 3 none 1 := ⟨List.mem_append_right _ (List.mem_append_right _ (List.mem_append_right _ (List.mem_append_right _ (List.mem_append_right _ (List.mem_append_left _ (List.mem_of_getElem? (i := 92) (by decide +kernel))))))), List.mem_append_right _ (List.mem_append_right _ (List.mem_append_right _ (List.mem_append_right _ (List.mem_append_right _ (List.mem_append_left _ (List.mem_of_getElem? (i := 94) (by decide +kernel))))))), List.mem_append_left _ (List.mem_of_getElem? (i := 37) (by decide +kernel)), List.mem_append_right _ (List.mem_append_left _ (List.mem_of_getElem? (i := 14) (by decide +kernel))), List.mem_append_right _ (List.mem_append_right _ (List.mem_append_right _ (List.mem_append_right _ (List.mem_append_right _ (List.mem_append_left _ (List.mem_of_getElem? (i := 95) (by decide +kernel))))))), ⟨by decide +kernel, by decide +kernel, by decide +kernel⟩⟩
theorem ms_Md_147 : MS "PaperChanceryModel" 147 y_Md_is b_Md_is 3 (some (FieldType.boolean)) 3 := ⟨List.mem_append_right _ (List.mem_append_right _ (List.mem_append_right _ (List.mem_append_right _ (List.mem_append_right _ (List.mem_append_left _ (List.mem_of_getElem? (i := 104) (by decide +kernel))))))), List.mem_append_right _ (List.mem_append_right _ (List.mem_append_right _ (List.mem_append_right _ (List.mem_append_right _ (List.mem_append_left _ (List.mem_of_getElem? (i := 105) (by decide +kernel))))))), List.mem_append_right _ (List.mem_append_left _ (List.mem_of_getElem? (i := 14) (by decide +kernel))), List.mem_append_right _ (List.mem_append_right _ (List.mem_append_right _ (List.mem_append_right _ (List.mem_append_right _ (List.mem_append_left _ (List.mem_of_getElem? (i := 106) (by decide +kernel))))))), ⟨by decide +kernel, by decide +kernel, by decide +kernel⟩⟩
theorem mv_Md_151 : MV "PaperChanceryModel" 151 y_Md_isPost b_Md_isPost 2 (some (FieldType.boolean)) 1 := ⟨List.mem_append_right _ (List.mem_append_right _ (List.mem_append_right _ (List.mem_append_right _ (List.mem_append_right _ (List.mem_append_left _ (List.mem_of_getElem? (i := 115) (by decide +kernel))))))), List.mem_append_right _ (List.mem_append_right _ (List.mem_append_right _ (List.mem_append_right _ (List.mem_append_right _ (List.mem_append_left _ (List.mem_of_getElem? (i := 117) (by decide +kernel))))))), List.mem_append_left _ (List.mem_of_getElem? (i := 38) (by decide +kernel)), List.mem_append_right _ (List.mem_append_left _ (List.mem_of_getElem? (i := 14) (by decide +kernel))), List.mem_append_right _ (List.mem_append_right _ (List.mem_append_right _ (List.mem_append_right _ (List.mem_append_right _ (List.mem_append_left _ (List.mem_of_getElem? (i := 118) (by decide +kernel))))))), ⟨by decide +kernel, by decide +kernel, by decide +kernel⟩⟩
theorem mv_Md_155 : MV "PaperChanceryModel" 155 y_Md_isPerson b_Md_isPerson 2 (some (FieldType.boolean)) 1 := ⟨List.mem_append_right _ (List.mem_append_right _ (List.mem_append_right _ (List.mem_append_right _ (List.mem_append_right _ (List.mem_append_left _ (List.mem_of_getElem? (i := 119) (by decide +kernel))))))), List.mem_append_right _ (List.mem_append_right _ (List.mem_append_right _ (List.mem_append_right _ (List.mem_append_right _ (List.mem_append_left _ (List.mem_of_getElem? (i := 121) (by decide +kernel))))))), List.mem_append_left _ (List.mem_of_getElem? (i := 39) (by decide +kernel)), List.mem_append_right _ (List.mem_append_left _ (List.mem_of_getElem? (i := 14) (by decide +kernel))), List.mem_append_right _ (List.mem_append_right _ (List.mem_append_right _ (List.mem_append_right _ (List.mem_append_right _ (List.mem_append_left _ (List.mem_of_getElem? (i := 122) (by decide +kernel))))))), ⟨by decide +kernel, by decide +kernel, by decide +kernel⟩⟩
theorem mv_Md_158 : MV "PaperChanceryModel" 158 y_Md_here b_Md_here 1 (some (FieldType.int)) 0 := ⟨List.mem_append_right _ (List.mem_append_right _ (List.mem_append_right _ (List.mem_append_right _ (List.mem_append_right _ (List.mem_append_left _ (List.mem_of_getElem? (i := 127) (by decide +kernel))))))), List.mem_append_right _ (List.mem_append_right _ (List.mem_append_right _ (List.mem_append_right _ (List.mem_append_right _ (List.mem_append_left _ (List.mem_of_getElem? (i := 129) (by decide +kernel))))))), List.mem_append_left _ (List.mem_of_getElem? (i := 40) (by decide +kernel)), List.mem_append_right _ (List.mem_append_left _ (List.mem_of_getElem? (i := 14) (by decide +kernel))), List.mem_append_right _ (List.mem_append_right _ (List.mem_append_right _ (List.mem_append_right _ (List.mem_append_right _ (List.mem_append_left _ (List.mem_of_getElem? (i := 130) (by decide +kernel))))))), ⟨by decide +kernel, by decide +kernel, by decide +kernel⟩⟩
theorem ms_Md_162 : MS "PaperChanceryModel" 162 y_Md_isLetter b_Md_isLetter 1 (some (FieldType.boolean)) 1 := ⟨List.mem_append_right _ (List.mem_append_right _ (List.mem_append_right _ (List.mem_append_right _ (List.mem_append_right _ (List.mem_append_left _ (List.mem_of_getElem? (i := 152) (by decide +kernel))))))), List.mem_append_right _ (List.mem_append_right _ (List.mem_append_right _ (List.mem_append_right _ (List.mem_append_right _ (List.mem_append_left _ (List.mem_of_getElem? (i := 153) (by decide +kernel))))))), List.mem_append_right _ (List.mem_append_left _ (List.mem_of_getElem? (i := 14) (by decide +kernel))), List.mem_append_right _ (List.mem_append_right _ (List.mem_append_right _ (List.mem_append_right _ (List.mem_append_right _ (List.mem_append_left _ (List.mem_of_getElem? (i := 154) (by decide +kernel))))))), ⟨by decide +kernel, by decide +kernel, by decide +kernel⟩⟩
theorem mv_Md_165 : MV "PaperChanceryModel" 165 y_Md_wordSize b_Md_wordSize 2 (some (FieldType.int)) 0 := ⟨List.mem_append_right _ (List.mem_append_right _ (List.mem_append_right _ (List.mem_append_right _ (List.mem_append_right _ (List.mem_append_left _ (List.mem_of_getElem? (i := 148) (by decide +kernel))))))), List.mem_append_right _ (List.mem_append_right _ (List.mem_append_right _ (List.mem_append_right _ (List.mem_append_right _ (List.mem_append_left _ (List.mem_of_getElem? (i := 150) (by decide +kernel))))))), List.mem_append_left _ (List.mem_of_getElem? (i := 45) (by decide +kernel)), List.mem_append_right _ (List.mem_append_left _ (List.mem_of_getElem? (i := 14) (by decide +kernel))), List.mem_append_right _ (List.mem_append_right _ (List.mem_append_right _ (List.mem_append_right _ (List.mem_append_right _ (List.mem_append_left _ (List.mem_of_getElem? (i := 151) (by decide +kernel))))))), ⟨by decide +kernel, by decide +kernel, by decide +kernel⟩⟩
theorem mv_Md_170 : MV "PaperChanceryModel" 170 y_Md_spells b_Md_spells 6 (some (FieldType.boolean)) 2 := ⟨List.mem_append_right _ (List.mem_append_right _ (List.mem_append_right _ (List.mem_append_right _ (List.mem_append_right _ (List.mem_append_left _ (List.mem_of_getElem? (i := 144) (by decide +kernel))))))), List.mem_append_right _ (List.mem_append_right _ (List.mem_append_right _ (List.mem_append_right _ (List.mem_append_right _ (List.mem_append_left _ (List.mem_of_getElem? (i := 146) (by decide +kernel))))))), List.mem_append_left _ (List.mem_of_getElem? (i := 44) (by decide +kernel)), List.mem_append_right _ (List.mem_append_left _ (List.mem_of_getElem? (i := 14) (by decide +kernel))), List.mem_append_right _ (List.mem_append_right _ (List.mem_append_right _ (List.mem_append_right _ (List.mem_append_right _ (List.mem_append_left _ (List.mem_of_getElem? (i := 147) (by decide +kernel))))))), ⟨by decide +kernel, by decide +kernel, by decide +kernel⟩⟩
theorem mv_Md_176 : MV "PaperChanceryModel" 176 y_Md_passes b_Md_passes 5 (some (FieldType.boolean)) 2 := ⟨List.mem_append_right _ (List.mem_append_right _ (List.mem_append_right _ (List.mem_append_right _ (List.mem_append_right _ (List.mem_append_left _ (List.mem_of_getElem? (i := 140) (by decide +kernel))))))), List.mem_append_right _ (List.mem_append_right _ (List.mem_append_right _ (List.mem_append_right _ (List.mem_append_right _ (List.mem_append_left _ (List.mem_of_getElem? (i := 142) (by decide +kernel))))))), List.mem_append_left _ (List.mem_of_getElem? (i := 43) (by decide +kernel)), List.mem_append_right _ (List.mem_append_left _ (List.mem_of_getElem? (i := 14) (by decide +kernel))), List.mem_append_right _ (List.mem_append_right _ (List.mem_append_right _ (List.mem_append_right _ (List.mem_append_right _ (List.mem_append_left _ (List.mem_of_getElem? (i := 143) (by decide +kernel))))))), ⟨by decide +kernel, by decide +kernel, by decide +kernel⟩⟩
theorem mv_Md_191 : MV "PaperChanceryModel" 191 y_Md_blame b_Md_blame 3 none 2 := ⟨List.mem_append_right _ (List.mem_append_right _ (List.mem_append_right _ (List.mem_append_right _ (List.mem_append_right _ (List.mem_append_left _ (List.mem_of_getElem? (i := 131) (by decide +kernel))))))), List.mem_append_right _ (List.mem_append_right _ (List.mem_append_right _ (List.mem_append_right _ (List.mem_append_right _ (List.mem_append_left _ (List.mem_of_getElem? (i := 133) (by decide +kernel))))))), List.mem_append_left _ (List.mem_of_getElem? (i := 41) (by decide +kernel)), List.mem_append_right _ (List.mem_append_left _ (List.mem_of_getElem? (i := 14) (by decide +kernel))), List.mem_append_right _ (List.mem_append_right _ (List.mem_append_right _ (List.mem_append_right _ (List.mem_append_right _ (List.mem_append_left _ (List.mem_of_getElem? (i := 134) (by decide +kernel))))))), ⟨by decide +kernel, by decide +kernel, by decide +kernel⟩⟩
theorem ms_Md_195 : MS "PaperChanceryModel" 195 y_Md_isDigit b_Md_isDigit 1 (some (FieldType.boolean)) 1 := ⟨List.mem_append_right _ (List.mem_append_right _ (List.mem_append_right _ (List.mem_append_right _ (List.mem_append_right _ (List.mem_append_left _ (List.mem_of_getElem? (i := 183) (by decide +kernel))))))), List.mem_append_right _ (List.mem_append_right _ (List.mem_append_right _ (List.mem_append_right _ (List.mem_append_right _ (List.mem_append_left _ (List.mem_of_getElem? (i := 184) (by decide +kernel))))))), List.mem_append_right _ (List.mem_append_left _ (List.mem_of_getElem? (i := 14) (by decide +kernel))), List.mem_append_right _ (List.mem_append_right _ (List.mem_append_right _ (List.mem_append_right _ (List.mem_append_right _ (List.mem_append_left _ (List.mem_of_getElem? (i := 185) (by decide +kernel))))))), ⟨by decide +kernel, by decide +kernel, by decide +kernel⟩⟩
theorem mv_Md_198 : MV "PaperChanceryModel" 198 y_Md_subject b_Md_subject 1 (some (FieldType.int)) 0 := ⟨List.mem_append_right _ (List.mem_append_right _ (List.mem_append_right _ (List.mem_append_right _ (List.mem_append_right _ (List.mem_append_left _ (List.mem_of_getElem? (i := 158) (by decide +kernel))))))), List.mem_append_right _ (List.mem_append_right _ (List.mem_append_right _ (List.mem_append_right _ (List.mem_append_right _ (List.mem_append_left _ (List.mem_of_getElem? (i := 160) (by decide +kernel))))))), List.mem_append_left _ (List.mem_of_getElem? (i := 46) (by decide +kernel)), List.mem_append_right _ (List.mem_append_left _ (List.mem_of_getElem? (i := 14) (by decide +kernel))), List.mem_append_right _ (List.mem_append_right _ (List.mem_append_right _ (List.mem_append_right _ (List.mem_append_right _ (List.mem_append_left _ (List.mem_of_getElem? (i := 161) (by decide +kernel))))))), ⟨by decide +kernel, by decide +kernel, by decide +kernel⟩⟩
theorem mv_Md_201 : MV "PaperChanceryModel" 201 y_Md_digits b_Md_digits 3 (some (FieldType.int)) 0 := ⟨List.mem_append_right _ (List.mem_append_right _ (List.mem_append_right _ (List.mem_append_right _ (List.mem_append_right _ (List.mem_append_left _ (List.mem_of_getElem? (i := 179) (by decide +kernel))))))), List.mem_append_right _ (List.mem_append_right _ (List.mem_append_right _ (List.mem_append_right _ (List.mem_append_right _ (List.mem_append_left _ (List.mem_of_getElem? (i := 181) (by decide +kernel))))))), List.mem_append_left _ (List.mem_of_getElem? (i := 49) (by decide +kernel)), List.mem_append_right _ (List.mem_append_left _ (List.mem_of_getElem? (i := 14) (by decide +kernel))), List.mem_append_right _ (List.mem_append_right _ (List.mem_append_right _ (List.mem_append_right _ (List.mem_append_right _ (List.mem_append_left _ (List.mem_of_getElem? (i := 182) (by decide +kernel))))))), ⟨by decide +kernel, by decide +kernel, by decide +kernel⟩⟩
theorem mv_Md_204 : MV "PaperChanceryModel" 204 y_Md_add b_Md_add 4 none 3 := ⟨List.mem_append_right _ (List.mem_append_right _ (List.mem_append_right _ (List.mem_append_right _ (List.mem_append_right _ (List.mem_append_left _ (List.mem_of_getElem? (i := 171) (by decide +kernel))))))), List.mem_append_right _ (List.mem_append_right _ (List.mem_append_right _ (List.mem_append_right _ (List.mem_append_right _ (List.mem_append_left _ (List.mem_of_getElem? (i := 173) (by decide +kernel))))))), List.mem_append_left _ (List.mem_of_getElem? (i := 47) (by decide +kernel)), List.mem_append_right _ (List.mem_append_left _ (List.mem_of_getElem? (i := 14) (by decide +kernel))), List.mem_append_right _ (List.mem_append_right _ (List.mem_append_right _ (List.mem_append_right _ (List.mem_append_right _ (List.mem_append_left _ (List.mem_of_getElem? (i := 174) (by decide +kernel))))))), ⟨by decide +kernel, by decide +kernel, by decide +kernel⟩⟩
theorem mv_Md_220 : MV "PaperChanceryModel" 220 y_Md_tests b_Md_tests 8 (some (FieldType.int)) 1 := ⟨List.mem_append_right _ (List.mem_append_right _ (List.mem_append_right _ (List.mem_append_right _ (List.mem_append_right _ (List.mem_append_left _ (List.mem_of_getElem? (i := 175) (by decide +kernel))))))), List.mem_append_right _ (List.mem_append_right _ (List.mem_append_right _ (List.mem_append_right _ (List.mem_append_right _ (List.mem_append_left _ (List.mem_of_getElem? (i := 177) (by decide +kernel))))))), List.mem_append_left _ (List.mem_of_getElem? (i := 48) (by decide +kernel)), List.mem_append_right _ (List.mem_append_left _ (List.mem_of_getElem? (i := 14) (by decide +kernel))), List.mem_append_right _ (List.mem_append_right _ (List.mem_append_right _ (List.mem_append_right _ (List.mem_append_right _ (List.mem_append_left _ (List.mem_of_getElem? (i := 178) (by decide +kernel))))))), ⟨by decide +kernel, by decide +kernel, by decide +kernel⟩⟩
theorem mv_Md_226 : MV "PaperChanceryModel" 226 y_Md_rule b_Md_rule 5 none 0 := ⟨List.mem_append_right _ (List.mem_append_right _ (List.mem_append_right _ (List.mem_append_right _ (List.mem_append_right _ (List.mem_append_left _ (List.mem_of_getElem? (i := 135) (by decide +kernel))))))), List.mem_append_right _ (List.mem_append_right _ (List.mem_append_right _ (List.mem_append_right _ (List.mem_append_right _ (List.mem_append_left _ (List.mem_of_getElem? (i := 137) (by decide +kernel))))))), List.mem_append_left _ (List.mem_of_getElem? (i := 42) (by decide +kernel)), List.mem_append_right _ (List.mem_append_left _ (List.mem_of_getElem? (i := 14) (by decide +kernel))), List.mem_append_right _ (List.mem_append_right _ (List.mem_append_right _ (List.mem_append_right _ (List.mem_append_right _ (List.mem_append_left _ (List.mem_of_getElem? (i := 138) (by decide +kernel))))))), ⟨by decide +kernel, by decide +kernel, by decide +kernel⟩⟩
theorem mv_Md_230 : MV "PaperChanceryModel" 230 y_Md_can b_Md_can 2 (some (FieldType.boolean)) 1 := ⟨List.mem_append_right _ (List.mem_append_right _ (List.mem_append_right _ (List.mem_append_right _ (List.mem_append_right _ (List.mem_append_left _ (List.mem_of_getElem? (i := 197) (by decide +kernel))))))), List.mem_append_right _ (List.mem_append_right _ (List.mem_append_right _ (List.mem_append_right _ (List.mem_append_right _ (List.mem_append_left _ (List.mem_of_getElem? (i := 199) (by decide +kernel))))))), List.mem_append_left _ (List.mem_of_getElem? (i := 50) (by decide +kernel)), List.mem_append_right _ (List.mem_append_left _ (List.mem_of_getElem? (i := 14) (by decide +kernel))), List.mem_append_right _ (List.mem_append_right _ (List.mem_append_right _ (List.mem_append_right _ (List.mem_append_right _ (List.mem_append_left _ (List.mem_of_getElem? (i := 200) (by decide +kernel))))))), ⟨by decide +kernel, by decide +kernel, by decide +kernel⟩⟩
theorem mv_Md_233 : MV "PaperChanceryModel" 233 y_Md_tell b_Md_tell 5 (some (FieldType.int)) 4 := ⟨List.mem_append_right _ (List.mem_append_right _ (List.mem_append_right _ (List.mem_append_right _ (List.mem_append_right _ (List.mem_append_left _ (List.mem_of_getElem? (i := 201) (by decide +kernel))))))), List.mem_append_right _ (List.mem_append_right _ (List.mem_append_right _ (List.mem_append_right _ (List.mem_append_right _ (List.mem_append_left _ (List.mem_of_getElem? (i := 203) (by decide +kernel))))))), List.mem_append_left _ (List.mem_of_getElem? (i := 51) (by decide +kernel)), List.mem_append_right _ (List.mem_append_left _ (List.mem_of_getElem? (i := 14) (by decide +kernel))), List.mem_append_right _ (List.mem_append_right _ (List.mem_append_right _ (List.mem_append_right _ (List.mem_append_right _ (List.mem_append_left _ (List.mem_of_getElem? (i := 204) (by decide +kernel))))))), ⟨by decide +kernel, by decide +kernel, by decide +kernel⟩⟩
theorem mv_Md_237 : MV "PaperChanceryModel" 237 y_Md_held b_Md_held 4 (some (FieldType.int)) 1 := ⟨List.mem_append_right _ (List.mem_append_right _ (List.mem_append_right _ (List.mem_append_right _ (List.mem_append_right _ (List.mem_append_right _ (List.mem_of_getElem? (i := 28) (by decide +kernel))))))), List.mem_append_right _ (List.mem_append_right _ (List.mem_append_right _ (List.mem_append_right _ (List.mem_append_right _ (List.mem_append_right _ (List.mem_of_getElem? (i := 30) (by decide +kernel))))))), List.mem_append_left _ (List.mem_of_getElem? (i := 61) (by decide +kernel)), List.mem_append_right _ (List.mem_append_left _ (List.mem_of_getElem? (i := 14) (by decide +kernel))), List.mem_append_right _ (List.mem_append_right _ (List.mem_append_right _ (List.mem_append_right _ (List.mem_append_right _ (List.mem_append_right _ (List.mem_of_getElem? (i := 31) (by decide +kernel))))))), ⟨by decide +kernel, by decide +kernel, by decide +kernel⟩⟩
theorem mv_Md_241 : MV "PaperChanceryModel" 241 y_Md_subjectOf b_Md_subjectOf 6 (some (FieldType.int)) 5 := ⟨List.mem_append_right _ (List.mem_append_right _ (List.mem_append_right _ (List.mem_append_right _ (List.mem_append_right _ (List.mem_append_right _ (List.mem_of_getElem? (i := 24) (by decide +kernel))))))), List.mem_append_right _ (List.mem_append_right _ (List.mem_append_right _ (List.mem_append_right _ (List.mem_append_right _ (List.mem_append_right _ (List.mem_of_getElem? (i := 26) (by decide +kernel))))))), List.mem_append_left _ (List.mem_of_getElem? (i := 60) (by decide +kernel)), List.mem_append_right _ (List.mem_append_left _ (List.mem_of_getElem? (i := 14) (by decide +kernel))), List.mem_append_right _ (List.mem_append_right _ (List.mem_append_right _ (List.mem_append_right _ (List.mem_append_right _ (List.mem_append_right _ (List.mem_of_getElem? (i := 27) (by decide +kernel))))))), ⟨by decide +kernel, by decide +kernel, by decide +kernel⟩⟩
theorem mv_Md_245 : MV "PaperChanceryModel" 245 y_Md_force b_Md_force 4 (some (FieldType.int)) 1 := ⟨List.mem_append_right _ (List.mem_append_right _ (List.mem_append_right _ (List.mem_append_right _ (List.mem_append_right _ (List.mem_append_right _ (List.mem_of_getElem? (i := 16) (by decide +kernel))))))), List.mem_append_right _ (List.mem_append_right _ (List.mem_append_right _ (List.mem_append_right _ (List.mem_append_right _ (List.mem_append_right _ (List.mem_of_getElem? (i := 18) (by decide +kernel))))))), List.mem_append_left _ (List.mem_of_getElem? (i := 58) (by decide +kernel)), List.mem_append_right _ (List.mem_append_left _ (List.mem_of_getElem? (i := 14) (by decide +kernel))), List.mem_append_right _ (List.mem_append_right _ (List.mem_append_right _ (List.mem_append_right _ (List.mem_append_right _ (List.mem_append_right _ (List.mem_of_getElem? (i := 19) (by decide +kernel))))))), ⟨by decide +kernel, by decide +kernel, by decide +kernel⟩⟩
theorem mv_Md_248 : MV "PaperChanceryModel" 248 y_Md_holds b_Md_holds 11 (some (FieldType.boolean)) 5 := ⟨List.mem_append_right _ (List.mem_append_right _ (List.mem_append_right _ (List.mem_append_right _ (List.mem_append_right _ (List.mem_append_right _ (List.mem_of_getElem? (i := 20) (by decide +kernel))))))), List.mem_append_right _ (List.mem_append_right _ (List.mem_append_right _ (List.mem_append_right _ (List.mem_append_right _ (List.mem_append_right _ (List.mem_of_getElem? (i := 22) (by decide +kernel))))))), List.mem_append_left _ (List.mem_of_getElem? (i := 59) (by decide +kernel)), List.mem_append_right _ (List.mem_append_left _ (List.mem_of_getElem? (i := 14) (by decide +kernel))), List.mem_append_right _ (List.mem_append_right _ (List.mem_append_right _ (List.mem_append_right _ (List.mem_append_right _ (List.mem_append_right _ (List.mem_of_getElem? (i := 23) (by decide +kernel))))))), ⟨by decide +kernel, by decide +kernel, by decide +kernel⟩⟩
theorem mv_Md_252 : MV "PaperChanceryModel" 252 y_Md_differ b_Md_differ 9 (some (FieldType.int)) 5 := ⟨List.mem_append_right _ (List.mem_append_right _ (List.mem_append_right _ (List.mem_append_right _ (List.mem_append_right _ (List.mem_append_right _ (List.mem_of_getElem? (i := 56) (by decide +kernel))))))), List.mem_append_right _ (List.mem_append_right _ (List.mem_append_right _ (List.mem_append_right _ (List.mem_append_right _ (List.mem_append_right _ (List.mem_of_getElem? (i := 58) (by decide +kernel))))))), List.mem_append_left _ (List.mem_of_getElem? (i := 68) (by decide +kernel)), List.mem_append_right _ (List.mem_append_left _ (List.mem_of_getElem? (i := 14) (by decide +kernel))), List.mem_append_right _ (List.mem_append_right _ (List.mem_append_right _ (List.mem_append_right _ (List.mem_append_right _ (List.mem_append_right _ (List.mem_of_getElem? (i := 59) (by decide +kernel))))))), ⟨by decide +kernel, by decide +kernel, by decide +kernel⟩⟩
theorem mv_Md_255 : MV "PaperChanceryModel" 255 y_Md_reaches b_Md_reaches 3 (some (FieldType.boolean)) 2 := ⟨List.mem_append_right _ (List.mem_append_right _ (List.mem_append_right _ (List.mem_append_right _ (List.mem_append_right _ (List.mem_append_right _ (List.mem_of_getElem? (i := 8) (by decide +kernel))))))), List.mem_append_right _ (List.mem_append_right _ (List.mem_append_right _ (List.mem_append_right _ (List.mem_append_right _ (List.mem_append_right _ (List.mem_of_getElem? (i := 10) (by decide +kernel))))))), List.mem_append_left _ (List.mem_of_getElem? (i := 56) (by decide +kernel)), List.mem_append_right _ (List.mem_append_left _ (List.mem_of_getElem? (i := 14) (by decide +kernel))), List.mem_append_right _ (List.mem_append_right _ (List.mem_append_right _ (List.mem_append_right _ (List.mem_append_right _ (List.mem_append_right _ (List.mem_of_getElem? (i := 11) (by decide +kernel))))))), ⟨by decide +kernel, by decide +kernel, by decide +kernel⟩⟩
theorem mv_Md_259 : MV "PaperChanceryModel" 259 y_Md_isBarred b_Md_isBarred 7 (some (FieldType.boolean)) 4 := ⟨List.mem_append_right _ (List.mem_append_right _ (List.mem_append_right _ (List.mem_append_right _ (List.mem_append_right _ (List.mem_append_right _ (List.mem_of_getElem? (i := 12) (by decide +kernel))))))), List.mem_append_right _ (List.mem_append_right _ (List.mem_append_right _ (List.mem_append_right _ (List.mem_append_right _ (List.mem_append_right _ (List.mem_of_getElem? (i := 14) (by decide +kernel))))))), List.mem_append_left _ (List.mem_of_getElem? (i := 57) (by decide +kernel)), List.mem_append_right _ (List.mem_append_left _ (List.mem_of_getElem? (i := 14) (by decide +kernel))), List.mem_append_right _ (List.mem_append_right _ (List.mem_append_right _ (List.mem_append_right _ (List.mem_append_right _ (List.mem_append_right _ (List.mem_of_getElem? (i := 15) (by decide +kernel))))))), ⟨by decide +kernel, by decide +kernel, by decide +kernel⟩⟩
theorem mv_Md_263 : MV "PaperChanceryModel" 263 y_Md_takes b_Md_takes 4 none 3 := ⟨List.mem_append_right _ (List.mem_append_right _ (List.mem_append_right _ (List.mem_append_right _ (List.mem_append_right _ (List.mem_append_right _ (List.mem_of_getElem? (i := 36) (by decide +kernel))))))), List.mem_append_right _ (List.mem_append_right _ (List.mem_append_right _ (List.mem_append_right _ (List.mem_append_right _ (List.mem_append_right _ (List.mem_of_getElem? (i := 38) (by decide +kernel))))))), List.mem_append_left _ (List.mem_of_getElem? (i := 63) (by decide +kernel)), List.mem_append_right _ (List.mem_append_left _ (List.mem_of_getElem? (i := 14) (by decide +kernel))), List.mem_append_right _ (List.mem_append_right _ (List.mem_append_right _ (List.mem_append_right _ (List.mem_append_right _ (List.mem_append_right _ (List.mem_of_getElem? (i := 39) (by decide +kernel))))))), ⟨by decide +kernel, by decide +kernel, by decide +kernel⟩⟩
theorem mv_Md_266 : MV "PaperChanceryModel" 266 y_Md_mayHave b_Md_mayHave 4 (some (FieldType.boolean)) 3 := ⟨List.mem_append_right _ (List.mem_append_right _ (List.mem_append_right _ (List.mem_append_right _ (List.mem_append_right _ (List.mem_append_right _ (List.mem_of_getElem? (i := 4) (by decide +kernel))))))), List.mem_append_right _ (List.mem_append_right _ (List.mem_append_right _ (List.mem_append_right _ (List.mem_append_right _ (List.mem_append_right _ (List.mem_of_getElem? (i := 6) (by decide +kernel))))))), List.mem_append_left _ (List.mem_of_getElem? (i := 55) (by decide +kernel)), List.mem_append_right _ (List.mem_append_left _ (List.mem_of_getElem? (i := 14) (by decide +kernel))), List.mem_append_right _ (List.mem_append_right _ (List.mem_append_right _ (List.mem_append_right _ (List.mem_append_right _ (List.mem_append_right _ (List.mem_of_getElem? (i := 7) (by decide +kernel))))))), ⟨by decide +kernel, by decide +kernel, by decide +kernel⟩⟩
theorem mv_Md_269 : MV "PaperChanceryModel" 269 y_Md_decides b_Md_decides 9 (some (FieldType.int)) 4 := ⟨List.mem_append_right _ (List.mem_append_right _ (List.mem_append_right _ (List.mem_append_right _ (List.mem_append_right _ (List.mem_append_right _ (List.mem_of_getElem? (i := 52) (by decide +kernel))))))), List.mem_append_right _ (List.mem_append_right _ (List.mem_append_right _ (List.mem_append_right _ (List.mem_append_right _ (List.mem_append_right _ (List.mem_of_getElem? (i := 54) (by decide +kernel))))))), List.mem_append_left _ (List.mem_of_getElem? (i := 67) (by decide +kernel)), List.mem_append_right _ (List.mem_append_left _ (List.mem_of_getElem? (i := 14) (by decide +kernel))), List.mem_append_right _ (List.mem_append_right _ (List.mem_append_right _ (List.mem_append_right _ (List.mem_append_right _ (List.mem_append_right _ (List.mem_of_getElem? (i := 55) (by decide +kernel))))))), ⟨by decide +kernel, by decide +kernel, by decide +kernel⟩⟩
theorem mv_Md_272 : MV "PaperChanceryModel" 272 y_Md_uses b_Md_uses 4 none 3 := ⟨List.mem_append_right _ (List.mem_append_right _ (List.mem_append_right _ (List.mem_append_right _ (List.mem_append_right _ (List.mem_append_right _ (List.mem_of_getElem? (i := 32) (by decide +kernel))))))), List.mem_append_right _ (List.mem_append_right _ (List.mem_append_right _ (List.mem_append_right _ (List.mem_append_right _ (List.mem_append_right _ (List.mem_of_getElem? (i := 34) (by decide +kernel))))))), List.mem_append_left _ (List.mem_of_getElem? (i := 62) (by decide +kernel)), List.mem_append_right _ (List.mem_append_left _ (List.mem_of_getElem? (i := 14) (by decide +kernel))), List.mem_append_right _ (List.mem_append_right _ (List.mem_append_right _ (List.mem_append_right _ (List.mem_append_right _ (List.mem_append_right _ (List.mem_of_getElem? (i := 35) (by decide +kernel))))))), ⟨by decide +kernel, by decide +kernel, by decide +kernel⟩⟩
theorem mv_Md_275 : MV "PaperChanceryModel" 275 y_Md_leaves b_Md_leaves 4 none 2 := ⟨List.mem_append_right _ (List.mem_append_right _ (List.mem_append_right _ (List.mem_append_right _ (List.mem_append_right _ (List.mem_append_right _ (List.mem_of_getElem? (i := 44) (by decide +kernel))))))), List.mem_append_right _ (List.mem_append_right _ (List.mem_append_right _ (List.mem_append_right _ (List.mem_append_right _ (List.mem_append_right _ (List.mem_of_getElem? (i := 46) (by decide +kernel))))))), List.mem_append_left _ (List.mem_of_getElem? (i := 65) (by decide +kernel)), List.mem_append_right _ (List.mem_append_left _ (List.mem_of_getElem? (i := 14) (by decide +kernel))), List.mem_append_right _ (List.mem_append_right _ (List.mem_append_right _ (List.mem_append_right _ (List.mem_append_right _ (List.mem_append_right _ (List.mem_of_getElem? (i := 47) (by decide +kernel))))))), ⟨by decide +kernel, by decide +kernel, by decide +kernel⟩⟩
theorem mv_Md_278 : MV "PaperChanceryModel" 278 y_Md_gives b_Md_gives 5 none 2 := ⟨List.mem_append_right _ (List.mem_append_right _ (List.mem_append_right _ (List.mem_append_right _ (List.mem_append_right _ (List.mem_append_right _ (List.mem_of_getElem? (i := 48) (by decide +kernel))))))), List.mem_append_right _ (List.mem_append_right _ (List.mem_append_right _ (List.mem_append_right _ (List.mem_append_right _ (List.mem_append_right _ (List.mem_of_getElem? (i := 50) (by decide +kernel))))))), List.mem_append_left _ (List.mem_of_getElem? (i := 66) (by decide +kernel)), List.mem_append_right _ (List.mem_append_left _ (List.mem_of_getElem? (i := 14) (by decide +kernel))), List.mem_append_right _ (List.mem_append_right _ (List.mem_append_right _ (List.mem_append_right _ (List.mem_append_right _ (List.mem_append_right _ (List.mem_of_getElem? (i := 51) (by decide +kernel))))))), ⟨by decide +kernel, by decide +kernel, by decide +kernel⟩⟩
theorem mv_Md_281 : MV "PaperChanceryModel" 281 y_Md_comes b_Md_comes 5 none 2 := ⟨List.mem_append_right _ (List.mem_append_right _ (List.mem_append_right _ (List.mem_append_right _ (List.mem_append_right _ (List.mem_append_right _ (List.mem_of_getElem? (i := 0) (by decide +kernel))))))), List.mem_append_right _ (List.mem_append_right _ (List.mem_append_right _ (List.mem_append_right _ (List.mem_append_right _ (List.mem_append_right _ (List.mem_of_getElem? (i := 2) (by decide +kernel))))))), List.mem_append_left _ (List.mem_of_getElem? (i := 54) (by decide +kernel)), List.mem_append_right _ (List.mem_append_left _ (List.mem_of_getElem? (i := 14) (by decide +kernel))), List.mem_append_right _ (List.mem_append_right _ (List.mem_append_right _ (List.mem_append_right _ (List.mem_append_right _ (List.mem_append_right _ (List.mem_of_getElem? (i := 3) (by decide +kernel))))))), ⟨by decide +kernel, by decide +kernel, by decide +kernel⟩⟩
theorem mv_Md_284 : MV "PaperChanceryModel" 284 y_Md_dies b_Md_dies 4 none 2 := ⟨List.mem_append_right _ (List.mem_append_right _ (List.mem_append_right _ (List.mem_append_right _ (List.mem_append_right _ (List.mem_append_right _ (List.mem_of_getElem? (i := 40) (by decide +kernel))))))), List.mem_append_right _ (List.mem_append_right _ (List.mem_append_right _ (List.mem_append_right _ (List.mem_append_right _ (List.mem_append_right _ (List.mem_of_getElem? (i := 42) (by decide +kernel))))))), List.mem_append_left _ (List.mem_of_getElem? (i := 64) (by decide +kernel)), List.mem_append_right _ (List.mem_append_left _ (List.mem_of_getElem? (i := 14) (by decide +kernel))), List.mem_append_right _ (List.mem_append_right _ (List.mem_append_right _ (List.mem_append_right _ (List.mem_append_right _ (List.mem_append_right _ (List.mem_of_getElem? (i := 43) (by decide +kernel))))))), ⟨by decide +kernel, by decide +kernel, by decide +kernel⟩⟩
theorem mv_Md_287 : MV "PaperChanceryModel" 287 y_Md_resigns b_Md_resigns 4 none 3 := ⟨List.mem_append_right _ (List.mem_append_right _ (List.mem_append_right _ (List.mem_append_right _ (List.mem_append_right _ (List.mem_append_right _ (List.mem_of_getElem? (i := 60) (by decide +kernel))))))), List.mem_append_right _ (List.mem_append_right _ (List.mem_append_right _ (List.mem_append_right _ (List.mem_append_right _ (List.mem_append_right _ (List.mem_of_getElem? (i := 62) (by decide +kernel))))))), List.mem_append_left _ (List.mem_of_getElem? (i := 69) (by decide +kernel)), List.mem_append_right _ (List.mem_append_left _ (List.mem_of_getElem? (i := 14) (by decide +kernel))), List.mem_append_right _ (List.mem_append_right _ (List.mem_append_right _ (List.mem_append_right _ (List.mem_append_right _ (List.mem_append_right _ (List.mem_of_getElem? (i := 63) (by decide +kernel))))))), ⟨by decide +kernel, by decide +kernel, by decide +kernel⟩⟩
theorem mv_Md_290 : MV "PaperChanceryModel" 290 y_Md_swaps b_Md_swaps 6 none 3 := ⟨List.mem_append_right _ (List.mem_append_right _ (List.mem_append_right _ (List.mem_append_right _ (List.mem_append_right _ (List.mem_append_right _ (List.mem_of_getElem? (i := 64) (by decide +kernel))))))), List.mem_append_right _ (List.mem_append_right _ (List.mem_append_right _ (List.mem_append_right _ (List.mem_append_right _ (List.mem_append_right _ (List.mem_of_getElem? (i := 66) (by decide +kernel))))))), List.mem_append_left _ (List.mem_of_getElem? (i := 70) (by decide +kernel)), List.mem_append_right _ (List.mem_append_left _ (List.mem_of_getElem? (i := 14) (by decide +kernel))), List.mem_append_right _ (List.mem_append_right _ (List.mem_append_right _ (List.mem_append_right _ (List.mem_append_right _ (List.mem_append_right _ (List.mem_of_getElem? (i := 67) (by decide +kernel))))))), ⟨by decide +kernel, by decide +kernel, by decide +kernel⟩⟩
theorem ms_Md_293 : MS "PaperChanceryModel" 293 y_Md_isTime b_Md_isTime 1 (some (FieldType.boolean)) 1 := ⟨List.mem_append_right _ (List.mem_append_right _ (List.mem_append_right _ (List.mem_append_right _ (List.mem_append_right _ (List.mem_append_left _ (List.mem_of_getElem? (i := 229) (by decide +kernel))))))), List.mem_append_right _ (List.mem_append_right _ (List.mem_append_right _ (List.mem_append_right _ (List.mem_append_right _ (List.mem_append_left _ (List.mem_of_getElem? (i := 230) (by decide +kernel))))))), List.mem_append_right _ (List.mem_append_left _ (List.mem_of_getElem? (i := 14) (by decide +kernel))), List.mem_append_right _ (List.mem_append_right _ (List.mem_append_right _ (List.mem_append_right _ (List.mem_append_right _ (List.mem_append_left _ (List.mem_of_getElem? (i := 231) (by decide +kernel))))))), ⟨by decide +kernel, by decide +kernel, by decide +kernel⟩⟩
theorem mv_Md_296 : MV "PaperChanceryModel" 296 y_Md_known b_Md_known 1 (some (FieldType.int)) 0 := ⟨List.mem_append_right _ (List.mem_append_right _ (List.mem_append_right _ (List.mem_append_right _ (List.mem_append_right _ (List.mem_append_left _ (List.mem_of_getElem? (i := 232) (by decide +kernel))))))), List.mem_append_right _ (List.mem_append_right _ (List.mem_append_right _ (List.mem_append_right _ (List.mem_append_right _ (List.mem_append_left _ (List.mem_of_getElem? (i := 234) (by decide +kernel))))))), List.mem_append_left _ (List.mem_of_getElem? (i := 52) (by decide +kernel)), List.mem_append_right _ (List.mem_append_left _ (List.mem_of_getElem? (i := 14) (by decide +kernel))), List.mem_append_right _ (List.mem_append_right _ (List.mem_append_right _ (List.mem_append_right _ (List.mem_append_right _ (List.mem_append_left _ (List.mem_of_getElem? (i := 235) (by decide +kernel))))))), ⟨by decide +kernel, by decide +kernel, by decide +kernel⟩⟩
theorem mv_Md_299 : MV "PaperChanceryModel" 299 y_Md_goes b_Md_goes 7 none 2 := ⟨List.mem_append_right _ (List.mem_append_right _ (List.mem_append_right _ (List.mem_append_right _ (List.mem_append_right _ (List.mem_append_left _ (List.mem_of_getElem? (i := 236) (by decide +kernel))))))), List.mem_append_right _ (List.mem_append_right _ (List.mem_append_right _ (List.mem_append_right _ (List.mem_append_right _ (List.mem_append_left _ (List.mem_of_getElem? (i := 238) (by decide +kernel))))))), List.mem_append_left _ (List.mem_of_getElem? (i := 53) (by decide +kernel)), List.mem_append_right _ (List.mem_append_left _ (List.mem_of_getElem? (i := 14) (by decide +kernel))), List.mem_append_right _ (List.mem_append_right _ (List.mem_append_right _ (List.mem_append_right _ (List.mem_append_right _ (List.mem_append_left _ (List.mem_of_getElem? (i := 239) (by decide +kernel))))))), ⟨by decide +kernel, by decide +kernel, by decide +kernel⟩⟩
theorem mv_Md_302 : MV "PaperChanceryModel" 302 y_Md_isPaper b_Md_isPaper 2 (some (FieldType.boolean)) 1 := ⟨List.mem_append_right _ (List.mem_append_right _ (List.mem_append_right _ (List.mem_append_right _ (List.mem_append_right _ (List.mem_append_right _ (List.mem_of_getElem? (i := 72) (by decide +kernel))))))), List.mem_append_right _ (List.mem_append_right _ (List.mem_append_right _ (List.mem_append_right _ (List.mem_append_right _ (List.mem_append_right _ (List.mem_of_getElem? (i := 74) (by decide +kernel))))))), List.mem_append_left _ (List.mem_of_getElem? (i := 71) (by decide +kernel)), List.mem_append_right _ (List.mem_append_left _ (List.mem_of_getElem? (i := 14) (by decide +kernel))), List.mem_append_right _ (List.mem_append_right _ (List.mem_append_right _ (List.mem_append_right _ (List.mem_append_right _ (List.mem_append_right _ (List.mem_of_getElem? (i := 75) (by decide +kernel))))))), ⟨by decide +kernel, by decide +kernel, by decide +kernel⟩⟩
theorem mv_Md_309 : MV "PaperChanceryModel" 309 y_Md_points b_Md_points 4 (some (FieldType.int)) 1 := ⟨List.mem_append_right _ (List.mem_append_right _ (List.mem_append_right _ (List.mem_append_right _ (List.mem_append_right _ (List.mem_append_right _ (List.mem_of_getElem? (i := 118) (by decide +kernel))))))), List.mem_append_right _ (List.mem_append_right _ (List.mem_append_right _ (List.mem_append_right _ (List.mem_append_right _ (List.mem_append_right _ (List.mem_of_getElem? (i := 120) (by decide +kernel))))))), List.mem_append_left _ (List.mem_of_getElem? (i := 72) (by decide +kernel)), List.mem_append_right _ (List.mem_append_left _ (List.mem_of_getElem? (i := 14) (by decide +kernel))), List.mem_append_right _ (List.mem_append_right _ (List.mem_append_right _ (List.mem_append_right _ (List.mem_append_right _ (List.mem_append_right _ (List.mem_of_getElem? (i := 121) (by decide +kernel))))))), ⟨by decide +kernel, by decide +kernel, by decide +kernel⟩⟩
theorem sh_0_0 : (0, 0, 1) ∈ shl := by decide
theorem sh_0_1 : (0, 1, 3) ∈ shl := by decide
theorem sh_0_2 : (0, 2, 16) ∈ shl := by decide
theorem sh_0_3 : (0, 3, 23) ∈ shl := by decide
theorem sh_0_4 : (0, 4, 32) ∈ shl := by decide
theorem sh_0_5 : (0, 5, 38) ∈ shl := by decide
theorem sh_0_6 : (0, 6, 49) ∈ shl := by decide
theorem sh_0_7 : (0, 7, 60) ∈ shl := by decide
theorem sh_0_8 : (0, 8, 63) ∈ shl := by decide
theorem sh_0_9 : (0, 9, 69) ∈ shl := by decide
theorem sh_1_0 : (1, 0, 2) ∈ shl := by decide
theorem sh_3_0 : (3, 0, 12) ∈ shl := by decide
theorem sh_3_1 : (3, 1, 4) ∈ shl := by decide
theorem sh_12_0 : (12, 0, 1) ∈ shl := by decide
theorem sh_12_1 : (12, 1, 13) ∈ shl := by decide
theorem sh_12_2 : (12, 2, 14) ∈ shl := by decide
theorem sh_12_3 : (12, 3, 15) ∈ shl := by decide
theorem sh_16_0 : (16, 0, 17) ∈ shl := by decide
theorem sh_16_1 : (16, 1, 18) ∈ shl := by decide
theorem sh_16_2 : (16, 2, 19) ∈ shl := by decide
theorem sh_16_4 : (16, 4, 20) ∈ shl := by decide
theorem sh_16_5 : (16, 5, 21) ∈ shl := by decide
theorem sh_16_6 : (16, 6, 22) ∈ shl := by decide
theorem sh_23_0 : (23, 0, 24) ∈ shl := by decide
theorem sh_23_1 : (23, 1, 25) ∈ shl := by decide
theorem sh_23_2 : (23, 2, 26) ∈ shl := by decide
theorem sh_23_3 : (23, 3, 27) ∈ shl := by decide
theorem sh_23_4 : (23, 4, 28) ∈ shl := by decide
theorem sh_23_5 : (23, 5, 29) ∈ shl := by decide
theorem sh_23_6 : (23, 6, 30) ∈ shl := by decide
theorem sh_23_7 : (23, 7, 31) ∈ shl := by decide
theorem sh_32_0 : (32, 0, 33) ∈ shl := by decide
theorem sh_32_1 : (32, 1, 34) ∈ shl := by decide
theorem sh_32_2 : (32, 2, 35) ∈ shl := by decide
theorem sh_32_3 : (32, 3, 36) ∈ shl := by decide
theorem sh_32_5 : (32, 5, 37) ∈ shl := by decide
theorem sh_38_0 : (38, 0, 39) ∈ shl := by decide
theorem sh_38_1 : (38, 1, 40) ∈ shl := by decide
theorem sh_38_2 : (38, 2, 41) ∈ shl := by decide
theorem sh_49_0 : (49, 0, 16) ∈ shl := by decide
theorem sh_49_1 : (49, 1, 23) ∈ shl := by decide
theorem sh_49_2 : (49, 2, 32) ∈ shl := by decide
theorem sh_49_3 : (49, 3, 38) ∈ shl := by decide
theorem sh_49_4 : (49, 4, 50) ∈ shl := by decide
theorem sh_49_5 : (49, 5, 51) ∈ shl := by decide
theorem sh_49_6 : (49, 6, 52) ∈ shl := by decide
theorem sh_49_7 : (49, 7, 53) ∈ shl := by decide
theorem sh_49_8 : (49, 8, 54) ∈ shl := by decide
theorem sh_49_9 : (49, 9, 55) ∈ shl := by decide
theorem sh_49_10 : (49, 10, 56) ∈ shl := by decide
theorem sh_49_11 : (49, 11, 57) ∈ shl := by decide
theorem sh_49_12 : (49, 12, 58) ∈ shl := by decide
theorem sh_49_13 : (49, 13, 59) ∈ shl := by decide
theorem sh_60_0 : (60, 0, 16) ∈ shl := by decide
theorem sh_60_1 : (60, 1, 61) ∈ shl := by decide
theorem sh_60_2 : (60, 2, 62) ∈ shl := by decide
theorem sh_63_0 : (63, 0, 64) ∈ shl := by decide
theorem sh_63_1 : (63, 1, 65) ∈ shl := by decide
theorem sh_63_2 : (63, 2, 66) ∈ shl := by decide
theorem sh_63_3 : (63, 3, 67) ∈ shl := by decide
theorem sh_63_4 : (63, 4, 68) ∈ shl := by decide
theorem sh_70_0 : (70, 0, 71) ∈ shl := by decide
theorem sh_70_3 : (70, 3, 72) ∈ shl := by decide
theorem sh_70_5 : (70, 5, 73) ∈ shl := by decide
theorem sh_70_7 : (70, 7, 74) ∈ shl := by decide
theorem sh_70_8 : (70, 8, 75) ∈ shl := by decide
theorem sh_70_9 : (70, 9, 76) ∈ shl := by decide
theorem sh_70_10 : (70, 10, 77) ∈ shl := by decide
theorem sh_70_12 : (70, 12, 78) ∈ shl := by decide
theorem sh_70_13 : (70, 13, 79) ∈ shl := by decide
theorem sh_70_16 : (70, 16, 80) ∈ shl := by decide
theorem sh_70_17 : (70, 17, 81) ∈ shl := by decide
theorem sh_70_18 : (70, 18, 82) ∈ shl := by decide
theorem sh_70_19 : (70, 19, 83) ∈ shl := by decide
theorem sh_70_20 : (70, 20, 84) ∈ shl := by decide
theorem sh_70_26 : (70, 26, 85) ∈ shl := by decide
theorem sh_70_27 : (70, 27, 86) ∈ shl := by decide
theorem sh_70_28 : (70, 28, 87) ∈ shl := by decide
theorem sh_70_29 : (70, 29, 88) ∈ shl := by decide
theorem sh_70_30 : (70, 30, 89) ∈ shl := by decide
theorem sh_70_31 : (70, 31, 90) ∈ shl := by decide
theorem sh_70_32 : (70, 32, 91) ∈ shl := by decide
theorem sh_70_33 : (70, 33, 92) ∈ shl := by decide
theorem sh_70_34 : (70, 34, 93) ∈ shl := by decide
theorem sh_70_36 : (70, 36, 94) ∈ shl := by decide
theorem sh_70_37 : (70, 37, 95) ∈ shl := by decide
theorem sh_70_38 : (70, 38, 96) ∈ shl := by decide
theorem sh_70_39 : (70, 39, 97) ∈ shl := by decide
theorem sh_70_40 : (70, 40, 98) ∈ shl := by decide
abbrev md_Chan_init : MD := ("PaperChancery", b_Chan_init, 1, none, true, ({ frames := 3, cells := 69, slots := 6741, locals := 62 } : Room))
abbrev md_Tape_init : MD := ("PaperChancery$Tape", b_Tape_init, 1, none, true, ({ frames := 1, cells := 1, slots := 400, locals := 20 } : Room))
abbrev md_RuleReader_init : MD := ("PaperChancery$RuleReader", b_RuleReader_init, 2, none, true, ({ frames := 2, cells := 12, slots := 1473, locals := 41 } : Room))
abbrev md_RuleBook_init : MD := ("PaperChancery$RuleBook", b_RuleBook_init, 1, none, true, ({ frames := 1, cells := 7, slots := 256, locals := 20 } : Room))
abbrev md_TokenRow_init : MD := ("PaperChancery$TokenRow", b_TokenRow_init, 2, none, true, ({ frames := 1, cells := 3, slots := 1203, locals := 20 } : Room))
abbrev md_Roll_init : MD := ("PaperChancery$Roll", b_Roll_init, 1, none, true, ({ frames := 1, cells := 6, slots := 120, locals := 20 } : Room))
abbrev md_PaperBox_init : MD := ("PaperChancery$PaperBox", b_PaperBox_init, 1, none, true, ({ frames := 1, cells := 8, slots := 384, locals := 20 } : Room))
abbrev md_Gazette_init : MD := ("PaperChancery$Gazette", b_Gazette_init, 1, none, true, ({ frames := 1, cells := 5, slots := 804, locals := 20 } : Room))
abbrev md_Reigns_init : MD := ("PaperChancery$Reigns", b_Reigns_init, 1, none, true, ({ frames := 2, cells := 10, slots := 277, locals := 40 } : Room))
abbrev md_Course_init : MD := ("PaperChancery$Course", b_Course_init, 5, none, true, ({ frames := 1, cells := 10, slots := 266, locals := 20 } : Room))
abbrev md_Ends_init : MD := ("PaperChancery$Ends", b_Ends_init, 2, none, true, ({ frames := 1, cells := 2, slots := 2737, locals := 23 } : Room))
abbrev md_Arrays_fill_i : MD := ("java/util/Arrays", b_Arrays_fill_i, 4, none, false, ({ frames := 0, cells := 0, slots := 0, locals := 0 } : Room))
abbrev md_Exchange_init : MD := ("PaperChancery$Exchange", b_Exchange_init, 1, none, true, ({ frames := 1, cells := 5, slots := 168, locals := 23 } : Room))
abbrev md_Chan_feed : MD := ("PaperChancery", b_Chan_feed, 6, (some (FieldType.int)), false, ({ frames := 1, cells := 0, slots := 0, locals := 22 } : Room))
abbrev md_Tape_hasRoom : MD := ("PaperChancery$Tape", b_Tape_hasRoom, 1, (some (FieldType.boolean)), false, ({ frames := 0, cells := 0, slots := 0, locals := 0 } : Room))
abbrev md_Tape_append : MD := ("PaperChancery$Tape", b_Tape_append, 3, none, false, ({ frames := 0, cells := 0, slots := 0, locals := 0 } : Room))
abbrev md_Chan_end : MD := ("PaperChancery", b_Chan_end, 2, (some (FieldType.boolean)), false, ({ frames := 1, cells := 0, slots := 0, locals := 21 } : Room))
abbrev md_Tape_cutTo : MD := ("PaperChancery$Tape", b_Tape_cutTo, 2, (some (FieldType.boolean)), false, ({ frames := 0, cells := 0, slots := 0, locals := 0 } : Room))
abbrev md_Chan_person : MD := ("PaperChancery", b_Chan_person, 4, (some (FieldType.int)), false, ({ frames := 1, cells := 0, slots := 0, locals := 23 } : Room))
abbrev md_Chan_isWithin : MD := ("PaperChancery", b_Chan_isWithin, 3, (some (FieldType.boolean)), false, ({ frames := 0, cells := 0, slots := 0, locals := 0 } : Room))
abbrev md_Roll_addPerson : MD := ("PaperChancery$Roll", b_Roll_addPerson, 4, (some (FieldType.int)), false, ({ frames := 0, cells := 0, slots := 0, locals := 0 } : Room))
abbrev md_Chan_post : MD := ("PaperChancery", b_Chan_post, 3, (some (FieldType.int)), false, ({ frames := 1, cells := 0, slots := 0, locals := 22 } : Room))
abbrev md_Roll_addPost : MD := ("PaperChancery$Roll", b_Roll_addPost, 3, (some (FieldType.int)), false, ({ frames := 0, cells := 0, slots := 0, locals := 0 } : Room))
abbrev md_Chan_seat : MD := ("PaperChancery", b_Chan_seat, 3, (some (FieldType.boolean)), false, ({ frames := 2, cells := 0, slots := 0, locals := 43 } : Room))
abbrev md_Roll_isPost : MD := ("PaperChancery$Roll", b_Roll_isPost, 2, (some (FieldType.boolean)), false, ({ frames := 0, cells := 0, slots := 0, locals := 0 } : Room))
abbrev md_Roll_isPerson : MD := ("PaperChancery$Roll", b_Roll_isPerson, 2, (some (FieldType.boolean)), false, ({ frames := 0, cells := 0, slots := 0, locals := 0 } : Room))
abbrev md_Roll_putSeat : MD := ("PaperChancery$Roll", b_Roll_putSeat, 3, none, false, ({ frames := 1, cells := 0, slots := 0, locals := 21 } : Room))
abbrev md_Chan_reign : MD := ("PaperChancery", b_Chan_reign, 3, (some (FieldType.int)), false, ({ frames := 9, cells := 8, slots := 265, locals := 234 } : Room))
abbrev md_RuleReader_read : MD := ("PaperChancery$RuleReader", b_RuleReader_read, 3, (some (FieldType.boolean)), false, ({ frames := 8, cells := 0, slots := 0, locals := 212 } : Room))
abbrev md_RuleBook_clear : MD := ("PaperChancery$RuleBook", b_RuleBook_clear, 1, none, false, ({ frames := 0, cells := 0, slots := 0, locals := 0 } : Room))
abbrev md_TokenRow_scan : MD := ("PaperChancery$TokenRow", b_TokenRow_scan, 3, none, false, ({ frames := 7, cells := 0, slots := 0, locals := 190 } : Room))
abbrev md_TokenRow_skipBlanks : MD := ("PaperChancery$TokenRow", b_TokenRow_skipBlanks, 3, (some (FieldType.int)), false, ({ frames := 0, cells := 0, slots := 0, locals := 0 } : Room))
abbrev md_TokenRow_take : MD := ("PaperChancery$TokenRow", b_TokenRow_take, 3, (some (FieldType.int)), false, ({ frames := 6, cells := 0, slots := 0, locals := 168 } : Room))
abbrev md_TokenRow_isLetter : MD := ("PaperChancery$TokenRow", b_TokenRow_isLetter, 1, (some (FieldType.boolean)), false, ({ frames := 0, cells := 0, slots := 0, locals := 0 } : Room))
abbrev md_TokenRow_takeWord : MD := ("PaperChancery$TokenRow", b_TokenRow_takeWord, 4, (some (FieldType.int)), false, ({ frames := 5, cells := 0, slots := 0, locals := 145 } : Room))
abbrev md_TokenRow_isWord : MD := ("PaperChancery$TokenRow", b_TokenRow_isWord, 6, (some (FieldType.boolean)), false, ({ frames := 4, cells := 0, slots := 0, locals := 120 } : Room))
abbrev md_TokenRow_isDigit : MD := ("PaperChancery$TokenRow", b_TokenRow_isDigit, 1, (some (FieldType.boolean)), false, ({ frames := 0, cells := 0, slots := 0, locals := 0 } : Room))
abbrev md_TokenRow_takeNumber : MD := ("PaperChancery$TokenRow", b_TokenRow_takeNumber, 3, (some (FieldType.int)), false, ({ frames := 1, cells := 0, slots := 0, locals := 20 } : Room))
abbrev md_TokenRow_takeMark : MD := ("PaperChancery$TokenRow", b_TokenRow_takeMark, 2, none, false, ({ frames := 0, cells := 0, slots := 0, locals := 0 } : Room))
abbrev md_RuleReader_readRule : MD := ("PaperChancery$RuleReader", b_RuleReader_readRule, 1, (some (FieldType.boolean)), false, ({ frames := 5, cells := 0, slots := 0, locals := 108 } : Room))
abbrev md_RuleBook_isFull : MD := ("PaperChancery$RuleBook", b_RuleBook_isFull, 1, (some (FieldType.boolean)), false, ({ frames := 0, cells := 0, slots := 0, locals := 0 } : Room))
abbrev md_RuleReader_failWith : MD := ("PaperChancery$RuleReader", b_RuleReader_failWith, 2, (some (FieldType.boolean)), false, ({ frames := 0, cells := 0, slots := 0, locals := 0 } : Room))
abbrev md_RuleBook_addRule : MD := ("PaperChancery$RuleBook", b_RuleBook_addRule, 3, none, false, ({ frames := 1, cells := 0, slots := 0, locals := 20 } : Room))
abbrev md_RuleReader_advance : MD := ("PaperChancery$RuleReader", b_RuleReader_advance, 1, none, false, ({ frames := 0, cells := 0, slots := 0, locals := 0 } : Room))
abbrev md_RuleReader_readTests : MD := ("PaperChancery$RuleReader", b_RuleReader_readTests, 3, (some (FieldType.boolean)), false, ({ frames := 3, cells := 0, slots := 0, locals := 66 } : Room))
abbrev md_RuleReader_readTest : MD := ("PaperChancery$RuleReader", b_RuleReader_readTest, 5, (some (FieldType.boolean)), false, ({ frames := 2, cells := 0, slots := 0, locals := 42 } : Room))
abbrev md_RuleReader_pass : MD := ("PaperChancery$RuleReader", b_RuleReader_pass, 2, (some (FieldType.boolean)), false, ({ frames := 1, cells := 0, slots := 0, locals := 21 } : Room))
abbrev md_RuleBook_addTest : MD := ("PaperChancery$RuleBook", b_RuleBook_addTest, 4, none, false, ({ frames := 0, cells := 0, slots := 0, locals := 0 } : Room))
abbrev md_RuleReader_readKey : MD := ("PaperChancery$RuleReader", b_RuleReader_readKey, 2, (some (FieldType.boolean)), false, ({ frames := 2, cells := 0, slots := 0, locals := 42 } : Room))
abbrev md_RuleReader_readCondition : MD := ("PaperChancery$RuleReader", b_RuleReader_readCondition, 1, (some (FieldType.boolean)), false, ({ frames := 4, cells := 0, slots := 0, locals := 88 } : Room))
abbrev md_Chan_isTime : MD := ("PaperChancery", b_Chan_isTime, 1, (some (FieldType.boolean)), false, ({ frames := 0, cells := 0, slots := 0, locals := 0 } : Room))
abbrev md_Reigns_add : MD := ("PaperChancery$Reigns", b_Reigns_add, 4, none, false, ({ frames := 2, cells := 8, slots := 265, locals := 81 } : Room))
abbrev md_RuleBook_copyFrom : MD := ("PaperChancery$RuleBook", b_RuleBook_copyFrom, 2, none, false, ({ frames := 1, cells := 0, slots := 0, locals := 60 } : Room))
abbrev md_Chan_fault : MD := ("PaperChancery", b_Chan_fault, 2, (some (FieldType.int)), false, ({ frames := 0, cells := 0, slots := 0, locals := 0 } : Room))
abbrev md_Chan_paper : MD := ("PaperChancery", b_Chan_paper, 9, (some (FieldType.int)), false, ({ frames := 2, cells := 0, slots := 0, locals := 47 } : Room))
abbrev md_PaperBox_isFull : MD := ("PaperChancery$PaperBox", b_PaperBox_isFull, 1, (some (FieldType.boolean)), false, ({ frames := 0, cells := 0, slots := 0, locals := 0 } : Room))
abbrev md_Gazette_isFull : MD := ("PaperChancery$Gazette", b_Gazette_isFull, 1, (some (FieldType.boolean)), false, ({ frames := 0, cells := 0, slots := 0, locals := 0 } : Room))
abbrev md_Gazette_add : MD := ("PaperChancery$Gazette", b_Gazette_add, 5, (some (FieldType.int)), false, ({ frames := 1, cells := 0, slots := 0, locals := 22 } : Room))
abbrev md_Gazette_putInOrder : MD := ("PaperChancery$Gazette", b_Gazette_putInOrder, 3, none, false, ({ frames := 0, cells := 0, slots := 0, locals := 0 } : Room))
abbrev md_PaperBox_add : MD := ("PaperChancery$PaperBox", b_PaperBox_add, 8, none, false, ({ frames := 1, cells := 0, slots := 0, locals := 20 } : Room))
abbrev md_Chan_death : MD := ("PaperChancery", b_Chan_death, 3, (some (FieldType.int)), false, ({ frames := 2, cells := 0, slots := 0, locals := 46 } : Room))
abbrev md_Chan_resign : MD := ("PaperChancery", b_Chan_resign, 4, (some (FieldType.int)), false, ({ frames := 2, cells := 0, slots := 0, locals := 46 } : Room))
abbrev md_Chan_swap : MD := ("PaperChancery", b_Chan_swap, 4, (some (FieldType.int)), false, ({ frames := 2, cells := 0, slots := 0, locals := 46 } : Room))
abbrev md_Chan_disprove : MD := ("PaperChancery", b_Chan_disprove, 3, (some (FieldType.int)), false, ({ frames := 2, cells := 0, slots := 0, locals := 46 } : Room))
abbrev md_PaperBox_has : MD := ("PaperChancery$PaperBox", b_PaperBox_has, 2, (some (FieldType.boolean)), false, ({ frames := 0, cells := 0, slots := 0, locals := 0 } : Room))
abbrev md_Chan_as : MD := ("PaperChancery", b_Chan_as, 2, (some (FieldType.boolean)), false, ({ frames := 1, cells := 0, slots := 0, locals := 22 } : Room))
abbrev md_Chan_holder : MD := ("PaperChancery", b_Chan_holder, 3, (some (FieldType.int)), false, ({ frames := 7, cells := 0, slots := 0, locals := 167 } : Room))
abbrev md_Chan_knownNow : MD := ("PaperChancery", b_Chan_knownNow, 1, (some (FieldType.int)), false, ({ frames := 0, cells := 0, slots := 0, locals := 0 } : Room))
abbrev md_Course_tell : MD := ("PaperChancery$Course", b_Course_tell, 5, none, false, ({ frames := 6, cells := 0, slots := 0, locals := 143 } : Room))
abbrev md_Course_begin : MD := ("PaperChancery$Course", b_Course_begin, 2, none, false, ({ frames := 1, cells := 0, slots := 0, locals := 24 } : Room))
abbrev md_Arrays_fill_l : MD := ("java/util/Arrays", b_Arrays_fill_l, 5, none, false, ({ frames := 0, cells := 0, slots := 0, locals := 0 } : Room))
abbrev md_Course_place : MD := ("PaperChancery$Course", b_Course_place, 3, none, false, ({ frames := 0, cells := 0, slots := 0, locals := 0 } : Room))
abbrev md_Course_goTo : MD := ("PaperChancery$Course", b_Course_goTo, 2, none, false, ({ frames := 1, cells := 0, slots := 0, locals := 23 } : Room))
abbrev md_Reigns_inForceAt : MD := ("PaperChancery$Reigns", b_Reigns_inForceAt, 4, (some (FieldType.object "PaperChancery$RuleBook")), false, ({ frames := 0, cells := 0, slots := 0, locals := 0 } : Room))
abbrev md_Course_happen : MD := ("PaperChancery$Course", b_Course_happen, 5, none, false, ({ frames := 5, cells := 0, slots := 0, locals := 119 } : Room))
abbrev md_PaperBox_isVoid : MD := ("PaperChancery$PaperBox", b_PaperBox_isVoid, 3, (some (FieldType.boolean)), false, ({ frames := 0, cells := 0, slots := 0, locals := 0 } : Room))
abbrev md_Course_comeAlive : MD := ("PaperChancery$Course", b_Course_comeAlive, 4, none, false, ({ frames := 3, cells := 0, slots := 0, locals := 69 } : Room))
abbrev md_Course_mayClaim : MD := ("PaperChancery$Course", b_Course_mayClaim, 3, (some (FieldType.boolean)), false, ({ frames := 2, cells := 0, slots := 0, locals := 47 } : Room))
abbrev md_PaperBox_reaches : MD := ("PaperChancery$PaperBox", b_PaperBox_reaches, 4, (some (FieldType.boolean)), false, ({ frames := 0, cells := 0, slots := 0, locals := 0 } : Room))
abbrev md_Course_loadFacts : MD := ("PaperChancery$Course", b_Course_loadFacts, 5, none, false, ({ frames := 0, cells := 0, slots := 0, locals := 0 } : Room))
abbrev md_RuleBook_bars : MD := ("PaperChancery$RuleBook", b_RuleBook_bars, 3, (some (FieldType.boolean)), false, ({ frames := 1, cells := 0, slots := 0, locals := 25 } : Room))
abbrev md_RuleBook_testsHold : MD := ("PaperChancery$RuleBook", b_RuleBook_testsHold, 6, (some (FieldType.boolean)), false, ({ frames := 0, cells := 0, slots := 0, locals := 0 } : Room))
abbrev md_Course_use : MD := ("PaperChancery$Course", b_Course_use, 3, none, false, ({ frames := 2, cells := 0, slots := 0, locals := 44 } : Room))
abbrev md_Course_give : MD := ("PaperChancery$Course", b_Course_give, 3, none, false, ({ frames := 1, cells := 0, slots := 0, locals := 22 } : Room))
abbrev md_Course_die : MD := ("PaperChancery$Course", b_Course_die, 3, none, false, ({ frames := 4, cells := 0, slots := 0, locals := 97 } : Room))
abbrev md_Course_fill : MD := ("PaperChancery$Course", b_Course_fill, 4, none, false, ({ frames := 3, cells := 0, slots := 0, locals := 74 } : Room))
abbrev md_Course_duel : MD := ("PaperChancery$Course", b_Course_duel, 5, (some (FieldType.int)), false, ({ frames := 2, cells := 0, slots := 0, locals := 50 } : Room))
abbrev md_RuleBook_duel : MD := ("PaperChancery$RuleBook", b_RuleBook_duel, 6, (some (FieldType.int)), false, ({ frames := 1, cells := 0, slots := 0, locals := 25 } : Room))
abbrev md_RuleBook_standing : MD := ("PaperChancery$RuleBook", b_RuleBook_standing, 3, (some (FieldType.int)), false, ({ frames := 0, cells := 0, slots := 0, locals := 0 } : Room))
abbrev md_Course_leaveTo : MD := ("PaperChancery$Course", b_Course_leaveTo, 3, none, false, ({ frames := 4, cells := 0, slots := 0, locals := 97 } : Room))
abbrev md_Course_changePlaces : MD := ("PaperChancery$Course", b_Course_changePlaces, 5, none, false, ({ frames := 2, cells := 0, slots := 0, locals := 44 } : Room))
abbrev md_Chan_paperOf : MD := ("PaperChancery", b_Chan_paperOf, 4, (some (FieldType.int)), false, ({ frames := 7, cells := 0, slots := 0, locals := 167 } : Room))
abbrev md_PaperBox_isKnown : MD := ("PaperChancery$PaperBox", b_PaperBox_isKnown, 3, (some (FieldType.boolean)), false, ({ frames := 1, cells := 0, slots := 0, locals := 21 } : Room))
abbrev md_Chan_posts : MD := ("PaperChancery", b_Chan_posts, 3, (some (FieldType.int)), false, ({ frames := 7, cells := 0, slots := 0, locals := 167 } : Room))
abbrev md_Chan_due : MD := ("PaperChancery", b_Chan_due, 3, (some (FieldType.long)), false, ({ frames := 7, cells := 0, slots := 0, locals := 167 } : Room))
abbrev md_Course_earnedBy : MD := ("PaperChancery$Course", b_Course_earnedBy, 5, (some (FieldType.long)), false, ({ frames := 0, cells := 0, slots := 0, locals := 0 } : Room))
abbrev md_Chan_claims : MD := ("PaperChancery", b_Chan_claims, 3, (some (FieldType.int)), false, ({ frames := 7, cells := 0, slots := 0, locals := 167 } : Room))
abbrev md_Course_gatherClaims : MD := ("PaperChancery$Course", b_Course_gatherClaims, 7, (some (FieldType.int)), false, ({ frames := 3, cells := 0, slots := 0, locals := 74 } : Room))
abbrev md_Chan_claim : MD := ("PaperChancery", b_Chan_claim, 2, (some (FieldType.int)), false, ({ frames := 0, cells := 0, slots := 0, locals := 0 } : Room))
abbrev md_Chan_by : MD := ("PaperChancery", b_Chan_by, 6, (some (FieldType.int)), false, ({ frames := 7, cells := 0, slots := 0, locals := 167 } : Room))
abbrev md_Course_duelWhenFree : MD := ("PaperChancery$Course", b_Course_duelWhenFree, 6, (some (FieldType.int)), false, ({ frames := 3, cells := 0, slots := 0, locals := 74 } : Room))
abbrev md_Chan_since : MD := ("PaperChancery", b_Chan_since, 4, (some (FieldType.int)), false, ({ frames := 7, cells := 0, slots := 0, locals := 167 } : Room))
abbrev md_Ends_knows : MD := ("PaperChancery$Ends", b_Ends_knows, 2, (some (FieldType.boolean)), false, ({ frames := 0, cells := 0, slots := 0, locals := 0 } : Room))
abbrev md_Ends_keep : MD := ("PaperChancery$Ends", b_Ends_keep, 3, none, false, ({ frames := 1, cells := 0, slots := 0, locals := 60 } : Room))
abbrev md_Ends_holderOf : MD := ("PaperChancery$Ends", b_Ends_holderOf, 3, (some (FieldType.int)), false, ({ frames := 1, cells := 0, slots := 0, locals := 21 } : Room))
abbrev md_Chan_all : MD := ("PaperChancery", b_Chan_all, 2, (some (FieldType.int)), false, ({ frames := 7, cells := 0, slots := 0, locals := 167 } : Room))
abbrev md_Course_freePosts : MD := ("PaperChancery$Course", b_Course_freePosts, 3, (some (FieldType.int)), false, ({ frames := 0, cells := 0, slots := 0, locals := 0 } : Room))
abbrev md_Chan_wish : MD := ("PaperChancery", b_Chan_wish, 3, (some (FieldType.int)), false, ({ frames := 1, cells := 0, slots := 0, locals := 24 } : Room))
abbrev md_Exchange_addWish : MD := ("PaperChancery$Exchange", b_Exchange_addWish, 5, (some (FieldType.int)), false, ({ frames := 0, cells := 0, slots := 0, locals := 0 } : Room))
abbrev md_Chan_content : MD := ("PaperChancery", b_Chan_content, 2, (some (FieldType.int)), false, ({ frames := 1, cells := 0, slots := 0, locals := 22 } : Room))
abbrev md_Exchange_dropWishes : MD := ("PaperChancery$Exchange", b_Exchange_dropWishes, 3, (some (FieldType.int)), false, ({ frames := 0, cells := 0, slots := 0, locals := 0 } : Room))
abbrev md_Chan_rings : MD := ("PaperChancery", b_Chan_rings, 1, (some (FieldType.int)), false, ({ frames := 7, cells := 0, slots := 0, locals := 167 } : Room))
abbrev md_Exchange_turn : MD := ("PaperChancery$Exchange", b_Exchange_turn, 5, (some (FieldType.int)), false, ({ frames := 2, cells := 0, slots := 0, locals := 49 } : Room))
abbrev md_Exchange_offerSinglePosts : MD := ("PaperChancery$Exchange", b_Exchange_offerSinglePosts, 7, none, false, ({ frames := 1, cells := 0, slots := 0, locals := 23 } : Room))
abbrev md_Exchange_pointAll : MD := ("PaperChancery$Exchange", b_Exchange_pointAll, 3, none, false, ({ frames := 1, cells := 0, slots := 0, locals := 24 } : Room))
abbrev md_Exchange_pointFrom : MD := ("PaperChancery$Exchange", b_Exchange_pointFrom, 5, (some (FieldType.int)), false, ({ frames := 0, cells := 0, slots := 0, locals := 0 } : Room))
abbrev md_Exchange_leaveInRings : MD := ("PaperChancery$Exchange", b_Exchange_leaveInRings, 3, (some (FieldType.int)), false, ({ frames := 1, cells := 0, slots := 0, locals := 23 } : Room))
abbrev md_Exchange_isInRing : MD := ("PaperChancery$Exchange", b_Exchange_isInRing, 4, (some (FieldType.boolean)), false, ({ frames := 0, cells := 0, slots := 0, locals := 0 } : Room))
abbrev md_Chan_got : MD := ("PaperChancery", b_Chan_got, 2, (some (FieldType.int)), false, ({ frames := 1, cells := 0, slots := 0, locals := 21 } : Room))
abbrev md_Md_init : MD := ("PaperChanceryModel", b_Md_init, 1, none, true, ({ frames := 1, cells := 28, slots := 6367, locals := 20 } : Room))
abbrev md_Md_feed : MD := ("PaperChanceryModel", b_Md_feed, 6, (some (FieldType.int)), false, ({ frames := 1, cells := 0, slots := 0, locals := 22 } : Room))
abbrev md_Md_put : MD := ("PaperChanceryModel", b_Md_put, 3, none, false, ({ frames := 0, cells := 0, slots := 0, locals := 0 } : Room))
abbrev md_Md_end : MD := ("PaperChanceryModel", b_Md_end, 2, (some (FieldType.boolean)), false, ({ frames := 0, cells := 0, slots := 0, locals := 0 } : Room))
abbrev md_Md_person : MD := ("PaperChanceryModel", b_Md_person, 4, (some (FieldType.int)), false, ({ frames := 1, cells := 0, slots := 0, locals := 22 } : Room))
abbrev md_Md_is : MD := ("PaperChanceryModel", b_Md_is, 3, (some (FieldType.boolean)), false, ({ frames := 0, cells := 0, slots := 0, locals := 0 } : Room))
abbrev md_Md_post : MD := ("PaperChanceryModel", b_Md_post, 3, (some (FieldType.int)), false, ({ frames := 1, cells := 0, slots := 0, locals := 22 } : Room))
abbrev md_Md_seat : MD := ("PaperChanceryModel", b_Md_seat, 3, (some (FieldType.boolean)), false, ({ frames := 1, cells := 0, slots := 0, locals := 21 } : Room))
abbrev md_Md_isPost : MD := ("PaperChanceryModel", b_Md_isPost, 2, (some (FieldType.boolean)), false, ({ frames := 0, cells := 0, slots := 0, locals := 0 } : Room))
abbrev md_Md_isPerson : MD := ("PaperChanceryModel", b_Md_isPerson, 2, (some (FieldType.boolean)), false, ({ frames := 0, cells := 0, slots := 0, locals := 0 } : Room))
abbrev md_Md_reign : MD := ("PaperChanceryModel", b_Md_reign, 4, (some (FieldType.int)), false, ({ frames := 7, cells := 0, slots := 0, locals := 161 } : Room))
abbrev md_Md_here : MD := ("PaperChanceryModel", b_Md_here, 1, (some (FieldType.int)), false, ({ frames := 0, cells := 0, slots := 0, locals := 0 } : Room))
abbrev md_Md_blame : MD := ("PaperChanceryModel", b_Md_blame, 3, none, false, ({ frames := 0, cells := 0, slots := 0, locals := 0 } : Room))
abbrev md_Md_rule : MD := ("PaperChanceryModel", b_Md_rule, 5, none, false, ({ frames := 6, cells := 0, slots := 0, locals := 137 } : Room))
abbrev md_Md_passes : MD := ("PaperChanceryModel", b_Md_passes, 5, (some (FieldType.boolean)), false, ({ frames := 3, cells := 0, slots := 0, locals := 66 } : Room))
abbrev md_Md_spells : MD := ("PaperChanceryModel", b_Md_spells, 6, (some (FieldType.boolean)), false, ({ frames := 2, cells := 0, slots := 0, locals := 41 } : Room))
abbrev md_Md_wordSize : MD := ("PaperChanceryModel", b_Md_wordSize, 2, (some (FieldType.int)), false, ({ frames := 1, cells := 0, slots := 0, locals := 20 } : Room))
abbrev md_Md_isLetter : MD := ("PaperChanceryModel", b_Md_isLetter, 1, (some (FieldType.boolean)), false, ({ frames := 0, cells := 0, slots := 0, locals := 0 } : Room))
abbrev md_Md_subject : MD := ("PaperChanceryModel", b_Md_subject, 1, (some (FieldType.int)), false, ({ frames := 4, cells := 0, slots := 0, locals := 90 } : Room))
abbrev md_Md_add : MD := ("PaperChanceryModel", b_Md_add, 4, none, false, ({ frames := 0, cells := 0, slots := 0, locals := 0 } : Room))
abbrev md_Md_tests : MD := ("PaperChanceryModel", b_Md_tests, 8, (some (FieldType.int)), false, ({ frames := 5, cells := 0, slots := 0, locals := 110 } : Room))
abbrev md_Md_digits : MD := ("PaperChanceryModel", b_Md_digits, 3, (some (FieldType.int)), false, ({ frames := 1, cells := 0, slots := 0, locals := 22 } : Room))
abbrev md_Md_isDigit : MD := ("PaperChanceryModel", b_Md_isDigit, 1, (some (FieldType.boolean)), false, ({ frames := 0, cells := 0, slots := 0, locals := 0 } : Room))
abbrev md_Md_fault : MD := ("PaperChanceryModel", b_Md_fault, 2, (some (FieldType.int)), false, ({ frames := 0, cells := 0, slots := 0, locals := 0 } : Room))
abbrev md_Md_paper : MD := ("PaperChanceryModel", b_Md_paper, 8, (some (FieldType.int)), false, ({ frames := 2, cells := 0, slots := 0, locals := 43 } : Room))
abbrev md_Md_can : MD := ("PaperChanceryModel", b_Md_can, 2, (some (FieldType.boolean)), false, ({ frames := 1, cells := 0, slots := 0, locals := 22 } : Room))
abbrev md_Md_tell : MD := ("PaperChanceryModel", b_Md_tell, 5, (some (FieldType.int)), false, ({ frames := 0, cells := 0, slots := 0, locals := 0 } : Room))
abbrev md_Md_death : MD := ("PaperChanceryModel", b_Md_death, 3, (some (FieldType.int)), false, ({ frames := 2, cells := 0, slots := 0, locals := 43 } : Room))
abbrev md_Md_resign : MD := ("PaperChanceryModel", b_Md_resign, 4, (some (FieldType.int)), false, ({ frames := 2, cells := 0, slots := 0, locals := 43 } : Room))
abbrev md_Md_swap : MD := ("PaperChanceryModel", b_Md_swap, 4, (some (FieldType.int)), false, ({ frames := 2, cells := 0, slots := 0, locals := 43 } : Room))
abbrev md_Md_disprove : MD := ("PaperChanceryModel", b_Md_disprove, 2, (some (FieldType.int)), false, ({ frames := 1, cells := 0, slots := 0, locals := 24 } : Room))
abbrev md_Md_as : MD := ("PaperChanceryModel", b_Md_as, 2, (some (FieldType.boolean)), false, ({ frames := 1, cells := 0, slots := 0, locals := 22 } : Room))
abbrev md_Md_holder : MD := ("PaperChanceryModel", b_Md_holder, 3, (some (FieldType.int)), false, ({ frames := 8, cells := 0, slots := 0, locals := 200 } : Room))
abbrev md_Md_isTime : MD := ("PaperChanceryModel", b_Md_isTime, 1, (some (FieldType.boolean)), false, ({ frames := 1, cells := 0, slots := 0, locals := 22 } : Room))
abbrev md_Md_known : MD := ("PaperChanceryModel", b_Md_known, 1, (some (FieldType.int)), false, ({ frames := 0, cells := 0, slots := 0, locals := 0 } : Room))
abbrev md_Md_goes : MD := ("PaperChanceryModel", b_Md_goes, 7, none, false, ({ frames := 7, cells := 0, slots := 0, locals := 174 } : Room))
abbrev md_Md_comes : MD := ("PaperChanceryModel", b_Md_comes, 5, none, false, ({ frames := 5, cells := 0, slots := 0, locals := 127 } : Room))
abbrev md_Md_mayHave : MD := ("PaperChanceryModel", b_Md_mayHave, 4, (some (FieldType.boolean)), false, ({ frames := 4, cells := 0, slots := 0, locals := 104 } : Room))
abbrev md_Md_reaches : MD := ("PaperChanceryModel", b_Md_reaches, 3, (some (FieldType.boolean)), false, ({ frames := 0, cells := 0, slots := 0, locals := 0 } : Room))
abbrev md_Md_isBarred : MD := ("PaperChanceryModel", b_Md_isBarred, 7, (some (FieldType.boolean)), false, ({ frames := 3, cells := 0, slots := 0, locals := 78 } : Room))
abbrev md_Md_force : MD := ("PaperChanceryModel", b_Md_force, 4, (some (FieldType.int)), false, ({ frames := 0, cells := 0, slots := 0, locals := 0 } : Room))
abbrev md_Md_holds : MD := ("PaperChanceryModel", b_Md_holds, 11, (some (FieldType.boolean)), false, ({ frames := 2, cells := 0, slots := 0, locals := 48 } : Room))
abbrev md_Md_subjectOf : MD := ("PaperChanceryModel", b_Md_subjectOf, 6, (some (FieldType.int)), false, ({ frames := 1, cells := 0, slots := 0, locals := 23 } : Room))
abbrev md_Md_held : MD := ("PaperChanceryModel", b_Md_held, 4, (some (FieldType.int)), false, ({ frames := 0, cells := 0, slots := 0, locals := 0 } : Room))
abbrev md_Md_uses : MD := ("PaperChanceryModel", b_Md_uses, 4, none, false, ({ frames := 1, cells := 0, slots := 0, locals := 23 } : Room))
abbrev md_Md_takes : MD := ("PaperChanceryModel", b_Md_takes, 4, none, false, ({ frames := 0, cells := 0, slots := 0, locals := 0 } : Room))
abbrev md_Md_dies : MD := ("PaperChanceryModel", b_Md_dies, 4, none, false, ({ frames := 6, cells := 0, slots := 0, locals := 151 } : Room))
abbrev md_Md_leaves : MD := ("PaperChanceryModel", b_Md_leaves, 4, none, false, ({ frames := 0, cells := 0, slots := 0, locals := 0 } : Room))
abbrev md_Md_gives : MD := ("PaperChanceryModel", b_Md_gives, 5, none, false, ({ frames := 5, cells := 0, slots := 0, locals := 127 } : Room))
abbrev md_Md_decides : MD := ("PaperChanceryModel", b_Md_decides, 9, (some (FieldType.int)), false, ({ frames := 3, cells := 0, slots := 0, locals := 78 } : Room))
abbrev md_Md_differ : MD := ("PaperChanceryModel", b_Md_differ, 9, (some (FieldType.int)), false, ({ frames := 2, cells := 0, slots := 0, locals := 48 } : Room))
abbrev md_Md_resigns : MD := ("PaperChanceryModel", b_Md_resigns, 4, none, false, ({ frames := 6, cells := 0, slots := 0, locals := 151 } : Room))
abbrev md_Md_swaps : MD := ("PaperChanceryModel", b_Md_swaps, 6, none, false, ({ frames := 1, cells := 0, slots := 0, locals := 23 } : Room))
abbrev md_Md_paperOf : MD := ("PaperChanceryModel", b_Md_paperOf, 3, (some (FieldType.int)), false, ({ frames := 8, cells := 0, slots := 0, locals := 200 } : Room))
abbrev md_Md_isPaper : MD := ("PaperChanceryModel", b_Md_isPaper, 2, (some (FieldType.boolean)), false, ({ frames := 1, cells := 0, slots := 0, locals := 20 } : Room))
abbrev md_Md_posts : MD := ("PaperChanceryModel", b_Md_posts, 3, (some (FieldType.int)), false, ({ frames := 8, cells := 0, slots := 0, locals := 200 } : Room))
abbrev md_Md_due : MD := ("PaperChanceryModel", b_Md_due, 6, (some (FieldType.long)), false, ({ frames := 8, cells := 0, slots := 0, locals := 200 } : Room))
abbrev md_Md_claims : MD := ("PaperChanceryModel", b_Md_claims, 5, (some (FieldType.int)), false, ({ frames := 8, cells := 0, slots := 0, locals := 200 } : Room))
abbrev md_Md_claim : MD := ("PaperChanceryModel", b_Md_claim, 2, (some (FieldType.int)), false, ({ frames := 0, cells := 0, slots := 0, locals := 0 } : Room))
abbrev md_Md_by : MD := ("PaperChanceryModel", b_Md_by, 5, (some (FieldType.int)), false, ({ frames := 8, cells := 0, slots := 0, locals := 200 } : Room))
abbrev md_Md_since : MD := ("PaperChanceryModel", b_Md_since, 5, (some (FieldType.int)), false, ({ frames := 8, cells := 0, slots := 0, locals := 200 } : Room))
abbrev md_Md_all : MD := ("PaperChanceryModel", b_Md_all, 4, (some (FieldType.int)), false, ({ frames := 8, cells := 0, slots := 0, locals := 200 } : Room))
abbrev md_Md_wish : MD := ("PaperChanceryModel", b_Md_wish, 4, (some (FieldType.int)), false, ({ frames := 1, cells := 0, slots := 0, locals := 21 } : Room))
abbrev md_Md_content : MD := ("PaperChanceryModel", b_Md_content, 3, (some (FieldType.int)), false, ({ frames := 1, cells := 0, slots := 0, locals := 21 } : Room))
abbrev md_Md_rings : MD := ("PaperChanceryModel", b_Md_rings, 6, (some (FieldType.int)), false, ({ frames := 8, cells := 0, slots := 0, locals := 200 } : Room))
abbrev md_Md_points : MD := ("PaperChanceryModel", b_Md_points, 4, (some (FieldType.int)), false, ({ frames := 0, cells := 0, slots := 0, locals := 0 } : Room))
abbrev md_Md_got : MD := ("PaperChanceryModel", b_Md_got, 2, (some (FieldType.int)), false, ({ frames := 0, cells := 0, slots := 0, locals := 0 } : Room))
end
