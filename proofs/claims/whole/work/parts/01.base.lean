-- ===== PART A: goes FIRST, ahead of the names: the tables' words, and 'selects' of the private methods out of them =====
/-- a private method of a class that the tables say can be made, by its rows of tables_1 -/
def lw_okq (q : MethodName × Nat) : Prop := (q.1.cls ≠ "java/lang/invoke/MethodHandle" ∧ q.1.cls ≠ "java/lang/invoke/VarHandle") ∧ Cond.instantiable q.1.cls q.2 ∈ tables_1 ∧ Cond.privateMethod q.1 ∈ tables_1 ∧ Cond.instanceMethod q.1 ∈ tables_1
theorem lw_p0 : lw_okq (⟨"RopeKnots", "readRuns", "()LRopeKnots$Runs;"⟩, 9) := ⟨⟨by decide +kernel, by decide +kernel⟩, List.mem_of_getElem? (i := 12) (by decide +kernel), List.mem_of_getElem? (i := 234) (by decide +kernel), List.mem_of_getElem? (i := 235) (by decide +kernel)⟩
theorem lw_p1 : lw_okq (⟨"RopeKnots", "tryPull", "(I)I"⟩, 9) := ⟨⟨by decide +kernel, by decide +kernel⟩, List.mem_of_getElem? (i := 12) (by decide +kernel), List.mem_of_getElem? (i := 281) (by decide +kernel), List.mem_of_getElem? (i := 282) (by decide +kernel)⟩
theorem lw_p2 : lw_okq (⟨"RopeKnots$Text", "ropeFault", "()I"⟩, 2) := ⟨⟨by decide +kernel, by decide +kernel⟩, List.mem_of_getElem? (i := 125) (by decide +kernel), List.mem_of_getElem? (i := 300) (by decide +kernel), List.mem_of_getElem? (i := 301) (by decide +kernel)⟩
theorem lw_p3 : lw_okq (⟨"RopeKnots$Text", "characterAt", "(I)C"⟩, 2) := ⟨⟨by decide +kernel, by decide +kernel⟩, List.mem_of_getElem? (i := 125) (by decide +kernel), List.mem_of_getElem? (i := 304) (by decide +kernel), List.mem_of_getElem? (i := 305) (by decide +kernel)⟩
theorem lw_p4 : lw_okq (⟨"RopeKnots$Text", "patternFault", "()I"⟩, 2) := ⟨⟨by decide +kernel, by decide +kernel⟩, List.mem_of_getElem? (i := 125) (by decide +kernel), List.mem_of_getElem? (i := 315) (by decide +kernel), List.mem_of_getElem? (i := 316) (by decide +kernel)⟩
theorem lw_p5 : lw_okq (⟨"RopeKnots", "rightAnswer", "(LRopeKnots$Runs;)I"⟩, 9) := ⟨⟨by decide +kernel, by decide +kernel⟩, List.mem_of_getElem? (i := 12) (by decide +kernel), List.mem_of_getElem? (i := 371) (by decide +kernel), List.mem_of_getElem? (i := 372) (by decide +kernel)⟩
theorem lw_p6 : lw_okq (⟨"RopeKnots", "answerOf", "(I)I"⟩, 9) := ⟨⟨by decide +kernel, by decide +kernel⟩, List.mem_of_getElem? (i := 12) (by decide +kernel), List.mem_of_getElem? (i := 376) (by decide +kernel), List.mem_of_getElem? (i := 377) (by decide +kernel)⟩
theorem lw_p7 : lw_okq (⟨"RopeKnots", "hearRope", "(I)V"⟩, 9) := ⟨⟨by decide +kernel, by decide +kernel⟩, List.mem_of_getElem? (i := 12) (by decide +kernel), List.mem_of_getElem? (i := 399) (by decide +kernel), List.mem_of_getElem? (i := 400) (by decide +kernel)⟩
theorem lw_p8 : lw_okq (⟨"RopeKnots", "waysFrom", "(III)I"⟩, 9) := ⟨⟨by decide +kernel, by decide +kernel⟩, List.mem_of_getElem? (i := 12) (by decide +kernel), List.mem_of_getElem? (i := 497) (by decide +kernel), List.mem_of_getElem? (i := 498) (by decide +kernel)⟩
theorem lw_p9 : lw_okq (⟨"RopeKnots", "waysUpTo", "(II)I"⟩, 9) := ⟨⟨by decide +kernel, by decide +kernel⟩, List.mem_of_getElem? (i := 12) (by decide +kernel), List.mem_of_getElem? (i := 507) (by decide +kernel), List.mem_of_getElem? (i := 508) (by decide +kernel)⟩
theorem lw_p10 : lw_okq (⟨"RopeKnots$Runs", "nextWord", "(I)I"⟩, 4) := ⟨⟨by decide +kernel, by decide +kernel⟩, List.mem_of_getElem? (i := 140) (by decide +kernel), List.mem_of_getElem? (i := 573) (by decide +kernel), List.mem_of_getElem? (i := 574) (by decide +kernel)⟩
theorem lw_p11 : lw_okq (⟨"RopeKnots", "ringsUntilAllKnow", "(II)I"⟩, 9) := ⟨⟨by decide +kernel, by decide +kernel⟩, List.mem_of_getElem? (i := 12) (by decide +kernel), List.mem_of_getElem? (i := 582) (by decide +kernel), List.mem_of_getElem? (i := 583) (by decide +kernel)⟩
theorem lw_p12 : lw_okq (⟨"RopeKnotsModel", "knots", "()I"⟩, 10) := ⟨⟨by decide +kernel, by decide +kernel⟩, List.mem_of_getElem? (i := 604) (by decide +kernel), List.mem_of_getElem? (i := 649) (by decide +kernel), List.mem_of_getElem? (i := 650) (by decide +kernel)⟩
theorem lw_p13 : lw_okq (⟨"RopeKnotsModel", "record", "()V"⟩, 10) := ⟨⟨by decide +kernel, by decide +kernel⟩, List.mem_of_getElem? (i := 604) (by decide +kernel), List.mem_of_getElem? (i := 657) (by decide +kernel), List.mem_of_getElem? (i := 658) (by decide +kernel)⟩
theorem lw_p14 : lw_okq (⟨"RopeKnotsModel", "runs", "()I"⟩, 10) := ⟨⟨by decide +kernel, by decide +kernel⟩, List.mem_of_getElem? (i := 604) (by decide +kernel), List.mem_of_getElem? (i := 671) (by decide +kernel), List.mem_of_getElem? (i := 672) (by decide +kernel)⟩
theorem lw_p15 : lw_okq (⟨"RopeKnotsModel", "begins", "(I)Z"⟩, 10) := ⟨⟨by decide +kernel, by decide +kernel⟩, List.mem_of_getElem? (i := 604) (by decide +kernel), List.mem_of_getElem? (i := 675) (by decide +kernel), List.mem_of_getElem? (i := 676) (by decide +kernel)⟩
def lw_privs_1 : List (MethodName × Nat) := [(⟨"RopeKnots", "readRuns", "()LRopeKnots$Runs;"⟩, 9), (⟨"RopeKnots", "tryPull", "(I)I"⟩, 9), (⟨"RopeKnots$Text", "ropeFault", "()I"⟩, 2), (⟨"RopeKnots$Text", "characterAt", "(I)C"⟩, 2), (⟨"RopeKnots$Text", "patternFault", "()I"⟩, 2), (⟨"RopeKnots", "rightAnswer", "(LRopeKnots$Runs;)I"⟩, 9), (⟨"RopeKnots", "answerOf", "(I)I"⟩, 9), (⟨"RopeKnots", "hearRope", "(I)V"⟩, 9), (⟨"RopeKnots", "waysFrom", "(III)I"⟩, 9), (⟨"RopeKnots", "waysUpTo", "(II)I"⟩, 9), (⟨"RopeKnots$Runs", "nextWord", "(I)I"⟩, 4), (⟨"RopeKnots", "ringsUntilAllKnow", "(II)I"⟩, 9), (⟨"RopeKnotsModel", "knots", "()I"⟩, 10), (⟨"RopeKnotsModel", "record", "()V"⟩, 10), (⟨"RopeKnotsModel", "runs", "()I"⟩, 10), (⟨"RopeKnotsModel", "begins", "(I)Z"⟩, 10)]
theorem lw_r1 : ∀ q ∈ lw_privs_1, lw_okq q := List.forall_mem_cons.mpr ⟨lw_p0, List.forall_mem_cons.mpr ⟨lw_p1, List.forall_mem_cons.mpr ⟨lw_p2, List.forall_mem_cons.mpr ⟨lw_p3, List.forall_mem_cons.mpr ⟨lw_p4, List.forall_mem_cons.mpr ⟨lw_p5, List.forall_mem_cons.mpr ⟨lw_p6, List.forall_mem_cons.mpr ⟨lw_p7, List.forall_mem_cons.mpr ⟨lw_p8, List.forall_mem_cons.mpr ⟨lw_p9, List.forall_mem_cons.mpr ⟨lw_p10, List.forall_mem_cons.mpr ⟨lw_p11, List.forall_mem_cons.mpr ⟨lw_p12, List.forall_mem_cons.mpr ⟨lw_p13, List.forall_mem_cons.mpr ⟨lw_p14, List.forall_mem_cons.mpr ⟨lw_p15, fun _ h => absurd h List.not_mem_nil⟩⟩⟩⟩⟩⟩⟩⟩⟩⟩⟩⟩⟩⟩⟩⟩
theorem lw_p16 : lw_okq (⟨"RopeKnotsModel", "isKnot", "(I)Z"⟩, 10) := ⟨⟨by decide +kernel, by decide +kernel⟩, List.mem_of_getElem? (i := 604) (by decide +kernel), List.mem_of_getElem? (i := 679) (by decide +kernel), List.mem_of_getElem? (i := 680) (by decide +kernel)⟩
theorem lw_p17 : lw_okq (⟨"RopeKnotsModel", "slipsOf", "(I)I"⟩, 10) := ⟨⟨by decide +kernel, by decide +kernel⟩, List.mem_of_getElem? (i := 604) (by decide +kernel), List.mem_of_getElem? (i := 691) (by decide +kernel), List.mem_of_getElem? (i := 692) (by decide +kernel)⟩
theorem lw_p18 : lw_okq (⟨"RopeKnotsModel", "putAside", "()V"⟩, 10) := ⟨⟨by decide +kernel, by decide +kernel⟩, List.mem_of_getElem? (i := 604) (by decide +kernel), List.mem_of_getElem? (i := 695) (by decide +kernel), List.mem_of_getElem? (i := 696) (by decide +kernel)⟩
theorem lw_p19 : lw_okq (⟨"RopeKnotsModel", "doPull", "(I)I"⟩, 10) := ⟨⟨by decide +kernel, by decide +kernel⟩, List.mem_of_getElem? (i := 604) (by decide +kernel), List.mem_of_getElem? (i := 699) (by decide +kernel), List.mem_of_getElem? (i := 700) (by decide +kernel)⟩
theorem lw_p20 : lw_okq (⟨"RopeKnotsModel", "putBack", "()V"⟩, 10) := ⟨⟨by decide +kernel, by decide +kernel⟩, List.mem_of_getElem? (i := 604) (by decide +kernel), List.mem_of_getElem? (i := 703) (by decide +kernel), List.mem_of_getElem? (i := 704) (by decide +kernel)⟩
theorem lw_p21 : lw_okq (⟨"RopeKnotsModel", "findFault", "(Z)I"⟩, 10) := ⟨⟨by decide +kernel, by decide +kernel⟩, List.mem_of_getElem? (i := 604) (by decide +kernel), List.mem_of_getElem? (i := 711) (by decide +kernel), List.mem_of_getElem? (i := 712) (by decide +kernel)⟩
theorem lw_p22 : lw_okq (⟨"RopeKnotsModel", "isTaught", "()Z"⟩, 10) := ⟨⟨by decide +kernel, by decide +kernel⟩, List.mem_of_getElem? (i := 604) (by decide +kernel), List.mem_of_getElem? (i := 719) (by decide +kernel), List.mem_of_getElem? (i := 720) (by decide +kernel)⟩
theorem lw_p23 : lw_okq (⟨"RopeKnotsModel", "lengthOf", "(I)I"⟩, 10) := ⟨⟨by decide +kernel, by decide +kernel⟩, List.mem_of_getElem? (i := 604) (by decide +kernel), List.mem_of_getElem? (i := 723) (by decide +kernel), List.mem_of_getElem? (i := 724) (by decide +kernel)⟩
theorem lw_p24 : lw_okq (⟨"RopeKnotsModel", "patternAt", "(II)I"⟩, 10) := ⟨⟨by decide +kernel, by decide +kernel⟩, List.mem_of_getElem? (i := 604) (by decide +kernel), List.mem_of_getElem? (i := 727) (by decide +kernel), List.mem_of_getElem? (i := 728) (by decide +kernel)⟩
theorem lw_p25 : lw_okq (⟨"RopeKnotsModel", "isWord", "(I)Z"⟩, 10) := ⟨⟨by decide +kernel, by decide +kernel⟩, List.mem_of_getElem? (i := 604) (by decide +kernel), List.mem_of_getElem? (i := 735) (by decide +kernel), List.mem_of_getElem? (i := 736) (by decide +kernel)⟩
theorem lw_p26 : lw_okq (⟨"RopeKnotsModel", "wordRuns", "()I"⟩, 10) := ⟨⟨by decide +kernel, by decide +kernel⟩, List.mem_of_getElem? (i := 604) (by decide +kernel), List.mem_of_getElem? (i := 743) (by decide +kernel), List.mem_of_getElem? (i := 744) (by decide +kernel)⟩
theorem lw_p27 : lw_okq (⟨"RopeKnotsModel", "wordFrom", "(I)I"⟩, 10) := ⟨⟨by decide +kernel, by decide +kernel⟩, List.mem_of_getElem? (i := 604) (by decide +kernel), List.mem_of_getElem? (i := 747) (by decide +kernel), List.mem_of_getElem? (i := 748) (by decide +kernel)⟩
theorem lw_p28 : lw_okq (⟨"RopeKnotsModel", "lengthFrom", "(I)I"⟩, 10) := ⟨⟨by decide +kernel, by decide +kernel⟩, List.mem_of_getElem? (i := 604) (by decide +kernel), List.mem_of_getElem? (i := 751) (by decide +kernel), List.mem_of_getElem? (i := 752) (by decide +kernel)⟩
theorem lw_p29 : lw_okq (⟨"RopeKnotsModel", "isAt", "(II)Z"⟩, 10) := ⟨⟨by decide +kernel, by decide +kernel⟩, List.mem_of_getElem? (i := 604) (by decide +kernel), List.mem_of_getElem? (i := 755) (by decide +kernel), List.mem_of_getElem? (i := 756) (by decide +kernel)⟩
theorem lw_p30 : lw_okq (⟨"RopeKnotsModel", "answerOf", "(I)I"⟩, 10) := ⟨⟨by decide +kernel, by decide +kernel⟩, List.mem_of_getElem? (i := 604) (by decide +kernel), List.mem_of_getElem? (i := 759) (by decide +kernel), List.mem_of_getElem? (i := 760) (by decide +kernel)⟩
theorem lw_p31 : lw_okq (⟨"RopeKnotsModel", "knows", "(II)Z"⟩, 10) := ⟨⟨by decide +kernel, by decide +kernel⟩, List.mem_of_getElem? (i := 604) (by decide +kernel), List.mem_of_getElem? (i := 763) (by decide +kernel), List.mem_of_getElem? (i := 764) (by decide +kernel)⟩
def lw_privs_2 : List (MethodName × Nat) := [(⟨"RopeKnotsModel", "isKnot", "(I)Z"⟩, 10), (⟨"RopeKnotsModel", "slipsOf", "(I)I"⟩, 10), (⟨"RopeKnotsModel", "putAside", "()V"⟩, 10), (⟨"RopeKnotsModel", "doPull", "(I)I"⟩, 10), (⟨"RopeKnotsModel", "putBack", "()V"⟩, 10), (⟨"RopeKnotsModel", "findFault", "(Z)I"⟩, 10), (⟨"RopeKnotsModel", "isTaught", "()Z"⟩, 10), (⟨"RopeKnotsModel", "lengthOf", "(I)I"⟩, 10), (⟨"RopeKnotsModel", "patternAt", "(II)I"⟩, 10), (⟨"RopeKnotsModel", "isWord", "(I)Z"⟩, 10), (⟨"RopeKnotsModel", "wordRuns", "()I"⟩, 10), (⟨"RopeKnotsModel", "wordFrom", "(I)I"⟩, 10), (⟨"RopeKnotsModel", "lengthFrom", "(I)I"⟩, 10), (⟨"RopeKnotsModel", "isAt", "(II)Z"⟩, 10), (⟨"RopeKnotsModel", "answerOf", "(I)I"⟩, 10), (⟨"RopeKnotsModel", "knows", "(II)Z"⟩, 10)]
theorem lw_r2 : ∀ q ∈ lw_privs_2, lw_okq q := List.forall_mem_cons.mpr ⟨lw_p16, List.forall_mem_cons.mpr ⟨lw_p17, List.forall_mem_cons.mpr ⟨lw_p18, List.forall_mem_cons.mpr ⟨lw_p19, List.forall_mem_cons.mpr ⟨lw_p20, List.forall_mem_cons.mpr ⟨lw_p21, List.forall_mem_cons.mpr ⟨lw_p22, List.forall_mem_cons.mpr ⟨lw_p23, List.forall_mem_cons.mpr ⟨lw_p24, List.forall_mem_cons.mpr ⟨lw_p25, List.forall_mem_cons.mpr ⟨lw_p26, List.forall_mem_cons.mpr ⟨lw_p27, List.forall_mem_cons.mpr ⟨lw_p28, List.forall_mem_cons.mpr ⟨lw_p29, List.forall_mem_cons.mpr ⟨lw_p30, List.forall_mem_cons.mpr ⟨lw_p31, fun _ h => absurd h List.not_mem_nil⟩⟩⟩⟩⟩⟩⟩⟩⟩⟩⟩⟩⟩⟩⟩⟩
theorem lw_p32 : lw_okq (⟨"RopeKnotsModel", "heardOf", "(II)I"⟩, 10) := ⟨⟨by decide +kernel, by decide +kernel⟩, List.mem_of_getElem? (i := 604) (by decide +kernel), List.mem_of_getElem? (i := 767) (by decide +kernel), List.mem_of_getElem? (i := 768) (by decide +kernel)⟩
theorem lw_p33 : lw_okq (⟨"RopeKnotsModel", "runsOf", "(I)I"⟩, 10) := ⟨⟨by decide +kernel, by decide +kernel⟩, List.mem_of_getElem? (i := 604) (by decide +kernel), List.mem_of_getElem? (i := 771) (by decide +kernel), List.mem_of_getElem? (i := 772) (by decide +kernel)⟩
theorem lw_p34 : lw_okq (⟨"RopeKnotsModel", "rightAnswer", "()I"⟩, 10) := ⟨⟨by decide +kernel, by decide +kernel⟩, List.mem_of_getElem? (i := 604) (by decide +kernel), List.mem_of_getElem? (i := 775) (by decide +kernel), List.mem_of_getElem? (i := 776) (by decide +kernel)⟩
theorem lw_p35 : lw_okq (⟨"RopeKnotsModel", "runAt", "(I)I"⟩, 10) := ⟨⟨by decide +kernel, by decide +kernel⟩, List.mem_of_getElem? (i := 604) (by decide +kernel), List.mem_of_getElem? (i := 810) (by decide +kernel), List.mem_of_getElem? (i := 811) (by decide +kernel)⟩
theorem lw_p36 : lw_okq (⟨"RopeKnotsModel", "isRun", "(I)Z"⟩, 10) := ⟨⟨by decide +kernel, by decide +kernel⟩, List.mem_of_getElem? (i := 604) (by decide +kernel), List.mem_of_getElem? (i := 818) (by decide +kernel), List.mem_of_getElem? (i := 819) (by decide +kernel)⟩
theorem lw_p37 : lw_okq (⟨"RopeKnotsModel", "firstOf", "(I)I"⟩, 10) := ⟨⟨by decide +kernel, by decide +kernel⟩, List.mem_of_getElem? (i := 604) (by decide +kernel), List.mem_of_getElem? (i := 822) (by decide +kernel), List.mem_of_getElem? (i := 823) (by decide +kernel)⟩
theorem lw_p38 : lw_okq (⟨"RopeKnotsModel", "wordOf", "(I)I"⟩, 10) := ⟨⟨by decide +kernel, by decide +kernel⟩, List.mem_of_getElem? (i := 604) (by decide +kernel), List.mem_of_getElem? (i := 826) (by decide +kernel), List.mem_of_getElem? (i := 827) (by decide +kernel)⟩
theorem lw_p39 : lw_okq (⟨"RopeKnotsModel", "loosest", "(I)I"⟩, 10) := ⟨⟨by decide +kernel, by decide +kernel⟩, List.mem_of_getElem? (i := 604) (by decide +kernel), List.mem_of_getElem? (i := 830) (by decide +kernel), List.mem_of_getElem? (i := 831) (by decide +kernel)⟩
theorem lw_p40 : lw_okq (⟨"RopeKnotsModel", "splitsOf", "(I)I"⟩, 10) := ⟨⟨by decide +kernel, by decide +kernel⟩, List.mem_of_getElem? (i := 604) (by decide +kernel), List.mem_of_getElem? (i := 838) (by decide +kernel), List.mem_of_getElem? (i := 839) (by decide +kernel)⟩
theorem lw_p41 : lw_okq (⟨"RopeKnotsModel", "unlike", "(II)I"⟩, 10) := ⟨⟨by decide +kernel, by decide +kernel⟩, List.mem_of_getElem? (i := 604) (by decide +kernel), List.mem_of_getElem? (i := 850) (by decide +kernel), List.mem_of_getElem? (i := 851) (by decide +kernel)⟩
theorem lw_p42 : lw_okq (⟨"RopeKnotsModel", "knowing", "(I)I"⟩, 10) := ⟨⟨by decide +kernel, by decide +kernel⟩, List.mem_of_getElem? (i := 604) (by decide +kernel), List.mem_of_getElem? (i := 858) (by decide +kernel), List.mem_of_getElem? (i := 859) (by decide +kernel)⟩
theorem lw_p43 : lw_okq (⟨"RopeKnotsModel", "known", "(I)I"⟩, 10) := ⟨⟨by decide +kernel, by decide +kernel⟩, List.mem_of_getElem? (i := 604) (by decide +kernel), List.mem_of_getElem? (i := 866) (by decide +kernel), List.mem_of_getElem? (i := 867) (by decide +kernel)⟩
theorem lw_p44 : lw_okq (⟨"RopeKnotsModel", "isSafe", "(I)Z"⟩, 10) := ⟨⟨by decide +kernel, by decide +kernel⟩, List.mem_of_getElem? (i := 604) (by decide +kernel), List.mem_of_getElem? (i := 886) (by decide +kernel), List.mem_of_getElem? (i := 887) (by decide +kernel)⟩
theorem lw_p45 : lw_okq (⟨"RopeKnotsModel", "wordAt", "(I)I"⟩, 10) := ⟨⟨by decide +kernel, by decide +kernel⟩, List.mem_of_getElem? (i := 604) (by decide +kernel), List.mem_of_getElem? (i := 890) (by decide +kernel), List.mem_of_getElem? (i := 891) (by decide +kernel)⟩
theorem lw_p46 : lw_okq (⟨"RopeKnotsModel", "answers", "(I)I"⟩, 10) := ⟨⟨by decide +kernel, by decide +kernel⟩, List.mem_of_getElem? (i := 604) (by decide +kernel), List.mem_of_getElem? (i := 902) (by decide +kernel), List.mem_of_getElem? (i := 903) (by decide +kernel)⟩
def lw_privs_3 : List (MethodName × Nat) := [(⟨"RopeKnotsModel", "heardOf", "(II)I"⟩, 10), (⟨"RopeKnotsModel", "runsOf", "(I)I"⟩, 10), (⟨"RopeKnotsModel", "rightAnswer", "()I"⟩, 10), (⟨"RopeKnotsModel", "runAt", "(I)I"⟩, 10), (⟨"RopeKnotsModel", "isRun", "(I)Z"⟩, 10), (⟨"RopeKnotsModel", "firstOf", "(I)I"⟩, 10), (⟨"RopeKnotsModel", "wordOf", "(I)I"⟩, 10), (⟨"RopeKnotsModel", "loosest", "(I)I"⟩, 10), (⟨"RopeKnotsModel", "splitsOf", "(I)I"⟩, 10), (⟨"RopeKnotsModel", "unlike", "(II)I"⟩, 10), (⟨"RopeKnotsModel", "knowing", "(I)I"⟩, 10), (⟨"RopeKnotsModel", "known", "(I)I"⟩, 10), (⟨"RopeKnotsModel", "isSafe", "(I)Z"⟩, 10), (⟨"RopeKnotsModel", "wordAt", "(I)I"⟩, 10), (⟨"RopeKnotsModel", "answers", "(I)I"⟩, 10)]
theorem lw_r3 : ∀ q ∈ lw_privs_3, lw_okq q := List.forall_mem_cons.mpr ⟨lw_p32, List.forall_mem_cons.mpr ⟨lw_p33, List.forall_mem_cons.mpr ⟨lw_p34, List.forall_mem_cons.mpr ⟨lw_p35, List.forall_mem_cons.mpr ⟨lw_p36, List.forall_mem_cons.mpr ⟨lw_p37, List.forall_mem_cons.mpr ⟨lw_p38, List.forall_mem_cons.mpr ⟨lw_p39, List.forall_mem_cons.mpr ⟨lw_p40, List.forall_mem_cons.mpr ⟨lw_p41, List.forall_mem_cons.mpr ⟨lw_p42, List.forall_mem_cons.mpr ⟨lw_p43, List.forall_mem_cons.mpr ⟨lw_p44, List.forall_mem_cons.mpr ⟨lw_p45, List.forall_mem_cons.mpr ⟨lw_p46, fun _ h => absurd h List.not_mem_nil⟩⟩⟩⟩⟩⟩⟩⟩⟩⟩⟩⟩⟩⟩⟩
def lw_privs : List (MethodName × Nat) := lw_privs_1 ++ (lw_privs_2 ++ (lw_privs_3))
def lw_tbl : List Cond := k2_sels lw_privs ++ tables_1
theorem lw_privs_ok : ∀ q ∈ lw_privs, lw_okq q := by
  show ∀ q ∈ lw_privs_1 ++ (lw_privs_2 ++ (lw_privs_3)), lw_okq q
  exact List.forall_mem_append.mpr ⟨lw_r1, List.forall_mem_append.mpr ⟨lw_r2, lw_r3⟩⟩

def RX0 : String := "RopeKnots$History"
def TX0 : u_T := fun k => match k with
  | 0 => ("RopeKnots$History", "states", "[LRopeKnots$State;", true)
  | 1 => ("RopeKnots$History", "size", "I", false)
  | _ => ("RopeKnots$History", "next", "I", false)
def tyX0 : Nat → FieldType := fun k => match k with
  | 0 => .array (.object "RopeKnots$State")
  | 1 => .int
  | _ => .int
abbrev wsX00 : List Cond := u_ws RX0 TX0 3
theorem nmX0 : ∀ a, a < 3 → ∀ b, b < 3 → a ≠ b → (TX0 a).2.1 ≠ (TX0 b).2.1 := by decide +kernel
theorem tyX0_ok : ∀ k, k < 3 → parseFieldDescriptor (TX0 k).2.2.1 = some (tyX0 k) := by decide +kernel
abbrev cX0_init : ByteArray := prog_2_method_1_code
def yX0_init : MethodName := ⟨RX0, "<init>", "()V"⟩
abbrev cX0_remember : ByteArray := prog_2_method_2_code
def yX0_remember : MethodName := ⟨RX0, "remember", "(LRopeKnots$State;)V"⟩
abbrev cX0_takeBack : ByteArray := prog_2_method_3_code
def yX0_takeBack : MethodName := ⟨RX0, "takeBack", "(LRopeKnots$State;)V"⟩
def RX1 : String := "RopeKnots$Learners"
def TX1 : u_T := fun k => match k with
  | 0 => ("RopeKnots$Learners", "setting", "I", false)
  | 1 => ("RopeKnots$Learners", "times", "[I", true)
  | 2 => ("RopeKnots$Learners", "right", "[I", true)
  | _ => ("RopeKnots$Learners", "wrong", "[I", true)
def tyX1 : Nat → FieldType := fun k => match k with
  | 0 => .int
  | 1 => .array .int
  | 2 => .array .int
  | _ => .array .int
abbrev wsX10 : List Cond := u_ws RX1 TX1 4
theorem nmX1 : ∀ a, a < 4 → ∀ b, b < 4 → a ≠ b → (TX1 a).2.1 ≠ (TX1 b).2.1 := by decide +kernel
theorem tyX1_ok : ∀ k, k < 4 → parseFieldDescriptor (TX1 k).2.2.1 = some (tyX1 k) := by decide +kernel
abbrev cX1_init : ByteArray := prog_3_method_1_code
def yX1_init : MethodName := ⟨RX1, "<init>", "()V"⟩
abbrev cX1_copyFrom : ByteArray := prog_3_method_2_code
def yX1_copyFrom : MethodName := ⟨RX1, "copyFrom", "(LRopeKnots$Learners;)V"⟩
abbrev cX1_areThere : ByteArray := prog_3_method_3_code
def yX1_areThere : MethodName := ⟨RX1, "areThere", "(II)Z"⟩
abbrev cX1_timesHeard : ByteArray := prog_3_method_4_code
def yX1_timesHeard : MethodName := ⟨RX1, "timesHeard", "(II)I"⟩
abbrev cX1_hear : ByteArray := prog_3_method_5_code
def yX1_hear : MethodName := ⟨RX1, "hear", "(III)V"⟩
abbrev cX1_knows : ByteArray := prog_3_method_6_code
def yX1_knows : MethodName := ⟨RX1, "knows", "(II)Z"⟩
abbrev cX1_mostMissing : ByteArray := prog_3_method_7_code
def yX1_mostMissing : MethodName := ⟨RX1, "mostMissing", "(I)I"⟩
abbrev cX1_whoKnow : ByteArray := prog_3_method_8_code
def yX1_whoKnow : MethodName := ⟨RX1, "whoKnow", "(I)I"⟩
abbrev cX1_knownBy : ByteArray := prog_3_method_9_code
def yX1_knownBy : MethodName := ⟨RX1, "knownBy", "(II)I"⟩
abbrev cX1_account : ByteArray := prog_3_method_10_code
def yX1_account : MethodName := ⟨RX1, "account", "(IZ)V"⟩
abbrev cX1_rightOf : ByteArray := prog_3_method_11_code
def yX1_rightOf : MethodName := ⟨RX1, "rightOf", "(I)I"⟩
abbrev cX1_wrongOf : ByteArray := prog_3_method_12_code
def yX1_wrongOf : MethodName := ⟨RX1, "wrongOf", "(I)I"⟩
abbrev cX1_allRight : ByteArray := prog_3_method_13_code
def yX1_allRight : MethodName := ⟨RX1, "allRight", "()I"⟩
abbrev cX1_allWrong : ByteArray := prog_3_method_14_code
def yX1_allWrong : MethodName := ⟨RX1, "allWrong", "()I"⟩
def RX2 : String := "RopeKnots$Rope"
def TX2 : u_T := fun k => match k with
  | 0 => ("RopeKnots$Rope", "kinds", "[I", true)
  | _ => ("RopeKnots$Rope", "tights", "[I", true)
def tyX2 : Nat → FieldType := fun k => match k with
  | 0 => .array .int
  | _ => .array .int
abbrev wsX20 : List Cond := u_ws RX2 TX2 2
theorem nmX2 : ∀ a, a < 2 → ∀ b, b < 2 → a ≠ b → (TX2 a).2.1 ≠ (TX2 b).2.1 := by decide +kernel
theorem tyX2_ok : ∀ k, k < 2 → parseFieldDescriptor (TX2 k).2.2.1 = some (tyX2 k) := by decide +kernel
abbrev cX2_init : ByteArray := prog_4_method_1_code
def yX2_init : MethodName := ⟨RX2, "<init>", "()V"⟩
abbrev cX2_copyFrom : ByteArray := prog_4_method_2_code
def yX2_copyFrom : MethodName := ⟨RX2, "copyFrom", "(LRopeKnots$Rope;)V"⟩
abbrev cX2_kindAt : ByteArray := prog_4_method_3_code
def yX2_kindAt : MethodName := ⟨RX2, "kindAt", "(I)I"⟩
abbrev cX2_tightAt : ByteArray := prog_4_method_4_code
def yX2_tightAt : MethodName := ⟨RX2, "tightAt", "(I)I"⟩
abbrev cX2_put : ByteArray := prog_4_method_5_code
def yX2_put : MethodName := ⟨RX2, "put", "(III)V"⟩
abbrev cX2_clear : ByteArray := prog_4_method_6_code
def yX2_clear : MethodName := ⟨RX2, "clear", "()V"⟩
abbrev cX2_knotCount : ByteArray := prog_4_method_7_code
def yX2_knotCount : MethodName := ⟨RX2, "knotCount", "()I"⟩
abbrev cX2_startsRun : ByteArray := prog_4_method_8_code
def yX2_startsRun : MethodName := ⟨RX2, "startsRun", "(I)Z"⟩
abbrev cX2_lengthFrom : ByteArray := prog_4_method_9_code
def yX2_lengthFrom : MethodName := ⟨RX2, "lengthFrom", "(I)I"⟩
abbrev cX2_loosenessFrom : ByteArray := prog_4_method_10_code
def yX2_loosenessFrom : MethodName := ⟨RX2, "loosenessFrom", "(I)I"⟩
abbrev cX2_runAt : ByteArray := prog_4_method_11_code
def yX2_runAt : MethodName := ⟨RX2, "runAt", "(I)I"⟩
abbrev cX2_slip : ByteArray := prog_4_method_12_code
def yX2_slip : MethodName := ⟨RX2, "slip", "(I)I"⟩
def RX3 : String := "RopeKnots$Runs"
def TX3 : u_T := fun k => match k with
  | 0 => ("RopeKnots$Runs", "size", "I", false)
  | 1 => ("RopeKnots$Runs", "firsts", "[I", true)
  | 2 => ("RopeKnots$Runs", "lengths", "[I", true)
  | _ => ("RopeKnots$Runs", "found", "[I", true)
def tyX3 : Nat → FieldType := fun k => match k with
  | 0 => .int
  | 1 => .array .int
  | 2 => .array .int
  | _ => .array .int
abbrev wsX30 : List Cond := u_ws RX3 TX3 4
theorem nmX3 : ∀ a, a < 4 → ∀ b, b < 4 → a ≠ b → (TX3 a).2.1 ≠ (TX3 b).2.1 := by decide +kernel
theorem tyX3_ok : ∀ k, k < 4 → parseFieldDescriptor (TX3 k).2.2.1 = some (tyX3 k) := by decide +kernel
abbrev cX3_init : ByteArray := prog_5_method_1_code
def yX3_init : MethodName := ⟨RX3, "<init>", "()V"⟩
abbrev cX3_read : ByteArray := prog_5_method_2_code
def yX3_read : MethodName := ⟨RX3, "read", "(LRopeKnots$Rope;LRopeKnots$Words;)V"⟩
abbrev cX3_has : ByteArray := prog_5_method_3_code
def yX3_has : MethodName := ⟨RX3, "has", "(I)Z"⟩
abbrev cX3_firstOf : ByteArray := prog_5_method_4_code
def yX3_firstOf : MethodName := ⟨RX3, "firstOf", "(I)I"⟩
abbrev cX3_lengthOf : ByteArray := prog_5_method_5_code
def yX3_lengthOf : MethodName := ⟨RX3, "lengthOf", "(I)I"⟩
abbrev cX3_wordOf : ByteArray := prog_5_method_6_code
def yX3_wordOf : MethodName := ⟨RX3, "wordOf", "(I)I"⟩
abbrev cX3_wordRuns : ByteArray := prog_5_method_7_code
def yX3_wordRuns : MethodName := ⟨RX3, "wordRuns", "()I"⟩
abbrev cX3_countOf : ByteArray := prog_5_method_8_code
def yX3_countOf : MethodName := ⟨RX3, "countOf", "(I)I"⟩
abbrev cX3_sameWordsAs : ByteArray := prog_5_method_9_code
def yX3_sameWordsAs : MethodName := ⟨RX3, "sameWordsAs", "(LRopeKnots$Runs;)Z"⟩
abbrev cX3_nextWord : ByteArray := prog_5_method_10_code
def yX3_nextWord : MethodName := ⟨RX3, "nextWord", "(I)I"⟩
def RX4 : String := "RopeKnots$State"
def TX4 : u_T := fun k => match k with
  | 0 => ("RopeKnots$State", "rope", "LRopeKnots$Rope;", true)
  | 1 => ("RopeKnots$State", "words", "LRopeKnots$Words;", true)
  | 2 => ("RopeKnots$State", "learners", "LRopeKnots$Learners;", true)
  | 3 => ("RopeKnots$State", "pulls", "I", false)
  | 4 => ("RopeKnots$State", "slips", "I", false)
  | _ => ("RopeKnots$State", "ringings", "I", false)
def tyX4 : Nat → FieldType := fun k => match k with
  | 0 => .object "RopeKnots$Rope"
  | 1 => .object "RopeKnots$Words"
  | 2 => .object "RopeKnots$Learners"
  | 3 => .int
  | 4 => .int
  | _ => .int
abbrev wsX40 : List Cond := u_ws RX4 TX4 6
theorem nmX4 : ∀ a, a < 6 → ∀ b, b < 6 → a ≠ b → (TX4 a).2.1 ≠ (TX4 b).2.1 := by decide +kernel
theorem tyX4_ok : ∀ k, k < 6 → parseFieldDescriptor (TX4 k).2.2.1 = some (tyX4 k) := by decide +kernel
abbrev cX4_init : ByteArray := prog_6_method_1_code
def yX4_init : MethodName := ⟨RX4, "<init>", "()V"⟩
abbrev cX4_copyFrom : ByteArray := prog_6_method_2_code
def yX4_copyFrom : MethodName := ⟨RX4, "copyFrom", "(LRopeKnots$State;)V"⟩
def RX5 : String := "RopeKnots$Text"
def TX5 : u_T := fun k => match k with
  | 0 => ("RopeKnots$Text", "characters", "[C", true)
  | _ => ("RopeKnots$Text", "length", "I", false)
def tyX5 : Nat → FieldType := fun k => match k with
  | 0 => .array .char
  | _ => .int
abbrev wsX50 : List Cond := u_ws RX5 TX5 2
theorem nmX5 : ∀ a, a < 2 → ∀ b, b < 2 → a ≠ b → (TX5 a).2.1 ≠ (TX5 b).2.1 := by decide +kernel
theorem tyX5_ok : ∀ k, k < 2 → parseFieldDescriptor (TX5 k).2.2.1 = some (tyX5 k) := by decide +kernel
abbrev cX5_init : ByteArray := prog_7_method_1_code
def yX5_init : MethodName := ⟨RX5, "<init>", "()V"⟩
abbrev cX5_append : ByteArray := prog_7_method_2_code
def yX5_append : MethodName := ⟨RX5, "append", "(C)V"⟩
abbrev cX5_clear : ByteArray := prog_7_method_3_code
def yX5_clear : MethodName := ⟨RX5, "clear", "()V"⟩
abbrev cX5_faultIndex : ByteArray := prog_7_method_4_code
def yX5_faultIndex : MethodName := ⟨RX5, "faultIndex", "(Z)I"⟩
abbrev cX5_ropeFault : ByteArray := prog_7_method_5_code
def yX5_ropeFault : MethodName := ⟨RX5, "ropeFault", "()I"⟩
abbrev cX5_patternFault : ByteArray := prog_7_method_6_code
def yX5_patternFault : MethodName := ⟨RX5, "patternFault", "()I"⟩
abbrev cX5_faultKind : ByteArray := prog_7_method_7_code
def yX5_faultKind : MethodName := ⟨RX5, "faultKind", "(ZI)I"⟩
abbrev cX5_layOn : ByteArray := prog_7_method_8_code
def yX5_layOn : MethodName := ⟨RX5, "layOn", "(LRopeKnots$Rope;)V"⟩
abbrev cX5_characterAt : ByteArray := prog_7_method_9_code
def yX5_characterAt : MethodName := ⟨RX5, "characterAt", "(I)C"⟩
abbrev cX5_isDigit : ByteArray := prog_7_method_10_code
def yX5_isDigit : MethodName := ⟨RX5, "isDigit", "(C)Z"⟩
abbrev cX5_isKind : ByteArray := prog_7_method_11_code
def yX5_isKind : MethodName := ⟨RX5, "isKind", "(C)Z"⟩
abbrev cX5_isPlace : ByteArray := prog_7_method_12_code
def yX5_isPlace : MethodName := ⟨RX5, "isPlace", "(C)Z"⟩
def RX6 : String := "RopeKnots$Words"
def TX6 : u_T := fun k => match k with
  | 0 => ("RopeKnots$Words", "size", "I", false)
  | 1 => ("RopeKnots$Words", "lengths", "[I", true)
  | 2 => ("RopeKnots$Words", "rings", "[I", true)
  | _ => ("RopeKnots$Words", "kinds", "[I", true)
def tyX6 : Nat → FieldType := fun k => match k with
  | 0 => .int
  | 1 => .array .int
  | 2 => .array .int
  | _ => .array .int
abbrev wsX60 : List Cond := u_ws RX6 TX6 4
theorem nmX6 : ∀ a, a < 4 → ∀ b, b < 4 → a ≠ b → (TX6 a).2.1 ≠ (TX6 b).2.1 := by decide +kernel
theorem tyX6_ok : ∀ k, k < 4 → parseFieldDescriptor (TX6 k).2.2.1 = some (tyX6 k) := by decide +kernel
abbrev cX6_init : ByteArray := prog_8_method_1_code
def yX6_init : MethodName := ⟨RX6, "<init>", "()V"⟩
abbrev cX6_copyFrom : ByteArray := prog_8_method_2_code
def yX6_copyFrom : MethodName := ⟨RX6, "copyFrom", "(LRopeKnots$Words;)V"⟩
abbrev cX6_has : ByteArray := prog_8_method_3_code
def yX6_has : MethodName := ⟨RX6, "has", "(I)Z"⟩
abbrev cX6_lengthOf : ByteArray := prog_8_method_4_code
def yX6_lengthOf : MethodName := ⟨RX6, "lengthOf", "(I)I"⟩
abbrev cX6_ringsOf : ByteArray := prog_8_method_5_code
def yX6_ringsOf : MethodName := ⟨RX6, "ringsOf", "(I)I"⟩
abbrev cX6_kindAt : ByteArray := prog_8_method_6_code
def yX6_kindAt : MethodName := ⟨RX6, "kindAt", "(II)I"⟩
abbrev cX6_changeRings : ByteArray := prog_8_method_7_code
def yX6_changeRings : MethodName := ⟨RX6, "changeRings", "(II)V"⟩
abbrev cX6_add : ByteArray := prog_8_method_8_code
def yX6_add : MethodName := ⟨RX6, "add", "(LRopeKnots$Rope;II)I"⟩
abbrev cX6_standsAt : ByteArray := prog_8_method_9_code
def yX6_standsAt : MethodName := ⟨RX6, "standsAt", "(ILRopeKnots$Rope;I)Z"⟩
abbrev cX6_find : ByteArray := prog_8_method_10_code
def yX6_find : MethodName := ⟨RX6, "find", "(LRopeKnots$Rope;II)I"⟩
abbrev cX6_differing : ByteArray := prog_8_method_11_code
def yX6_differing : MethodName := ⟨RX6, "differing", "(ILRopeKnots$Rope;II)I"⟩
def RX7 : String := "RopeKnots"
def TX7 : u_T := fun k => match k with
  | 0 => ("RopeKnots", "now", "LRopeKnots$State;", true)
  | 1 => ("RopeKnots", "kept", "LRopeKnots$State;", true)
  | 2 => ("RopeKnots", "hasKept", "Z", false)
  | 3 => ("RopeKnots", "history", "LRopeKnots$History;", true)
  | 4 => ("RopeKnots", "text", "LRopeKnots$Text;", true)
  | 5 => ("RopeKnots", "runs", "LRopeKnots$Runs;", true)
  | 6 => ("RopeKnots", "trial", "LRopeKnots$Rope;", true)
  | 7 => ("RopeKnots", "trialRuns", "LRopeKnots$Runs;", true)
  | _ => ("RopeKnots", "ways", "[I", true)
def tyX7 : Nat → FieldType := fun k => match k with
  | 0 => .object "RopeKnots$State"
  | 1 => .object "RopeKnots$State"
  | 2 => .boolean
  | 3 => .object "RopeKnots$History"
  | 4 => .object "RopeKnots$Text"
  | 5 => .object "RopeKnots$Runs"
  | 6 => .object "RopeKnots$Rope"
  | 7 => .object "RopeKnots$Runs"
  | _ => .array .int
abbrev wsX70 : List Cond := u_ws RX7 TX7 9
theorem nmX7 : ∀ a, a < 9 → ∀ b, b < 9 → a ≠ b → (TX7 a).2.1 ≠ (TX7 b).2.1 := by decide +kernel
theorem tyX7_ok : ∀ k, k < 9 → parseFieldDescriptor (TX7 k).2.2.1 = some (tyX7 k) := by decide +kernel
abbrev cX7_init : ByteArray := prog_1_method_1_code
def yX7_init : MethodName := ⟨RX7, "<init>", "()V"⟩
abbrev cX7_tie : ByteArray := prog_1_method_2_code
def yX7_tie : MethodName := ⟨RX7, "tie", "(III)I"⟩
abbrev cX7_untie : ByteArray := prog_1_method_3_code
def yX7_untie : MethodName := ⟨RX7, "untie", "(I)I"⟩
abbrev cX7_pull : ByteArray := prog_1_method_4_code
def yX7_pull : MethodName := ⟨RX7, "pull", "(I)I"⟩
abbrev cX7_layRope : ByteArray := prog_1_method_5_code
def yX7_layRope : MethodName := ⟨RX7, "layRope", "()I"⟩
abbrev cX7_teach : ByteArray := prog_1_method_6_code
def yX7_teach : MethodName := ⟨RX7, "teach", "(I)I"⟩
abbrev cX7_setRings : ByteArray := prog_1_method_7_code
def yX7_setRings : MethodName := ⟨RX7, "setRings", "(II)I"⟩
abbrev cX7_ring : ByteArray := prog_1_method_8_code
def yX7_ring : MethodName := ⟨RX7, "ring", "()I"⟩
abbrev cX7_forget : ByteArray := prog_1_method_9_code
def yX7_forget : MethodName := ⟨RX7, "forget", "(II)I"⟩
abbrev cX7_tell : ByteArray := prog_1_method_10_code
def yX7_tell : MethodName := ⟨RX7, "tell", "(II)I"⟩
abbrev cX7_set : ByteArray := prog_1_method_11_code
def yX7_set : MethodName := ⟨RX7, "set", "(I)I"⟩
abbrev cX7_type : ByteArray := prog_1_method_12_code
def yX7_type : MethodName := ⟨RX7, "type", "(C)I"⟩
abbrev cX7_clearText : ByteArray := prog_1_method_13_code
def yX7_clearText : MethodName := ⟨RX7, "clearText", "()I"⟩
abbrev cX7_fault : ByteArray := prog_1_method_14_code
def yX7_fault : MethodName := ⟨RX7, "fault", "(ZI)I"⟩
abbrev cX7_undo : ByteArray := prog_1_method_15_code
def yX7_undo : MethodName := ⟨RX7, "undo", "()I"⟩
abbrev cX7_keep : ByteArray := prog_1_method_16_code
def yX7_keep : MethodName := ⟨RX7, "keep", "()I"⟩
abbrev cX7_restore : ByteArray := prog_1_method_17_code
def yX7_restore : MethodName := ⟨RX7, "restore", "()I"⟩
abbrev cX7_knot : ByteArray := prog_1_method_18_code
def yX7_knot : MethodName := ⟨RX7, "knot", "(II)I"⟩
abbrev cX7_run : ByteArray := prog_1_method_19_code
def yX7_run : MethodName := ⟨RX7, "run", "(II)I"⟩
abbrev cX7_splits : ByteArray := prog_1_method_20_code
def yX7_splits : MethodName := ⟨RX7, "splits", "(I)I"⟩
abbrev cX7_splitsBack : ByteArray := prog_1_method_21_code
def yX7_splitsBack : MethodName := ⟨RX7, "splitsBack", "(I)I"⟩
abbrev cX7_nearest : ByteArray := prog_1_method_22_code
def yX7_nearest : MethodName := ⟨RX7, "nearest", "(II)I"⟩
abbrev cX7_word : ByteArray := prog_1_method_23_code
def yX7_word : MethodName := ⟨RX7, "word", "(II)I"⟩
abbrev cX7_learner : ByteArray := prog_1_method_24_code
def yX7_learner : MethodName := ⟨RX7, "learner", "(II)I"⟩
abbrev cX7_heard : ByteArray := prog_1_method_25_code
def yX7_heard : MethodName := ⟨RX7, "heard", "(II)I"⟩
abbrev cX7_reason : ByteArray := prog_1_method_26_code
def yX7_reason : MethodName := ⟨RX7, "reason", "(I)I"⟩
abbrev cX7_ifPulled : ByteArray := prog_1_method_27_code
def yX7_ifPulled : MethodName := ⟨RX7, "ifPulled", "(II)I"⟩
abbrev cX7_safePull : ByteArray := prog_1_method_28_code
def yX7_safePull : MethodName := ⟨RX7, "safePull", "()I"⟩
abbrev cX7_allRightIn : ByteArray := prog_1_method_29_code
def yX7_allRightIn : MethodName := ⟨RX7, "allRightIn", "()I"⟩
abbrev cX7_count : ByteArray := prog_1_method_30_code
def yX7_count : MethodName := ⟨RX7, "count", "(I)I"⟩
abbrev cX7_isWithin : ByteArray := prog_1_method_31_code
def yX7_isWithin : MethodName := ⟨RX7, "isWithin", "(III)Z"⟩
abbrev cX7_isLearner : ByteArray := prog_1_method_32_code
def yX7_isLearner : MethodName := ⟨RX7, "isLearner", "(I)Z"⟩
abbrev cX7_readRuns : ByteArray := prog_1_method_33_code
def yX7_readRuns : MethodName := ⟨RX7, "readRuns", "()LRopeKnots$Runs;"⟩
abbrev cX7_tryPull : ByteArray := prog_1_method_34_code
def yX7_tryPull : MethodName := ⟨RX7, "tryPull", "(I)I"⟩
abbrev cX7_rightAnswer : ByteArray := prog_1_method_35_code
def yX7_rightAnswer : MethodName := ⟨RX7, "rightAnswer", "(LRopeKnots$Runs;)I"⟩
abbrev cX7_answerOf : ByteArray := prog_1_method_36_code
def yX7_answerOf : MethodName := ⟨RX7, "answerOf", "(I)I"⟩
abbrev cX7_hearRope : ByteArray := prog_1_method_37_code
def yX7_hearRope : MethodName := ⟨RX7, "hearRope", "(I)V"⟩
abbrev cX7_ringsUntilAllKnow : ByteArray := prog_1_method_38_code
def yX7_ringsUntilAllKnow : MethodName := ⟨RX7, "ringsUntilAllKnow", "(II)I"⟩
abbrev cX7_waysFrom : ByteArray := prog_1_method_39_code
def yX7_waysFrom : MethodName := ⟨RX7, "waysFrom", "(III)I"⟩
abbrev cX7_waysUpTo : ByteArray := prog_1_method_40_code
def yX7_waysUpTo : MethodName := ⟨RX7, "waysUpTo", "(II)I"⟩
def RX8 : String := "RopeKnotsModel"
def TX8 : u_T := fun k => match k with
  | 0 => ("RopeKnotsModel", "z", "[I", true)
  | 1 => ("RopeKnotsModel", "aside", "[I", true)
  | 2 => ("RopeKnotsModel", "before", "[I", true)
  | 3 => ("RopeKnotsModel", "states", "I", false)
  | 4 => ("RopeKnotsModel", "kept", "[I", true)
  | 5 => ("RopeKnotsModel", "isKept", "Z", false)
  | 6 => ("RopeKnotsModel", "text", "[I", true)
  | 7 => ("RopeKnotsModel", "length", "I", false)
  | 8 => ("RopeKnotsModel", "faultKind", "I", false)
  | _ => ("RopeKnotsModel", "ways", "[I", true)
def tyX8 : Nat → FieldType := fun k => match k with
  | 0 => .array .int
  | 1 => .array .int
  | 2 => .array .int
  | 3 => .int
  | 4 => .array .int
  | 5 => .boolean
  | 6 => .array .int
  | 7 => .int
  | 8 => .int
  | _ => .array .int
abbrev wsX80 : List Cond := u_ws RX8 TX8 10
theorem nmX8 : ∀ a, a < 10 → ∀ b, b < 10 → a ≠ b → (TX8 a).2.1 ≠ (TX8 b).2.1 := by decide +kernel
theorem tyX8_ok : ∀ k, k < 10 → parseFieldDescriptor (TX8 k).2.2.1 = some (tyX8 k) := by decide +kernel
abbrev cX8_init : ByteArray := prog_10_method_1_code
def yX8_init : MethodName := ⟨RX8, "<init>", "()V"⟩
abbrev cX8_in : ByteArray := prog_10_method_3_code
def yX8_in : MethodName := ⟨RX8, "in", "(III)Z"⟩
abbrev cX8_isPlace : ByteArray := prog_10_method_4_code
def yX8_isPlace : MethodName := ⟨RX8, "isPlace", "(I)Z"⟩
abbrev cX8_isWord : ByteArray := prog_10_method_5_code
def yX8_isWord : MethodName := ⟨RX8, "isWord", "(I)Z"⟩
abbrev cX8_isLearner : ByteArray := prog_10_method_6_code
def yX8_isLearner : MethodName := ⟨RX8, "isLearner", "(I)Z"⟩
abbrev cX8_knots : ByteArray := prog_10_method_7_code
def yX8_knots : MethodName := ⟨RX8, "knots", "()I"⟩
abbrev cX8_record : ByteArray := prog_10_method_8_code
def yX8_record : MethodName := ⟨RX8, "record", "()V"⟩
abbrev cX8_undo : ByteArray := prog_10_method_9_code
def yX8_undo : MethodName := ⟨RX8, "undo", "()I"⟩
abbrev cX8_keep : ByteArray := prog_10_method_10_code
def yX8_keep : MethodName := ⟨RX8, "keep", "()I"⟩
abbrev cX8_restore : ByteArray := prog_10_method_11_code
def yX8_restore : MethodName := ⟨RX8, "restore", "()I"⟩
abbrev cX8_putAside : ByteArray := prog_10_method_12_code
def yX8_putAside : MethodName := ⟨RX8, "putAside", "()V"⟩
abbrev cX8_putBack : ByteArray := prog_10_method_13_code
def yX8_putBack : MethodName := ⟨RX8, "putBack", "()V"⟩
abbrev cX8_isKnot : ByteArray := prog_10_method_14_code
def yX8_isKnot : MethodName := ⟨RX8, "isKnot", "(I)Z"⟩
abbrev cX8_begins : ByteArray := prog_10_method_15_code
def yX8_begins : MethodName := ⟨RX8, "begins", "(I)Z"⟩
abbrev cX8_runs : ByteArray := prog_10_method_16_code
def yX8_runs : MethodName := ⟨RX8, "runs", "()I"⟩
abbrev cX8_isRun : ByteArray := prog_10_method_17_code
def yX8_isRun : MethodName := ⟨RX8, "isRun", "(I)Z"⟩
abbrev cX8_firstOf : ByteArray := prog_10_method_18_code
def yX8_firstOf : MethodName := ⟨RX8, "firstOf", "(I)I"⟩
abbrev cX8_lengthFrom : ByteArray := prog_10_method_19_code
def yX8_lengthFrom : MethodName := ⟨RX8, "lengthFrom", "(I)I"⟩
abbrev cX8_patternAt : ByteArray := prog_10_method_20_code
def yX8_patternAt : MethodName := ⟨RX8, "patternAt", "(II)I"⟩
abbrev cX8_lengthOf : ByteArray := prog_10_method_21_code
def yX8_lengthOf : MethodName := ⟨RX8, "lengthOf", "(I)I"⟩
abbrev cX8_isAt : ByteArray := prog_10_method_22_code
def yX8_isAt : MethodName := ⟨RX8, "isAt", "(II)Z"⟩
abbrev cX8_wordFrom : ByteArray := prog_10_method_23_code
def yX8_wordFrom : MethodName := ⟨RX8, "wordFrom", "(I)I"⟩
abbrev cX8_wordOf : ByteArray := prog_10_method_24_code
def yX8_wordOf : MethodName := ⟨RX8, "wordOf", "(I)I"⟩
abbrev cX8_wordRuns : ByteArray := prog_10_method_25_code
def yX8_wordRuns : MethodName := ⟨RX8, "wordRuns", "()I"⟩
abbrev cX8_runsOf : ByteArray := prog_10_method_26_code
def yX8_runsOf : MethodName := ⟨RX8, "runsOf", "(I)I"⟩
abbrev cX8_rightAnswer : ByteArray := prog_10_method_27_code
def yX8_rightAnswer : MethodName := ⟨RX8, "rightAnswer", "()I"⟩
abbrev cX8_tie : ByteArray := prog_10_method_28_code
def yX8_tie : MethodName := ⟨RX8, "tie", "(III)I"⟩
abbrev cX8_untie : ByteArray := prog_10_method_29_code
def yX8_untie : MethodName := ⟨RX8, "untie", "(I)I"⟩
abbrev cX8_doPull : ByteArray := prog_10_method_30_code
def yX8_doPull : MethodName := ⟨RX8, "doPull", "(I)I"⟩
abbrev cX8_slipsOf : ByteArray := prog_10_method_31_code
def yX8_slipsOf : MethodName := ⟨RX8, "slipsOf", "(I)I"⟩
abbrev cX8_pull : ByteArray := prog_10_method_32_code
def yX8_pull : MethodName := ⟨RX8, "pull", "(I)I"⟩
abbrev cX8_layRope : ByteArray := prog_10_method_33_code
def yX8_layRope : MethodName := ⟨RX8, "layRope", "()I"⟩
abbrev cX8_isTaught : ByteArray := prog_10_method_34_code
def yX8_isTaught : MethodName := ⟨RX8, "isTaught", "()Z"⟩
abbrev cX8_teach : ByteArray := prog_10_method_35_code
def yX8_teach : MethodName := ⟨RX8, "teach", "(I)I"⟩
abbrev cX8_setRings : ByteArray := prog_10_method_36_code
def yX8_setRings : MethodName := ⟨RX8, "setRings", "(II)I"⟩
abbrev cX8_heardOf : ByteArray := prog_10_method_37_code
def yX8_heardOf : MethodName := ⟨RX8, "heardOf", "(II)I"⟩
abbrev cX8_knows : ByteArray := prog_10_method_38_code
def yX8_knows : MethodName := ⟨RX8, "knows", "(II)Z"⟩
abbrev cX8_answerOf : ByteArray := prog_10_method_39_code
def yX8_answerOf : MethodName := ⟨RX8, "answerOf", "(I)I"⟩
abbrev cX8_ring : ByteArray := prog_10_method_40_code
def yX8_ring : MethodName := ⟨RX8, "ring", "()I"⟩
abbrev cX8_forget : ByteArray := prog_10_method_41_code
def yX8_forget : MethodName := ⟨RX8, "forget", "(II)I"⟩
abbrev cX8_tell : ByteArray := prog_10_method_42_code
def yX8_tell : MethodName := ⟨RX8, "tell", "(II)I"⟩
abbrev cX8_set : ByteArray := prog_10_method_43_code
def yX8_set : MethodName := ⟨RX8, "set", "(I)I"⟩
abbrev cX8_type : ByteArray := prog_10_method_44_code
def yX8_type : MethodName := ⟨RX8, "type", "(C)I"⟩
abbrev cX8_clearText : ByteArray := prog_10_method_45_code
def yX8_clearText : MethodName := ⟨RX8, "clearText", "()I"⟩
abbrev cX8_findFault : ByteArray := prog_10_method_46_code
def yX8_findFault : MethodName := ⟨RX8, "findFault", "(Z)I"⟩
abbrev cX8_fault : ByteArray := prog_10_method_47_code
def yX8_fault : MethodName := ⟨RX8, "fault", "(ZI)I"⟩
abbrev cX8_runAt : ByteArray := prog_10_method_48_code
def yX8_runAt : MethodName := ⟨RX8, "runAt", "(I)I"⟩
abbrev cX8_knot : ByteArray := prog_10_method_49_code
def yX8_knot : MethodName := ⟨RX8, "knot", "(II)I"⟩
abbrev cX8_loosest : ByteArray := prog_10_method_50_code
def yX8_loosest : MethodName := ⟨RX8, "loosest", "(I)I"⟩
abbrev cX8_run : ByteArray := prog_10_method_51_code
def yX8_run : MethodName := ⟨RX8, "run", "(II)I"⟩
abbrev cX8_splitsOf : ByteArray := prog_10_method_52_code
def yX8_splitsOf : MethodName := ⟨RX8, "splitsOf", "(I)I"⟩
abbrev cX8_splits : ByteArray := prog_10_method_53_code
def yX8_splits : MethodName := ⟨RX8, "splits", "(I)I"⟩
abbrev cX8_splitsBack : ByteArray := prog_10_method_54_code
def yX8_splitsBack : MethodName := ⟨RX8, "splitsBack", "(I)I"⟩
abbrev cX8_unlike : ByteArray := prog_10_method_55_code
def yX8_unlike : MethodName := ⟨RX8, "unlike", "(II)I"⟩
abbrev cX8_nearest : ByteArray := prog_10_method_56_code
def yX8_nearest : MethodName := ⟨RX8, "nearest", "(II)I"⟩
abbrev cX8_knowing : ByteArray := prog_10_method_57_code
def yX8_knowing : MethodName := ⟨RX8, "knowing", "(I)I"⟩
abbrev cX8_word : ByteArray := prog_10_method_58_code
def yX8_word : MethodName := ⟨RX8, "word", "(II)I"⟩
abbrev cX8_known : ByteArray := prog_10_method_59_code
def yX8_known : MethodName := ⟨RX8, "known", "(I)I"⟩
abbrev cX8_learner : ByteArray := prog_10_method_60_code
def yX8_learner : MethodName := ⟨RX8, "learner", "(II)I"⟩
abbrev cX8_heard : ByteArray := prog_10_method_61_code
def yX8_heard : MethodName := ⟨RX8, "heard", "(II)I"⟩
abbrev cX8_reason : ByteArray := prog_10_method_62_code
def yX8_reason : MethodName := ⟨RX8, "reason", "(I)I"⟩
abbrev cX8_ifPulled : ByteArray := prog_10_method_63_code
def yX8_ifPulled : MethodName := ⟨RX8, "ifPulled", "(II)I"⟩
abbrev cX8_wordAt : ByteArray := prog_10_method_64_code
def yX8_wordAt : MethodName := ⟨RX8, "wordAt", "(I)I"⟩
abbrev cX8_isSafe : ByteArray := prog_10_method_65_code
def yX8_isSafe : MethodName := ⟨RX8, "isSafe", "(I)Z"⟩
abbrev cX8_safePull : ByteArray := prog_10_method_66_code
def yX8_safePull : MethodName := ⟨RX8, "safePull", "()I"⟩
abbrev cX8_allRightIn : ByteArray := prog_10_method_67_code
def yX8_allRightIn : MethodName := ⟨RX8, "allRightIn", "()I"⟩
abbrev cX8_answers : ByteArray := prog_10_method_68_code
def yX8_answers : MethodName := ⟨RX8, "answers", "(I)I"⟩
abbrev cX8_count : ByteArray := prog_10_method_69_code
def yX8_count : MethodName := ⟨RX8, "count", "(I)I"⟩
def RJ9 : String := "java/lang/Math"
def TJ9 : u_T := fun k => match k with
  | _ => ("", "", "", false)
def tyJ9 : Nat → FieldType := fun k => match k with
  | _ => .int
abbrev wsJ90 : List Cond := u_ws RJ9 TJ9 0
theorem nmJ9 : ∀ a, a < 0 → ∀ b, b < 0 → a ≠ b → (TJ9 a).2.1 ≠ (TJ9 b).2.1 := by decide +kernel
theorem tyJ9_ok : ∀ k, k < 0 → parseFieldDescriptor (TJ9 k).2.2.1 = some (tyJ9 k) := by decide +kernel
abbrev cJ9_max_7cf53 : ByteArray := prog_11_method_65_code
def yJ9_max_7cf53 : MethodName := ⟨RJ9, "max", "(II)I"⟩
abbrev cJ9_min_7cf53 : ByteArray := prog_11_method_69_code
def yJ9_min_7cf53 : MethodName := ⟨RJ9, "min", "(II)I"⟩
def RL : String := "RopeKnotsLaw"
abbrev cL_law : ByteArray := code
def yL_law : MethodName := ⟨RL, "law", "([I)Z"⟩
