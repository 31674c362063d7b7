section
-- ===== PART A: goes FIRST, ahead of the names: the tables' words, and 'selects' of the private methods out of them =====
/-- a private method of a class that the tables say can be made, by its rows of tables_1 -/
def lw_okq (q : MethodName × Nat) : Prop := (q.1.cls ≠ "java/lang/invoke/MethodHandle" ∧ q.1.cls ≠ "java/lang/invoke/VarHandle") ∧ Cond.instantiable q.1.cls q.2 ∈ tables_1 ∧ Cond.privateMethod q.1 ∈ tables_1 ∧ Cond.instanceMethod q.1 ∈ tables_1
theorem lw_p0 : lw_okq (⟨"LearnedCount$Library", "sortWords", "()V"⟩, 16) := ⟨⟨by decide +kernel, by decide +kernel⟩, List.mem_of_getElem? (i := 103) (by decide +kernel), List.mem_of_getElem? (i := 190) (by decide +kernel), List.mem_of_getElem? (i := 191) (by decide +kernel)⟩
theorem lw_p1 : lw_okq (⟨"LearnedCount$Library", "findFollowed", "()V"⟩, 16) := ⟨⟨by decide +kernel, by decide +kernel⟩, List.mem_of_getElem? (i := 103) (by decide +kernel), List.mem_of_getElem? (i := 194) (by decide +kernel), List.mem_of_getElem? (i := 195) (by decide +kernel)⟩
theorem lw_p2 : lw_okq (⟨"LearnedCount$Library", "findRings", "()V"⟩, 16) := ⟨⟨by decide +kernel, by decide +kernel⟩, List.mem_of_getElem? (i := 103) (by decide +kernel), List.mem_of_getElem? (i := 198) (by decide +kernel), List.mem_of_getElem? (i := 199) (by decide +kernel)⟩
theorem lw_p3 : lw_okq (⟨"LearnedCount$Library", "speakInOrder", "()V"⟩, 16) := ⟨⟨by decide +kernel, by decide +kernel⟩, List.mem_of_getElem? (i := 103) (by decide +kernel), List.mem_of_getElem? (i := 205) (by decide +kernel), List.mem_of_getElem? (i := 206) (by decide +kernel)⟩
theorem lw_p4 : lw_okq (⟨"LearnedCount$Library", "speak", "(I)V"⟩, 16) := ⟨⟨by decide +kernel, by decide +kernel⟩, List.mem_of_getElem? (i := 103) (by decide +kernel), List.mem_of_getElem? (i := 209) (by decide +kernel), List.mem_of_getElem? (i := 210) (by decide +kernel)⟩
theorem lw_p5 : lw_okq (⟨"LearnedCount$Library", "followedSaying", "(LLearnedCount$Word;I)I"⟩, 16) := ⟨⟨by decide +kernel, by decide +kernel⟩, List.mem_of_getElem? (i := 103) (by decide +kernel), List.mem_of_getElem? (i := 216) (by decide +kernel), List.mem_of_getElem? (i := 217) (by decide +kernel)⟩
theorem lw_p6 : lw_okq (⟨"LearnedCount$Library", "weighAll", "()V"⟩, 16) := ⟨⟨by decide +kernel, by decide +kernel⟩, List.mem_of_getElem? (i := 103) (by decide +kernel), List.mem_of_getElem? (i := 227) (by decide +kernel), List.mem_of_getElem? (i := 228) (by decide +kernel)⟩
theorem lw_p7 : lw_okq (⟨"LearnedCount$Library", "weightOf", "(I)I"⟩, 16) := ⟨⟨by decide +kernel, by decide +kernel⟩, List.mem_of_getElem? (i := 103) (by decide +kernel), List.mem_of_getElem? (i := 231) (by decide +kernel), List.mem_of_getElem? (i := 232) (by decide +kernel)⟩
theorem lw_p8 : lw_okq (⟨"LearnedCount$Library", "askLaws", "()V"⟩, 16) := ⟨⟨by decide +kernel, by decide +kernel⟩, List.mem_of_getElem? (i := 103) (by decide +kernel), List.mem_of_getElem? (i := 241) (by decide +kernel), List.mem_of_getElem? (i := 242) (by decide +kernel)⟩
theorem lw_p9 : lw_okq (⟨"LearnedCount$Library", "lawSaying", "(IZ)I"⟩, 16) := ⟨⟨by decide +kernel, by decide +kernel⟩, List.mem_of_getElem? (i := 103) (by decide +kernel), List.mem_of_getElem? (i := 245) (by decide +kernel), List.mem_of_getElem? (i := 246) (by decide +kernel)⟩
theorem lw_p10 : lw_okq (⟨"LearnedCount$Tokens", "isNamed", "(Ljava/lang/String;II)Z"⟩, 7) := ⟨⟨by decide +kernel, by decide +kernel⟩, List.mem_of_getElem? (i := 45) (by decide +kernel), List.mem_of_getElem? (i := 592) (by decide +kernel), List.mem_of_getElem? (i := 593) (by decide +kernel)⟩
theorem lw_p11 : lw_okq (⟨"LearnedCount$LibraryReader", "tellWord", "(LLearnedCount$Library;I)V"⟩, 2) := ⟨⟨by decide +kernel, by decide +kernel⟩, List.mem_of_getElem? (i := 80) (by decide +kernel), List.mem_of_getElem? (i := 597) (by decide +kernel), List.mem_of_getElem? (i := 598) (by decide +kernel)⟩
theorem lw_p12 : lw_okq (⟨"LearnedCount$Tokens", "letters", "(II)I"⟩, 7) := ⟨⟨by decide +kernel, by decide +kernel⟩, List.mem_of_getElem? (i := 45) (by decide +kernel), List.mem_of_getElem? (i := 618) (by decide +kernel), List.mem_of_getElem? (i := 619) (by decide +kernel)⟩
theorem lw_p13 : lw_okq (⟨"LearnedCount$LibraryReader", "tellSaying", "(LLearnedCount$Word;)V"⟩, 2) := ⟨⟨by decide +kernel, by decide +kernel⟩, List.mem_of_getElem? (i := 80) (by decide +kernel), List.mem_of_getElem? (i := 628) (by decide +kernel), List.mem_of_getElem? (i := 629) (by decide +kernel)⟩
theorem lw_p14 : lw_okq (⟨"LearnedCount$LibraryReader", "tellCopies", "(LLearnedCount$Library;I)I"⟩, 2) := ⟨⟨by decide +kernel, by decide +kernel⟩, List.mem_of_getElem? (i := 80) (by decide +kernel), List.mem_of_getElem? (i := 642) (by decide +kernel), List.mem_of_getElem? (i := 643) (by decide +kernel)⟩
theorem lw_p15 : lw_okq (⟨"LearnedCount$LibraryReader", "findWrongFollowers", "(LLearnedCount$Library;)V"⟩, 2) := ⟨⟨by decide +kernel, by decide +kernel⟩, List.mem_of_getElem? (i := 80) (by decide +kernel), List.mem_of_getElem? (i := 651) (by decide +kernel), List.mem_of_getElem? (i := 652) (by decide +kernel)⟩
def lw_privs_1 : List (MethodName × Nat) := [(⟨"LearnedCount$Library", "sortWords", "()V"⟩, 16), (⟨"LearnedCount$Library", "findFollowed", "()V"⟩, 16), (⟨"LearnedCount$Library", "findRings", "()V"⟩, 16), (⟨"LearnedCount$Library", "speakInOrder", "()V"⟩, 16), (⟨"LearnedCount$Library", "speak", "(I)V"⟩, 16), (⟨"LearnedCount$Library", "followedSaying", "(LLearnedCount$Word;I)I"⟩, 16), (⟨"LearnedCount$Library", "weighAll", "()V"⟩, 16), (⟨"LearnedCount$Library", "weightOf", "(I)I"⟩, 16), (⟨"LearnedCount$Library", "askLaws", "()V"⟩, 16), (⟨"LearnedCount$Library", "lawSaying", "(IZ)I"⟩, 16), (⟨"LearnedCount$Tokens", "isNamed", "(Ljava/lang/String;II)Z"⟩, 7), (⟨"LearnedCount$LibraryReader", "tellWord", "(LLearnedCount$Library;I)V"⟩, 2), (⟨"LearnedCount$Tokens", "letters", "(II)I"⟩, 7), (⟨"LearnedCount$LibraryReader", "tellSaying", "(LLearnedCount$Word;)V"⟩, 2), (⟨"LearnedCount$LibraryReader", "tellCopies", "(LLearnedCount$Library;I)I"⟩, 2), (⟨"LearnedCount$LibraryReader", "findWrongFollowers", "(LLearnedCount$Library;)V"⟩, 2)]
theorem lw_r1 : ∀ q ∈ lw_privs_1, lw_okq q := List.forall_mem_cons.mpr ⟨lw_p0, List.forall_mem_cons.mpr ⟨lw_p1, List.forall_mem_cons.mpr ⟨lw_p2, List.forall_mem_cons.mpr ⟨lw_p3, List.forall_mem_cons.mpr ⟨lw_p4, List.forall_mem_cons.mpr ⟨lw_p5, List.forall_mem_cons.mpr ⟨lw_p6, List.forall_mem_cons.mpr ⟨lw_p7, List.forall_mem_cons.mpr ⟨lw_p8, List.forall_mem_cons.mpr ⟨lw_p9, List.forall_mem_cons.mpr ⟨lw_p10, List.forall_mem_cons.mpr ⟨lw_p11, List.forall_mem_cons.mpr ⟨lw_p12, List.forall_mem_cons.mpr ⟨lw_p13, List.forall_mem_cons.mpr ⟨lw_p14, List.forall_mem_cons.mpr ⟨lw_p15, fun _ h => absurd h List.not_mem_nil⟩⟩⟩⟩⟩⟩⟩⟩⟩⟩⟩⟩⟩⟩⟩⟩
theorem lw_p16 : lw_okq (⟨"LearnedCount", "afterText", "(I)I"⟩, 14) := ⟨⟨by decide +kernel, by decide +kernel⟩, List.mem_of_getElem? (i := 22) (by decide +kernel), List.mem_of_getElem? (i := 664) (by decide +kernel), List.mem_of_getElem? (i := 665) (by decide +kernel)⟩
theorem lw_p17 : lw_okq (⟨"LearnedCount$RuleReader", "tell", "(LLearnedCount$Rule;I)V"⟩, 1) := ⟨⟨by decide +kernel, by decide +kernel⟩, List.mem_of_getElem? (i := 93) (by decide +kernel), List.mem_of_getElem? (i := 683) (by decide +kernel), List.mem_of_getElem? (i := 684) (by decide +kernel)⟩
theorem lw_p18 : lw_okq (⟨"LearnedCount", "isWord", "(I)Z"⟩, 14) := ⟨⟨by decide +kernel, by decide +kernel⟩, List.mem_of_getElem? (i := 22) (by decide +kernel), List.mem_of_getElem? (i := 710) (by decide +kernel), List.mem_of_getElem? (i := 711) (by decide +kernel)⟩
theorem lw_p19 : lw_okq (⟨"LearnedCount$Library", "mainWords", "(LLearnedCount$Rule;)I"⟩, 16) := ⟨⟨by decide +kernel, by decide +kernel⟩, List.mem_of_getElem? (i := 103) (by decide +kernel), List.mem_of_getElem? (i := 730) (by decide +kernel), List.mem_of_getElem? (i := 731) (by decide +kernel)⟩
theorem lw_p20 : lw_okq (⟨"LearnedCount", "weighNow", "()V"⟩, 14) := ⟨⟨by decide +kernel, by decide +kernel⟩, List.mem_of_getElem? (i := 22) (by decide +kernel), List.mem_of_getElem? (i := 754) (by decide +kernel), List.mem_of_getElem? (i := 755) (by decide +kernel)⟩
theorem lw_p21 : lw_okq (⟨"LearnedCount$Weighing", "settled", "(III)I"⟩, 10) := ⟨⟨by decide +kernel, by decide +kernel⟩, List.mem_of_getElem? (i := 370) (by decide +kernel), List.mem_of_getElem? (i := 767) (by decide +kernel), List.mem_of_getElem? (i := 768) (by decide +kernel)⟩
theorem lw_p22 : lw_okq (⟨"LearnedCount$Weighing", "heaviest", "(II)I"⟩, 10) := ⟨⟨by decide +kernel, by decide +kernel⟩, List.mem_of_getElem? (i := 370) (by decide +kernel), List.mem_of_getElem? (i := 772) (by decide +kernel), List.mem_of_getElem? (i := 773) (by decide +kernel)⟩
theorem lw_p23 : lw_okq (⟨"LearnedCount$Weighing", "lawIn", "(I)I"⟩, 10) := ⟨⟨by decide +kernel, by decide +kernel⟩, List.mem_of_getElem? (i := 370) (by decide +kernel), List.mem_of_getElem? (i := 816) (by decide +kernel), List.mem_of_getElem? (i := 817) (by decide +kernel)⟩
theorem lw_p24 : lw_okq (⟨"LearnedCount$Weighing", "headSaying", "()I"⟩, 10) := ⟨⟨by decide +kernel, by decide +kernel⟩, List.mem_of_getElem? (i := 370) (by decide +kernel), List.mem_of_getElem? (i := 821) (by decide +kernel), List.mem_of_getElem? (i := 822) (by decide +kernel)⟩
theorem lw_p25 : lw_okq (⟨"LearnedCount$Weighing", "decider", "(III)I"⟩, 10) := ⟨⟨by decide +kernel, by decide +kernel⟩, List.mem_of_getElem? (i := 370) (by decide +kernel), List.mem_of_getElem? (i := 825) (by decide +kernel), List.mem_of_getElem? (i := 826) (by decide +kernel)⟩
theorem lw_p26 : lw_okq (⟨"LearnedCount$Weighing", "answerBy", "(IIII)I"⟩, 10) := ⟨⟨by decide +kernel, by decide +kernel⟩, List.mem_of_getElem? (i := 370) (by decide +kernel), List.mem_of_getElem? (i := 829) (by decide +kernel), List.mem_of_getElem? (i := 830) (by decide +kernel)⟩
theorem lw_p27 : lw_okq (⟨"LearnedCount", "casesNow", "(I)J"⟩, 14) := ⟨⟨by decide +kernel, by decide +kernel⟩, List.mem_of_getElem? (i := 22) (by decide +kernel), List.mem_of_getElem? (i := 848) (by decide +kernel), List.mem_of_getElem? (i := 849) (by decide +kernel)⟩
theorem lw_p28 : lw_okq (⟨"LearnedCount", "fewestBooks", "(II)I"⟩, 14) := ⟨⟨by decide +kernel, by decide +kernel⟩, List.mem_of_getElem? (i := 22) (by decide +kernel), List.mem_of_getElem? (i := 891) (by decide +kernel), List.mem_of_getElem? (i := 892) (by decide +kernel)⟩
theorem lw_p29 : lw_okq (⟨"LearnedCount$Finding", "tallyDoctors", "()V"⟩, 2) := ⟨⟨by decide +kernel, by decide +kernel⟩, List.mem_of_getElem? (i := 414) (by decide +kernel), List.mem_of_getElem? (i := 913) (by decide +kernel), List.mem_of_getElem? (i := 914) (by decide +kernel)⟩
theorem lw_p30 : lw_okq (⟨"LearnedCount$Finding", "tally", "(II)V"⟩, 2) := ⟨⟨by decide +kernel, by decide +kernel⟩, List.mem_of_getElem? (i := 414) (by decide +kernel), List.mem_of_getElem? (i := 918) (by decide +kernel), List.mem_of_getElem? (i := 919) (by decide +kernel)⟩
theorem lw_p31 : lw_okq (⟨"LearnedCount", "readCells", "(LLearnedCount$Sheet;III)I"⟩, 14) := ⟨⟨by decide +kernel, by decide +kernel⟩, List.mem_of_getElem? (i := 22) (by decide +kernel), List.mem_of_getElem? (i := 1003) (by decide +kernel), List.mem_of_getElem? (i := 1004) (by decide +kernel)⟩
def lw_privs_2 : List (MethodName × Nat) := [(⟨"LearnedCount", "afterText", "(I)I"⟩, 14), (⟨"LearnedCount$RuleReader", "tell", "(LLearnedCount$Rule;I)V"⟩, 1), (⟨"LearnedCount", "isWord", "(I)Z"⟩, 14), (⟨"LearnedCount$Library", "mainWords", "(LLearnedCount$Rule;)I"⟩, 16), (⟨"LearnedCount", "weighNow", "()V"⟩, 14), (⟨"LearnedCount$Weighing", "settled", "(III)I"⟩, 10), (⟨"LearnedCount$Weighing", "heaviest", "(II)I"⟩, 10), (⟨"LearnedCount$Weighing", "lawIn", "(I)I"⟩, 10), (⟨"LearnedCount$Weighing", "headSaying", "()I"⟩, 10), (⟨"LearnedCount$Weighing", "decider", "(III)I"⟩, 10), (⟨"LearnedCount$Weighing", "answerBy", "(IIII)I"⟩, 10), (⟨"LearnedCount", "casesNow", "(I)J"⟩, 14), (⟨"LearnedCount", "fewestBooks", "(II)I"⟩, 14), (⟨"LearnedCount$Finding", "tallyDoctors", "()V"⟩, 2), (⟨"LearnedCount$Finding", "tally", "(II)V"⟩, 2), (⟨"LearnedCount", "readCells", "(LLearnedCount$Sheet;III)I"⟩, 14)]
theorem lw_r2 : ∀ q ∈ lw_privs_2, lw_okq q := List.forall_mem_cons.mpr ⟨lw_p16, List.forall_mem_cons.mpr ⟨lw_p17, List.forall_mem_cons.mpr ⟨lw_p18, List.forall_mem_cons.mpr ⟨lw_p19, List.forall_mem_cons.mpr ⟨lw_p20, List.forall_mem_cons.mpr ⟨lw_p21, List.forall_mem_cons.mpr ⟨lw_p22, List.forall_mem_cons.mpr ⟨lw_p23, List.forall_mem_cons.mpr ⟨lw_p24, List.forall_mem_cons.mpr ⟨lw_p25, List.forall_mem_cons.mpr ⟨lw_p26, List.forall_mem_cons.mpr ⟨lw_p27, List.forall_mem_cons.mpr ⟨lw_p28, List.forall_mem_cons.mpr ⟨lw_p29, List.forall_mem_cons.mpr ⟨lw_p30, List.forall_mem_cons.mpr ⟨lw_p31, fun _ h => absurd h List.not_mem_nil⟩⟩⟩⟩⟩⟩⟩⟩⟩⟩⟩⟩⟩⟩⟩⟩
theorem lw_p32 : lw_okq (⟨"LearnedCountModel", "firstLibrary", "()V"⟩, 43) := ⟨⟨by decide +kernel, by decide +kernel⟩, List.mem_of_getElem? (i := 1011) (by decide +kernel), List.mem_of_getElem? (i := 1017) (by decide +kernel), List.mem_of_getElem? (i := 1018) (by decide +kernel)⟩
theorem lw_p33 : lw_okq (⟨"LearnedCountModel", "keepLibrary", "()V"⟩, 43) := ⟨⟨by decide +kernel, by decide +kernel⟩, List.mem_of_getElem? (i := 1011) (by decide +kernel), List.mem_of_getElem? (i := 1021) (by decide +kernel), List.mem_of_getElem? (i := 1022) (by decide +kernel)⟩
theorem lw_p34 : lw_okq (⟨"LearnedCountModel", "findFollowing", "()V"⟩, 43) := ⟨⟨by decide +kernel, by decide +kernel⟩, List.mem_of_getElem? (i := 1011) (by decide +kernel), List.mem_of_getElem? (i := 1025) (by decide +kernel), List.mem_of_getElem? (i := 1026) (by decide +kernel)⟩
theorem lw_p35 : lw_okq (⟨"LearnedCountModel", "followed", "(I)I"⟩, 43) := ⟨⟨by decide +kernel, by decide +kernel⟩, List.mem_of_getElem? (i := 1011) (by decide +kernel), List.mem_of_getElem? (i := 1029) (by decide +kernel), List.mem_of_getElem? (i := 1030) (by decide +kernel)⟩
theorem lw_p36 : lw_okq (⟨"LearnedCountModel", "of", "(II)I"⟩, 43) := ⟨⟨by decide +kernel, by decide +kernel⟩, List.mem_of_getElem? (i := 1011) (by decide +kernel), List.mem_of_getElem? (i := 1033) (by decide +kernel), List.mem_of_getElem? (i := 1034) (by decide +kernel)⟩
theorem lw_p37 : lw_okq (⟨"LearnedCountModel", "findSaid", "()V"⟩, 43) := ⟨⟨by decide +kernel, by decide +kernel⟩, List.mem_of_getElem? (i := 1011) (by decide +kernel), List.mem_of_getElem? (i := 1037) (by decide +kernel), List.mem_of_getElem? (i := 1038) (by decide +kernel)⟩
theorem lw_p38 : lw_okq (⟨"LearnedCountModel", "isUnsound", "(I)Z"⟩, 43) := ⟨⟨by decide +kernel, by decide +kernel⟩, List.mem_of_getElem? (i := 1011) (by decide +kernel), List.mem_of_getElem? (i := 1041) (by decide +kernel), List.mem_of_getElem? (i := 1042) (by decide +kernel)⟩
theorem lw_p39 : lw_okq (⟨"LearnedCountModel", "sayWord", "(I)V"⟩, 43) := ⟨⟨by decide +kernel, by decide +kernel⟩, List.mem_of_getElem? (i := 1011) (by decide +kernel), List.mem_of_getElem? (i := 1045) (by decide +kernel), List.mem_of_getElem? (i := 1046) (by decide +kernel)⟩
theorem lw_p40 : lw_okq (⟨"LearnedCountModel", "casesWith", "(II)J"⟩, 43) := ⟨⟨by decide +kernel, by decide +kernel⟩, List.mem_of_getElem? (i := 1011) (by decide +kernel), List.mem_of_getElem? (i := 1049) (by decide +kernel), List.mem_of_getElem? (i := 1050) (by decide +kernel)⟩
theorem lw_p41 : lw_okq (⟨"LearnedCountModel", "firstRule", "()V"⟩, 43) := ⟨⟨by decide +kernel, by decide +kernel⟩, List.mem_of_getElem? (i := 1011) (by decide +kernel), List.mem_of_getElem? (i := 1053) (by decide +kernel), List.mem_of_getElem? (i := 1054) (by decide +kernel)⟩
theorem lw_p42 : lw_okq (⟨"LearnedCountModel", "next", "()V"⟩, 43) := ⟨⟨by decide +kernel, by decide +kernel⟩, List.mem_of_getElem? (i := 1011) (by decide +kernel), List.mem_of_getElem? (i := 1205) (by decide +kernel), List.mem_of_getElem? (i := 1206) (by decide +kernel)⟩
theorem lw_p43 : lw_okq (⟨"LearnedCountModel", "look", "(I)I"⟩, 43) := ⟨⟨by decide +kernel, by decide +kernel⟩, List.mem_of_getElem? (i := 1011) (by decide +kernel), List.mem_of_getElem? (i := 1209) (by decide +kernel), List.mem_of_getElem? (i := 1210) (by decide +kernel)⟩
theorem lw_p44 : lw_okq (⟨"LearnedCountModel", "wants", "(ZI)V"⟩, 43) := ⟨⟨by decide +kernel, by decide +kernel⟩, List.mem_of_getElem? (i := 1011) (by decide +kernel), List.mem_of_getElem? (i := 1217) (by decide +kernel), List.mem_of_getElem? (i := 1218) (by decide +kernel)⟩
theorem lw_p45 : lw_okq (⟨"LearnedCountModel", "readLine", "()V"⟩, 43) := ⟨⟨by decide +kernel, by decide +kernel⟩, List.mem_of_getElem? (i := 1011) (by decide +kernel), List.mem_of_getElem? (i := 1221) (by decide +kernel), List.mem_of_getElem? (i := 1222) (by decide +kernel)⟩
theorem lw_p46 : lw_okq (⟨"LearnedCountModel", "nameNow", "()I"⟩, 43) := ⟨⟨by decide +kernel, by decide +kernel⟩, List.mem_of_getElem? (i := 1011) (by decide +kernel), List.mem_of_getElem? (i := 1225) (by decide +kernel), List.mem_of_getElem? (i := 1226) (by decide +kernel)⟩
theorem lw_p47 : lw_okq (⟨"LearnedCountModel", "is", "(IIIII)Z"⟩, 43) := ⟨⟨by decide +kernel, by decide +kernel⟩, List.mem_of_getElem? (i := 1011) (by decide +kernel), List.mem_of_getElem? (i := 1229) (by decide +kernel), List.mem_of_getElem? (i := 1230) (by decide +kernel)⟩
def lw_privs_3 : List (MethodName × Nat) := [(⟨"LearnedCountModel", "firstLibrary", "()V"⟩, 43), (⟨"LearnedCountModel", "keepLibrary", "()V"⟩, 43), (⟨"LearnedCountModel", "findFollowing", "()V"⟩, 43), (⟨"LearnedCountModel", "followed", "(I)I"⟩, 43), (⟨"LearnedCountModel", "of", "(II)I"⟩, 43), (⟨"LearnedCountModel", "findSaid", "()V"⟩, 43), (⟨"LearnedCountModel", "isUnsound", "(I)Z"⟩, 43), (⟨"LearnedCountModel", "sayWord", "(I)V"⟩, 43), (⟨"LearnedCountModel", "casesWith", "(II)J"⟩, 43), (⟨"LearnedCountModel", "firstRule", "()V"⟩, 43), (⟨"LearnedCountModel", "next", "()V"⟩, 43), (⟨"LearnedCountModel", "look", "(I)I"⟩, 43), (⟨"LearnedCountModel", "wants", "(ZI)V"⟩, 43), (⟨"LearnedCountModel", "readLine", "()V"⟩, 43), (⟨"LearnedCountModel", "nameNow", "()I"⟩, 43), (⟨"LearnedCountModel", "is", "(IIIII)Z"⟩, 43)]
theorem lw_r3 : ∀ q ∈ lw_privs_3, lw_okq q := List.forall_mem_cons.mpr ⟨lw_p32, List.forall_mem_cons.mpr ⟨lw_p33, List.forall_mem_cons.mpr ⟨lw_p34, List.forall_mem_cons.mpr ⟨lw_p35, List.forall_mem_cons.mpr ⟨lw_p36, List.forall_mem_cons.mpr ⟨lw_p37, List.forall_mem_cons.mpr ⟨lw_p38, List.forall_mem_cons.mpr ⟨lw_p39, List.forall_mem_cons.mpr ⟨lw_p40, List.forall_mem_cons.mpr ⟨lw_p41, List.forall_mem_cons.mpr ⟨lw_p42, List.forall_mem_cons.mpr ⟨lw_p43, List.forall_mem_cons.mpr ⟨lw_p44, List.forall_mem_cons.mpr ⟨lw_p45, List.forall_mem_cons.mpr ⟨lw_p46, List.forall_mem_cons.mpr ⟨lw_p47, fun _ h => absurd h List.not_mem_nil⟩⟩⟩⟩⟩⟩⟩⟩⟩⟩⟩⟩⟩⟩⟩⟩
theorem lw_p48 : lw_okq (⟨"LearnedCountModel", "goesOn", "(IIII)Z"⟩, 43) := ⟨⟨by decide +kernel, by decide +kernel⟩, List.mem_of_getElem? (i := 1011) (by decide +kernel), List.mem_of_getElem? (i := 1233) (by decide +kernel), List.mem_of_getElem? (i := 1234) (by decide +kernel)⟩
theorem lw_p49 : lw_okq (⟨"LearnedCountModel", "ruleNameNow", "()I"⟩, 43) := ⟨⟨by decide +kernel, by decide +kernel⟩, List.mem_of_getElem? (i := 1011) (by decide +kernel), List.mem_of_getElem? (i := 1237) (by decide +kernel), List.mem_of_getElem? (i := 1238) (by decide +kernel)⟩
theorem lw_p50 : lw_okq (⟨"LearnedCountModel", "readNumber", "(II)I"⟩, 43) := ⟨⟨by decide +kernel, by decide +kernel⟩, List.mem_of_getElem? (i := 1011) (by decide +kernel), List.mem_of_getElem? (i := 1242) (by decide +kernel), List.mem_of_getElem? (i := 1243) (by decide +kernel)⟩
theorem lw_p51 : lw_okq (⟨"LearnedCountModel", "isNumber", "(II)V"⟩, 43) := ⟨⟨by decide +kernel, by decide +kernel⟩, List.mem_of_getElem? (i := 1011) (by decide +kernel), List.mem_of_getElem? (i := 1246) (by decide +kernel), List.mem_of_getElem? (i := 1247) (by decide +kernel)⟩
theorem lw_p52 : lw_okq (⟨"LearnedCountModel", "readCopies", "()V"⟩, 43) := ⟨⟨by decide +kernel, by decide +kernel⟩, List.mem_of_getElem? (i := 1011) (by decide +kernel), List.mem_of_getElem? (i := 1250) (by decide +kernel), List.mem_of_getElem? (i := 1251) (by decide +kernel)⟩
theorem lw_p53 : lw_okq (⟨"LearnedCountModel", "readWord", "(I)V"⟩, 43) := ⟨⟨by decide +kernel, by decide +kernel⟩, List.mem_of_getElem? (i := 1011) (by decide +kernel), List.mem_of_getElem? (i := 1254) (by decide +kernel), List.mem_of_getElem? (i := 1255) (by decide +kernel)⟩
theorem lw_p54 : lw_okq (⟨"LearnedCountModel", "readDoctor", "()I"⟩, 43) := ⟨⟨by decide +kernel, by decide +kernel⟩, List.mem_of_getElem? (i := 1011) (by decide +kernel), List.mem_of_getElem? (i := 1258) (by decide +kernel), List.mem_of_getElem? (i := 1259) (by decide +kernel)⟩
theorem lw_p55 : lw_okq (⟨"LearnedCountModel", "readMarks", "(I)I"⟩, 43) := ⟨⟨by decide +kernel, by decide +kernel⟩, List.mem_of_getElem? (i := 1011) (by decide +kernel), List.mem_of_getElem? (i := 1263) (by decide +kernel), List.mem_of_getElem? (i := 1264) (by decide +kernel)⟩
theorem lw_p56 : lw_okq (⟨"LearnedCountModel", "letters", "(II)I"⟩, 43) := ⟨⟨by decide +kernel, by decide +kernel⟩, List.mem_of_getElem? (i := 1011) (by decide +kernel), List.mem_of_getElem? (i := 1267) (by decide +kernel), List.mem_of_getElem? (i := 1268) (by decide +kernel)⟩
theorem lw_p57 : lw_okq (⟨"LearnedCountModel", "readAnswer", "()I"⟩, 43) := ⟨⟨by decide +kernel, by decide +kernel⟩, List.mem_of_getElem? (i := 1011) (by decide +kernel), List.mem_of_getElem? (i := 1271) (by decide +kernel), List.mem_of_getElem? (i := 1272) (by decide +kernel)⟩
theorem lw_p58 : lw_okq (⟨"LearnedCountModel", "endLine", "()V"⟩, 43) := ⟨⟨by decide +kernel, by decide +kernel⟩, List.mem_of_getElem? (i := 1011) (by decide +kernel), List.mem_of_getElem? (i := 1276) (by decide +kernel), List.mem_of_getElem? (i := 1277) (by decide +kernel)⟩
theorem lw_p59 : lw_okq (⟨"LearnedCountModel", "checks", "()V"⟩, 43) := ⟨⟨by decide +kernel, by decide +kernel⟩, List.mem_of_getElem? (i := 1011) (by decide +kernel), List.mem_of_getElem? (i := 1280) (by decide +kernel), List.mem_of_getElem? (i := 1281) (by decide +kernel)⟩
theorem lw_p60 : lw_okq (⟨"LearnedCountModel", "readRule", "()V"⟩, 43) := ⟨⟨by decide +kernel, by decide +kernel⟩, List.mem_of_getElem? (i := 1011) (by decide +kernel), List.mem_of_getElem? (i := 1288) (by decide +kernel), List.mem_of_getElem? (i := 1289) (by decide +kernel)⟩
theorem lw_p61 : lw_okq (⟨"LearnedCountModel", "readMain", "()I"⟩, 43) := ⟨⟨by decide +kernel, by decide +kernel⟩, List.mem_of_getElem? (i := 1011) (by decide +kernel), List.mem_of_getElem? (i := 1295) (by decide +kernel), List.mem_of_getElem? (i := 1296) (by decide +kernel)⟩
theorem lw_p62 : lw_okq (⟨"LearnedCountModel", "oneOf", "(IIIIII)I"⟩, 43) := ⟨⟨by decide +kernel, by decide +kernel⟩, List.mem_of_getElem? (i := 1011) (by decide +kernel), List.mem_of_getElem? (i := 1299) (by decide +kernel), List.mem_of_getElem? (i := 1300) (by decide +kernel)⟩
theorem lw_p63 : lw_okq (⟨"LearnedCountModel", "isWord", "(I)Z"⟩, 43) := ⟨⟨by decide +kernel, by decide +kernel⟩, List.mem_of_getElem? (i := 1011) (by decide +kernel), List.mem_of_getElem? (i := 1316) (by decide +kernel), List.mem_of_getElem? (i := 1317) (by decide +kernel)⟩
def lw_privs_4 : List (MethodName × Nat) := [(⟨"LearnedCountModel", "goesOn", "(IIII)Z"⟩, 43), (⟨"LearnedCountModel", "ruleNameNow", "()I"⟩, 43), (⟨"LearnedCountModel", "readNumber", "(II)I"⟩, 43), (⟨"LearnedCountModel", "isNumber", "(II)V"⟩, 43), (⟨"LearnedCountModel", "readCopies", "()V"⟩, 43), (⟨"LearnedCountModel", "readWord", "(I)V"⟩, 43), (⟨"LearnedCountModel", "readDoctor", "()I"⟩, 43), (⟨"LearnedCountModel", "readMarks", "(I)I"⟩, 43), (⟨"LearnedCountModel", "letters", "(II)I"⟩, 43), (⟨"LearnedCountModel", "readAnswer", "()I"⟩, 43), (⟨"LearnedCountModel", "endLine", "()V"⟩, 43), (⟨"LearnedCountModel", "checks", "()V"⟩, 43), (⟨"LearnedCountModel", "readRule", "()V"⟩, 43), (⟨"LearnedCountModel", "readMain", "()I"⟩, 43), (⟨"LearnedCountModel", "oneOf", "(IIIIII)I"⟩, 43), (⟨"LearnedCountModel", "isWord", "(I)Z"⟩, 43)]
theorem lw_r4 : ∀ q ∈ lw_privs_4, lw_okq q := List.forall_mem_cons.mpr ⟨lw_p48, List.forall_mem_cons.mpr ⟨lw_p49, List.forall_mem_cons.mpr ⟨lw_p50, List.forall_mem_cons.mpr ⟨lw_p51, List.forall_mem_cons.mpr ⟨lw_p52, List.forall_mem_cons.mpr ⟨lw_p53, List.forall_mem_cons.mpr ⟨lw_p54, List.forall_mem_cons.mpr ⟨lw_p55, List.forall_mem_cons.mpr ⟨lw_p56, List.forall_mem_cons.mpr ⟨lw_p57, List.forall_mem_cons.mpr ⟨lw_p58, List.forall_mem_cons.mpr ⟨lw_p59, List.forall_mem_cons.mpr ⟨lw_p60, List.forall_mem_cons.mpr ⟨lw_p61, List.forall_mem_cons.mpr ⟨lw_p62, List.forall_mem_cons.mpr ⟨lw_p63, fun _ h => absurd h List.not_mem_nil⟩⟩⟩⟩⟩⟩⟩⟩⟩⟩⟩⟩⟩⟩⟩⟩
theorem lw_p64 : lw_okq (⟨"LearnedCountModel", "weightOf", "(I)I"⟩, 43) := ⟨⟨by decide +kernel, by decide +kernel⟩, List.mem_of_getElem? (i := 1011) (by decide +kernel), List.mem_of_getElem? (i := 1321) (by decide +kernel), List.mem_of_getElem? (i := 1322) (by decide +kernel)⟩
theorem lw_p65 : lw_okq (⟨"LearnedCountModel", "counts", "(I)Z"⟩, 43) := ⟨⟨by decide +kernel, by decide +kernel⟩, List.mem_of_getElem? (i := 1011) (by decide +kernel), List.mem_of_getElem? (i := 1344) (by decide +kernel), List.mem_of_getElem? (i := 1345) (by decide +kernel)⟩
theorem lw_p66 : lw_okq (⟨"LearnedCountModel", "findEach", "()V"⟩, 43) := ⟨⟨by decide +kernel, by decide +kernel⟩, List.mem_of_getElem? (i := 1011) (by decide +kernel), List.mem_of_getElem? (i := 1363) (by decide +kernel), List.mem_of_getElem? (i := 1364) (by decide +kernel)⟩
theorem lw_p67 : lw_okq (⟨"LearnedCountModel", "findOne", "(I)V"⟩, 43) := ⟨⟨by decide +kernel, by decide +kernel⟩, List.mem_of_getElem? (i := 1011) (by decide +kernel), List.mem_of_getElem? (i := 1367) (by decide +kernel), List.mem_of_getElem? (i := 1368) (by decide +kernel)⟩
theorem lw_p68 : lw_okq (⟨"LearnedCountModel", "ofTwo", "(II)I"⟩, 43) := ⟨⟨by decide +kernel, by decide +kernel⟩, List.mem_of_getElem? (i := 1011) (by decide +kernel), List.mem_of_getElem? (i := 1372) (by decide +kernel), List.mem_of_getElem? (i := 1373) (by decide +kernel)⟩
theorem lw_p69 : lw_okq (⟨"LearnedCountModel", "findAll", "()V"⟩, 43) := ⟨⟨by decide +kernel, by decide +kernel⟩, List.mem_of_getElem? (i := 1011) (by decide +kernel), List.mem_of_getElem? (i := 1394) (by decide +kernel), List.mem_of_getElem? (i := 1395) (by decide +kernel)⟩
theorem lw_p70 : lw_okq (⟨"LearnedCountModel", "findHeld", "()V"⟩, 43) := ⟨⟨by decide +kernel, by decide +kernel⟩, List.mem_of_getElem? (i := 1011) (by decide +kernel), List.mem_of_getElem? (i := 1398) (by decide +kernel), List.mem_of_getElem? (i := 1399) (by decide +kernel)⟩
theorem lw_p71 : lw_okq (⟨"LearnedCountModel", "lawOf", "(I)I"⟩, 43) := ⟨⟨by decide +kernel, by decide +kernel⟩, List.mem_of_getElem? (i := 1011) (by decide +kernel), List.mem_of_getElem? (i := 1402) (by decide +kernel), List.mem_of_getElem? (i := 1403) (by decide +kernel)⟩
theorem lw_p72 : lw_okq (⟨"LearnedCountModel", "keepHeld", "()V"⟩, 43) := ⟨⟨by decide +kernel, by decide +kernel⟩, List.mem_of_getElem? (i := 1011) (by decide +kernel), List.mem_of_getElem? (i := 1406) (by decide +kernel), List.mem_of_getElem? (i := 1407) (by decide +kernel)⟩
theorem lw_p73 : lw_okq (⟨"LearnedCountModel", "findChanged", "()V"⟩, 43) := ⟨⟨by decide +kernel, by decide +kernel⟩, List.mem_of_getElem? (i := 1011) (by decide +kernel), List.mem_of_getElem? (i := 1410) (by decide +kernel), List.mem_of_getElem? (i := 1411) (by decide +kernel)⟩
theorem lw_p74 : lw_okq (⟨"LearnedCountModel", "areAsked", "(I)Z"⟩, 43) := ⟨⟨by decide +kernel, by decide +kernel⟩, List.mem_of_getElem? (i := 1011) (by decide +kernel), List.mem_of_getElem? (i := 1422) (by decide +kernel), List.mem_of_getElem? (i := 1423) (by decide +kernel)⟩
theorem lw_p75 : lw_okq (⟨"LearnedCountModel", "findGame", "(I)V"⟩, 43) := ⟨⟨by decide +kernel, by decide +kernel⟩, List.mem_of_getElem? (i := 1011) (by decide +kernel), List.mem_of_getElem? (i := 1462) (by decide +kernel), List.mem_of_getElem? (i := 1463) (by decide +kernel)⟩
theorem lw_p76 : lw_okq (⟨"LearnedCountModel", "bestTurn", "(III)I"⟩, 43) := ⟨⟨by decide +kernel, by decide +kernel⟩, List.mem_of_getElem? (i := 1011) (by decide +kernel), List.mem_of_getElem? (i := 1466) (by decide +kernel), List.mem_of_getElem? (i := 1467) (by decide +kernel)⟩
theorem lw_p77 : lw_okq (⟨"LearnedCountModel", "turnsBy", "(III)I"⟩, 43) := ⟨⟨by decide +kernel, by decide +kernel⟩, List.mem_of_getElem? (i := 1011) (by decide +kernel), List.mem_of_getElem? (i := 1474) (by decide +kernel), List.mem_of_getElem? (i := 1475) (by decide +kernel)⟩
def lw_privs_5 : List (MethodName × Nat) := [(⟨"LearnedCountModel", "weightOf", "(I)I"⟩, 43), (⟨"LearnedCountModel", "counts", "(I)Z"⟩, 43), (⟨"LearnedCountModel", "findEach", "()V"⟩, 43), (⟨"LearnedCountModel", "findOne", "(I)V"⟩, 43), (⟨"LearnedCountModel", "ofTwo", "(II)I"⟩, 43), (⟨"LearnedCountModel", "findAll", "()V"⟩, 43), (⟨"LearnedCountModel", "findHeld", "()V"⟩, 43), (⟨"LearnedCountModel", "lawOf", "(I)I"⟩, 43), (⟨"LearnedCountModel", "keepHeld", "()V"⟩, 43), (⟨"LearnedCountModel", "findChanged", "()V"⟩, 43), (⟨"LearnedCountModel", "areAsked", "(I)Z"⟩, 43), (⟨"LearnedCountModel", "findGame", "(I)V"⟩, 43), (⟨"LearnedCountModel", "bestTurn", "(III)I"⟩, 43), (⟨"LearnedCountModel", "turnsBy", "(III)I"⟩, 43)]
theorem lw_r5 : ∀ q ∈ lw_privs_5, lw_okq q := List.forall_mem_cons.mpr ⟨lw_p64, List.forall_mem_cons.mpr ⟨lw_p65, List.forall_mem_cons.mpr ⟨lw_p66, List.forall_mem_cons.mpr ⟨lw_p67, List.forall_mem_cons.mpr ⟨lw_p68, List.forall_mem_cons.mpr ⟨lw_p69, List.forall_mem_cons.mpr ⟨lw_p70, List.forall_mem_cons.mpr ⟨lw_p71, List.forall_mem_cons.mpr ⟨lw_p72, List.forall_mem_cons.mpr ⟨lw_p73, List.forall_mem_cons.mpr ⟨lw_p74, List.forall_mem_cons.mpr ⟨lw_p75, List.forall_mem_cons.mpr ⟨lw_p76, List.forall_mem_cons.mpr ⟨lw_p77, fun _ h => absurd h List.not_mem_nil⟩⟩⟩⟩⟩⟩⟩⟩⟩⟩⟩⟩⟩⟩
def lw_privs : List (MethodName × Nat) := lw_privs_1 ++ (lw_privs_2 ++ (lw_privs_3 ++ (lw_privs_4 ++ (lw_privs_5))))
def lw_tbl : List Cond := k2_sels lw_privs ++ tables_1
theorem lw_privs_ok : ∀ q ∈ lw_privs, lw_okq q := by
  show ∀ q ∈ lw_privs_1 ++ (lw_privs_2 ++ (lw_privs_3 ++ (lw_privs_4 ++ (lw_privs_5)))), lw_okq q
  exact List.forall_mem_append.mpr ⟨lw_r1, List.forall_mem_append.mpr ⟨lw_r2, List.forall_mem_append.mpr ⟨lw_r3, List.forall_mem_append.mpr ⟨lw_r4, lw_r5⟩⟩⟩⟩
/-- the words that keep: any method may be handed them all -/
def TG : List Cond := lw_tbl.filter goodWord
theorem TG_good : GoodIn TG TG := fun w h => ⟨h, good_of_word (List.mem_filter.mp h).2⟩
theorem TG_sub : ∀ w ∈ TG, w ∈ lw_tbl := fun w h => (List.mem_filter.mp h).1
theorem TG_at (i : Nat) {w : Cond} (h : lw_tbl[i]? = some w) (g : goodWord w = true) : w ∈ TG := List.mem_filter.mpr ⟨List.mem_of_getElem? h, g⟩
theorem TG_all {C : String} {T : u_T} {N : Nat} (ps : List Nat) (h : (u_ws C T N).map some = ps.map (fun i => lw_tbl[i]?)) (g : (u_ws C T N).all goodWord = true) : ∀ w ∈ u_ws C T N, w ∈ TG := by
  intro w hw
  have h1 : some w ∈ (u_ws C T N).map some := List.mem_map.mpr ⟨w, hw, rfl⟩
  rw [h] at h1
  obtain ⟨i, -, hi⟩ := List.mem_map.mp h1
  exact TG_at i hi (List.all_eq_true.mp g w hw)
end
section
def cT0 : u_T := fun k => match k with
  | 0 => ("LearnedCount$Finding", "weighing", "LLearnedCount$Weighing;", true)
  | _ => ("LearnedCount$Finding", "turned", "[I", true)
def cY0 : Nat → FieldType := fun k => match k with
  | 0 => (.object "LearnedCount$Weighing")
  | _ => (.array .int)
theorem cN0 : ∀ a, a < 2 → ∀ b, b < 2 → a ≠ b → (cT0 a).2.1 ≠ (cT0 b).2.1 := by decide +kernel
theorem cP0 : ∀ k, k < 2 → parseFieldDescriptor (cT0 k).2.2.1 = some (cY0 k) := by decide +kernel
theorem cI0 : ∀ w ∈ u_ws "LearnedCount$Finding" cT0 2, w ∈ TG := TG_all [500, 502] (by decide +kernel) (by decide +kernel)
def cT1 : u_T := fun k => match k with
  | 0 => ("LearnedCount$Library", "all", "[LLearnedCount$Word;", true)
  | 1 => ("LearnedCount$Library", "size", "I", false)
  | 2 => ("LearnedCount$Library", "copiesOf", "[I", true)
  | 3 => ("LearnedCount$Library", "yesIn", "[I", true)
  | 4 => ("LearnedCount$Library", "noIn", "[I", true)
  | 5 => ("LearnedCount$Library", "latestLaw", "[I", true)
  | 6 => ("LearnedCount$Library", "firstLaw", "[I", true)
  | 7 => ("LearnedCount$Library", "ofDoctor", "[I", true)
  | 8 => ("LearnedCount$Library", "inBook", "[I", true)
  | 9 => ("LearnedCount$Library", "ofWeight", "[I", true)
  | 10 => ("LearnedCount$Library", "lawWords", "I", false)
  | 11 => ("LearnedCount$Library", "noteWords", "I", false)
  | 12 => ("LearnedCount$Library", "inRing", "I", false)
  | 13 => ("LearnedCount$Library", "unsound", "I", false)
  | 14 => ("LearnedCount$Library", "followed", "[I", true)
  | _ => ("LearnedCount$Library", "reached", "[I", true)
def cY1 : Nat → FieldType := fun k => match k with
  | 0 => (.array (.object "LearnedCount$Word"))
  | 1 => .int
  | 2 => (.array .int)
  | 3 => (.array .int)
  | 4 => (.array .int)
  | 5 => (.array .int)
  | 6 => (.array .int)
  | 7 => (.array .int)
  | 8 => (.array .int)
  | 9 => (.array .int)
  | 10 => .int
  | 11 => .int
  | 12 => .int
  | 13 => .int
  | 14 => (.array .int)
  | _ => (.array .int)
theorem cN1 : ∀ a, a < 16 → ∀ b, b < 16 → a ≠ b → (cT1 a).2.1 ≠ (cT1 b).2.1 := by decide +kernel
theorem cP1 : ∀ k, k < 16 → parseFieldDescriptor (cT1 k).2.2.1 = some (cY1 k) := by decide +kernel
theorem cI1 : ∀ w ∈ u_ws "LearnedCount$Library" cT1 16, w ∈ TG := TG_all [362, 364, 366, 368, 370, 372, 374, 376, 378, 380, 382, 384, 386, 388, 390, 392] (by decide +kernel) (by decide +kernel)
def cT2 : u_T := fun k => match k with
  | 0 => ("LearnedCount$LibraryReader", "tokens", "LLearnedCount$Tokens;", true)
  | _ => ("LearnedCount$LibraryReader", "book", "I", false)
def cY2 : Nat → FieldType := fun k => match k with
  | 0 => (.object "LearnedCount$Tokens")
  | _ => .int
theorem cN2 : ∀ a, a < 2 → ∀ b, b < 2 → a ≠ b → (cT2 a).2.1 ≠ (cT2 b).2.1 := by decide +kernel
theorem cP2 : ∀ k, k < 2 → parseFieldDescriptor (cT2 k).2.2.1 = some (cY2 k) := by decide +kernel
theorem cI2 : ∀ w ∈ u_ws "LearnedCount$LibraryReader" cT2 2, w ∈ TG := TG_all [165, 167] (by decide +kernel) (by decide +kernel)
def cT3 : u_T := fun k => match k with
  | 0 => ("LearnedCount$Rule", "main", "I", false)
  | 1 => ("LearnedCount$Rule", "fewestCopies", "I", false)
  | 2 => ("LearnedCount$Rule", "notes", "Z", false)
  | 3 => ("LearnedCount$Rule", "two", "I", false)
  | 4 => ("LearnedCount$Rule", "head", "I", false)
  | 5 => ("LearnedCount$Rule", "silent", "I", false)
  | _ => ("LearnedCount$Rule", "laws", "I", false)
def cY3 : Nat → FieldType := fun k => match k with
  | 0 => .int
  | 1 => .int
  | 2 => .boolean
  | 3 => .int
  | 4 => .int
  | 5 => .int
  | _ => .int
theorem cN3 : ∀ a, a < 7 → ∀ b, b < 7 → a ≠ b → (cT3 a).2.1 ≠ (cT3 b).2.1 := by decide +kernel
theorem cP3 : ∀ k, k < 7 → parseFieldDescriptor (cT3 k).2.2.1 = some (cY3 k) := by decide +kernel
theorem cI3 : ∀ w ∈ u_ws "LearnedCount$Rule" cT3 7, w ∈ TG := TG_all [432, 434, 436, 438, 440, 442, 444] (by decide +kernel) (by decide +kernel)
def cT4 : u_T := fun k => match k with
  | _ => ("LearnedCount$RuleReader", "tokens", "LLearnedCount$Tokens;", true)
def cY4 : Nat → FieldType := fun k => match k with
  | _ => (.object "LearnedCount$Tokens")
theorem cN4 : ∀ a, a < 1 → ∀ b, b < 1 → a ≠ b → (cT4 a).2.1 ≠ (cT4 b).2.1 := by decide +kernel
theorem cP4 : ∀ k, k < 1 → parseFieldDescriptor (cT4 k).2.2.1 = some (cY4 k) := by decide +kernel
theorem cI4 : ∀ w ∈ u_ws "LearnedCount$RuleReader" cT4 1, w ∈ TG := TG_all [177] (by decide +kernel) (by decide +kernel)
def cT5 : u_T := fun k => match k with
  | 0 => ("LearnedCount$Sheet", "cells", "[I", true)
  | 1 => ("LearnedCount$Sheet", "lane", "I", false)
  | _ => ("LearnedCount$Sheet", "size", "I", false)
def cY5 : Nat → FieldType := fun k => match k with
  | 0 => (.array .int)
  | 1 => .int
  | _ => .int
theorem cN5 : ∀ a, a < 3 → ∀ b, b < 3 → a ≠ b → (cT5 a).2.1 ≠ (cT5 b).2.1 := by decide +kernel
theorem cP5 : ∀ k, k < 3 → parseFieldDescriptor (cT5 k).2.2.1 = some (cY5 k) := by decide +kernel
theorem cI5 : ∀ w ∈ u_ws "LearnedCount$Sheet" cT5 3, w ∈ TG := TG_all [518, 520, 522] (by decide +kernel) (by decide +kernel)
def cT6 : u_T := fun k => match k with
  | 0 => ("LearnedCount$Tape", "bytes", "[B", true)
  | _ => ("LearnedCount$Tape", "length", "I", false)
def cY6 : Nat → FieldType := fun k => match k with
  | 0 => (.array .byte)
  | _ => .int
theorem cN6 : ∀ a, a < 2 → ∀ b, b < 2 → a ≠ b → (cT6 a).2.1 ≠ (cT6 b).2.1 := by decide +kernel
theorem cP6 : ∀ k, k < 2 → parseFieldDescriptor (cT6 k).2.2.1 = some (cY6 k) := by decide +kernel
theorem cI6 : ∀ w ∈ u_ws "LearnedCount$Tape" cT6 2, w ∈ TG := TG_all [116, 118] (by decide +kernel) (by decide +kernel)
def cT7 : u_T := fun k => match k with
  | 0 => ("LearnedCount$Tokens", "tape", "LLearnedCount$Tape;", true)
  | 1 => ("LearnedCount$Tokens", "kind", "I", false)
  | 2 => ("LearnedCount$Tokens", "start", "I", false)
  | 3 => ("LearnedCount$Tokens", "behind", "I", false)
  | 4 => ("LearnedCount$Tokens", "number", "I", false)
  | 5 => ("LearnedCount$Tokens", "fault", "I", false)
  | _ => ("LearnedCount$Tokens", "place", "I", false)
def cY7 : Nat → FieldType := fun k => match k with
  | 0 => (.object "LearnedCount$Tape")
  | 1 => .int
  | 2 => .int
  | 3 => .int
  | 4 => .int
  | 5 => .int
  | _ => .int
theorem cN7 : ∀ a, a < 7 → ∀ b, b < 7 → a ≠ b → (cT7 a).2.1 ≠ (cT7 b).2.1 := by decide +kernel
theorem cP7 : ∀ k, k < 7 → parseFieldDescriptor (cT7 k).2.2.1 = some (cY7 k) := by decide +kernel
theorem cI7 : ∀ w ∈ u_ws "LearnedCount$Tokens" cT7 7, w ∈ TG := TG_all [142, 144, 146, 148, 150, 152, 154] (by decide +kernel) (by decide +kernel)
def cT8 : u_T := fun k => match k with
  | 0 => ("LearnedCount$Weighing", "library", "LLearnedCount$Library;", false)
  | 1 => ("LearnedCount$Weighing", "rule", "LLearnedCount$Rule;", false)
  | 2 => ("LearnedCount$Weighing", "counting", "I", false)
  | 3 => ("LearnedCount$Weighing", "opinions", "[I", true)
  | 4 => ("LearnedCount$Weighing", "weighed", "I", false)
  | 5 => ("LearnedCount$Weighing", "law", "I", false)
  | 6 => ("LearnedCount$Weighing", "yes", "I", false)
  | 7 => ("LearnedCount$Weighing", "no", "I", false)
  | 8 => ("LearnedCount$Weighing", "by", "I", false)
  | _ => ("LearnedCount$Weighing", "held", "I", false)
def cY8 : Nat → FieldType := fun k => match k with
  | 0 => (.object "LearnedCount$Library")
  | 1 => (.object "LearnedCount$Rule")
  | 2 => .int
  | 3 => (.array .int)
  | 4 => .int
  | 5 => .int
  | 6 => .int
  | 7 => .int
  | 8 => .int
  | _ => .int
theorem cN8 : ∀ a, a < 10 → ∀ b, b < 10 → a ≠ b → (cT8 a).2.1 ≠ (cT8 b).2.1 := by decide +kernel
theorem cP8 : ∀ k, k < 10 → parseFieldDescriptor (cT8 k).2.2.1 = some (cY8 k) := by decide +kernel
theorem cI8 : ∀ w ∈ u_ws "LearnedCount$Weighing" cT8 10, w ∈ TG := TG_all [470, 472, 474, 476, 478, 480, 482, 484, 486, 488] (by decide +kernel) (by decide +kernel)
def cT9 : u_T := fun k => match k with
  | 0 => ("LearnedCount$Word", "kind", "I", false)
  | 1 => ("LearnedCount$Word", "doctor", "I", false)
  | 2 => ("LearnedCount$Word", "book", "I", false)
  | 3 => ("LearnedCount$Word", "with", "I", false)
  | 4 => ("LearnedCount$Word", "without", "I", false)
  | 5 => ("LearnedCount$Word", "answer", "I", false)
  | 6 => ("LearnedCount$Word", "follows", "I", false)
  | 7 => ("LearnedCount$Word", "place", "I", false)
  | 8 => ("LearnedCount$Word", "day", "I", false)
  | 9 => ("LearnedCount$Word", "weight", "I", false)
  | _ => ("LearnedCount$Word", "stepsToEnd", "I", false)
def cY9 : Nat → FieldType := fun k => match k with
  | 0 => .int
  | 1 => .int
  | 2 => .int
  | 3 => .int
  | 4 => .int
  | 5 => .int
  | 6 => .int
  | 7 => .int
  | 8 => .int
  | 9 => .int
  | _ => .int
theorem cN9 : ∀ a, a < 11 → ∀ b, b < 11 → a ≠ b → (cT9 a).2.1 ≠ (cT9 b).2.1 := by decide +kernel
theorem cP9 : ∀ k, k < 11 → parseFieldDescriptor (cT9 k).2.2.1 = some (cY9 k) := by decide +kernel
theorem cI9 : ∀ w ∈ u_ws "LearnedCount$Word" cT9 11, w ∈ TG := TG_all [232, 234, 236, 238, 240, 242, 244, 246, 248, 250, 252] (by decide +kernel) (by decide +kernel)
def cT10 : u_T := fun k => match k with
  | 0 => ("LearnedCount", "tape", "LLearnedCount$Tape;", true)
  | 1 => ("LearnedCount", "tokens", "LLearnedCount$Tokens;", true)
  | 2 => ("LearnedCount", "libraryReader", "LLearnedCount$LibraryReader;", true)
  | 3 => ("LearnedCount", "ruleReader", "LLearnedCount$RuleReader;", true)
  | 4 => ("LearnedCount", "theLibrary", "LLearnedCount$Library;", false)
  | 5 => ("LearnedCount", "spareLibrary", "LLearnedCount$Library;", false)
  | 6 => ("LearnedCount", "theRule", "LLearnedCount$Rule;", false)
  | 7 => ("LearnedCount", "otherRule", "LLearnedCount$Rule;", false)
  | 8 => ("LearnedCount", "spareRule", "LLearnedCount$Rule;", false)
  | 9 => ("LearnedCount", "brought", "I", false)
  | 10 => ("LearnedCount", "latestFault", "I", false)
  | 11 => ("LearnedCount", "weighing", "LLearnedCount$Weighing;", true)
  | 12 => ("LearnedCount", "finding", "LLearnedCount$Finding;", true)
  | _ => ("LearnedCount", "sheets", "[LLearnedCount$Sheet;", true)
def cY10 : Nat → FieldType := fun k => match k with
  | 0 => (.object "LearnedCount$Tape")
  | 1 => (.object "LearnedCount$Tokens")
  | 2 => (.object "LearnedCount$LibraryReader")
  | 3 => (.object "LearnedCount$RuleReader")
  | 4 => (.object "LearnedCount$Library")
  | 5 => (.object "LearnedCount$Library")
  | 6 => (.object "LearnedCount$Rule")
  | 7 => (.object "LearnedCount$Rule")
  | 8 => (.object "LearnedCount$Rule")
  | 9 => .int
  | 10 => .int
  | 11 => (.object "LearnedCount$Weighing")
  | 12 => (.object "LearnedCount$Finding")
  | _ => (.array (.object "LearnedCount$Sheet"))
theorem cN10 : ∀ a, a < 14 → ∀ b, b < 14 → a ≠ b → (cT10 a).2.1 ≠ (cT10 b).2.1 := by decide +kernel
theorem cP10 : ∀ k, k < 14 → parseFieldDescriptor (cT10 k).2.2.1 = some (cY10 k) := by decide +kernel
theorem cI10 : ∀ w ∈ u_ws "LearnedCount" cT10 14, w ∈ TG := TG_all [539, 541, 543, 545, 547, 549, 551, 553, 555, 557, 559, 561, 563, 565] (by decide +kernel) (by decide +kernel)
def cT11 : u_T := fun k => match k with
  | 0 => ("LearnedCountModel", "words", "I", false)
  | 1 => ("LearnedCountModel", "told", "[I", true)
  | 2 => ("LearnedCountModel", "copy", "[I", true)
  | 3 => ("LearnedCountModel", "dWords", "I", false)
  | 4 => ("LearnedCountModel", "dTold", "[I", true)
  | 5 => ("LearnedCountModel", "dCopy", "[I", true)
  | 6 => ("LearnedCountModel", "isCopied", "[Z", true)
  | 7 => ("LearnedCountModel", "followsAt", "[I", true)
  | 8 => ("LearnedCountModel", "inBook", "I", false)
  | 9 => ("LearnedCountModel", "brought", "I", false)
  | 10 => ("LearnedCountModel", "tape", "[I", true)
  | 11 => ("LearnedCountModel", "taped", "I", false)
  | 12 => ("LearnedCountModel", "pos", "I", false)
  | 13 => ("LearnedCountModel", "from", "I", false)
  | 14 => ("LearnedCountModel", "sort", "I", false)
  | 15 => ("LearnedCountModel", "value", "I", false)
  | 16 => ("LearnedCountModel", "fault", "I", false)
  | 17 => ("LearnedCountModel", "wrongAt", "I", false)
  | 18 => ("LearnedCountModel", "rules", "[I", true)
  | 19 => ("LearnedCountModel", "others", "[I", true)
  | 20 => ("LearnedCountModel", "draft", "[I", true)
  | 21 => ("LearnedCountModel", "isTold", "[Z", true)
  | 22 => ("LearnedCountModel", "follows", "[I", true)
  | 23 => ("LearnedCountModel", "rings", "I", false)
  | 24 => ("LearnedCountModel", "unsound", "I", false)
  | 25 => ("LearnedCountModel", "sayYes", "[J", true)
  | 26 => ("LearnedCountModel", "sayNo", "[J", true)
  | 27 => ("LearnedCountModel", "eachYes", "[J", true)
  | 28 => ("LearnedCountModel", "eachNo", "[J", true)
  | 29 => ("LearnedCountModel", "clashes", "[J", true)
  | 30 => ("LearnedCountModel", "held", "[I", true)
  | 31 => ("LearnedCountModel", "heldBy", "[I", true)
  | 32 => ("LearnedCountModel", "yesMany", "[I", true)
  | 33 => ("LearnedCountModel", "noMany", "[I", true)
  | 34 => ("LearnedCountModel", "wasHeld", "[I", true)
  | 35 => ("LearnedCountModel", "changedMany", "I", false)
  | 36 => ("LearnedCountModel", "changedFirst", "I", false)
  | 37 => ("LearnedCountModel", "ends", "[I", true)
  | 38 => ("LearnedCountModel", "best", "[I", true)
  | 39 => ("LearnedCountModel", "firstTurn", "I", false)
  | 40 => ("LearnedCountModel", "lanes", "[I", true)
  | 41 => ("LearnedCountModel", "sizes", "[I", true)
  | _ => ("LearnedCountModel", "cells", "[I", true)
def cY11 : Nat → FieldType := fun k => match k with
  | 0 => .int
  | 1 => (.array .int)
  | 2 => (.array .int)
  | 3 => .int
  | 4 => (.array .int)
  | 5 => (.array .int)
  | 6 => (.array .boolean)
  | 7 => (.array .int)
  | 8 => .int
  | 9 => .int
  | 10 => (.array .int)
  | 11 => .int
  | 12 => .int
  | 13 => .int
  | 14 => .int
  | 15 => .int
  | 16 => .int
  | 17 => .int
  | 18 => (.array .int)
  | 19 => (.array .int)
  | 20 => (.array .int)
  | 21 => (.array .boolean)
  | 22 => (.array .int)
  | 23 => .int
  | 24 => .int
  | 25 => (.array .long)
  | 26 => (.array .long)
  | 27 => (.array .long)
  | 28 => (.array .long)
  | 29 => (.array .long)
  | 30 => (.array .int)
  | 31 => (.array .int)
  | 32 => (.array .int)
  | 33 => (.array .int)
  | 34 => (.array .int)
  | 35 => .int
  | 36 => .int
  | 37 => (.array .int)
  | 38 => (.array .int)
  | 39 => .int
  | 40 => (.array .int)
  | 41 => (.array .int)
  | _ => (.array .int)
theorem cN11 : ∀ a, a < 43 → ∀ b, b < 43 → a ≠ b → (cT11 a).2.1 ≠ (cT11 b).2.1 := by decide +kernel
theorem cP11 : ∀ k, k < 43 → parseFieldDescriptor (cT11 k).2.2.1 = some (cY11 k) := by decide +kernel
theorem cI11 : ∀ w ∈ u_ws "LearnedCountModel" cT11 43, w ∈ TG := TG_all [1177, 1179, 1181, 1183, 1185, 1187, 1189, 1191, 1193, 1195, 1197, 1199, 1201, 1203, 1205, 1207, 1209, 1211, 1213, 1215, 1217, 1219, 1221, 1223, 1225, 1227, 1229, 1231, 1233, 1235, 1237, 1239, 1241, 1243, 1245, 1247, 1249, 1251, 1253, 1255, 1257, 1259, 1261] (by decide +kernel) (by decide +kernel)
def kC : Nat → String := fun c => match c with
  | 0 => "LearnedCount$Finding"
  | 1 => "LearnedCount$Library"
  | 2 => "LearnedCount$LibraryReader"
  | 3 => "LearnedCount$Rule"
  | 4 => "LearnedCount$RuleReader"
  | 5 => "LearnedCount$Sheet"
  | 6 => "LearnedCount$Tape"
  | 7 => "LearnedCount$Tokens"
  | 8 => "LearnedCount$Weighing"
  | 9 => "LearnedCount$Word"
  | 10 => "LearnedCount"
  | _ => "LearnedCountModel"
def kT : Nat → u_T := fun c => match c with
  | 0 => cT0
  | 1 => cT1
  | 2 => cT2
  | 3 => cT3
  | 4 => cT4
  | 5 => cT5
  | 6 => cT6
  | 7 => cT7
  | 8 => cT8
  | 9 => cT9
  | 10 => cT10
  | _ => cT11
def kY : Nat → Nat → FieldType := fun c => match c with
  | 0 => cY0
  | 1 => cY1
  | 2 => cY2
  | 3 => cY3
  | 4 => cY4
  | 5 => cY5
  | 6 => cY6
  | 7 => cY7
  | 8 => cY8
  | 9 => cY9
  | 10 => cY10
  | _ => cY11
def kN : Nat → Nat := fun c => match c with
  | 0 => 2
  | 1 => 16
  | 2 => 2
  | 3 => 7
  | 4 => 1
  | 5 => 3
  | 6 => 2
  | 7 => 7
  | 8 => 10
  | 9 => 11
  | 10 => 14
  | _ => 43
def KC : List vw_C := [("LearnedCount$Finding", cT0, 2), ("LearnedCount$Library", cT1, 16), ("LearnedCount$LibraryReader", cT2, 2), ("LearnedCount$Rule", cT3, 7), ("LearnedCount$RuleReader", cT4, 1), ("LearnedCount$Sheet", cT5, 3), ("LearnedCount$Tape", cT6, 2), ("LearnedCount$Tokens", cT7, 7), ("LearnedCount$Weighing", cT8, 10), ("LearnedCount$Word", cT9, 11), ("LearnedCount", cT10, 14), ("LearnedCountModel", cT11, 43)]
theorem k_c {c : Nat} (h : c < 12) : KC[c]? = some (kC c, kT c, kN c) := by
  match c, h with
  | 0, _ => rfl
  | 1, _ => rfl
  | 2, _ => rfl
  | 3, _ => rfl
  | 4, _ => rfl
  | 5, _ => rfl
  | 6, _ => rfl
  | 7, _ => rfl
  | 8, _ => rfl
  | 9, _ => rfl
  | 10, _ => rfl
  | 11, _ => rfl
theorem k_i {c : Nat} (h : c < 12) : ∀ w ∈ u_ws (kC c) (kT c) (kN c), w ∈ TG := by
  match c, h with
  | 0, _ => exact cI0
  | 1, _ => exact cI1
  | 2, _ => exact cI2
  | 3, _ => exact cI3
  | 4, _ => exact cI4
  | 5, _ => exact cI5
  | 6, _ => exact cI6
  | 7, _ => exact cI7
  | 8, _ => exact cI8
  | 9, _ => exact cI9
  | 10, _ => exact cI10
  | 11, _ => exact cI11
theorem k_n {c : Nat} (h : c < 12) : ∀ a, a < kN c → ∀ b, b < kN c → a ≠ b → (kT c a).2.1 ≠ (kT c b).2.1 := by
  match c, h with
  | 0, _ => exact cN0
  | 1, _ => exact cN1
  | 2, _ => exact cN2
  | 3, _ => exact cN3
  | 4, _ => exact cN4
  | 5, _ => exact cN5
  | 6, _ => exact cN6
  | 7, _ => exact cN7
  | 8, _ => exact cN8
  | 9, _ => exact cN9
  | 10, _ => exact cN10
  | 11, _ => exact cN11
theorem k_p {c : Nat} (h : c < 12) : ∀ k, k < kN c → parseFieldDescriptor (kT c k).2.2.1 = some (kY c k) := by
  match c, h with
  | 0, _ => exact cP0
  | 1, _ => exact cP1
  | 2, _ => exact cP2
  | 3, _ => exact cP3
  | 4, _ => exact cP4
  | 5, _ => exact cP5
  | 6, _ => exact cP6
  | 7, _ => exact cP7
  | 8, _ => exact cP8
  | 9, _ => exact cP9
  | 10, _ => exact cP10
  | 11, _ => exact cP11
theorem k_ins {c : Nat} (h : c < 12) : Cond.instantiable (kC c) (kN c) ∈ TG := by
  match c, h with
  | 0, _ => exact TG_at 492 (by decide +kernel) (by decide +kernel)
  | 1, _ => exact TG_at 181 (by decide +kernel) (by decide +kernel)
  | 2, _ => exact TG_at 158 (by decide +kernel) (by decide +kernel)
  | 3, _ => exact TG_at 396 (by decide +kernel) (by decide +kernel)
  | 4, _ => exact TG_at 171 (by decide +kernel) (by decide +kernel)
  | 5, _ => exact TG_at 507 (by decide +kernel) (by decide +kernel)
  | 6, _ => exact TG_at 108 (by decide +kernel) (by decide +kernel)
  | 7, _ => exact TG_at 123 (by decide +kernel) (by decide +kernel)
  | 8, _ => exact TG_at 448 (by decide +kernel) (by decide +kernel)
  | 9, _ => exact TG_at 188 (by decide +kernel) (by decide +kernel)
  | 10, _ => exact TG_at 100 (by decide +kernel) (by decide +kernel)
  | 11, _ => exact TG_at 1089 (by decide +kernel) (by decide +kernel)
theorem k_ini {c : Nat} (h : c < 12) : Cond.initialized (kC c) ∈ TG := by
  match c, h with
  | 0, _ => exact TG_at 90 (by decide +kernel) (by decide +kernel)
  | 1, _ => exact TG_at 84 (by decide +kernel) (by decide +kernel)
  | 2, _ => exact TG_at 82 (by decide +kernel) (by decide +kernel)
  | 3, _ => exact TG_at 88 (by decide +kernel) (by decide +kernel)
  | 4, _ => exact TG_at 83 (by decide +kernel) (by decide +kernel)
  | 5, _ => exact TG_at 91 (by decide +kernel) (by decide +kernel)
  | 6, _ => exact TG_at 80 (by decide +kernel) (by decide +kernel)
  | 7, _ => exact TG_at 81 (by decide +kernel) (by decide +kernel)
  | 8, _ => exact TG_at 89 (by decide +kernel) (by decide +kernel)
  | 9, _ => exact TG_at 85 (by decide +kernel) (by decide +kernel)
  | 10, _ => exact TG_at 79 (by decide +kernel) (by decide +kernel)
  | 11, _ => exact TG_at 92 (by decide +kernel) (by decide +kernel)
/-- arrays: kind ↦ (type, length) -/
def aK : Nat → Nat × Nat := fun k => match k with
  | 12 => (0, 24)
  | 13 => (0, 8)
  | 14 => (0, 64)
  | 15 => (0, 7)
  | 16 => (0, 1024)
  | 17 => (2, 400)
  | 18 => (4, 24)
  | 19 => (5, 4)
  | 20 => (0, 40)
  | 21 => (0, 250)
  | 22 => (0, 400)
  | 23 => (0, 25)
  | 24 => (3, 8)
  | 25 => (3, 7)
  | 26 => (1, 25)
  | 27 => (1, 8)
  | 28 => (0, 4)
  | 29 => (0, 160)
  | _ => (0, 256)
def aT : Nat → FieldType := fun t => match t with
  | 0 => .int
  | 1 => .long
  | 2 => .byte
  | 3 => .boolean
  | 4 => (.object "LearnedCount$Word")
  | _ => (.object "LearnedCount$Sheet")
def rK : Nat → Nat → Nat := fun c j => match c with
  | 0 => ([8, 16] : List Nat).getD j 0
  | 1 => ([18, 0, 13, 14, 14, 14, 14, 13, 13, 15, 0, 0, 0, 0, 12, 12] : List Nat).getD j 0
  | 2 => ([7, 0] : List Nat).getD j 0
  | 4 => ([7] : List Nat).getD j 0
  | 5 => ([20, 0, 0] : List Nat).getD j 0
  | 6 => ([17, 0] : List Nat).getD j 0
  | 7 => ([6, 0, 0, 0, 0, 0, 0] : List Nat).getD j 0
  | 8 => ([1, 3, 0, 13, 0, 0, 0, 0, 0, 0] : List Nat).getD j 0
  | 10 => ([6, 7, 2, 4, 1, 1, 3, 3, 3, 0, 0, 8, 0, 19] : List Nat).getD j 0
  | 11 => ([0, 21, 13, 0, 21, 13, 24, 23, 0, 0, 22, 0, 0, 0, 0, 0, 0, 0, 15, 15, 15, 25, 23, 0, 0, 26, 26, 27, 27, 27, 14, 14, 14, 14, 14, 0, 0, 14, 30, 0, 28, 28, 29] : List Nat).getD j 0
  | 18 => 9
  | 19 => 5
  | _ => 0
end
section
/-! ===== methods, memories, how a memory lies in the heap ===== -/
abbrev MI : Type := MethodName × ByteArray × Nat × Option FieldType × Nat × Nat × Nat × Nat
def mY (m : MI) : MethodName := m.1
def mB (m : MI) : ByteArray := m.2.1
def mL (m : MI) : Nat := m.2.2.1
def mT (m : MI) : Option FieldType := m.2.2.2.1
def mF (m : MI) : Nat := m.2.2.2.2.1
def mO (m : MI) : Nat := m.2.2.2.2.2.1
def mC (m : MI) : Nat := m.2.2.2.2.2.2.1
def mS (m : MI) : Nat := m.2.2.2.2.2.2.2
def mRoom (m : MI) : Room := { frames := mF m, cells := mC m, slots := mS m, locals := mO m }
def mW (m : MI) : List Cond := .code (mY m) (mB m) (mL m) (mT m) :: TG
/-- shape and the script's length; ints, longs, references -/
abbrev Mm : Type := (List Nat × Nat) × (Nat → Nat → Int32) × (Nat → Nat → Int64) × (Nat → Nat → Option Nat)
def gi (M : Mm) (a j : Nat) : Int32 := M.2.1 a j
def gl (M : Mm) (a j : Nat) : Int64 := M.2.2.1 a j
def gr (M : Mm) (a j : Nat) : Option Nat := M.2.2.2 a j
def up2 {α : Type} (f : Nat → Nat → α) (a j : Nat) (v : α) : Nat → Nat → α := fun b k => if b = a ∧ k = j then v else f b k
def si (M : Mm) (a j : Nat) (v : Int32) : Mm := (M.1, up2 M.2.1 a j v, M.2.2.1, M.2.2.2)
def sl (M : Mm) (a j : Nat) (v : Int64) : Mm := (M.1, M.2.1, up2 M.2.2.1 a j v, M.2.2.2)
def sr (M : Mm) (a j : Nat) (v : Option Nat) : Mm := (M.1, M.2.1, M.2.2.1, up2 M.2.2.2 a j v)
/-- a new cell of a kind: all its places 0, null -/
def nw (M : Mm) (k : Nat) : Mm := ((M.1.1 ++ [k], M.1.2), (fun a j => if a = 64 * M.1.1.length + k then 0 else M.2.1 a j), (fun a j => if a = 64 * M.1.1.length + k then 0 else M.2.2.1 a j), (fun a j => if a = 64 * M.1.1.length + k then none else M.2.2.2 a j))
/-- the machine's side: class numbers, array classes, the first own cell, the String constants and their bytes, the script -/
abbrev Ev : Type := va_G × (Nat → ClassId) × Nat × (Nat → Nat) × (Nat → Nat) × Nat
def eD (g : Ev) : va_G := g.1
def eA (g : Ev) : Nat → ClassId := g.2.1
def eb (g : Ev) : Nat := g.2.2.1
def eK (g : Ev) : Nat → Nat := g.2.2.2.1
def eV (g : Ev) : Nat → Nat := g.2.2.2.2.1
def es (g : Ev) : Nat := g.2.2.2.2.2
def fA (g : Ev) : Nat → Prop := fun q => eb g ≤ q
def ca (g : Ev) (r : Nat) : Nat := if r % 64 = 63 then eK g (r / 64) else if r % 64 = 62 then es g else if r % 64 = 61 then eV g (r / 64) else eb g + r / 64
def cz (g : Ev) (v : Value) : Value := match v with
  | .ref r => .ref (ca g r)
  | v => v
theorem cz_cat (g : Ev) (v : Value) : (cz g v).category = v.category := by cases v <;> rfl
def isI (t : FieldType) : Bool := match t with
  | .int => true
  | .boolean => true
  | _ => false
def fv (g : Ev) (M : Mm) (c a j : Nat) : Value := if isI (kY c j) = true then .int (gi M a j) else va_rf ((gr M a j).map (ca g))
def ce (g : Ev) (M : Mm) (k a : Nat) : va_E := if k < 12 then .inr (k, (List.range (kN k)).map (fv g M k a)) else
  if (aK k).1 = 1 then .inl (eA g 1, (aK k).2, .inr (.inl (gl M a))) else
  if (aK k).1 < 4 then .inl (eA g (aK k).1, (aK k).2, .inl (gi M a)) else
  .inl (eA g (aK k).1, (aK k).2, .inr (.inr (.inr (.inr (fun j => (gr M a j).map (ca g))))))
def wl (g : Ev) (M : Mm) : va_W := M.1.1.mapIdx (fun k d => (eb g + k, ce g M d (64 * k + d)))
def HR (g : Ev) (M : Mm) (H : Heap) : Prop := H.size = eb g + M.1.1.length ∧ va_P (eD g) KC (wl g M) H
def okA (M : Mm) (r : Nat) : Prop := M.1.1[r / 64]? = some (r % 64)
def WF (M : Mm) : Prop := (∀ d ∈ M.1.1, d < 61) ∧ ∀ a j r, gr M a j = some r → okA M r ∧ r % 64 = rK (a % 64) j
def okv (M : Mm) (v : Value) : Prop := match v with
  | .ref r => ((r % 64 = 63 ∨ r % 64 = 61) ∧ r / 64 < 6) ∨ r = 62 ∨ okA M r
  | _ => True
def okr (M : Mm) (r : Option Value) : Prop := ∀ v ∈ r.toList, okv M v
/-- what a run keeps: the shape grows, the script stays -/
def KM (M N : Mm) : Prop := (∃ e, N.1.1 = M.1.1 ++ e) ∧ N.1.2 = M.1.2 ∧ ∀ j, gi N 62 j = gi M 62 j
theorem km_rf (M : Mm) : KM M M := ⟨⟨[], by simp⟩, rfl, fun _ => rfl⟩
theorem km_tr {M N O : Mm} (h : KM M N) (k : KM N O) : KM M O := by
  obtain ⟨⟨e, h1⟩, h2, h3⟩ := h
  obtain ⟨⟨f, k1⟩, k2, k3⟩ := k
  exact ⟨⟨e ++ f, by rw [k1, h1, List.append_assoc]⟩, k2.trans h2, fun j => (k3 j).trans (h3 j)⟩
theorem km_ok {M N : Mm} (h : KM M N) {r : Nat} (k : okA M r) : okA N r := by
  obtain ⟨⟨e, h1⟩, -⟩ := h
  unfold okA at k ⊢
  rw [h1, List.getElem?_append_left (List.getElem?_eq_some_iff.mp k).1]
  exact k
theorem km_okv {M N : Mm} (h : KM M N) {v : Value} (k : okv M v) : okv N v := by
  cases v with
  | ref r =>
    rcases k with k | k | k
    · exact Or.inl k
    · exact Or.inr (Or.inl k)
    · exact Or.inr (Or.inr (km_ok h k))
  | _ => trivial
theorem ok_kd {M : Mm} (hw : WF M) {r : Nat} (h : okA M r) : r % 64 < 61 := hw.1 _ (List.mem_of_getElem? h)
theorem ca_ok {M : Mm} {g : Ev} (hw : WF M) {r : Nat} (h : okA M r) : ca g r = eb g + r / 64 := by
  have := ok_kd hw h
  unfold ca
  rw [if_neg (by omega), if_neg (by omega), if_neg (by omega)]
theorem wl_at {g : Ev} {M : Mm} {r : Nat} (h : okA M r) : (wl g M)[r / 64]? = some (eb g + r / 64, ce g M (r % 64) r) := by
  unfold wl
  rw [List.getElem?_mapIdx, show M.1.1[r / 64]? = some (r % 64) from h]
  simp only [Option.map_some]
  rw [show 64 * (r / 64) + r % 64 = r by omega]
theorem wl_D (g : Ev) (M : Mm) : va_D (fA g) (wl g M) := by
  have key : ∀ (i : Nat) (q : Nat × va_E), (wl g M)[i]? = some q → q.1 = eb g + i := by
    intro i q h
    unfold wl at h
    rw [List.getElem?_mapIdx] at h
    cases hm : M.1.1[i]? with
    | none => rw [hm] at h; cases h
    | some d => rw [hm] at h; cases h; rfl
  refine ⟨fun i j x y hx hy e => ?_, fun k q h => ?_⟩
  · have := key i x hx
    have := key j y hy
    omega
  · have := key k q h
    show eb g ≤ q.1
    omega
theorem wl_set {g : Ev} {M N : Mm} {a : Nat} {e : va_E} (hw : WF M) (h : okA M a) (hs : N.1.1 = M.1.1) (hI : ∀ b, b ≠ a → gi N b = gi M b ∧ gl N b = gl M b ∧ gr N b = gr M b) (he : e = ce g N (a % 64) a) : (wl g M).set (a / 64) (eb g + a / 64, e) = wl g N := by
  have hl : a / 64 < (wl g M).length := (List.getElem?_eq_some_iff.mp (wl_at (g := g) h)).1
  have hN : okA N a := by unfold okA; rw [hs]; exact h
  apply List.ext_getElem?
  intro i
  by_cases hi : i = a / 64
  · subst hi
    rw [List.getElem?_set_self hl, wl_at hN, he]
  · rw [List.getElem?_set_ne (Ne.symm hi)]
    unfold wl
    rw [List.getElem?_mapIdx, List.getElem?_mapIdx, hs]
    cases hm : M.1.1[i]? with
    | none => rfl
    | some d =>
      have hd := hw.1 d (List.mem_of_getElem? hm)
      obtain ⟨h1, h2, h3⟩ := hI (64 * i + d) (fun q => hi (by omega))
      have : fv g N d (64 * i + d) = fv g M d (64 * i + d) := by
        funext j
        simp only [fv, h1, h3]
      simp only [Option.map_some, ce, h1, h2, h3, this]
theorem range_set {α : Type} (f f' : Nat → α) (n j : Nat) (v : α) (h : f' = fun k => if k = j then v else f k) : ((List.range n).map f).set j v = (List.range n).map f' := by
  apply List.ext_getElem?
  intro i
  by_cases hi : i = j
  · subst hi
    by_cases hl : i < n
    · rw [List.getElem?_set_self (by simpa using hl)]
      simp [hl, h]
    · rw [List.getElem?_eq_none (by simpa using Nat.le_of_not_lt hl), List.getElem?_eq_none (by simpa using Nat.le_of_not_lt hl)]
  · rw [List.getElem?_set_ne (Ne.symm hi)]
    by_cases hl : i < n
    · simp [h, hi, hl]
    · rw [List.getElem?_eq_none (by simpa using Nat.le_of_not_lt hl), List.getElem?_eq_none (by simpa using Nat.le_of_not_lt hl)]
theorem up2_ne {α : Type} {f : Nat → Nat → α} {a j : Nat} {v : α} {b : Nat} (h : b ≠ a) : up2 f a j v b = f b := by
  funext k
  simp [up2, h]
theorem up2_at {α : Type} {f : Nat → Nat → α} {a j : Nat} {v : α} : up2 f a j v a = fun k => if k = j then v else f a k := by
  funext k
  simp [up2]
theorem gi_ne {M : Mm} {a j b : Nat} {v : Int32} (h : b ≠ a) : gi (si M a j v) b = gi M b := up2_ne h
theorem gi_at {M : Mm} {a j : Nat} {v : Int32} : gi (si M a j v) a = fun k => if k = j then v else gi M a k := up2_at
theorem gl_ne {M : Mm} {a j b : Nat} {v : Int64} (h : b ≠ a) : gl (sl M a j v) b = gl M b := up2_ne h
theorem gl_at {M : Mm} {a j : Nat} {v : Int64} : gl (sl M a j v) a = fun k => if k = j then v else gl M a k := up2_at
theorem gr_ne {M : Mm} {a j b : Nat} {v : Option Nat} (h : b ≠ a) : gr (sr M a j v) b = gr M b := up2_ne h
theorem gr_at {M : Mm} {a j : Nat} {v : Option Nat} : gr (sr M a j v) a = fun k => if k = j then v else gr M a k := up2_at
theorem km_si {M : Mm} {a j : Nat} {v : Int32} (h : a ≠ 62) : KM M (si M a j v) := ⟨⟨[], by simp [si]⟩, rfl, fun k => by rw [gi_ne (Ne.symm h)]⟩
theorem km_sl {M : Mm} {a j : Nat} {v : Int64} : KM M (sl M a j v) := ⟨⟨[], by simp [sl]⟩, rfl, fun k => rfl⟩
theorem km_sr {M : Mm} {a j : Nat} {v : Option Nat} : KM M (sr M a j v) := ⟨⟨[], by simp [sr]⟩, rfl, fun k => rfl⟩
theorem wf_si {M : Mm} {a j : Nat} {v : Int32} (h : WF M) : WF (si M a j v) := h
theorem wf_sl {M : Mm} {a j : Nat} {v : Int64} (h : WF M) : WF (sl M a j v) := h
theorem wf_sr {M : Mm} {a j r : Nat} (h : WF M) (hr : okA M r) (hk : r % 64 = rK (a % 64) j) : WF (sr M a j (some r)) := by
  refine ⟨h.1, fun b k q hq => ?_⟩
  by_cases hb : b = a ∧ k = j
  · obtain ⟨rfl, rfl⟩ := hb
    have : some r = some q := by simpa [gr, sr, up2] using hq
    cases this
    exact ⟨hr, hk⟩
  · have : gr M b k = some q := by
      have e : gr (sr M a j (some r)) b k = gr M b k := by simp only [gr, sr, up2, if_neg hb]
      rw [← e]; exact hq
    exact h.2 b k q this
/-! the world behind a store -/
theorem wl_putI {g : Ev} {M : Mm} {a j : Nat} {v : Int32} (hw : WF M) (h : okA M a) (hc : a % 64 < 12) (ht : isI (kY (a % 64) j) = true) : (wl g M).set (a / 64) (eb g + a / 64, .inr (a % 64, ((List.range (kN (a % 64))).map (fv g M (a % 64) a)).set j (.int v))) = wl g (si M a j v) := by
  refine wl_set hw h rfl (fun b hb => ⟨gi_ne hb, rfl, rfl⟩) ?_
  unfold ce
  rw [if_pos hc]
  congr 2
  refine range_set _ _ _ _ _ ?_
  funext k
  unfold fv
  by_cases hk : k = j
  · subst hk
    rw [if_pos ht, if_pos rfl, gi_at]
    simp
  · rw [if_neg hk, gi_at]
    simp only [if_neg hk]
    rfl
theorem wl_putR {g : Ev} {M : Mm} {a j r : Nat} (hw : WF M) (h : okA M a) (hc : a % 64 < 12) (ht : isI (kY (a % 64) j) = false) : (wl g M).set (a / 64) (eb g + a / 64, .inr (a % 64, ((List.range (kN (a % 64))).map (fv g M (a % 64) a)).set j (.ref (ca g r)))) = wl g (sr M a j (some r)) := by
  refine wl_set hw h rfl (fun b hb => ⟨rfl, rfl, gr_ne hb⟩) ?_
  unfold ce
  rw [if_pos hc]
  congr 2
  refine range_set _ _ _ _ _ ?_
  funext k
  unfold fv
  by_cases hk : k = j
  · subst hk
    rw [if_neg (by rw [ht]; decide), if_pos rfl, gr_at]
    simp [va_rf]
  · rw [if_neg hk, gr_at]
    simp only [if_neg hk]
    rfl
theorem ce_I {g : Ev} {M : Mm} {k a : Nat} (hc : ¬ k < 12) (h1 : (aK k).1 ≠ 1) (h4 : (aK k).1 < 4) : ce g M k a = .inl (eA g (aK k).1, (aK k).2, .inl (gi M a)) := by
  unfold ce
  rw [if_neg hc, if_neg h1, if_pos h4]
theorem ce_L {g : Ev} {M : Mm} {k a : Nat} (hc : ¬ k < 12) (h1 : (aK k).1 = 1) : ce g M k a = .inl (eA g 1, (aK k).2, .inr (.inl (gl M a))) := by
  unfold ce
  rw [if_neg hc, if_pos h1]
theorem ce_R {g : Ev} {M : Mm} {k a : Nat} (hc : ¬ k < 12) (h1 : (aK k).1 ≠ 1) (h4 : ¬ (aK k).1 < 4) : ce g M k a = .inl (eA g (aK k).1, (aK k).2, .inr (.inr (.inr (.inr (fun j => (gr M a j).map (ca g)))))) := by
  unfold ce
  rw [if_neg hc, if_neg h1, if_neg h4]
theorem ce_O {g : Ev} {M : Mm} {k a : Nat} (hc : k < 12) : ce g M k a = .inr (k, (List.range (kN k)).map (fv g M k a)) := by
  unfold ce
  rw [if_pos hc]
theorem wl_astI {g : Ev} {M : Mm} {a j : Nat} {v : Int32} (hw : WF M) (h : okA M a) (hc : ¬ a % 64 < 12) (h1 : (aK (a % 64)).1 ≠ 1) (h4 : (aK (a % 64)).1 < 4) : (wl g M).set (a / 64) (eb g + a / 64, .inl (eA g (aK (a % 64)).1, (aK (a % 64)).2, .inl (upd (gi M a) j v))) = wl g (si M a j v) := by
  refine wl_set hw h rfl (fun b hb => ⟨gi_ne hb, rfl, rfl⟩) ?_
  rw [ce_I hc h1 h4, gi_at]
  rfl
theorem wl_astL {g : Ev} {M : Mm} {a j : Nat} {v : Int64} (hw : WF M) (h : okA M a) (hc : ¬ a % 64 < 12) (h1 : (aK (a % 64)).1 = 1) : (wl g M).set (a / 64) (eb g + a / 64, .inl (eA g 1, (aK (a % 64)).2, .inr (.inl (vp_updL (gl M a) j v)))) = wl g (sl M a j v) := by
  refine wl_set hw h rfl (fun b hb => ⟨rfl, gl_ne hb, rfl⟩) ?_
  rw [ce_L hc h1, gl_at]
  rfl
theorem wl_astR {g : Ev} {M : Mm} {a j r : Nat} (hw : WF M) (h : okA M a) (hc : ¬ a % 64 < 12) (h1 : (aK (a % 64)).1 ≠ 1) (h4 : ¬ (aK (a % 64)).1 < 4) : (wl g M).set (a / 64) (eb g + a / 64, .inl (eA g (aK (a % 64)).1, (aK (a % 64)).2, .inr (.inr (.inr (.inr (va_up (fun j => (gr M a j).map (ca g)) j (some (ca g r)))))))) = wl g (sr M a j (some r)) := by
  refine wl_set hw h rfl (fun b hb => ⟨rfl, rfl, gr_ne hb⟩) ?_
  have e : va_up (fun j => (gr M a j).map (ca g)) j (some (ca g r)) = fun k => (gr (sr M a j (some r)) a k).map (ca g) := by
    rw [gr_at]
    funext k
    unfold va_up
    by_cases hk : k = j
    · simp [hk]
    · simp [hk]
  rw [ce_R hc h1 h4, e]
end
section
def sO : Nat → String := fun i => match i with
  | 0 => "LearnedCount$LibraryReader"
  | 1 => "LearnedCount$Tokens"
  | 2 => "LearnedCount$RuleReader"
  | 3 => "LearnedCount$RuleReader"
  | 4 => "LearnedCount$RuleReader"
  | _ => "LearnedCount$RuleReader"
def sI : Nat → Nat := fun i => match i with
  | 0 => 38
  | 1 => 91
  | 2 => 35
  | 3 => 73
  | 4 => 87
  | _ => 92
def sX : Nat → String := fun i => match i with
  | 0 => "word cite against note like law in copies"
  | 1 => "no yes"
  | 2 => "main copies notes two head silent laws"
  | 3 => "none later special"
  | 4 => "no yes open"
  | _ => "none later first"
def slen : List Nat := [41, 6, 38, 18, 11, 16]
def sbyt : List (List Int32) := [[119, 111, 114, 100, 32, 99, 105, 116, 101, 32, 97, 103, 97, 105, 110, 115, 116, 32, 110, 111, 116, 101, 32, 108, 105, 107, 101, 32, 108, 97, 119, 32, 105, 110, 32, 99, 111, 112, 105, 101, 115], [110, 111, 32, 121, 101, 115], [109, 97, 105, 110, 32, 99, 111, 112, 105, 101, 115, 32, 110, 111, 116, 101, 115, 32, 116, 119, 111, 32, 104, 101, 97, 100, 32, 115, 105, 108, 101, 110, 116, 32, 108, 97, 119, 115], [110, 111, 110, 101, 32, 108, 97, 116, 101, 114, 32, 115, 112, 101, 99, 105, 97, 108], [110, 111, 32, 121, 101, 115, 32, 111, 112, 101, 110], [110, 111, 110, 101, 32, 108, 97, 116, 101, 114, 32, 102, 105, 114, 115, 116]]
def nestl : List (String × Nat × MethodName × String) := [("LearnedCount$Library", 101, ⟨"LearnedCount", "holds", "(II)Z"⟩, "LearnedCount"), ("LearnedCount$Library", 124, ⟨"LearnedCount", "agreed", "(II)I"⟩, "LearnedCount"), ("LearnedCount$Tokens", 70, ⟨"LearnedCount", "holds", "(II)Z"⟩, "LearnedCount"), ("LearnedCount$LibraryReader", 66, ⟨"LearnedCount", "holds", "(II)Z"⟩, "LearnedCount"), ("LearnedCount$RuleReader", 45, ⟨"LearnedCount", "holds", "(II)Z"⟩, "LearnedCount"), ("LearnedCount$Weighing", 103, ⟨"LearnedCount", "agreed", "(II)I"⟩, "LearnedCount"), ("LearnedCount$Finding", 68, ⟨"LearnedCount", "holds", "(II)Z"⟩, "LearnedCount")]
def tys (g : Ev) : List (ClassId × FieldType) := [(eA g 0, aT 0), (eA g 1, aT 1), (eA g 2, aT 2), (eA g 3, aT 3), (eA g 4, aT 4), (eA g 5, aT 5)]
/-- what the tables and the cells that were there say, at a state and a heap: n, xs is the script -/
def KU (g : Ev) (n : Nat) (xs : Nat → Int32) (U : State) (H : Heap) : Prop :=
  va_K (eD g) KC (tys g) U ∧ (∀ q ∈ nestl, va_Nw (.methodLinkNest q.1 q.2.1 q.2.2.1 q.2.2.2) U) ∧ (va_AO "LearnedCount$Word" U ∧ va_AO "LearnedCount$Sheet" U) ∧ eb g ≤ H.size ∧ (∀ i, i < 6 → vk_R (sO i) (sI i) (sX i) (eK g i) U) ∧ vk_S 6 slen sbyt (eK g) (eV g) (fA g) U H ∧ va_Z "java/lang/String" "COMPACT_STRINGS" "Z" (.int 1) (fA g) U H ∧ va_X (es g) n xs U H ∧ es g < eb g
theorem ku_mv {g : Ev} {n : Nat} {xs : Nat → Int32} {s U : State} {H0 H : Heap} (h : KU g n xs s H0) (hW : s.WarmedH U.vm) (hz : H0.size ≤ H.size) (hk : ∀ q : Nat, q < H0.size → ¬ fA g q → H[q]? = H0[q]?) : KU g n xs U H := by
  obtain ⟨h1, h2, ⟨h3, h3'⟩, h4, h5, h6, h7, h8, h9⟩ := h
  refine ⟨va_K.moved hW.alike h1, fun q hq => va_Nw.warmM hW (h2 q hq), ⟨va_AO.moved hW.alike h3, va_AO.moved hW.alike h3'⟩, Nat.le_trans h4 hz, fun i hi => vk_R.warm hW (h5 i hi), (vk_S.moved hW.alike h6).kept hk, (va_Z.moved hW.alike h7).kept hk, (va_X.moved hW.alike h8).kept (hk _ (Nat.lt_of_lt_of_le h9 h4) (Nat.not_le.mpr h9)), h9⟩
theorem ku_same {g : Ev} {n : Nat} {xs : Nat → Int32} {u U : State} {H : Heap} (h : KU g n xs u H) (hv : u.vm = U.vm) : KU g n xs U H := by
  obtain ⟨h1, h2, ⟨h3, h3'⟩, h4, h5, h6, h7, h8, h9⟩ := h
  have hW : u.vm.Alike U.vm := by rw [hv]; exact Vm.Alike.refl _
  exact ⟨va_K.moved hW h1, fun q hq => va_Nw.same rfl hv (h2 q hq), ⟨va_AO.moved hW h3, va_AO.moved hW h3'⟩, h4, fun i hi => vk_R.same hv.symm (h5 i hi), vk_S.moved hW h6, va_Z.moved hW h7, va_X.moved hW h8, h9⟩
/-- what stands while a method runs -/
def Cx (m : MI) (g : Ev) (n : Nat) (xs : Nat → Int32) (p : Program) (R : Room) (s : State) (mid : MethodId) (args : Array Value) (meth : Method) (c : Code) : Prop :=
  p.tables.exec = Jvm.exec ∧ c.code = mB m ∧ c.maxLocals = mL m ∧ s.vm.findClass (mY m).cls = some mid.cls ∧ (∀ w ∈ TG, w.before args s = true) ∧ (mF m ≤ R.frames ∧ mO m ≤ R.locals ∧ mC m ≤ R.cells ∧ mS m ≤ R.slots) ∧ meth.name = (mY m).name ∧ KU g n xs s s.heap
def retD (m : MI) (pc : Nat) (r : Option Value) : Prop := match r with
  | none => decode (mB m) pc = .ok (.return_, 1) ∧ mT m = none
  | some (.int v) => decode (mB m) pc = .ok (.ireturn, 1) ∧ ∃ ty, mT m = some ty ∧ narrow ty (.int v) = .int v
  | some (.long _) => decode (mB m) pc = .ok (.lreturn, 1) ∧ mT m = some .long
  | _ => False
/-- what a method's end is worth -/
def Rt (m : MI) (g : Ev) (p : Program) (l : Launch) (e : Env) (R : Room) (s : State) (mid : MethodId) (args : Array Value) (below : List Frame) (meth : Method) (c : Code) (Z : State → Prop) (M : Mm) (Q : Option Value → Mm → Prop) : Prop :=
  ∀ (r : Option Value) (N : Mm) (H : Heap) (locs : List Loc) (cells slots pc : Nat) (ls : Array Slot), Q r N → retD m pc r → HR g N H → WF N → KM M N → va_S (fA g) s.heap H locs → cells ≤ mC m → slots ≤ mS m → W p l e R s mid args below meth c H locs cells slots Z (F0 mid pc ls r.toList)
def cq (g : Ev) (q : Nat × Value) : Nat × Value := (q.1, cz g q.2)
/-- from pc, with these locals, this stack, this memory, and room for b cells and slots, the method comes to an end with Q -/
def X (m : MI) (pc : Nat) (L : List (Nat × Value)) (S : List Value) (M : Mm) (b : Nat × Nat) (Q : Option Value → Mm → Prop) : Prop :=
  ∀ (g : Ev) (p : Program) (l : Launch) (e : Env) (R : Room) (s : State) (mid : MethodId) (args : Array Value) (below : List Frame) (meth : Method) (c : Code) (Z : State → Prop), Cx m g M.1.2 (gi M 62) p R s mid args meth c → Rt m g p l e R s mid args below meth c Z M Q →
  ∀ (H : Heap) (locs : List Loc) (cells slots : Nat) (ls : Array Slot), HR g M H → WF M → (∀ q ∈ L, okv M q.2) → (∀ v ∈ S, okv M v) → lv_has ls (mL m) (L.map (cq g)) → va_S (fA g) s.heap H locs → cells + b.1 ≤ mC m → slots + b.2 ≤ mS m →
  W p l e R s mid args below meth c H locs cells slots Z (F0 mid pc ls (S.map (cz g)))
def ushr (x y : Int32) : Int32 := (x.toUInt32 >>> (y.toUInt32 &&& Int32.toUInt32 31)).toInt32
def lushr (x : Int64) (y : Int32) : Int64 := (x.toUInt64 >>> (y.toInt64.toUInt64 &&& Int64.toUInt64 63)).toInt64
theorem cz_str (g : Ev) (j : Nat) : cz g (.ref (64 * j + 63)) = .ref (eK g j) := by
  show Value.ref (ca g (64 * j + 63)) = _
  unfold ca
  rw [if_pos (by omega), show (64 * j + 63) / 64 = j by omega]
theorem okv_str {M : Mm} {j : Nat} (h : j < 6) : okv M (.ref (64 * j + 63)) := by
  refine Or.inl ⟨Or.inl ?_, ?_⟩
  · show (64 * j + 63) % 64 = 63
    omega
  · show (64 * j + 63) / 64 < 6
    omega
section ROWS
variable {m : MI} {pc : Nat} {L : List (Nat × Value)} {S : List Value} {M : Mm} {b : Nat × Nat} {Q : Option Value → Mm → Prop}
theorem tl {v : Value} (h : ∀ w ∈ v :: S, okv M w) : ∀ w ∈ S, okv M w := fun w hw => h w (List.mem_cons_of_mem _ hw)
theorem ok1 {v : Value} (h : ∀ w ∈ S, okv M w) (hv : okv M v) : ∀ w ∈ v :: S, okv M w := fun w hw => (List.mem_cons.mp hw).elim (fun e => e ▸ hv) (h w)
theorem okL1 {v : Value} {i : Nat} {F : Nat × Value → Bool} (h : ∀ q ∈ L, okv M q.2) (hv : okv M v) : ∀ q ∈ (i, v) :: L.filter F, okv M q.2 := fun q hq => (List.mem_cons.mp hq).elim (fun e => e ▸ hv) (fun hq => h q (List.mem_filter.mp hq).1)
theorem lmap {g : Ev} {q i : Nat} {v : Value} (h : L[q]? = some (i, v)) : (L.map (cq g))[q]? = some (i, cz g v) := by
  rw [List.getElem?_map, h]
  rfl
theorem lfilm (g : Ev) (L : List (Nat × Value)) (F : Nat × Value → Bool) (h : ∀ q, F (cq g q) = F q) : (L.map (cq g)).filter F = (L.filter F).map (cq g) := by
  rw [List.filter_map]
  congr 1
  refine List.filter_congr (fun q _ => h q)
theorem lfil1 (g : Ev) (L : List (Nat × Value)) (i : Nat) (v : Value) : (i, cz g v) :: (L.map (cq g)).filter (fun q => !(q.1 == i) && !(q.1 + 1 == i && q.2.category == 2)) = ((i, v) :: L.filter (fun q => !(q.1 == i) && !(q.1 + 1 == i && q.2.category == 2))).map (cq g) := by
  rw [lfilm g L _ (fun q => by simp only [cq, cz_cat])]
  rfl
theorem lfil2 (g : Ev) (L : List (Nat × Value)) (i : Nat) (v : Value) : (i, cz g v) :: (L.map (cq g)).filter (fun q => !(q.1 == i) && (!(q.1 == i + 1) && !(q.1 + 1 == i && q.2.category == 2))) = ((i, v) :: L.filter (fun q => !(q.1 == i) && (!(q.1 == i + 1) && !(q.1 + 1 == i && q.2.category == 2)))).map (cq g) := by
  rw [lfilm g L _ (fun q => by simp only [cq, cz_cat])]
  rfl
/-- a step that leaves the memory -/
theorem X_pu {pc' : Nat} {L' : List (Nat × Value)} {S' : List Value} (h : X m pc' L' S' M b Q) (hk : (∀ q ∈ L, okv M q.2) → (∀ v ∈ S, okv M v) → (∀ q ∈ L', okv M q.2) ∧ (∀ v ∈ S', okv M v))
    (st : ∀ {g : Ev} {p : Program} {l : Launch} {e : Env} {R : Room} {s : State} {mid : MethodId} {args : Array Value} {below : List Frame} {meth : Method} {c : Code} {Z : State → Prop} {H : Heap} {locs : List Loc} {cells slots : Nat} {ls : Array Slot}, Cx m g M.1.2 (gi M 62) p R s mid args meth c → lv_has ls (mL m) (L.map (cq g)) → (∀ ls', lv_has ls' (mL m) (L'.map (cq g)) → W p l e R s mid args below meth c H locs cells slots Z (F0 mid pc' ls' (S'.map (cz g)))) → W p l e R s mid args below meth c H locs cells slots Z (F0 mid pc ls (S.map (cz g)))) : X m pc L S M b Q := by
  intro g p l e R s mid args below meth c Z C hR H locs cells slots ls hH hw hL hS hl hs hc hc2
  obtain ⟨k1, k2⟩ := hk hL hS
  exact st C hl (fun ls' hl' => h g p l e R s mid args below meth c Z C hR H locs cells slots ls' hH hw k1 k2 hl' hs hc hc2)
/-- fewer locals, in another order -/
theorem x_loc {L' : List (Nat × Value)} (ks : List Nat) (he : lv_pick L ks = L') (h : X m pc L' S M b Q) : X m pc L S M b Q := by
  have hsub : ∀ q ∈ L', q ∈ L := by
    intro q hq
    rw [← he] at hq
    obtain ⟨k, -, hk⟩ := List.mem_filterMap.mp hq
    exact List.mem_of_getElem? hk
  exact X_pu h (fun hL hS => ⟨fun q hq => hL q (hsub q hq), hS⟩) (fun C hl k => k _ (by
    refine ⟨hl.1, hl.2.1, fun q hq => ?_⟩
    obtain ⟨q0, h0, rfl⟩ := List.mem_map.mp hq
    exact hl.2.2 _ (List.mem_map.mpr ⟨q0, hsub q0 h0, rfl⟩)))
/-- the memory is well made: a fact to use -/
theorem x_wf (h : WF M → X m pc L S M b Q) : X m pc L S M b Q := fun g p l e R s mid args below meth c Z C hR H locs cells slots ls hH hw => h hw g p l e R s mid args below meth c Z C hR H locs cells slots ls hH hw

theorem x_iadd {x y : Int32} (hd : decode (mB m) pc = .ok (.iadd, 1)) (h : X m (pc + 1) L (.int (x + y) :: S) M b Q) : X m pc L (.int y :: .int x :: S) M b Q := X_pu h (fun hL hS => ⟨hL, ok1 (tl (tl hS)) trivial⟩) (fun C hl k => lv_iadd C.1 C.2.1 hd (k _ hl))
theorem x_isub {x y : Int32} (hd : decode (mB m) pc = .ok (.isub, 1)) (h : X m (pc + 1) L (.int (x - y) :: S) M b Q) : X m pc L (.int y :: .int x :: S) M b Q := X_pu h (fun hL hS => ⟨hL, ok1 (tl (tl hS)) trivial⟩) (fun C hl k => lv_isub C.1 C.2.1 hd (k _ hl))
theorem x_imul {x y : Int32} (hd : decode (mB m) pc = .ok (.imul, 1)) (h : X m (pc + 1) L (.int (x * y) :: S) M b Q) : X m pc L (.int y :: .int x :: S) M b Q := X_pu h (fun hL hS => ⟨hL, ok1 (tl (tl hS)) trivial⟩) (fun C hl k => lv_imul C.1 C.2.1 hd (k _ hl))
theorem x_iand {x y : Int32} (hd : decode (mB m) pc = .ok (.iand, 1)) (h : X m (pc + 1) L (.int (x &&& y) :: S) M b Q) : X m pc L (.int y :: .int x :: S) M b Q := X_pu h (fun hL hS => ⟨hL, ok1 (tl (tl hS)) trivial⟩) (fun C hl k => lv_iand C.1 C.2.1 hd (k _ hl))
theorem x_ior {x y : Int32} (hd : decode (mB m) pc = .ok (.ior, 1)) (h : X m (pc + 1) L (.int (x ||| y) :: S) M b Q) : X m pc L (.int y :: .int x :: S) M b Q := X_pu h (fun hL hS => ⟨hL, ok1 (tl (tl hS)) trivial⟩) (fun C hl k => lv_ior C.1 C.2.1 hd (k _ hl))
theorem x_ixor {x y : Int32} (hd : decode (mB m) pc = .ok (.ixor, 1)) (h : X m (pc + 1) L (.int (x ^^^ y) :: S) M b Q) : X m pc L (.int y :: .int x :: S) M b Q := X_pu h (fun hL hS => ⟨hL, ok1 (tl (tl hS)) trivial⟩) (fun C hl k => lv_ixor C.1 C.2.1 hd (k _ hl))
theorem x_ishl {x y : Int32} (hd : decode (mB m) pc = .ok (.ishl, 1)) (h : X m (pc + 1) L (.int (x <<< (y &&& 31)) :: S) M b Q) : X m pc L (.int y :: .int x :: S) M b Q := X_pu h (fun hL hS => ⟨hL, ok1 (tl (tl hS)) trivial⟩) (fun C hl k => lv_ishl C.1 C.2.1 hd (k _ hl))
theorem x_ishr {x y : Int32} (hd : decode (mB m) pc = .ok (.ishr, 1)) (h : X m (pc + 1) L (.int (x >>> (y &&& 31)) :: S) M b Q) : X m pc L (.int y :: .int x :: S) M b Q := X_pu h (fun hL hS => ⟨hL, ok1 (tl (tl hS)) trivial⟩) (fun C hl k => lv_ishr C.1 C.2.1 hd (k _ hl))
theorem x_idiv {x y : Int32} (hd : decode (mB m) pc = .ok (.idiv, 1)) (hz : ¬ y = 0) (h : X m (pc + 1) L (.int (x / y) :: S) M b Q) : X m pc L (.int y :: .int x :: S) M b Q := X_pu h (fun hL hS => ⟨hL, ok1 (tl (tl hS)) trivial⟩) (fun C hl k => lv_idiv C.1 C.2.1 hd hz (k _ hl))
theorem x_irem {x y : Int32} (hd : decode (mB m) pc = .ok (.irem, 1)) (hz : ¬ y = 0) (h : X m (pc + 1) L (.int (x - x / y * y) :: S) M b Q) : X m pc L (.int y :: .int x :: S) M b Q := X_pu h (fun hL hS => ⟨hL, ok1 (tl (tl hS)) trivial⟩) (fun C hl k => lv_irem C.1 C.2.1 hd hz (k _ hl))
theorem x_iushr {x y : Int32} (hd : decode (mB m) pc = .ok (.iushr, 1)) (h : X m (pc + 1) L (.int (ushr x y) :: S) M b Q) : X m pc L (.int y :: .int x :: S) M b Q := X_pu h (fun hL hS => ⟨hL, ok1 (tl (tl hS)) trivial⟩) (fun C hl k => lv_iushr C.1 C.2.1 hd rfl (k _ hl))
theorem x_ladd {x y : Int64} (hd : decode (mB m) pc = .ok (.ladd, 1)) (h : X m (pc + 1) L (.long (x + y) :: S) M b Q) : X m pc L (.long y :: .long x :: S) M b Q := X_pu h (fun hL hS => ⟨hL, ok1 (tl (tl hS)) trivial⟩) (fun C hl k => lv_ladd C.1 C.2.1 hd (k _ hl))
theorem x_lsub {x y : Int64} (hd : decode (mB m) pc = .ok (.lsub, 1)) (h : X m (pc + 1) L (.long (x - y) :: S) M b Q) : X m pc L (.long y :: .long x :: S) M b Q := X_pu h (fun hL hS => ⟨hL, ok1 (tl (tl hS)) trivial⟩) (fun C hl k => lv_lsub C.1 C.2.1 hd (k _ hl))
theorem x_land {x y : Int64} (hd : decode (mB m) pc = .ok (.land, 1)) (h : X m (pc + 1) L (.long (x &&& y) :: S) M b Q) : X m pc L (.long y :: .long x :: S) M b Q := X_pu h (fun hL hS => ⟨hL, ok1 (tl (tl hS)) trivial⟩) (fun C hl k => lv_land C.1 C.2.1 hd (k _ hl))
theorem x_lor {x y : Int64} (hd : decode (mB m) pc = .ok (.lor, 1)) (h : X m (pc + 1) L (.long (x ||| y) :: S) M b Q) : X m pc L (.long y :: .long x :: S) M b Q := X_pu h (fun hL hS => ⟨hL, ok1 (tl (tl hS)) trivial⟩) (fun C hl k => lv_lor C.1 C.2.1 hd (k _ hl))
theorem x_lxor {x y : Int64} (hd : decode (mB m) pc = .ok (.lxor, 1)) (h : X m (pc + 1) L (.long (x ^^^ y) :: S) M b Q) : X m pc L (.long y :: .long x :: S) M b Q := X_pu h (fun hL hS => ⟨hL, ok1 (tl (tl hS)) trivial⟩) (fun C hl k => lv_lxor C.1 C.2.1 hd (k _ hl))
theorem x_lcmp {x y : Int64} (hd : decode (mB m) pc = .ok (.lcmp, 1)) (h : X m (pc + 1) L (.int (lg_cmp x y) :: S) M b Q) : X m pc L (.long y :: .long x :: S) M b Q := X_pu h (fun hL hS => ⟨hL, ok1 (tl (tl hS)) trivial⟩) (fun C hl k => W.lcmp C.1 C.2.1 hd (k _ hl))
theorem x_lushr {x : Int64} {y : Int32} (hd : decode (mB m) pc = .ok (.lushr, 1)) (h : X m (pc + 1) L (.long (lushr x y) :: S) M b Q) : X m pc L (.int y :: .long x :: S) M b Q := X_pu h (fun hL hS => ⟨hL, ok1 (tl (tl hS)) trivial⟩) (fun C hl k => lv_lushr C.1 C.2.1 hd rfl (k _ hl))
theorem x_lshl {x : Int64} {y : Int32} (hd : decode (mB m) pc = .ok (.lshl, 1)) (h : X m (pc + 1) L (.long (x <<< (y.toInt64 &&& 63)) :: S) M b Q) : X m pc L (.int y :: .long x :: S) M b Q := X_pu h (fun hL hS => ⟨hL, ok1 (tl (tl hS)) trivial⟩) (fun C hl k => lv_lshl C.1 C.2.1 hd rfl (k _ hl))
theorem x_lshr {x : Int64} {y : Int32} (hd : decode (mB m) pc = .ok (.lshr, 1)) (h : X m (pc + 1) L (.long (x >>> (y.toInt64 &&& 63)) :: S) M b Q) : X m pc L (.int y :: .long x :: S) M b Q := X_pu h (fun hL hS => ⟨hL, ok1 (tl (tl hS)) trivial⟩) (fun C hl k => lv_lshr C.1 C.2.1 hd rfl (k _ hl))
theorem x_i2l {x : Int32} (hd : decode (mB m) pc = .ok (.i2l, 1)) (h : X m (pc + 1) L (.long (x.toInt64) :: S) M b Q) : X m pc L (.int x :: S) M b Q := X_pu h (fun hL hS => ⟨hL, ok1 (tl hS) trivial⟩) (fun C hl k => lv_i2l C.1 C.2.1 hd rfl (k _ hl))
theorem x_l2i {x : Int64} (hd : decode (mB m) pc = .ok (.l2i, 1)) (h : X m (pc + 1) L (.int (x.toInt32) :: S) M b Q) : X m pc L (.long x :: S) M b Q := X_pu h (fun hL hS => ⟨hL, ok1 (tl hS) trivial⟩) (fun C hl k => lv_l2i C.1 C.2.1 hd rfl (k _ hl))
theorem x_i2b {x : Int32} (hd : decode (mB m) pc = .ok (.i2b, 1)) (h : X m (pc + 1) L (.int (x.toInt8.toInt32) :: S) M b Q) : X m pc L (.int x :: S) M b Q := X_pu h (fun hL hS => ⟨hL, ok1 (tl hS) trivial⟩) (fun C hl k => lv_i2b C.1 C.2.1 hd rfl (k _ hl))
theorem x_i2s {x : Int32} (hd : decode (mB m) pc = .ok (.i2s, 1)) (h : X m (pc + 1) L (.int (x.toInt16.toInt32) :: S) M b Q) : X m pc L (.int x :: S) M b Q := X_pu h (fun hL hS => ⟨hL, ok1 (tl hS) trivial⟩) (fun C hl k => lv_i2s C.1 C.2.1 hd rfl (k _ hl))
theorem x_ineg {x : Int32} (hd : decode (mB m) pc = .ok (.ineg, 1)) (h : X m (pc + 1) L (.int (-x) :: S) M b Q) : X m pc L (.int x :: S) M b Q := X_pu h (fun hL hS => ⟨hL, ok1 (tl hS) trivial⟩) (fun C hl k => lv_ineg C.1 C.2.1 hd (k _ hl))
theorem x_iconst {n : Int} {v : Int32} (hd : decode (mB m) pc = .ok (.iconst n, 1)) (hv : Int32.ofInt n = v) (h : X m (pc + 1) L (.int v :: S) M b Q) : X m pc L S M b Q := X_pu h (fun hL hS => ⟨hL, ok1 hS trivial⟩) (fun C hl k => lv_iconst C.1 C.2.1 hd hv (k _ hl))
theorem x_bipush {n : Int} {v : Int32} (hd : decode (mB m) pc = .ok (.bipush n, 2)) (hv : (Int8.ofInt n).toInt32 = v) (h : X m (pc + 2) L (.int v :: S) M b Q) : X m pc L S M b Q := X_pu h (fun hL hS => ⟨hL, ok1 hS trivial⟩) (fun C hl k => lv_bipush C.1 C.2.1 hd hv (k _ hl))
theorem x_sipush {n : Int} {v : Int32} (hd : decode (mB m) pc = .ok (.sipush n, 3)) (hv : (Int16.ofInt n).toInt32 = v) (h : X m (pc + 3) L (.int v :: S) M b Q) : X m pc L S M b Q := X_pu h (fun hL hS => ⟨hL, ok1 hS trivial⟩) (fun C hl k => lv_sipush C.1 C.2.1 hd hv (k _ hl))
theorem x_lconst {n : Fin 2} {v : Int64} (hd : decode (mB m) pc = .ok (.lconst n, 1)) (hv : Int64.ofNat (n : Nat) = v) (h : X m (pc + 1) L (.long v :: S) M b Q) : X m pc L S M b Q := X_pu h (fun hL hS => ⟨hL, ok1 hS trivial⟩) (fun C hl k => lv_lconst C.1 C.2.1 hd hv (k _ hl))
theorem x_ldc {i : Nat} {v : Int32} (hd : decode (mB m) pc = .ok (.ldc i, 2)) (hc : Cond.constant (mY m).cls i v ∈ TG) (h : X m (pc + 2) L (.int v :: S) M b Q) : X m pc L S M b Q := X_pu h (fun hL hS => ⟨hL, ok1 hS trivial⟩) (fun C hl k => lv_ldc C.1 C.2.1 C.2.2.2.1 (C.2.2.2.2.1 _ hc) hd (k _ hl))
theorem x_ldcw {i : Nat} {v : Int32} (hd : decode (mB m) pc = .ok (.ldc_w i, 3)) (hc : Cond.constant (mY m).cls i v ∈ TG) (h : X m (pc + 3) L (.int v :: S) M b Q) : X m pc L S M b Q := X_pu h (fun hL hS => ⟨hL, ok1 hS trivial⟩) (fun C hl k => lv_ldcw C.1 C.2.1 C.2.2.2.1 (C.2.2.2.2.1 _ hc) hd (k _ hl))
theorem x_ldc2 {i : Nat} {v : Int64} (hd : decode (mB m) pc = .ok (.ldc2_w i, 3)) (hc : Cond.constantLong (mY m).cls i v ∈ TG) (h : X m (pc + 3) L (.long v :: S) M b Q) : X m pc L S M b Q := X_pu h (fun hL hS => ⟨hL, ok1 hS trivial⟩) (fun C hl k => lv_ldc2 C.1 C.2.1 C.2.2.2.1 (C.2.2.2.2.1 _ hc) hd (k _ hl))
theorem x_ldcS {i j : Nat} (hd : decode (mB m) pc = .ok (.ldc i, 2)) (hj : j < 6) (hs : sO j = (mY m).cls ∧ sI j = i) (h : X m (pc + 2) L (.ref (64 * j + 63) :: S) M b Q) : X m pc L S M b Q := X_pu h (fun hL hS => ⟨hL, ok1 hS (okv_str hj)⟩) (fun {g} {p} {l} {e} {R} {s} {mid} {args} {below} {meth} {c} {Z} {H} {locs} {cells} {slots} {ls} C hl k => va_ldcS C.1 C.2.1 C.2.2.2.1 (tx := sX j) (q := eK g j) (by have := C.2.2.2.2.2.2.2.2.2.2.2.1 j hj; rw [hs.1, hs.2] at this; exact this) hd (by have := k _ hl; rwa [List.map_cons, cz_str] at this))
theorem x_iload_n {k : Fin 4} {i q : Nat} {x : Int32} (hd : decode (mB m) pc = .ok (.iload_n k, 1)) (hi : (k : Nat) = i) (hk : L[q]? = some (i, .int x)) (h : X m (pc + 1) L (.int x :: S) M b Q) : X m pc L S M b Q := X_pu h (fun hL hS => ⟨hL, ok1 hS trivial⟩) (fun C hl k => lv_iload_n C.1 C.2.1 hd hi (lv_at hl q (lmap hk)) (k _ hl))
theorem x_iload {i q : Nat} {x : Int32} (hd : decode (mB m) pc = .ok (.iload i, 2)) (hk : L[q]? = some (i, .int x)) (h : X m (pc + 2) L (.int x :: S) M b Q) : X m pc L S M b Q := X_pu h (fun hL hS => ⟨hL, ok1 hS trivial⟩) (fun C hl k => lv_iload C.1 C.2.1 hd (lv_at hl q (lmap hk)) (k _ hl))
theorem x_lload_n {k : Fin 4} {i q : Nat} {x : Int64} (hd : decode (mB m) pc = .ok (.lload_n k, 1)) (hi : (k : Nat) = i) (hk : L[q]? = some (i, .long x)) (h : X m (pc + 1) L (.long x :: S) M b Q) : X m pc L S M b Q := X_pu h (fun hL hS => ⟨hL, ok1 hS trivial⟩) (fun C hl k => lv_lload_n C.1 C.2.1 hd hi (lv_at hl q (lmap hk)) (k _ hl))
theorem x_lload {i q : Nat} {x : Int64} (hd : decode (mB m) pc = .ok (.lload i, 2)) (hk : L[q]? = some (i, .long x)) (h : X m (pc + 2) L (.long x :: S) M b Q) : X m pc L S M b Q := X_pu h (fun hL hS => ⟨hL, ok1 hS trivial⟩) (fun C hl k => lv_lload C.1 C.2.1 hd (lv_at hl q (lmap hk)) (k _ hl))
theorem x_aload_n {k : Fin 4} {i q : Nat} {x : Nat} (hd : decode (mB m) pc = .ok (.aload_n k, 1)) (hi : (k : Nat) = i) (hk : L[q]? = some (i, .ref x)) (h : X m (pc + 1) L (.ref x :: S) M b Q) : X m pc L S M b Q := X_pu h (fun hL hS => ⟨hL, ok1 hS (hL _ (List.mem_of_getElem? hk))⟩) (fun C hl k => lv_aload_n C.1 C.2.1 hd hi (lv_at hl q (lmap hk)) (k _ hl))
theorem x_aload {i q : Nat} {x : Nat} (hd : decode (mB m) pc = .ok (.aload i, 2)) (hk : L[q]? = some (i, .ref x)) (h : X m (pc + 2) L (.ref x :: S) M b Q) : X m pc L S M b Q := X_pu h (fun hL hS => ⟨hL, ok1 hS (hL _ (List.mem_of_getElem? hk))⟩) (fun C hl k => lv_aload C.1 C.2.1 hd (lv_at hl q (lmap hk)) (k _ hl))
theorem x_istore_n {k : Fin 4} {i : Nat} {x : Int32} {L' : List (Nat × Value)} (hd : decode (mB m) pc = .ok (.istore_n k, 1)) (hi : (k : Nat) = i) (hn : i < mL m) (he : (i, Value.int x) :: L.filter (fun q => !(q.1 == i) && !(q.1 + 1 == i && q.2.category == 2)) = L') (h : X m (pc + 1) L' S M b Q) : X m pc L (.int x :: S) M b Q := by
  subst he
  exact X_pu h (fun hL hS => ⟨okL1 hL trivial, tl hS⟩) (fun C hl k => lv_istore_n C.1 C.2.1 hd hi hl hn (lfil1 _ _ _ (.int x)) (fun ls hl => k ls hl))
theorem x_istore {i : Nat} {x : Int32} {L' : List (Nat × Value)} (hd : decode (mB m) pc = .ok (.istore i, 2)) (hn : i < mL m) (he : (i, Value.int x) :: L.filter (fun q => !(q.1 == i) && !(q.1 + 1 == i && q.2.category == 2)) = L') (h : X m (pc + 2) L' S M b Q) : X m pc L (.int x :: S) M b Q := by
  subst he
  exact X_pu h (fun hL hS => ⟨okL1 hL trivial, tl hS⟩) (fun C hl k => lv_istore C.1 C.2.1 hd hl hn (lfil1 _ _ _ (.int x)) (fun ls hl => k ls hl))
theorem x_lstore_n {k : Fin 4} {i : Nat} {x : Int64} {L' : List (Nat × Value)} (hd : decode (mB m) pc = .ok (.lstore_n k, 1)) (hi : (k : Nat) = i) (hn : i + 1 < mL m) (he : (i, Value.long x) :: L.filter (fun q => !(q.1 == i) && (!(q.1 == i + 1) && !(q.1 + 1 == i && q.2.category == 2))) = L') (h : X m (pc + 1) L' S M b Q) : X m pc L (.long x :: S) M b Q := by
  subst he
  exact X_pu h (fun hL hS => ⟨okL1 hL trivial, tl hS⟩) (fun C hl k => lv_lstore_n C.1 C.2.1 hd hi hl hn (lfil2 _ _ _ (.long x)) (fun ls hl => k ls hl))
theorem x_lstore {i : Nat} {x : Int64} {L' : List (Nat × Value)} (hd : decode (mB m) pc = .ok (.lstore i, 2)) (hn : i + 1 < mL m) (he : (i, Value.long x) :: L.filter (fun q => !(q.1 == i) && (!(q.1 == i + 1) && !(q.1 + 1 == i && q.2.category == 2))) = L') (h : X m (pc + 2) L' S M b Q) : X m pc L (.long x :: S) M b Q := by
  subst he
  exact X_pu h (fun hL hS => ⟨okL1 hL trivial, tl hS⟩) (fun C hl k => lv_lstore C.1 C.2.1 hd hl hn (lfil2 _ _ _ (.long x)) (fun ls hl => k ls hl))
theorem x_astore_n {k : Fin 4} {i : Nat} {x : Nat} {L' : List (Nat × Value)} (hd : decode (mB m) pc = .ok (.astore_n k, 1)) (hi : (k : Nat) = i) (hn : i < mL m) (he : (i, Value.ref x) :: L.filter (fun q => !(q.1 == i) && !(q.1 + 1 == i && q.2.category == 2)) = L') (h : X m (pc + 1) L' S M b Q) : X m pc L (.ref x :: S) M b Q := by
  subst he
  exact X_pu h (fun hL hS => ⟨okL1 hL (hS _ List.mem_cons_self), tl hS⟩) (fun C hl k => lv_astore_n C.1 C.2.1 hd hi hl hn (lfil1 _ _ _ (.ref x)) (fun ls hl => k ls hl))
theorem x_astore {i : Nat} {x : Nat} {L' : List (Nat × Value)} (hd : decode (mB m) pc = .ok (.astore i, 2)) (hn : i < mL m) (he : (i, Value.ref x) :: L.filter (fun q => !(q.1 == i) && !(q.1 + 1 == i && q.2.category == 2)) = L') (h : X m (pc + 2) L' S M b Q) : X m pc L (.ref x :: S) M b Q := by
  subst he
  exact X_pu h (fun hL hS => ⟨okL1 hL (hS _ List.mem_cons_self), tl hS⟩) (fun C hl k => lv_astore C.1 C.2.1 hd hl hn (lfil1 _ _ _ (.ref x)) (fun ls hl => k ls hl))
theorem x_iinc {i q : Nat} {n : Int} {x v : Int32} {L' : List (Nat × Value)} (hd : decode (mB m) pc = .ok (.iinc i n, 3)) (hk : L[q]? = some (i, .int x)) (hv : x + Int32.ofInt n = v) (hn : i < mL m) (he : (i, Value.int v) :: L.filter (fun q => !(q.1 == i) && !(q.1 + 1 == i && q.2.category == 2)) = L') (h : X m (pc + 3) L' S M b Q) : X m pc L S M b Q := by
  subst he
  exact X_pu h (fun hL hS => ⟨okL1 hL trivial, hS⟩) (fun C hl k => lv_iinc C.1 C.2.1 hd hl (lmap hk) hv hn (lfil1 _ _ _ (.int v)) (fun ls hl => k ls hl))
theorem x_dup {v : Value} (hd : decode (mB m) pc = .ok (.dup, 1)) (hc : v.category = 1) (h : X m (pc + 1) L (v :: v :: S) M b Q) : X m pc L (v :: S) M b Q := X_pu h (fun hL hS => ⟨hL, ok1 hS (hS _ List.mem_cons_self)⟩) (fun C hl k => lv_dup C.1 C.2.1 hd ((cz_cat _ v).trans hc) (k _ hl))
theorem x_pop {v : Value} (hd : decode (mB m) pc = .ok (.pop, 1)) (hc : v.category = 1) (h : X m (pc + 1) L S M b Q) : X m pc L (v :: S) M b Q := X_pu h (fun hL hS => ⟨hL, tl hS⟩) (fun C hl k => lv_pop C.1 C.2.1 hd ((cz_cat _ v).trans hc) (k _ hl))
theorem x_dup2 {v w : Value} (hd : decode (mB m) pc = .ok (.dup2, 1)) (hc : v.category = 1) (hw : w.category = 1) (h : X m (pc + 1) L (v :: w :: v :: w :: S) M b Q) : X m pc L (v :: w :: S) M b Q := X_pu h (fun hL hS => ⟨hL, ok1 (ok1 hS ((tl hS) _ List.mem_cons_self)) (hS _ List.mem_cons_self)⟩) (fun C hl k => lv_dup2_11 C.1 C.2.1 hd ((cz_cat _ v).trans hc) ((cz_cat _ w).trans hw) (k _ hl))
theorem x_dup2L {x : Int64} (hd : decode (mB m) pc = .ok (.dup2, 1)) (h : X m (pc + 1) L (.long x :: .long x :: S) M b Q) : X m pc L (.long x :: S) M b Q := X_pu h (fun hL hS => ⟨hL, ok1 hS trivial⟩) (fun C hl k => lv_dup2_2 C.1 C.2.1 hd rfl (k _ hl))
theorem x_goto {off : Int} {t : Nat} (hd : decode (mB m) pc = .ok (.goto off, 3)) (ht : (pc : Int) + off = (t : Int)) (h : X m t L S M b Q) : X m pc L S M b Q := X_pu h (fun hL hS => ⟨hL, hS⟩) (fun C hl k => lv_goto C.1 C.2.1 hd ht (k _ hl))
theorem x_if_eq {x : Int32} {off : Int} {t : Nat} (hd : decode (mB m) pc = .ok (.ifCond .eq off, 3)) (ht : (pc : Int) + off = (t : Int)) (h1 : x = 0 → X m t L S M b Q) (h2 : ¬ x = 0 → X m (pc + 3) L S M b Q) : X m pc L (.int x :: S) M b Q := by
  intro g p l e R s mid args below meth c Z C hR H locs cells slots ls hH hw hL hS hl hs hc hc2
  exact lv_if_eq C.1 C.2.1 hd ht (fun q => h1 q g p l e R s mid args below meth c Z C hR H locs cells slots ls hH hw hL (tl hS) hl hs hc hc2) (fun q => h2 q g p l e R s mid args below meth c Z C hR H locs cells slots ls hH hw hL (tl hS) hl hs hc hc2)
theorem x_icmp_eq {x y : Int32} {off : Int} {t : Nat} (hd : decode (mB m) pc = .ok (.if_icmp .eq off, 3)) (ht : (pc : Int) + off = (t : Int)) (h1 : x = y → X m t L S M b Q) (h2 : ¬ x = y → X m (pc + 3) L S M b Q) : X m pc L (.int y :: .int x :: S) M b Q := by
  intro g p l e R s mid args below meth c Z C hR H locs cells slots ls hH hw hL hS hl hs hc hc2
  exact lv_icmp_eq C.1 C.2.1 hd ht (fun q => h1 q g p l e R s mid args below meth c Z C hR H locs cells slots ls hH hw hL (tl (tl hS)) hl hs hc hc2) (fun q => h2 q g p l e R s mid args below meth c Z C hR H locs cells slots ls hH hw hL (tl (tl hS)) hl hs hc hc2)
theorem x_if_ne {x : Int32} {off : Int} {t : Nat} (hd : decode (mB m) pc = .ok (.ifCond .ne off, 3)) (ht : (pc : Int) + off = (t : Int)) (h1 : ¬ x = 0 → X m t L S M b Q) (h2 : x = 0 → X m (pc + 3) L S M b Q) : X m pc L (.int x :: S) M b Q := by
  intro g p l e R s mid args below meth c Z C hR H locs cells slots ls hH hw hL hS hl hs hc hc2
  exact lv_if_ne C.1 C.2.1 hd ht (fun q => h1 q g p l e R s mid args below meth c Z C hR H locs cells slots ls hH hw hL (tl hS) hl hs hc hc2) (fun q => h2 q g p l e R s mid args below meth c Z C hR H locs cells slots ls hH hw hL (tl hS) hl hs hc hc2)
theorem x_icmp_ne {x y : Int32} {off : Int} {t : Nat} (hd : decode (mB m) pc = .ok (.if_icmp .ne off, 3)) (ht : (pc : Int) + off = (t : Int)) (h1 : ¬ x = y → X m t L S M b Q) (h2 : x = y → X m (pc + 3) L S M b Q) : X m pc L (.int y :: .int x :: S) M b Q := by
  intro g p l e R s mid args below meth c Z C hR H locs cells slots ls hH hw hL hS hl hs hc hc2
  exact lv_icmp_ne C.1 C.2.1 hd ht (fun q => h1 q g p l e R s mid args below meth c Z C hR H locs cells slots ls hH hw hL (tl (tl hS)) hl hs hc hc2) (fun q => h2 q g p l e R s mid args below meth c Z C hR H locs cells slots ls hH hw hL (tl (tl hS)) hl hs hc hc2)
theorem x_if_lt {x : Int32} {off : Int} {t : Nat} (hd : decode (mB m) pc = .ok (.ifCond .lt off, 3)) (ht : (pc : Int) + off = (t : Int)) (h1 : x < 0 → X m t L S M b Q) (h2 : ¬ x < 0 → X m (pc + 3) L S M b Q) : X m pc L (.int x :: S) M b Q := by
  intro g p l e R s mid args below meth c Z C hR H locs cells slots ls hH hw hL hS hl hs hc hc2
  exact lv_if_lt C.1 C.2.1 hd ht (fun q => h1 q g p l e R s mid args below meth c Z C hR H locs cells slots ls hH hw hL (tl hS) hl hs hc hc2) (fun q => h2 q g p l e R s mid args below meth c Z C hR H locs cells slots ls hH hw hL (tl hS) hl hs hc hc2)
theorem x_icmp_lt {x y : Int32} {off : Int} {t : Nat} (hd : decode (mB m) pc = .ok (.if_icmp .lt off, 3)) (ht : (pc : Int) + off = (t : Int)) (h1 : x < y → X m t L S M b Q) (h2 : ¬ x < y → X m (pc + 3) L S M b Q) : X m pc L (.int y :: .int x :: S) M b Q := by
  intro g p l e R s mid args below meth c Z C hR H locs cells slots ls hH hw hL hS hl hs hc hc2
  exact lv_icmp_lt C.1 C.2.1 hd ht (fun q => h1 q g p l e R s mid args below meth c Z C hR H locs cells slots ls hH hw hL (tl (tl hS)) hl hs hc hc2) (fun q => h2 q g p l e R s mid args below meth c Z C hR H locs cells slots ls hH hw hL (tl (tl hS)) hl hs hc hc2)
theorem x_if_ge {x : Int32} {off : Int} {t : Nat} (hd : decode (mB m) pc = .ok (.ifCond .ge off, 3)) (ht : (pc : Int) + off = (t : Int)) (h1 : 0 ≤ x → X m t L S M b Q) (h2 : ¬ 0 ≤ x → X m (pc + 3) L S M b Q) : X m pc L (.int x :: S) M b Q := by
  intro g p l e R s mid args below meth c Z C hR H locs cells slots ls hH hw hL hS hl hs hc hc2
  exact lv_if_ge C.1 C.2.1 hd ht (fun q => h1 q g p l e R s mid args below meth c Z C hR H locs cells slots ls hH hw hL (tl hS) hl hs hc hc2) (fun q => h2 q g p l e R s mid args below meth c Z C hR H locs cells slots ls hH hw hL (tl hS) hl hs hc hc2)
theorem x_icmp_ge {x y : Int32} {off : Int} {t : Nat} (hd : decode (mB m) pc = .ok (.if_icmp .ge off, 3)) (ht : (pc : Int) + off = (t : Int)) (h1 : y ≤ x → X m t L S M b Q) (h2 : ¬ y ≤ x → X m (pc + 3) L S M b Q) : X m pc L (.int y :: .int x :: S) M b Q := by
  intro g p l e R s mid args below meth c Z C hR H locs cells slots ls hH hw hL hS hl hs hc hc2
  exact lv_icmp_ge C.1 C.2.1 hd ht (fun q => h1 q g p l e R s mid args below meth c Z C hR H locs cells slots ls hH hw hL (tl (tl hS)) hl hs hc hc2) (fun q => h2 q g p l e R s mid args below meth c Z C hR H locs cells slots ls hH hw hL (tl (tl hS)) hl hs hc hc2)
theorem x_if_gt {x : Int32} {off : Int} {t : Nat} (hd : decode (mB m) pc = .ok (.ifCond .gt off, 3)) (ht : (pc : Int) + off = (t : Int)) (h1 : 0 < x → X m t L S M b Q) (h2 : ¬ 0 < x → X m (pc + 3) L S M b Q) : X m pc L (.int x :: S) M b Q := by
  intro g p l e R s mid args below meth c Z C hR H locs cells slots ls hH hw hL hS hl hs hc hc2
  exact lv_if_gt C.1 C.2.1 hd ht (fun q => h1 q g p l e R s mid args below meth c Z C hR H locs cells slots ls hH hw hL (tl hS) hl hs hc hc2) (fun q => h2 q g p l e R s mid args below meth c Z C hR H locs cells slots ls hH hw hL (tl hS) hl hs hc hc2)
theorem x_icmp_gt {x y : Int32} {off : Int} {t : Nat} (hd : decode (mB m) pc = .ok (.if_icmp .gt off, 3)) (ht : (pc : Int) + off = (t : Int)) (h1 : y < x → X m t L S M b Q) (h2 : ¬ y < x → X m (pc + 3) L S M b Q) : X m pc L (.int y :: .int x :: S) M b Q := by
  intro g p l e R s mid args below meth c Z C hR H locs cells slots ls hH hw hL hS hl hs hc hc2
  exact lv_icmp_gt C.1 C.2.1 hd ht (fun q => h1 q g p l e R s mid args below meth c Z C hR H locs cells slots ls hH hw hL (tl (tl hS)) hl hs hc hc2) (fun q => h2 q g p l e R s mid args below meth c Z C hR H locs cells slots ls hH hw hL (tl (tl hS)) hl hs hc hc2)
theorem x_if_le {x : Int32} {off : Int} {t : Nat} (hd : decode (mB m) pc = .ok (.ifCond .le off, 3)) (ht : (pc : Int) + off = (t : Int)) (h1 : x ≤ 0 → X m t L S M b Q) (h2 : ¬ x ≤ 0 → X m (pc + 3) L S M b Q) : X m pc L (.int x :: S) M b Q := by
  intro g p l e R s mid args below meth c Z C hR H locs cells slots ls hH hw hL hS hl hs hc hc2
  exact lv_if_le C.1 C.2.1 hd ht (fun q => h1 q g p l e R s mid args below meth c Z C hR H locs cells slots ls hH hw hL (tl hS) hl hs hc hc2) (fun q => h2 q g p l e R s mid args below meth c Z C hR H locs cells slots ls hH hw hL (tl hS) hl hs hc hc2)
theorem x_icmp_le {x y : Int32} {off : Int} {t : Nat} (hd : decode (mB m) pc = .ok (.if_icmp .le off, 3)) (ht : (pc : Int) + off = (t : Int)) (h1 : x ≤ y → X m t L S M b Q) (h2 : ¬ x ≤ y → X m (pc + 3) L S M b Q) : X m pc L (.int y :: .int x :: S) M b Q := by
  intro g p l e R s mid args below meth c Z C hR H locs cells slots ls hH hw hL hS hl hs hc hc2
  exact lv_icmp_le C.1 C.2.1 hd ht (fun q => h1 q g p l e R s mid args below meth c Z C hR H locs cells slots ls hH hw hL (tl (tl hS)) hl hs hc hc2) (fun q => h2 q g p l e R s mid args below meth c Z C hR H locs cells slots ls hH hw hL (tl (tl hS)) hl hs hc hc2)
/-! fields -/
def FL (own : String) (i c k : Nat) : Prop := c < 12 ∧ k < kN c ∧ Cond.fieldLink own i (kT c k).1 (kT c k).2.1 (kT c k).2.2.1 ∈ TG
theorem okA_of {a : Nat} (h : okv M (.ref a)) (hk : a % 64 < 61) : okA M a := by
  have h' : ((a % 64 = 63 ∨ a % 64 = 61) ∧ a / 64 < 6) ∨ a = 62 ∨ okA M a := h
  rcases h' with h | h | h
  · omega
  · omega
  · exact h
theorem kd62 {a k : Nat} (h : a % 64 = k) (hk : k < 61) : a % 64 < 61 := by omega
theorem x_getV {a i c k : Nat} {v : Value} (hd : decode (mB m) pc = .ok (.getfield i, 3)) (ha : a % 64 = c) (hl : FL (mY m).cls i c k) (hv : ∀ g : Ev, WF M → fv g M c a k = cz g v) (hok : WF M → okv M v) (h : X m (pc + 3) L (v :: S) M b Q) : X m pc L (.ref a :: S) M b Q := by
  intro g p l e R s mid args below meth cc Z C hR H locs cells slots ls hH hw hL hS hl2 hs hc hc2
  obtain ⟨h12, hk, hlk⟩ := hl
  have hA : okA M a := okA_of (hS _ List.mem_cons_self) (by omega)
  have K := h g p l e R s mid args below meth cc Z C hR H locs cells slots ls hH hw hL (ok1 (tl hS) (hok hw)) hl2 hs hc hc2
  show W p l e R s mid args below meth cc H locs cells slots Z (F0 mid pc ls (.ref (ca g a) :: S.map (cz g)))
  rw [ca_ok hw hA]
  refine va_get C.1 C.2.1 (Ts := TG) C.2.2.2.2.1 (k_i h12) C.2.2.2.1 C.2.2.2.2.2.2.2.1 hH.2 (a / 64) (fs := (List.range (kN c)).map (fv g M c a)) (by rw [wl_at hA, ha, ce_O h12]) (k_c h12) k hk (C.2.2.2.2.1 _ hlk) (fun x h => h) (v := cz g v) (by rw [List.getElem?_map, List.getElem?_range hk, ← hv g hw]; rfl) hd K
theorem x_getI {a i c k : Nat} (hd : decode (mB m) pc = .ok (.getfield i, 3)) (ha : a % 64 = c) (hl : FL (mY m).cls i c k) (ht : isI (kY c k) = true) (h : X m (pc + 3) L (.int (gi M a k) :: S) M b Q) : X m pc L (.ref a :: S) M b Q :=
  x_getV (v := .int (gi M a k)) hd ha hl (fun g _ => by unfold fv; rw [if_pos ht]; rfl) (fun _ => trivial) h
theorem x_getR {a i c k r : Nat} (hd : decode (mB m) pc = .ok (.getfield i, 3)) (ha : a % 64 = c) (hl : FL (mY m).cls i c k) (ht : isI (kY c k) = false) (hr : gr M a k = some r) (h : X m (pc + 3) L (.ref r :: S) M b Q) : X m pc L (.ref a :: S) M b Q :=
  x_getV (v := .ref r) hd ha hl (fun g _ => by unfold fv; rw [if_neg (by rw [ht]; decide), hr]; rfl) (fun hw => Or.inr (Or.inr (hw.2 _ _ _ hr).1)) h
theorem ls_ok {N : Mm} (h : KM M N) (k : ∀ q ∈ L, okv M q.2) : ∀ q ∈ L, okv N q.2 := fun q hq => km_okv h (k q hq)
theorem st_ok {N : Mm} (h : KM M N) (k : ∀ q ∈ S, okv M q) : ∀ q ∈ S, okv N q := fun q hq => km_okv h (k q hq)
theorem cx_km {g : Ev} {p : Program} {R : Room} {s : State} {mid : MethodId} {args : Array Value} {meth : Method} {c : Code} {N : Mm} (h : KM M N) (C : Cx m g M.1.2 (gi M 62) p R s mid args meth c) : Cx m g N.1.2 (gi N 62) p R s mid args meth c := by
  have e : gi N 62 = gi M 62 := funext h.2.2
  rw [h.2.1, e]
  exact C
theorem rt_km {g : Ev} {p : Program} {l : Launch} {e : Env} {R : Room} {s : State} {mid : MethodId} {args : Array Value} {below : List Frame} {meth : Method} {c : Code} {Z : State → Prop} {N : Mm} (h : KM M N) (C : Rt m g p l e R s mid args below meth c Z M Q) : Rt m g p l e R s mid args below meth c Z N Q :=
  fun r O H locs cells slots pc ls h1 h2 h3 h4 h5 => C r O H locs cells slots pc ls h1 h2 h3 h4 (km_tr h h5)
/-- one cell is written: the world behind it -/
theorem hr_set {g : Ev} {H H1 : Heap} {N : Mm} {a : Nat} (hH : HR g M H) (hw : WF M) (hA : okA M a) (hs : N.1.1 = M.1.1) (hI : ∀ b, b ≠ a → gi N b = gi M b ∧ gl N b = gl M b ∧ gr N b = gr M b) (hz : H1.size = H.size) (oq : ∀ q : Nat, q ≠ eb g + a / 64 → H1[q]? = H[q]?) (hat : va_at (eD g) KC (eb g + a / 64, ce g N (a % 64) a) H1) : HR g N H1 :=
  ⟨by rw [hz, hs]; exact hH.1, wl_set (g := g) hw hA hs hI rfl ▸ va_P.set hH.2 (wl_D g M) (wl_at hA) hat oq⟩
theorem fA_a {g : Ev} {a : Nat} : fA g (eb g + a / 64) := Nat.le_add_right _ _
theorem x_putV {a i c k : Nat} {v : Value} {N : Mm} (hd : decode (mB m) pc = .ok (.putfield i, 3)) (ha : a % 64 = c) (hl : FL (mY m).cls i c k) (hf : (kT c k).2.2.2 = false ∨ ((kT c k).2.2.2 = true ∧ (mY m).name = "<init>" ∧ (kT c k).1 = (mY m).cls))
    (hn : ∀ g, narrow (kY c k) (cz g v) = cz g v) (hfit : ∀ g, fits (kY c k) (cz g v) = true) (hs : N.1.1 = M.1.1) (hkm : KM M N) (hwf : WF M → okA M a → okv M v → WF N) (hI : ∀ b, b ≠ a → gi N b = gi M b ∧ gl N b = gl M b ∧ gr N b = gr M b) (he : ∀ g : Ev, ((List.range (kN c)).map (fv g M c a)).set k (cz g v) = (List.range (kN c)).map (fv g N c a)) (h : X m (pc + 3) L S N b Q) : X m pc L (v :: .ref a :: S) M b Q := by
  intro g p l e R s mid args below meth cc Z C hR H locs cells slots ls hH hw hL hS hl2 hss hc hc2
  obtain ⟨h12, hk, hlk⟩ := hl
  have hA : okA M a := okA_of (hS _ (List.mem_cons_of_mem _ List.mem_cons_self)) (by omega)
  have hlen : k < ((List.range (kN c)).map (fv g M c a)).length := by simpa using hk
  show W p l e R s mid args below meth cc H locs cells slots Z (F0 mid pc ls (cz g v :: .ref (ca g a) :: S.map (cz g)))
  rw [ca_ok hw hA]
  have hat : (wl g M)[a / 64]? = some (eb g + a / 64, .inr (c, (List.range (kN c)).map (fv g M c a))) := by rw [wl_at hA, ha, ce_O h12]
  have hts := C.2.2.2.2.1
  have hK := C.2.2.2.2.2.2.2.1
  have hap := va_apart (own := (mY m).cls) hts (k_i h12) (kY c) (k_p h12) (k_n h12) hK (k_c h12)
  obtain ⟨r, h1, cell, q1, q2, q3, q4⟩ := hH.2 _ _ hat
  have hr : r = (kC c, kT c, kN c) := Option.some.inj (h1.symm.trans (k_c h12))
  subst hr
  obtain ⟨hSl, hfc, kC', hkC, hkind⟩ := hK.1 c _ (k_c h12)
  obtain ⟨cf, kf, fi, f, hi, hsl⟩ := hSl k hk
  have hlay := u_lays hts (k_i h12) hk
  have hst := (u_facts hfc hkC hlay hi).1
  have h6 := u_fits hfc hkC hkind hlay hi (k_p h12 k hk) (hn g) (hfit g)
  have hfin : hasFlag f.accessFlags Acc.final = false ∨ (mid.cls = cf ∧ meth.name = "<init>") := by
    have hl0 := hts _ (k_i h12 _ (u_in_lay hk))
    unfold u_lay at hl0
    rcases hf with hf | ⟨hf, hi2, hdc⟩
    · rw [if_neg (by rw [hf]; decide)] at hl0
      obtain ⟨c0, k0, cf', kf', fi', fd', -, -, hi', -, hfi, -⟩ := Cond.lays_spec hl0
      cases hi.symm.trans hi'
      exact Or.inl hfi
    · rw [if_pos hf] at hl0
      obtain ⟨_, _, c', _, _, _, -, -, hf', -, -, -, hown2, -⟩ := Cond.laysFinal_spec hl0
      have e1 : c' = cf := by have := hi.symm.trans hf'; simp at this; exact this.1.symm
      rw [hdc] at hown2
      exact Or.inr ⟨by rw [← e1]; exact Option.some.inj (C.2.2.2.1.symm.trans hown2), C.2.2.2.2.2.2.1.trans hi2⟩
  refine W.putf C.1 C.2.1 C.2.2.2.1 (hts _ hlk) hi hst hfin q1 (by rw [q3]; exact fun h => by cases h) (by rw [hsl]; exact k2_hasslot (q4 k hk)) h6.1 (by rw [q2, q3]; exact h6.2) rfl rfl hd ?_
  have hlt : eb g + a / 64 < H.size := (Array.getElem?_eq_some_iff.mp q1).1
  generalize hH1 : H.setIfInBounds (eb g + a / 64) (cell.setSlot f.slot (cz g v)) = H1
  have z : H1.size = H.size := by rw [← hH1]; simp
  have oq : ∀ q : Nat, q ≠ eb g + a / 64 → H1[q]? = H[q]? := fun q hq => by rw [← hH1]; simp [Array.getElem?_setIfInBounds, Ne.symm hq]
  have e1 : H1[eb g + a / 64]? = some (cell.setSlot f.slot (cz g v)) := by rw [← hH1]; simp [Array.getElem?_setIfInBounds, hlt]
  rw [hsl] at e1
  have hat1 : va_at (eD g) KC (eb g + a / 64, ce g N (a % 64) a) H1 := by
    rw [ha, ce_O h12, ← he g]
    exact ⟨_, k_c h12, t_OB.to (V := updV (vp_V ((List.range (kN c)).map (fv g M c a))) k (cz g v)) ⟨_, e1, q2, q3, t_set q4 hap hk (cz g v)⟩ (fun j _ => vp_updV_set hlen (cz g v) j)⟩
  exact h g p l e R s mid args below meth cc Z (cx_km hkm C) (rt_km hkm hR) H1 _ cells slots ls (hr_set hH hw hA hs hI z oq hat1) (hwf hw hA (hS _ List.mem_cons_self)) (ls_ok hkm hL) (st_ok hkm (tl (tl hS))) hl2 (hss.put z oq fA_a) hc hc2
theorem fv_si (g : Ev) {c a k : Nat} {x : Int32} (ht : isI (kY c k) = true) : ((List.range (kN c)).map (fv g M c a)).set k (cz g (.int x)) = (List.range (kN c)).map (fv g (si M a k x) c a) := by
  refine range_set _ _ _ _ _ ?_
  funext j
  unfold fv
  by_cases hk : j = k
  · subst hk
    rw [if_pos ht, if_pos rfl, gi_at]
    simp [cz]
  · rw [if_neg hk, gi_at]
    simp only [if_neg hk]
    rfl
theorem fv_sr (g : Ev) {c a k r : Nat} (ht : isI (kY c k) = false) : ((List.range (kN c)).map (fv g M c a)).set k (cz g (.ref r)) = (List.range (kN c)).map (fv g (sr M a k (some r)) c a) := by
  refine range_set _ _ _ _ _ ?_
  funext j
  unfold fv
  by_cases hk : j = k
  · subst hk
    rw [if_neg (by rw [ht]; decide), if_pos rfl, gr_at]
    simp [va_rf, cz]
  · rw [if_neg hk, gr_at]
    simp only [if_neg hk]
    rfl
theorem x_putI {a i c k : Nat} {x : Int32} (hd : decode (mB m) pc = .ok (.putfield i, 3)) (ha : a % 64 = c) (hl : FL (mY m).cls i c k) (hf : (kT c k).2.2.2 = false) (ht : kY c k = .int) (h : X m (pc + 3) L S (si M a k x) b Q) : X m pc L (.int x :: .ref a :: S) M b Q :=
  x_putV (v := .int x) (N := si M a k x) hd ha hl (Or.inl hf) (fun g => by rw [ht]; rfl) (fun g => by rw [ht]; rfl) rfl (km_si (fun e => by subst e; have := hl.1; omega)) (fun hw _ _ => wf_si hw) (fun b hb => ⟨gi_ne hb, rfl, rfl⟩) (fun g => fv_si g (by rw [ht]; rfl)) h
theorem x_putZ {a i c k : Nat} {x : Int32} (hd : decode (mB m) pc = .ok (.putfield i, 3)) (ha : a % 64 = c) (hl : FL (mY m).cls i c k) (hf : (kT c k).2.2.2 = false) (ht : kY c k = .boolean) (hx : x = 0 ∨ x = 1) (h : X m (pc + 3) L S (si M a k x) b Q) : X m pc L (.int x :: .ref a :: S) M b Q :=
  x_putV (v := .int x) (N := si M a k x) hd ha hl (Or.inl hf) (fun g => by rw [ht]; rcases hx with rfl | rfl <;> rfl) (fun g => by rw [ht]; rcases hx with rfl | rfl <;> rfl) rfl (km_si (fun e => by subst e; have := hl.1; omega)) (fun hw _ _ => wf_si hw) (fun b hb => ⟨gi_ne hb, rfl, rfl⟩) (fun g => fv_si g (by rw [ht]; rfl)) h
theorem x_putR {a i c k r : Nat} (hd : decode (mB m) pc = .ok (.putfield i, 3)) (ha : a % 64 = c) (hl : FL (mY m).cls i c k) (hf : (kT c k).2.2.2 = false ∨ ((kT c k).2.2.2 = true ∧ (mY m).name = "<init>" ∧ (kT c k).1 = (mY m).cls)) (ht : (∃ n, kY c k = .object n) ∨ ∃ t, kY c k = .array t) (hr : r % 64 = rK c k) (hr2 : rK c k < 61) (h : X m (pc + 3) L S (sr M a k (some r)) b Q) : X m pc L (.ref r :: .ref a :: S) M b Q := by
  refine x_putV (v := .ref r) (N := sr M a k (some r)) hd ha hl hf (fun g => ?_) (fun g => ?_) rfl km_sr (fun hw _ hv => wf_sr hw (okA_of hv (by omega)) (by rw [ha]; exact hr)) (fun b hb => ⟨rfl, rfl, gr_ne hb⟩) (fun g => fv_sr g (by rcases ht with ⟨n, e⟩ | ⟨n, e⟩ <;> rw [e] <;> rfl)) h
  · rcases ht with ⟨n, e⟩ | ⟨n, e⟩ <;> rw [e] <;> rfl
  · rcases ht with ⟨n, e⟩ | ⟨n, e⟩ <;> rw [e] <;> rfl
/-! arrays -/
/-- an array of this kind: not an object; its type t, its length n -/
def AK (k t n : Nat) : Prop := ¬ k < 12 ∧ k < 61 ∧ aK k = (t, n) ∧ t < 6
theorem ty_at (g : Ev) {t : Nat} (h : t < 6) : (tys g)[t]? = some (eA g t, aT t) := by
  match t, h with
  | 0, _ => rfl
  | 1, _ => rfl
  | 2, _ => rfl
  | 3, _ => rfl
  | 4, _ => rfl
  | 5, _ => rfl
theorem x_aldI {a k t n : Nat} {ins : Instr} {i : Int32} (ht : (t = 0 ∧ ins = .iaload) ∨ (t = 2 ∧ ins = .baload) ∨ (t = 3 ∧ ins = .baload)) (hd : decode (mB m) pc = .ok (ins, 1)) (ha : a % 64 = k) (hk : AK k t n) (hi : vp_in i n) (h : X m (pc + 1) L (.int (gi M a i.toNatClampNeg) :: S) M b Q) : X m pc L (.int i :: .ref a :: S) M b Q := by
  intro g p l e R s mid args below meth cc Z C hR H locs cells slots ls hH hw hL hS hl2 hss hc hc2
  obtain ⟨k1, k2, k3, k4⟩ := hk
  have hA : okA M a := okA_of ((tl hS) _ List.mem_cons_self) (by omega)
  have K := h g p l e R s mid args below meth cc Z C hR H locs cells slots ls hH hw hL (ok1 (tl (tl hS)) trivial) hl2 hss hc hc2
  show W p l e R s mid args below meth cc H locs cells slots Z (F0 mid pc ls (.int i :: .ref (ca g a) :: S.map (cz g)))
  rw [ca_ok hw hA]
  have hat : (wl g M)[a / 64]? = some (eb g + a / 64, .inl (eA g t, n, .inl (gi M a))) := by
    rw [wl_at hA, ha, ce_I k1 (by rw [k3]; show t ≠ 1; rcases ht with h | h | h <;> omega) (by rw [k3]; show t < 4; rcases ht with h | h | h <;> omega), k3]
  have hK := C.2.2.2.2.2.2.2.1
  rcases ht with ⟨rfl, rfl⟩ | ⟨rfl, rfl⟩ | ⟨rfl, rfl⟩
  · exact va_iald C.1 C.2.1 hK hH.2 (a / 64) 0 hat (ty_at g (by omega)) hi hd K
  · exact va_bald C.1 C.2.1 hK hH.2 (a / 64) 2 hat (ty_at g (by omega)) hi hd K
  · exact va_zald C.1 C.2.1 hK hH.2 (a / 64) 3 hat (ty_at g (by omega)) hi hd K
theorem x_aldL {a k n : Nat} {i : Int32} (hd : decode (mB m) pc = .ok (.laload, 1)) (ha : a % 64 = k) (hk : AK k 1 n) (hi : vp_in i n) (h : X m (pc + 1) L (.long (gl M a i.toNatClampNeg) :: S) M b Q) : X m pc L (.int i :: .ref a :: S) M b Q := by
  intro g p l e R s mid args below meth cc Z C hR H locs cells slots ls hH hw hL hS hl2 hss hc hc2
  obtain ⟨k1, k2, k3, k4⟩ := hk
  have hA : okA M a := okA_of ((tl hS) _ List.mem_cons_self) (by omega)
  have K := h g p l e R s mid args below meth cc Z C hR H locs cells slots ls hH hw hL (ok1 (tl (tl hS)) trivial) hl2 hss hc hc2
  show W p l e R s mid args below meth cc H locs cells slots Z (F0 mid pc ls (.int i :: .ref (ca g a) :: S.map (cz g)))
  rw [ca_ok hw hA]
  exact va_lald C.1 C.2.1 C.2.2.2.2.2.2.2.1 hH.2 (a / 64) 1 (by rw [wl_at hA, ha, ce_L k1 (by rw [k3]), k3]) (ty_at g (by omega)) hi hd K
theorem x_aldR {a k t n r : Nat} {i : Int32} (ht : t = 4 ∨ t = 5) (hd : decode (mB m) pc = .ok (.aaload, 1)) (ha : a % 64 = k) (hk : AK k t n) (hi : vp_in i n) (hr : gr M a i.toNatClampNeg = some r) (h : X m (pc + 1) L (.ref r :: S) M b Q) : X m pc L (.int i :: .ref a :: S) M b Q := by
  intro g p l e R s mid args below meth cc Z C hR H locs cells slots ls hH hw hL hS hl2 hss hc hc2
  obtain ⟨k1, k2, k3, k4⟩ := hk
  have hA : okA M a := okA_of ((tl hS) _ List.mem_cons_self) (by omega)
  have K := h g p l e R s mid args below meth cc Z C hR H locs cells slots ls hH hw hL (ok1 (tl (tl hS)) (Or.inr (Or.inr (hw.2 _ _ _ hr).1))) hl2 hss hc hc2
  show W p l e R s mid args below meth cc H locs cells slots Z (F0 mid pc ls (.int i :: .ref (ca g a) :: S.map (cz g)))
  rw [ca_ok hw hA]
  have hat : (wl g M)[a / 64]? = some (eb g + a / 64, .inl (eA g t, n, .inr (.inr (.inr (.inr (fun j => (gr M a j).map (ca g))))))) := by
    rw [wl_at hA, ha, ce_R k1 (by rw [k3]; show t ≠ 1; omega) (by rw [k3]; show ¬ t < 4; omega), k3]
  have e2 : va_rf ((gr M a i.toNatClampNeg).map (ca g)) = cz g (.ref r) := by rw [hr]; rfl
  have hK := C.2.2.2.2.2.2.2.1
  rcases ht with rfl | rfl
  · exact va_aldq C.1 C.2.1 hK hH.2 (a / 64) 4 hat (ty_at g (by omega)) hi hd (e2 ▸ K)
  · exact va_aldq C.1 C.2.1 hK hH.2 (a / 64) 5 hat (ty_at g (by omega)) hi hd (e2 ▸ K)
theorem x_alen {a k t n : Nat} {v : Int32} (hd : decode (mB m) pc = .ok (.arraylength, 1)) (ha : a % 64 = k) (hk : AK k t n) (hv : Int32.ofNat n = v) (h : X m (pc + 1) L (.int v :: S) M b Q) : X m pc L (.ref a :: S) M b Q := by
  intro g p l e R s mid args below meth cc Z C hR H locs cells slots ls hH hw hL hS hl2 hss hc hc2
  obtain ⟨k1, k2, k3, k4⟩ := hk
  have hA : okA M a := okA_of (hS _ List.mem_cons_self) (by omega)
  have K := h g p l e R s mid args below meth cc Z C hR H locs cells slots ls hH hw hL (ok1 (tl hS) trivial) hl2 hss hc hc2
  show W p l e R s mid args below meth cc H locs cells slots Z (F0 mid pc ls (.ref (ca g a) :: S.map (cz g)))
  rw [ca_ok hw hA]
  obtain ⟨y, hy⟩ : ∃ y, (wl g M)[a / 64]? = some (eb g + a / 64, .inl (eA g t, n, y)) := by
    rw [wl_at hA, ha]
    by_cases h1 : t = 1
    · subst h1
      exact ⟨_, by rw [ce_L k1 (by rw [k3]), k3]⟩
    · by_cases h4 : t < 4
      · exact ⟨_, by rw [ce_I k1 (by rw [k3]; exact h1) (by rw [k3]; exact h4), k3]⟩
      · exact ⟨_, by rw [ce_R k1 (by rw [k3]; exact h1) (by rw [k3]; exact h4), k3]⟩
  exact va_alen C.1 C.2.1 C.2.2.2.2.2.2.2.1 hH.2 (a / 64) t hy (ty_at g k4) hv hd K
theorem arr_at {s0 : State} {g : Ev} {t : Nat} (hK : va_K (eD g) KC (tys g) s0) (ht : t < 6) : ArrOfT s0 (eA g t) (aT t) := (hK.2 t _ (ty_at g ht)).1
end ROWS
end
section
section ROWS2
variable {m : MI} {pc : Nat} {L : List (Nat × Value)} {S : List Value} {M : Mm} {b : Nat × Nat} {Q : Option Value → Mm → Prop}
theorem kd_ne62 {a k : Nat} (h : a % 64 = k) (hk : k < 61) : a ≠ 62 := fun e => by subst e; omega
theorem in_lt {i : Int32} {n : Nat} (h : vp_in i n) : i.toNatClampNeg < n := Nat.not_le.mp fun q => h (Or.inr q)
theorem x_astI {a k t n : Nat} {ins : Instr} {i x v : Int32} (ht : (t = 0 ∧ ins = .iastore ∧ v = x) ∨ (t = 2 ∧ ins = .bastore ∧ v = vp_nar .byte x) ∨ (t = 3 ∧ ins = .bastore ∧ v = vp_nar .boolean x)) (hd : decode (mB m) pc = .ok (ins, 1)) (ha : a % 64 = k) (hk : AK k t n) (hi : vp_in i n) (h : X m (pc + 1) L S (si M a i.toNatClampNeg v) b Q) : X m pc L (.int x :: .int i :: .ref a :: S) M b Q := by
  intro g p l e R s mid args below meth cc Z C hR H locs cells slots ls hH hw hL hS hl2 hss hc hc2
  obtain ⟨k1, k2, k3, k4⟩ := hk
  have hA : okA M a := okA_of ((tl (tl hS)) _ List.mem_cons_self) (by omega)
  have hkm : KM M (si M a i.toNatClampNeg v) := km_si (kd_ne62 ha k2)
  show W p l e R s mid args below meth cc H locs cells slots Z (F0 mid pc ls (.int x :: .int i :: .ref (ca g a) :: S.map (cz g)))
  rw [ca_ok hw hA]
  have t1 : (aK k).1 ≠ 1 := by rw [k3]; show t ≠ 1; rcases ht with h | h | h <;> omega
  have t4 : (aK k).1 < 4 := by rw [k3]; show t < 4; rcases ht with h | h | h <;> omega
  have hat : va_at (eD g) KC (eb g + a / 64, .inl (eA g t, n, .inl (gi M a))) H := hH.2 (a / 64) _ (by rw [wl_at hA, ha, ce_I k1 t1 t4, k3])
  have hcell : H[eb g + a / 64]? = some (arrV (eA g t) n (fun j => .int (gi M a j))) := hat
  have hsz : ¬ (i < 0 ∨ (arrV (eA g t) n (fun j => .int (gi M a j))).slots.size ≤ i.toNatClampNeg) := by rw [arrV_size]; exact hi
  have fin : ∀ (H1 : Heap), H1[eb g + a / 64]? = some ((arrV (eA g t) n (fun j => .int (gi M a j))).setSlot i.toNatClampNeg (.int v)) → H1.size = H.size → (∀ q, q ≠ eb g + a / 64 → H1[q]? = H[q]?) → W p l e R s mid args below meth cc H1 (locs ++ [⟨eb g + a / 64, i.toNatClampNeg⟩]) cells slots Z (F0 mid (pc + 1) ls (S.map (cz g))) := by
    intro H1 e1 z oq
    refine h g p l e R s mid args below meth cc Z (cx_km hkm C) (rt_km hkm hR) H1 _ cells slots ls (hr_set hH hw hA rfl (fun b hb => ⟨gi_ne hb, rfl, rfl⟩) z oq ?_) (wf_si hw) (ls_ok hkm hL) (st_ok hkm (tl (tl (tl hS)))) hl2 (hss.put z oq fA_a) hc hc2
    rw [ha, ce_I k1 t1 t4, k3]
    show H1[eb g + a / 64]? = some (arrV (eA g t) n (fun j => .int (gi (si M a i.toNatClampNeg v) a j)))
    rw [e1, arrV_store, gi_at]
    congr 2
    funext q
    by_cases hq : q = i.toNatClampNeg
    · subst hq; simp [updV]
    · simp [updV, hq]
  have hK := C.2.2.2.2.2.2.2.1
  have hAr := arr_at (t := t) hK k4 n (fun j => .int (gi M a j))
  rcases ht with ⟨rfl, rfl, rfl⟩ | ⟨rfl, rfl, rfl⟩ | ⟨rfl, rfl, rfl⟩
  · exact W.iast C.1 C.2.1 hcell hAr (fun q => by cases q) hsz rfl rfl hd fin
  · exact W.bast C.1 C.2.1 hcell hAr (fun q => by cases q) hsz rfl rfl hd fin
  · exact W.zast C.1 C.2.1 hcell hAr (fun q => by cases q) hsz rfl rfl hd fin
theorem x_astL {a k n : Nat} {i : Int32} {x : Int64} (hd : decode (mB m) pc = .ok (.lastore, 1)) (ha : a % 64 = k) (hk : AK k 1 n) (hi : vp_in i n) (h : X m (pc + 1) L S (sl M a i.toNatClampNeg x) b Q) : X m pc L (.long x :: .int i :: .ref a :: S) M b Q := by
  intro g p l e R s mid args below meth cc Z C hR H locs cells slots ls hH hw hL hS hl2 hss hc hc2
  obtain ⟨k1, k2, k3, k4⟩ := hk
  have hA : okA M a := okA_of ((tl (tl hS)) _ List.mem_cons_self) (by omega)
  have hkm : KM M (sl M a i.toNatClampNeg x) := km_sl
  show W p l e R s mid args below meth cc H locs cells slots Z (F0 mid pc ls (.long x :: .int i :: .ref (ca g a) :: S.map (cz g)))
  rw [ca_ok hw hA]
  have t1 : (aK k).1 = 1 := by rw [k3]
  have hat : va_at (eD g) KC (eb g + a / 64, .inl (eA g 1, n, .inr (.inl (gl M a)))) H := hH.2 (a / 64) _ (by rw [wl_at hA, ha, ce_L k1 t1, k3])
  have hcell : H[eb g + a / 64]? = some (arrV (eA g 1) n (fun j => .long (gl M a j))) := hat
  have hsz : ¬ (i < 0 ∨ (arrV (eA g 1) n (fun j => .long (gl M a j))).slots.size ≤ i.toNatClampNeg) := by rw [arrV_size]; exact hi
  have hAr := arr_at (t := 1) C.2.2.2.2.2.2.2.1 k4 n (fun j => .long (gl M a j))
  refine W.last C.1 C.2.1 hcell hAr (fun q => by cases q) hsz rfl rfl hd (fun H1 e1 z oq => ?_)
  refine h g p l e R s mid args below meth cc Z (cx_km hkm C) (rt_km hkm hR) H1 _ cells slots ls (hr_set hH hw hA rfl (fun b hb => ⟨rfl, gl_ne hb, rfl⟩) z oq ?_) (wf_sl hw) (ls_ok hkm hL) (st_ok hkm (tl (tl (tl hS)))) hl2 (hss.put z oq fA_a) hc hc2
  rw [ha, ce_L k1 t1, k3]
  show H1[eb g + a / 64]? = some (arrV (eA g 1) n (fun j => .long (gl (sl M a i.toNatClampNeg x) a j)))
  rw [e1, arrV_store, gl_at]
  congr 2
  funext q
  by_cases hq : q = i.toNatClampNeg
  · subst hq; simp [updV]
  · simp [updV, hq]
/-- an array of references gets an object of its own class -/
theorem x_astR {a k t n r c : Nat} {i : Int32} (ht : (t = 4 ∧ c = 9) ∨ (t = 5 ∧ c = 5)) (hd : decode (mB m) pc = .ok (.aastore, 1)) (ha : a % 64 = k) (hk : AK k t n) (hr : r % 64 = c) (hrk : rK k i.toNatClampNeg = c) (hi : vp_in i n) (h : X m (pc + 1) L S (sr M a i.toNatClampNeg (some r)) b Q) : X m pc L (.ref r :: .int i :: .ref a :: S) M b Q := by
  intro g p l e R s mid args below meth cc Z C hR H locs cells slots ls hH hw hL hS hl2 hss hc hc2
  obtain ⟨k1, k2, k3, k4⟩ := hk
  have h12 : c < 12 := by omega
  have hA : okA M a := okA_of ((tl (tl hS)) _ List.mem_cons_self) (by omega)
  have hA2 : okA M r := okA_of (hS _ List.mem_cons_self) (by omega)
  have hkm : KM M (sr M a i.toNatClampNeg (some r)) := km_sr
  show W p l e R s mid args below meth cc H locs cells slots Z (F0 mid pc ls (.ref (ca g r) :: .int i :: .ref (ca g a) :: S.map (cz g)))
  rw [ca_ok hw hA]
  have hcr : ca g r = eb g + r / 64 := ca_ok hw hA2
  have t1 : (aK k).1 ≠ 1 := by rw [k3]; show t ≠ 1; omega
  have t4 : ¬ (aK k).1 < 4 := by rw [k3]; show ¬ t < 4; omega
  have hat : va_at (eD g) KC (eb g + a / 64, .inl (eA g t, n, .inr (.inr (.inr (.inr (fun j => (gr M a j).map (ca g))))))) H := hH.2 (a / 64) _ (by rw [wl_at hA, ha, ce_R k1 t1 t4, k3])
  have hcell : H[eb g + a / 64]? = some (arrV (eA g t) n (fun j => va_rf ((gr M a j).map (ca g)))) := hat
  have h0 : ¬ i < 0 := fun q => hi (Or.inl q)
  obtain ⟨r', hr', cellV, g1, g2, g3, -⟩ := hH.2 (r / 64) _ (by rw [wl_at hA2, hr, ce_O h12])
  have hK := C.2.2.2.2.2.2.2.1
  have hcls := (hK.1 c _ (k_c h12)).2
  have hRA : ∃ (kA : Class) (comp : ClassId), s.vm.classes[eA g t]? = some kA ∧ kA.kind = .array comp (.object (kC c)) ∧ s.vm.findClass (kC c) = some comp := by
    rcases ht with ⟨rfl, rfl⟩ | ⟨rfl, rfl⟩
    · obtain ⟨kA, comp, q1, q2, q3, -⟩ := (hK.2 4 _ (ty_at g k4)).2
      exact ⟨kA, comp, q1, q2, q3⟩
    · obtain ⟨kA, comp, q1, q2, q3, -⟩ := (hK.2 5 _ (ty_at g k4)).2
      exact ⟨kA, comp, q1, q2, q3⟩
  obtain ⟨kA, comp, q1, q2, q3⟩ := hRA
  have hcomp : comp = (eD g).1 c := Option.some.inj (q3.symm.trans hcls.1)
  subst hcomp
  obtain ⟨kC', hkC, -⟩ := hcls.2
  rw [hcr]
  refine W.aast C.1 C.2.1 hcell (fun q h => by cases h) (fun h => by cases h) q1 q2 rfl hkC ⟨h0, by rw [arrV_size]; exact in_lt hi⟩ g1 (fun q h => by rw [g3] at h; cases h) (by rw [g2]; exact hkC) (by rw [g2]; exact va_assign hcls) rfl rfl hd fun H1 e1 z oq => ?_
  refine h g p l e R s mid args below meth cc Z (cx_km hkm C) (rt_km hkm hR) H1 _ cells slots ls (hr_set hH hw hA rfl (fun b hb => ⟨rfl, rfl, gr_ne hb⟩) z oq ?_) (wf_sr hw hA2 (by rw [ha, hrk]; exact hr)) (ls_ok hkm hL) (st_ok hkm (tl (tl (tl hS)))) hl2 (hss.put z oq fA_a) hc hc2
  rw [ha, ce_R k1 t1 t4, k3]
  show H1[eb g + a / 64]? = some (arrV (eA g t) n (fun j => va_rf ((gr (sr M a i.toNatClampNeg (some r)) a j).map (ca g))))
  rw [e1, arrV_store, gr_at]
  congr 2
  funext q
  by_cases hq : q = i.toNatClampNeg
  · subst hq; simp [updV, va_rf, hcr]
  · simp [updV, hq]
/-! the script -/
theorem x_sld {i : Int32} (hd : decode (mB m) pc = .ok (.iaload, 1)) (hi : vp_in i M.1.2) (h : X m (pc + 1) L (.int (gi M 62 i.toNatClampNeg) :: S) M b Q) : X m pc L (.int i :: .ref 62 :: S) M b Q := by
  intro g p l e R s mid args below meth cc Z C hR H locs cells slots ls hH hw hL hS hl2 hss hc hc2
  have K := h g p l e R s mid args below meth cc Z C hR H locs cells slots ls hH hw hL (ok1 (tl (tl hS)) trivial) hl2 hss hc hc2
  obtain ⟨-, -, -, q4, -, -, -, q8, q9⟩ := C.2.2.2.2.2.2.2
  exact va_sld C.1 C.2.1 q8 (Nat.lt_of_lt_of_le q9 q4) (Nat.not_le.mpr q9) hss hi hd K
theorem x_slen (hd : decode (mB m) pc = .ok (.arraylength, 1)) (h : X m (pc + 1) L (.int (Int32.ofNat M.1.2) :: S) M b Q) : X m pc L (.ref 62 :: S) M b Q := by
  intro g p l e R s mid args below meth cc Z C hR H locs cells slots ls hH hw hL hS hl2 hss hc hc2
  have K := h g p l e R s mid args below meth cc Z C hR H locs cells slots ls hH hw hL (ok1 (tl hS) trivial) hl2 hss hc hc2
  obtain ⟨-, -, -, q4, -, -, -, q8, q9⟩ := C.2.2.2.2.2.2.2
  exact va_slen C.1 C.2.1 q8 (Nat.lt_of_lt_of_le q9 q4) (Nat.not_le.mpr q9) hss hd K
/-! new cells -/
theorem nw_ok {k : Nat} (hk : k < 61) : okA (nw M k) (64 * M.1.1.length + k) := by
  unfold okA
  rw [show (64 * M.1.1.length + k) / 64 = M.1.1.length by omega, show (64 * M.1.1.length + k) % 64 = k by omega]
  show (M.1.1 ++ [k])[M.1.1.length]? = some k
  simp
theorem nw_old {k a : Nat} (h : a ≠ 64 * M.1.1.length + k) : gi (nw M k) a = gi M a ∧ gl (nw M k) a = gl M a ∧ gr (nw M k) a = gr M a := by
  refine ⟨?_, ?_, ?_⟩ <;> (funext j; simp [gi, gl, gr, nw, h])
theorem nw_km {k : Nat} (h : M.1.1 ≠ []) : KM M (nw M k) := by
  refine ⟨⟨[k], rfl⟩, rfl, fun j => ?_⟩
  have : 0 < M.1.1.length := List.length_pos_iff.mpr h
  rw [(nw_old (M := M) (k := k) (a := 62) (by omega)).1]
theorem nw_km2 {k : Nat} (hk : k < 61) : KM M (nw M k) := by
  refine ⟨⟨[k], rfl⟩, rfl, fun j => ?_⟩
  rw [(nw_old (M := M) (k := k) (a := 62) (by omega)).1]
theorem nw_wf {k : Nat} (hk : k < 61) (h : WF M) : WF (nw M k) := by
  refine ⟨fun d hd => ?_, fun a j r hr => ?_⟩
  · rcases List.mem_append.mp (show d ∈ M.1.1 ++ [k] from hd) with h1 | h1
    · exact h.1 d h1
    · rw [List.mem_singleton.mp h1]; exact hk
  · by_cases ha : a = 64 * M.1.1.length + k
    · simp [gr, nw, ha] at hr
    · rw [(nw_old ha).2.2] at hr
      obtain ⟨h1, h2⟩ := h.2 a j r hr
      exact ⟨km_ok (nw_km2 hk) h1, h2⟩
theorem nw_hr {g : Ev} {H H1 : Heap} {k : Nat} (hk : k < 61) (hw : WF M) (hH : HR g M H) (hz : H1.size = H.size + 1) (oq : ∀ q : Nat, q < H.size → H1[q]? = H[q]?) (hat : va_at (eD g) KC (H.size, ce g (nw M k) k (64 * M.1.1.length + k)) H1) : HR g (nw M k) H1 := by
  have hl : (nw M k).1.1.length = M.1.1.length + 1 := by show (M.1.1 ++ [k]).length = _; simp
  refine ⟨by rw [hz, hl, hH.1]; omega, fun i q hq => ?_⟩
  unfold wl at hq
  rw [List.getElem?_mapIdx] at hq
  have e1 : (nw M k).1.1[i]? = (M.1.1 ++ [k])[i]? := rfl
  rw [e1] at hq
  by_cases hi : i < M.1.1.length
  · rw [List.getElem?_append_left hi] at hq
    cases hd : M.1.1[i]? with
    | none => rw [hd] at hq; cases hq
    | some d =>
      rw [hd] at hq
      have hd2 := hw.1 d (List.mem_of_getElem? hd)
      obtain ⟨h1, h2, h3⟩ := nw_old (M := M) (k := k) (a := 64 * i + d) (by omega)
      have e2 : ce g (nw M k) d (64 * i + d) = ce g M d (64 * i + d) := by
        have : fv g (nw M k) d (64 * i + d) = fv g M d (64 * i + d) := by
          funext j
          simp only [fv, h1, h3]
        simp only [ce, h1, h2, h3, this]
      cases hq
      show va_at (eD g) KC (eb g + i, ce g (nw M k) d (64 * i + d)) H1
      rw [e2]
      refine va_at.kept (hH.2 i _ ?_) (oq _ (by show eb g + i < H.size; rw [hH.1]; omega))
      unfold wl
      rw [List.getElem?_mapIdx, hd]
      rfl
  · rw [List.getElem?_append_right (by omega)] at hq
    have hz2 : i - M.1.1.length < 1 := by
      cases hc : ([k] : List Nat)[i - M.1.1.length]? with
      | none => rw [hc] at hq; cases hq
      | some d => exact (List.getElem?_eq_some_iff.mp hc).1
    have : i = M.1.1.length := by omega
    subst this
    rw [show M.1.1.length - M.1.1.length = 0 by omega] at hq
    cases hq
    rw [← hH.1]
    exact hat
theorem nw_S {g : Ev} {H0 H H1 : Heap} {locs : List Loc} (h : va_S (fA g) H0 H locs) (hz : H1.size = H.size + 1) (oq : ∀ q : Nat, q < H.size → H1[q]? = H[q]?) : va_S (fA g) H0 H1 locs := ⟨Nat.le_trans h.1 (by omega), fun x h1 h2 => (oq x (Nat.lt_of_lt_of_le h1 h.1)).trans (h.2.1 x h1 h2), h.2.2⟩
theorem nw_at0 {k : Nat} (a : Nat) (ha : a = 64 * M.1.1.length + k) : gi (nw M k) a = (fun _ => 0) ∧ gl (nw M k) a = (fun _ => 0) ∧ gr (nw M k) a = (fun _ => none) := by
  subst ha
  refine ⟨?_, ?_, ?_⟩ <;> (funext j; simp [gi, gl, gr, nw])
theorem dv_fv (g : Ev) {c j : Nat} (h : c < 12) (hj : j < kN c) (a : Nat) (ha : a = 64 * M.1.1.length + c) : defaultValue (kY c j) = fv g (nw M c) c a j := by
  obtain ⟨h1, -, h3⟩ := nw_at0 (M := M) (k := c) a ha
  unfold fv
  rw [h1, h3]
  have key : (isI (kY c j) = true → defaultValue (kY c j) = .int 0) ∧ (isI (kY c j) = false → defaultValue (kY c j) = .null) := by
    have : ∀ c, c < 12 → ∀ j, j < kN c → (isI (kY c j) = true → defaultValue (kY c j) = .int 0) ∧ (isI (kY c j) = false → defaultValue (kY c j) = .null) := by decide +kernel
    exact this c h j hj
  by_cases hI : isI (kY c j) = true
  · rw [if_pos hI]; exact key.1 hI
  · rw [if_neg hI]; exact key.2 (by simpa using hI)
theorem x_new {i c : Nat} {b1 b2 : Nat} (hd : decode (mB m) pc = .ok (.new i, 3)) (h12 : c < 12) (hl : Cond.classLink (mY m).cls i (kC c) ∈ TG) (h : X m (pc + 3) L (.ref (64 * M.1.1.length + c) :: S) (nw M c) (b1, b2) Q) : X m pc L S M (b1 + 1, b2 + kN c) Q := by
  intro g p l e R s mid args below meth cc Z C hR H locs cells slots ls hH hw hL hS hl2 hss hc hc2
  have hkm : KM M (nw M c) := nw_km2 (by omega)
  have hts := C.2.2.2.2.1
  have hK := C.2.2.2.2.2.2.2.1
  have hKn := hK.1 c _ (k_c h12)
  have hRm := C.2.2.2.2.2.1
  have hc' : cells + (b1 + 1) ≤ mC m := hc
  have hc2' : slots + (b2 + kN c) ≤ mS m := hc2
  refine W.newcK C.1 C.2.1 C.2.2.2.1 (hts _ hl) (hts _ (k_ins h12)) (hts _ (k_ini h12)) rfl hd (by omega) (by omega) hKn.2.1 rfl fun H1 kC' hkC e1 z1 o1 => ?_
  have hA : okA (nw M c) (64 * M.1.1.length + c) := nw_ok (by omega)
  have hwn := nw_wf (M := M) (k := c) (by omega) hw
  have e3 : cz g (.ref (64 * M.1.1.length + c)) = .ref H.size := by
    show Value.ref (ca g _) = _
    rw [ca_ok hwn hA, show (64 * M.1.1.length + c) / 64 = M.1.1.length by omega, hH.1]
  have K := h g p l e R s mid args below meth cc Z (cx_km hkm C) (rt_km hkm hR) H1 locs (cells + 1) (slots + kN c) ls (nw_hr (by omega) hw hH z1 o1 ?_) hwn (ls_ok hkm hL) (ok1 (st_ok hkm hS) (Or.inr (Or.inr hA))) hl2 (nw_S hss z1 o1) (by show cells + 1 + b1 ≤ _; omega) (by show slots + kN c + b2 ≤ _; omega)
  · rw [List.map_cons, e3] at K
    exact K
  · rw [ce_O h12]
    refine ⟨_, k_c h12, (u_born (kY c) hts (k_i h12) hKn hkC e1 (k_p h12)).to (fun j hj => ?_)⟩
    rw [dv_fv (M := M) g h12 hj _ rfl]
    simp [vp_V, hj]
theorem x_newa {k t n : Nat} {at0 : ArrayType} {v : Int32} {b1 b2 : Nat} (hd : decode (mB m) pc = .ok (.newarray at0, 2)) (hk : AK k t n) (ht : (t = 0 ∧ at0 = .int) ∨ (t = 1 ∧ at0 = .long) ∨ (t = 2 ∧ at0 = .byte) ∨ (t = 3 ∧ at0 = .boolean)) (hv : ¬ v < 0) (hn : v.toNatClampNeg = n) (hsm : n ≤ 100000) (hl : Cond.arrayClass (aT t) ∈ TG) (h : X m (pc + 2) L (.ref (64 * M.1.1.length + k) :: S) (nw M k) (b1, b2) Q) : X m pc L (.int v :: S) M (b1 + 1, b2 + n) Q := by
  intro g p l e R s mid args below meth cc Z C hR H locs cells slots ls hH hw hL hS hl2 hss hc hc2
  obtain ⟨k1, k2, k3, k4⟩ := hk
  have hkm : KM M (nw M k) := nw_km2 k2
  have hts := C.2.2.2.2.1
  have hK := C.2.2.2.2.2.2.2.1
  have hRm := C.2.2.2.2.2.1
  have hc' : cells + (b1 + 1) ≤ mC m := hc
  have hc2' : slots + (b2 + n) ≤ mS m := hc2
  have hA : okA (nw M k) (64 * M.1.1.length + k) := nw_ok k2
  have hwn := nw_wf (M := M) (k := k) k2 hw
  have e3 : cz g (.ref (64 * M.1.1.length + k)) = .ref H.size := by
    show Value.ref (ca g _) = _
    rw [ca_ok hwn hA, show (64 * M.1.1.length + k) / 64 = M.1.1.length by omega, hH.1]
  have hty : newarray.typeOf at0 = aT t := by rcases ht with ⟨rfl, rfl⟩ | ⟨rfl, rfl⟩ | ⟨rfl, rfl⟩ | ⟨rfl, rfl⟩ <;> rfl
  have hby : n * componentBytes (newarray.typeOf at0) ≤ 536870912 := by
    have : componentBytes (newarray.typeOf at0) ≤ 8 := by rcases ht with ⟨rfl, rfl⟩ | ⟨rfl, rfl⟩ | ⟨rfl, rfl⟩ | ⟨rfl, rfl⟩ <;> decide
    calc n * componentBytes (newarray.typeOf at0) ≤ 100000 * 8 := Nat.mul_le_mul hsm this
      _ ≤ 536870912 := by decide
  refine va_newaK C.1 C.2.1 (by rw [hty]; exact hts _ hl) rfl hd rfl hv hn hby (by omega) (by omega) rfl fun H1 cA e1 z1 o1 hAr hNm => ?_
  have hcA : cA = eA g t := by
    have h2 := (hK.2 t _ (ty_at g k4)).2
    rw [hty] at hNm
    rcases ht with ⟨rfl, rfl⟩ | ⟨rfl, rfl⟩ | ⟨rfl, rfl⟩ | ⟨rfl, rfl⟩ <;> exact Option.some.inj (hNm.symm.trans h2)
  subst hcA
  have K := h g p l e R s mid args below meth cc Z (cx_km hkm C) (rt_km hkm hR) H1 locs (cells + 1) (slots + n) ls (nw_hr k2 hw hH z1 o1 ?_) hwn (ls_ok hkm hL) (ok1 (st_ok hkm (tl hS)) (Or.inr (Or.inr hA))) hl2 (nw_S hss z1 o1) (by show cells + 1 + b1 ≤ _; omega) (by show slots + n + b2 ≤ _; omega)
  · rw [List.map_cons, e3] at K
    exact K
  · obtain ⟨q1, q2, q3⟩ := nw_at0 (M := M) (k := k) _ rfl
    rw [hty] at e1
    rcases ht with ⟨rfl, rfl⟩ | ⟨rfl, rfl⟩ | ⟨rfl, rfl⟩ | ⟨rfl, rfl⟩
    · rw [ce_I k1 (by rw [k3]; show _ ≠ 1; dsimp only; omega) (by rw [k3]; show _ < 4; dsimp only; omega), k3, q1]; exact e1
    · rw [ce_L k1 (by rw [k3]), k3, q2]; exact e1
    · rw [ce_I k1 (by rw [k3]; show _ ≠ 1; dsimp only; omega) (by rw [k3]; show _ < 4; dsimp only; omega), k3, q1]; exact e1
    · rw [ce_I k1 (by rw [k3]; show _ ≠ 1; dsimp only; omega) (by rw [k3]; show _ < 4; dsimp only; omega), k3, q1]; exact e1
theorem x_anew {k t n i : Nat} {v : Int32} {b1 b2 : Nat} {Cn : String} (hd : decode (mB m) pc = .ok (.anewarray i, 3)) (hk : AK k t n) (ht : (t = 4 ∧ Cn = "LearnedCount$Word") ∨ (t = 5 ∧ Cn = "LearnedCount$Sheet")) (hv : ¬ v < 0) (hn : v.toNatClampNeg = n) (hsm : n ≤ 100000) (hl : Cond.classLink (mY m).cls i Cn ∈ TG) (h : X m (pc + 3) L (.ref (64 * M.1.1.length + k) :: S) (nw M k) (b1, b2) Q) : X m pc L (.int v :: S) M (b1 + 1, b2 + n) Q := by
  intro g p l e R s mid args below meth cc Z C hR H locs cells slots ls hH hw hL hS hl2 hss hc hc2
  obtain ⟨k1, k2, k3, k4⟩ := hk
  have hkm : KM M (nw M k) := nw_km2 k2
  have hts := C.2.2.2.2.1
  have hK := C.2.2.2.2.2.2.2.1
  have hRm := C.2.2.2.2.2.1
  have hc' : cells + (b1 + 1) ≤ mC m := hc
  have hc2' : slots + (b2 + n) ≤ mS m := hc2
  have hA : okA (nw M k) (64 * M.1.1.length + k) := nw_ok k2
  have hwn := nw_wf (M := M) (k := k) k2 hw
  have e3 : cz g (.ref (64 * M.1.1.length + k)) = .ref H.size := by
    show Value.ref (ca g _) = _
    rw [ca_ok hwn hA, show (64 * M.1.1.length + k) / 64 = M.1.1.length by omega, hH.1]
  have hov : va_AO Cn s := by
    obtain ⟨-, -, ⟨q1, q2⟩, -⟩ := C.2.2.2.2.2.2.2
    rcases ht with ⟨-, rfl⟩ | ⟨-, rfl⟩
    · exact q1
    · exact q2
  have hn' : v.toNatClampNeg * 4 ≤ 536870912 := by rw [hn]; omega
  refine W.anew C.1 C.2.1 C.2.2.2.1 (hts _ hl) (va_AO.use hov) rfl hd rfl hv hn' (by omega) (by omega) fun cA kA comp f1 f2 f3 f4 => ?_
  rw [hn]
  generalize hH1 : H.push ({ cls := cA, slots := Array.replicate n .null, vm := .none } : Cell) = H1
  have z1 : H1.size = H.size + 1 := by rw [← hH1, Array.size_push]
  have e1 : H1[H.size]? = some (arrV cA n (fun _ => .null)) := by rw [← hH1, Array.getElem?_push_size, ← arrV_new]
  have o1 : ∀ q : Nat, q < H.size → H1[q]? = H[q]? := fun q hq => by rw [← hH1, Array.getElem?_push, if_neg (Nat.ne_of_lt hq)]
  have hcA : cA = eA g t := by
    rcases ht with ⟨rfl, rfl⟩ | ⟨rfl, rfl⟩
    · obtain ⟨_, _, -, -, -, q4⟩ := (hK.2 4 _ (ty_at g k4)).2
      exact Option.some.inj (f1.symm.trans q4)
    · obtain ⟨_, _, -, -, -, q4⟩ := (hK.2 5 _ (ty_at g k4)).2
      exact Option.some.inj (f1.symm.trans q4)
  subst hcA
  have K := h g p l e R s mid args below meth cc Z (cx_km hkm C) (rt_km hkm hR) H1 locs (cells + 1) (slots + n) ls (nw_hr k2 hw hH z1 o1 ?_) hwn (ls_ok hkm hL) (ok1 (st_ok hkm (tl hS)) (Or.inr (Or.inr hA))) hl2 (nw_S hss z1 o1) (by show cells + 1 + b1 ≤ _; omega) (by show slots + n + b2 ≤ _; omega)
  · rw [List.map_cons, e3] at K
    exact K
  · obtain ⟨q1, q2, q3⟩ := nw_at0 (M := M) (k := k) _ rfl
    rw [ce_R k1 (by rw [k3]; show t ≠ 1; omega) (by rw [k3]; show ¬ t < 4; omega), k3, q3]
    exact e1
end ROWS2
end
section
/-! ===== methods called ===== -/
def rI (r : Option Value) : Prop := match r with
  | none => True
  | some (.int _) => True
  | some (.long _) => True
  | _ => False
theorem rI_cz {r : Option Value} (h : rI r) (g : Ev) : r.toList.map (cz g) = r.toList := by
  match r, h with
  | none, _ => rfl
  | some (.int _), _ => rfl
  | some (.long _), _ => rfl
theorem rI_ok {r : Option Value} (h : rI r) {M : Mm} : ∀ v ∈ r.toList, okv M v := by
  match r, h with
  | none, _ => intro v hv; cases hv
  | some (.int _), _ => intro v hv; rw [List.mem_singleton.mp hv]; trivial
  | some (.long _), _ => intro v hv; rw [List.mem_singleton.mp hv]; trivial
def cQ (g : Ev) (M : Mm) (Q : Option Value → Mm → Prop) : Array Value → State → Outcome → State → Prop := fun _ st oc t => ∃ (r : Option Value) (N : Mm), oc = .returned r ∧ rI r ∧ Q r N ∧ HR g N t.heap ∧ WF N ∧ KM M N ∧ va_F (fA g) st t
def cP (g : Ev) (M : Mm) (as : List Value) : Array Value → State → Prop := va_Pc (as.map (cz g)) (fun U => HR g M U.heap ∧ KU g M.1.2 (gi M 62) U U.heap)
def CALL (m : MI) (as : List Value) (M : Mm) (Q : Option Value → Mm → Prop) : Prop := ∀ (l : Launch) (g : Ev), WF M → (∀ v ∈ as, okv M v) → Met l (mY m) (mW m) (mRoom m) (cP g M as) (cQ g M Q) (mC m) (mS m) (fA g)
theorem cP_blind (g : Ev) (M : Mm) (as : List Value) : FrameBlind (cP g M as) := fun a U f mk h => ⟨h.1, h.2.1, ku_same (u := U) h.2.2 rfl⟩
theorem lg_czl (g : Ev) (as : List Value) : (lg_sl (as.map (cz g))).length = (lg_sl as).length := by
  induction as with
  | nil => rfl
  | cons v vs ih =>
    unfold lg_sl at ih ⊢
    rw [List.map_cons, List.flatMap_cons, List.flatMap_cons, List.length_append, List.length_append, ih, cz_cat]
    split <;> rfl
theorem lv_cza (g : Ev) (as : List Value) : ∀ i, lv_args i (as.map (cz g)) = (lv_args i as).map (cq g) := by
  induction as with
  | nil => intro i; rfl
  | cons v vs ih =>
    intro i
    rw [List.map_cons, lv_args, lv_args, ih, cz_cat]
    rfl
theorem lv_args_ok {M : Mm} (as : List Value) (h : ∀ v ∈ as, okv M v) : ∀ i, ∀ q ∈ lv_args i as, okv M q.2 := by
  induction as with
  | nil => intro i q hq; cases hq
  | cons v vs ih =>
    intro i q hq
    rw [lv_args] at hq
    rcases List.mem_cons.mp hq with rfl | hq
    · exact h v List.mem_cons_self
    · exact ih (fun w hw => h w (List.mem_cons_of_mem _ hw)) _ q hq
/-- a method's walk gives its contract -/
theorem call_of {m : MI} {as : List Value} {M : Mm} {Q : Option Value → Mm → Prop} {L : List (Nat × Value)} (hp : plainName (mY m).cls = true) (hlen : (lg_sl as).length ≤ mL m) (hL : lv_args 0 as = L) (h : X m 0 L [] M (mC m, mS m) Q) : CALL m as M Q := by
  subst hL
  intro l g hw hok
  refine Met.ofW (cc := mB m) (maxL := mL m) (ret := mT m) hp rfl ?_
  intro p e s mid args below meth c s₁ B hml hv
  obtain ⟨rfl, hH, hKU⟩ := hv
  have hts := atoms_spec (ws := mW m) B.pre
  have hown : s.vm.findClass (mY m).cls = some mid.cls := findClass_of_methodNamed B.named
  have hlocks := B.notSynchronized
  have hnm : meth.name = (mY m).name := (name_of_methodNamed B.named B.method).1
  have hl := lv_entry (as.map (cz g)) (n := mL m) (by rw [lg_czl]; exact hlen)
  rw [lg_entry_eq]
  generalize (lg_sl (as.map (cz g)) ++ List.replicate (mL m - (lg_sl (as.map (cz g))).length) Slot.unset).toArray = ls at hl ⊢
  rw [lv_cza] at hl
  have C : Cx m g M.1.2 (gi M 62) p (mRoom m) s mid (as.map (cz g)).toArray meth c := ⟨B.exec, B.bytes, hml, hown, fun w hw => hts w (List.mem_cons_of_mem _ hw), ⟨Nat.le_refl _, Nat.le_refl _, Nat.le_refl _, Nat.le_refl _⟩, hnm, hKU⟩
  refine h g p l e (mRoom m) s mid _ below meth c (MQ below (cQ g M Q) (as.map (cz g)).toArray s (mC m) (mS m) (fA g)) C ?_ s.heap [] 0 0 ls hH hw (lv_args_ok as hok 0) (fun v hv => by cases hv) hl va_S.rf (Nat.le_of_eq (Nat.zero_add _)) (Nat.le_of_eq (Nat.zero_add _))
  intro r N H locs cells slots pc ls hQ hret hHN hwN hkm hss hc hc2
  refine W.widen hc hc2 ?_
  have hr := B.returns
  have hq : ∀ r, rI r → Q r N → ∀ t : State, t.heap = H → s.WarmedH t.vm → cQ g M Q (as.map (cz g)).toArray s (.returned r) t := fun r hri hQ t ht _ => ⟨r, N, rfl, hri, hQ, by rw [ht]; exact hHN, hwN, hkm, hss.F ht⟩
  match r, hret, hQ with
  | none, hret, hQ => exact W.vret B.exec B.bytes (hr.trans hret.2) (hq none trivial hQ) hss.2.2 hret.1 hlocks
  | some (.int v), hret, hQ =>
    obtain ⟨hd, ty, hty, hn⟩ := hret
    exact W.zret B.exec B.bytes (hr.trans hty) hn (hq (some (.int v)) trivial hQ) hss.2.2 hd hlocks
  | some (.long v), hret, hQ => exact W.lret B.exec B.bytes (hr.trans hret.2) (hq (some (.long v)) trivial hQ) hss.2.2 hret.1 hlocks
/-- callees by the tables -/
def MG (m : MI) (n : Nat) : Prop := Cond.code (mY m) (mB m) (mL m) (mT m) ∈ TG ∧ Cond.initialized (mY m).cls ∈ TG ∧ ((mY m).cls ≠ "java/lang/invoke/MethodHandle" ∧ (mY m).cls ≠ "java/lang/invoke/VarHandle" ∧ (parseMethodDescriptor (mY m).desc).map (fun d => d.parameters.length) = some n)
def MV (m : MI) (n : Nat) : Prop := MG m n ∧ Cond.instanceMethod (mY m) ∈ TG ∧ Cond.selects (mY m).cls (mY m) (mY m) ∈ TG
def MSt (m : MI) (n : Nat) : Prop := MG m n ∧ Cond.static (mY m) ∈ TG
def MIn (m : MI) (n : Nat) : Prop := MG m n ∧ Cond.instanceMethod (mY m) ∈ TG ∧ (mY m).name = "<init>" ∧ mT m = none
theorem mw_good {m : MI} {n : Nat} (h : MG m n) : GoodIn TG (mW m) := fun w hw => by
  rcases List.mem_cons.mp hw with rfl | hw
  · exact TG_good _ h.1
  · exact TG_good _ hw
/-- the caller has room for the callee -/
def RM (m m' : MI) : Prop := mF m' + 1 ≤ mF m ∧ 8 + (mL m' + 11) + mO m' ≤ mO m
section ROWS3
variable {p : Program} {l : Launch} {e : Env} {R : Room} {s : State} {mid : MethodId} {args : Array Value} {below : List Frame} {meth : Method} {c : Code} {H : Heap} {locs : List Loc} {cells slots : Nat} {Z : State → Prop}
theorem W_run {g : Ev} {M : Mm} {Q : Option Value → Mm → Prop} {mc ms pc : Nat} {ls : Array Slot} {st0 rest : List Value} {a : Array Value} (hr : va_Run p l e R s mid args below meth c H locs cells slots mc ms (F0 mid pc ls st0) rest (cQ g M Q a) (fA g)) (hss : va_S (fA g) s.heap H locs)
    (kk : ∀ (r : Option Value) (N : Mm) (H1 : Heap) (locs1 : List Loc), rI r → Q r N → HR g N H1 → WF N → KM M N → va_S (fA g) s.heap H1 locs1 → W p l e R s mid args below meth c H1 locs1 (cells + mc) (slots + ms) Z (F0 mid (pc + 3) ls (r.toList ++ rest))) : W p l e R s mid args below meth c H locs cells slots Z (F0 mid pc ls st0) := by
  intro T hT X0
  obtain ⟨v, st₀, t, T', Lo, h0, X', hL, e1, e2, ⟨r, N, hv, hri, hQ, hHN, hwN, hkm, hF⟩, st⟩ := hr T hT X0
  cases hv
  obtain ⟨hz, hk⟩ := hF
  rw [h0] at hz hk
  obtain ⟨t2, a1, b1⟩ := kk v N T'.heap (locs ++ Lo) hri hQ (by rw [e1]; exact hHN) hwN hkm ⟨Nat.le_trans hss.1 (by rw [e1]; exact hz), fun q h1 h2 => by rw [e1, hk q (Nat.lt_of_lt_of_le h1 hss.1) h2]; exact hss.2.1 q h1 h2, fun q hq => by
      rcases List.mem_append.mp hq with h | h
      · exact hss.2.2 q h
      · exact hL q h⟩ T' rfl X'
  exact ⟨t2, st t2 a1, b1⟩
end ROWS3
section ROWS4
variable {m m' : MI} {pc : Nat} {L : List (Nat × Value)} {S St : List Value} {M : Mm} {b : Nat × Nat} {Q : Option Value → Mm → Prop}
/-- what goes on behind a call -/
def aft (m m' : MI) (pc : Nat) (L : List (Nat × Value)) (S : List Value) (b : Nat × Nat) (Q : Option Value → Mm → Prop) : Option Value → Mm → Prop := fun r N => X m (pc + 3) L (r.toList ++ S) N (b.1 - mC m', b.2 - mS m') Q
theorem cat_cz (g : Ev) (S : List Value) : ((S.map (cz g)).map fun v => v.category).sum = (S.map fun v => v.category).sum := by
  rw [List.map_map]
  congr 1
  exact List.map_congr_left (fun v _ => cz_cat g v)
theorem aft_k {g : Ev} {p : Program} {l : Launch} {e : Env} {R : Room} {s : State} {mid : MethodId} {args : Array Value} {below : List Frame} {meth : Method} {c : Code} {cells slots : Nat} {Z : State → Prop} {ls : Array Slot} (C : Cx m g M.1.2 (gi M 62) p R s mid args meth c) (hR : Rt m g p l e R s mid args below meth c Z M Q) (hL : ∀ q ∈ L, okv M q.2) (hS : ∀ v ∈ S, okv M v) (hl : lv_has ls (mL m) (L.map (cq g))) (hc : cells + b.1 ≤ mC m) (hc2 : slots + b.2 ≤ mS m) (hb : mC m' ≤ b.1 ∧ mS m' ≤ b.2) :
    ∀ (r : Option Value) (N : Mm) (H1 : Heap) (locs1 : List Loc), rI r → aft m m' pc L S b Q r N → HR g N H1 → WF N → KM M N → va_S (fA g) s.heap H1 locs1 → W p l e R s mid args below meth c H1 locs1 (cells + mC m') (slots + mS m') Z (F0 mid (pc + 3) ls (r.toList ++ S.map (cz g))) := by
  intro r N H1 locs1 hri hQ hHN hwN hkm hss
  have K := hQ g p l e R s mid args below meth c Z (cx_km hkm C) (rt_km hkm hR) H1 locs1 (cells + mC m') (slots + mS m') ls hHN hwN (ls_ok hkm hL) (fun v hv => (List.mem_append.mp hv).elim (rI_ok hri v) (st_ok hkm hS v)) hl hss (by show cells + mC m' + (b.1 - mC m') ≤ _; omega) (by show slots + mS m' + (b.2 - mS m') ≤ _; omega)
  rw [List.map_append, rI_cz hri] at K
  exact K
theorem czr (g : Ev) (As S : List Value) : (As.reverse ++ S).map (cz g) = (As.map (cz g)).reverse ++ S.map (cz g) := by rw [List.map_append, List.map_reverse]
theorem ku_at {g : Ev} {n : Nat} {xs : Nat → Int32} {s : State} {H : Heap} {locs : List Loc} (h : KU g n xs s s.heap) (hss : va_S (fA g) s.heap H locs) : ∀ U : State, U.heap = H → s.WarmedH U.vm → KU g n xs U U.heap := fun U hU hW => by
  rw [hU]
  exact ku_mv h hW hss.1 hss.2.1
theorem x_invV {n i a c : Nat} {As : List Value} (hd : decode (mB m) pc = .ok (.invokevirtual i, 3)) (hl : Cond.methodLink (mY m).cls i (mY m') ∈ TG) (hv : MV m' n) (hn : As.length = n) (h12 : c < 12) (hc0 : kC c = (mY m').cls) (ha : a % 64 = c) (hrm : RM m m') (hb : mC m' ≤ b.1 ∧ mS m' ≤ b.2) (hst : St = As.reverse ++ .ref a :: S) (hcat : (S.map fun v => v.category).sum ≤ 8)
    (h : CALL m' (.ref a :: As) M (aft m m' pc L S b Q)) : X m pc L St M b Q := by
  subst hst
  intro g p l e R s mid args below meth cc Z C hR H locs cells slots ls hH hw hL hS hl2 hss hc hc2
  have hSS : ∀ v ∈ S, okv M v := fun v hv => hS v (List.mem_append_right _ (List.mem_cons_of_mem _ hv))
  have hva : okv M (.ref a) := hS _ (List.mem_append_right _ List.mem_cons_self)
  have hAs : ∀ v ∈ As, okv M v := fun v hv => hS v (List.mem_append_left _ (List.mem_reverse.mpr hv))
  have hA : okA M a := okA_of hva (by omega)
  have hts := C.2.2.2.2.1
  have hK := C.2.2.2.2.2.2.2.1
  obtain ⟨f1, f2, f3, f4⟩ := C.2.2.2.2.2.1
  rw [czr, List.map_cons, show cz g (.ref a) = .ref (eb g + a / 64) from by show Value.ref (ca g a) = _; rw [ca_ok hw hA]]
  have hM := h l g hw (ok1 hAs hva)
  refine W_run (va_runV (As := As.map (cz g)) (rest := S.map (cz g)) (n := n) (C := (mY m').cls) (bytes := mB m') (maxL := mL m') (ret := mT m') (Ts := TG) ⟨C.1, C.2.1, C.2.2.1, C.2.2.2.1, hts⟩ hM ⟨⟨rfl, rfl, Nat.le_trans hrm.1 f1, Nat.le_trans hrm.2 f2, pay_in hts (mw_good hv.1), List.mem_cons_self, hts _ hv.1.1, hts _ hv.1.2.1, ⟨hv.1.2.2.1, hv.1.2.2.2.1⟩, fun sig h => ?_, hts _ hl⟩, hts _ hv.2.1, hts _ hv.2.2⟩ ⟨cP_blind g M _, ?_, fun U hU hW => ⟨?_, by rw [hU]; exact hH, ku_at C.2.2.2.2.2.2.2 hss U hU hW⟩⟩ rfl (by rw [List.length_map]; exact hn) hl2.1 rfl (lv_room (by rw [cat_cz]; exact hcat)) hd ⟨by omega, by omega⟩) hss (aft_k C hR hL hSS hl2 hc hc2 hb)
  · have h2 := hv.1.2.2.2.2
    rw [h] at h2
    exact (Option.some.inj h2).symm
  · rw [← hc0]
    exact va_recv hK hH.2 (k_c h12) (q0 := a / 64) (by rw [wl_at hA, ha, ce_O h12])
  · show (Value.ref (eb g + a / 64) :: As.map (cz g)).toArray = _
    rw [List.map_cons, show cz g (.ref a) = .ref (eb g + a / 64) from by show Value.ref (ca g a) = _; rw [ca_ok hw hA]]
theorem x_invS {n i : Nat} {As : List Value} (hd : decode (mB m) pc = .ok (.invokestatic i, 3)) (hl : Cond.methodLink (mY m).cls i (mY m') ∈ TG) (hv : MSt m' n) (hn : As.length = n) (hrm : RM m m') (hb : mC m' ≤ b.1 ∧ mS m' ≤ b.2) (hst : St = As.reverse ++ S) (hcat : (S.map fun v => v.category).sum ≤ 8)
    (h : CALL m' As M (aft m m' pc L S b Q)) : X m pc L St M b Q := by
  subst hst
  intro g p l e R s mid args below meth cc Z C hR H locs cells slots ls hH hw hL hS hl2 hss hc hc2
  have hSS : ∀ v ∈ S, okv M v := fun v hv => hS v (List.mem_append_right _ hv)
  have hAs : ∀ v ∈ As, okv M v := fun v hv => hS v (List.mem_append_left _ (List.mem_reverse.mpr hv))
  have hts := C.2.2.2.2.1
  obtain ⟨f1, f2, f3, f4⟩ := C.2.2.2.2.2.1
  rw [czr]
  have hM := h l g hw hAs
  refine W_run (va_runS (As := As.map (cz g)) (rest := S.map (cz g)) (n := n) (bytes := mB m') (maxL := mL m') (ret := mT m') (Ts := TG) ⟨C.1, C.2.1, C.2.2.1, C.2.2.2.1, hts⟩ hM ⟨⟨rfl, rfl, Nat.le_trans hrm.1 f1, Nat.le_trans hrm.2 f2, pay_in hts (mw_good hv.1), List.mem_cons_self, hts _ hv.1.1, hts _ hv.1.2.1, ⟨hv.1.2.2.1, hv.1.2.2.2.1⟩, fun sig h => ?_, hts _ hl⟩, hts _ hv.2⟩ ⟨cP_blind g M _, fun U hU hW => ⟨rfl, by rw [hU]; exact hH, ku_at C.2.2.2.2.2.2.2 hss U hU hW⟩⟩ rfl (by rw [List.length_map]; exact hn) hl2.1 rfl (lv_room (by rw [cat_cz]; exact hcat)) hd ⟨by omega, by omega⟩) hss (aft_k C hR hL hSS hl2 hc hc2 hb)
  have h2 := hv.1.2.2.2.2
  rw [h] at h2
  exact (Option.some.inj h2).symm
/-- a static method of the host, private -/
theorem x_invSN {n i : Nat} {As : List Value} {host : String} (hd : decode (mB m) pc = .ok (.invokestatic i, 3)) (hl : ((mY m).cls, i, mY m', host) ∈ nestl) (hv : MSt m' n) (hn : As.length = n) (hrm : RM m m') (hb : mC m' ≤ b.1 ∧ mS m' ≤ b.2) (hst : St = As.reverse ++ S) (hcat : (S.map fun v => v.category).sum ≤ 8)
    (h : CALL m' As M (aft m m' pc L S b Q)) : X m pc L St M b Q := by
  subst hst
  intro g p l e R s mid args below meth cc Z C hR H locs cells slots ls hH hw hL hS hl2 hss hc hc2
  have hSS : ∀ v ∈ S, okv M v := fun v hv => hS v (List.mem_append_right _ hv)
  have hAs : ∀ v ∈ As, okv M v := fun v hv => hS v (List.mem_append_left _ (List.mem_reverse.mpr hv))
  have hts := C.2.2.2.2.1
  obtain ⟨f1, f2, f3, f4⟩ := C.2.2.2.2.2.1
  rw [czr]
  have hM := h l g hw hAs
  have hnl := C.2.2.2.2.2.2.2.2.1 _ hl
  exact W_run (va_runSN (As := As.map (cz g)) (rest := S.map (cz g)) (n := n) (Ts := TG) ⟨C.1, C.2.1, C.2.2.1, C.2.2.2.1, hts⟩ hM ⟨va_cnB n hts (mw_good hv.1) rfl rfl rfl hnl (hts _ hv.1.2.1) hv.1.2.2 ⟨Nat.le_trans hrm.1 f1, Nat.le_trans hrm.2 f2⟩, hts _ hv.2, trivial⟩ ⟨cP_blind g M _, fun U hU hW => ⟨rfl, by rw [hU]; exact hH, ku_at C.2.2.2.2.2.2.2 hss U hU hW⟩⟩ rfl (by rw [List.length_map]; exact hn) hl2.1 rfl (lv_room (by rw [cat_cz]; exact hcat)) hd ⟨by omega, by omega⟩) hss (aft_k C hR hL hSS hl2 hc hc2 hb)
theorem x_invI {n i a : Nat} {As : List Value} (hd : decode (mB m) pc = .ok (.invokespecial i, 3)) (hl : Cond.methodLink (mY m).cls i (mY m') ∈ TG) (hv : MIn m' n) (hn : As.length = n) (ha : a % 64 < 61) (hrm : RM m m') (hb : mC m' ≤ b.1 ∧ mS m' ≤ b.2) (hst : St = As.reverse ++ .ref a :: S) (hcat : (S.map fun v => v.category).sum ≤ 8)
    (h : CALL m' (.ref a :: As) M (aft m m' pc L S b Q)) : X m pc L St M b Q := by
  subst hst
  intro g p l e R s mid args below meth cc Z C hR H locs cells slots ls hH hw hL hS hl2 hss hc hc2
  have hSS : ∀ v ∈ S, okv M v := fun v hv => hS v (List.mem_append_right _ (List.mem_cons_of_mem _ hv))
  have hva : okv M (.ref a) := hS _ (List.mem_append_right _ List.mem_cons_self)
  have hAs : ∀ v ∈ As, okv M v := fun v hv => hS v (List.mem_append_left _ (List.mem_reverse.mpr hv))
  have hts := C.2.2.2.2.1
  obtain ⟨f1, f2, f3, f4⟩ := C.2.2.2.2.2.1
  rw [czr, List.map_cons]
  have hM := h l g hw (ok1 hAs hva)
  obtain ⟨hg, hin, hnm, hT0⟩ := hv
  refine W_run (va_runI (b := ca g a) (As := As.map (cz g)) (rest := S.map (cz g)) (n := n) (bytes := mB m') (maxL := mL m') (Ts := TG) ⟨C.1, C.2.1, C.2.2.1, C.2.2.2.1, hts⟩ hM ⟨⟨rfl, rfl, Nat.le_trans hrm.1 f1, Nat.le_trans hrm.2 f2, pay_in hts (mw_good hg), hT0 ▸ List.mem_cons_self, hT0 ▸ hts _ hg.1, hts _ hg.2.1, ⟨hg.2.2.1, hg.2.2.2.1⟩, fun sig h => ?_, hts _ hl⟩, hnm, hts _ hin⟩ ⟨cP_blind g M _, fun U hU hW => ⟨rfl, by rw [hU]; exact hH, ku_at C.2.2.2.2.2.2.2 hss U hU hW⟩⟩ rfl (by rw [List.length_map]; exact hn) hl2.1 rfl (lv_room (by rw [cat_cz]; exact hcat)) hd ⟨by omega, by omega⟩) hss (aft_k C hR hL hSS hl2 hc hc2 hb)
  have h2 := hg.2.2.2.2
  rw [h] at h2
  exact (Option.some.inj h2).symm
/-- Object's constructor -/
theorem x_obj {i a : Nat} (hd : decode (mB m) pc = .ok (.invokespecial i, 3)) (hl : Cond.methodLink (mY m).cls i Lib.objectInit ∈ TG) (h1 : Cond.instanceMethod Lib.objectInit ∈ TG) (h2 : Cond.code Lib.objectInit ⟨#[0xb1]⟩ 1 none ∈ TG) (hf : 1 ≤ mF m) (hcat : (S.map fun v => v.category).sum + 12 ≤ mO m) (h : X m (pc + 3) L S M b Q) : X m pc L (.ref a :: S) M b Q := by
  intro g p l e R s mid args below meth cc Z C hR H locs cells slots ls hH hw hL hS hl2 hss hc hc2
  have hts := C.2.2.2.2.1
  obtain ⟨f1, f2, f3, f4⟩ := C.2.2.2.2.2.1
  have K := h g p l e R s mid args below meth cc Z C hR H locs cells slots ls hH hw hL (tl hS) hl2 hss hc hc2
  refine W.objInit (a := ca g a) (rest := S.map (cz g)) C.1 C.2.1 C.2.2.2.1 (hts _ hl) (hts _ h1) (hts _ h2) rfl (hl2.1.trans C.2.2.1.symm) rfl hd (Nat.le_trans hf f1) ?_ K
  have e0 : (F0 mid pc ls ((Value.ref a :: S).map (cz g))).monitorRoom = 0 := by simp [JFrame.monitorRoom]
  rw [e0, cat_cz]
  omega
/-! ends -/
theorem x_ret0 (hd : decode (mB m) pc = .ok (.return_, 1)) (ht : mT m = none) (h : Q none M) : X m pc L [] M b Q := by
  intro g p l e R s mid args below meth cc Z C hR H locs cells slots ls hH hw hL hS hl2 hss hc hc2
  exact hR none M H locs cells slots pc ls h ⟨hd, ht⟩ hH hw (km_rf M) hss (by omega) (by omega)
theorem x_retI {v : Int32} {ty : FieldType} (hd : decode (mB m) pc = .ok (.ireturn, 1)) (ht : mT m = some ty) (hn : narrow ty (.int v) = .int v) (h : Q (some (.int v)) M) : X m pc L [.int v] M b Q := by
  intro g p l e R s mid args below meth cc Z C hR H locs cells slots ls hH hw hL hS hl2 hss hc hc2
  exact hR (some (.int v)) M H locs cells slots pc ls h ⟨hd, ty, ht, hn⟩ hH hw (km_rf M) hss (by omega) (by omega)
theorem x_retL {v : Int64} (hd : decode (mB m) pc = .ok (.lreturn, 1)) (ht : mT m = some .long) (h : Q (some (.long v)) M) : X m pc L [.long v] M b Q := by
  intro g p l e R s mid args below meth cc Z C hR H locs cells slots ls hH hw hL hS hl2 hss hc hc2
  exact hR (some (.long v)) M H locs cells slots pc ls h ⟨hd, ht⟩ hH hw (km_rf M) hss (by omega) (by omega)
/-! switches -/
theorem x_tblOut {x : Int32} {df lo hi : Int} {offs : Array Int} {len t : Nat} (hd : decode (mB m) pc = .ok (.tableswitch df lo hi offs, len)) (hx : x.toInt < lo ∨ hi < x.toInt) (ht : (pc : Int) + df = (t : Int)) (h : X m t L S M b Q) : X m pc L (.int x :: S) M b Q := X_pu h (fun hL hS => ⟨hL, tl hS⟩) (fun C hl k => lv_tableOut C.1 C.2.1 hd hx ht (k _ hl))
theorem x_tblIn {x : Int32} {df lo hi off : Int} {offs : Array Int} {len t : Nat} (hd : decode (mB m) pc = .ok (.tableswitch df lo hi offs, len)) (h1 : ¬ x.toInt < lo) (h2 : ¬ hi < x.toInt) (ho : offs[(x.toInt - lo).toNat]? = some off) (ht : (pc : Int) + off = (t : Int)) (h : X m t L S M b Q) : X m pc L (.int x :: S) M b Q := X_pu h (fun hL hS => ⟨hL, tl hS⟩) (fun C hl k => lv_tableIn C.1 C.2.1 hd h1 h2 ho ht (k _ hl))
theorem x_lkp {x : Int32} {df off : Int} {ps : Array (Int × Int)} {len t : Nat} (hd : decode (mB m) pc = .ok (.lookupswitch df ps, len)) (hp : (ps.toList.zip (ps.toList.drop 1)).all (fun (a, next) => a.1 < next.1) = true) (ho : Op.lookupswitch.offset ps.toList df x.toInt = off) (ht : (pc : Int) + off = (t : Int)) (h : X m t L S M b Q) : X m pc L (.int x :: S) M b Q := X_pu h (fun hL hS => ⟨hL, tl hS⟩) (fun C hl k => lv_lookup C.1 C.2.1 hd hp ho ht (k _ hl))
end ROWS4
end
section
/-! ===== String constants: 64 j + 63, their bytes: 64 j + 61 ===== -/
theorem cz_byt (g : Ev) (j : Nat) : cz g (.ref (64 * j + 61)) = .ref (eV g j) := by
  show Value.ref (ca g (64 * j + 61)) = _
  unfold ca
  rw [if_neg (by omega), if_neg (by omega), if_pos (by omega), show (64 * j + 61) / 64 = j by omega]
theorem okv_byt {M : Mm} {j : Nat} (h : j < 6) : okv M (.ref (64 * j + 61)) := by
  refine Or.inl ⟨Or.inr ?_, ?_⟩
  · show (64 * j + 61) % 64 = 61
    omega
  · show (64 * j + 61) / 64 < 6
    omega
section STR
variable {m m' : MI} {pc : Nat} {L : List (Nat × Value)} {S St : List Value} {M : Mm} {b : Nat × Nat} {Q : Option Value → Mm → Prop}
theorem x_strV {i j : Nat} (hj : j < 6) (hd : decode (mB m) pc = .ok (.getfield i, 3)) (hl : Cond.fieldLink (mY m).cls i "java/lang/String" "value" "[B" ∈ TG) (h : X m (pc + 3) L (.ref (64 * j + 61) :: S) M b Q) : X m pc L (.ref (64 * j + 63) :: S) M b Q := by
  intro g p l e R s mid args below meth cc Z C hR H locs cells slots ls hH hw hL hS hl2 hss hc hc2
  have K := h g p l e R s mid args below meth cc Z C hR H locs cells slots ls hH hw hL (ok1 (tl hS) (okv_byt hj)) hl2 hss hc hc2
  rw [List.map_cons, cz_byt] at K
  rw [List.map_cons, cz_str]
  obtain ⟨-, -, -, -, -, q6, -⟩ := C.2.2.2.2.2.2.2
  exact vk_getf C.1 C.2.1 (q6.1 j hj).2.2.1 hss C.2.2.2.1 (C.2.2.2.2.1 _ hl) (fun x h => h) hd K
theorem x_strC {i j : Nat} (hj : j < 6) (hd : decode (mB m) pc = .ok (.getfield i, 3)) (hl : Cond.fieldLink (mY m).cls i "java/lang/String" "coder" "B" ∈ TG) (h : X m (pc + 3) L (.int 0 :: S) M b Q) : X m pc L (.ref (64 * j + 63) :: S) M b Q := by
  intro g p l e R s mid args below meth cc Z C hR H locs cells slots ls hH hw hL hS hl2 hss hc hc2
  have K := h g p l e R s mid args below meth cc Z C hR H locs cells slots ls hH hw hL (ok1 (tl hS) trivial) hl2 hss hc hc2
  rw [List.map_cons, cz_str]
  obtain ⟨-, -, -, -, -, q6, -⟩ := C.2.2.2.2.2.2.2
  exact vk_getf C.1 C.2.1 (q6.1 j hj).2.1 hss C.2.2.2.1 (C.2.2.2.2.1 _ hl) (fun x h => h) hd K
theorem x_strZ {i : Nat} (hd : decode (mB m) pc = .ok (.getstatic i, 3)) (hl : Cond.fieldLink (mY m).cls i "java/lang/String" "COMPACT_STRINGS" "Z" ∈ TG) (h : X m (pc + 3) L (.int 1 :: S) M b Q) : X m pc L S M b Q := by
  intro g p l e R s mid args below meth cc Z C hR H locs cells slots ls hH hw hL hS hl2 hss hc hc2
  have K := h g p l e R s mid args below meth cc Z C hR H locs cells slots ls hH hw hL (ok1 hS trivial) hl2 hss hc hc2
  obtain ⟨-, -, -, -, -, -, q7, -⟩ := C.2.2.2.2.2.2.2
  exact va_gets C.1 C.2.1 q7 hss C.2.2.2.1 (C.2.2.2.2.1 _ hl) (fun x h => h) hd K
theorem x_strL {j : Nat} {v : Int32} (hj : j < 6) (hd : decode (mB m) pc = .ok (.arraylength, 1)) (hv : Int32.ofNat (slen.getD j 0) = v) (h : X m (pc + 1) L (.int v :: S) M b Q) : X m pc L (.ref (64 * j + 61) :: S) M b Q := by
  subst hv
  intro g p l e R s mid args below meth cc Z C hR H locs cells slots ls hH hw hL hS hl2 hss hc hc2
  have K := h g p l e R s mid args below meth cc Z C hR H locs cells slots ls hH hw hL (ok1 (tl hS) trivial) hl2 hss hc hc2
  rw [List.map_cons, cz_byt]
  obtain ⟨-, -, -, -, -, q6, -⟩ := C.2.2.2.2.2.2.2
  exact va_tlen C.1 C.2.1 (q6.1 j hj).2.2.2 hss rfl hd K
theorem x_strB {j : Nat} {i : Int32} (hj : j < 6) (hd : decode (mB m) pc = .ok (.baload, 1)) (hi : vp_in i (slen.getD j 0)) (h : X m (pc + 1) L (.int ((sbyt.getD j []).getD i.toNatClampNeg 0) :: S) M b Q) : X m pc L (.int i :: .ref (64 * j + 61) :: S) M b Q := by
  intro g p l e R s mid args below meth cc Z C hR H locs cells slots ls hH hw hL hS hl2 hss hc hc2
  have K := h g p l e R s mid args below meth cc Z C hR H locs cells slots ls hH hw hL (ok1 (tl (tl hS)) trivial) hl2 hss hc hc2
  rw [List.map_cons, List.map_cons, cz_byt]
  obtain ⟨-, -, -, -, -, q6, -⟩ := C.2.2.2.2.2.2.2
  exact va_tb C.1 C.2.1 (q6.1 j hj).2.2.2 hss hi rfl hd K
theorem x_i2c {x : Int32} (hd : decode (mB m) pc = .ok (.i2c, 1)) (h : X m (pc + 1) L (.int ((x.toUInt32 % 65536).toInt32) :: S) M b Q) : X m pc L (.int x :: S) M b Q := X_pu h (fun hL hS => ⟨hL, ok1 (tl hS) trivial⟩) (fun C hl k => lv_i2c C.1 C.2.1 hd rfl (k _ hl))
theorem x_invVs {n i j : Nat} {As : List Value} (hj : j < 6) (hd : decode (mB m) pc = .ok (.invokevirtual i, 3)) (hl : Cond.methodLink (mY m).cls i (mY m') ∈ TG) (hv : MV m' n) (hn : As.length = n) (hc0 : "java/lang/String" = (mY m').cls) (hrm : RM m m') (hb : mC m' ≤ b.1 ∧ mS m' ≤ b.2) (hst : St = As.reverse ++ .ref (64 * j + 63) :: S) (hcat : (S.map fun v => v.category).sum ≤ 8)
    (h : CALL m' (.ref (64 * j + 63) :: As) M (aft m m' pc L S b Q)) : X m pc L St M b Q := by
  subst hst
  intro g p l e R s mid args below meth cc Z C hR H locs cells slots ls hH hw hL hS hl2 hss hc hc2
  have hSS : ∀ v ∈ S, okv M v := fun v hv => hS v (List.mem_append_right _ (List.mem_cons_of_mem _ hv))
  have hva : okv M (.ref (64 * j + 63)) := okv_str hj
  have hAs : ∀ v ∈ As, okv M v := fun v hv => hS v (List.mem_append_left _ (List.mem_reverse.mpr hv))
  have hts := C.2.2.2.2.1
  obtain ⟨f1, f2, f3, f4⟩ := C.2.2.2.2.2.1
  obtain ⟨-, -, -, -, -, q6, -⟩ := C.2.2.2.2.2.2.2
  rw [czr, List.map_cons, cz_str]
  have hM := h l g hw (ok1 hAs hva)
  refine W_run (va_runV (As := As.map (cz g)) (rest := S.map (cz g)) (n := n) (C := (mY m').cls) (bytes := mB m') (maxL := mL m') (ret := mT m') (Ts := TG) ⟨C.1, C.2.1, C.2.2.1, C.2.2.2.1, hts⟩ hM ⟨⟨rfl, rfl, Nat.le_trans hrm.1 f1, Nat.le_trans hrm.2 f2, pay_in hts (mw_good hv.1), List.mem_cons_self, hts _ hv.1.1, hts _ hv.1.2.1, ⟨hv.1.2.2.1, hv.1.2.2.2.1⟩, fun sig h => ?_, hts _ hl⟩, hts _ hv.2.1, hts _ hv.2.2⟩ ⟨cP_blind g M _, ?_, fun U hU hW => ⟨?_, by rw [hU]; exact hH, ku_at C.2.2.2.2.2.2.2 hss U hU hW⟩⟩ rfl (by rw [List.length_map]; exact hn) hl2.1 rfl (lv_room (by rw [cat_cz]; exact hcat)) hd ⟨by omega, by omega⟩) hss (aft_k C hR hL hSS hl2 hc hc2 hb)
  · have h2 := hv.1.2.2.2.2
    rw [h] at h2
    exact (Option.some.inj h2).symm
  · rw [← hc0]
    exact vk_recv q6 hj hss
  · show (Value.ref (eK g j) :: As.map (cz g)).toArray = _
    rw [List.map_cons, cz_str]
end STR
end
