section
-- ===== PART A: goes FIRST, ahead of the names: the tables' words, and 'selects' of the private methods out of them =====
/-- a private method of a class that the tables say can be made, by its rows of tables_1 -/
def lw_okq (q : MethodName × Nat) : Prop := (q.1.cls ≠ "java/lang/invoke/MethodHandle" ∧ q.1.cls ≠ "java/lang/invoke/VarHandle") ∧ Cond.instantiable q.1.cls q.2 ∈ tables_1 ∧ Cond.privateMethod q.1 ∈ tables_1 ∧ Cond.instanceMethod q.1 ∈ tables_1
theorem lw_p0 : lw_okq (⟨"LearnedCount$Library", "sortWords", "()V"⟩, 16) := ⟨⟨by decide +kernel, by decide +kernel⟩, List.mem_of_getElem? (i := 103) (by decide +kernel), List.mem_of_getElem? (i := 190) (by decide +kernel), List.mem_of_getElem? (i := 191) (by decide +kernel)⟩
theorem lw_p1 : lw_okq (⟨"LearnedCount$Library", "findFollowed", "()V"⟩, 16) := ⟨⟨by decide +kernel, by decide +kernel⟩, List.mem_of_getElem? (i := 103) (by decide +kernel), List.mem_of_getElem? (i := 194) (by decide +kernel), List.mem_of_getElem? (i := 195) (by decide +kernel)⟩
theorem lw_p2 : lw_okq (⟨"LearnedCount$Library", "findRings", "()V"⟩, 16) := ⟨⟨by decide +kernel, by decide +kernel⟩, List.mem_of_getElem? (i := 103) (by decide +kernel), List.mem_of_getElem? (i := 198) (by decide +kernel), List.mem_of_getElem? (i := 199) (by decide +kernel)⟩
theorem lw_p3 : lw_okq (⟨"LearnedCount$Library", "speakInOrder", "()V"⟩, 16) := ⟨⟨by decide +kernel, by decide +kernel⟩, List.mem_of_getElem? (i := 103) (by decide +kernel), List.mem_of_getElem? (i := 205) (by decide +kernel), List.mem_of_getElem? (i := 206) (by decide +kernel)⟩
theorem lw_p4 : lw_okq (⟨"LearnedCount$Library", "speak", "(I)V"⟩, 16) := ⟨⟨by decide +kernel, by decide +kernel⟩, List.mem_of_getElem? (i := 103) (by decide +kernel), List.mem_of_getElem? (i := 209) (by decide +kernel), List.mem_of_getElem? (i := 210) (by decide +kernel)⟩
theorem lw_p5 : lw_okq (⟨"LearnedCount$Library", "followedSaying", "(LLearnedCount$Word;I)I"⟩, 16) := ⟨⟨by decide +kernel, by decide +kernel⟩, List.mem_of_getElem? (i := 103) (by decide +kernel), List.mem_of_getElem? (i := 216) (by decide +kernel), List.mem_of_getElem? (i := 217) (by decide +kernel)⟩
theorem lw_p6 : lw_okq (⟨"LearnedCount$Library", "weighAll", "()V"⟩, 16) := ⟨⟨by decide +kernel, by decide +kernel⟩, List.mem_of_getElem? (i := 103) (by decide +kernel), List.mem_of_getElem? (i := 227) (by decide +kernel), List.mem_of_getElem? (i := 228) (by decide +kernel)⟩
theorem lw_p7 : lw_okq (⟨"LearnedCount$Library", "weightOf", "(I)I"⟩, 16) := ⟨⟨by decide +kernel, by decide +kernel⟩, List.mem_of_getElem? (i := 103) (by decide +kernel), List.mem_of_getElem? (i := 231) (by decide +kernel), List.mem_of_getElem? (i := 232) (by decide +kernel)⟩
theorem lw_p8 : lw_okq (⟨"LearnedCount$Library", "askLaws", "()V"⟩, 16) := ⟨⟨by decide +kernel, by decide +kernel⟩, List.mem_of_getElem? (i := 103) (by decide +kernel), List.mem_of_getElem? (i := 241) (by decide +kernel), List.mem_of_getElem? (i := 242) (by decide +kernel)⟩
theorem lw_p9 : lw_okq (⟨"LearnedCount$Library", "lawSaying", "(IZ)I"⟩, 16) := ⟨⟨by decide +kernel, by decide +kernel⟩, List.mem_of_getElem? (i := 103) (by decide +kernel), List.mem_of_getElem? (i := 245) (by decide +kernel), List.mem_of_getElem? (i := 246) (by decide +kernel)⟩
theorem lw_p10 : lw_okq (⟨"LearnedCount$Tokens", "isNamed", "(Ljava/lang/String;II)Z"⟩, 7) := ⟨⟨by decide +kernel, by decide +kernel⟩, List.mem_of_getElem? (i := 45) (by decide +kernel), List.mem_of_getElem? (i := 592) (by decide +kernel), List.mem_of_getElem? (i := 593) (by decide +kernel)⟩
theorem lw_p11 : lw_okq (⟨"LearnedCount$LibraryReader", "tellWord", "(LLearnedCount$Library;I)V"⟩, 2) := ⟨⟨by decide +kernel, by decide +kernel⟩, List.mem_of_getElem? (i := 80) (by decide +kernel), List.mem_of_getElem? (i := 597) (by decide +kernel), List.mem_of_getElem? (i := 598) (by decide +kernel)⟩
theorem lw_p12 : lw_okq (⟨"LearnedCount$Tokens", "letters", "(II)I"⟩, 7) := ⟨⟨by decide +kernel, by decide +kernel⟩, List.mem_of_getElem? (i := 45) (by decide +kernel), List.mem_of_getElem? (i := 618) (by decide +kernel), List.mem_of_getElem? (i := 619) (by decide +kernel)⟩
theorem lw_p13 : lw_okq (⟨"LearnedCount$LibraryReader", "tellSaying", "(LLearnedCount$Word;)V"⟩, 2) := ⟨⟨by decide +kernel, by decide +kernel⟩, List.mem_of_getElem? (i := 80) (by decide +kernel), List.mem_of_getElem? (i := 628) (by decide +kernel), List.mem_of_getElem? (i := 629) (by decide +kernel)⟩
theorem lw_p14 : lw_okq (⟨"LearnedCount$LibraryReader", "tellCopies", "(LLearnedCount$Library;I)I"⟩, 2) := ⟨⟨by decide +kernel, by decide +kernel⟩, List.mem_of_getElem? (i := 80) (by decide +kernel), List.mem_of_getElem? (i := 642) (by decide +kernel), List.mem_of_getElem? (i := 643) (by decide +kernel)⟩
theorem lw_p15 : lw_okq (⟨"LearnedCount$LibraryReader", "findWrongFollowers", "(LLearnedCount$Library;)V"⟩, 2) := ⟨⟨by decide +kernel, by decide +kernel⟩, List.mem_of_getElem? (i := 80) (by decide +kernel), List.mem_of_getElem? (i := 651) (by decide +kernel), List.mem_of_getElem? (i := 652) (by decide +kernel)⟩
def lw_privs_1 : List (MethodName × Nat) := [(⟨"LearnedCount$Library", "sortWords", "()V"⟩, 16), (⟨"LearnedCount$Library", "findFollowed", "()V"⟩, 16), (⟨"LearnedCount$Library", "findRings", "()V"⟩, 16), (⟨"LearnedCount$Library", "speakInOrder", "()V"⟩, 16), (⟨"LearnedCount$Library", "speak", "(I)V"⟩, 16), (⟨"LearnedCount$Library", "followedSaying", "(LLearnedCount$Word;I)I"⟩, 16), (⟨"LearnedCount$Library", "weighAll", "()V"⟩, 16), (⟨"LearnedCount$Library", "weightOf", "(I)I"⟩, 16), (⟨"LearnedCount$Library", "askLaws", "()V"⟩, 16), (⟨"LearnedCount$Library", "lawSaying", "(IZ)I"⟩, 16), (⟨"LearnedCount$Tokens", "isNamed", "(Ljava/lang/String;II)Z"⟩, 7), (⟨"LearnedCount$LibraryReader", "tellWord", "(LLearnedCount$Library;I)V"⟩, 2), (⟨"LearnedCount$Tokens", "letters", "(II)I"⟩, 7), (⟨"LearnedCount$LibraryReader", "tellSaying", "(LLearnedCount$Word;)V"⟩, 2), (⟨"LearnedCount$LibraryReader", "tellCopies", "(LLearnedCount$Library;I)I"⟩, 2), (⟨"LearnedCount$LibraryReader", "findWrongFollowers", "(LLearnedCount$Library;)V"⟩, 2)]
theorem lw_r1 : ∀ q ∈ lw_privs_1, lw_okq q := List.forall_mem_cons.mpr ⟨lw_p0, List.forall_mem_cons.mpr ⟨lw_p1, List.forall_mem_cons.mpr ⟨lw_p2, List.forall_mem_cons.mpr ⟨lw_p3, List.forall_mem_cons.mpr ⟨lw_p4, List.forall_mem_cons.mpr ⟨lw_p5, List.forall_mem_cons.mpr ⟨lw_p6, List.forall_mem_cons.mpr ⟨lw_p7, List.forall_mem_cons.mpr ⟨lw_p8, List.forall_mem_cons.mpr ⟨lw_p9, List.forall_mem_cons.mpr ⟨lw_p10, List.forall_mem_cons.mpr ⟨lw_p11, List.forall_mem_cons.mpr ⟨lw_p12, List.forall_mem_cons.mpr ⟨lw_p13, List.forall_mem_cons.mpr ⟨lw_p14, List.forall_mem_cons.mpr ⟨lw_p15, fun _ h => absurd h List.not_mem_nil⟩⟩⟩⟩⟩⟩⟩⟩⟩⟩⟩⟩⟩⟩⟩⟩
theorem lw_p16 : lw_okq (⟨"LearnedCount", "afterText", "(I)I"⟩, 14) := ⟨⟨by decide +kernel, by decide +kernel⟩, List.mem_of_getElem? (i := 22) (by decide +kernel), List.mem_of_getElem? (i := 664) (by decide +kernel), List.mem_of_getElem? (i := 665) (by decide +kernel)⟩
theorem lw_p17 : lw_okq (⟨"LearnedCount$RuleReader", "tell", "(LLearnedCount$Rule;I)V"⟩, 1) := ⟨⟨by decide +kernel, by decide +kernel⟩, List.mem_of_getElem? (i := 93) (by decide +kernel), List.mem_of_getElem? (i := 683) (by decide +kernel), List.mem_of_getElem? (i := 684) (by decide +kernel)⟩
theorem lw_p18 : lw_okq (⟨"LearnedCount", "isWord", "(I)Z"⟩, 14) := ⟨⟨by decide +kernel, by decide +kernel⟩, List.mem_of_getElem? (i := 22) (by decide +kernel), List.mem_of_getElem? (i := 710) (by decide +kernel), List.mem_of_getElem? (i := 711) (by decide +kernel)⟩
theorem lw_p19 : lw_okq (⟨"LearnedCount$Library", "mainWords", "(LLearnedCount$Rule;)I"⟩, 16) := ⟨⟨by decide +kernel, by decide +kernel⟩, List.mem_of_getElem? (i := 103) (by decide +kernel), List.mem_of_getElem? (i := 730) (by decide +kernel), List.mem_of_getElem? (i := 731) (by decide +kernel)⟩
theorem lw_p20 : lw_okq (⟨"LearnedCount", "weighNow", "()V"⟩, 14) := ⟨⟨by decide +kernel, by decide +kernel⟩, List.mem_of_getElem? (i := 22) (by decide +kernel), List.mem_of_getElem? (i := 754) (by decide +kernel), List.mem_of_getElem? (i := 755) (by decide +kernel)⟩
theorem lw_p21 : lw_okq (⟨"LearnedCount$Weighing", "settled", "(III)I"⟩, 10) := ⟨⟨by decide +kernel, by decide +kernel⟩, List.mem_of_getElem? (i := 370) (by decide +kernel), List.mem_of_getElem? (i := 767) (by decide +kernel), List.mem_of_getElem? (i := 768) (by decide +kernel)⟩
theorem lw_p22 : lw_okq (⟨"LearnedCount$Weighing", "heaviest", "(II)I"⟩, 10) := ⟨⟨by decide +kernel, by decide +kernel⟩, List.mem_of_getElem? (i := 370) (by decide +kernel), List.mem_of_getElem? (i := 772) (by decide +kernel), List.mem_of_getElem? (i := 773) (by decide +kernel)⟩
theorem lw_p23 : lw_okq (⟨"LearnedCount$Weighing", "lawIn", "(I)I"⟩, 10) := ⟨⟨by decide +kernel, by decide +kernel⟩, List.mem_of_getElem? (i := 370) (by decide +kernel), List.mem_of_getElem? (i := 816) (by decide +kernel), List.mem_of_getElem? (i := 817) (by decide +kernel)⟩
theorem lw_p24 : lw_okq (⟨"LearnedCount$Weighing", "headSaying", "()I"⟩, 10) := ⟨⟨by decide +kernel, by decide +kernel⟩, List.mem_of_getElem? (i := 370) (by decide +kernel), List.mem_of_getElem? (i := 821) (by decide +kernel), List.mem_of_getElem? (i := 822) (by decide +kernel)⟩
theorem lw_p25 : lw_okq (⟨"LearnedCount$Weighing", "decider", "(III)I"⟩, 10) := ⟨⟨by decide +kernel, by decide +kernel⟩, List.mem_of_getElem? (i := 370) (by decide +kernel), List.mem_of_getElem? (i := 825) (by decide +kernel), List.mem_of_getElem? (i := 826) (by decide +kernel)⟩
theorem lw_p26 : lw_okq (⟨"LearnedCount$Weighing", "answerBy", "(IIII)I"⟩, 10) := ⟨⟨by decide +kernel, by decide +kernel⟩, List.mem_of_getElem? (i := 370) (by decide +kernel), List.mem_of_getElem? (i := 829) (by decide +kernel), List.mem_of_getElem? (i := 830) (by decide +kernel)⟩
theorem lw_p27 : lw_okq (⟨"LearnedCount", "casesNow", "(I)J"⟩, 14) := ⟨⟨by decide +kernel, by decide +kernel⟩, List.mem_of_getElem? (i := 22) (by decide +kernel), List.mem_of_getElem? (i := 848) (by decide +kernel), List.mem_of_getElem? (i := 849) (by decide +kernel)⟩
theorem lw_p28 : lw_okq (⟨"LearnedCount", "fewestBooks", "(II)I"⟩, 14) := ⟨⟨by decide +kernel, by decide +kernel⟩, List.mem_of_getElem? (i := 22) (by decide +kernel), List.mem_of_getElem? (i := 891) (by decide +kernel), List.mem_of_getElem? (i := 892) (by decide +kernel)⟩
theorem lw_p29 : lw_okq (⟨"LearnedCount$Finding", "tallyDoctors", "()V"⟩, 2) := ⟨⟨by decide +kernel, by decide +kernel⟩, List.mem_of_getElem? (i := 414) (by decide +kernel), List.mem_of_getElem? (i := 913) (by decide +kernel), List.mem_of_getElem? (i := 914) (by decide +kernel)⟩
theorem lw_p30 : lw_okq (⟨"LearnedCount$Finding", "tally", "(II)V"⟩, 2) := ⟨⟨by decide +kernel, by decide +kernel⟩, List.mem_of_getElem? (i := 414) (by decide +kernel), List.mem_of_getElem? (i := 918) (by decide +kernel), List.mem_of_getElem? (i := 919) (by decide +kernel)⟩
theorem lw_p31 : lw_okq (⟨"LearnedCount", "readCells", "(LLearnedCount$Sheet;III)I"⟩, 14) := ⟨⟨by decide +kernel, by decide +kernel⟩, List.mem_of_getElem? (i := 22) (by decide +kernel), List.mem_of_getElem? (i := 1003) (by decide +kernel), List.mem_of_getElem? (i := 1004) (by decide +kernel)⟩
def lw_privs_2 : List (MethodName × Nat) := [(⟨"LearnedCount", "afterText", "(I)I"⟩, 14), (⟨"LearnedCount$RuleReader", "tell", "(LLearnedCount$Rule;I)V"⟩, 1), (⟨"LearnedCount", "isWord", "(I)Z"⟩, 14), (⟨"LearnedCount$Library", "mainWords", "(LLearnedCount$Rule;)I"⟩, 16), (⟨"LearnedCount", "weighNow", "()V"⟩, 14), (⟨"LearnedCount$Weighing", "settled", "(III)I"⟩, 10), (⟨"LearnedCount$Weighing", "heaviest", "(II)I"⟩, 10), (⟨"LearnedCount$Weighing", "lawIn", "(I)I"⟩, 10), (⟨"LearnedCount$Weighing", "headSaying", "()I"⟩, 10), (⟨"LearnedCount$Weighing", "decider", "(III)I"⟩, 10), (⟨"LearnedCount$Weighing", "answerBy", "(IIII)I"⟩, 10), (⟨"LearnedCount", "casesNow", "(I)J"⟩, 14), (⟨"LearnedCount", "fewestBooks", "(II)I"⟩, 14), (⟨"LearnedCount$Finding", "tallyDoctors", "()V"⟩, 2), (⟨"LearnedCount$Finding", "tally", "(II)V"⟩, 2), (⟨"LearnedCount", "readCells", "(LLearnedCount$Sheet;III)I"⟩, 14)]
theorem lw_r2 : ∀ q ∈ lw_privs_2, lw_okq q := List.forall_mem_cons.mpr ⟨lw_p16, List.forall_mem_cons.mpr ⟨lw_p17, List.forall_mem_cons.mpr ⟨lw_p18, List.forall_mem_cons.mpr ⟨lw_p19, List.forall_mem_cons.mpr ⟨lw_p20, List.forall_mem_cons.mpr ⟨lw_p21, List.forall_mem_cons.mpr ⟨lw_p22, List.forall_mem_cons.mpr ⟨lw_p23, List.forall_mem_cons.mpr ⟨lw_p24, List.forall_mem_cons.mpr ⟨lw_p25, List.forall_mem_cons.mpr ⟨lw_p26, List.forall_mem_cons.mpr ⟨lw_p27, List.forall_mem_cons.mpr ⟨lw_p28, List.forall_mem_cons.mpr ⟨lw_p29, List.forall_mem_cons.mpr ⟨lw_p30, List.forall_mem_cons.mpr ⟨lw_p31, fun _ h => absurd h List.not_mem_nil⟩⟩⟩⟩⟩⟩⟩⟩⟩⟩⟩⟩⟩⟩⟩⟩
theorem lw_p32 : lw_okq (⟨"LearnedCountModel", "firstLibrary", "()V"⟩, 43) := ⟨⟨by decide +kernel, by decide +kernel⟩, List.mem_of_getElem? (i := 1011) (by decide +kernel), List.mem_of_getElem? (i := 1017) (by decide +kernel), List.mem_of_getElem? (i := 1018) (by decide +kernel)⟩
theorem lw_p33 : lw_okq (⟨"LearnedCountModel", "keepLibrary", "()V"⟩, 43) := ⟨⟨by decide +kernel, by decide +kernel⟩, List.mem_of_getElem? (i := 1011) (by decide +kernel), List.mem_of_getElem? (i := 1021) (by decide +kernel), List.mem_of_getElem? (i := 1022) (by decide +kernel)⟩
theorem lw_p34 : lw_okq (⟨"LearnedCountModel", "findFollowing", "()V"⟩, 43) := ⟨⟨by decide +kernel, by decide +kernel⟩, List.mem_of_getElem? (i := 1011) (by decide +kernel), List.mem_of_getElem? (i := 1025) (by decide +kernel), List.mem_of_getElem? (i := 1026) (by decide +kernel)⟩
theorem lw_p35 : lw_okq (⟨"LearnedCountModel", "followed", "(I)I"⟩, 43) := ⟨⟨by decide +kernel, by decide +kernel⟩, List.mem_of_getElem? (i := 1011) (by decide +kernel), List.mem_of_getElem? (i := 1029) (by decide +kernel), List.mem_of_getElem? (i := 1030) (by decide +kernel)⟩
theorem lw_p36 : lw_okq (⟨"LearnedCountModel", "of", "(II)I"⟩, 43) := ⟨⟨by decide +kernel, by decide +kernel⟩, List.mem_of_getElem? (i := 1011) (by decide +kernel), List.mem_of_getElem? (i := 1033) (by decide +kernel), List.mem_of_getElem? (i := 1034) (by decide +kernel)⟩
theorem lw_p37 : lw_okq (⟨"LearnedCountModel", "findSaid", "()V"⟩, 43) := ⟨⟨by decide +kernel, by decide +kernel⟩, List.mem_of_getElem? (i := 1011) (by decide +kernel), List.mem_of_getElem? (i := 1037) (by decide +kernel), List.mem_of_getElem? (i := 1038) (by decide +kernel)⟩
theorem lw_p38 : lw_okq (⟨"LearnedCountModel", "isUnsound", "(I)Z"⟩, 43) := ⟨⟨by decide +kernel, by decide +kernel⟩, List.mem_of_getElem? (i := 1011) (by decide +kernel), List.mem_of_getElem? (i := 1041) (by decide +kernel), List.mem_of_getElem? (i := 1042) (by decide +kernel)⟩
theorem lw_p39 : lw_okq (⟨"LearnedCountModel", "sayWord", "(I)V"⟩, 43) := ⟨⟨by decide +kernel, by decide +kernel⟩, List.mem_of_getElem? (i := 1011) (by decide +kernel), List.mem_of_getElem? (i := 1045) (by decide +kernel), List.mem_of_getElem? (i := 1046) (by decide +kernel)⟩
theorem lw_p40 : lw_okq (⟨"LearnedCountModel", "casesWith", "(II)J"⟩, 43) := ⟨⟨by decide +kernel, by decide +kernel⟩, List.mem_of_getElem? (i := 1011) (by decide +kernel), List.mem_of_getElem? (i := 1049) (by decide +kernel), List.mem_of_getElem? (i := 1050) (by decide +kernel)⟩
theorem lw_p41 : lw_okq (⟨"LearnedCountModel", "firstRule", "()V"⟩, 43) := ⟨⟨by decide +kernel, by decide +kernel⟩, List.mem_of_getElem? (i := 1011) (by decide +kernel), List.mem_of_getElem? (i := 1053) (by decide +kernel), List.mem_of_getElem? (i := 1054) (by decide +kernel)⟩
theorem lw_p42 : lw_okq (⟨"LearnedCountModel", "next", "()V"⟩, 43) := ⟨⟨by decide +kernel, by decide +kernel⟩, List.mem_of_getElem? (i := 1011) (by decide +kernel), List.mem_of_getElem? (i := 1205) (by decide +kernel), List.mem_of_getElem? (i := 1206) (by decide +kernel)⟩
theorem lw_p43 : lw_okq (⟨"LearnedCountModel", "look", "(I)I"⟩, 43) := ⟨⟨by decide +kernel, by decide +kernel⟩, List.mem_of_getElem? (i := 1011) (by decide +kernel), List.mem_of_getElem? (i := 1209) (by decide +kernel), List.mem_of_getElem? (i := 1210) (by decide +kernel)⟩
theorem lw_p44 : lw_okq (⟨"LearnedCountModel", "wants", "(ZI)V"⟩, 43) := ⟨⟨by decide +kernel, by decide +kernel⟩, List.mem_of_getElem? (i := 1011) (by decide +kernel), List.mem_of_getElem? (i := 1217) (by decide +kernel), List.mem_of_getElem? (i := 1218) (by decide +kernel)⟩
theorem lw_p45 : lw_okq (⟨"LearnedCountModel", "readLine", "()V"⟩, 43) := ⟨⟨by decide +kernel, by decide +kernel⟩, List.mem_of_getElem? (i := 1011) (by decide +kernel), List.mem_of_getElem? (i := 1221) (by decide +kernel), List.mem_of_getElem? (i := 1222) (by decide +kernel)⟩
theorem lw_p46 : lw_okq (⟨"LearnedCountModel", "nameNow", "()I"⟩, 43) := ⟨⟨by decide +kernel, by decide +kernel⟩, List.mem_of_getElem? (i := 1011) (by decide +kernel), List.mem_of_getElem? (i := 1225) (by decide +kernel), List.mem_of_getElem? (i := 1226) (by decide +kernel)⟩
theorem lw_p47 : lw_okq (⟨"LearnedCountModel", "is", "(IIIII)Z"⟩, 43) := ⟨⟨by decide +kernel, by decide +kernel⟩, List.mem_of_getElem? (i := 1011) (by decide +kernel), List.mem_of_getElem? (i := 1229) (by decide +kernel), List.mem_of_getElem? (i := 1230) (by decide +kernel)⟩
def lw_privs_3 : List (MethodName × Nat) := [(⟨"LearnedCountModel", "firstLibrary", "()V"⟩, 43), (⟨"LearnedCountModel", "keepLibrary", "()V"⟩, 43), (⟨"LearnedCountModel", "findFollowing", "()V"⟩, 43), (⟨"LearnedCountModel", "followed", "(I)I"⟩, 43), (⟨"LearnedCountModel", "of", "(II)I"⟩, 43), (⟨"LearnedCountModel", "findSaid", "()V"⟩, 43), (⟨"LearnedCountModel", "isUnsound", "(I)Z"⟩, 43), (⟨"LearnedCountModel", "sayWord", "(I)V"⟩, 43), (⟨"LearnedCountModel", "casesWith", "(II)J"⟩, 43), (⟨"LearnedCountModel", "firstRule", "()V"⟩, 43), (⟨"LearnedCountModel", "next", "()V"⟩, 43), (⟨"LearnedCountModel", "look", "(I)I"⟩, 43), (⟨"LearnedCountModel", "wants", "(ZI)V"⟩, 43), (⟨"LearnedCountModel", "readLine", "()V"⟩, 43), (⟨"LearnedCountModel", "nameNow", "()I"⟩, 43), (⟨"LearnedCountModel", "is", "(IIIII)Z"⟩, 43)]
theorem lw_r3 : ∀ q ∈ lw_privs_3, lw_okq q := List.forall_mem_cons.mpr ⟨lw_p32, List.forall_mem_cons.mpr ⟨lw_p33, List.forall_mem_cons.mpr ⟨lw_p34, List.forall_mem_cons.mpr ⟨lw_p35, List.forall_mem_cons.mpr ⟨lw_p36, List.forall_mem_cons.mpr ⟨lw_p37, List.forall_mem_cons.mpr ⟨lw_p38, List.forall_mem_cons.mpr ⟨lw_p39, List.forall_mem_cons.mpr ⟨lw_p40, List.forall_mem_cons.mpr ⟨lw_p41, List.forall_mem_cons.mpr ⟨lw_p42, List.forall_mem_cons.mpr ⟨lw_p43, List.forall_mem_cons.mpr ⟨lw_p44, List.forall_mem_cons.mpr ⟨lw_p45, List.forall_mem_cons.mpr ⟨lw_p46, List.forall_mem_cons.mpr ⟨lw_p47, fun _ h => absurd h List.not_mem_nil⟩⟩⟩⟩⟩⟩⟩⟩⟩⟩⟩⟩⟩⟩⟩⟩
theorem lw_p48 : lw_okq (⟨"LearnedCountModel", "goesOn", "(IIII)Z"⟩, 43) := ⟨⟨by decide +kernel, by decide +kernel⟩, List.mem_of_getElem? (i := 1011) (by decide +kernel), List.mem_of_getElem? (i := 1233) (by decide +kernel), List.mem_of_getElem? (i := 1234) (by decide +kernel)⟩
theorem lw_p49 : lw_okq (⟨"LearnedCountModel", "ruleNameNow", "()I"⟩, 43) := ⟨⟨by decide +kernel, by decide +kernel⟩, List.mem_of_getElem? (i := 1011) (by decide +kernel), List.mem_of_getElem? (i := 1237) (by decide +kernel), List.mem_of_getElem? (i := 1238) (by decide +kernel)⟩
theorem lw_p50 : lw_okq (⟨"LearnedCountModel", "readNumber", "(II)I"⟩, 43) := ⟨⟨by decide +kernel, by decide +kernel⟩, List.mem_of_getElem? (i := 1011) (by decide +kernel), List.mem_of_getElem? (i := 1242) (by decide +kernel), List.mem_of_getElem? (i := 1243) (by decide +kernel)⟩
theorem lw_p51 : lw_okq (⟨"LearnedCountModel", "isNumber", "(II)V"⟩, 43) := ⟨⟨by decide +kernel, by decide +kernel⟩, List.mem_of_getElem? (i := 1011) (by decide +kernel), List.mem_of_getElem? (i := 1246) (by decide +kernel), List.mem_of_getElem? (i := 1247) (by decide +kernel)⟩
theorem lw_p52 : lw_okq (⟨"LearnedCountModel", "readCopies", "()V"⟩, 43) := ⟨⟨by decide +kernel, by decide +kernel⟩, List.mem_of_getElem? (i := 1011) (by decide +kernel), List.mem_of_getElem? (i := 1250) (by decide +kernel), List.mem_of_getElem? (i := 1251) (by decide +kernel)⟩
theorem lw_p53 : lw_okq (⟨"LearnedCountModel", "readWord", "(I)V"⟩, 43) := ⟨⟨by decide +kernel, by decide +kernel⟩, List.mem_of_getElem? (i := 1011) (by decide +kernel), List.mem_of_getElem? (i := 1254) (by decide +kernel), List.mem_of_getElem? (i := 1255) (by decide +kernel)⟩
theorem lw_p54 : lw_okq (⟨"LearnedCountModel", "readDoctor", "()I"⟩, 43) := ⟨⟨by decide +kernel, by decide +kernel⟩, List.mem_of_getElem? (i := 1011) (by decide +kernel), List.mem_of_getElem? (i := 1258) (by decide +kernel), List.mem_of_getElem? (i := 1259) (by decide +kernel)⟩
theorem lw_p55 : lw_okq (⟨"LearnedCountModel", "readMarks", "(I)I"⟩, 43) := ⟨⟨by decide +kernel, by decide +kernel⟩, List.mem_of_getElem? (i := 1011) (by decide +kernel), List.mem_of_getElem? (i := 1263) (by decide +kernel), List.mem_of_getElem? (i := 1264) (by decide +kernel)⟩
theorem lw_p56 : lw_okq (⟨"LearnedCountModel", "letters", "(II)I"⟩, 43) := ⟨⟨by decide +kernel, by decide +kernel⟩, List.mem_of_getElem? (i := 1011) (by decide +kernel), List.mem_of_getElem? (i := 1267) (by decide +kernel), List.mem_of_getElem? (i := 1268) (by decide +kernel)⟩
theorem lw_p57 : lw_okq (⟨"LearnedCountModel", "readAnswer", "()I"⟩, 43) := ⟨⟨by decide +kernel, by decide +kernel⟩, List.mem_of_getElem? (i := 1011) (by decide +kernel), List.mem_of_getElem? (i := 1271) (by decide +kernel), List.mem_of_getElem? (i := 1272) (by decide +kernel)⟩
theorem lw_p58 : lw_okq (⟨"LearnedCountModel", "endLine", "()V"⟩, 43) := ⟨⟨by decide +kernel, by decide +kernel⟩, List.mem_of_getElem? (i := 1011) (by decide +kernel), List.mem_of_getElem? (i := 1276) (by decide +kernel), List.mem_of_getElem? (i := 1277) (by decide +kernel)⟩
theorem lw_p59 : lw_okq (⟨"LearnedCountModel", "checks", "()V"⟩, 43) := ⟨⟨by decide +kernel, by decide +kernel⟩, List.mem_of_getElem? (i := 1011) (by decide +kernel), List.mem_of_getElem? (i := 1280) (by decide +kernel), List.mem_of_getElem? (i := 1281) (by decide +kernel)⟩
theorem lw_p60 : lw_okq (⟨"LearnedCountModel", "readRule", "()V"⟩, 43) := ⟨⟨by decide +kernel, by decide +kernel⟩, List.mem_of_getElem? (i := 1011) (by decide +kernel), List.mem_of_getElem? (i := 1288) (by decide +kernel), List.mem_of_getElem? (i := 1289) (by decide +kernel)⟩
theorem lw_p61 : lw_okq (⟨"LearnedCountModel", "readMain", "()I"⟩, 43) := ⟨⟨by decide +kernel, by decide +kernel⟩, List.mem_of_getElem? (i := 1011) (by decide +kernel), List.mem_of_getElem? (i := 1295) (by decide +kernel), List.mem_of_getElem? (i := 1296) (by decide +kernel)⟩
theorem lw_p62 : lw_okq (⟨"LearnedCountModel", "oneOf", "(IIIIII)I"⟩, 43) := ⟨⟨by decide +kernel, by decide +kernel⟩, List.mem_of_getElem? (i := 1011) (by decide +kernel), List.mem_of_getElem? (i := 1299) (by decide +kernel), List.mem_of_getElem? (i := 1300) (by decide +kernel)⟩
theorem lw_p63 : lw_okq (⟨"LearnedCountModel", "isWord", "(I)Z"⟩, 43) := ⟨⟨by decide +kernel, by decide +kernel⟩, List.mem_of_getElem? (i := 1011) (by decide +kernel), List.mem_of_getElem? (i := 1316) (by decide +kernel), List.mem_of_getElem? (i := 1317) (by decide +kernel)⟩
def lw_privs_4 : List (MethodName × Nat) := [(⟨"LearnedCountModel", "goesOn", "(IIII)Z"⟩, 43), (⟨"LearnedCountModel", "ruleNameNow", "()I"⟩, 43), (⟨"LearnedCountModel", "readNumber", "(II)I"⟩, 43), (⟨"LearnedCountModel", "isNumber", "(II)V"⟩, 43), (⟨"LearnedCountModel", "readCopies", "()V"⟩, 43), (⟨"LearnedCountModel", "readWord", "(I)V"⟩, 43), (⟨"LearnedCountModel", "readDoctor", "()I"⟩, 43), (⟨"LearnedCountModel", "readMarks", "(I)I"⟩, 43), (⟨"LearnedCountModel", "letters", "(II)I"⟩, 43), (⟨"LearnedCountModel", "readAnswer", "()I"⟩, 43), (⟨"LearnedCountModel", "endLine", "()V"⟩, 43), (⟨"LearnedCountModel", "checks", "()V"⟩, 43), (⟨"LearnedCountModel", "readRule", "()V"⟩, 43), (⟨"LearnedCountModel", "readMain", "()I"⟩, 43), (⟨"LearnedCountModel", "oneOf", "(IIIIII)I"⟩, 43), (⟨"LearnedCountModel", "isWord", "(I)Z"⟩, 43)]
theorem lw_r4 : ∀ q ∈ lw_privs_4, lw_okq q := List.forall_mem_cons.mpr ⟨lw_p48, List.forall_mem_cons.mpr ⟨lw_p49, List.forall_mem_cons.mpr ⟨lw_p50, List.forall_mem_cons.mpr ⟨lw_p51, List.forall_mem_cons.mpr ⟨lw_p52, List.forall_mem_cons.mpr ⟨lw_p53, List.forall_mem_cons.mpr ⟨lw_p54, List.forall_mem_cons.mpr ⟨lw_p55, List.forall_mem_cons.mpr ⟨lw_p56, List.forall_mem_cons.mpr ⟨lw_p57, List.forall_mem_cons.mpr ⟨lw_p58, List.forall_mem_cons.mpr ⟨lw_p59, List.forall_mem_cons.mpr ⟨lw_p60, List.forall_mem_cons.mpr ⟨lw_p61, List.forall_mem_cons.mpr ⟨lw_p62, List.forall_mem_cons.mpr ⟨lw_p63, fun _ h => absurd h List.not_mem_nil⟩⟩⟩⟩⟩⟩⟩⟩⟩⟩⟩⟩⟩⟩⟩⟩
theorem lw_p64 : lw_okq (⟨"LearnedCountModel", "weightOf", "(I)I"⟩, 43) := ⟨⟨by decide +kernel, by decide +kernel⟩, List.mem_of_getElem? (i := 1011) (by decide +kernel), List.mem_of_getElem? (i := 1321) (by decide +kernel), List.mem_of_getElem? (i := 1322) (by decide +kernel)⟩
theorem lw_p65 : lw_okq (⟨"LearnedCountModel", "counts", "(I)Z"⟩, 43) := ⟨⟨by decide +kernel, by decide +kernel⟩, List.mem_of_getElem? (i := 1011) (by decide +kernel), List.mem_of_getElem? (i := 1344) (by decide +kernel), List.mem_of_getElem? (i := 1345) (by decide +kernel)⟩
theorem lw_p66 : lw_okq (⟨"LearnedCountModel", "findEach", "()V"⟩, 43) := ⟨⟨by decide +kernel, by decide +kernel⟩, List.mem_of_getElem? (i := 1011) (by decide +kernel), List.mem_of_getElem? (i := 1363) (by decide +kernel), List.mem_of_getElem? (i := 1364) (by decide +kernel)⟩
theorem lw_p67 : lw_okq (⟨"LearnedCountModel", "findOne", "(I)V"⟩, 43) := ⟨⟨by decide +kernel, by decide +kernel⟩, List.mem_of_getElem? (i := 1011) (by decide +kernel), List.mem_of_getElem? (i := 1367) (by decide +kernel), List.mem_of_getElem? (i := 1368) (by decide +kernel)⟩
theorem lw_p68 : lw_okq (⟨"LearnedCountModel", "ofTwo", "(II)I"⟩, 43) := ⟨⟨by decide +kernel, by decide +kernel⟩, List.mem_of_getElem? (i := 1011) (by decide +kernel), List.mem_of_getElem? (i := 1372) (by decide +kernel), List.mem_of_getElem? (i := 1373) (by decide +kernel)⟩
theorem lw_p69 : lw_okq (⟨"LearnedCountModel", "findAll", "()V"⟩, 43) := ⟨⟨by decide +kernel, by decide +kernel⟩, List.mem_of_getElem? (i := 1011) (by decide +kernel), List.mem_of_getElem? (i := 1394) (by decide +kernel), List.mem_of_getElem? (i := 1395) (by decide +kernel)⟩
theorem lw_p70 : lw_okq (⟨"LearnedCountModel", "findHeld", "()V"⟩, 43) := ⟨⟨by decide +kernel, by decide +kernel⟩, List.mem_of_getElem? (i := 1011) (by decide +kernel), List.mem_of_getElem? (i := 1398) (by decide +kernel), List.mem_of_getElem? (i := 1399) (by decide +kernel)⟩
theorem lw_p71 : lw_okq (⟨"LearnedCountModel", "lawOf", "(I)I"⟩, 43) := ⟨⟨by decide +kernel, by decide +kernel⟩, List.mem_of_getElem? (i := 1011) (by decide +kernel), List.mem_of_getElem? (i := 1402) (by decide +kernel), List.mem_of_getElem? (i := 1403) (by decide +kernel)⟩
theorem lw_p72 : lw_okq (⟨"LearnedCountModel", "keepHeld", "()V"⟩, 43) := ⟨⟨by decide +kernel, by decide +kernel⟩, List.mem_of_getElem? (i := 1011) (by decide +kernel), List.mem_of_getElem? (i := 1406) (by decide +kernel), List.mem_of_getElem? (i := 1407) (by decide +kernel)⟩
theorem lw_p73 : lw_okq (⟨"LearnedCountModel", "findChanged", "()V"⟩, 43) := ⟨⟨by decide +kernel, by decide +kernel⟩, List.mem_of_getElem? (i := 1011) (by decide +kernel), List.mem_of_getElem? (i := 1410) (by decide +kernel), List.mem_of_getElem? (i := 1411) (by decide +kernel)⟩
theorem lw_p74 : lw_okq (⟨"LearnedCountModel", "areAsked", "(I)Z"⟩, 43) := ⟨⟨by decide +kernel, by decide +kernel⟩, List.mem_of_getElem? (i := 1011) (by decide +kernel), List.mem_of_getElem? (i := 1422) (by decide +kernel), List.mem_of_getElem? (i := 1423) (by decide +kernel)⟩
theorem lw_p75 : lw_okq (⟨"LearnedCountModel", "findGame", "(I)V"⟩, 43) := ⟨⟨by decide +kernel, by decide +kernel⟩, List.mem_of_getElem? (i := 1011) (by decide +kernel), List.mem_of_getElem? (i := 1462) (by decide +kernel), List.mem_of_getElem? (i := 1463) (by decide +kernel)⟩
theorem lw_p76 : lw_okq (⟨"LearnedCountModel", "bestTurn", "(III)I"⟩, 43) := ⟨⟨by decide +kernel, by decide +kernel⟩, List.mem_of_getElem? (i := 1011) (by decide +kernel), List.mem_of_getElem? (i := 1466) (by decide +kernel), List.mem_of_getElem? (i := 1467) (by decide +kernel)⟩
theorem lw_p77 : lw_okq (⟨"LearnedCountModel", "turnsBy", "(III)I"⟩, 43) := ⟨⟨by decide +kernel, by decide +kernel⟩, List.mem_of_getElem? (i := 1011) (by decide +kernel), List.mem_of_getElem? (i := 1474) (by decide +kernel), List.mem_of_getElem? (i := 1475) (by decide +kernel)⟩
def lw_privs_5 : List (MethodName × Nat) := [(⟨"LearnedCountModel", "weightOf", "(I)I"⟩, 43), (⟨"LearnedCountModel", "counts", "(I)Z"⟩, 43), (⟨"LearnedCountModel", "findEach", "()V"⟩, 43), (⟨"LearnedCountModel", "findOne", "(I)V"⟩, 43), (⟨"LearnedCountModel", "ofTwo", "(II)I"⟩, 43), (⟨"LearnedCountModel", "findAll", "()V"⟩, 43), (⟨"LearnedCountModel", "findHeld", "()V"⟩, 43), (⟨"LearnedCountModel", "lawOf", "(I)I"⟩, 43), (⟨"LearnedCountModel", "keepHeld", "()V"⟩, 43), (⟨"LearnedCountModel", "findChanged", "()V"⟩, 43), (⟨"LearnedCountModel", "areAsked", "(I)Z"⟩, 43), (⟨"LearnedCountModel", "findGame", "(I)V"⟩, 43), (⟨"LearnedCountModel", "bestTurn", "(III)I"⟩, 43), (⟨"LearnedCountModel", "turnsBy", "(III)I"⟩, 43)]
theorem lw_r5 : ∀ q ∈ lw_privs_5, lw_okq q := List.forall_mem_cons.mpr ⟨lw_p64, List.forall_mem_cons.mpr ⟨lw_p65, List.forall_mem_cons.mpr ⟨lw_p66, List.forall_mem_cons.mpr ⟨lw_p67, List.forall_mem_cons.mpr ⟨lw_p68, List.forall_mem_cons.mpr ⟨lw_p69, List.forall_mem_cons.mpr ⟨lw_p70, List.forall_mem_cons.mpr ⟨lw_p71, List.forall_mem_cons.mpr ⟨lw_p72, List.forall_mem_cons.mpr ⟨lw_p73, List.forall_mem_cons.mpr ⟨lw_p74, List.forall_mem_cons.mpr ⟨lw_p75, List.forall_mem_cons.mpr ⟨lw_p76, List.forall_mem_cons.mpr ⟨lw_p77, fun _ h => absurd h List.not_mem_nil⟩⟩⟩⟩⟩⟩⟩⟩⟩⟩⟩⟩⟩⟩
def lw_privs : List (MethodName × Nat) := lw_privs_1 ++ (lw_privs_2 ++ (lw_privs_3 ++ (lw_privs_4 ++ (lw_privs_5))))
def lw_tbl : List Cond := k2_sels lw_privs ++ tables_1
theorem lw_privs_ok : ∀ q ∈ lw_privs, lw_okq q := by
  show ∀ q ∈ lw_privs_1 ++ (lw_privs_2 ++ (lw_privs_3 ++ (lw_privs_4 ++ (lw_privs_5)))), lw_okq q
  exact List.forall_mem_append.mpr ⟨lw_r1, List.forall_mem_append.mpr ⟨lw_r2, List.forall_mem_append.mpr ⟨lw_r3, List.forall_mem_append.mpr ⟨lw_r4, lw_r5⟩⟩⟩⟩
/-- the words that keep: any method may be handed them all -/
def TG : List Cond := lw_tbl.filter goodWord
theorem TG_good : GoodIn TG TG := fun w h => ⟨h, good_of_word (List.mem_filter.mp h).2⟩
theorem TG_sub : ∀ w ∈ TG, w ∈ lw_tbl := fun w h => (List.mem_filter.mp h).1
theorem TG_at (i : Nat) {w : Cond} (h : lw_tbl[i]? = some w) (g : goodWord w = true) : w ∈ TG := List.mem_filter.mpr ⟨List.mem_of_getElem? h, g⟩
theorem TG_all {C : String} {T : u_T} {N : Nat} (ps : List Nat) (h : (u_ws C T N).map some = ps.map (fun i => lw_tbl[i]?)) (g : (u_ws C T N).all goodWord = true) : ∀ w ∈ u_ws C T N, w ∈ TG := by
  intro w hw
  have h1 : some w ∈ (u_ws C T N).map some := List.mem_map.mpr ⟨w, hw, rfl⟩
  rw [h] at h1
  obtain ⟨i, -, hi⟩ := List.mem_map.mp h1
  exact TG_at i hi (List.all_eq_true.mp g w hw)
theorem TG_p (i : Nat) {w : Cond} (h : (k2_sels lw_privs)[i]? = some w) (g : goodWord w = true) : w ∈ TG := List.mem_filter.mpr ⟨List.mem_append_left _ (List.mem_of_getElem? h), g⟩
theorem TG_s {w : Cond} (h : w ∈ tables_1) (g : goodWord w = true) : w ∈ TG := List.mem_filter.mpr ⟨List.mem_append_right _ h, g⟩
theorem TG_1 (i : Nat) {w : Cond} (h : tables_1_1[i]? = some w) (g : goodWord w = true) : w ∈ TG := TG_s (List.mem_append_left _ (List.mem_of_getElem? h)) g
theorem TG_2 (i : Nat) {w : Cond} (h : tables_1_2[i]? = some w) (g : goodWord w = true) : w ∈ TG := TG_s (List.mem_append_right _ (List.mem_append_left _ (List.mem_of_getElem? h))) g
theorem TG_3 (i : Nat) {w : Cond} (h : tables_1_3[i]? = some w) (g : goodWord w = true) : w ∈ TG := TG_s (List.mem_append_right _ (List.mem_append_right _ (List.mem_append_left _ (List.mem_of_getElem? h)))) g
theorem TG_4 (i : Nat) {w : Cond} (h : tables_1_4[i]? = some w) (g : goodWord w = true) : w ∈ TG := TG_s (List.mem_append_right _ (List.mem_append_right _ (List.mem_append_right _ (List.mem_append_left _ (List.mem_of_getElem? h))))) g
theorem TG_5 (i : Nat) {w : Cond} (h : tables_1_5[i]? = some w) (g : goodWord w = true) : w ∈ TG := TG_s (List.mem_append_right _ (List.mem_append_right _ (List.mem_append_right _ (List.mem_append_right _ (List.mem_append_left _ (List.mem_of_getElem? h)))))) g
theorem TG_6 (i : Nat) {w : Cond} (h : tables_1_6[i]? = some w) (g : goodWord w = true) : w ∈ TG := TG_s (List.mem_append_right _ (List.mem_append_right _ (List.mem_append_right _ (List.mem_append_right _ (List.mem_append_right _ (List.mem_append_left _ (List.mem_of_getElem? h))))))) g
theorem TG_7 (i : Nat) {w : Cond} (h : tables_1_7[i]? = some w) (g : goodWord w = true) : w ∈ TG := TG_s (List.mem_append_right _ (List.mem_append_right _ (List.mem_append_right _ (List.mem_append_right _ (List.mem_append_right _ (List.mem_append_right _ (List.mem_of_getElem? h))))))) g
end
section
def cT0 : u_T := fun k => match k with
  | 0 => ("LearnedCount$Finding", "weighing", "LLearnedCount$Weighing;", true)
  | _ => ("LearnedCount$Finding", "turned", "[I", true)
def cY0 : Nat → FieldType := fun k => match k with
  | 0 => (.object "LearnedCount$Weighing")
  | _ => (.array .int)
theorem cN0 : ∀ a, a < 2 → ∀ b, b < 2 → a ≠ b → (cT0 a).2.1 ≠ (cT0 b).2.1 := by decide +kernel
theorem cP0 : ∀ k, k < 2 → parseFieldDescriptor (cT0 k).2.2.1 = some (cY0 k) := by decide +kernel
theorem cI0 : ∀ w ∈ u_ws "LearnedCount$Finding" cT0 2, w ∈ TG := TG_all [500, 502] (by decide +kernel) (by decide +kernel)
def cT1 : u_T := fun k => match k with
  | 0 => ("LearnedCount$Library", "all", "[LLearnedCount$Word;", true)
  | 1 => ("LearnedCount$Library", "size", "I", false)
  | 2 => ("LearnedCount$Library", "copiesOf", "[I", true)
  | 3 => ("LearnedCount$Library", "yesIn", "[I", true)
  | 4 => ("LearnedCount$Library", "noIn", "[I", true)
  | 5 => ("LearnedCount$Library", "latestLaw", "[I", true)
  | 6 => ("LearnedCount$Library", "firstLaw", "[I", true)
  | 7 => ("LearnedCount$Library", "ofDoctor", "[I", true)
  | 8 => ("LearnedCount$Library", "inBook", "[I", true)
  | 9 => ("LearnedCount$Library", "ofWeight", "[I", true)
  | 10 => ("LearnedCount$Library", "lawWords", "I", false)
  | 11 => ("LearnedCount$Library", "noteWords", "I", false)
  | 12 => ("LearnedCount$Library", "inRing", "I", false)
  | 13 => ("LearnedCount$Library", "unsound", "I", false)
  | 14 => ("LearnedCount$Library", "followed", "[I", true)
  | _ => ("LearnedCount$Library", "reached", "[I", true)
def cY1 : Nat → FieldType := fun k => match k with
  | 0 => (.array (.object "LearnedCount$Word"))
  | 1 => .int
  | 2 => (.array .int)
  | 3 => (.array .int)
  | 4 => (.array .int)
  | 5 => (.array .int)
  | 6 => (.array .int)
  | 7 => (.array .int)
  | 8 => (.array .int)
  | 9 => (.array .int)
  | 10 => .int
  | 11 => .int
  | 12 => .int
  | 13 => .int
  | 14 => (.array .int)
  | _ => (.array .int)
theorem cN1 : ∀ a, a < 16 → ∀ b, b < 16 → a ≠ b → (cT1 a).2.1 ≠ (cT1 b).2.1 := by decide +kernel
theorem cP1 : ∀ k, k < 16 → parseFieldDescriptor (cT1 k).2.2.1 = some (cY1 k) := by decide +kernel
theorem cI1 : ∀ w ∈ u_ws "LearnedCount$Library" cT1 16, w ∈ TG := TG_all [362, 364, 366, 368, 370, 372, 374, 376, 378, 380, 382, 384, 386, 388, 390, 392] (by decide +kernel) (by decide +kernel)
def cT2 : u_T := fun k => match k with
  | 0 => ("LearnedCount$LibraryReader", "tokens", "LLearnedCount$Tokens;", true)
  | _ => ("LearnedCount$LibraryReader", "book", "I", false)
def cY2 : Nat → FieldType := fun k => match k with
  | 0 => (.object "LearnedCount$Tokens")
  | _ => .int
theorem cN2 : ∀ a, a < 2 → ∀ b, b < 2 → a ≠ b → (cT2 a).2.1 ≠ (cT2 b).2.1 := by decide +kernel
theorem cP2 : ∀ k, k < 2 → parseFieldDescriptor (cT2 k).2.2.1 = some (cY2 k) := by decide +kernel
theorem cI2 : ∀ w ∈ u_ws "LearnedCount$LibraryReader" cT2 2, w ∈ TG := TG_all [165, 167] (by decide +kernel) (by decide +kernel)
def cT3 : u_T := fun k => match k with
  | 0 => ("LearnedCount$Rule", "main", "I", false)
  | 1 => ("LearnedCount$Rule", "fewestCopies", "I", false)
  | 2 => ("LearnedCount$Rule", "notes", "Z", false)
  | 3 => ("LearnedCount$Rule", "two", "I", false)
  | 4 => ("LearnedCount$Rule", "head", "I", false)
  | 5 => ("LearnedCount$Rule", "silent", "I", false)
  | _ => ("LearnedCount$Rule", "laws", "I", false)
def cY3 : Nat → FieldType := fun k => match k with
  | 0 => .int
  | 1 => .int
  | 2 => .boolean
  | 3 => .int
  | 4 => .int
  | 5 => .int
  | _ => .int
theorem cN3 : ∀ a, a < 7 → ∀ b, b < 7 → a ≠ b → (cT3 a).2.1 ≠ (cT3 b).2.1 := by decide +kernel
theorem cP3 : ∀ k, k < 7 → parseFieldDescriptor (cT3 k).2.2.1 = some (cY3 k) := by decide +kernel
theorem cI3 : ∀ w ∈ u_ws "LearnedCount$Rule" cT3 7, w ∈ TG := TG_all [432, 434, 436, 438, 440, 442, 444] (by decide +kernel) (by decide +kernel)
def cT4 : u_T := fun k => match k with
  | _ => ("LearnedCount$RuleReader", "tokens", "LLearnedCount$Tokens;", true)
def cY4 : Nat → FieldType := fun k => match k with
  | _ => (.object "LearnedCount$Tokens")
theorem cN4 : ∀ a, a < 1 → ∀ b, b < 1 → a ≠ b → (cT4 a).2.1 ≠ (cT4 b).2.1 := by decide +kernel
theorem cP4 : ∀ k, k < 1 → parseFieldDescriptor (cT4 k).2.2.1 = some (cY4 k) := by decide +kernel
theorem cI4 : ∀ w ∈ u_ws "LearnedCount$RuleReader" cT4 1, w ∈ TG := TG_all [177] (by decide +kernel) (by decide +kernel)
def cT5 : u_T := fun k => match k with
  | 0 => ("LearnedCount$Sheet", "cells", "[I", true)
  | 1 => ("LearnedCount$Sheet", "lane", "I", false)
  | _ => ("LearnedCount$Sheet", "size", "I", false)
def cY5 : Nat → FieldType := fun k => match k with
  | 0 => (.array .int)
  | 1 => .int
  | _ => .int
theorem cN5 : ∀ a, a < 3 → ∀ b, b < 3 → a ≠ b → (cT5 a).2.1 ≠ (cT5 b).2.1 := by decide +kernel
theorem cP5 : ∀ k, k < 3 → parseFieldDescriptor (cT5 k).2.2.1 = some (cY5 k) := by decide +kernel
theorem cI5 : ∀ w ∈ u_ws "LearnedCount$Sheet" cT5 3, w ∈ TG := TG_all [518, 520, 522] (by decide +kernel) (by decide +kernel)
def cT6 : u_T := fun k => match k with
  | 0 => ("LearnedCount$Tape", "bytes", "[B", true)
  | _ => ("LearnedCount$Tape", "length", "I", false)
def cY6 : Nat → FieldType := fun k => match k with
  | 0 => (.array .byte)
  | _ => .int
theorem cN6 : ∀ a, a < 2 → ∀ b, b < 2 → a ≠ b → (cT6 a).2.1 ≠ (cT6 b).2.1 := by decide +kernel
theorem cP6 : ∀ k, k < 2 → parseFieldDescriptor (cT6 k).2.2.1 = some (cY6 k) := by decide +kernel
theorem cI6 : ∀ w ∈ u_ws "LearnedCount$Tape" cT6 2, w ∈ TG := TG_all [116, 118] (by decide +kernel) (by decide +kernel)
def cT7 : u_T := fun k => match k with
  | 0 => ("LearnedCount$Tokens", "tape", "LLearnedCount$Tape;", true)
  | 1 => ("LearnedCount$Tokens", "kind", "I", false)
  | 2 => ("LearnedCount$Tokens", "start", "I", false)
  | 3 => ("LearnedCount$Tokens", "behind", "I", false)
  | 4 => ("LearnedCount$Tokens", "number", "I", false)
  | 5 => ("LearnedCount$Tokens", "fault", "I", false)
  | _ => ("LearnedCount$Tokens", "place", "I", false)
def cY7 : Nat → FieldType := fun k => match k with
  | 0 => (.object "LearnedCount$Tape")
  | 1 => .int
  | 2 => .int
  | 3 => .int
  | 4 => .int
  | 5 => .int
  | _ => .int
theorem cN7 : ∀ a, a < 7 → ∀ b, b < 7 → a ≠ b → (cT7 a).2.1 ≠ (cT7 b).2.1 := by decide +kernel
theorem cP7 : ∀ k, k < 7 → parseFieldDescriptor (cT7 k).2.2.1 = some (cY7 k) := by decide +kernel
theorem cI7 : ∀ w ∈ u_ws "LearnedCount$Tokens" cT7 7, w ∈ TG := TG_all [142, 144, 146, 148, 150, 152, 154] (by decide +kernel) (by decide +kernel)
def cT8 : u_T := fun k => match k with
  | 0 => ("LearnedCount$Weighing", "library", "LLearnedCount$Library;", false)
  | 1 => ("LearnedCount$Weighing", "rule", "LLearnedCount$Rule;", false)
  | 2 => ("LearnedCount$Weighing", "counting", "I", false)
  | 3 => ("LearnedCount$Weighing", "opinions", "[I", true)
  | 4 => ("LearnedCount$Weighing", "weighed", "I", false)
  | 5 => ("LearnedCount$Weighing", "law", "I", false)
  | 6 => ("LearnedCount$Weighing", "yes", "I", false)
  | 7 => ("LearnedCount$Weighing", "no", "I", false)
  | 8 => ("LearnedCount$Weighing", "by", "I", false)
  | _ => ("LearnedCount$Weighing", "held", "I", false)
def cY8 : Nat → FieldType := fun k => match k with
  | 0 => (.object "LearnedCount$Library")
  | 1 => (.object "LearnedCount$Rule")
  | 2 => .int
  | 3 => (.array .int)
  | 4 => .int
  | 5 => .int
  | 6 => .int
  | 7 => .int
  | 8 => .int
  | _ => .int
theorem cN8 : ∀ a, a < 10 → ∀ b, b < 10 → a ≠ b → (cT8 a).2.1 ≠ (cT8 b).2.1 := by decide +kernel
theorem cP8 : ∀ k, k < 10 → parseFieldDescriptor (cT8 k).2.2.1 = some (cY8 k) := by decide +kernel
theorem cI8 : ∀ w ∈ u_ws "LearnedCount$Weighing" cT8 10, w ∈ TG := TG_all [470, 472, 474, 476, 478, 480, 482, 484, 486, 488] (by decide +kernel) (by decide +kernel)
def cT9 : u_T := fun k => match k with
  | 0 => ("LearnedCount$Word", "kind", "I", false)
  | 1 => ("LearnedCount$Word", "doctor", "I", false)
  | 2 => ("LearnedCount$Word", "book", "I", false)
  | 3 => ("LearnedCount$Word", "with", "I", false)
  | 4 => ("LearnedCount$Word", "without", "I", false)
  | 5 => ("LearnedCount$Word", "answer", "I", false)
  | 6 => ("LearnedCount$Word", "follows", "I", false)
  | 7 => ("LearnedCount$Word", "place", "I", false)
  | 8 => ("LearnedCount$Word", "day", "I", false)
  | 9 => ("LearnedCount$Word", "weight", "I", false)
  | _ => ("LearnedCount$Word", "stepsToEnd", "I", false)
def cY9 : Nat → FieldType := fun k => match k with
  | 0 => .int
  | 1 => .int
  | 2 => .int
  | 3 => .int
  | 4 => .int
  | 5 => .int
  | 6 => .int
  | 7 => .int
  | 8 => .int
  | 9 => .int
  | _ => .int
theorem cN9 : ∀ a, a < 11 → ∀ b, b < 11 → a ≠ b → (cT9 a).2.1 ≠ (cT9 b).2.1 := by decide +kernel
theorem cP9 : ∀ k, k < 11 → parseFieldDescriptor (cT9 k).2.2.1 = some (cY9 k) := by decide +kernel
theorem cI9 : ∀ w ∈ u_ws "LearnedCount$Word" cT9 11, w ∈ TG := TG_all [232, 234, 236, 238, 240, 242, 244, 246, 248, 250, 252] (by decide +kernel) (by decide +kernel)
def cT10 : u_T := fun k => match k with
  | 0 => ("LearnedCount", "tape", "LLearnedCount$Tape;", true)
  | 1 => ("LearnedCount", "tokens", "LLearnedCount$Tokens;", true)
  | 2 => ("LearnedCount", "libraryReader", "LLearnedCount$LibraryReader;", true)
  | 3 => ("LearnedCount", "ruleReader", "LLearnedCount$RuleReader;", true)
  | 4 => ("LearnedCount", "theLibrary", "LLearnedCount$Library;", false)
  | 5 => ("LearnedCount", "spareLibrary", "LLearnedCount$Library;", false)
  | 6 => ("LearnedCount", "theRule", "LLearnedCount$Rule;", false)
  | 7 => ("LearnedCount", "otherRule", "LLearnedCount$Rule;", false)
  | 8 => ("LearnedCount", "spareRule", "LLearnedCount$Rule;", false)
  | 9 => ("LearnedCount", "brought", "I", false)
  | 10 => ("LearnedCount", "latestFault", "I", false)
  | 11 => ("LearnedCount", "weighing", "LLearnedCount$Weighing;", true)
  | 12 => ("LearnedCount", "finding", "LLearnedCount$Finding;", true)
  | _ => ("LearnedCount", "sheets", "[LLearnedCount$Sheet;", true)
def cY10 : Nat → FieldType := fun k => match k with
  | 0 => (.object "LearnedCount$Tape")
  | 1 => (.object "LearnedCount$Tokens")
  | 2 => (.object "LearnedCount$LibraryReader")
  | 3 => (.object "LearnedCount$RuleReader")
  | 4 => (.object "LearnedCount$Library")
  | 5 => (.object "LearnedCount$Library")
  | 6 => (.object "LearnedCount$Rule")
  | 7 => (.object "LearnedCount$Rule")
  | 8 => (.object "LearnedCount$Rule")
  | 9 => .int
  | 10 => .int
  | 11 => (.object "LearnedCount$Weighing")
  | 12 => (.object "LearnedCount$Finding")
  | _ => (.array (.object "LearnedCount$Sheet"))
theorem cN10 : ∀ a, a < 14 → ∀ b, b < 14 → a ≠ b → (cT10 a).2.1 ≠ (cT10 b).2.1 := by decide +kernel
theorem cP10 : ∀ k, k < 14 → parseFieldDescriptor (cT10 k).2.2.1 = some (cY10 k) := by decide +kernel
theorem cI10 : ∀ w ∈ u_ws "LearnedCount" cT10 14, w ∈ TG := TG_all [539, 541, 543, 545, 547, 549, 551, 553, 555, 557, 559, 561, 563, 565] (by decide +kernel) (by decide +kernel)
def cT11 : u_T := fun k => match k with
  | 0 => ("LearnedCountModel", "words", "I", false)
  | 1 => ("LearnedCountModel", "told", "[I", true)
  | 2 => ("LearnedCountModel", "copy", "[I", true)
  | 3 => ("LearnedCountModel", "dWords", "I", false)
  | 4 => ("LearnedCountModel", "dTold", "[I", true)
  | 5 => ("LearnedCountModel", "dCopy", "[I", true)
  | 6 => ("LearnedCountModel", "isCopied", "[Z", true)
  | 7 => ("LearnedCountModel", "followsAt", "[I", true)
  | 8 => ("LearnedCountModel", "inBook", "I", false)
  | 9 => ("LearnedCountModel", "brought", "I", false)
  | 10 => ("LearnedCountModel", "tape", "[I", true)
  | 11 => ("LearnedCountModel", "taped", "I", false)
  | 12 => ("LearnedCountModel", "pos", "I", false)
  | 13 => ("LearnedCountModel", "from", "I", false)
  | 14 => ("LearnedCountModel", "sort", "I", false)
  | 15 => ("LearnedCountModel", "value", "I", false)
  | 16 => ("LearnedCountModel", "fault", "I", false)
  | 17 => ("LearnedCountModel", "wrongAt", "I", false)
  | 18 => ("LearnedCountModel", "rules", "[I", true)
  | 19 => ("LearnedCountModel", "others", "[I", true)
  | 20 => ("LearnedCountModel", "draft", "[I", true)
  | 21 => ("LearnedCountModel", "isTold", "[Z", true)
  | 22 => ("LearnedCountModel", "follows", "[I", true)
  | 23 => ("LearnedCountModel", "rings", "I", false)
  | 24 => ("LearnedCountModel", "unsound", "I", false)
  | 25 => ("LearnedCountModel", "sayYes", "[J", true)
  | 26 => ("LearnedCountModel", "sayNo", "[J", true)
  | 27 => ("LearnedCountModel", "eachYes", "[J", true)
  | 28 => ("LearnedCountModel", "eachNo", "[J", true)
  | 29 => ("LearnedCountModel", "clashes", "[J", true)
  | 30 => ("LearnedCountModel", "held", "[I", true)
  | 31 => ("LearnedCountModel", "heldBy", "[I", true)
  | 32 => ("LearnedCountModel", "yesMany", "[I", true)
  | 33 => ("LearnedCountModel", "noMany", "[I", true)
  | 34 => ("LearnedCountModel", "wasHeld", "[I", true)
  | 35 => ("LearnedCountModel", "changedMany", "I", false)
  | 36 => ("LearnedCountModel", "changedFirst", "I", false)
  | 37 => ("LearnedCountModel", "ends", "[I", true)
  | 38 => ("LearnedCountModel", "best", "[I", true)
  | 39 => ("LearnedCountModel", "firstTurn", "I", false)
  | 40 => ("LearnedCountModel", "lanes", "[I", true)
  | 41 => ("LearnedCountModel", "sizes", "[I", true)
  | _ => ("LearnedCountModel", "cells", "[I", true)
def cY11 : Nat → FieldType := fun k => match k with
  | 0 => .int
  | 1 => (.array .int)
  | 2 => (.array .int)
  | 3 => .int
  | 4 => (.array .int)
  | 5 => (.array .int)
  | 6 => (.array .boolean)
  | 7 => (.array .int)
  | 8 => .int
  | 9 => .int
  | 10 => (.array .int)
  | 11 => .int
  | 12 => .int
  | 13 => .int
  | 14 => .int
  | 15 => .int
  | 16 => .int
  | 17 => .int
  | 18 => (.array .int)
  | 19 => (.array .int)
  | 20 => (.array .int)
  | 21 => (.array .boolean)
  | 22 => (.array .int)
  | 23 => .int
  | 24 => .int
  | 25 => (.array .long)
  | 26 => (.array .long)
  | 27 => (.array .long)
  | 28 => (.array .long)
  | 29 => (.array .long)
  | 30 => (.array .int)
  | 31 => (.array .int)
  | 32 => (.array .int)
  | 33 => (.array .int)
  | 34 => (.array .int)
  | 35 => .int
  | 36 => .int
  | 37 => (.array .int)
  | 38 => (.array .int)
  | 39 => .int
  | 40 => (.array .int)
  | 41 => (.array .int)
  | _ => (.array .int)
theorem cN11 : ∀ a, a < 43 → ∀ b, b < 43 → a ≠ b → (cT11 a).2.1 ≠ (cT11 b).2.1 := by decide +kernel
theorem cP11 : ∀ k, k < 43 → parseFieldDescriptor (cT11 k).2.2.1 = some (cY11 k) := by decide +kernel
theorem cI11 : ∀ w ∈ u_ws "LearnedCountModel" cT11 43, w ∈ TG := TG_all [1177, 1179, 1181, 1183, 1185, 1187, 1189, 1191, 1193, 1195, 1197, 1199, 1201, 1203, 1205, 1207, 1209, 1211, 1213, 1215, 1217, 1219, 1221, 1223, 1225, 1227, 1229, 1231, 1233, 1235, 1237, 1239, 1241, 1243, 1245, 1247, 1249, 1251, 1253, 1255, 1257, 1259, 1261] (by decide +kernel) (by decide +kernel)
def kC : Nat → String := fun c => match c with
  | 0 => "LearnedCount$Finding"
  | 1 => "LearnedCount$Library"
  | 2 => "LearnedCount$LibraryReader"
  | 3 => "LearnedCount$Rule"
  | 4 => "LearnedCount$RuleReader"
  | 5 => "LearnedCount$Sheet"
  | 6 => "LearnedCount$Tape"
  | 7 => "LearnedCount$Tokens"
  | 8 => "LearnedCount$Weighing"
  | 9 => "LearnedCount$Word"
  | 10 => "LearnedCount"
  | _ => "LearnedCountModel"
def kT : Nat → u_T := fun c => match c with
  | 0 => cT0
  | 1 => cT1
  | 2 => cT2
  | 3 => cT3
  | 4 => cT4
  | 5 => cT5
  | 6 => cT6
  | 7 => cT7
  | 8 => cT8
  | 9 => cT9
  | 10 => cT10
  | _ => cT11
def kY : Nat → Nat → FieldType := fun c => match c with
  | 0 => cY0
  | 1 => cY1
  | 2 => cY2
  | 3 => cY3
  | 4 => cY4
  | 5 => cY5
  | 6 => cY6
  | 7 => cY7
  | 8 => cY8
  | 9 => cY9
  | 10 => cY10
  | _ => cY11
def kN : Nat → Nat := fun c => match c with
  | 0 => 2
  | 1 => 16
  | 2 => 2
  | 3 => 7
  | 4 => 1
  | 5 => 3
  | 6 => 2
  | 7 => 7
  | 8 => 10
  | 9 => 11
  | 10 => 14
  | _ => 43
def KC : List vw_C := [("LearnedCount$Finding", cT0, 2), ("LearnedCount$Library", cT1, 16), ("LearnedCount$LibraryReader", cT2, 2), ("LearnedCount$Rule", cT3, 7), ("LearnedCount$RuleReader", cT4, 1), ("LearnedCount$Sheet", cT5, 3), ("LearnedCount$Tape", cT6, 2), ("LearnedCount$Tokens", cT7, 7), ("LearnedCount$Weighing", cT8, 10), ("LearnedCount$Word", cT9, 11), ("LearnedCount", cT10, 14), ("LearnedCountModel", cT11, 43)]
theorem k_c {c : Nat} (h : c < 12) : KC[c]? = some (kC c, kT c, kN c) := by
  match c, h with
  | 0, _ => rfl
  | 1, _ => rfl
  | 2, _ => rfl
  | 3, _ => rfl
  | 4, _ => rfl
  | 5, _ => rfl
  | 6, _ => rfl
  | 7, _ => rfl
  | 8, _ => rfl
  | 9, _ => rfl
  | 10, _ => rfl
  | 11, _ => rfl
theorem k_i {c : Nat} (h : c < 12) : ∀ w ∈ u_ws (kC c) (kT c) (kN c), w ∈ TG := by
  match c, h with
  | 0, _ => exact cI0
  | 1, _ => exact cI1
  | 2, _ => exact cI2
  | 3, _ => exact cI3
  | 4, _ => exact cI4
  | 5, _ => exact cI5
  | 6, _ => exact cI6
  | 7, _ => exact cI7
  | 8, _ => exact cI8
  | 9, _ => exact cI9
  | 10, _ => exact cI10
  | 11, _ => exact cI11
theorem k_n {c : Nat} (h : c < 12) : ∀ a, a < kN c → ∀ b, b < kN c → a ≠ b → (kT c a).2.1 ≠ (kT c b).2.1 := by
  match c, h with
  | 0, _ => exact cN0
  | 1, _ => exact cN1
  | 2, _ => exact cN2
  | 3, _ => exact cN3
  | 4, _ => exact cN4
  | 5, _ => exact cN5
  | 6, _ => exact cN6
  | 7, _ => exact cN7
  | 8, _ => exact cN8
  | 9, _ => exact cN9
  | 10, _ => exact cN10
  | 11, _ => exact cN11
theorem k_p {c : Nat} (h : c < 12) : ∀ k, k < kN c → parseFieldDescriptor (kT c k).2.2.1 = some (kY c k) := by
  match c, h with
  | 0, _ => exact cP0
  | 1, _ => exact cP1
  | 2, _ => exact cP2
  | 3, _ => exact cP3
  | 4, _ => exact cP4
  | 5, _ => exact cP5
  | 6, _ => exact cP6
  | 7, _ => exact cP7
  | 8, _ => exact cP8
  | 9, _ => exact cP9
  | 10, _ => exact cP10
  | 11, _ => exact cP11
theorem k_ins {c : Nat} (h : c < 12) : Cond.instantiable (kC c) (kN c) ∈ TG := by
  match c, h with
  | 0, _ => exact TG_at 492 (by decide +kernel) (by decide +kernel)
  | 1, _ => exact TG_at 181 (by decide +kernel) (by decide +kernel)
  | 2, _ => exact TG_at 158 (by decide +kernel) (by decide +kernel)
  | 3, _ => exact TG_at 396 (by decide +kernel) (by decide +kernel)
  | 4, _ => exact TG_at 171 (by decide +kernel) (by decide +kernel)
  | 5, _ => exact TG_at 507 (by decide +kernel) (by decide +kernel)
  | 6, _ => exact TG_at 108 (by decide +kernel) (by decide +kernel)
  | 7, _ => exact TG_at 123 (by decide +kernel) (by decide +kernel)
  | 8, _ => exact TG_at 448 (by decide +kernel) (by decide +kernel)
  | 9, _ => exact TG_at 188 (by decide +kernel) (by decide +kernel)
  | 10, _ => exact TG_at 100 (by decide +kernel) (by decide +kernel)
  | 11, _ => exact TG_at 1089 (by decide +kernel) (by decide +kernel)
theorem k_ini {c : Nat} (h : c < 12) : Cond.initialized (kC c) ∈ TG := by
  match c, h with
  | 0, _ => exact TG_at 90 (by decide +kernel) (by decide +kernel)
  | 1, _ => exact TG_at 84 (by decide +kernel) (by decide +kernel)
  | 2, _ => exact TG_at 82 (by decide +kernel) (by decide +kernel)
  | 3, _ => exact TG_at 88 (by decide +kernel) (by decide +kernel)
  | 4, _ => exact TG_at 83 (by decide +kernel) (by decide +kernel)
  | 5, _ => exact TG_at 91 (by decide +kernel) (by decide +kernel)
  | 6, _ => exact TG_at 80 (by decide +kernel) (by decide +kernel)
  | 7, _ => exact TG_at 81 (by decide +kernel) (by decide +kernel)
  | 8, _ => exact TG_at 89 (by decide +kernel) (by decide +kernel)
  | 9, _ => exact TG_at 85 (by decide +kernel) (by decide +kernel)
  | 10, _ => exact TG_at 79 (by decide +kernel) (by decide +kernel)
  | 11, _ => exact TG_at 92 (by decide +kernel) (by decide +kernel)
/-- arrays: kind ↦ (type, length) -/
def aK : Nat → Nat × Nat := fun k => match k with
  | 12 => (0, 24)
  | 13 => (0, 8)
  | 14 => (0, 64)
  | 15 => (0, 7)
  | 16 => (0, 1024)
  | 17 => (2, 400)
  | 18 => (4, 24)
  | 19 => (5, 4)
  | 20 => (0, 40)
  | 21 => (0, 250)
  | 22 => (0, 400)
  | 23 => (0, 25)
  | 24 => (3, 8)
  | 25 => (3, 7)
  | 26 => (1, 25)
  | 27 => (1, 8)
  | 28 => (0, 4)
  | 29 => (0, 160)
  | _ => (0, 256)
def aT : Nat → FieldType := fun t => match t with
  | 0 => .int
  | 1 => .long
  | 2 => .byte
  | 3 => .boolean
  | 4 => (.object "LearnedCount$Word")
  | _ => (.object "LearnedCount$Sheet")
def rK : Nat → Nat → Nat := fun c j => match c with
  | 0 => ([8, 16] : List Nat).getD j 0
  | 1 => ([18, 0, 13, 14, 14, 14, 14, 13, 13, 15, 0, 0, 0, 0, 12, 12] : List Nat).getD j 0
  | 2 => ([7, 0] : List Nat).getD j 0
  | 4 => ([7] : List Nat).getD j 0
  | 5 => ([20, 0, 0] : List Nat).getD j 0
  | 6 => ([17, 0] : List Nat).getD j 0
  | 7 => ([6, 0, 0, 0, 0, 0, 0] : List Nat).getD j 0
  | 8 => ([1, 3, 0, 13, 0, 0, 0, 0, 0, 0] : List Nat).getD j 0
  | 10 => ([6, 7, 2, 4, 1, 1, 3, 3, 3, 0, 0, 8, 0, 19] : List Nat).getD j 0
  | 11 => ([0, 21, 13, 0, 21, 13, 24, 23, 0, 0, 22, 0, 0, 0, 0, 0, 0, 0, 15, 15, 15, 25, 23, 0, 0, 26, 26, 27, 27, 27, 14, 14, 14, 14, 14, 0, 0, 14, 30, 0, 28, 28, 29] : List Nat).getD j 0
  | 18 => 9
  | 19 => 5
  | _ => 0
end
section
/-! ===== methods, memories, how a memory lies in the heap ===== -/
abbrev MI : Type := MethodName × ByteArray × Nat × Option FieldType × Nat × Nat × Nat × Nat
def mY (m : MI) : MethodName := m.1
def mB (m : MI) : ByteArray := m.2.1
def mL (m : MI) : Nat := m.2.2.1
def mT (m : MI) : Option FieldType := m.2.2.2.1
def mF (m : MI) : Nat := m.2.2.2.2.1
def mO (m : MI) : Nat := m.2.2.2.2.2.1
def mC (m : MI) : Nat := m.2.2.2.2.2.2.1
def mS (m : MI) : Nat := m.2.2.2.2.2.2.2
def mRoom (m : MI) : Room := { frames := mF m, cells := mC m, slots := mS m, locals := mO m }
def mW (m : MI) : List Cond := .code (mY m) (mB m) (mL m) (mT m) :: TG
/-- shape and the script's length; ints, longs, references -/
abbrev Mm : Type := (List Nat × Nat) × (Nat → Nat → Int32) × (Nat → Nat → Int64) × (Nat → Nat → Option Nat)
def gi (M : Mm) (a j : Nat) : Int32 := M.2.1 a j
def gl (M : Mm) (a j : Nat) : Int64 := M.2.2.1 a j
def gr (M : Mm) (a j : Nat) : Option Nat := M.2.2.2 a j
def up2 {α : Type} (f : Nat → Nat → α) (a j : Nat) (v : α) : Nat → Nat → α := fun b k => if b = a ∧ k = j then v else f b k
def si (M : Mm) (a j : Nat) (v : Int32) : Mm := (M.1, up2 M.2.1 a j v, M.2.2.1, M.2.2.2)
def sl (M : Mm) (a j : Nat) (v : Int64) : Mm := (M.1, M.2.1, up2 M.2.2.1 a j v, M.2.2.2)
def sr (M : Mm) (a j : Nat) (v : Option Nat) : Mm := (M.1, M.2.1, M.2.2.1, up2 M.2.2.2 a j v)
/-- a new cell of a kind: all its places 0, null -/
def nw (M : Mm) (k : Nat) : Mm := ((M.1.1 ++ [k], M.1.2), (fun a j => if a = 64 * M.1.1.length + k then 0 else M.2.1 a j), (fun a j => if a = 64 * M.1.1.length + k then 0 else M.2.2.1 a j), (fun a j => if a = 64 * M.1.1.length + k then none else M.2.2.2 a j))
/-- the machine's side: class numbers, array classes, the first own cell, the String constants and their bytes, the script -/
abbrev Ev : Type := va_G × (Nat → ClassId) × Nat × (Nat → Nat) × (Nat → Nat) × Nat × Option Nat
def eD (g : Ev) : va_G := g.1
def eA (g : Ev) : Nat → ClassId := g.2.1
def eb (g : Ev) : Nat := g.2.2.1
def eK (g : Ev) : Nat → Nat := g.2.2.2.1
def eV (g : Ev) : Nat → Nat := g.2.2.2.2.1
def es (g : Ev) : Nat := g.2.2.2.2.2.1
/-- a static reference of the JDK's of which nothing is known -/
def ef (g : Ev) : Option Nat := g.2.2.2.2.2.2
def fA (g : Ev) : Nat → Prop := fun q => eb g ≤ q
def ca (g : Ev) (r : Nat) : Nat := if r % 64 = 63 then eK g (r / 64) else if r % 64 = 62 then es g else if r % 64 = 61 then eV g (r / 64) else eb g + r / 64
def cz (g : Ev) (v : Value) : Value := match v with
  | .ref r => .ref (ca g r)
  | .retAddr _ => va_rf (ef g)
  | v => v
theorem cz_cat (g : Ev) (v : Value) : (cz g v).category = v.category := by
  cases v <;> first | rfl | (show (va_rf (ef g)).category = 1; cases ef g <;> rfl)
def isI (t : FieldType) : Bool := match t with
  | .int => true
  | .boolean => true
  | _ => false
def fv (g : Ev) (M : Mm) (c a j : Nat) : Value := if isI (kY c j) = true then .int (gi M a j) else va_rf ((gr M a j).map (ca g))
def ce (g : Ev) (M : Mm) (k a : Nat) : va_E := if k < 12 then .inr (k, (List.range (kN k)).map (fv g M k a)) else
  if (aK k).1 = 1 then .inl (eA g 1, (aK k).2, .inr (.inl (gl M a))) else
  if (aK k).1 < 4 then .inl (eA g (aK k).1, (aK k).2, .inl (gi M a)) else
  .inl (eA g (aK k).1, (aK k).2, .inr (.inr (.inr (.inr (fun j => (gr M a j).map (ca g))))))
def wl (g : Ev) (M : Mm) : va_W := M.1.1.mapIdx (fun k d => (eb g + k, ce g M d (64 * k + d)))
def HR (g : Ev) (M : Mm) (H : Heap) : Prop := H.size = eb g + M.1.1.length ∧ va_P (eD g) KC (wl g M) H
def okA (M : Mm) (r : Nat) : Prop := M.1.1[r / 64]? = some (r % 64)
def WF (M : Mm) : Prop := (∀ d ∈ M.1.1, d < 61) ∧ ∀ a j r, gr M a j = some r → okA M r ∧ r % 64 = rK (a % 64) j
def okv (M : Mm) (v : Value) : Prop := match v with
  | .ref r => ((r % 64 = 63 ∨ r % 64 = 61) ∧ r / 64 < 6) ∨ r = 62 ∨ okA M r
  | _ => True
def okr (M : Mm) (r : Option Value) : Prop := ∀ v ∈ r.toList, okv M v
/-- what a run keeps: the shape grows, the script stays -/
def KM (M N : Mm) : Prop := (∃ e, N.1.1 = M.1.1 ++ e) ∧ N.1.2 = M.1.2 ∧ ∀ j, gi N 62 j = gi M 62 j
theorem km_rf (M : Mm) : KM M M := ⟨⟨[], by simp⟩, rfl, fun _ => rfl⟩
theorem km_tr {M N O : Mm} (h : KM M N) (k : KM N O) : KM M O := by
  obtain ⟨⟨e, h1⟩, h2, h3⟩ := h
  obtain ⟨⟨f, k1⟩, k2, k3⟩ := k
  exact ⟨⟨e ++ f, by rw [k1, h1, List.append_assoc]⟩, k2.trans h2, fun j => (k3 j).trans (h3 j)⟩
theorem km_ok {M N : Mm} (h : KM M N) {r : Nat} (k : okA M r) : okA N r := by
  obtain ⟨⟨e, h1⟩, -⟩ := h
  unfold okA at k ⊢
  rw [h1, List.getElem?_append_left (List.getElem?_eq_some_iff.mp k).1]
  exact k
theorem km_okv {M N : Mm} (h : KM M N) {v : Value} (k : okv M v) : okv N v := by
  cases v with
  | ref r =>
    rcases k with k | k | k
    · exact Or.inl k
    · exact Or.inr (Or.inl k)
    · exact Or.inr (Or.inr (km_ok h k))
  | _ => trivial
theorem ok_kd {M : Mm} (hw : WF M) {r : Nat} (h : okA M r) : r % 64 < 61 := hw.1 _ (List.mem_of_getElem? h)
theorem ca_ok {M : Mm} {g : Ev} (hw : WF M) {r : Nat} (h : okA M r) : ca g r = eb g + r / 64 := by
  have := ok_kd hw h
  unfold ca
  rw [if_neg (by omega), if_neg (by omega), if_neg (by omega)]
theorem wl_at {g : Ev} {M : Mm} {r : Nat} (h : okA M r) : (wl g M)[r / 64]? = some (eb g + r / 64, ce g M (r % 64) r) := by
  unfold wl
  rw [List.getElem?_mapIdx, show M.1.1[r / 64]? = some (r % 64) from h]
  simp only [Option.map_some]
  rw [show 64 * (r / 64) + r % 64 = r by omega]
theorem wl_D (g : Ev) (M : Mm) : va_D (fA g) (wl g M) := by
  have key : ∀ (i : Nat) (q : Nat × va_E), (wl g M)[i]? = some q → q.1 = eb g + i := by
    intro i q h
    unfold wl at h
    rw [List.getElem?_mapIdx] at h
    cases hm : M.1.1[i]? with
    | none => rw [hm] at h; cases h
    | some d => rw [hm] at h; cases h; rfl
  refine ⟨fun i j x y hx hy e => ?_, fun k q h => ?_⟩
  · have := key i x hx
    have := key j y hy
    omega
  · have := key k q h
    show eb g ≤ q.1
    omega
theorem wl_set {g : Ev} {M N : Mm} {a : Nat} {e : va_E} (hw : WF M) (h : okA M a) (hs : N.1.1 = M.1.1) (hI : ∀ b, b ≠ a → gi N b = gi M b ∧ gl N b = gl M b ∧ gr N b = gr M b) (he : e = ce g N (a % 64) a) : (wl g M).set (a / 64) (eb g + a / 64, e) = wl g N := by
  have hl : a / 64 < (wl g M).length := (List.getElem?_eq_some_iff.mp (wl_at (g := g) h)).1
  have hN : okA N a := by unfold okA; rw [hs]; exact h
  apply List.ext_getElem?
  intro i
  by_cases hi : i = a / 64
  · subst hi
    rw [List.getElem?_set_self hl, wl_at hN, he]
  · rw [List.getElem?_set_ne (Ne.symm hi)]
    unfold wl
    rw [List.getElem?_mapIdx, List.getElem?_mapIdx, hs]
    cases hm : M.1.1[i]? with
    | none => rfl
    | some d =>
      have hd := hw.1 d (List.mem_of_getElem? hm)
      obtain ⟨h1, h2, h3⟩ := hI (64 * i + d) (fun q => hi (by omega))
      have : fv g N d (64 * i + d) = fv g M d (64 * i + d) := by
        funext j
        simp only [fv, h1, h3]
      simp only [Option.map_some, ce, h1, h2, h3, this]
theorem range_set {α : Type} (f f' : Nat → α) (n j : Nat) (v : α) (h : f' = fun k => if k = j then v else f k) : ((List.range n).map f).set j v = (List.range n).map f' := by
  apply List.ext_getElem?
  intro i
  by_cases hi : i = j
  · subst hi
    by_cases hl : i < n
    · rw [List.getElem?_set_self (by simpa using hl)]
      simp [hl, h]
    · rw [List.getElem?_eq_none (by simpa using Nat.le_of_not_lt hl), List.getElem?_eq_none (by simpa using Nat.le_of_not_lt hl)]
  · rw [List.getElem?_set_ne (Ne.symm hi)]
    by_cases hl : i < n
    · simp [h, hi, hl]
    · rw [List.getElem?_eq_none (by simpa using Nat.le_of_not_lt hl), List.getElem?_eq_none (by simpa using Nat.le_of_not_lt hl)]
theorem up2_ne {α : Type} {f : Nat → Nat → α} {a j : Nat} {v : α} {b : Nat} (h : b ≠ a) : up2 f a j v b = f b := by
  funext k
  simp [up2, h]
theorem up2_at {α : Type} {f : Nat → Nat → α} {a j : Nat} {v : α} : up2 f a j v a = fun k => if k = j then v else f a k := by
  funext k
  simp [up2]
theorem gi_ne {M : Mm} {a j b : Nat} {v : Int32} (h : b ≠ a) : gi (si M a j v) b = gi M b := up2_ne h
theorem gi_at {M : Mm} {a j : Nat} {v : Int32} : gi (si M a j v) a = fun k => if k = j then v else gi M a k := up2_at
theorem gl_ne {M : Mm} {a j b : Nat} {v : Int64} (h : b ≠ a) : gl (sl M a j v) b = gl M b := up2_ne h
theorem gl_at {M : Mm} {a j : Nat} {v : Int64} : gl (sl M a j v) a = fun k => if k = j then v else gl M a k := up2_at
theorem gr_ne {M : Mm} {a j b : Nat} {v : Option Nat} (h : b ≠ a) : gr (sr M a j v) b = gr M b := up2_ne h
theorem gr_at {M : Mm} {a j : Nat} {v : Option Nat} : gr (sr M a j v) a = fun k => if k = j then v else gr M a k := up2_at
theorem km_si {M : Mm} {a j : Nat} {v : Int32} (h : a ≠ 62) : KM M (si M a j v) := ⟨⟨[], by simp [si]⟩, rfl, fun k => by rw [gi_ne (Ne.symm h)]⟩
theorem km_sl {M : Mm} {a j : Nat} {v : Int64} : KM M (sl M a j v) := ⟨⟨[], by simp [sl]⟩, rfl, fun k => rfl⟩
theorem km_sr {M : Mm} {a j : Nat} {v : Option Nat} : KM M (sr M a j v) := ⟨⟨[], by simp [sr]⟩, rfl, fun k => rfl⟩
theorem wf_si {M : Mm} {a j : Nat} {v : Int32} (h : WF M) : WF (si M a j v) := h
theorem wf_sl {M : Mm} {a j : Nat} {v : Int64} (h : WF M) : WF (sl M a j v) := h
theorem wf_sr {M : Mm} {a j r : Nat} (h : WF M) (hr : okA M r) (hk : r % 64 = rK (a % 64) j) : WF (sr M a j (some r)) := by
  refine ⟨h.1, fun b k q hq => ?_⟩
  by_cases hb : b = a ∧ k = j
  · obtain ⟨rfl, rfl⟩ := hb
    have : some r = some q := by simpa [gr, sr, up2] using hq
    cases this
    exact ⟨hr, hk⟩
  · have : gr M b k = some q := by
      have e : gr (sr M a j (some r)) b k = gr M b k := by simp only [gr, sr, up2, if_neg hb]
      rw [← e]; exact hq
    exact h.2 b k q this
/-! the world behind a store -/
theorem wl_putI {g : Ev} {M : Mm} {a j : Nat} {v : Int32} (hw : WF M) (h : okA M a) (hc : a % 64 < 12) (ht : isI (kY (a % 64) j) = true) : (wl g M).set (a / 64) (eb g + a / 64, .inr (a % 64, ((List.range (kN (a % 64))).map (fv g M (a % 64) a)).set j (.int v))) = wl g (si M a j v) := by
  refine wl_set hw h rfl (fun b hb => ⟨gi_ne hb, rfl, rfl⟩) ?_
  unfold ce
  rw [if_pos hc]
  congr 2
  refine range_set _ _ _ _ _ ?_
  funext k
  unfold fv
  by_cases hk : k = j
  · subst hk
    rw [if_pos ht, if_pos rfl, gi_at]
    simp
  · rw [if_neg hk, gi_at]
    simp only [if_neg hk]
    rfl
theorem wl_putR {g : Ev} {M : Mm} {a j r : Nat} (hw : WF M) (h : okA M a) (hc : a % 64 < 12) (ht : isI (kY (a % 64) j) = false) : (wl g M).set (a / 64) (eb g + a / 64, .inr (a % 64, ((List.range (kN (a % 64))).map (fv g M (a % 64) a)).set j (.ref (ca g r)))) = wl g (sr M a j (some r)) := by
  refine wl_set hw h rfl (fun b hb => ⟨rfl, rfl, gr_ne hb⟩) ?_
  unfold ce
  rw [if_pos hc]
  congr 2
  refine range_set _ _ _ _ _ ?_
  funext k
  unfold fv
  by_cases hk : k = j
  · subst hk
    rw [if_neg (by rw [ht]; decide), if_pos rfl, gr_at]
    simp [va_rf]
  · rw [if_neg hk, gr_at]
    simp only [if_neg hk]
    rfl
theorem ce_I {g : Ev} {M : Mm} {k a : Nat} (hc : ¬ k < 12) (h1 : (aK k).1 ≠ 1) (h4 : (aK k).1 < 4) : ce g M k a = .inl (eA g (aK k).1, (aK k).2, .inl (gi M a)) := by
  unfold ce
  rw [if_neg hc, if_neg h1, if_pos h4]
theorem ce_L {g : Ev} {M : Mm} {k a : Nat} (hc : ¬ k < 12) (h1 : (aK k).1 = 1) : ce g M k a = .inl (eA g 1, (aK k).2, .inr (.inl (gl M a))) := by
  unfold ce
  rw [if_neg hc, if_pos h1]
theorem ce_R {g : Ev} {M : Mm} {k a : Nat} (hc : ¬ k < 12) (h1 : (aK k).1 ≠ 1) (h4 : ¬ (aK k).1 < 4) : ce g M k a = .inl (eA g (aK k).1, (aK k).2, .inr (.inr (.inr (.inr (fun j => (gr M a j).map (ca g)))))) := by
  unfold ce
  rw [if_neg hc, if_neg h1, if_neg h4]
theorem ce_O {g : Ev} {M : Mm} {k a : Nat} (hc : k < 12) : ce g M k a = .inr (k, (List.range (kN k)).map (fv g M k a)) := by
  unfold ce
  rw [if_pos hc]
theorem wl_astI {g : Ev} {M : Mm} {a j : Nat} {v : Int32} (hw : WF M) (h : okA M a) (hc : ¬ a % 64 < 12) (h1 : (aK (a % 64)).1 ≠ 1) (h4 : (aK (a % 64)).1 < 4) : (wl g M).set (a / 64) (eb g + a / 64, .inl (eA g (aK (a % 64)).1, (aK (a % 64)).2, .inl (upd (gi M a) j v))) = wl g (si M a j v) := by
  refine wl_set hw h rfl (fun b hb => ⟨gi_ne hb, rfl, rfl⟩) ?_
  rw [ce_I hc h1 h4, gi_at]
  rfl
theorem wl_astL {g : Ev} {M : Mm} {a j : Nat} {v : Int64} (hw : WF M) (h : okA M a) (hc : ¬ a % 64 < 12) (h1 : (aK (a % 64)).1 = 1) : (wl g M).set (a / 64) (eb g + a / 64, .inl (eA g 1, (aK (a % 64)).2, .inr (.inl (vp_updL (gl M a) j v)))) = wl g (sl M a j v) := by
  refine wl_set hw h rfl (fun b hb => ⟨rfl, gl_ne hb, rfl⟩) ?_
  rw [ce_L hc h1, gl_at]
  rfl
theorem wl_astR {g : Ev} {M : Mm} {a j r : Nat} (hw : WF M) (h : okA M a) (hc : ¬ a % 64 < 12) (h1 : (aK (a % 64)).1 ≠ 1) (h4 : ¬ (aK (a % 64)).1 < 4) : (wl g M).set (a / 64) (eb g + a / 64, .inl (eA g (aK (a % 64)).1, (aK (a % 64)).2, .inr (.inr (.inr (.inr (va_up (fun j => (gr M a j).map (ca g)) j (some (ca g r)))))))) = wl g (sr M a j (some r)) := by
  refine wl_set hw h rfl (fun b hb => ⟨rfl, rfl, gr_ne hb⟩) ?_
  have e : va_up (fun j => (gr M a j).map (ca g)) j (some (ca g r)) = fun k => (gr (sr M a j (some r)) a k).map (ca g) := by
    rw [gr_at]
    funext k
    unfold va_up
    by_cases hk : k = j
    · simp [hk]
    · simp [hk]
  rw [ce_R hc h1 h4, e]
end
section
def sO : Nat → String := fun i => match i with
  | 0 => "LearnedCount$LibraryReader"
  | 1 => "LearnedCount$Tokens"
  | 2 => "LearnedCount$RuleReader"
  | 3 => "LearnedCount$RuleReader"
  | 4 => "LearnedCount$RuleReader"
  | _ => "LearnedCount$RuleReader"
def sI : Nat → Nat := fun i => match i with
  | 0 => 38
  | 1 => 91
  | 2 => 35
  | 3 => 73
  | 4 => 87
  | _ => 92
def sX : Nat → String := fun i => match i with
  | 0 => "word cite against note like law in copies"
  | 1 => "no yes"
  | 2 => "main copies notes two head silent laws"
  | 3 => "none later special"
  | 4 => "no yes open"
  | _ => "none later first"
def slen : List Nat := [41, 6, 38, 18, 11, 16]
def sbyt : List (List Int32) := [[119, 111, 114, 100, 32, 99, 105, 116, 101, 32, 97, 103, 97, 105, 110, 115, 116, 32, 110, 111, 116, 101, 32, 108, 105, 107, 101, 32, 108, 97, 119, 32, 105, 110, 32, 99, 111, 112, 105, 101, 115], [110, 111, 32, 121, 101, 115], [109, 97, 105, 110, 32, 99, 111, 112, 105, 101, 115, 32, 110, 111, 116, 101, 115, 32, 116, 119, 111, 32, 104, 101, 97, 100, 32, 115, 105, 108, 101, 110, 116, 32, 108, 97, 119, 115], [110, 111, 110, 101, 32, 108, 97, 116, 101, 114, 32, 115, 112, 101, 99, 105, 97, 108], [110, 111, 32, 121, 101, 115, 32, 111, 112, 101, 110], [110, 111, 110, 101, 32, 108, 97, 116, 101, 114, 32, 102, 105, 114, 115, 116]]
def nestl : List (String × Nat × MethodName × String) := [("LearnedCount$Library", 101, ⟨"LearnedCount", "holds", "(II)Z"⟩, "LearnedCount"), ("LearnedCount$Library", 124, ⟨"LearnedCount", "agreed", "(II)I"⟩, "LearnedCount"), ("LearnedCount$Tokens", 70, ⟨"LearnedCount", "holds", "(II)Z"⟩, "LearnedCount"), ("LearnedCount$LibraryReader", 66, ⟨"LearnedCount", "holds", "(II)Z"⟩, "LearnedCount"), ("LearnedCount$RuleReader", 45, ⟨"LearnedCount", "holds", "(II)Z"⟩, "LearnedCount"), ("LearnedCount$Weighing", 103, ⟨"LearnedCount", "agreed", "(II)I"⟩, "LearnedCount"), ("LearnedCount$Finding", 68, ⟨"LearnedCount", "holds", "(II)Z"⟩, "LearnedCount")]
def tys (g : Ev) : List (ClassId × FieldType) := [(eA g 0, aT 0), (eA g 1, aT 1), (eA g 2, aT 2), (eA g 3, aT 3), (eA g 4, aT 4), (eA g 5, aT 5)]
/-- what the tables and the cells that were there say, at a state and a heap: n, xs is the script -/
def KU (g : Ev) (n : Nat) (xs : Nat → Int32) (U : State) (H : Heap) : Prop :=
  va_K (eD g) KC (tys g) U ∧ (∀ q ∈ nestl, va_Nw (.methodLinkNest q.1 q.2.1 q.2.2.1 q.2.2.2) U) ∧ (va_AO "LearnedCount$Word" U ∧ va_AO "LearnedCount$Sheet" U) ∧ eb g ≤ H.size ∧ (∀ i, i < 6 → vk_R (sO i) (sI i) (sX i) (eK g i) U) ∧ vk_S 6 slen sbyt (eK g) (eV g) (fA g) U H ∧ (va_Z "java/lang/String" "COMPACT_STRINGS" "Z" (.int 1) (fA g) U H ∧ va_Z "jdk/internal/util/Preconditions" "SIOOBE_FORMATTER" "Ljava/util/function/BiFunction;" (va_rf (ef g)) (fA g) U H) ∧ va_X (es g) n xs U H ∧ es g < eb g
theorem ku_mv {g : Ev} {n : Nat} {xs : Nat → Int32} {s U : State} {H0 H : Heap} (h : KU g n xs s H0) (hW : s.WarmedH U.vm) (hz : H0.size ≤ H.size) (hk : ∀ q : Nat, q < H0.size → ¬ fA g q → H[q]? = H0[q]?) : KU g n xs U H := by
  obtain ⟨h1, h2, ⟨h3, h3'⟩, h4, h5, h6, h7, h8, h9⟩ := h
  refine ⟨va_K.moved hW.alike h1, fun q hq => va_Nw.warmM hW (h2 q hq), ⟨va_AO.moved hW.alike h3, va_AO.moved hW.alike h3'⟩, Nat.le_trans h4 hz, fun i hi => vk_R.warm hW (h5 i hi), (vk_S.moved hW.alike h6).kept hk, ⟨(va_Z.moved hW.alike h7.1).kept hk, (va_Z.moved hW.alike h7.2).kept hk⟩, (va_X.moved hW.alike h8).kept (hk _ (Nat.lt_of_lt_of_le h9 h4) (Nat.not_le.mpr h9)), h9⟩
theorem ku_same {g : Ev} {n : Nat} {xs : Nat → Int32} {u U : State} {H : Heap} (h : KU g n xs u H) (hv : u.vm = U.vm) : KU g n xs U H := by
  obtain ⟨h1, h2, ⟨h3, h3'⟩, h4, h5, h6, h7, h8, h9⟩ := h
  have hW : u.vm.Alike U.vm := by rw [hv]; exact Vm.Alike.refl _
  exact ⟨va_K.moved hW h1, fun q hq => va_Nw.same rfl hv (h2 q hq), ⟨va_AO.moved hW h3, va_AO.moved hW h3'⟩, h4, fun i hi => vk_R.same hv.symm (h5 i hi), vk_S.moved hW h6, ⟨va_Z.moved hW h7.1, va_Z.moved hW h7.2⟩, va_X.moved hW h8, h9⟩
/-- what stands while a method runs -/
def Cx (m : MI) (g : Ev) (n : Nat) (xs : Nat → Int32) (p : Program) (R : Room) (s : State) (mid : MethodId) (args : Array Value) (meth : Method) (c : Code) : Prop :=
  p.tables.exec = Jvm.exec ∧ c.code = mB m ∧ c.maxLocals = mL m ∧ s.vm.findClass (mY m).cls = some mid.cls ∧ (∀ w ∈ TG, w.before args s = true) ∧ (mF m ≤ R.frames ∧ mO m ≤ R.locals ∧ mC m ≤ R.cells ∧ mS m ≤ R.slots) ∧ meth.name = (mY m).name ∧ KU g n xs s s.heap
def retD (m : MI) (pc : Nat) (r : Option Value) : Prop := match r with
  | none => decode (mB m) pc = .ok (.return_, 1) ∧ mT m = none
  | some (.int v) => decode (mB m) pc = .ok (.ireturn, 1) ∧ ∃ ty, mT m = some ty ∧ narrow ty (.int v) = .int v
  | some (.long _) => decode (mB m) pc = .ok (.lreturn, 1) ∧ mT m = some .long
  | _ => False
/-- what a method's end is worth -/
def Rt (m : MI) (g : Ev) (p : Program) (l : Launch) (e : Env) (R : Room) (s : State) (mid : MethodId) (args : Array Value) (below : List Frame) (meth : Method) (c : Code) (Z : State → Prop) (M : Mm) (Q : Option Value → Mm → Prop) : Prop :=
  ∀ (r : Option Value) (N : Mm) (H : Heap) (locs : List Loc) (cells slots pc : Nat) (ls : Array Slot), Q r N → retD m pc r → HR g N H → WF N → KM M N → va_S (fA g) s.heap H locs → cells ≤ mC m → slots ≤ mS m → W p l e R s mid args below meth c H locs cells slots Z (F0 mid pc ls r.toList)
def cq (g : Ev) (q : Nat × Value) : Nat × Value := (q.1, cz g q.2)
/-- from pc, with these locals, this stack, this memory, and room for b cells and slots, the method comes to an end with Q -/
def X (m : MI) (pc : Nat) (L : List (Nat × Value)) (S : List Value) (M : Mm) (b : Nat × Nat) (Q : Option Value → Mm → Prop) : Prop :=
  ∀ (g : Ev) (p : Program) (l : Launch) (e : Env) (R : Room) (s : State) (mid : MethodId) (args : Array Value) (below : List Frame) (meth : Method) (c : Code) (Z : State → Prop), Cx m g M.1.2 (gi M 62) p R s mid args meth c → Rt m g p l e R s mid args below meth c Z M Q →
  ∀ (H : Heap) (locs : List Loc) (cells slots : Nat) (ls : Array Slot), HR g M H → WF M → (∀ q ∈ L, okv M q.2) → (∀ v ∈ S, okv M v) → lv_has ls (mL m) (L.map (cq g)) → va_S (fA g) s.heap H locs → cells + b.1 ≤ mC m → slots + b.2 ≤ mS m →
  W p l e R s mid args below meth c H locs cells slots Z (F0 mid pc ls (S.map (cz g)))
def ushr (x y : Int32) : Int32 := (x.toUInt32 >>> (y.toUInt32 &&& Int32.toUInt32 31)).toInt32
def lushr (x : Int64) (y : Int32) : Int64 := (x.toUInt64 >>> (y.toInt64.toUInt64 &&& Int64.toUInt64 63)).toInt64
theorem cz_str (g : Ev) (j : Nat) : cz g (.ref (64 * j + 63)) = .ref (eK g j) := by
  show Value.ref (ca g (64 * j + 63)) = _
  unfold ca
  rw [if_pos (by omega), show (64 * j + 63) / 64 = j by omega]
theorem okv_str {M : Mm} {j : Nat} (h : j < 6) : okv M (.ref (64 * j + 63)) := by
  refine Or.inl ⟨Or.inl ?_, ?_⟩
  · show (64 * j + 63) % 64 = 63
    omega
  · show (64 * j + 63) / 64 < 6
    omega
section ROWS
variable {m : MI} {pc : Nat} {L : List (Nat × Value)} {S : List Value} {M : Mm} {b : Nat × Nat} {Q : Option Value → Mm → Prop}
theorem tl {v : Value} (h : ∀ w ∈ v :: S, okv M w) : ∀ w ∈ S, okv M w := fun w hw => h w (List.mem_cons_of_mem _ hw)
theorem ok1 {v : Value} (h : ∀ w ∈ S, okv M w) (hv : okv M v) : ∀ w ∈ v :: S, okv M w := fun w hw => (List.mem_cons.mp hw).elim (fun e => e ▸ hv) (h w)
theorem okL1 {v : Value} {i : Nat} {F : Nat × Value → Bool} (h : ∀ q ∈ L, okv M q.2) (hv : okv M v) : ∀ q ∈ (i, v) :: L.filter F, okv M q.2 := fun q hq => (List.mem_cons.mp hq).elim (fun e => e ▸ hv) (fun hq => h q (List.mem_filter.mp hq).1)
theorem lmap {g : Ev} {q i : Nat} {v : Value} (h : L[q]? = some (i, v)) : (L.map (cq g))[q]? = some (i, cz g v) := by
  rw [List.getElem?_map, h]
  rfl
theorem lfilm (g : Ev) (L : List (Nat × Value)) (F : Nat × Value → Bool) (h : ∀ q, F (cq g q) = F q) : (L.map (cq g)).filter F = (L.filter F).map (cq g) := by
  rw [List.filter_map]
  congr 1
  refine List.filter_congr (fun q _ => h q)
theorem lfil1 (g : Ev) (L : List (Nat × Value)) (i : Nat) (v : Value) : (i, cz g v) :: (L.map (cq g)).filter (fun q => !(q.1 == i) && !(q.1 + 1 == i && q.2.category == 2)) = ((i, v) :: L.filter (fun q => !(q.1 == i) && !(q.1 + 1 == i && q.2.category == 2))).map (cq g) := by
  rw [lfilm g L _ (fun q => by simp only [cq, cz_cat])]
  rfl
theorem lfil2 (g : Ev) (L : List (Nat × Value)) (i : Nat) (v : Value) : (i, cz g v) :: (L.map (cq g)).filter (fun q => !(q.1 == i) && (!(q.1 == i + 1) && !(q.1 + 1 == i && q.2.category == 2))) = ((i, v) :: L.filter (fun q => !(q.1 == i) && (!(q.1 == i + 1) && !(q.1 + 1 == i && q.2.category == 2)))).map (cq g) := by
  rw [lfilm g L _ (fun q => by simp only [cq, cz_cat])]
  rfl
/-- a step that leaves the memory -/
theorem X_pu {pc' : Nat} {L' : List (Nat × Value)} {S' : List Value} (h : X m pc' L' S' M b Q) (hk : (∀ q ∈ L, okv M q.2) → (∀ v ∈ S, okv M v) → (∀ q ∈ L', okv M q.2) ∧ (∀ v ∈ S', okv M v))
    (st : ∀ {g : Ev} {p : Program} {l : Launch} {e : Env} {R : Room} {s : State} {mid : MethodId} {args : Array Value} {below : List Frame} {meth : Method} {c : Code} {Z : State → Prop} {H : Heap} {locs : List Loc} {cells slots : Nat} {ls : Array Slot}, Cx m g M.1.2 (gi M 62) p R s mid args meth c → lv_has ls (mL m) (L.map (cq g)) → (∀ ls', lv_has ls' (mL m) (L'.map (cq g)) → W p l e R s mid args below meth c H locs cells slots Z (F0 mid pc' ls' (S'.map (cz g)))) → W p l e R s mid args below meth c H locs cells slots Z (F0 mid pc ls (S.map (cz g)))) : X m pc L S M b Q := by
  intro g p l e R s mid args below meth c Z C hR H locs cells slots ls hH hw hL hS hl hs hc hc2
  obtain ⟨k1, k2⟩ := hk hL hS
  exact st C hl (fun ls' hl' => h g p l e R s mid args below meth c Z C hR H locs cells slots ls' hH hw k1 k2 hl' hs hc hc2)
/-- fewer locals, in another order -/
theorem x_loc {L' : List (Nat × Value)} (ks : List Nat) (he : lv_pick L ks = L') (h : X m pc L' S M b Q) : X m pc L S M b Q := by
  have hsub : ∀ q ∈ L', q ∈ L := by
    intro q hq
    rw [← he] at hq
    obtain ⟨k, -, hk⟩ := List.mem_filterMap.mp hq
    exact List.mem_of_getElem? hk
  exact X_pu h (fun hL hS => ⟨fun q hq => hL q (hsub q hq), hS⟩) (fun C hl k => k _ (by
    refine ⟨hl.1, hl.2.1, fun q hq => ?_⟩
    obtain ⟨q0, h0, rfl⟩ := List.mem_map.mp hq
    exact hl.2.2 _ (List.mem_map.mpr ⟨q0, hsub q0 h0, rfl⟩)))
/-- the memory is well made: a fact to use -/
theorem x_wf (h : WF M → X m pc L S M b Q) : X m pc L S M b Q := fun g p l e R s mid args below meth c Z C hR H locs cells slots ls hH hw => h hw g p l e R s mid args below meth c Z C hR H locs cells slots ls hH hw

theorem x_iadd {x y : Int32} (hd : decode (mB m) pc = .ok (.iadd, 1)) (h : X m (pc + 1) L (.int (x + y) :: S) M b Q) : X m pc L (.int y :: .int x :: S) M b Q := X_pu h (fun hL hS => ⟨hL, ok1 (tl (tl hS)) trivial⟩) (fun C hl k => lv_iadd C.1 C.2.1 hd (k _ hl))
theorem x_isub {x y : Int32} (hd : decode (mB m) pc = .ok (.isub, 1)) (h : X m (pc + 1) L (.int (x - y) :: S) M b Q) : X m pc L (.int y :: .int x :: S) M b Q := X_pu h (fun hL hS => ⟨hL, ok1 (tl (tl hS)) trivial⟩) (fun C hl k => lv_isub C.1 C.2.1 hd (k _ hl))
theorem x_imul {x y : Int32} (hd : decode (mB m) pc = .ok (.imul, 1)) (h : X m (pc + 1) L (.int (x * y) :: S) M b Q) : X m pc L (.int y :: .int x :: S) M b Q := X_pu h (fun hL hS => ⟨hL, ok1 (tl (tl hS)) trivial⟩) (fun C hl k => lv_imul C.1 C.2.1 hd (k _ hl))
theorem x_iand {x y : Int32} (hd : decode (mB m) pc = .ok (.iand, 1)) (h : X m (pc + 1) L (.int (x &&& y) :: S) M b Q) : X m pc L (.int y :: .int x :: S) M b Q := X_pu h (fun hL hS => ⟨hL, ok1 (tl (tl hS)) trivial⟩) (fun C hl k => lv_iand C.1 C.2.1 hd (k _ hl))
theorem x_ior {x y : Int32} (hd : decode (mB m) pc = .ok (.ior, 1)) (h : X m (pc + 1) L (.int (x ||| y) :: S) M b Q) : X m pc L (.int y :: .int x :: S) M b Q := X_pu h (fun hL hS => ⟨hL, ok1 (tl (tl hS)) trivial⟩) (fun C hl k => lv_ior C.1 C.2.1 hd (k _ hl))
theorem x_ixor {x y : Int32} (hd : decode (mB m) pc = .ok (.ixor, 1)) (h : X m (pc + 1) L (.int (x ^^^ y) :: S) M b Q) : X m pc L (.int y :: .int x :: S) M b Q := X_pu h (fun hL hS => ⟨hL, ok1 (tl (tl hS)) trivial⟩) (fun C hl k => lv_ixor C.1 C.2.1 hd (k _ hl))
theorem x_ishl {x y : Int32} (hd : decode (mB m) pc = .ok (.ishl, 1)) (h : X m (pc + 1) L (.int (x <<< (y &&& 31)) :: S) M b Q) : X m pc L (.int y :: .int x :: S) M b Q := X_pu h (fun hL hS => ⟨hL, ok1 (tl (tl hS)) trivial⟩) (fun C hl k => lv_ishl C.1 C.2.1 hd (k _ hl))
theorem x_ishr {x y : Int32} (hd : decode (mB m) pc = .ok (.ishr, 1)) (h : X m (pc + 1) L (.int (x >>> (y &&& 31)) :: S) M b Q) : X m pc L (.int y :: .int x :: S) M b Q := X_pu h (fun hL hS => ⟨hL, ok1 (tl (tl hS)) trivial⟩) (fun C hl k => lv_ishr C.1 C.2.1 hd (k _ hl))
theorem x_idiv {x y : Int32} (hd : decode (mB m) pc = .ok (.idiv, 1)) (hz : ¬ y = 0) (h : X m (pc + 1) L (.int (x / y) :: S) M b Q) : X m pc L (.int y :: .int x :: S) M b Q := X_pu h (fun hL hS => ⟨hL, ok1 (tl (tl hS)) trivial⟩) (fun C hl k => lv_idiv C.1 C.2.1 hd hz (k _ hl))
theorem x_irem {x y : Int32} (hd : decode (mB m) pc = .ok (.irem, 1)) (hz : ¬ y = 0) (h : X m (pc + 1) L (.int (x - x / y * y) :: S) M b Q) : X m pc L (.int y :: .int x :: S) M b Q := X_pu h (fun hL hS => ⟨hL, ok1 (tl (tl hS)) trivial⟩) (fun C hl k => lv_irem C.1 C.2.1 hd hz (k _ hl))
theorem x_iushr {x y : Int32} (hd : decode (mB m) pc = .ok (.iushr, 1)) (h : X m (pc + 1) L (.int (ushr x y) :: S) M b Q) : X m pc L (.int y :: .int x :: S) M b Q := X_pu h (fun hL hS => ⟨hL, ok1 (tl (tl hS)) trivial⟩) (fun C hl k => lv_iushr C.1 C.2.1 hd rfl (k _ hl))
theorem x_ladd {x y : Int64} (hd : decode (mB m) pc = .ok (.ladd, 1)) (h : X m (pc + 1) L (.long (x + y) :: S) M b Q) : X m pc L (.long y :: .long x :: S) M b Q := X_pu h (fun hL hS => ⟨hL, ok1 (tl (tl hS)) trivial⟩) (fun C hl k => lv_ladd C.1 C.2.1 hd (k _ hl))
theorem x_lsub {x y : Int64} (hd : decode (mB m) pc = .ok (.lsub, 1)) (h : X m (pc + 1) L (.long (x - y) :: S) M b Q) : X m pc L (.long y :: .long x :: S) M b Q := X_pu h (fun hL hS => ⟨hL, ok1 (tl (tl hS)) trivial⟩) (fun C hl k => lv_lsub C.1 C.2.1 hd (k _ hl))
theorem x_land {x y : Int64} (hd : decode (mB m) pc = .ok (.land, 1)) (h : X m (pc + 1) L (.long (x &&& y) :: S) M b Q) : X m pc L (.long y :: .long x :: S) M b Q := X_pu h (fun hL hS => ⟨hL, ok1 (tl (tl hS)) trivial⟩) (fun C hl k => lv_land C.1 C.2.1 hd (k _ hl))
theorem x_lor {x y : Int64} (hd : decode (mB m) pc = .ok (.lor, 1)) (h : X m (pc + 1) L (.long (x ||| y) :: S) M b Q) : X m pc L (.long y :: .long x :: S) M b Q := X_pu h (fun hL hS => ⟨hL, ok1 (tl (tl hS)) trivial⟩) (fun C hl k => lv_lor C.1 C.2.1 hd (k _ hl))
theorem x_lxor {x y : Int64} (hd : decode (mB m) pc = .ok (.lxor, 1)) (h : X m (pc + 1) L (.long (x ^^^ y) :: S) M b Q) : X m pc L (.long y :: .long x :: S) M b Q := X_pu h (fun hL hS => ⟨hL, ok1 (tl (tl hS)) trivial⟩) (fun C hl k => lv_lxor C.1 C.2.1 hd (k _ hl))
theorem x_lcmp {x y : Int64} (hd : decode (mB m) pc = .ok (.lcmp, 1)) (h : X m (pc + 1) L (.int (lg_cmp x y) :: S) M b Q) : X m pc L (.long y :: .long x :: S) M b Q := X_pu h (fun hL hS => ⟨hL, ok1 (tl (tl hS)) trivial⟩) (fun C hl k => W.lcmp C.1 C.2.1 hd (k _ hl))
theorem x_lushr {x : Int64} {y : Int32} (hd : decode (mB m) pc = .ok (.lushr, 1)) (h : X m (pc + 1) L (.long (lushr x y) :: S) M b Q) : X m pc L (.int y :: .long x :: S) M b Q := X_pu h (fun hL hS => ⟨hL, ok1 (tl (tl hS)) trivial⟩) (fun C hl k => lv_lushr C.1 C.2.1 hd rfl (k _ hl))
theorem x_lshl {x : Int64} {y : Int32} (hd : decode (mB m) pc = .ok (.lshl, 1)) (h : X m (pc + 1) L (.long (x <<< (y.toInt64 &&& 63)) :: S) M b Q) : X m pc L (.int y :: .long x :: S) M b Q := X_pu h (fun hL hS => ⟨hL, ok1 (tl (tl hS)) trivial⟩) (fun C hl k => lv_lshl C.1 C.2.1 hd rfl (k _ hl))
theorem x_lshr {x : Int64} {y : Int32} (hd : decode (mB m) pc = .ok (.lshr, 1)) (h : X m (pc + 1) L (.long (x >>> (y.toInt64 &&& 63)) :: S) M b Q) : X m pc L (.int y :: .long x :: S) M b Q := X_pu h (fun hL hS => ⟨hL, ok1 (tl (tl hS)) trivial⟩) (fun C hl k => lv_lshr C.1 C.2.1 hd rfl (k _ hl))
theorem x_i2l {x : Int32} (hd : decode (mB m) pc = .ok (.i2l, 1)) (h : X m (pc + 1) L (.long (x.toInt64) :: S) M b Q) : X m pc L (.int x :: S) M b Q := X_pu h (fun hL hS => ⟨hL, ok1 (tl hS) trivial⟩) (fun C hl k => lv_i2l C.1 C.2.1 hd rfl (k _ hl))
theorem x_l2i {x : Int64} (hd : decode (mB m) pc = .ok (.l2i, 1)) (h : X m (pc + 1) L (.int (x.toInt32) :: S) M b Q) : X m pc L (.long x :: S) M b Q := X_pu h (fun hL hS => ⟨hL, ok1 (tl hS) trivial⟩) (fun C hl k => lv_l2i C.1 C.2.1 hd rfl (k _ hl))
theorem x_i2b {x : Int32} (hd : decode (mB m) pc = .ok (.i2b, 1)) (h : X m (pc + 1) L (.int (x.toInt8.toInt32) :: S) M b Q) : X m pc L (.int x :: S) M b Q := X_pu h (fun hL hS => ⟨hL, ok1 (tl hS) trivial⟩) (fun C hl k => lv_i2b C.1 C.2.1 hd rfl (k _ hl))
theorem x_i2s {x : Int32} (hd : decode (mB m) pc = .ok (.i2s, 1)) (h : X m (pc + 1) L (.int (x.toInt16.toInt32) :: S) M b Q) : X m pc L (.int x :: S) M b Q := X_pu h (fun hL hS => ⟨hL, ok1 (tl hS) trivial⟩) (fun C hl k => lv_i2s C.1 C.2.1 hd rfl (k _ hl))
theorem x_ineg {x : Int32} (hd : decode (mB m) pc = .ok (.ineg, 1)) (h : X m (pc + 1) L (.int (-x) :: S) M b Q) : X m pc L (.int x :: S) M b Q := X_pu h (fun hL hS => ⟨hL, ok1 (tl hS) trivial⟩) (fun C hl k => lv_ineg C.1 C.2.1 hd (k _ hl))
theorem x_iconst {n : Int} {v : Int32} (hd : decode (mB m) pc = .ok (.iconst n, 1)) (hv : Int32.ofInt n = v) (h : X m (pc + 1) L (.int v :: S) M b Q) : X m pc L S M b Q := X_pu h (fun hL hS => ⟨hL, ok1 hS trivial⟩) (fun C hl k => lv_iconst C.1 C.2.1 hd hv (k _ hl))
theorem x_bipush {n : Int} {v : Int32} (hd : decode (mB m) pc = .ok (.bipush n, 2)) (hv : (Int8.ofInt n).toInt32 = v) (h : X m (pc + 2) L (.int v :: S) M b Q) : X m pc L S M b Q := X_pu h (fun hL hS => ⟨hL, ok1 hS trivial⟩) (fun C hl k => lv_bipush C.1 C.2.1 hd hv (k _ hl))
theorem x_sipush {n : Int} {v : Int32} (hd : decode (mB m) pc = .ok (.sipush n, 3)) (hv : (Int16.ofInt n).toInt32 = v) (h : X m (pc + 3) L (.int v :: S) M b Q) : X m pc L S M b Q := X_pu h (fun hL hS => ⟨hL, ok1 hS trivial⟩) (fun C hl k => lv_sipush C.1 C.2.1 hd hv (k _ hl))
theorem x_lconst {n : Fin 2} {v : Int64} (hd : decode (mB m) pc = .ok (.lconst n, 1)) (hv : Int64.ofNat (n : Nat) = v) (h : X m (pc + 1) L (.long v :: S) M b Q) : X m pc L S M b Q := X_pu h (fun hL hS => ⟨hL, ok1 hS trivial⟩) (fun C hl k => lv_lconst C.1 C.2.1 hd hv (k _ hl))
theorem x_ldc {i : Nat} {v : Int32} (hd : decode (mB m) pc = .ok (.ldc i, 2)) (hc : Cond.constant (mY m).cls i v ∈ TG) (h : X m (pc + 2) L (.int v :: S) M b Q) : X m pc L S M b Q := X_pu h (fun hL hS => ⟨hL, ok1 hS trivial⟩) (fun C hl k => lv_ldc C.1 C.2.1 C.2.2.2.1 (C.2.2.2.2.1 _ hc) hd (k _ hl))
theorem x_ldcw {i : Nat} {v : Int32} (hd : decode (mB m) pc = .ok (.ldc_w i, 3)) (hc : Cond.constant (mY m).cls i v ∈ TG) (h : X m (pc + 3) L (.int v :: S) M b Q) : X m pc L S M b Q := X_pu h (fun hL hS => ⟨hL, ok1 hS trivial⟩) (fun C hl k => lv_ldcw C.1 C.2.1 C.2.2.2.1 (C.2.2.2.2.1 _ hc) hd (k _ hl))
theorem x_ldc2 {i : Nat} {v : Int64} (hd : decode (mB m) pc = .ok (.ldc2_w i, 3)) (hc : Cond.constantLong (mY m).cls i v ∈ TG) (h : X m (pc + 3) L (.long v :: S) M b Q) : X m pc L S M b Q := X_pu h (fun hL hS => ⟨hL, ok1 hS trivial⟩) (fun C hl k => lv_ldc2 C.1 C.2.1 C.2.2.2.1 (C.2.2.2.2.1 _ hc) hd (k _ hl))
theorem x_ldcS {i j : Nat} (hd : decode (mB m) pc = .ok (.ldc i, 2)) (hj : j < 6) (hs : sO j = (mY m).cls ∧ sI j = i) (h : X m (pc + 2) L (.ref (64 * j + 63) :: S) M b Q) : X m pc L S M b Q := X_pu h (fun hL hS => ⟨hL, ok1 hS (okv_str hj)⟩) (fun {g} {p} {l} {e} {R} {s} {mid} {args} {below} {meth} {c} {Z} {H} {locs} {cells} {slots} {ls} C hl k => va_ldcS C.1 C.2.1 C.2.2.2.1 (tx := sX j) (q := eK g j) (by have := C.2.2.2.2.2.2.2.2.2.2.2.1 j hj; rw [hs.1, hs.2] at this; exact this) hd (by have := k _ hl; rwa [List.map_cons, cz_str] at this))
theorem x_iload_n {k : Fin 4} {i q : Nat} {x : Int32} (hd : decode (mB m) pc = .ok (.iload_n k, 1)) (hi : (k : Nat) = i) (hk : L[q]? = some (i, .int x)) (h : X m (pc + 1) L (.int x :: S) M b Q) : X m pc L S M b Q := X_pu h (fun hL hS => ⟨hL, ok1 hS trivial⟩) (fun C hl k => lv_iload_n C.1 C.2.1 hd hi (lv_at hl q (lmap hk)) (k _ hl))
theorem x_iload {i q : Nat} {x : Int32} (hd : decode (mB m) pc = .ok (.iload i, 2)) (hk : L[q]? = some (i, .int x)) (h : X m (pc + 2) L (.int x :: S) M b Q) : X m pc L S M b Q := X_pu h (fun hL hS => ⟨hL, ok1 hS trivial⟩) (fun C hl k => lv_iload C.1 C.2.1 hd (lv_at hl q (lmap hk)) (k _ hl))
theorem x_lload_n {k : Fin 4} {i q : Nat} {x : Int64} (hd : decode (mB m) pc = .ok (.lload_n k, 1)) (hi : (k : Nat) = i) (hk : L[q]? = some (i, .long x)) (h : X m (pc + 1) L (.long x :: S) M b Q) : X m pc L S M b Q := X_pu h (fun hL hS => ⟨hL, ok1 hS trivial⟩) (fun C hl k => lv_lload_n C.1 C.2.1 hd hi (lv_at hl q (lmap hk)) (k _ hl))
theorem x_lload {i q : Nat} {x : Int64} (hd : decode (mB m) pc = .ok (.lload i, 2)) (hk : L[q]? = some (i, .long x)) (h : X m (pc + 2) L (.long x :: S) M b Q) : X m pc L S M b Q := X_pu h (fun hL hS => ⟨hL, ok1 hS trivial⟩) (fun C hl k => lv_lload C.1 C.2.1 hd (lv_at hl q (lmap hk)) (k _ hl))
theorem x_aload_n {k : Fin 4} {i q : Nat} {x : Nat} (hd : decode (mB m) pc = .ok (.aload_n k, 1)) (hi : (k : Nat) = i) (hk : L[q]? = some (i, .ref x)) (h : X m (pc + 1) L (.ref x :: S) M b Q) : X m pc L S M b Q := X_pu h (fun hL hS => ⟨hL, ok1 hS (hL _ (List.mem_of_getElem? hk))⟩) (fun C hl k => lv_aload_n C.1 C.2.1 hd hi (lv_at hl q (lmap hk)) (k _ hl))
theorem x_aload {i q : Nat} {x : Nat} (hd : decode (mB m) pc = .ok (.aload i, 2)) (hk : L[q]? = some (i, .ref x)) (h : X m (pc + 2) L (.ref x :: S) M b Q) : X m pc L S M b Q := X_pu h (fun hL hS => ⟨hL, ok1 hS (hL _ (List.mem_of_getElem? hk))⟩) (fun C hl k => lv_aload C.1 C.2.1 hd (lv_at hl q (lmap hk)) (k _ hl))
theorem x_istore_n {k : Fin 4} {i : Nat} {x : Int32} {L' : List (Nat × Value)} (hd : decode (mB m) pc = .ok (.istore_n k, 1)) (hi : (k : Nat) = i) (hn : i < mL m) (he : (i, Value.int x) :: L.filter (fun q => !(q.1 == i) && !(q.1 + 1 == i && q.2.category == 2)) = L') (h : X m (pc + 1) L' S M b Q) : X m pc L (.int x :: S) M b Q := by
  subst he
  exact X_pu h (fun hL hS => ⟨okL1 hL trivial, tl hS⟩) (fun C hl k => lv_istore_n C.1 C.2.1 hd hi hl hn (lfil1 _ _ _ (.int x)) (fun ls hl => k ls hl))
theorem x_istore {i : Nat} {x : Int32} {L' : List (Nat × Value)} (hd : decode (mB m) pc = .ok (.istore i, 2)) (hn : i < mL m) (he : (i, Value.int x) :: L.filter (fun q => !(q.1 == i) && !(q.1 + 1 == i && q.2.category == 2)) = L') (h : X m (pc + 2) L' S M b Q) : X m pc L (.int x :: S) M b Q := by
  subst he
  exact X_pu h (fun hL hS => ⟨okL1 hL trivial, tl hS⟩) (fun C hl k => lv_istore C.1 C.2.1 hd hl hn (lfil1 _ _ _ (.int x)) (fun ls hl => k ls hl))
theorem x_lstore_n {k : Fin 4} {i : Nat} {x : Int64} {L' : List (Nat × Value)} (hd : decode (mB m) pc = .ok (.lstore_n k, 1)) (hi : (k : Nat) = i) (hn : i + 1 < mL m) (he : (i, Value.long x) :: L.filter (fun q => !(q.1 == i) && (!(q.1 == i + 1) && !(q.1 + 1 == i && q.2.category == 2))) = L') (h : X m (pc + 1) L' S M b Q) : X m pc L (.long x :: S) M b Q := by
  subst he
  exact X_pu h (fun hL hS => ⟨okL1 hL trivial, tl hS⟩) (fun C hl k => lv_lstore_n C.1 C.2.1 hd hi hl hn (lfil2 _ _ _ (.long x)) (fun ls hl => k ls hl))
theorem x_lstore {i : Nat} {x : Int64} {L' : List (Nat × Value)} (hd : decode (mB m) pc = .ok (.lstore i, 2)) (hn : i + 1 < mL m) (he : (i, Value.long x) :: L.filter (fun q => !(q.1 == i) && (!(q.1 == i + 1) && !(q.1 + 1 == i && q.2.category == 2))) = L') (h : X m (pc + 2) L' S M b Q) : X m pc L (.long x :: S) M b Q := by
  subst he
  exact X_pu h (fun hL hS => ⟨okL1 hL trivial, tl hS⟩) (fun C hl k => lv_lstore C.1 C.2.1 hd hl hn (lfil2 _ _ _ (.long x)) (fun ls hl => k ls hl))
theorem x_astore_n {k : Fin 4} {i : Nat} {x : Nat} {L' : List (Nat × Value)} (hd : decode (mB m) pc = .ok (.astore_n k, 1)) (hi : (k : Nat) = i) (hn : i < mL m) (he : (i, Value.ref x) :: L.filter (fun q => !(q.1 == i) && !(q.1 + 1 == i && q.2.category == 2)) = L') (h : X m (pc + 1) L' S M b Q) : X m pc L (.ref x :: S) M b Q := by
  subst he
  exact X_pu h (fun hL hS => ⟨okL1 hL (hS _ List.mem_cons_self), tl hS⟩) (fun C hl k => lv_astore_n C.1 C.2.1 hd hi hl hn (lfil1 _ _ _ (.ref x)) (fun ls hl => k ls hl))
theorem x_astore {i : Nat} {x : Nat} {L' : List (Nat × Value)} (hd : decode (mB m) pc = .ok (.astore i, 2)) (hn : i < mL m) (he : (i, Value.ref x) :: L.filter (fun q => !(q.1 == i) && !(q.1 + 1 == i && q.2.category == 2)) = L') (h : X m (pc + 2) L' S M b Q) : X m pc L (.ref x :: S) M b Q := by
  subst he
  exact X_pu h (fun hL hS => ⟨okL1 hL (hS _ List.mem_cons_self), tl hS⟩) (fun C hl k => lv_astore C.1 C.2.1 hd hl hn (lfil1 _ _ _ (.ref x)) (fun ls hl => k ls hl))
theorem x_iinc {i q : Nat} {n : Int} {x v : Int32} {L' : List (Nat × Value)} (hd : decode (mB m) pc = .ok (.iinc i n, 3)) (hk : L[q]? = some (i, .int x)) (hv : x + Int32.ofInt n = v) (hn : i < mL m) (he : (i, Value.int v) :: L.filter (fun q => !(q.1 == i) && !(q.1 + 1 == i && q.2.category == 2)) = L') (h : X m (pc + 3) L' S M b Q) : X m pc L S M b Q := by
  subst he
  exact X_pu h (fun hL hS => ⟨okL1 hL trivial, hS⟩) (fun C hl k => lv_iinc C.1 C.2.1 hd hl (lmap hk) hv hn (lfil1 _ _ _ (.int v)) (fun ls hl => k ls hl))
theorem x_dup {v : Value} (hd : decode (mB m) pc = .ok (.dup, 1)) (hc : v.category = 1) (h : X m (pc + 1) L (v :: v :: S) M b Q) : X m pc L (v :: S) M b Q := X_pu h (fun hL hS => ⟨hL, ok1 hS (hS _ List.mem_cons_self)⟩) (fun C hl k => lv_dup C.1 C.2.1 hd ((cz_cat _ v).trans hc) (k _ hl))
theorem x_pop {v : Value} (hd : decode (mB m) pc = .ok (.pop, 1)) (hc : v.category = 1) (h : X m (pc + 1) L S M b Q) : X m pc L (v :: S) M b Q := X_pu h (fun hL hS => ⟨hL, tl hS⟩) (fun C hl k => lv_pop C.1 C.2.1 hd ((cz_cat _ v).trans hc) (k _ hl))
theorem x_dup2 {v w : Value} (hd : decode (mB m) pc = .ok (.dup2, 1)) (hc : v.category = 1) (hw : w.category = 1) (h : X m (pc + 1) L (v :: w :: v :: w :: S) M b Q) : X m pc L (v :: w :: S) M b Q := X_pu h (fun hL hS => ⟨hL, ok1 (ok1 hS ((tl hS) _ List.mem_cons_self)) (hS _ List.mem_cons_self)⟩) (fun C hl k => lv_dup2_11 C.1 C.2.1 hd ((cz_cat _ v).trans hc) ((cz_cat _ w).trans hw) (k _ hl))
theorem x_dup2L {x : Int64} (hd : decode (mB m) pc = .ok (.dup2, 1)) (h : X m (pc + 1) L (.long x :: .long x :: S) M b Q) : X m pc L (.long x :: S) M b Q := X_pu h (fun hL hS => ⟨hL, ok1 hS trivial⟩) (fun C hl k => lv_dup2_2 C.1 C.2.1 hd rfl (k _ hl))
theorem x_goto {off : Int} {t : Nat} (hd : decode (mB m) pc = .ok (.goto off, 3)) (ht : (pc : Int) + off = (t : Int)) (h : X m t L S M b Q) : X m pc L S M b Q := X_pu h (fun hL hS => ⟨hL, hS⟩) (fun C hl k => lv_goto C.1 C.2.1 hd ht (k _ hl))
theorem x_if_eq {x : Int32} {off : Int} {t : Nat} (hd : decode (mB m) pc = .ok (.ifCond .eq off, 3)) (ht : (pc : Int) + off = (t : Int)) (h1 : x = 0 → X m t L S M b Q) (h2 : ¬ x = 0 → X m (pc + 3) L S M b Q) : X m pc L (.int x :: S) M b Q := by
  intro g p l e R s mid args below meth c Z C hR H locs cells slots ls hH hw hL hS hl hs hc hc2
  exact lv_if_eq C.1 C.2.1 hd ht (fun q => h1 q g p l e R s mid args below meth c Z C hR H locs cells slots ls hH hw hL (tl hS) hl hs hc hc2) (fun q => h2 q g p l e R s mid args below meth c Z C hR H locs cells slots ls hH hw hL (tl hS) hl hs hc hc2)
theorem x_icmp_eq {x y : Int32} {off : Int} {t : Nat} (hd : decode (mB m) pc = .ok (.if_icmp .eq off, 3)) (ht : (pc : Int) + off = (t : Int)) (h1 : x = y → X m t L S M b Q) (h2 : ¬ x = y → X m (pc + 3) L S M b Q) : X m pc L (.int y :: .int x :: S) M b Q := by
  intro g p l e R s mid args below meth c Z C hR H locs cells slots ls hH hw hL hS hl hs hc hc2
  exact lv_icmp_eq C.1 C.2.1 hd ht (fun q => h1 q g p l e R s mid args below meth c Z C hR H locs cells slots ls hH hw hL (tl (tl hS)) hl hs hc hc2) (fun q => h2 q g p l e R s mid args below meth c Z C hR H locs cells slots ls hH hw hL (tl (tl hS)) hl hs hc hc2)
theorem x_if_ne {x : Int32} {off : Int} {t : Nat} (hd : decode (mB m) pc = .ok (.ifCond .ne off, 3)) (ht : (pc : Int) + off = (t : Int)) (h1 : ¬ x = 0 → X m t L S M b Q) (h2 : x = 0 → X m (pc + 3) L S M b Q) : X m pc L (.int x :: S) M b Q := by
  intro g p l e R s mid args below meth c Z C hR H locs cells slots ls hH hw hL hS hl hs hc hc2
  exact lv_if_ne C.1 C.2.1 hd ht (fun q => h1 q g p l e R s mid args below meth c Z C hR H locs cells slots ls hH hw hL (tl hS) hl hs hc hc2) (fun q => h2 q g p l e R s mid args below meth c Z C hR H locs cells slots ls hH hw hL (tl hS) hl hs hc hc2)
theorem x_icmp_ne {x y : Int32} {off : Int} {t : Nat} (hd : decode (mB m) pc = .ok (.if_icmp .ne off, 3)) (ht : (pc : Int) + off = (t : Int)) (h1 : ¬ x = y → X m t L S M b Q) (h2 : x = y → X m (pc + 3) L S M b Q) : X m pc L (.int y :: .int x :: S) M b Q := by
  intro g p l e R s mid args below meth c Z C hR H locs cells slots ls hH hw hL hS hl hs hc hc2
  exact lv_icmp_ne C.1 C.2.1 hd ht (fun q => h1 q g p l e R s mid args below meth c Z C hR H locs cells slots ls hH hw hL (tl (tl hS)) hl hs hc hc2) (fun q => h2 q g p l e R s mid args below meth c Z C hR H locs cells slots ls hH hw hL (tl (tl hS)) hl hs hc hc2)
theorem x_if_lt {x : Int32} {off : Int} {t : Nat} (hd : decode (mB m) pc = .ok (.ifCond .lt off, 3)) (ht : (pc : Int) + off = (t : Int)) (h1 : x < 0 → X m t L S M b Q) (h2 : ¬ x < 0 → X m (pc + 3) L S M b Q) : X m pc L (.int x :: S) M b Q := by
  intro g p l e R s mid args below meth c Z C hR H locs cells slots ls hH hw hL hS hl hs hc hc2
  exact lv_if_lt C.1 C.2.1 hd ht (fun q => h1 q g p l e R s mid args below meth c Z C hR H locs cells slots ls hH hw hL (tl hS) hl hs hc hc2) (fun q => h2 q g p l e R s mid args below meth c Z C hR H locs cells slots ls hH hw hL (tl hS) hl hs hc hc2)
theorem x_icmp_lt {x y : Int32} {off : Int} {t : Nat} (hd : decode (mB m) pc = .ok (.if_icmp .lt off, 3)) (ht : (pc : Int) + off = (t : Int)) (h1 : x < y → X m t L S M b Q) (h2 : ¬ x < y → X m (pc + 3) L S M b Q) : X m pc L (.int y :: .int x :: S) M b Q := by
  intro g p l e R s mid args below meth c Z C hR H locs cells slots ls hH hw hL hS hl hs hc hc2
  exact lv_icmp_lt C.1 C.2.1 hd ht (fun q => h1 q g p l e R s mid args below meth c Z C hR H locs cells slots ls hH hw hL (tl (tl hS)) hl hs hc hc2) (fun q => h2 q g p l e R s mid args below meth c Z C hR H locs cells slots ls hH hw hL (tl (tl hS)) hl hs hc hc2)
theorem x_if_ge {x : Int32} {off : Int} {t : Nat} (hd : decode (mB m) pc = .ok (.ifCond .ge off, 3)) (ht : (pc : Int) + off = (t : Int)) (h1 : 0 ≤ x → X m t L S M b Q) (h2 : ¬ 0 ≤ x → X m (pc + 3) L S M b Q) : X m pc L (.int x :: S) M b Q := by
  intro g p l e R s mid args below meth c Z C hR H locs cells slots ls hH hw hL hS hl hs hc hc2
  exact lv_if_ge C.1 C.2.1 hd ht (fun q => h1 q g p l e R s mid args below meth c Z C hR H locs cells slots ls hH hw hL (tl hS) hl hs hc hc2) (fun q => h2 q g p l e R s mid args below meth c Z C hR H locs cells slots ls hH hw hL (tl hS) hl hs hc hc2)
theorem x_icmp_ge {x y : Int32} {off : Int} {t : Nat} (hd : decode (mB m) pc = .ok (.if_icmp .ge off, 3)) (ht : (pc : Int) + off = (t : Int)) (h1 : y ≤ x → X m t L S M b Q) (h2 : ¬ y ≤ x → X m (pc + 3) L S M b Q) : X m pc L (.int y :: .int x :: S) M b Q := by
  intro g p l e R s mid args below meth c Z C hR H locs cells slots ls hH hw hL hS hl hs hc hc2
  exact lv_icmp_ge C.1 C.2.1 hd ht (fun q => h1 q g p l e R s mid args below meth c Z C hR H locs cells slots ls hH hw hL (tl (tl hS)) hl hs hc hc2) (fun q => h2 q g p l e R s mid args below meth c Z C hR H locs cells slots ls hH hw hL (tl (tl hS)) hl hs hc hc2)
theorem x_if_gt {x : Int32} {off : Int} {t : Nat} (hd : decode (mB m) pc = .ok (.ifCond .gt off, 3)) (ht : (pc : Int) + off = (t : Int)) (h1 : 0 < x → X m t L S M b Q) (h2 : ¬ 0 < x → X m (pc + 3) L S M b Q) : X m pc L (.int x :: S) M b Q := by
  intro g p l e R s mid args below meth c Z C hR H locs cells slots ls hH hw hL hS hl hs hc hc2
  exact lv_if_gt C.1 C.2.1 hd ht (fun q => h1 q g p l e R s mid args below meth c Z C hR H locs cells slots ls hH hw hL (tl hS) hl hs hc hc2) (fun q => h2 q g p l e R s mid args below meth c Z C hR H locs cells slots ls hH hw hL (tl hS) hl hs hc hc2)
theorem x_icmp_gt {x y : Int32} {off : Int} {t : Nat} (hd : decode (mB m) pc = .ok (.if_icmp .gt off, 3)) (ht : (pc : Int) + off = (t : Int)) (h1 : y < x → X m t L S M b Q) (h2 : ¬ y < x → X m (pc + 3) L S M b Q) : X m pc L (.int y :: .int x :: S) M b Q := by
  intro g p l e R s mid args below meth c Z C hR H locs cells slots ls hH hw hL hS hl hs hc hc2
  exact lv_icmp_gt C.1 C.2.1 hd ht (fun q => h1 q g p l e R s mid args below meth c Z C hR H locs cells slots ls hH hw hL (tl (tl hS)) hl hs hc hc2) (fun q => h2 q g p l e R s mid args below meth c Z C hR H locs cells slots ls hH hw hL (tl (tl hS)) hl hs hc hc2)
theorem x_if_le {x : Int32} {off : Int} {t : Nat} (hd : decode (mB m) pc = .ok (.ifCond .le off, 3)) (ht : (pc : Int) + off = (t : Int)) (h1 : x ≤ 0 → X m t L S M b Q) (h2 : ¬ x ≤ 0 → X m (pc + 3) L S M b Q) : X m pc L (.int x :: S) M b Q := by
  intro g p l e R s mid args below meth c Z C hR H locs cells slots ls hH hw hL hS hl hs hc hc2
  exact lv_if_le C.1 C.2.1 hd ht (fun q => h1 q g p l e R s mid args below meth c Z C hR H locs cells slots ls hH hw hL (tl hS) hl hs hc hc2) (fun q => h2 q g p l e R s mid args below meth c Z C hR H locs cells slots ls hH hw hL (tl hS) hl hs hc hc2)
theorem x_icmp_le {x y : Int32} {off : Int} {t : Nat} (hd : decode (mB m) pc = .ok (.if_icmp .le off, 3)) (ht : (pc : Int) + off = (t : Int)) (h1 : x ≤ y → X m t L S M b Q) (h2 : ¬ x ≤ y → X m (pc + 3) L S M b Q) : X m pc L (.int y :: .int x :: S) M b Q := by
  intro g p l e R s mid args below meth c Z C hR H locs cells slots ls hH hw hL hS hl hs hc hc2
  exact lv_icmp_le C.1 C.2.1 hd ht (fun q => h1 q g p l e R s mid args below meth c Z C hR H locs cells slots ls hH hw hL (tl (tl hS)) hl hs hc hc2) (fun q => h2 q g p l e R s mid args below meth c Z C hR H locs cells slots ls hH hw hL (tl (tl hS)) hl hs hc hc2)
/-! fields -/
def FL (own : String) (i c k : Nat) : Prop := c < 12 ∧ k < kN c ∧ Cond.fieldLink own i (kT c k).1 (kT c k).2.1 (kT c k).2.2.1 ∈ TG
theorem okA_of {a : Nat} (h : okv M (.ref a)) (hk : a % 64 < 61) : okA M a := by
  have h' : ((a % 64 = 63 ∨ a % 64 = 61) ∧ a / 64 < 6) ∨ a = 62 ∨ okA M a := h
  rcases h' with h | h | h
  · omega
  · omega
  · exact h
theorem kd62 {a k : Nat} (h : a % 64 = k) (hk : k < 61) : a % 64 < 61 := by omega
theorem x_getV {a i c k : Nat} {v : Value} (hd : decode (mB m) pc = .ok (.getfield i, 3)) (ha : a % 64 = c) (hl : FL (mY m).cls i c k) (hv : ∀ g : Ev, WF M → fv g M c a k = cz g v) (hok : WF M → okv M v) (h : X m (pc + 3) L (v :: S) M b Q) : X m pc L (.ref a :: S) M b Q := by
  intro g p l e R s mid args below meth cc Z C hR H locs cells slots ls hH hw hL hS hl2 hs hc hc2
  obtain ⟨h12, hk, hlk⟩ := hl
  have hA : okA M a := okA_of (hS _ List.mem_cons_self) (by omega)
  have K := h g p l e R s mid args below meth cc Z C hR H locs cells slots ls hH hw hL (ok1 (tl hS) (hok hw)) hl2 hs hc hc2
  show W p l e R s mid args below meth cc H locs cells slots Z (F0 mid pc ls (.ref (ca g a) :: S.map (cz g)))
  rw [ca_ok hw hA]
  refine va_get C.1 C.2.1 (Ts := TG) C.2.2.2.2.1 (k_i h12) C.2.2.2.1 C.2.2.2.2.2.2.2.1 hH.2 (a / 64) (fs := (List.range (kN c)).map (fv g M c a)) (by rw [wl_at hA, ha, ce_O h12]) (k_c h12) k hk (C.2.2.2.2.1 _ hlk) (fun x h => h) (v := cz g v) (by rw [List.getElem?_map, List.getElem?_range hk, ← hv g hw]; rfl) hd K
theorem x_getI {a i c k : Nat} (hd : decode (mB m) pc = .ok (.getfield i, 3)) (ha : a % 64 = c) (hl : FL (mY m).cls i c k) (ht : isI (kY c k) = true) (h : X m (pc + 3) L (.int (gi M a k) :: S) M b Q) : X m pc L (.ref a :: S) M b Q :=
  x_getV (v := .int (gi M a k)) hd ha hl (fun g _ => by unfold fv; rw [if_pos ht]; rfl) (fun _ => trivial) h
theorem x_getR {a i c k r : Nat} (hd : decode (mB m) pc = .ok (.getfield i, 3)) (ha : a % 64 = c) (hl : FL (mY m).cls i c k) (ht : isI (kY c k) = false) (hr : gr M a k = some r) (h : X m (pc + 3) L (.ref r :: S) M b Q) : X m pc L (.ref a :: S) M b Q :=
  x_getV (v := .ref r) hd ha hl (fun g _ => by unfold fv; rw [if_neg (by rw [ht]; decide), hr]; rfl) (fun hw => Or.inr (Or.inr (hw.2 _ _ _ hr).1)) h
theorem ls_ok {N : Mm} (h : KM M N) (k : ∀ q ∈ L, okv M q.2) : ∀ q ∈ L, okv N q.2 := fun q hq => km_okv h (k q hq)
theorem st_ok {N : Mm} (h : KM M N) (k : ∀ q ∈ S, okv M q) : ∀ q ∈ S, okv N q := fun q hq => km_okv h (k q hq)
theorem cx_km {g : Ev} {p : Program} {R : Room} {s : State} {mid : MethodId} {args : Array Value} {meth : Method} {c : Code} {N : Mm} (h : KM M N) (C : Cx m g M.1.2 (gi M 62) p R s mid args meth c) : Cx m g N.1.2 (gi N 62) p R s mid args meth c := by
  have e : gi N 62 = gi M 62 := funext h.2.2
  rw [h.2.1, e]
  exact C
theorem rt_km {g : Ev} {p : Program} {l : Launch} {e : Env} {R : Room} {s : State} {mid : MethodId} {args : Array Value} {below : List Frame} {meth : Method} {c : Code} {Z : State → Prop} {N : Mm} (h : KM M N) (C : Rt m g p l e R s mid args below meth c Z M Q) : Rt m g p l e R s mid args below meth c Z N Q :=
  fun r O H locs cells slots pc ls h1 h2 h3 h4 h5 => C r O H locs cells slots pc ls h1 h2 h3 h4 (km_tr h h5)
/-- one cell is written: the world behind it -/
theorem hr_set {g : Ev} {H H1 : Heap} {N : Mm} {a : Nat} (hH : HR g M H) (hw : WF M) (hA : okA M a) (hs : N.1.1 = M.1.1) (hI : ∀ b, b ≠ a → gi N b = gi M b ∧ gl N b = gl M b ∧ gr N b = gr M b) (hz : H1.size = H.size) (oq : ∀ q : Nat, q ≠ eb g + a / 64 → H1[q]? = H[q]?) (hat : va_at (eD g) KC (eb g + a / 64, ce g N (a % 64) a) H1) : HR g N H1 :=
  ⟨by rw [hz, hs]; exact hH.1, wl_set (g := g) hw hA hs hI rfl ▸ va_P.set hH.2 (wl_D g M) (wl_at hA) hat oq⟩
theorem fA_a {g : Ev} {a : Nat} : fA g (eb g + a / 64) := Nat.le_add_right _ _
theorem x_putV {a i c k : Nat} {v : Value} {N : Mm} (hd : decode (mB m) pc = .ok (.putfield i, 3)) (ha : a % 64 = c) (hl : FL (mY m).cls i c k) (hf : (kT c k).2.2.2 = false ∨ ((kT c k).2.2.2 = true ∧ (mY m).name = "<init>" ∧ (kT c k).1 = (mY m).cls))
    (hn : ∀ g, narrow (kY c k) (cz g v) = cz g v) (hfit : ∀ g, fits (kY c k) (cz g v) = true) (hs : N.1.1 = M.1.1) (hkm : KM M N) (hwf : WF M → okA M a → okv M v → WF N) (hI : ∀ b, b ≠ a → gi N b = gi M b ∧ gl N b = gl M b ∧ gr N b = gr M b) (he : ∀ g : Ev, ((List.range (kN c)).map (fv g M c a)).set k (cz g v) = (List.range (kN c)).map (fv g N c a)) (h : X m (pc + 3) L S N b Q) : X m pc L (v :: .ref a :: S) M b Q := by
  intro g p l e R s mid args below meth cc Z C hR H locs cells slots ls hH hw hL hS hl2 hss hc hc2
  obtain ⟨h12, hk, hlk⟩ := hl
  have hA : okA M a := okA_of (hS _ (List.mem_cons_of_mem _ List.mem_cons_self)) (by omega)
  have hlen : k < ((List.range (kN c)).map (fv g M c a)).length := by simpa using hk
  show W p l e R s mid args below meth cc H locs cells slots Z (F0 mid pc ls (cz g v :: .ref (ca g a) :: S.map (cz g)))
  rw [ca_ok hw hA]
  have hat : (wl g M)[a / 64]? = some (eb g + a / 64, .inr (c, (List.range (kN c)).map (fv g M c a))) := by rw [wl_at hA, ha, ce_O h12]
  have hts := C.2.2.2.2.1
  have hK := C.2.2.2.2.2.2.2.1
  have hap := va_apart (own := (mY m).cls) hts (k_i h12) (kY c) (k_p h12) (k_n h12) hK (k_c h12)
  obtain ⟨r, h1, cell, q1, q2, q3, q4⟩ := hH.2 _ _ hat
  have hr : r = (kC c, kT c, kN c) := Option.some.inj (h1.symm.trans (k_c h12))
  subst hr
  obtain ⟨hSl, hfc, kC', hkC, hkind⟩ := hK.1 c _ (k_c h12)
  obtain ⟨cf, kf, fi, f, hi, hsl⟩ := hSl k hk
  have hlay := u_lays hts (k_i h12) hk
  have hst := (u_facts hfc hkC hlay hi).1
  have h6 := u_fits hfc hkC hkind hlay hi (k_p h12 k hk) (hn g) (hfit g)
  have hfin : hasFlag f.accessFlags Acc.final = false ∨ (mid.cls = cf ∧ meth.name = "<init>") := by
    have hl0 := hts _ (k_i h12 _ (u_in_lay hk))
    unfold u_lay at hl0
    rcases hf with hf | ⟨hf, hi2, hdc⟩
    · rw [if_neg (by rw [hf]; decide)] at hl0
      obtain ⟨c0, k0, cf', kf', fi', fd', -, -, hi', -, hfi, -⟩ := Cond.lays_spec hl0
      cases hi.symm.trans hi'
      exact Or.inl hfi
    · rw [if_pos hf] at hl0
      obtain ⟨_, _, c', _, _, _, -, -, hf', -, -, -, hown2, -⟩ := Cond.laysFinal_spec hl0
      have e1 : c' = cf := by have := hi.symm.trans hf'; simp at this; exact this.1.symm
      rw [hdc] at hown2
      exact Or.inr ⟨by rw [← e1]; exact Option.some.inj (C.2.2.2.1.symm.trans hown2), C.2.2.2.2.2.2.1.trans hi2⟩
  refine W.putf C.1 C.2.1 C.2.2.2.1 (hts _ hlk) hi hst hfin q1 (by rw [q3]; exact fun h => by cases h) (by rw [hsl]; exact k2_hasslot (q4 k hk)) h6.1 (by rw [q2, q3]; exact h6.2) rfl rfl hd ?_
  have hlt : eb g + a / 64 < H.size := (Array.getElem?_eq_some_iff.mp q1).1
  generalize hH1 : H.setIfInBounds (eb g + a / 64) (cell.setSlot f.slot (cz g v)) = H1
  have z : H1.size = H.size := by rw [← hH1]; simp
  have oq : ∀ q : Nat, q ≠ eb g + a / 64 → H1[q]? = H[q]? := fun q hq => by rw [← hH1]; simp [Array.getElem?_setIfInBounds, Ne.symm hq]
  have e1 : H1[eb g + a / 64]? = some (cell.setSlot f.slot (cz g v)) := by rw [← hH1]; simp [Array.getElem?_setIfInBounds, hlt]
  rw [hsl] at e1
  have hat1 : va_at (eD g) KC (eb g + a / 64, ce g N (a % 64) a) H1 := by
    rw [ha, ce_O h12, ← he g]
    exact ⟨_, k_c h12, t_OB.to (V := updV (vp_V ((List.range (kN c)).map (fv g M c a))) k (cz g v)) ⟨_, e1, q2, q3, t_set q4 hap hk (cz g v)⟩ (fun j _ => vp_updV_set hlen (cz g v) j)⟩
  exact h g p l e R s mid args below meth cc Z (cx_km hkm C) (rt_km hkm hR) H1 _ cells slots ls (hr_set hH hw hA hs hI z oq hat1) (hwf hw hA (hS _ List.mem_cons_self)) (ls_ok hkm hL) (st_ok hkm (tl (tl hS))) hl2 (hss.put z oq fA_a) hc hc2
theorem fv_si (g : Ev) {c a k : Nat} {x : Int32} (ht : isI (kY c k) = true) : ((List.range (kN c)).map (fv g M c a)).set k (cz g (.int x)) = (List.range (kN c)).map (fv g (si M a k x) c a) := by
  refine range_set _ _ _ _ _ ?_
  funext j
  unfold fv
  by_cases hk : j = k
  · subst hk
    rw [if_pos ht, if_pos rfl, gi_at]
    simp [cz]
  · rw [if_neg hk, gi_at]
    simp only [if_neg hk]
    rfl
theorem fv_sr (g : Ev) {c a k r : Nat} (ht : isI (kY c k) = false) : ((List.range (kN c)).map (fv g M c a)).set k (cz g (.ref r)) = (List.range (kN c)).map (fv g (sr M a k (some r)) c a) := by
  refine range_set _ _ _ _ _ ?_
  funext j
  unfold fv
  by_cases hk : j = k
  · subst hk
    rw [if_neg (by rw [ht]; decide), if_pos rfl, gr_at]
    simp [va_rf, cz]
  · rw [if_neg hk, gr_at]
    simp only [if_neg hk]
    rfl
theorem x_putI {a i c k : Nat} {x : Int32} (hd : decode (mB m) pc = .ok (.putfield i, 3)) (ha : a % 64 = c) (hl : FL (mY m).cls i c k) (hf : (kT c k).2.2.2 = false) (ht : kY c k = .int) (h : X m (pc + 3) L S (si M a k x) b Q) : X m pc L (.int x :: .ref a :: S) M b Q :=
  x_putV (v := .int x) (N := si M a k x) hd ha hl (Or.inl hf) (fun g => by rw [ht]; rfl) (fun g => by rw [ht]; rfl) rfl (km_si (fun e => by subst e; have := hl.1; omega)) (fun hw _ _ => wf_si hw) (fun b hb => ⟨gi_ne hb, rfl, rfl⟩) (fun g => fv_si g (by rw [ht]; rfl)) h
theorem x_putZ {a i c k : Nat} {x : Int32} (hd : decode (mB m) pc = .ok (.putfield i, 3)) (ha : a % 64 = c) (hl : FL (mY m).cls i c k) (hf : (kT c k).2.2.2 = false) (ht : kY c k = .boolean) (hx : x = 0 ∨ x = 1) (h : X m (pc + 3) L S (si M a k x) b Q) : X m pc L (.int x :: .ref a :: S) M b Q :=
  x_putV (v := .int x) (N := si M a k x) hd ha hl (Or.inl hf) (fun g => by rw [ht]; rcases hx with rfl | rfl <;> rfl) (fun g => by rw [ht]; rcases hx with rfl | rfl <;> rfl) rfl (km_si (fun e => by subst e; have := hl.1; omega)) (fun hw _ _ => wf_si hw) (fun b hb => ⟨gi_ne hb, rfl, rfl⟩) (fun g => fv_si g (by rw [ht]; rfl)) h
theorem x_putR {a i c k r : Nat} (hd : decode (mB m) pc = .ok (.putfield i, 3)) (ha : a % 64 = c) (hl : FL (mY m).cls i c k) (hf : (kT c k).2.2.2 = false ∨ ((kT c k).2.2.2 = true ∧ (mY m).name = "<init>" ∧ (kT c k).1 = (mY m).cls)) (ht : (∃ n, kY c k = .object n) ∨ ∃ t, kY c k = .array t) (hr : r % 64 = rK c k) (hr2 : rK c k < 61) (h : X m (pc + 3) L S (sr M a k (some r)) b Q) : X m pc L (.ref r :: .ref a :: S) M b Q := by
  refine x_putV (v := .ref r) (N := sr M a k (some r)) hd ha hl hf (fun g => ?_) (fun g => ?_) rfl km_sr (fun hw _ hv => wf_sr hw (okA_of hv (by omega)) (by rw [ha]; exact hr)) (fun b hb => ⟨rfl, rfl, gr_ne hb⟩) (fun g => fv_sr g (by rcases ht with ⟨n, e⟩ | ⟨n, e⟩ <;> rw [e] <;> rfl)) h
  · rcases ht with ⟨n, e⟩ | ⟨n, e⟩ <;> rw [e] <;> rfl
  · rcases ht with ⟨n, e⟩ | ⟨n, e⟩ <;> rw [e] <;> rfl
/-! arrays -/
/-- an array of this kind: not an object; its type t, its length n -/
def AK (k t n : Nat) : Prop := ¬ k < 12 ∧ k < 61 ∧ aK k = (t, n) ∧ t < 6
theorem ty_at (g : Ev) {t : Nat} (h : t < 6) : (tys g)[t]? = some (eA g t, aT t) := by
  match t, h with
  | 0, _ => rfl
  | 1, _ => rfl
  | 2, _ => rfl
  | 3, _ => rfl
  | 4, _ => rfl
  | 5, _ => rfl
theorem x_aldI {a k t n : Nat} {ins : Instr} {i : Int32} (ht : (t = 0 ∧ ins = .iaload) ∨ (t = 2 ∧ ins = .baload) ∨ (t = 3 ∧ ins = .baload)) (hd : decode (mB m) pc = .ok (ins, 1)) (ha : a % 64 = k) (hk : AK k t n) (hi : vp_in i n) (h : X m (pc + 1) L (.int (gi M a i.toNatClampNeg) :: S) M b Q) : X m pc L (.int i :: .ref a :: S) M b Q := by
  intro g p l e R s mid args below meth cc Z C hR H locs cells slots ls hH hw hL hS hl2 hss hc hc2
  obtain ⟨k1, k2, k3, k4⟩ := hk
  have hA : okA M a := okA_of ((tl hS) _ List.mem_cons_self) (by omega)
  have K := h g p l e R s mid args below meth cc Z C hR H locs cells slots ls hH hw hL (ok1 (tl (tl hS)) trivial) hl2 hss hc hc2
  show W p l e R s mid args below meth cc H locs cells slots Z (F0 mid pc ls (.int i :: .ref (ca g a) :: S.map (cz g)))
  rw [ca_ok hw hA]
  have hat : (wl g M)[a / 64]? = some (eb g + a / 64, .inl (eA g t, n, .inl (gi M a))) := by
    rw [wl_at hA, ha, ce_I k1 (by rw [k3]; show t ≠ 1; rcases ht with h | h | h <;> omega) (by rw [k3]; show t < 4; rcases ht with h | h | h <;> omega), k3]
  have hK := C.2.2.2.2.2.2.2.1
  rcases ht with ⟨rfl, rfl⟩ | ⟨rfl, rfl⟩ | ⟨rfl, rfl⟩
  · exact va_iald C.1 C.2.1 hK hH.2 (a / 64) 0 hat (ty_at g (by omega)) hi hd K
  · exact va_bald C.1 C.2.1 hK hH.2 (a / 64) 2 hat (ty_at g (by omega)) hi hd K
  · exact va_zald C.1 C.2.1 hK hH.2 (a / 64) 3 hat (ty_at g (by omega)) hi hd K
theorem x_aldL {a k n : Nat} {i : Int32} (hd : decode (mB m) pc = .ok (.laload, 1)) (ha : a % 64 = k) (hk : AK k 1 n) (hi : vp_in i n) (h : X m (pc + 1) L (.long (gl M a i.toNatClampNeg) :: S) M b Q) : X m pc L (.int i :: .ref a :: S) M b Q := by
  intro g p l e R s mid args below meth cc Z C hR H locs cells slots ls hH hw hL hS hl2 hss hc hc2
  obtain ⟨k1, k2, k3, k4⟩ := hk
  have hA : okA M a := okA_of ((tl hS) _ List.mem_cons_self) (by omega)
  have K := h g p l e R s mid args below meth cc Z C hR H locs cells slots ls hH hw hL (ok1 (tl (tl hS)) trivial) hl2 hss hc hc2
  show W p l e R s mid args below meth cc H locs cells slots Z (F0 mid pc ls (.int i :: .ref (ca g a) :: S.map (cz g)))
  rw [ca_ok hw hA]
  exact va_lald C.1 C.2.1 C.2.2.2.2.2.2.2.1 hH.2 (a / 64) 1 (by rw [wl_at hA, ha, ce_L k1 (by rw [k3]), k3]) (ty_at g (by omega)) hi hd K
theorem x_aldR {a k t n r : Nat} {i : Int32} (ht : t = 4 ∨ t = 5) (hd : decode (mB m) pc = .ok (.aaload, 1)) (ha : a % 64 = k) (hk : AK k t n) (hi : vp_in i n) (hr : gr M a i.toNatClampNeg = some r) (h : X m (pc + 1) L (.ref r :: S) M b Q) : X m pc L (.int i :: .ref a :: S) M b Q := by
  intro g p l e R s mid args below meth cc Z C hR H locs cells slots ls hH hw hL hS hl2 hss hc hc2
  obtain ⟨k1, k2, k3, k4⟩ := hk
  have hA : okA M a := okA_of ((tl hS) _ List.mem_cons_self) (by omega)
  have K := h g p l e R s mid args below meth cc Z C hR H locs cells slots ls hH hw hL (ok1 (tl (tl hS)) (Or.inr (Or.inr (hw.2 _ _ _ hr).1))) hl2 hss hc hc2
  show W p l e R s mid args below meth cc H locs cells slots Z (F0 mid pc ls (.int i :: .ref (ca g a) :: S.map (cz g)))
  rw [ca_ok hw hA]
  have hat : (wl g M)[a / 64]? = some (eb g + a / 64, .inl (eA g t, n, .inr (.inr (.inr (.inr (fun j => (gr M a j).map (ca g))))))) := by
    rw [wl_at hA, ha, ce_R k1 (by rw [k3]; show t ≠ 1; omega) (by rw [k3]; show ¬ t < 4; omega), k3]
  have e2 : va_rf ((gr M a i.toNatClampNeg).map (ca g)) = cz g (.ref r) := by rw [hr]; rfl
  have hK := C.2.2.2.2.2.2.2.1
  rcases ht with rfl | rfl
  · exact va_aldq C.1 C.2.1 hK hH.2 (a / 64) 4 hat (ty_at g (by omega)) hi hd (e2 ▸ K)
  · exact va_aldq C.1 C.2.1 hK hH.2 (a / 64) 5 hat (ty_at g (by omega)) hi hd (e2 ▸ K)
theorem x_alen {a k t n : Nat} {v : Int32} (hd : decode (mB m) pc = .ok (.arraylength, 1)) (ha : a % 64 = k) (hk : AK k t n) (hv : Int32.ofNat n = v) (h : X m (pc + 1) L (.int v :: S) M b Q) : X m pc L (.ref a :: S) M b Q := by
  intro g p l e R s mid args below meth cc Z C hR H locs cells slots ls hH hw hL hS hl2 hss hc hc2
  obtain ⟨k1, k2, k3, k4⟩ := hk
  have hA : okA M a := okA_of (hS _ List.mem_cons_self) (by omega)
  have K := h g p l e R s mid args below meth cc Z C hR H locs cells slots ls hH hw hL (ok1 (tl hS) trivial) hl2 hss hc hc2
  show W p l e R s mid args below meth cc H locs cells slots Z (F0 mid pc ls (.ref (ca g a) :: S.map (cz g)))
  rw [ca_ok hw hA]
  obtain ⟨y, hy⟩ : ∃ y, (wl g M)[a / 64]? = some (eb g + a / 64, .inl (eA g t, n, y)) := by
    rw [wl_at hA, ha]
    by_cases h1 : t = 1
    · subst h1
      exact ⟨_, by rw [ce_L k1 (by rw [k3]), k3]⟩
    · by_cases h4 : t < 4
      · exact ⟨_, by rw [ce_I k1 (by rw [k3]; exact h1) (by rw [k3]; exact h4), k3]⟩
      · exact ⟨_, by rw [ce_R k1 (by rw [k3]; exact h1) (by rw [k3]; exact h4), k3]⟩
  exact va_alen C.1 C.2.1 C.2.2.2.2.2.2.2.1 hH.2 (a / 64) t hy (ty_at g k4) hv hd K
theorem arr_at {s0 : State} {g : Ev} {t : Nat} (hK : va_K (eD g) KC (tys g) s0) (ht : t < 6) : ArrOfT s0 (eA g t) (aT t) := (hK.2 t _ (ty_at g ht)).1
end ROWS
end
section
section ROWS2
variable {m : MI} {pc : Nat} {L : List (Nat × Value)} {S : List Value} {M : Mm} {b : Nat × Nat} {Q : Option Value → Mm → Prop}
theorem kd_ne62 {a k : Nat} (h : a % 64 = k) (hk : k < 61) : a ≠ 62 := fun e => by subst e; omega
theorem in_lt {i : Int32} {n : Nat} (h : vp_in i n) : i.toNatClampNeg < n := Nat.not_le.mp fun q => h (Or.inr q)
theorem x_astI {a k t n : Nat} {ins : Instr} {i x v : Int32} (ht : (t = 0 ∧ ins = .iastore ∧ v = x) ∨ (t = 2 ∧ ins = .bastore ∧ v = vp_nar .byte x) ∨ (t = 3 ∧ ins = .bastore ∧ v = vp_nar .boolean x)) (hd : decode (mB m) pc = .ok (ins, 1)) (ha : a % 64 = k) (hk : AK k t n) (hi : vp_in i n) (h : X m (pc + 1) L S (si M a i.toNatClampNeg v) b Q) : X m pc L (.int x :: .int i :: .ref a :: S) M b Q := by
  intro g p l e R s mid args below meth cc Z C hR H locs cells slots ls hH hw hL hS hl2 hss hc hc2
  obtain ⟨k1, k2, k3, k4⟩ := hk
  have hA : okA M a := okA_of ((tl (tl hS)) _ List.mem_cons_self) (by omega)
  have hkm : KM M (si M a i.toNatClampNeg v) := km_si (kd_ne62 ha k2)
  show W p l e R s mid args below meth cc H locs cells slots Z (F0 mid pc ls (.int x :: .int i :: .ref (ca g a) :: S.map (cz g)))
  rw [ca_ok hw hA]
  have t1 : (aK k).1 ≠ 1 := by rw [k3]; show t ≠ 1; rcases ht with h | h | h <;> omega
  have t4 : (aK k).1 < 4 := by rw [k3]; show t < 4; rcases ht with h | h | h <;> omega
  have hat : va_at (eD g) KC (eb g + a / 64, .inl (eA g t, n, .inl (gi M a))) H := hH.2 (a / 64) _ (by rw [wl_at hA, ha, ce_I k1 t1 t4, k3])
  have hcell : H[eb g + a / 64]? = some (arrV (eA g t) n (fun j => .int (gi M a j))) := hat
  have hsz : ¬ (i < 0 ∨ (arrV (eA g t) n (fun j => .int (gi M a j))).slots.size ≤ i.toNatClampNeg) := by rw [arrV_size]; exact hi
  have fin : ∀ (H1 : Heap), H1[eb g + a / 64]? = some ((arrV (eA g t) n (fun j => .int (gi M a j))).setSlot i.toNatClampNeg (.int v)) → H1.size = H.size → (∀ q, q ≠ eb g + a / 64 → H1[q]? = H[q]?) → W p l e R s mid args below meth cc H1 (locs ++ [⟨eb g + a / 64, i.toNatClampNeg⟩]) cells slots Z (F0 mid (pc + 1) ls (S.map (cz g))) := by
    intro H1 e1 z oq
    refine h g p l e R s mid args below meth cc Z (cx_km hkm C) (rt_km hkm hR) H1 _ cells slots ls (hr_set hH hw hA rfl (fun b hb => ⟨gi_ne hb, rfl, rfl⟩) z oq ?_) (wf_si hw) (ls_ok hkm hL) (st_ok hkm (tl (tl (tl hS)))) hl2 (hss.put z oq fA_a) hc hc2
    rw [ha, ce_I k1 t1 t4, k3]
    show H1[eb g + a / 64]? = some (arrV (eA g t) n (fun j => .int (gi (si M a i.toNatClampNeg v) a j)))
    rw [e1, arrV_store, gi_at]
    congr 2
    funext q
    by_cases hq : q = i.toNatClampNeg
    · subst hq; simp [updV]
    · simp [updV, hq]
  have hK := C.2.2.2.2.2.2.2.1
  have hAr := arr_at (t := t) hK k4 n (fun j => .int (gi M a j))
  rcases ht with ⟨rfl, rfl, rfl⟩ | ⟨rfl, rfl, rfl⟩ | ⟨rfl, rfl, rfl⟩
  · exact W.iast C.1 C.2.1 hcell hAr (fun q => by cases q) hsz rfl rfl hd fin
  · exact W.bast C.1 C.2.1 hcell hAr (fun q => by cases q) hsz rfl rfl hd fin
  · exact W.zast C.1 C.2.1 hcell hAr (fun q => by cases q) hsz rfl rfl hd fin
theorem x_astL {a k n : Nat} {i : Int32} {x : Int64} (hd : decode (mB m) pc = .ok (.lastore, 1)) (ha : a % 64 = k) (hk : AK k 1 n) (hi : vp_in i n) (h : X m (pc + 1) L S (sl M a i.toNatClampNeg x) b Q) : X m pc L (.long x :: .int i :: .ref a :: S) M b Q := by
  intro g p l e R s mid args below meth cc Z C hR H locs cells slots ls hH hw hL hS hl2 hss hc hc2
  obtain ⟨k1, k2, k3, k4⟩ := hk
  have hA : okA M a := okA_of ((tl (tl hS)) _ List.mem_cons_self) (by omega)
  have hkm : KM M (sl M a i.toNatClampNeg x) := km_sl
  show W p l e R s mid args below meth cc H locs cells slots Z (F0 mid pc ls (.long x :: .int i :: .ref (ca g a) :: S.map (cz g)))
  rw [ca_ok hw hA]
  have t1 : (aK k).1 = 1 := by rw [k3]
  have hat : va_at (eD g) KC (eb g + a / 64, .inl (eA g 1, n, .inr (.inl (gl M a)))) H := hH.2 (a / 64) _ (by rw [wl_at hA, ha, ce_L k1 t1, k3])
  have hcell : H[eb g + a / 64]? = some (arrV (eA g 1) n (fun j => .long (gl M a j))) := hat
  have hsz : ¬ (i < 0 ∨ (arrV (eA g 1) n (fun j => .long (gl M a j))).slots.size ≤ i.toNatClampNeg) := by rw [arrV_size]; exact hi
  have hAr := arr_at (t := 1) C.2.2.2.2.2.2.2.1 k4 n (fun j => .long (gl M a j))
  refine W.last C.1 C.2.1 hcell hAr (fun q => by cases q) hsz rfl rfl hd (fun H1 e1 z oq => ?_)
  refine h g p l e R s mid args below meth cc Z (cx_km hkm C) (rt_km hkm hR) H1 _ cells slots ls (hr_set hH hw hA rfl (fun b hb => ⟨rfl, gl_ne hb, rfl⟩) z oq ?_) (wf_sl hw) (ls_ok hkm hL) (st_ok hkm (tl (tl (tl hS)))) hl2 (hss.put z oq fA_a) hc hc2
  rw [ha, ce_L k1 t1, k3]
  show H1[eb g + a / 64]? = some (arrV (eA g 1) n (fun j => .long (gl (sl M a i.toNatClampNeg x) a j)))
  rw [e1, arrV_store, gl_at]
  congr 2
  funext q
  by_cases hq : q = i.toNatClampNeg
  · subst hq; simp [updV]
  · simp [updV, hq]
/-- an array of references gets an object of its own class -/
theorem x_astR {a k t n r c : Nat} {i : Int32} (ht : (t = 4 ∧ c = 9) ∨ (t = 5 ∧ c = 5)) (hd : decode (mB m) pc = .ok (.aastore, 1)) (ha : a % 64 = k) (hk : AK k t n) (hr : r % 64 = c) (hrk : rK k i.toNatClampNeg = c) (hi : vp_in i n) (h : X m (pc + 1) L S (sr M a i.toNatClampNeg (some r)) b Q) : X m pc L (.ref r :: .int i :: .ref a :: S) M b Q := by
  intro g p l e R s mid args below meth cc Z C hR H locs cells slots ls hH hw hL hS hl2 hss hc hc2
  obtain ⟨k1, k2, k3, k4⟩ := hk
  have h12 : c < 12 := by omega
  have hA : okA M a := okA_of ((tl (tl hS)) _ List.mem_cons_self) (by omega)
  have hA2 : okA M r := okA_of (hS _ List.mem_cons_self) (by omega)
  have hkm : KM M (sr M a i.toNatClampNeg (some r)) := km_sr
  show W p l e R s mid args below meth cc H locs cells slots Z (F0 mid pc ls (.ref (ca g r) :: .int i :: .ref (ca g a) :: S.map (cz g)))
  rw [ca_ok hw hA]
  have hcr : ca g r = eb g + r / 64 := ca_ok hw hA2
  have t1 : (aK k).1 ≠ 1 := by rw [k3]; show t ≠ 1; omega
  have t4 : ¬ (aK k).1 < 4 := by rw [k3]; show ¬ t < 4; omega
  have hat : va_at (eD g) KC (eb g + a / 64, .inl (eA g t, n, .inr (.inr (.inr (.inr (fun j => (gr M a j).map (ca g))))))) H := hH.2 (a / 64) _ (by rw [wl_at hA, ha, ce_R k1 t1 t4, k3])
  have hcell : H[eb g + a / 64]? = some (arrV (eA g t) n (fun j => va_rf ((gr M a j).map (ca g)))) := hat
  have h0 : ¬ i < 0 := fun q => hi (Or.inl q)
  obtain ⟨r', hr', cellV, g1, g2, g3, -⟩ := hH.2 (r / 64) _ (by rw [wl_at hA2, hr, ce_O h12])
  have hK := C.2.2.2.2.2.2.2.1
  have hcls := (hK.1 c _ (k_c h12)).2
  have hRA : ∃ (kA : Class) (comp : ClassId), s.vm.classes[eA g t]? = some kA ∧ kA.kind = .array comp (.object (kC c)) ∧ s.vm.findClass (kC c) = some comp := by
    rcases ht with ⟨rfl, rfl⟩ | ⟨rfl, rfl⟩
    · obtain ⟨kA, comp, q1, q2, q3, -⟩ := (hK.2 4 _ (ty_at g k4)).2
      exact ⟨kA, comp, q1, q2, q3⟩
    · obtain ⟨kA, comp, q1, q2, q3, -⟩ := (hK.2 5 _ (ty_at g k4)).2
      exact ⟨kA, comp, q1, q2, q3⟩
  obtain ⟨kA, comp, q1, q2, q3⟩ := hRA
  have hcomp : comp = (eD g).1 c := Option.some.inj (q3.symm.trans hcls.1)
  subst hcomp
  obtain ⟨kC', hkC, -⟩ := hcls.2
  rw [hcr]
  refine W.aast C.1 C.2.1 hcell (fun q h => by cases h) (fun h => by cases h) q1 q2 rfl hkC ⟨h0, by rw [arrV_size]; exact in_lt hi⟩ g1 (fun q h => by rw [g3] at h; cases h) (by rw [g2]; exact hkC) (by rw [g2]; exact va_assign hcls) rfl rfl hd fun H1 e1 z oq => ?_
  refine h g p l e R s mid args below meth cc Z (cx_km hkm C) (rt_km hkm hR) H1 _ cells slots ls (hr_set hH hw hA rfl (fun b hb => ⟨rfl, rfl, gr_ne hb⟩) z oq ?_) (wf_sr hw hA2 (by rw [ha, hrk]; exact hr)) (ls_ok hkm hL) (st_ok hkm (tl (tl (tl hS)))) hl2 (hss.put z oq fA_a) hc hc2
  rw [ha, ce_R k1 t1 t4, k3]
  show H1[eb g + a / 64]? = some (arrV (eA g t) n (fun j => va_rf ((gr (sr M a i.toNatClampNeg (some r)) a j).map (ca g))))
  rw [e1, arrV_store, gr_at]
  congr 2
  funext q
  by_cases hq : q = i.toNatClampNeg
  · subst hq; simp [updV, va_rf, hcr]
  · simp [updV, hq]
/-! the script -/
theorem x_sld {i : Int32} (hd : decode (mB m) pc = .ok (.iaload, 1)) (hi : vp_in i M.1.2) (h : X m (pc + 1) L (.int (gi M 62 i.toNatClampNeg) :: S) M b Q) : X m pc L (.int i :: .ref 62 :: S) M b Q := by
  intro g p l e R s mid args below meth cc Z C hR H locs cells slots ls hH hw hL hS hl2 hss hc hc2
  have K := h g p l e R s mid args below meth cc Z C hR H locs cells slots ls hH hw hL (ok1 (tl (tl hS)) trivial) hl2 hss hc hc2
  obtain ⟨-, -, -, q4, -, -, -, q8, q9⟩ := C.2.2.2.2.2.2.2
  exact va_sld C.1 C.2.1 q8 (Nat.lt_of_lt_of_le q9 q4) (Nat.not_le.mpr q9) hss hi hd K
theorem x_slen (hd : decode (mB m) pc = .ok (.arraylength, 1)) (h : X m (pc + 1) L (.int (Int32.ofNat M.1.2) :: S) M b Q) : X m pc L (.ref 62 :: S) M b Q := by
  intro g p l e R s mid args below meth cc Z C hR H locs cells slots ls hH hw hL hS hl2 hss hc hc2
  have K := h g p l e R s mid args below meth cc Z C hR H locs cells slots ls hH hw hL (ok1 (tl hS) trivial) hl2 hss hc hc2
  obtain ⟨-, -, -, q4, -, -, -, q8, q9⟩ := C.2.2.2.2.2.2.2
  exact va_slen C.1 C.2.1 q8 (Nat.lt_of_lt_of_le q9 q4) (Nat.not_le.mpr q9) hss hd K
/-! new cells -/
theorem nw_ok {k : Nat} (hk : k < 61) : okA (nw M k) (64 * M.1.1.length + k) := by
  unfold okA
  rw [show (64 * M.1.1.length + k) / 64 = M.1.1.length by omega, show (64 * M.1.1.length + k) % 64 = k by omega]
  show (M.1.1 ++ [k])[M.1.1.length]? = some k
  simp
theorem nw_old {k a : Nat} (h : a ≠ 64 * M.1.1.length + k) : gi (nw M k) a = gi M a ∧ gl (nw M k) a = gl M a ∧ gr (nw M k) a = gr M a := by
  refine ⟨?_, ?_, ?_⟩ <;> (funext j; simp [gi, gl, gr, nw, h])
theorem nw_km {k : Nat} (h : M.1.1 ≠ []) : KM M (nw M k) := by
  refine ⟨⟨[k], rfl⟩, rfl, fun j => ?_⟩
  have : 0 < M.1.1.length := List.length_pos_iff.mpr h
  rw [(nw_old (M := M) (k := k) (a := 62) (by omega)).1]
theorem nw_km2 {k : Nat} (hk : k < 61) : KM M (nw M k) := by
  refine ⟨⟨[k], rfl⟩, rfl, fun j => ?_⟩
  rw [(nw_old (M := M) (k := k) (a := 62) (by omega)).1]
theorem nw_wf {k : Nat} (hk : k < 61) (h : WF M) : WF (nw M k) := by
  refine ⟨fun d hd => ?_, fun a j r hr => ?_⟩
  · rcases List.mem_append.mp (show d ∈ M.1.1 ++ [k] from hd) with h1 | h1
    · exact h.1 d h1
    · rw [List.mem_singleton.mp h1]; exact hk
  · by_cases ha : a = 64 * M.1.1.length + k
    · simp [gr, nw, ha] at hr
    · rw [(nw_old ha).2.2] at hr
      obtain ⟨h1, h2⟩ := h.2 a j r hr
      exact ⟨km_ok (nw_km2 hk) h1, h2⟩
theorem nw_hr {g : Ev} {H H1 : Heap} {k : Nat} (hk : k < 61) (hw : WF M) (hH : HR g M H) (hz : H1.size = H.size + 1) (oq : ∀ q : Nat, q < H.size → H1[q]? = H[q]?) (hat : va_at (eD g) KC (H.size, ce g (nw M k) k (64 * M.1.1.length + k)) H1) : HR g (nw M k) H1 := by
  have hl : (nw M k).1.1.length = M.1.1.length + 1 := by show (M.1.1 ++ [k]).length = _; simp
  refine ⟨by rw [hz, hl, hH.1]; omega, fun i q hq => ?_⟩
  unfold wl at hq
  rw [List.getElem?_mapIdx] at hq
  have e1 : (nw M k).1.1[i]? = (M.1.1 ++ [k])[i]? := rfl
  rw [e1] at hq
  by_cases hi : i < M.1.1.length
  · rw [List.getElem?_append_left hi] at hq
    cases hd : M.1.1[i]? with
    | none => rw [hd] at hq; cases hq
    | some d =>
      rw [hd] at hq
      have hd2 := hw.1 d (List.mem_of_getElem? hd)
      obtain ⟨h1, h2, h3⟩ := nw_old (M := M) (k := k) (a := 64 * i + d) (by omega)
      have e2 : ce g (nw M k) d (64 * i + d) = ce g M d (64 * i + d) := by
        have : fv g (nw M k) d (64 * i + d) = fv g M d (64 * i + d) := by
          funext j
          simp only [fv, h1, h3]
        simp only [ce, h1, h2, h3, this]
      cases hq
      show va_at (eD g) KC (eb g + i, ce g (nw M k) d (64 * i + d)) H1
      rw [e2]
      refine va_at.kept (hH.2 i _ ?_) (oq _ (by show eb g + i < H.size; rw [hH.1]; omega))
      unfold wl
      rw [List.getElem?_mapIdx, hd]
      rfl
  · rw [List.getElem?_append_right (by omega)] at hq
    have hz2 : i - M.1.1.length < 1 := by
      cases hc : ([k] : List Nat)[i - M.1.1.length]? with
      | none => rw [hc] at hq; cases hq
      | some d => exact (List.getElem?_eq_some_iff.mp hc).1
    have : i = M.1.1.length := by omega
    subst this
    rw [show M.1.1.length - M.1.1.length = 0 by omega] at hq
    cases hq
    rw [← hH.1]
    exact hat
theorem nw_S {g : Ev} {H0 H H1 : Heap} {locs : List Loc} (h : va_S (fA g) H0 H locs) (hz : H1.size = H.size + 1) (oq : ∀ q : Nat, q < H.size → H1[q]? = H[q]?) : va_S (fA g) H0 H1 locs := ⟨Nat.le_trans h.1 (by omega), fun x h1 h2 => (oq x (Nat.lt_of_lt_of_le h1 h.1)).trans (h.2.1 x h1 h2), h.2.2⟩
theorem nw_at0 {k : Nat} (a : Nat) (ha : a = 64 * M.1.1.length + k) : gi (nw M k) a = (fun _ => 0) ∧ gl (nw M k) a = (fun _ => 0) ∧ gr (nw M k) a = (fun _ => none) := by
  subst ha
  refine ⟨?_, ?_, ?_⟩ <;> (funext j; simp [gi, gl, gr, nw])
theorem dv_fv (g : Ev) {c j : Nat} (h : c < 12) (hj : j < kN c) (a : Nat) (ha : a = 64 * M.1.1.length + c) : defaultValue (kY c j) = fv g (nw M c) c a j := by
  obtain ⟨h1, -, h3⟩ := nw_at0 (M := M) (k := c) a ha
  unfold fv
  rw [h1, h3]
  have key : (isI (kY c j) = true → defaultValue (kY c j) = .int 0) ∧ (isI (kY c j) = false → defaultValue (kY c j) = .null) := by
    have : ∀ c, c < 12 → ∀ j, j < kN c → (isI (kY c j) = true → defaultValue (kY c j) = .int 0) ∧ (isI (kY c j) = false → defaultValue (kY c j) = .null) := by decide +kernel
    exact this c h j hj
  by_cases hI : isI (kY c j) = true
  · rw [if_pos hI]; exact key.1 hI
  · rw [if_neg hI]; exact key.2 (by simpa using hI)
theorem x_new {i c : Nat} {b1 b2 : Nat} (hd : decode (mB m) pc = .ok (.new i, 3)) (h12 : c < 12) (hl : Cond.classLink (mY m).cls i (kC c) ∈ TG) (h : X m (pc + 3) L (.ref (64 * M.1.1.length + c) :: S) (nw M c) (b1, b2) Q) : X m pc L S M (b1 + 1, b2 + kN c) Q := by
  intro g p l e R s mid args below meth cc Z C hR H locs cells slots ls hH hw hL hS hl2 hss hc hc2
  have hkm : KM M (nw M c) := nw_km2 (by omega)
  have hts := C.2.2.2.2.1
  have hK := C.2.2.2.2.2.2.2.1
  have hKn := hK.1 c _ (k_c h12)
  have hRm := C.2.2.2.2.2.1
  have hc' : cells + (b1 + 1) ≤ mC m := hc
  have hc2' : slots + (b2 + kN c) ≤ mS m := hc2
  refine W.newcK C.1 C.2.1 C.2.2.2.1 (hts _ hl) (hts _ (k_ins h12)) (hts _ (k_ini h12)) rfl hd (by omega) (by omega) hKn.2.1 rfl fun H1 kC' hkC e1 z1 o1 => ?_
  have hA : okA (nw M c) (64 * M.1.1.length + c) := nw_ok (by omega)
  have hwn := nw_wf (M := M) (k := c) (by omega) hw
  have e3 : cz g (.ref (64 * M.1.1.length + c)) = .ref H.size := by
    show Value.ref (ca g _) = _
    rw [ca_ok hwn hA, show (64 * M.1.1.length + c) / 64 = M.1.1.length by omega, hH.1]
  have K := h g p l e R s mid args below meth cc Z (cx_km hkm C) (rt_km hkm hR) H1 locs (cells + 1) (slots + kN c) ls (nw_hr (by omega) hw hH z1 o1 ?_) hwn (ls_ok hkm hL) (ok1 (st_ok hkm hS) (Or.inr (Or.inr hA))) hl2 (nw_S hss z1 o1) (by show cells + 1 + b1 ≤ _; omega) (by show slots + kN c + b2 ≤ _; omega)
  · rw [List.map_cons, e3] at K
    exact K
  · rw [ce_O h12]
    refine ⟨_, k_c h12, (u_born (kY c) hts (k_i h12) hKn hkC e1 (k_p h12)).to (fun j hj => ?_)⟩
    rw [dv_fv (M := M) g h12 hj _ rfl]
    simp [vp_V, hj]
theorem x_newa {k t n : Nat} {at0 : ArrayType} {v : Int32} {b1 b2 : Nat} (hd : decode (mB m) pc = .ok (.newarray at0, 2)) (hk : AK k t n) (ht : (t = 0 ∧ at0 = .int) ∨ (t = 1 ∧ at0 = .long) ∨ (t = 2 ∧ at0 = .byte) ∨ (t = 3 ∧ at0 = .boolean)) (hv : ¬ v < 0) (hn : v.toNatClampNeg = n) (hsm : n ≤ 100000) (hl : Cond.arrayClass (aT t) ∈ TG) (h : X m (pc + 2) L (.ref (64 * M.1.1.length + k) :: S) (nw M k) (b1, b2) Q) : X m pc L (.int v :: S) M (b1 + 1, b2 + n) Q := by
  intro g p l e R s mid args below meth cc Z C hR H locs cells slots ls hH hw hL hS hl2 hss hc hc2
  obtain ⟨k1, k2, k3, k4⟩ := hk
  have hkm : KM M (nw M k) := nw_km2 k2
  have hts := C.2.2.2.2.1
  have hK := C.2.2.2.2.2.2.2.1
  have hRm := C.2.2.2.2.2.1
  have hc' : cells + (b1 + 1) ≤ mC m := hc
  have hc2' : slots + (b2 + n) ≤ mS m := hc2
  have hA : okA (nw M k) (64 * M.1.1.length + k) := nw_ok k2
  have hwn := nw_wf (M := M) (k := k) k2 hw
  have e3 : cz g (.ref (64 * M.1.1.length + k)) = .ref H.size := by
    show Value.ref (ca g _) = _
    rw [ca_ok hwn hA, show (64 * M.1.1.length + k) / 64 = M.1.1.length by omega, hH.1]
  have hty : newarray.typeOf at0 = aT t := by rcases ht with ⟨rfl, rfl⟩ | ⟨rfl, rfl⟩ | ⟨rfl, rfl⟩ | ⟨rfl, rfl⟩ <;> rfl
  have hby : n * componentBytes (newarray.typeOf at0) ≤ 536870912 := by
    have : componentBytes (newarray.typeOf at0) ≤ 8 := by rcases ht with ⟨rfl, rfl⟩ | ⟨rfl, rfl⟩ | ⟨rfl, rfl⟩ | ⟨rfl, rfl⟩ <;> decide
    calc n * componentBytes (newarray.typeOf at0) ≤ 100000 * 8 := Nat.mul_le_mul hsm this
      _ ≤ 536870912 := by decide
  refine va_newaK C.1 C.2.1 (by rw [hty]; exact hts _ hl) rfl hd rfl hv hn hby (by omega) (by omega) rfl fun H1 cA e1 z1 o1 hAr hNm => ?_
  have hcA : cA = eA g t := by
    have h2 := (hK.2 t _ (ty_at g k4)).2
    rw [hty] at hNm
    rcases ht with ⟨rfl, rfl⟩ | ⟨rfl, rfl⟩ | ⟨rfl, rfl⟩ | ⟨rfl, rfl⟩ <;> exact Option.some.inj (hNm.symm.trans h2)
  subst hcA
  have K := h g p l e R s mid args below meth cc Z (cx_km hkm C) (rt_km hkm hR) H1 locs (cells + 1) (slots + n) ls (nw_hr k2 hw hH z1 o1 ?_) hwn (ls_ok hkm hL) (ok1 (st_ok hkm (tl hS)) (Or.inr (Or.inr hA))) hl2 (nw_S hss z1 o1) (by show cells + 1 + b1 ≤ _; omega) (by show slots + n + b2 ≤ _; omega)
  · rw [List.map_cons, e3] at K
    exact K
  · obtain ⟨q1, q2, q3⟩ := nw_at0 (M := M) (k := k) _ rfl
    rw [hty] at e1
    rcases ht with ⟨rfl, rfl⟩ | ⟨rfl, rfl⟩ | ⟨rfl, rfl⟩ | ⟨rfl, rfl⟩
    · rw [ce_I k1 (by rw [k3]; show _ ≠ 1; dsimp only; omega) (by rw [k3]; show _ < 4; dsimp only; omega), k3, q1]; exact e1
    · rw [ce_L k1 (by rw [k3]), k3, q2]; exact e1
    · rw [ce_I k1 (by rw [k3]; show _ ≠ 1; dsimp only; omega) (by rw [k3]; show _ < 4; dsimp only; omega), k3, q1]; exact e1
    · rw [ce_I k1 (by rw [k3]; show _ ≠ 1; dsimp only; omega) (by rw [k3]; show _ < 4; dsimp only; omega), k3, q1]; exact e1
theorem x_anew {k t n i : Nat} {v : Int32} {b1 b2 : Nat} {Cn : String} (hd : decode (mB m) pc = .ok (.anewarray i, 3)) (hk : AK k t n) (ht : (t = 4 ∧ Cn = "LearnedCount$Word") ∨ (t = 5 ∧ Cn = "LearnedCount$Sheet")) (hv : ¬ v < 0) (hn : v.toNatClampNeg = n) (hsm : n ≤ 100000) (hl : Cond.classLink (mY m).cls i Cn ∈ TG) (h : X m (pc + 3) L (.ref (64 * M.1.1.length + k) :: S) (nw M k) (b1, b2) Q) : X m pc L (.int v :: S) M (b1 + 1, b2 + n) Q := by
  intro g p l e R s mid args below meth cc Z C hR H locs cells slots ls hH hw hL hS hl2 hss hc hc2
  obtain ⟨k1, k2, k3, k4⟩ := hk
  have hkm : KM M (nw M k) := nw_km2 k2
  have hts := C.2.2.2.2.1
  have hK := C.2.2.2.2.2.2.2.1
  have hRm := C.2.2.2.2.2.1
  have hc' : cells + (b1 + 1) ≤ mC m := hc
  have hc2' : slots + (b2 + n) ≤ mS m := hc2
  have hA : okA (nw M k) (64 * M.1.1.length + k) := nw_ok k2
  have hwn := nw_wf (M := M) (k := k) k2 hw
  have e3 : cz g (.ref (64 * M.1.1.length + k)) = .ref H.size := by
    show Value.ref (ca g _) = _
    rw [ca_ok hwn hA, show (64 * M.1.1.length + k) / 64 = M.1.1.length by omega, hH.1]
  have hov : va_AO Cn s := by
    obtain ⟨-, -, ⟨q1, q2⟩, -⟩ := C.2.2.2.2.2.2.2
    rcases ht with ⟨-, rfl⟩ | ⟨-, rfl⟩
    · exact q1
    · exact q2
  have hn' : v.toNatClampNeg * 4 ≤ 536870912 := by rw [hn]; omega
  refine W.anew C.1 C.2.1 C.2.2.2.1 (hts _ hl) (va_AO.use hov) rfl hd rfl hv hn' (by omega) (by omega) fun cA kA comp f1 f2 f3 f4 => ?_
  rw [hn]
  generalize hH1 : H.push ({ cls := cA, slots := Array.replicate n .null, vm := .none } : Cell) = H1
  have z1 : H1.size = H.size + 1 := by rw [← hH1, Array.size_push]
  have e1 : H1[H.size]? = some (arrV cA n (fun _ => .null)) := by rw [← hH1, Array.getElem?_push_size, ← arrV_new]
  have o1 : ∀ q : Nat, q < H.size → H1[q]? = H[q]? := fun q hq => by rw [← hH1, Array.getElem?_push, if_neg (Nat.ne_of_lt hq)]
  have hcA : cA = eA g t := by
    rcases ht with ⟨rfl, rfl⟩ | ⟨rfl, rfl⟩
    · obtain ⟨_, _, -, -, -, q4⟩ := (hK.2 4 _ (ty_at g k4)).2
      exact Option.some.inj (f1.symm.trans q4)
    · obtain ⟨_, _, -, -, -, q4⟩ := (hK.2 5 _ (ty_at g k4)).2
      exact Option.some.inj (f1.symm.trans q4)
  subst hcA
  have K := h g p l e R s mid args below meth cc Z (cx_km hkm C) (rt_km hkm hR) H1 locs (cells + 1) (slots + n) ls (nw_hr k2 hw hH z1 o1 ?_) hwn (ls_ok hkm hL) (ok1 (st_ok hkm (tl hS)) (Or.inr (Or.inr hA))) hl2 (nw_S hss z1 o1) (by show cells + 1 + b1 ≤ _; omega) (by show slots + n + b2 ≤ _; omega)
  · rw [List.map_cons, e3] at K
    exact K
  · obtain ⟨q1, q2, q3⟩ := nw_at0 (M := M) (k := k) _ rfl
    rw [ce_R k1 (by rw [k3]; show t ≠ 1; omega) (by rw [k3]; show ¬ t < 4; omega), k3, q3]
    exact e1
end ROWS2
end
section
/-! ===== methods called ===== -/
def rI (r : Option Value) : Prop := match r with
  | none => True
  | some (.int _) => True
  | some (.long _) => True
  | _ => False
theorem rI_cz {r : Option Value} (h : rI r) (g : Ev) : r.toList.map (cz g) = r.toList := by
  match r, h with
  | none, _ => rfl
  | some (.int _), _ => rfl
  | some (.long _), _ => rfl
theorem rI_ok {r : Option Value} (h : rI r) {M : Mm} : ∀ v ∈ r.toList, okv M v := by
  match r, h with
  | none, _ => intro v hv; cases hv
  | some (.int _), _ => intro v hv; rw [List.mem_singleton.mp hv]; trivial
  | some (.long _), _ => intro v hv; rw [List.mem_singleton.mp hv]; trivial
def cQ (g : Ev) (M : Mm) (Q : Option Value → Mm → Prop) : Array Value → State → Outcome → State → Prop := fun _ st oc t => ∃ (r : Option Value) (N : Mm), oc = .returned r ∧ rI r ∧ Q r N ∧ HR g N t.heap ∧ WF N ∧ KM M N ∧ va_F (fA g) st t
def cP (g : Ev) (M : Mm) (as : List Value) : Array Value → State → Prop := va_Pc (as.map (cz g)) (fun U => HR g M U.heap ∧ KU g M.1.2 (gi M 62) U U.heap)
def CALL (m : MI) (as : List Value) (M : Mm) (Q : Option Value → Mm → Prop) : Prop := ∀ (l : Launch) (g : Ev), WF M → (∀ v ∈ as, okv M v) → Met l (mY m) (mW m) (mRoom m) (cP g M as) (cQ g M Q) (mC m) (mS m) (fA g)
theorem cP_blind (g : Ev) (M : Mm) (as : List Value) : FrameBlind (cP g M as) := fun a U f mk h => ⟨h.1, h.2.1, ku_same (u := U) h.2.2 rfl⟩
theorem lg_czl (g : Ev) (as : List Value) : (lg_sl (as.map (cz g))).length = (lg_sl as).length := by
  induction as with
  | nil => rfl
  | cons v vs ih =>
    unfold lg_sl at ih ⊢
    rw [List.map_cons, List.flatMap_cons, List.flatMap_cons, List.length_append, List.length_append, ih, cz_cat]
    split <;> rfl
theorem lv_cza (g : Ev) (as : List Value) : ∀ i, lv_args i (as.map (cz g)) = (lv_args i as).map (cq g) := by
  induction as with
  | nil => intro i; rfl
  | cons v vs ih =>
    intro i
    rw [List.map_cons, lv_args, lv_args, ih, cz_cat]
    rfl
theorem lv_args_ok {M : Mm} (as : List Value) (h : ∀ v ∈ as, okv M v) : ∀ i, ∀ q ∈ lv_args i as, okv M q.2 := by
  induction as with
  | nil => intro i q hq; cases hq
  | cons v vs ih =>
    intro i q hq
    rw [lv_args] at hq
    rcases List.mem_cons.mp hq with rfl | hq
    · exact h v List.mem_cons_self
    · exact ih (fun w hw => h w (List.mem_cons_of_mem _ hw)) _ q hq
/-- a method's walk gives its contract -/
theorem call_of {m : MI} {as : List Value} {M : Mm} {Q : Option Value → Mm → Prop} {L : List (Nat × Value)} (hp : plainName (mY m).cls = true) (hlen : (lg_sl as).length ≤ mL m) (hL : lv_args 0 as = L) (h : X m 0 L [] M (mC m, mS m) Q) : CALL m as M Q := by
  subst hL
  intro l g hw hok
  refine Met.ofW (cc := mB m) (maxL := mL m) (ret := mT m) hp rfl ?_
  intro p e s mid args below meth c s₁ B hml hv
  obtain ⟨rfl, hH, hKU⟩ := hv
  have hts := atoms_spec (ws := mW m) B.pre
  have hown : s.vm.findClass (mY m).cls = some mid.cls := findClass_of_methodNamed B.named
  have hlocks := B.notSynchronized
  have hnm : meth.name = (mY m).name := (name_of_methodNamed B.named B.method).1
  have hl := lv_entry (as.map (cz g)) (n := mL m) (by rw [lg_czl]; exact hlen)
  rw [lg_entry_eq]
  generalize (lg_sl (as.map (cz g)) ++ List.replicate (mL m - (lg_sl (as.map (cz g))).length) Slot.unset).toArray = ls at hl ⊢
  rw [lv_cza] at hl
  have C : Cx m g M.1.2 (gi M 62) p (mRoom m) s mid (as.map (cz g)).toArray meth c := ⟨B.exec, B.bytes, hml, hown, fun w hw => hts w (List.mem_cons_of_mem _ hw), ⟨Nat.le_refl _, Nat.le_refl _, Nat.le_refl _, Nat.le_refl _⟩, hnm, hKU⟩
  refine h g p l e (mRoom m) s mid _ below meth c (MQ below (cQ g M Q) (as.map (cz g)).toArray s (mC m) (mS m) (fA g)) C ?_ s.heap [] 0 0 ls hH hw (lv_args_ok as hok 0) (fun v hv => by cases hv) hl va_S.rf (Nat.le_of_eq (Nat.zero_add _)) (Nat.le_of_eq (Nat.zero_add _))
  intro r N H locs cells slots pc ls hQ hret hHN hwN hkm hss hc hc2
  refine W.widen hc hc2 ?_
  have hr := B.returns
  have hq : ∀ r, rI r → Q r N → ∀ t : State, t.heap = H → s.WarmedH t.vm → cQ g M Q (as.map (cz g)).toArray s (.returned r) t := fun r hri hQ t ht _ => ⟨r, N, rfl, hri, hQ, by rw [ht]; exact hHN, hwN, hkm, hss.F ht⟩
  match r, hret, hQ with
  | none, hret, hQ => exact W.vret B.exec B.bytes (hr.trans hret.2) (hq none trivial hQ) hss.2.2 hret.1 hlocks
  | some (.int v), hret, hQ =>
    obtain ⟨hd, ty, hty, hn⟩ := hret
    exact W.zret B.exec B.bytes (hr.trans hty) hn (hq (some (.int v)) trivial hQ) hss.2.2 hd hlocks
  | some (.long v), hret, hQ => exact W.lret B.exec B.bytes (hr.trans hret.2) (hq (some (.long v)) trivial hQ) hss.2.2 hret.1 hlocks
/-- callees by the tables -/
def MG (m : MI) (n : Nat) : Prop := Cond.code (mY m) (mB m) (mL m) (mT m) ∈ TG ∧ Cond.initialized (mY m).cls ∈ TG ∧ ((mY m).cls ≠ "java/lang/invoke/MethodHandle" ∧ (mY m).cls ≠ "java/lang/invoke/VarHandle" ∧ (parseMethodDescriptor (mY m).desc).map (fun d => d.parameters.length) = some n)
def MV (m : MI) (n : Nat) : Prop := MG m n ∧ Cond.instanceMethod (mY m) ∈ TG ∧ Cond.selects (mY m).cls (mY m) (mY m) ∈ TG
def MSt (m : MI) (n : Nat) : Prop := MG m n ∧ Cond.static (mY m) ∈ TG
def MIn (m : MI) (n : Nat) : Prop := MG m n ∧ Cond.instanceMethod (mY m) ∈ TG ∧ (mY m).name = "<init>" ∧ mT m = none
theorem mw_good {m : MI} {n : Nat} (h : MG m n) : GoodIn TG (mW m) := fun w hw => by
  rcases List.mem_cons.mp hw with rfl | hw
  · exact TG_good _ h.1
  · exact TG_good _ hw
/-- the caller has room for the callee -/
def RM (m m' : MI) : Prop := mF m' + 1 ≤ mF m ∧ 8 + (mL m' + 11) + mO m' ≤ mO m
section ROWS3
variable {p : Program} {l : Launch} {e : Env} {R : Room} {s : State} {mid : MethodId} {args : Array Value} {below : List Frame} {meth : Method} {c : Code} {H : Heap} {locs : List Loc} {cells slots : Nat} {Z : State → Prop}
theorem W_run {g : Ev} {M : Mm} {Q : Option Value → Mm → Prop} {mc ms pc : Nat} {ls : Array Slot} {st0 rest : List Value} {a : Array Value} (hr : va_Run p l e R s mid args below meth c H locs cells slots mc ms (F0 mid pc ls st0) rest (cQ g M Q a) (fA g)) (hss : va_S (fA g) s.heap H locs)
    (kk : ∀ (r : Option Value) (N : Mm) (H1 : Heap) (locs1 : List Loc), rI r → Q r N → HR g N H1 → WF N → KM M N → va_S (fA g) s.heap H1 locs1 → W p l e R s mid args below meth c H1 locs1 (cells + mc) (slots + ms) Z (F0 mid (pc + 3) ls (r.toList ++ rest))) : W p l e R s mid args below meth c H locs cells slots Z (F0 mid pc ls st0) := by
  intro T hT X0
  obtain ⟨v, st₀, t, T', Lo, h0, X', hL, e1, e2, ⟨r, N, hv, hri, hQ, hHN, hwN, hkm, hF⟩, st⟩ := hr T hT X0
  cases hv
  obtain ⟨hz, hk⟩ := hF
  rw [h0] at hz hk
  obtain ⟨t2, a1, b1⟩ := kk v N T'.heap (locs ++ Lo) hri hQ (by rw [e1]; exact hHN) hwN hkm ⟨Nat.le_trans hss.1 (by rw [e1]; exact hz), fun q h1 h2 => by rw [e1, hk q (Nat.lt_of_lt_of_le h1 hss.1) h2]; exact hss.2.1 q h1 h2, fun q hq => by
      rcases List.mem_append.mp hq with h | h
      · exact hss.2.2 q h
      · exact hL q h⟩ T' rfl X'
  exact ⟨t2, st t2 a1, b1⟩
end ROWS3
section ROWS4
variable {m m' : MI} {pc : Nat} {L : List (Nat × Value)} {S St : List Value} {M : Mm} {b : Nat × Nat} {Q : Option Value → Mm → Prop}
/-- what goes on behind a call -/
def aft (m m' : MI) (pc : Nat) (L : List (Nat × Value)) (S : List Value) (b : Nat × Nat) (Q : Option Value → Mm → Prop) : Option Value → Mm → Prop := fun r N => X m (pc + 3) L (r.toList ++ S) N (b.1 - mC m', b.2 - mS m') Q
theorem cat_cz (g : Ev) (S : List Value) : ((S.map (cz g)).map fun v => v.category).sum = (S.map fun v => v.category).sum := by
  rw [List.map_map]
  congr 1
  exact List.map_congr_left (fun v _ => cz_cat g v)
theorem aft_k {g : Ev} {p : Program} {l : Launch} {e : Env} {R : Room} {s : State} {mid : MethodId} {args : Array Value} {below : List Frame} {meth : Method} {c : Code} {cells slots : Nat} {Z : State → Prop} {ls : Array Slot} (C : Cx m g M.1.2 (gi M 62) p R s mid args meth c) (hR : Rt m g p l e R s mid args below meth c Z M Q) (hL : ∀ q ∈ L, okv M q.2) (hS : ∀ v ∈ S, okv M v) (hl : lv_has ls (mL m) (L.map (cq g))) (hc : cells + b.1 ≤ mC m) (hc2 : slots + b.2 ≤ mS m) (hb : mC m' ≤ b.1 ∧ mS m' ≤ b.2) :
    ∀ (r : Option Value) (N : Mm) (H1 : Heap) (locs1 : List Loc), rI r → aft m m' pc L S b Q r N → HR g N H1 → WF N → KM M N → va_S (fA g) s.heap H1 locs1 → W p l e R s mid args below meth c H1 locs1 (cells + mC m') (slots + mS m') Z (F0 mid (pc + 3) ls (r.toList ++ S.map (cz g))) := by
  intro r N H1 locs1 hri hQ hHN hwN hkm hss
  have K := hQ g p l e R s mid args below meth c Z (cx_km hkm C) (rt_km hkm hR) H1 locs1 (cells + mC m') (slots + mS m') ls hHN hwN (ls_ok hkm hL) (fun v hv => (List.mem_append.mp hv).elim (rI_ok hri v) (st_ok hkm hS v)) hl hss (by show cells + mC m' + (b.1 - mC m') ≤ _; omega) (by show slots + mS m' + (b.2 - mS m') ≤ _; omega)
  rw [List.map_append, rI_cz hri] at K
  exact K
theorem czr (g : Ev) (As S : List Value) : (As.reverse ++ S).map (cz g) = (As.map (cz g)).reverse ++ S.map (cz g) := by rw [List.map_append, List.map_reverse]
theorem ku_at {g : Ev} {n : Nat} {xs : Nat → Int32} {s : State} {H : Heap} {locs : List Loc} (h : KU g n xs s s.heap) (hss : va_S (fA g) s.heap H locs) : ∀ U : State, U.heap = H → s.WarmedH U.vm → KU g n xs U U.heap := fun U hU hW => by
  rw [hU]
  exact ku_mv h hW hss.1 hss.2.1
theorem x_invV {n i a c : Nat} {As : List Value} (hd : decode (mB m) pc = .ok (.invokevirtual i, 3)) (hl : Cond.methodLink (mY m).cls i (mY m') ∈ TG) (hv : MV m' n) (hn : As.length = n) (h12 : c < 12) (hc0 : kC c = (mY m').cls) (ha : a % 64 = c) (hrm : RM m m') (hb : mC m' ≤ b.1 ∧ mS m' ≤ b.2) (hst : St = As.reverse ++ .ref a :: S) (hcat : (S.map fun v => v.category).sum ≤ 8)
    (h : CALL m' (.ref a :: As) M (aft m m' pc L S b Q)) : X m pc L St M b Q := by
  subst hst
  intro g p l e R s mid args below meth cc Z C hR H locs cells slots ls hH hw hL hS hl2 hss hc hc2
  have hSS : ∀ v ∈ S, okv M v := fun v hv => hS v (List.mem_append_right _ (List.mem_cons_of_mem _ hv))
  have hva : okv M (.ref a) := hS _ (List.mem_append_right _ List.mem_cons_self)
  have hAs : ∀ v ∈ As, okv M v := fun v hv => hS v (List.mem_append_left _ (List.mem_reverse.mpr hv))
  have hA : okA M a := okA_of hva (by omega)
  have hts := C.2.2.2.2.1
  have hK := C.2.2.2.2.2.2.2.1
  obtain ⟨f1, f2, f3, f4⟩ := C.2.2.2.2.2.1
  rw [czr, List.map_cons, show cz g (.ref a) = .ref (eb g + a / 64) from by show Value.ref (ca g a) = _; rw [ca_ok hw hA]]
  have hM := h l g hw (ok1 hAs hva)
  refine W_run (va_runV (As := As.map (cz g)) (rest := S.map (cz g)) (n := n) (C := (mY m').cls) (bytes := mB m') (maxL := mL m') (ret := mT m') (Ts := TG) ⟨C.1, C.2.1, C.2.2.1, C.2.2.2.1, hts⟩ hM ⟨⟨rfl, rfl, Nat.le_trans hrm.1 f1, Nat.le_trans hrm.2 f2, pay_in hts (mw_good hv.1), List.mem_cons_self, hts _ hv.1.1, hts _ hv.1.2.1, ⟨hv.1.2.2.1, hv.1.2.2.2.1⟩, fun sig h => ?_, hts _ hl⟩, hts _ hv.2.1, hts _ hv.2.2⟩ ⟨cP_blind g M _, ?_, fun U hU hW => ⟨?_, by rw [hU]; exact hH, ku_at C.2.2.2.2.2.2.2 hss U hU hW⟩⟩ rfl (by rw [List.length_map]; exact hn) hl2.1 rfl (lv_room (by rw [cat_cz]; exact hcat)) hd ⟨by omega, by omega⟩) hss (aft_k C hR hL hSS hl2 hc hc2 hb)
  · have h2 := hv.1.2.2.2.2
    rw [h] at h2
    exact (Option.some.inj h2).symm
  · rw [← hc0]
    exact va_recv hK hH.2 (k_c h12) (q0 := a / 64) (by rw [wl_at hA, ha, ce_O h12])
  · show (Value.ref (eb g + a / 64) :: As.map (cz g)).toArray = _
    rw [List.map_cons, show cz g (.ref a) = .ref (eb g + a / 64) from by show Value.ref (ca g a) = _; rw [ca_ok hw hA]]
theorem x_invS {n i : Nat} {As : List Value} (hd : decode (mB m) pc = .ok (.invokestatic i, 3)) (hl : Cond.methodLink (mY m).cls i (mY m') ∈ TG) (hv : MSt m' n) (hn : As.length = n) (hrm : RM m m') (hb : mC m' ≤ b.1 ∧ mS m' ≤ b.2) (hst : St = As.reverse ++ S) (hcat : (S.map fun v => v.category).sum ≤ 8)
    (h : CALL m' As M (aft m m' pc L S b Q)) : X m pc L St M b Q := by
  subst hst
  intro g p l e R s mid args below meth cc Z C hR H locs cells slots ls hH hw hL hS hl2 hss hc hc2
  have hSS : ∀ v ∈ S, okv M v := fun v hv => hS v (List.mem_append_right _ hv)
  have hAs : ∀ v ∈ As, okv M v := fun v hv => hS v (List.mem_append_left _ (List.mem_reverse.mpr hv))
  have hts := C.2.2.2.2.1
  obtain ⟨f1, f2, f3, f4⟩ := C.2.2.2.2.2.1
  rw [czr]
  have hM := h l g hw hAs
  refine W_run (va_runS (As := As.map (cz g)) (rest := S.map (cz g)) (n := n) (bytes := mB m') (maxL := mL m') (ret := mT m') (Ts := TG) ⟨C.1, C.2.1, C.2.2.1, C.2.2.2.1, hts⟩ hM ⟨⟨rfl, rfl, Nat.le_trans hrm.1 f1, Nat.le_trans hrm.2 f2, pay_in hts (mw_good hv.1), List.mem_cons_self, hts _ hv.1.1, hts _ hv.1.2.1, ⟨hv.1.2.2.1, hv.1.2.2.2.1⟩, fun sig h => ?_, hts _ hl⟩, hts _ hv.2⟩ ⟨cP_blind g M _, fun U hU hW => ⟨rfl, by rw [hU]; exact hH, ku_at C.2.2.2.2.2.2.2 hss U hU hW⟩⟩ rfl (by rw [List.length_map]; exact hn) hl2.1 rfl (lv_room (by rw [cat_cz]; exact hcat)) hd ⟨by omega, by omega⟩) hss (aft_k C hR hL hSS hl2 hc hc2 hb)
  have h2 := hv.1.2.2.2.2
  rw [h] at h2
  exact (Option.some.inj h2).symm
/-- a static method of the host, private -/
theorem x_invSN {n i : Nat} {As : List Value} {host : String} (hd : decode (mB m) pc = .ok (.invokestatic i, 3)) (hl : ((mY m).cls, i, mY m', host) ∈ nestl) (hv : MSt m' n) (hn : As.length = n) (hrm : RM m m') (hb : mC m' ≤ b.1 ∧ mS m' ≤ b.2) (hst : St = As.reverse ++ S) (hcat : (S.map fun v => v.category).sum ≤ 8)
    (h : CALL m' As M (aft m m' pc L S b Q)) : X m pc L St M b Q := by
  subst hst
  intro g p l e R s mid args below meth cc Z C hR H locs cells slots ls hH hw hL hS hl2 hss hc hc2
  have hSS : ∀ v ∈ S, okv M v := fun v hv => hS v (List.mem_append_right _ hv)
  have hAs : ∀ v ∈ As, okv M v := fun v hv => hS v (List.mem_append_left _ (List.mem_reverse.mpr hv))
  have hts := C.2.2.2.2.1
  obtain ⟨f1, f2, f3, f4⟩ := C.2.2.2.2.2.1
  rw [czr]
  have hM := h l g hw hAs
  have hnl := C.2.2.2.2.2.2.2.2.1 _ hl
  exact W_run (va_runSN (As := As.map (cz g)) (rest := S.map (cz g)) (n := n) (Ts := TG) ⟨C.1, C.2.1, C.2.2.1, C.2.2.2.1, hts⟩ hM ⟨va_cnB n hts (mw_good hv.1) rfl rfl rfl hnl (hts _ hv.1.2.1) hv.1.2.2 ⟨Nat.le_trans hrm.1 f1, Nat.le_trans hrm.2 f2⟩, hts _ hv.2, trivial⟩ ⟨cP_blind g M _, fun U hU hW => ⟨rfl, by rw [hU]; exact hH, ku_at C.2.2.2.2.2.2.2 hss U hU hW⟩⟩ rfl (by rw [List.length_map]; exact hn) hl2.1 rfl (lv_room (by rw [cat_cz]; exact hcat)) hd ⟨by omega, by omega⟩) hss (aft_k C hR hL hSS hl2 hc hc2 hb)
theorem x_invI {n i a : Nat} {As : List Value} (hd : decode (mB m) pc = .ok (.invokespecial i, 3)) (hl : Cond.methodLink (mY m).cls i (mY m') ∈ TG) (hv : MIn m' n) (hn : As.length = n) (ha : a % 64 < 61) (hrm : RM m m') (hb : mC m' ≤ b.1 ∧ mS m' ≤ b.2) (hst : St = As.reverse ++ .ref a :: S) (hcat : (S.map fun v => v.category).sum ≤ 8)
    (h : CALL m' (.ref a :: As) M (aft m m' pc L S b Q)) : X m pc L St M b Q := by
  subst hst
  intro g p l e R s mid args below meth cc Z C hR H locs cells slots ls hH hw hL hS hl2 hss hc hc2
  have hSS : ∀ v ∈ S, okv M v := fun v hv => hS v (List.mem_append_right _ (List.mem_cons_of_mem _ hv))
  have hva : okv M (.ref a) := hS _ (List.mem_append_right _ List.mem_cons_self)
  have hAs : ∀ v ∈ As, okv M v := fun v hv => hS v (List.mem_append_left _ (List.mem_reverse.mpr hv))
  have hts := C.2.2.2.2.1
  obtain ⟨f1, f2, f3, f4⟩ := C.2.2.2.2.2.1
  rw [czr, List.map_cons]
  have hM := h l g hw (ok1 hAs hva)
  obtain ⟨hg, hin, hnm, hT0⟩ := hv
  refine W_run (va_runI (b := ca g a) (As := As.map (cz g)) (rest := S.map (cz g)) (n := n) (bytes := mB m') (maxL := mL m') (Ts := TG) ⟨C.1, C.2.1, C.2.2.1, C.2.2.2.1, hts⟩ hM ⟨⟨rfl, rfl, Nat.le_trans hrm.1 f1, Nat.le_trans hrm.2 f2, pay_in hts (mw_good hg), hT0 ▸ List.mem_cons_self, hT0 ▸ hts _ hg.1, hts _ hg.2.1, ⟨hg.2.2.1, hg.2.2.2.1⟩, fun sig h => ?_, hts _ hl⟩, hnm, hts _ hin⟩ ⟨cP_blind g M _, fun U hU hW => ⟨rfl, by rw [hU]; exact hH, ku_at C.2.2.2.2.2.2.2 hss U hU hW⟩⟩ rfl (by rw [List.length_map]; exact hn) hl2.1 rfl (lv_room (by rw [cat_cz]; exact hcat)) hd ⟨by omega, by omega⟩) hss (aft_k C hR hL hSS hl2 hc hc2 hb)
  have h2 := hg.2.2.2.2
  rw [h] at h2
  exact (Option.some.inj h2).symm
/-- Object's constructor -/
theorem x_obj {i a : Nat} (hd : decode (mB m) pc = .ok (.invokespecial i, 3)) (hl : Cond.methodLink (mY m).cls i Lib.objectInit ∈ TG) (h1 : Cond.instanceMethod Lib.objectInit ∈ TG) (h2 : Cond.code Lib.objectInit ⟨#[0xb1]⟩ 1 none ∈ TG) (hf : 1 ≤ mF m) (hcat : (S.map fun v => v.category).sum + 12 ≤ mO m) (h : X m (pc + 3) L S M b Q) : X m pc L (.ref a :: S) M b Q := by
  intro g p l e R s mid args below meth cc Z C hR H locs cells slots ls hH hw hL hS hl2 hss hc hc2
  have hts := C.2.2.2.2.1
  obtain ⟨f1, f2, f3, f4⟩ := C.2.2.2.2.2.1
  have K := h g p l e R s mid args below meth cc Z C hR H locs cells slots ls hH hw hL (tl hS) hl2 hss hc hc2
  refine W.objInit (a := ca g a) (rest := S.map (cz g)) C.1 C.2.1 C.2.2.2.1 (hts _ hl) (hts _ h1) (hts _ h2) rfl (hl2.1.trans C.2.2.1.symm) rfl hd (Nat.le_trans hf f1) ?_ K
  have e0 : (F0 mid pc ls ((Value.ref a :: S).map (cz g))).monitorRoom = 0 := by simp [JFrame.monitorRoom]
  rw [e0, cat_cz]
  omega
/-! ends -/
theorem x_ret0 (hd : decode (mB m) pc = .ok (.return_, 1)) (ht : mT m = none) (h : Q none M) : X m pc L [] M b Q := by
  intro g p l e R s mid args below meth cc Z C hR H locs cells slots ls hH hw hL hS hl2 hss hc hc2
  exact hR none M H locs cells slots pc ls h ⟨hd, ht⟩ hH hw (km_rf M) hss (by omega) (by omega)
theorem x_retI {v : Int32} {ty : FieldType} (hd : decode (mB m) pc = .ok (.ireturn, 1)) (ht : mT m = some ty) (hn : narrow ty (.int v) = .int v) (h : Q (some (.int v)) M) : X m pc L [.int v] M b Q := by
  intro g p l e R s mid args below meth cc Z C hR H locs cells slots ls hH hw hL hS hl2 hss hc hc2
  exact hR (some (.int v)) M H locs cells slots pc ls h ⟨hd, ty, ht, hn⟩ hH hw (km_rf M) hss (by omega) (by omega)
theorem x_retL {v : Int64} (hd : decode (mB m) pc = .ok (.lreturn, 1)) (ht : mT m = some .long) (h : Q (some (.long v)) M) : X m pc L [.long v] M b Q := by
  intro g p l e R s mid args below meth cc Z C hR H locs cells slots ls hH hw hL hS hl2 hss hc hc2
  exact hR (some (.long v)) M H locs cells slots pc ls h ⟨hd, ht⟩ hH hw (km_rf M) hss (by omega) (by omega)
/-! switches -/
theorem x_tblOut {x : Int32} {df lo hi : Int} {offs : Array Int} {len t : Nat} (hd : decode (mB m) pc = .ok (.tableswitch df lo hi offs, len)) (hx : x.toInt < lo ∨ hi < x.toInt) (ht : (pc : Int) + df = (t : Int)) (h : X m t L S M b Q) : X m pc L (.int x :: S) M b Q := X_pu h (fun hL hS => ⟨hL, tl hS⟩) (fun C hl k => lv_tableOut C.1 C.2.1 hd hx ht (k _ hl))
theorem x_tblIn {x : Int32} {df lo hi off : Int} {offs : Array Int} {len t : Nat} (hd : decode (mB m) pc = .ok (.tableswitch df lo hi offs, len)) (h1 : ¬ x.toInt < lo) (h2 : ¬ hi < x.toInt) (ho : offs[(x.toInt - lo).toNat]? = some off) (ht : (pc : Int) + off = (t : Int)) (h : X m t L S M b Q) : X m pc L (.int x :: S) M b Q := X_pu h (fun hL hS => ⟨hL, tl hS⟩) (fun C hl k => lv_tableIn C.1 C.2.1 hd h1 h2 ho ht (k _ hl))
theorem x_lkp {x : Int32} {df off : Int} {ps : Array (Int × Int)} {len t : Nat} (hd : decode (mB m) pc = .ok (.lookupswitch df ps, len)) (hp : (ps.toList.zip (ps.toList.drop 1)).all (fun (a, next) => a.1 < next.1) = true) (ho : Op.lookupswitch.offset ps.toList df x.toInt = off) (ht : (pc : Int) + off = (t : Int)) (h : X m t L S M b Q) : X m pc L (.int x :: S) M b Q := X_pu h (fun hL hS => ⟨hL, tl hS⟩) (fun C hl k => lv_lookup C.1 C.2.1 hd hp ho ht (k _ hl))
end ROWS4
end
section
/-! ===== String constants: 64 j + 63, their bytes: 64 j + 61 ===== -/
theorem cz_byt (g : Ev) (j : Nat) : cz g (.ref (64 * j + 61)) = .ref (eV g j) := by
  show Value.ref (ca g (64 * j + 61)) = _
  unfold ca
  rw [if_neg (by omega), if_neg (by omega), if_pos (by omega), show (64 * j + 61) / 64 = j by omega]
theorem okv_byt {M : Mm} {j : Nat} (h : j < 6) : okv M (.ref (64 * j + 61)) := by
  refine Or.inl ⟨Or.inr ?_, ?_⟩
  · show (64 * j + 61) % 64 = 61
    omega
  · show (64 * j + 61) / 64 < 6
    omega
section STR
variable {m m' : MI} {pc : Nat} {L : List (Nat × Value)} {S St : List Value} {M : Mm} {b : Nat × Nat} {Q : Option Value → Mm → Prop}
theorem x_strV {i j : Nat} (hj : j < 6) (hd : decode (mB m) pc = .ok (.getfield i, 3)) (hl : Cond.fieldLink (mY m).cls i "java/lang/String" "value" "[B" ∈ TG) (h : X m (pc + 3) L (.ref (64 * j + 61) :: S) M b Q) : X m pc L (.ref (64 * j + 63) :: S) M b Q := by
  intro g p l e R s mid args below meth cc Z C hR H locs cells slots ls hH hw hL hS hl2 hss hc hc2
  have K := h g p l e R s mid args below meth cc Z C hR H locs cells slots ls hH hw hL (ok1 (tl hS) (okv_byt hj)) hl2 hss hc hc2
  rw [List.map_cons, cz_byt] at K
  rw [List.map_cons, cz_str]
  obtain ⟨-, -, -, -, -, q6, -⟩ := C.2.2.2.2.2.2.2
  exact vk_getf C.1 C.2.1 (q6.1 j hj).2.2.1 hss C.2.2.2.1 (C.2.2.2.2.1 _ hl) (fun x h => h) hd K
theorem x_strC {i j : Nat} (hj : j < 6) (hd : decode (mB m) pc = .ok (.getfield i, 3)) (hl : Cond.fieldLink (mY m).cls i "java/lang/String" "coder" "B" ∈ TG) (h : X m (pc + 3) L (.int 0 :: S) M b Q) : X m pc L (.ref (64 * j + 63) :: S) M b Q := by
  intro g p l e R s mid args below meth cc Z C hR H locs cells slots ls hH hw hL hS hl2 hss hc hc2
  have K := h g p l e R s mid args below meth cc Z C hR H locs cells slots ls hH hw hL (ok1 (tl hS) trivial) hl2 hss hc hc2
  rw [List.map_cons, cz_str]
  obtain ⟨-, -, -, -, -, q6, -⟩ := C.2.2.2.2.2.2.2
  exact vk_getf C.1 C.2.1 (q6.1 j hj).2.1 hss C.2.2.2.1 (C.2.2.2.2.1 _ hl) (fun x h => h) hd K
theorem x_strZ {i : Nat} (hd : decode (mB m) pc = .ok (.getstatic i, 3)) (hl : Cond.fieldLink (mY m).cls i "java/lang/String" "COMPACT_STRINGS" "Z" ∈ TG) (h : X m (pc + 3) L (.int 1 :: S) M b Q) : X m pc L S M b Q := by
  intro g p l e R s mid args below meth cc Z C hR H locs cells slots ls hH hw hL hS hl2 hss hc hc2
  have K := h g p l e R s mid args below meth cc Z C hR H locs cells slots ls hH hw hL (ok1 hS trivial) hl2 hss hc hc2
  obtain ⟨-, -, -, -, -, -, q7, -⟩ := C.2.2.2.2.2.2.2
  exact va_gets C.1 C.2.1 q7.1 hss C.2.2.2.1 (C.2.2.2.2.1 _ hl) (fun x h => h) hd K
theorem x_strF {i : Nat} (hd : decode (mB m) pc = .ok (.getstatic i, 3)) (hl : Cond.fieldLink (mY m).cls i "jdk/internal/util/Preconditions" "SIOOBE_FORMATTER" "Ljava/util/function/BiFunction;" ∈ TG) (h : X m (pc + 3) L (.retAddr 0 :: S) M b Q) : X m pc L S M b Q := by
  intro g p l e R s mid args below meth cc Z C hR H locs cells slots ls hH hw hL hS hl2 hss hc hc2
  have K := h g p l e R s mid args below meth cc Z C hR H locs cells slots ls hH hw hL (ok1 hS trivial) hl2 hss hc hc2
  obtain ⟨-, -, -, -, -, -, q7, -⟩ := C.2.2.2.2.2.2.2
  exact va_gets C.1 C.2.1 q7.2 hss C.2.2.2.1 (C.2.2.2.2.1 _ hl) (fun x h => h) hd K
theorem x_strL {j : Nat} {v : Int32} (hj : j < 6) (hd : decode (mB m) pc = .ok (.arraylength, 1)) (hv : Int32.ofNat (slen.getD j 0) = v) (h : X m (pc + 1) L (.int v :: S) M b Q) : X m pc L (.ref (64 * j + 61) :: S) M b Q := by
  subst hv
  intro g p l e R s mid args below meth cc Z C hR H locs cells slots ls hH hw hL hS hl2 hss hc hc2
  have K := h g p l e R s mid args below meth cc Z C hR H locs cells slots ls hH hw hL (ok1 (tl hS) trivial) hl2 hss hc hc2
  rw [List.map_cons, cz_byt]
  obtain ⟨-, -, -, -, -, q6, -⟩ := C.2.2.2.2.2.2.2
  exact va_tlen C.1 C.2.1 (q6.1 j hj).2.2.2 hss rfl hd K
theorem x_strB {j : Nat} {i : Int32} (hj : j < 6) (hd : decode (mB m) pc = .ok (.baload, 1)) (hi : vp_in i (slen.getD j 0)) (h : X m (pc + 1) L (.int ((sbyt.getD j []).getD i.toNatClampNeg 0) :: S) M b Q) : X m pc L (.int i :: .ref (64 * j + 61) :: S) M b Q := by
  intro g p l e R s mid args below meth cc Z C hR H locs cells slots ls hH hw hL hS hl2 hss hc hc2
  have K := h g p l e R s mid args below meth cc Z C hR H locs cells slots ls hH hw hL (ok1 (tl (tl hS)) trivial) hl2 hss hc hc2
  rw [List.map_cons, List.map_cons, cz_byt]
  obtain ⟨-, -, -, -, -, q6, -⟩ := C.2.2.2.2.2.2.2
  exact va_tb C.1 C.2.1 (q6.1 j hj).2.2.2 hss hi rfl hd K
theorem x_i2c {x : Int32} (hd : decode (mB m) pc = .ok (.i2c, 1)) (h : X m (pc + 1) L (.int ((x.toUInt32 % 65536).toInt32) :: S) M b Q) : X m pc L (.int x :: S) M b Q := X_pu h (fun hL hS => ⟨hL, ok1 (tl hS) trivial⟩) (fun C hl k => lv_i2c C.1 C.2.1 hd rfl (k _ hl))
theorem x_invVs {n i j : Nat} {As : List Value} (hj : j < 6) (hd : decode (mB m) pc = .ok (.invokevirtual i, 3)) (hl : Cond.methodLink (mY m).cls i (mY m') ∈ TG) (hv : MV m' n) (hn : As.length = n) (hc0 : "java/lang/String" = (mY m').cls) (hrm : RM m m') (hb : mC m' ≤ b.1 ∧ mS m' ≤ b.2) (hst : St = As.reverse ++ .ref (64 * j + 63) :: S) (hcat : (S.map fun v => v.category).sum ≤ 8)
    (h : CALL m' (.ref (64 * j + 63) :: As) M (aft m m' pc L S b Q)) : X m pc L St M b Q := by
  subst hst
  intro g p l e R s mid args below meth cc Z C hR H locs cells slots ls hH hw hL hS hl2 hss hc hc2
  have hSS : ∀ v ∈ S, okv M v := fun v hv => hS v (List.mem_append_right _ (List.mem_cons_of_mem _ hv))
  have hva : okv M (.ref (64 * j + 63)) := okv_str hj
  have hAs : ∀ v ∈ As, okv M v := fun v hv => hS v (List.mem_append_left _ (List.mem_reverse.mpr hv))
  have hts := C.2.2.2.2.1
  obtain ⟨f1, f2, f3, f4⟩ := C.2.2.2.2.2.1
  obtain ⟨-, -, -, -, -, q6, -⟩ := C.2.2.2.2.2.2.2
  rw [czr, List.map_cons, cz_str]
  have hM := h l g hw (ok1 hAs hva)
  refine W_run (va_runV (As := As.map (cz g)) (rest := S.map (cz g)) (n := n) (C := (mY m').cls) (bytes := mB m') (maxL := mL m') (ret := mT m') (Ts := TG) ⟨C.1, C.2.1, C.2.2.1, C.2.2.2.1, hts⟩ hM ⟨⟨rfl, rfl, Nat.le_trans hrm.1 f1, Nat.le_trans hrm.2 f2, pay_in hts (mw_good hv.1), List.mem_cons_self, hts _ hv.1.1, hts _ hv.1.2.1, ⟨hv.1.2.2.1, hv.1.2.2.2.1⟩, fun sig h => ?_, hts _ hl⟩, hts _ hv.2.1, hts _ hv.2.2⟩ ⟨cP_blind g M _, ?_, fun U hU hW => ⟨?_, by rw [hU]; exact hH, ku_at C.2.2.2.2.2.2.2 hss U hU hW⟩⟩ rfl (by rw [List.length_map]; exact hn) hl2.1 rfl (lv_room (by rw [cat_cz]; exact hcat)) hd ⟨by omega, by omega⟩) hss (aft_k C hR hL hSS hl2 hc hc2 hb)
  · have h2 := hv.1.2.2.2.2
    rw [h] at h2
    exact (Option.some.inj h2).symm
  · rw [← hc0]
    exact vk_recv q6 hj hss
  · show (Value.ref (eK g j) :: As.map (cz g)).toArray = _
    rw [List.map_cons, cz_str]
end STR
theorem nwk (n k : Nat) (h : k < 61) : (64 * n + k) % 64 = k := by omega
theorem tblout {e : Int32} {lo hi : Int} (h : ∀ k : Int, lo ≤ k → k ≤ hi → ¬ e = Int32.ofInt k) : e.toInt < lo ∨ hi < e.toInt := by
  by_cases h1 : e.toInt < lo
  · exact Or.inl h1
  · by_cases h2 : hi < e.toInt
    · exact Or.inr h2
    · exact absurd (Int32.ofInt_toInt e).symm (h e.toInt (by omega) (by omega))
end
section
/-! ===== answers by their types; shorter rows ===== -/
theorem call_mono {m : MI} {as : List Value} {M : Mm} {Q Q' : Option Value → Mm → Prop} (h : CALL m as M Q) (k : ∀ r N, Q r N → Q' r N) : CALL m as M Q' := by
  intro l g hw hok p e h1 h2 h3 s mid args below h4 h5 h6 h7
  obtain ⟨n, o, a1, a2, a3, ⟨r, N, b1, b2, b3, b4⟩, b5⟩ := h l g hw hok p e h1 h2 h3 s mid args below h4 h5 h6 h7
  exact ⟨n, o, a1, a2, a3, ⟨r, N, b1, b2, k r N b3, b4⟩, b5⟩
theorem call_wf {m : MI} {as : List Value} {M : Mm} {Q : Option Value → Mm → Prop} (h : WF M → CALL m as M Q) : CALL m as M Q := fun l g hw => h hw l g hw
def QI (K : Int32 → Mm → Prop) : Option Value → Mm → Prop := fun r N => ∃ v, r = some (.int v) ∧ K v N
def QJ (K : Int64 → Mm → Prop) : Option Value → Mm → Prop := fun r N => ∃ v, r = some (.long v) ∧ K v N
def QV (K : Mm → Prop) : Option Value → Mm → Prop := fun r N => r = none ∧ K N
def CI (m : MI) (as : List Value) (M : Mm) (K : Int32 → Mm → Prop) : Prop := CALL m as M (QI K)
def CJ (m : MI) (as : List Value) (M : Mm) (K : Int64 → Mm → Prop) : Prop := CALL m as M (QJ K)
def CV (m : MI) (as : List Value) (M : Mm) (K : Mm → Prop) : Prop := CALL m as M (QV K)
theorem ci_mono {m : MI} {as : List Value} {M : Mm} {K K' : Int32 → Mm → Prop} (h : CI m as M K) (k : ∀ r N, K r N → K' r N) : CI m as M K' := call_mono h (fun r N ⟨v, h1, h2⟩ => ⟨v, h1, k v N h2⟩)
theorem cj_mono {m : MI} {as : List Value} {M : Mm} {K K' : Int64 → Mm → Prop} (h : CJ m as M K) (k : ∀ r N, K r N → K' r N) : CJ m as M K' := call_mono h (fun r N ⟨v, h1, h2⟩ => ⟨v, h1, k v N h2⟩)
theorem cv_mono {m : MI} {as : List Value} {M : Mm} {K K' : Mm → Prop} (h : CV m as M K) (k : ∀ N, K N → K' N) : CV m as M K' := call_mono h (fun r N ⟨h1, h2⟩ => ⟨h1, k N h2⟩)
theorem wfk {M : Mm} {a j r c : Nat} (hw : WF M) (e : gr M a j = some r) (ha : a % 64 = c) : r % 64 = rK c j := by rw [← ha]; exact (hw.2 a j r e).2
section ROWS5
variable {m m' : MI} {pc : Nat} {L : List (Nat × Value)} {S St : List Value} {M : Mm} {b b' : Nat × Nat} {Q : Option Value → Mm → Prop}
theorem x_mono (h : b'.1 ≤ b.1 ∧ b'.2 ≤ b.2) (k : X m pc L S M b' Q) : X m pc L S M b Q := by
  intro g p l e R s mid args below meth cc Z C hR H locs cells slots ls hH hw hL hS hl2 hss hc hc2
  exact k g p l e R s mid args below meth cc Z C hR H locs cells slots ls hH hw hL hS hl2 hss (by omega) (by omega)
theorem x_newB {i c : Nat} (hd : decode (mB m) pc = .ok (.new i, 3)) (h12 : c < 12) (hl : Cond.classLink (mY m).cls i (kC c) ∈ TG) (hb : b'.1 + 1 ≤ b.1 ∧ b'.2 + kN c ≤ b.2) (h : X m (pc + 3) L (.ref (64 * M.1.1.length + c) :: S) (nw M c) b' Q) : X m pc L S M b Q := x_mono hb (x_new (b1 := b'.1) (b2 := b'.2) hd h12 hl h)
theorem x_newaB {k t n : Nat} {at0 : ArrayType} {v : Int32} (hd : decode (mB m) pc = .ok (.newarray at0, 2)) (hk : AK k t n) (ht : (t = 0 ∧ at0 = .int) ∨ (t = 1 ∧ at0 = .long) ∨ (t = 2 ∧ at0 = .byte) ∨ (t = 3 ∧ at0 = .boolean)) (hv : ¬ v < 0) (hn : v.toNatClampNeg = n) (hsm : n ≤ 100000) (hl : Cond.arrayClass (aT t) ∈ TG) (hb : b'.1 + 1 ≤ b.1 ∧ b'.2 + n ≤ b.2) (h : X m (pc + 2) L (.ref (64 * M.1.1.length + k) :: S) (nw M k) b' Q) : X m pc L (.int v :: S) M b Q := x_mono hb (x_newa (b1 := b'.1) (b2 := b'.2) hd hk ht hv hn hsm hl h)
theorem x_anewB {k t n i : Nat} {v : Int32} {Cn : String} (hd : decode (mB m) pc = .ok (.anewarray i, 3)) (hk : AK k t n) (ht : (t = 4 ∧ Cn = "LearnedCount$Word") ∨ (t = 5 ∧ Cn = "LearnedCount$Sheet")) (hv : ¬ v < 0) (hn : v.toNatClampNeg = n) (hsm : n ≤ 100000) (hl : Cond.classLink (mY m).cls i Cn ∈ TG) (hb : b'.1 + 1 ≤ b.1 ∧ b'.2 + n ≤ b.2) (h : X m (pc + 3) L (.ref (64 * M.1.1.length + k) :: S) (nw M k) b' Q) : X m pc L (.int v :: S) M b Q := x_mono hb (x_anew (b1 := b'.1) (b2 := b'.2) hd hk ht hv hn hsm hl h)
/-- the continuation of a call, by the kind of its answer -/
theorem aftI {K : Int32 → Mm → Prop} (hb : b'.1 + mC m' ≤ b.1 ∧ b'.2 + mS m' ≤ b.2) {as : List Value} (hK : ∀ v N, K v N → X m (pc + 3) L (.int v :: S) N b' Q) (h : CI m' as M K) : CALL m' as M (aft m m' pc L S b Q) := call_mono h (fun r N ⟨v, h1, h2⟩ => by subst h1; exact x_mono (by dsimp only; omega) (hK v N h2))
theorem aftJ {K : Int64 → Mm → Prop} (hb : b'.1 + mC m' ≤ b.1 ∧ b'.2 + mS m' ≤ b.2) {as : List Value} (hK : ∀ v N, K v N → X m (pc + 3) L (.long v :: S) N b' Q) (h : CJ m' as M K) : CALL m' as M (aft m m' pc L S b Q) := call_mono h (fun r N ⟨v, h1, h2⟩ => by subst h1; exact x_mono (by dsimp only; omega) (hK v N h2))
theorem aftV {K : Mm → Prop} (hb : b'.1 + mC m' ≤ b.1 ∧ b'.2 + mS m' ≤ b.2) {as : List Value} (hK : ∀ N, K N → X m (pc + 3) L S N b' Q) (h : CV m' as M K) : CALL m' as M (aft m m' pc L S b Q) := call_mono h (fun r N ⟨h1, h2⟩ => by subst h1; exact x_mono (by dsimp only; omega) (hK N h2))
theorem x_aldIj {a k t n j : Nat} {ins : Instr} {i : Int32} (ht : (t = 0 ∧ ins = .iaload) ∨ (t = 2 ∧ ins = .baload) ∨ (t = 3 ∧ ins = .baload)) (hd : decode (mB m) pc = .ok (ins, 1)) (ha : a % 64 = k) (hk : AK k t n) (hj : i.toNatClampNeg = j) (hi : vp_in i n) (h : X m (pc + 1) L (.int (gi M a j) :: S) M b Q) : X m pc L (.int i :: .ref a :: S) M b Q := by subst hj; exact x_aldI ht hd ha hk hi h
theorem x_aldLj {a k n j : Nat} {i : Int32} (hd : decode (mB m) pc = .ok (.laload, 1)) (ha : a % 64 = k) (hk : AK k 1 n) (hj : i.toNatClampNeg = j) (hi : vp_in i n) (h : X m (pc + 1) L (.long (gl M a j) :: S) M b Q) : X m pc L (.int i :: .ref a :: S) M b Q := by subst hj; exact x_aldL hd ha hk hi h
theorem x_astIj {a k t n j : Nat} {ins : Instr} {i x v : Int32} (ht : (t = 0 ∧ ins = .iastore ∧ v = x) ∨ (t = 2 ∧ ins = .bastore ∧ v = vp_nar .byte x) ∨ (t = 3 ∧ ins = .bastore ∧ v = vp_nar .boolean x)) (hd : decode (mB m) pc = .ok (ins, 1)) (ha : a % 64 = k) (hk : AK k t n) (hj : i.toNatClampNeg = j) (hi : vp_in i n) (h : X m (pc + 1) L S (si M a j v) b Q) : X m pc L (.int x :: .int i :: .ref a :: S) M b Q := by subst hj; exact x_astI ht hd ha hk hi h
theorem x_astLj {a k n j : Nat} {i : Int32} {x : Int64} (hd : decode (mB m) pc = .ok (.lastore, 1)) (ha : a % 64 = k) (hk : AK k 1 n) (hj : i.toNatClampNeg = j) (hi : vp_in i n) (h : X m (pc + 1) L S (sl M a j x) b Q) : X m pc L (.long x :: .int i :: .ref a :: S) M b Q := by subst hj; exact x_astL hd ha hk hi h
theorem lgc (x y : Int64) : (lg_cmp x y = 0 ↔ x = y) ∧ (lg_cmp x y < 0 ↔ x < y) ∧ (0 < lg_cmp x y ↔ y < x) := by
  unfold lg_cmp
  by_cases h1 : y < x
  · rw [if_pos h1]
    refine ⟨⟨fun h => absurd h (by decide), fun h => ?_⟩, ⟨fun h => absurd h (by decide), fun h => ?_⟩, ⟨fun _ => h1, fun _ => by decide⟩⟩
    · subst h; exact (Int64.lt_irrefl h1).elim
    · exact (Int64.lt_irrefl (Int64.lt_trans h h1)).elim
  · rw [if_neg h1]
    by_cases h2 : x = y
    · rw [if_pos h2]
      refine ⟨⟨fun _ => h2, fun _ => rfl⟩, ⟨fun h => absurd h (by decide), fun h => ?_⟩, ⟨fun h => absurd h (by decide), fun h => absurd h h1⟩⟩
      subst h2; exact (Int64.lt_irrefl h).elim
    · rw [if_neg h2]
      refine ⟨⟨fun h => absurd h (by decide), fun h => absurd h h2⟩, ⟨fun _ => ?_, fun _ => by decide⟩, ⟨fun h => absurd h (by decide), fun h => absurd h h1⟩⟩
      rcases Int64.lt_or_eq_of_le (Int64.not_lt.mp h1) with h | h
      · exact h
      · exact absurd h h2
theorem i32_ge0 {x : Int32} : (0 ≤ x) ↔ ¬ x < 0 := ⟨fun h q => absurd h (Int32.not_le.mpr q), fun h => Int32.not_lt.mp h⟩
theorem i32_le0 {x : Int32} : (x ≤ 0) ↔ ¬ 0 < x := ⟨fun h q => absurd h (Int32.not_le.mpr q), fun h => Int32.not_lt.mp h⟩
theorem x_lc_eq {x y : Int64} {off : Int} {t : Nat} (hd : decode (mB m) pc = .ok (.lcmp, 1)) (hd2 : decode (mB m) (pc + 1) = .ok (.ifCond .eq off, 3)) (ht : ((pc + 1 : Nat) : Int) + off = (t : Int)) (h1 : x = y → X m t L S M b Q) (h2 : ¬ x = y → X m (pc + 1 + 3) L S M b Q) : X m pc L (.long y :: .long x :: S) M b Q := x_lcmp hd (x_if_eq hd2 ht (fun h => h1 ((lgc x y).1.mp h)) (fun h => h2 (fun q => h ((lgc x y).1.mpr q))))
theorem x_lc_ne {x y : Int64} {off : Int} {t : Nat} (hd : decode (mB m) pc = .ok (.lcmp, 1)) (hd2 : decode (mB m) (pc + 1) = .ok (.ifCond .ne off, 3)) (ht : ((pc + 1 : Nat) : Int) + off = (t : Int)) (h1 : ¬ x = y → X m t L S M b Q) (h2 : x = y → X m (pc + 1 + 3) L S M b Q) : X m pc L (.long y :: .long x :: S) M b Q := x_lcmp hd (x_if_ne hd2 ht (fun h => h1 (fun q => h ((lgc x y).1.mpr q))) (fun h => h2 ((lgc x y).1.mp h)))
theorem x_lc_lt {x y : Int64} {off : Int} {t : Nat} (hd : decode (mB m) pc = .ok (.lcmp, 1)) (hd2 : decode (mB m) (pc + 1) = .ok (.ifCond .lt off, 3)) (ht : ((pc + 1 : Nat) : Int) + off = (t : Int)) (h1 : x < y → X m t L S M b Q) (h2 : ¬ x < y → X m (pc + 1 + 3) L S M b Q) : X m pc L (.long y :: .long x :: S) M b Q := x_lcmp hd (x_if_lt hd2 ht (fun h => h1 ((lgc x y).2.1.mp h)) (fun h => h2 (fun q => h ((lgc x y).2.1.mpr q))))
theorem x_lc_ge {x y : Int64} {off : Int} {t : Nat} (hd : decode (mB m) pc = .ok (.lcmp, 1)) (hd2 : decode (mB m) (pc + 1) = .ok (.ifCond .ge off, 3)) (ht : ((pc + 1 : Nat) : Int) + off = (t : Int)) (h1 : ¬ x < y → X m t L S M b Q) (h2 : x < y → X m (pc + 1 + 3) L S M b Q) : X m pc L (.long y :: .long x :: S) M b Q := x_lcmp hd (x_if_ge hd2 ht (fun h => h1 (fun q => (i32_ge0.mp h) ((lgc x y).2.1.mpr q))) (fun h => h2 ((lgc x y).2.1.mp (Int32.not_le.mp h))))
theorem x_lc_gt {x y : Int64} {off : Int} {t : Nat} (hd : decode (mB m) pc = .ok (.lcmp, 1)) (hd2 : decode (mB m) (pc + 1) = .ok (.ifCond .gt off, 3)) (ht : ((pc + 1 : Nat) : Int) + off = (t : Int)) (h1 : y < x → X m t L S M b Q) (h2 : ¬ y < x → X m (pc + 1 + 3) L S M b Q) : X m pc L (.long y :: .long x :: S) M b Q := x_lcmp hd (x_if_gt hd2 ht (fun h => h1 ((lgc x y).2.2.mp h)) (fun h => h2 (fun q => h ((lgc x y).2.2.mpr q))))
theorem x_lc_le {x y : Int64} {off : Int} {t : Nat} (hd : decode (mB m) pc = .ok (.lcmp, 1)) (hd2 : decode (mB m) (pc + 1) = .ok (.ifCond .le off, 3)) (ht : ((pc + 1 : Nat) : Int) + off = (t : Int)) (h1 : ¬ y < x → X m t L S M b Q) (h2 : y < x → X m (pc + 1 + 3) L S M b Q) : X m pc L (.long y :: .long x :: S) M b Q := x_lcmp hd (x_if_le hd2 ht (fun h => h1 (fun q => (i32_le0.mp h) ((lgc x y).2.2.mpr q))) (fun h => h2 ((lgc x y).2.2.mp (Int32.not_le.mp h))))
theorem x_retQI {K : Int32 → Mm → Prop} {v : Int32} {ty : FieldType} (hd : decode (mB m) pc = .ok (.ireturn, 1)) (ht : mT m = some ty) (hn : narrow ty (.int v) = .int v) (h : K v M) : X m pc L [.int v] M b (QI K) := x_retI hd ht hn ⟨v, rfl, h⟩
theorem x_retQJ {K : Int64 → Mm → Prop} {v : Int64} (hd : decode (mB m) pc = .ok (.lreturn, 1)) (ht : mT m = some .long) (h : K v M) : X m pc L [.long v] M b (QJ K) := x_retL hd ht ⟨v, rfl, h⟩
theorem x_retQV {K : Mm → Prop} (hd : decode (mB m) pc = .ok (.return_, 1)) (ht : mT m = none) (h : K M) : X m pc L [] M b (QV K) := x_ret0 hd ht ⟨rfl, h⟩
end ROWS5
end
section
def mC_init : MI := (⟨"LearnedCount", "<init>", "()V"⟩, prog_1_method_1_code, 2, none, 6, 134, 93, 2931)
def mTa_init : MI := (⟨"LearnedCount$Tape", "<init>", "()V"⟩, prog_8_method_1_code, 1, none, 1, 24, 1, 400)
def mTo_init : MI := (⟨"LearnedCount$Tokens", "<init>", "(LLearnedCount$Tape;)V"⟩, prog_9_method_1_code, 2, none, 1, 24, 0, 0)
def mLr_init : MI := (⟨"LearnedCount$LibraryReader", "<init>", "(LLearnedCount$Tokens;)V"⟩, prog_4_method_1_code, 2, none, 1, 24, 0, 0)
def mRr_init : MI := (⟨"LearnedCount$RuleReader", "<init>", "(LLearnedCount$Tokens;)V"⟩, prog_6_method_1_code, 2, none, 1, 24, 0, 0)
def mLi_init : MI := (⟨"LearnedCount$Library", "<init>", "()V"⟩, prog_3_method_1_code, 2, none, 5, 113, 35, 623)
def mWo_init : MI := (⟨"LearnedCount$Word", "<init>", "()V"⟩, prog_11_method_1_code, 1, none, 1, 24, 0, 0)
def mLi_clear : MI := (⟨"LearnedCount$Library", "clear", "()V"⟩, prog_3_method_2_code, 1, none, 1, 23, 0, 0)
def mJr_fill : MI := (⟨"java/util/Arrays", "fill", "([II)V"⟩, prog_20_method_103_code, 4, none, 0, 0, 0, 0)
def mLi_settle : MI := (⟨"LearnedCount$Library", "settle", "()V"⟩, prog_3_method_3_code, 1, none, 4, 93, 0, 0)
def mLi_sortWords : MI := (⟨"LearnedCount$Library", "sortWords", "()V"⟩, prog_3_method_4_code, 3, none, 1, 23, 0, 0)
def mLi_findFollowed : MI := (⟨"LearnedCount$Library", "findFollowed", "()V"⟩, prog_3_method_5_code, 3, none, 0, 0, 0, 0)
def mLi_findRings : MI := (⟨"LearnedCount$Library", "findRings", "()V"⟩, prog_3_method_6_code, 3, none, 1, 21, 0, 0)
def mC_holds : MI := (⟨"LearnedCount", "holds", "(II)Z"⟩, prog_1_method_53_code, 2, (some .boolean), 0, 0, 0, 0)
def mLi_speakInOrder : MI := (⟨"LearnedCount$Library", "speakInOrder", "()V"⟩, prog_3_method_7_code, 4, none, 3, 70, 0, 0)
def mLi_speak : MI := (⟨"LearnedCount$Library", "speak", "(I)V"⟩, prog_3_method_8_code, 6, none, 2, 45, 0, 0)
def mC_agreed : MI := (⟨"LearnedCount", "agreed", "(II)I"⟩, prog_1_method_52_code, 2, (some .int), 0, 0, 0, 0)
def mLi_followedSaying : MI := (⟨"LearnedCount$Library", "followedSaying", "(LLearnedCount$Word;I)I"⟩, prog_3_method_9_code, 4, (some .int), 1, 22, 0, 0)
def mLi_saying : MI := (⟨"LearnedCount$Library", "saying", "(II)I"⟩, prog_3_method_16_code, 3, (some .int), 0, 0, 0, 0)
def mLi_ownSaying : MI := (⟨"LearnedCount$Library", "ownSaying", "(LLearnedCount$Word;II)I"⟩, prog_3_method_10_code, 3, (some .int), 0, 0, 0, 0)
def mLi_weighAll : MI := (⟨"LearnedCount$Library", "weighAll", "()V"⟩, prog_3_method_11_code, 3, none, 2, 44, 0, 0)
def mLi_weightOf : MI := (⟨"LearnedCount$Library", "weightOf", "(I)I"⟩, prog_3_method_12_code, 4, (some .int), 1, 21, 0, 0)
def mJi_bitCount : MI := (⟨"java/lang/Integer", "bitCount", "(I)I"⟩, prog_14_method_49_code, 1, (some .int), 0, 0, 0, 0)
def mLi_askLaws : MI := (⟨"LearnedCount$Library", "askLaws", "()V"⟩, prog_3_method_13_code, 2, none, 2, 48, 0, 0)
def mLi_lawSaying : MI := (⟨"LearnedCount$Library", "lawSaying", "(IZ)I"⟩, prog_3_method_14_code, 8, (some .int), 1, 21, 0, 0)
def mLi_speaking : MI := (⟨"LearnedCount$Library", "speaking", "(I)I"⟩, prog_3_method_15_code, 2, (some .int), 0, 0, 0, 0)
def mRu_init : MI := (⟨"LearnedCount$Rule", "<init>", "()V"⟩, prog_5_method_1_code, 1, none, 1, 24, 0, 0)
def mRu_clear : MI := (⟨"LearnedCount$Rule", "clear", "()V"⟩, prog_5_method_2_code, 1, none, 0, 0, 0, 0)
def mWe_init : MI := (⟨"LearnedCount$Weighing", "<init>", "(LLearnedCount$Library;LLearnedCount$Rule;)V"⟩, prog_10_method_1_code, 3, none, 1, 24, 1, 8)
def mFi_init : MI := (⟨"LearnedCount$Finding", "<init>", "(LLearnedCount$Weighing;)V"⟩, prog_2_method_1_code, 2, none, 1, 24, 1, 1024)
def mSh_init : MI := (⟨"LearnedCount$Sheet", "<init>", "()V"⟩, prog_7_method_1_code, 1, none, 1, 24, 1, 40)
def mC_feed : MI := (⟨"LearnedCount", "feed", "(J)I"⟩, prog_1_method_2_code, 3, (some .int), 1, 23, 0, 0)
def mTa_append : MI := (⟨"LearnedCount$Tape", "append", "(J)Z"⟩, prog_8_method_2_code, 4, (some .boolean), 0, 0, 0, 0)
def mC_end : MI := (⟨"LearnedCount", "end", "(I)I"⟩, prog_1_method_3_code, 3, (some .int), 0, 0, 0, 0)
def mC_library : MI := (⟨"LearnedCount", "library", "()I"⟩, prog_1_method_4_code, 3, (some .int), 10, 222, 0, 0)
def mLr_readInto : MI := (⟨"LearnedCount$LibraryReader", "readInto", "(LLearnedCount$Library;)I"⟩, prog_4_method_2_code, 5, (some .int), 9, 198, 0, 0)
def mTo_begin : MI := (⟨"LearnedCount$Tokens", "begin", "()V"⟩, prog_9_method_2_code, 1, none, 0, 0, 0, 0)
def mTo_advance : MI := (⟨"LearnedCount$Tokens", "advance", "()V"⟩, prog_9_method_5_code, 2, none, 1, 24, 0, 0)
def mTa_behindAll : MI := (⟨"LearnedCount$Tape", "behindAll", "(III)I"⟩, prog_8_method_4_code, 5, (some .int), 0, 0, 0, 0)
def mTa_byteAt : MI := (⟨"LearnedCount$Tape", "byteAt", "(I)I"⟩, prog_8_method_3_code, 2, (some .int), 0, 0, 0, 0)
def mJm_min : MI := (⟨"java/lang/Math", "min", "(II)I"⟩, prog_16_method_69_code, 2, (some .int), 0, 0, 0, 0)
def mTa_figures : MI := (⟨"LearnedCount$Tape", "figures", "(II)I"⟩, prog_8_method_5_code, 5, (some .int), 0, 0, 0, 0)
def mTo_fail : MI := (⟨"LearnedCount$Tokens", "fail", "(I)I"⟩, prog_9_method_3_code, 2, (some .int), 0, 0, 0, 0)
def mTo_among : MI := (⟨"LearnedCount$Tokens", "among", "(Ljava/lang/String;)I"⟩, prog_9_method_6_code, 5, (some .int), 5, 109, 0, 0)
def mJs_length : MI := (⟨"java/lang/String", "length", "()I"⟩, prog_17_method_54_code, 1, (some .int), 1, 20, 0, 0)
def mJs_coder : MI := (⟨"java/lang/String", "coder", "()B"⟩, prog_17_method_152_code, 1, (some .byte), 0, 0, 0, 0)
def mJs_charAt : MI := (⟨"java/lang/String", "charAt", "(I)C"⟩, prog_17_method_56_code, 2, (some .char), 3, 64, 0, 0)
def mJs_isLatin1 : MI := (⟨"java/lang/String", "isLatin1", "()Z"⟩, prog_17_method_154_code, 1, (some .boolean), 0, 0, 0, 0)
def mJa_charAt : MI := (⟨"java/lang/StringLatin1", "charAt", "([BI)C"⟩, prog_18_method_2_code, 2, (some .char), 2, 43, 0, 0)
def mJs_checkIndex : MI := (⟨"java/lang/String", "checkIndex", "(II)V"⟩, prog_17_method_155_code, 2, none, 1, 22, 0, 0)
def mJp_checkIndex : MI := (⟨"jdk/internal/util/Preconditions", "checkIndex", "(IILjava/util/function/BiFunction;)I"⟩, prog_21_method_11_code, 3, (some .int), 0, 0, 0, 0)
def mTo_isNamed : MI := (⟨"LearnedCount$Tokens", "isNamed", "(Ljava/lang/String;II)Z"⟩, prog_9_method_7_code, 5, (some .boolean), 4, 85, 0, 0)
def mLr_tellWord : MI := (⟨"LearnedCount$LibraryReader", "tellWord", "(LLearnedCount$Library;I)V"⟩, prog_4_method_4_code, 4, none, 8, 175, 0, 0)
def mWo_begin : MI := (⟨"LearnedCount$Word", "begin", "(II)V"⟩, prog_11_method_2_code, 3, none, 0, 0, 0, 0)
def mTo_takeNumber : MI := (⟨"LearnedCount$Tokens", "takeNumber", "(I)I"⟩, prog_9_method_9_code, 2, (some .int), 2, 45, 0, 0)
def mTo_takeDoctor : MI := (⟨"LearnedCount$Tokens", "takeDoctor", "()I"⟩, prog_9_method_11_code, 2, (some .int), 3, 67, 0, 0)
def mTo_takeDoctors : MI := (⟨"LearnedCount$Tokens", "takeDoctors", "()I"⟩, prog_9_method_10_code, 2, (some .int), 2, 46, 0, 0)
def mTo_letters : MI := (⟨"LearnedCount$Tokens", "letters", "(II)I"⟩, prog_9_method_8_code, 6, (some .int), 1, 21, 0, 0)
def mJi_numberOfTrailingZeros : MI := (⟨"java/lang/Integer", "numberOfTrailingZeros", "(I)I"⟩, prog_14_method_48_code, 2, (some .int), 0, 0, 0, 0)
def mLr_tellSaying : MI := (⟨"LearnedCount$LibraryReader", "tellSaying", "(LLearnedCount$Word;)V"⟩, prog_4_method_5_code, 2, none, 7, 154, 0, 0)
def mTo_takeMarks : MI := (⟨"LearnedCount$Tokens", "takeMarks", "()I"⟩, prog_9_method_12_code, 2, (some .int), 2, 46, 0, 0)
def mTo_takeAnswer : MI := (⟨"LearnedCount$Tokens", "takeAnswer", "()I"⟩, prog_9_method_13_code, 2, (some .int), 6, 133, 0, 0)
def mLr_tellCopies : MI := (⟨"LearnedCount$LibraryReader", "tellCopies", "(LLearnedCount$Library;I)I"⟩, prog_4_method_3_code, 4, (some .int), 3, 66, 0, 0)
def mTo_closeLine : MI := (⟨"LearnedCount$Tokens", "closeLine", "()V"⟩, prog_9_method_15_code, 1, none, 2, 45, 0, 0)
def mLr_findWrongFollowers : MI := (⟨"LearnedCount$LibraryReader", "findWrongFollowers", "(LLearnedCount$Library;)V"⟩, prog_4_method_6_code, 3, none, 2, 43, 0, 0)
def mLi_mayFollow : MI := (⟨"LearnedCount$Library", "mayFollow", "(I)Z"⟩, prog_3_method_20_code, 3, (some .boolean), 0, 0, 0, 0)
def mTo_failAt : MI := (⟨"LearnedCount$Tokens", "failAt", "(II)I"⟩, prog_9_method_4_code, 3, (some .int), 1, 21, 0, 0)
def mC_afterText : MI := (⟨"LearnedCount", "afterText", "(I)I"⟩, prog_1_method_6_code, 2, (some .int), 0, 0, 0, 0)
def mC_rule : MI := (⟨"LearnedCount", "rule", "()I"⟩, prog_1_method_5_code, 3, (some .int), 9, 201, 0, 0)
def mRr_readInto : MI := (⟨"LearnedCount$RuleReader", "readInto", "(LLearnedCount$Rule;)I"⟩, prog_6_method_2_code, 5, (some .int), 8, 177, 0, 0)
def mRr_tell : MI := (⟨"LearnedCount$RuleReader", "tell", "(LLearnedCount$Rule;I)V"⟩, prog_6_method_3_code, 3, none, 7, 155, 0, 0)
def mTo_takeOneOf : MI := (⟨"LearnedCount$Tokens", "takeOneOf", "(Ljava/lang/String;)I"⟩, prog_9_method_14_code, 3, (some .int), 6, 133, 0, 0)
def mC_fault : MI := (⟨"LearnedCount", "fault", "()I"⟩, prog_1_method_7_code, 1, (some .int), 0, 0, 0, 0)
def mC_weighs : MI := (⟨"LearnedCount", "weighs", "(I)I"⟩, prog_1_method_8_code, 2, (some .int), 0, 0, 0, 0)
def mC_word : MI := (⟨"LearnedCount", "word", "(II)I"⟩, prog_1_method_9_code, 4, (some .int), 1, 21, 0, 0)
def mC_isWord : MI := (⟨"LearnedCount", "isWord", "(I)Z"⟩, prog_1_method_41_code, 2, (some .boolean), 0, 0, 0, 0)
def mC_says : MI := (⟨"LearnedCount", "says", "(II)I"⟩, prog_1_method_10_code, 3, (some .int), 1, 22, 0, 0)
def mC_isCase : MI := (⟨"LearnedCount", "isCase", "(I)Z"⟩, prog_1_method_42_code, 1, (some .boolean), 0, 0, 0, 0)
def mC_words : MI := (⟨"LearnedCount", "words", "(I)I"⟩, prog_1_method_11_code, 2, (some .int), 3, 68, 0, 0)
def mLi_counting : MI := (⟨"LearnedCount$Library", "counting", "(LLearnedCount$Rule;I)I"⟩, prog_3_method_17_code, 5, (some .int), 2, 44, 0, 0)
def mLi_mainWords : MI := (⟨"LearnedCount$Library", "mainWords", "(LLearnedCount$Rule;)I"⟩, prog_3_method_18_code, 4, (some .int), 1, 21, 0, 0)
def mRu_isMain : MI := (⟨"LearnedCount$Rule", "isMain", "(I)Z"⟩, prog_5_method_4_code, 2, (some .boolean), 0, 0, 0, 0)
def mC_meets : MI := (⟨"LearnedCount", "meets", "(II)I"⟩, prog_1_method_12_code, 3, (some .int), 3, 68, 0, 0)
def mC_steps : MI := (⟨"LearnedCount", "steps", "(I)I"⟩, prog_1_method_13_code, 2, (some .int), 1, 21, 0, 0)
def mC_each : MI := (⟨"LearnedCount", "each", "(II)I"⟩, prog_1_method_14_code, 3, (some .int), 5, 111, 0, 0)
def mC_isDoctor : MI := (⟨"LearnedCount", "isDoctor", "(I)Z"⟩, prog_1_method_43_code, 1, (some .boolean), 0, 0, 0, 0)
def mC_weighNow : MI := (⟨"LearnedCount", "weighNow", "()V"⟩, prog_1_method_50_code, 1, none, 4, 91, 0, 0)
def mWe_begin : MI := (⟨"LearnedCount$Weighing", "begin", "(LLearnedCount$Library;LLearnedCount$Rule;I)V"⟩, prog_10_method_2_code, 4, none, 3, 68, 0, 0)
def mWe_opinion : MI := (⟨"LearnedCount$Weighing", "opinion", "(II)I"⟩, prog_10_method_9_code, 4, (some .int), 2, 48, 0, 0)
def mWe_settled : MI := (⟨"LearnedCount$Weighing", "settled", "(III)I"⟩, prog_10_method_11_code, 5, (some .int), 1, 24, 0, 0)
def mWe_heaviest : MI := (⟨"LearnedCount$Weighing", "heaviest", "(II)I"⟩, prog_10_method_12_code, 5, (some .int), 0, 0, 0, 0)
def mC_clash : MI := (⟨"LearnedCount", "clash", "(II)I"⟩, prog_1_method_15_code, 6, (some .int), 5, 111, 0, 0)
def mC_isEither : MI := (⟨"LearnedCount", "isEither", "(I)Z"⟩, prog_1_method_46_code, 1, (some .boolean), 0, 0, 0, 0)
def mWe_clashes : MI := (⟨"LearnedCount$Weighing", "clashes", "(II)Z"⟩, prog_10_method_10_code, 4, (some .boolean), 0, 0, 0, 0)
def mC_manyOrLeast : MI := (⟨"LearnedCount", "manyOrLeast", "(JI)I"⟩, prog_1_method_49_code, 3, (some .int), 3, 64, 0, 0)
def mJl_bitCount : MI := (⟨"java/lang/Long", "bitCount", "(J)I"⟩, prog_15_method_50_code, 2, (some .int), 0, 0, 0, 0)
def mC_least : MI := (⟨"LearnedCount", "least", "(J)I"⟩, prog_1_method_48_code, 2, (some .int), 2, 43, 0, 0)
def mJl_numberOfTrailingZeros : MI := (⟨"java/lang/Long", "numberOfTrailingZeros", "(J)I"⟩, prog_15_method_49_code, 3, (some .int), 1, 21, 0, 0)
def mC_sides : MI := (⟨"LearnedCount", "sides", "(III)I"⟩, prog_1_method_16_code, 11, (some .int), 5, 111, 0, 0)
def mC_hangs : MI := (⟨"LearnedCount", "hangs", "(II)I"⟩, prog_1_method_17_code, 6, (some .int), 5, 111, 0, 0)
def mWe_weigh : MI := (⟨"LearnedCount$Weighing", "weigh", "(I)V"⟩, prog_10_method_3_code, 4, none, 3, 71, 0, 0)
def mWe_lawIn : MI := (⟨"LearnedCount$Weighing", "lawIn", "(I)I"⟩, prog_10_method_5_code, 2, (some .int), 0, 0, 0, 0)
def mWe_headSaying : MI := (⟨"LearnedCount$Weighing", "headSaying", "()I"⟩, prog_10_method_6_code, 1, (some .int), 0, 0, 0, 0)
def mWe_decider : MI := (⟨"LearnedCount$Weighing", "decider", "(III)I"⟩, prog_10_method_7_code, 4, (some .int), 0, 0, 0, 0)
def mWe_answerBy : MI := (⟨"LearnedCount$Weighing", "answerBy", "(IIII)I"⟩, prog_10_method_8_code, 5, (some .int), 0, 0, 0, 0)
def mWe_heldIf : MI := (⟨"LearnedCount$Weighing", "heldIf", "(II)I"⟩, prog_10_method_13_code, 6, (some .int), 1, 24, 0, 0)
def mC_held : MI := (⟨"LearnedCount", "held", "(II)I"⟩, prog_1_method_18_code, 3, (some .int), 5, 111, 0, 0)
def mC_cases : MI := (⟨"LearnedCount", "cases", "(I)J"⟩, prog_1_method_19_code, 2, (some .long), 6, 140, 0, 0)
def mC_isKindOfCases : MI := (⟨"LearnedCount", "isKindOfCases", "(I)Z"⟩, prog_1_method_47_code, 1, (some .boolean), 0, 0, 0, 0)
def mC_casesNow : MI := (⟨"LearnedCount", "casesNow", "(I)J"⟩, prog_1_method_51_code, 2, (some .long), 5, 119, 0, 0)
def mWe_casesOf : MI := (⟨"LearnedCount$Weighing", "casesOf", "(I)J"⟩, prog_10_method_15_code, 6, (some .long), 4, 94, 0, 0)
def mC_many : MI := (⟨"LearnedCount", "many", "(I)I"⟩, prog_1_method_20_code, 2, (some .int), 6, 140, 0, 0)
def mC_reckon : MI := (⟨"LearnedCount", "reckon", "(IIIII)I"⟩, prog_1_method_21_code, 6, (some .int), 5, 111, 0, 0)
def mC_widest : MI := (⟨"LearnedCount", "widest", "(I)I"⟩, prog_1_method_22_code, 8, (some .int), 5, 111, 0, 0)
def mC_near : MI := (⟨"LearnedCount", "near", "(III)I"⟩, prog_1_method_23_code, 8, (some .int), 5, 115, 0, 0)
def mWe_heldIn : MI := (⟨"LearnedCount$Weighing", "heldIn", "(I)I"⟩, prog_10_method_4_code, 2, (some .int), 4, 94, 0, 0)
def mC_bring : MI := (⟨"LearnedCount", "bring", "(I)I"⟩, prog_1_method_24_code, 3, (some .int), 0, 0, 0, 0)
def mC_copies : MI := (⟨"LearnedCount", "copies", "(II)I"⟩, prog_1_method_25_code, 4, (some .int), 0, 0, 0, 0)
def mC_argue : MI := (⟨"LearnedCount", "argue", "(III)I"⟩, prog_1_method_26_code, 5, (some .int), 6, 141, 0, 0)
def mC_fewestBooks : MI := (⟨"LearnedCount", "fewestBooks", "(II)I"⟩, prog_1_method_27_code, 7, (some .int), 5, 115, 0, 0)
def mLi_tellingBooks : MI := (⟨"LearnedCount$Library", "tellingBooks", "(LLearnedCount$Rule;)I"⟩, prog_3_method_19_code, 5, (some .int), 2, 44, 0, 0)
def mC_game : MI := (⟨"LearnedCount", "game", "(III)I"⟩, prog_1_method_28_code, 4, (some .int), 5, 115, 0, 0)
def mC_turn : MI := (⟨"LearnedCount", "turn", "(I)I"⟩, prog_1_method_29_code, 3, (some .int), 6, 144, 0, 0)
def mFi_best : MI := (⟨"LearnedCount$Finding", "best", "()I"⟩, prog_2_method_5_code, 3, (some .int), 5, 122, 0, 0)
def mFi_tallyDoctors : MI := (⟨"LearnedCount$Finding", "tallyDoctors", "()V"⟩, prog_2_method_6_code, 2, none, 4, 101, 0, 0)
def mFi_tally : MI := (⟨"LearnedCount$Finding", "tally", "(II)V"⟩, prog_2_method_7_code, 6, none, 3, 76, 0, 0)
def mWe_turnsBy : MI := (⟨"LearnedCount$Weighing", "turnsBy", "(III)Z"⟩, prog_10_method_14_code, 8, (some .boolean), 2, 49, 0, 0)
def mFi_doctorAt : MI := (⟨"LearnedCount$Finding", "doctorAt", "(I)I"⟩, prog_2_method_2_code, 1, (some .int), 0, 0, 0, 0)
def mFi_answerAt : MI := (⟨"LearnedCount$Finding", "answerAt", "(I)I"⟩, prog_2_method_3_code, 1, (some .int), 0, 0, 0, 0)
def mFi_marksAt : MI := (⟨"LearnedCount$Finding", "marksAt", "(I)I"⟩, prog_2_method_4_code, 1, (some .int), 0, 0, 0, 0)
def mC_turns : MI := (⟨"LearnedCount", "turns", "(III)I"⟩, prog_1_method_30_code, 6, (some .int), 5, 111, 0, 0)
def mC_keep : MI := (⟨"LearnedCount", "keep", "()I"⟩, prog_1_method_31_code, 1, (some .int), 1, 21, 0, 0)
def mRu_becomeAs : MI := (⟨"LearnedCount$Rule", "becomeAs", "(LLearnedCount$Rule;)V"⟩, prog_5_method_3_code, 2, none, 0, 0, 0, 0)
def mC_swap : MI := (⟨"LearnedCount", "swap", "()I"⟩, prog_1_method_32_code, 2, (some .int), 0, 0, 0, 0)
def mC_differ : MI := (⟨"LearnedCount", "differ", "(I)I"⟩, prog_1_method_33_code, 8, (some .int), 5, 119, 0, 0)
def mC_brief : MI := (⟨"LearnedCount", "brief", "(I)I"⟩, prog_1_method_34_code, 8, (some .int), 6, 140, 0, 0)
def mC_tellsApart : MI := (⟨"LearnedCount", "tellsApart", "(IJJ)Z"⟩, prog_1_method_35_code, 12, (some .boolean), 0, 0, 0, 0)
def mC_sheet : MI := (⟨"LearnedCount", "sheet", "(III)I"⟩, prog_1_method_36_code, 4, (some .int), 2, 45, 0, 0)
def mC_isSheet : MI := (⟨"LearnedCount", "isSheet", "(I)Z"⟩, prog_1_method_44_code, 1, (some .boolean), 0, 0, 0, 0)
def mC_isLane : MI := (⟨"LearnedCount", "isLane", "(I)Z"⟩, prog_1_method_45_code, 1, (some .boolean), 0, 0, 0, 0)
def mSh_renew : MI := (⟨"LearnedCount$Sheet", "renew", "(II)V"⟩, prog_7_method_4_code, 3, none, 1, 23, 0, 0)
def mC_lay : MI := (⟨"LearnedCount", "lay", "(III)I"⟩, prog_1_method_37_code, 5, (some .int), 1, 22, 0, 0)
def mSh_isNothing : MI := (⟨"LearnedCount$Sheet", "isNothing", "()Z"⟩, prog_7_method_2_code, 1, (some .boolean), 0, 0, 0, 0)
def mSh_hasCell : MI := (⟨"LearnedCount$Sheet", "hasCell", "(I)Z"⟩, prog_7_method_3_code, 2, (some .boolean), 0, 0, 0, 0)
def mSh_put : MI := (⟨"LearnedCount$Sheet", "put", "(II)V"⟩, prog_7_method_5_code, 3, none, 0, 0, 0, 0)
def mC_read : MI := (⟨"LearnedCount", "read", "(IIIII)I"⟩, prog_1_method_38_code, 7, (some .int), 6, 142, 0, 0)
def mC_readCells : MI := (⟨"LearnedCount", "readCells", "(LLearnedCount$Sheet;III)I"⟩, prog_1_method_39_code, 8, (some .int), 5, 115, 0, 0)
def mC_count : MI := (⟨"LearnedCount", "count", "(I)I"⟩, prog_1_method_40_code, 2, (some .int), 1, 20, 0, 0)
def mM_init : MI := (⟨"LearnedCountModel", "<init>", "()V"⟩, prog_13_method_1_code, 2, none, 5, 116, 27, 1884)
def mM_firstLibrary : MI := (⟨"LearnedCountModel", "firstLibrary", "()V"⟩, prog_13_method_8_code, 2, none, 0, 0, 0, 0)
def mM_keepLibrary : MI := (⟨"LearnedCountModel", "keepLibrary", "()V"⟩, prog_13_method_9_code, 2, none, 4, 95, 0, 0)
def mM_findFollowing : MI := (⟨"LearnedCountModel", "findFollowing", "()V"⟩, prog_13_method_43_code, 3, none, 2, 45, 0, 0)
def mM_followed : MI := (⟨"LearnedCountModel", "followed", "(I)I"⟩, prog_13_method_42_code, 4, (some .int), 1, 22, 0, 0)
def mM_of : MI := (⟨"LearnedCountModel", "of", "(II)I"⟩, prog_13_method_7_code, 3, (some .int), 0, 0, 0, 0)
def mM_findSaid : MI := (⟨"LearnedCountModel", "findSaid", "()V"⟩, prog_13_method_46_code, 5, none, 3, 71, 0, 0)
def mM_isUnsound : MI := (⟨"LearnedCountModel", "isUnsound", "(I)Z"⟩, prog_13_method_41_code, 2, (some .boolean), 0, 0, 0, 0)
def mM_sayWord : MI := (⟨"LearnedCountModel", "sayWord", "(I)V"⟩, prog_13_method_45_code, 7, none, 2, 45, 0, 0)
def mM_casesWith : MI := (⟨"LearnedCountModel", "casesWith", "(II)J"⟩, prog_13_method_44_code, 6, (some .long), 0, 0, 0, 0)
def mM_firstRule : MI := (⟨"LearnedCountModel", "firstRule", "()V"⟩, prog_13_method_31_code, 2, none, 0, 0, 0, 0)
def mM_feed : MI := (⟨"LearnedCountModel", "feed", "(J)I"⟩, prog_13_method_10_code, 4, (some .int), 0, 0, 0, 0)
def mM_end : MI := (⟨"LearnedCountModel", "end", "(I)I"⟩, prog_13_method_11_code, 3, (some .int), 1, 25, 0, 0)
def mM_in : MI := (⟨"LearnedCountModel", "in", "(JJJ)Z"⟩, prog_13_method_3_code, 6, (some .boolean), 0, 0, 0, 0)
def mM_library : MI := (⟨"LearnedCountModel", "library", "()I"⟩, prog_13_method_30_code, 2, (some .int), 7, 156, 0, 0)
def mM_next : MI := (⟨"LearnedCountModel", "next", "()V"⟩, prog_13_method_18_code, 2, none, 1, 25, 0, 0)
def mM_look : MI := (⟨"LearnedCountModel", "look", "(I)I"⟩, prog_13_method_13_code, 2, (some .int), 0, 0, 0, 0)
def mM_wants : MI := (⟨"LearnedCountModel", "wants", "(ZI)V"⟩, prog_13_method_12_code, 3, none, 0, 0, 0, 0)
def mM_readLine : MI := (⟨"LearnedCountModel", "readLine", "()V"⟩, prog_13_method_28_code, 2, none, 6, 135, 0, 0)
def mM_nameNow : MI := (⟨"LearnedCountModel", "nameNow", "()I"⟩, prog_13_method_16_code, 1, (some .int), 3, 66, 0, 0)
def mM_is : MI := (⟨"LearnedCountModel", "is", "(IIIII)Z"⟩, prog_13_method_14_code, 6, (some .boolean), 1, 21, 0, 0)
def mM_goesOn : MI := (⟨"LearnedCountModel", "goesOn", "(IIII)Z"⟩, prog_13_method_15_code, 5, (some .boolean), 1, 21, 0, 0)
def mM_ruleNameNow : MI := (⟨"LearnedCountModel", "ruleNameNow", "()I"⟩, prog_13_method_17_code, 1, (some .int), 2, 46, 0, 0)
def mM_readNumber : MI := (⟨"LearnedCountModel", "readNumber", "(II)I"⟩, prog_13_method_20_code, 4, (some .int), 2, 47, 0, 0)
def mM_isNumber : MI := (⟨"LearnedCountModel", "isNumber", "(II)V"⟩, prog_13_method_19_code, 3, none, 1, 25, 0, 0)
def mM_readCopies : MI := (⟨"LearnedCountModel", "readCopies", "()V"⟩, prog_13_method_25_code, 3, none, 3, 70, 0, 0)
def mM_readWord : MI := (⟨"LearnedCountModel", "readWord", "(I)V"⟩, prog_13_method_26_code, 9, none, 5, 107, 0, 0)
def mM_readDoctor : MI := (⟨"LearnedCountModel", "readDoctor", "()I"⟩, prog_13_method_22_code, 2, (some .int), 2, 46, 0, 0)
def mM_readMarks : MI := (⟨"LearnedCountModel", "readMarks", "(I)I"⟩, prog_13_method_23_code, 3, (some .int), 2, 50, 0, 0)
def mM_letters : MI := (⟨"LearnedCountModel", "letters", "(II)I"⟩, prog_13_method_21_code, 6, (some .int), 1, 25, 0, 0)
def mM_readAnswer : MI := (⟨"LearnedCountModel", "readAnswer", "()I"⟩, prog_13_method_24_code, 2, (some .int), 4, 86, 0, 0)
def mM_endLine : MI := (⟨"LearnedCountModel", "endLine", "()V"⟩, prog_13_method_27_code, 1, none, 2, 46, 0, 0)
def mM_checks : MI := (⟨"LearnedCountModel", "checks", "()V"⟩, prog_13_method_29_code, 3, none, 0, 0, 0, 0)
def mM_rule : MI := (⟨"LearnedCountModel", "rule", "()I"⟩, prog_13_method_36_code, 3, (some .int), 6, 135, 0, 0)
def mM_readRule : MI := (⟨"LearnedCountModel", "readRule", "()V"⟩, prog_13_method_35_code, 3, none, 5, 113, 0, 0)
def mM_rowOf : MI := (⟨"LearnedCountModel", "rowOf", "(I)I"⟩, prog_13_method_34_code, 1, (some .int), 0, 0, 0, 0)
def mM_readMain : MI := (⟨"LearnedCountModel", "readMain", "()I"⟩, prog_13_method_33_code, 2, (some .int), 2, 50, 0, 0)
def mM_oneOf : MI := (⟨"LearnedCountModel", "oneOf", "(IIIIII)I"⟩, prog_13_method_32_code, 8, (some .int), 4, 86, 0, 0)
def mM_fault : MI := (⟨"LearnedCountModel", "fault", "()I"⟩, prog_13_method_37_code, 1, (some .int), 0, 0, 0, 0)
def mM_weighs : MI := (⟨"LearnedCountModel", "weighs", "(I)I"⟩, prog_13_method_38_code, 2, (some .int), 1, 25, 0, 0)
def mM_word : MI := (⟨"LearnedCountModel", "word", "(II)I"⟩, prog_13_method_48_code, 3, (some .int), 2, 46, 0, 0)
def mM_isWord : MI := (⟨"LearnedCountModel", "isWord", "(I)Z"⟩, prog_13_method_39_code, 2, (some .boolean), 1, 25, 0, 0)
def mM_weightOf : MI := (⟨"LearnedCountModel", "weightOf", "(I)I"⟩, prog_13_method_47_code, 3, (some .int), 1, 22, 0, 0)
def mM_countOf : MI := (⟨"LearnedCountModel", "countOf", "(I)I"⟩, prog_13_method_4_code, 3, (some .int), 0, 0, 0, 0)
def mM_says : MI := (⟨"LearnedCountModel", "says", "(II)I"⟩, prog_13_method_50_code, 3, (some .int), 2, 46, 0, 0)
def mM_isCase : MI := (⟨"LearnedCountModel", "isCase", "(I)Z"⟩, prog_13_method_40_code, 1, (some .boolean), 1, 25, 0, 0)
def mM_told : MI := (⟨"LearnedCountModel", "told", "(JJI)I"⟩, prog_13_method_49_code, 5, (some .int), 0, 0, 0, 0)
def mM_words : MI := (⟨"LearnedCountModel", "words", "(I)I"⟩, prog_13_method_52_code, 4, (some .int), 2, 44, 0, 0)
def mM_counts : MI := (⟨"LearnedCountModel", "counts", "(I)Z"⟩, prog_13_method_51_code, 3, (some .boolean), 1, 22, 0, 0)
def mM_meets : MI := (⟨"LearnedCountModel", "meets", "(II)I"⟩, prog_13_method_53_code, 7, (some .int), 2, 45, 0, 0)
def mM_steps : MI := (⟨"LearnedCountModel", "steps", "(I)I"⟩, prog_13_method_54_code, 4, (some .int), 2, 46, 0, 0)
def mM_each : MI := (⟨"LearnedCountModel", "each", "(II)I"⟩, prog_13_method_59_code, 3, (some .int), 5, 120, 0, 0)
def mM_isDoctor : MI := (⟨"LearnedCountModel", "isDoctor", "(I)Z"⟩, prog_13_method_58_code, 1, (some .boolean), 1, 25, 0, 0)
def mM_findEach : MI := (⟨"LearnedCountModel", "findEach", "()V"⟩, prog_13_method_55_code, 2, none, 4, 99, 0, 0)
def mM_findOne : MI := (⟨"LearnedCountModel", "findOne", "(I)V"⟩, prog_13_method_56_code, 8, none, 3, 72, 0, 0)
def mM_ofTwo : MI := (⟨"LearnedCountModel", "ofTwo", "(II)I"⟩, prog_13_method_57_code, 9, (some .int), 2, 44, 0, 0)
def mM_clash : MI := (⟨"LearnedCountModel", "clash", "(II)I"⟩, prog_13_method_60_code, 3, (some .int), 5, 120, 0, 0)
def mM_manyOf : MI := (⟨"LearnedCountModel", "manyOf", "(J)I"⟩, prog_13_method_5_code, 4, (some .int), 0, 0, 0, 0)
def mM_firstOf : MI := (⟨"LearnedCountModel", "firstOf", "(J)I"⟩, prog_13_method_6_code, 3, (some .int), 0, 0, 0, 0)
def mM_sides : MI := (⟨"LearnedCountModel", "sides", "(III)I"⟩, prog_13_method_61_code, 8, (some .int), 5, 120, 0, 0)
def mM_hangs : MI := (⟨"LearnedCountModel", "hangs", "(II)I"⟩, prog_13_method_67_code, 3, (some .int), 6, 140, 0, 0)
def mM_findAll : MI := (⟨"LearnedCountModel", "findAll", "()V"⟩, prog_13_method_64_code, 1, none, 5, 120, 0, 0)
def mM_findHeld : MI := (⟨"LearnedCountModel", "findHeld", "()V"⟩, prog_13_method_63_code, 4, none, 2, 51, 0, 0)
def mM_lawOf : MI := (⟨"LearnedCountModel", "lawOf", "(I)I"⟩, prog_13_method_62_code, 8, (some .int), 1, 24, 0, 0)
def mM_keepHeld : MI := (⟨"LearnedCountModel", "keepHeld", "()V"⟩, prog_13_method_65_code, 2, none, 0, 0, 0, 0)
def mM_findChanged : MI := (⟨"LearnedCountModel", "findChanged", "()V"⟩, prog_13_method_66_code, 2, none, 0, 0, 0, 0)
def mM_held : MI := (⟨"LearnedCountModel", "held", "(II)I"⟩, prog_13_method_68_code, 3, (some .int), 6, 140, 0, 0)
def mM_cases : MI := (⟨"LearnedCountModel", "cases", "(I)J"⟩, prog_13_method_70_code, 6, (some .long), 6, 140, 0, 0)
def mM_areAsked : MI := (⟨"LearnedCountModel", "areAsked", "(I)Z"⟩, prog_13_method_69_code, 2, (some .boolean), 1, 25, 0, 0)
def mM_many : MI := (⟨"LearnedCountModel", "many", "(I)I"⟩, prog_13_method_71_code, 2, (some .int), 7, 165, 0, 0)
def mM_reckon : MI := (⟨"LearnedCountModel", "reckon", "(IIIII)I"⟩, prog_13_method_72_code, 6, (some .int), 6, 140, 0, 0)
def mM_widest : MI := (⟨"LearnedCountModel", "widest", "(I)I"⟩, prog_13_method_73_code, 7, (some .int), 6, 140, 0, 0)
def mM_near : MI := (⟨"LearnedCountModel", "near", "(III)I"⟩, prog_13_method_74_code, 7, (some .int), 6, 140, 0, 0)
def mM_bring : MI := (⟨"LearnedCountModel", "bring", "(I)I"⟩, prog_13_method_75_code, 3, (some .int), 1, 25, 0, 0)
def mM_copies : MI := (⟨"LearnedCountModel", "copies", "(II)I"⟩, prog_13_method_76_code, 4, (some .int), 1, 25, 0, 0)
def mM_argue : MI := (⟨"LearnedCountModel", "argue", "(III)I"⟩, prog_13_method_77_code, 7, (some .int), 6, 140, 0, 0)
def mM_game : MI := (⟨"LearnedCountModel", "game", "(III)I"⟩, prog_13_method_80_code, 5, (some .int), 7, 164, 0, 0)
def mM_findGame : MI := (⟨"LearnedCountModel", "findGame", "(I)V"⟩, prog_13_method_79_code, 5, none, 6, 140, 0, 0)
def mM_bestTurn : MI := (⟨"LearnedCountModel", "bestTurn", "(III)I"⟩, prog_13_method_78_code, 9, (some .int), 0, 0, 0, 0)
def mM_turn : MI := (⟨"LearnedCountModel", "turn", "(I)I"⟩, prog_13_method_82_code, 10, (some .int), 6, 140, 0, 0)
def mM_turnsBy : MI := (⟨"LearnedCountModel", "turnsBy", "(III)I"⟩, prog_13_method_81_code, 5, (some .int), 4, 99, 0, 0)
def mM_turns : MI := (⟨"LearnedCountModel", "turns", "(III)I"⟩, prog_13_method_83_code, 4, (some .int), 6, 140, 0, 0)
def mM_keep : MI := (⟨"LearnedCountModel", "keep", "()I"⟩, prog_13_method_84_code, 2, (some .int), 0, 0, 0, 0)
def mM_swap : MI := (⟨"LearnedCountModel", "swap", "()I"⟩, prog_13_method_85_code, 3, (some .int), 0, 0, 0, 0)
def mM_differ : MI := (⟨"LearnedCountModel", "differ", "(I)I"⟩, prog_13_method_86_code, 2, (some .int), 6, 140, 0, 0)
def mM_brief : MI := (⟨"LearnedCountModel", "brief", "(I)I"⟩, prog_13_method_87_code, 7, (some .int), 6, 140, 0, 0)
def mM_sheet : MI := (⟨"LearnedCountModel", "sheet", "(III)I"⟩, prog_13_method_89_code, 5, (some .int), 2, 46, 0, 0)
def mM_isSheet : MI := (⟨"LearnedCountModel", "isSheet", "(II)Z"⟩, prog_13_method_88_code, 2, (some .boolean), 1, 25, 0, 0)
def mM_lay : MI := (⟨"LearnedCountModel", "lay", "(III)I"⟩, prog_13_method_90_code, 4, (some .int), 2, 46, 0, 0)
def mM_read : MI := (⟨"LearnedCountModel", "read", "(IIIII)I"⟩, prog_13_method_91_code, 11, (some .int), 6, 140, 0, 0)
def mM_count : MI := (⟨"LearnedCountModel", "count", "(I)I"⟩, prog_13_method_92_code, 4, (some .int), 1, 25, 0, 0)
def mLa_law : MI := (⟨"LearnedCountLaw", "law", "([I)Z"⟩, code, 4, (some .boolean), 11, 244, 122, 4872)
theorem gC_init : MG mC_init 0 := ⟨TG_1 25 (by decide +kernel) rfl, TG_1 1 (by decide +kernel) rfl, by decide +kernel, by decide +kernel, by decide +kernel⟩
theorem hC_init : MIn mC_init 0 := ⟨gC_init, TG_1 24 (by decide +kernel) rfl, rfl, rfl⟩
theorem gTa_init : MG mTa_init 0 := ⟨TG_1 33 (by decide +kernel) rfl, TG_1 2 (by decide +kernel) rfl, by decide +kernel, by decide +kernel, by decide +kernel⟩
theorem hTa_init : MIn mTa_init 0 := ⟨gTa_init, TG_1 32 (by decide +kernel) rfl, rfl, rfl⟩
theorem gTo_init : MG mTo_init 1 := ⟨TG_1 48 (by decide +kernel) rfl, TG_1 3 (by decide +kernel) rfl, by decide +kernel, by decide +kernel, by decide +kernel⟩
theorem hTo_init : MIn mTo_init 1 := ⟨gTo_init, TG_1 47 (by decide +kernel) rfl, rfl, rfl⟩
theorem gLr_init : MG mLr_init 1 := ⟨TG_1 83 (by decide +kernel) rfl, TG_1 4 (by decide +kernel) rfl, by decide +kernel, by decide +kernel, by decide +kernel⟩
theorem hLr_init : MIn mLr_init 1 := ⟨gLr_init, TG_1 82 (by decide +kernel) rfl, rfl, rfl⟩
theorem gRr_init : MG mRr_init 1 := ⟨TG_1 96 (by decide +kernel) rfl, TG_1 5 (by decide +kernel) rfl, by decide +kernel, by decide +kernel, by decide +kernel⟩
theorem hRr_init : MIn mRr_init 1 := ⟨gRr_init, TG_1 95 (by decide +kernel) rfl, rfl, rfl⟩
theorem gLi_init : MG mLi_init 0 := ⟨TG_1 106 (by decide +kernel) rfl, TG_1 6 (by decide +kernel) rfl, by decide +kernel, by decide +kernel, by decide +kernel⟩
theorem hLi_init : MIn mLi_init 0 := ⟨gLi_init, TG_1 105 (by decide +kernel) rfl, rfl, rfl⟩
theorem gWo_init : MG mWo_init 0 := ⟨TG_1 113 (by decide +kernel) rfl, TG_1 7 (by decide +kernel) rfl, by decide +kernel, by decide +kernel, by decide +kernel⟩
theorem hWo_init : MIn mWo_init 0 := ⟨gWo_init, TG_1 112 (by decide +kernel) rfl, rfl, rfl⟩
theorem gLi_clear : MG mLi_clear 0 := ⟨TG_1 181 (by decide +kernel) rfl, TG_1 6 (by decide +kernel) rfl, by decide +kernel, by decide +kernel, by decide +kernel⟩
theorem hLi_clear : MV mLi_clear 0 := ⟨gLi_clear, TG_1 179 (by decide +kernel) rfl, TG_1 180 (by decide +kernel) rfl⟩
theorem gJr_fill : MG mJr_fill 2 := ⟨TG_1 184 (by decide +kernel) rfl, TG_1 8 (by decide +kernel) rfl, by decide +kernel, by decide +kernel, by decide +kernel⟩
theorem hJr_fill : MSt mJr_fill 2 := ⟨gJr_fill, TG_1 183 (by decide +kernel) rfl⟩
theorem gLi_settle : MG mLi_settle 0 := ⟨TG_1 188 (by decide +kernel) rfl, TG_1 6 (by decide +kernel) rfl, by decide +kernel, by decide +kernel, by decide +kernel⟩
theorem hLi_settle : MV mLi_settle 0 := ⟨gLi_settle, TG_1 186 (by decide +kernel) rfl, TG_1 187 (by decide +kernel) rfl⟩
theorem gLi_sortWords : MG mLi_sortWords 0 := ⟨TG_1 192 (by decide +kernel) rfl, TG_1 6 (by decide +kernel) rfl, by decide +kernel, by decide +kernel, by decide +kernel⟩
theorem hLi_sortWords : MV mLi_sortWords 0 := ⟨gLi_sortWords, TG_1 191 (by decide +kernel) rfl, TG_p 0 (by decide +kernel) rfl⟩
theorem gLi_findFollowed : MG mLi_findFollowed 0 := ⟨TG_1 196 (by decide +kernel) rfl, TG_1 6 (by decide +kernel) rfl, by decide +kernel, by decide +kernel, by decide +kernel⟩
theorem hLi_findFollowed : MV mLi_findFollowed 0 := ⟨gLi_findFollowed, TG_1 195 (by decide +kernel) rfl, TG_p 1 (by decide +kernel) rfl⟩
theorem gLi_findRings : MG mLi_findRings 0 := ⟨TG_1 200 (by decide +kernel) rfl, TG_1 6 (by decide +kernel) rfl, by decide +kernel, by decide +kernel, by decide +kernel⟩
theorem hLi_findRings : MV mLi_findRings 0 := ⟨gLi_findRings, TG_1 199 (by decide +kernel) rfl, TG_p 2 (by decide +kernel) rfl⟩
theorem gC_holds : MG mC_holds 2 := ⟨TG_1 203 (by decide +kernel) rfl, TG_1 1 (by decide +kernel) rfl, by decide +kernel, by decide +kernel, by decide +kernel⟩
theorem hC_holds : MSt mC_holds 2 := ⟨gC_holds, TG_1 202 (by decide +kernel) rfl⟩
theorem gLi_speakInOrder : MG mLi_speakInOrder 0 := ⟨TG_1 207 (by decide +kernel) rfl, TG_1 6 (by decide +kernel) rfl, by decide +kernel, by decide +kernel, by decide +kernel⟩
theorem hLi_speakInOrder : MV mLi_speakInOrder 0 := ⟨gLi_speakInOrder, TG_1 206 (by decide +kernel) rfl, TG_p 3 (by decide +kernel) rfl⟩
theorem gLi_speak : MG mLi_speak 1 := ⟨TG_1 211 (by decide +kernel) rfl, TG_1 6 (by decide +kernel) rfl, by decide +kernel, by decide +kernel, by decide +kernel⟩
theorem hLi_speak : MV mLi_speak 1 := ⟨gLi_speak, TG_1 210 (by decide +kernel) rfl, TG_p 4 (by decide +kernel) rfl⟩
theorem gC_agreed : MG mC_agreed 2 := ⟨TG_1 214 (by decide +kernel) rfl, TG_1 1 (by decide +kernel) rfl, by decide +kernel, by decide +kernel, by decide +kernel⟩
theorem hC_agreed : MSt mC_agreed 2 := ⟨gC_agreed, TG_1 213 (by decide +kernel) rfl⟩
theorem gLi_followedSaying : MG mLi_followedSaying 2 := ⟨TG_1 218 (by decide +kernel) rfl, TG_1 6 (by decide +kernel) rfl, by decide +kernel, by decide +kernel, by decide +kernel⟩
theorem hLi_followedSaying : MV mLi_followedSaying 2 := ⟨gLi_followedSaying, TG_1 217 (by decide +kernel) rfl, TG_p 5 (by decide +kernel) rfl⟩
theorem gLi_saying : MG mLi_saying 2 := ⟨TG_1 222 (by decide +kernel) rfl, TG_1 6 (by decide +kernel) rfl, by decide +kernel, by decide +kernel, by decide +kernel⟩
theorem hLi_saying : MV mLi_saying 2 := ⟨gLi_saying, TG_1 220 (by decide +kernel) rfl, TG_1 221 (by decide +kernel) rfl⟩
theorem gLi_ownSaying : MG mLi_ownSaying 3 := ⟨TG_1 225 (by decide +kernel) rfl, TG_1 6 (by decide +kernel) rfl, by decide +kernel, by decide +kernel, by decide +kernel⟩
theorem hLi_ownSaying : MSt mLi_ownSaying 3 := ⟨gLi_ownSaying, TG_1 224 (by decide +kernel) rfl⟩
theorem gLi_weighAll : MG mLi_weighAll 0 := ⟨TG_1 229 (by decide +kernel) rfl, TG_1 6 (by decide +kernel) rfl, by decide +kernel, by decide +kernel, by decide +kernel⟩
theorem hLi_weighAll : MV mLi_weighAll 0 := ⟨gLi_weighAll, TG_1 228 (by decide +kernel) rfl, TG_p 6 (by decide +kernel) rfl⟩
theorem gLi_weightOf : MG mLi_weightOf 1 := ⟨TG_1 233 (by decide +kernel) rfl, TG_1 6 (by decide +kernel) rfl, by decide +kernel, by decide +kernel, by decide +kernel⟩
theorem hLi_weightOf : MV mLi_weightOf 1 := ⟨gLi_weightOf, TG_1 232 (by decide +kernel) rfl, TG_p 7 (by decide +kernel) rfl⟩
theorem gJi_bitCount : MG mJi_bitCount 1 := ⟨TG_1 236 (by decide +kernel) rfl, TG_1 9 (by decide +kernel) rfl, by decide +kernel, by decide +kernel, by decide +kernel⟩
theorem hJi_bitCount : MSt mJi_bitCount 1 := ⟨gJi_bitCount, TG_1 235 (by decide +kernel) rfl⟩
theorem gLi_askLaws : MG mLi_askLaws 0 := ⟨TG_2 3 (by decide +kernel) rfl, TG_1 6 (by decide +kernel) rfl, by decide +kernel, by decide +kernel, by decide +kernel⟩
theorem hLi_askLaws : MV mLi_askLaws 0 := ⟨gLi_askLaws, TG_2 2 (by decide +kernel) rfl, TG_p 8 (by decide +kernel) rfl⟩
theorem gLi_lawSaying : MG mLi_lawSaying 2 := ⟨TG_2 7 (by decide +kernel) rfl, TG_1 6 (by decide +kernel) rfl, by decide +kernel, by decide +kernel, by decide +kernel⟩
theorem hLi_lawSaying : MV mLi_lawSaying 2 := ⟨gLi_lawSaying, TG_2 6 (by decide +kernel) rfl, TG_p 9 (by decide +kernel) rfl⟩
theorem gLi_speaking : MG mLi_speaking 1 := ⟨TG_2 11 (by decide +kernel) rfl, TG_1 6 (by decide +kernel) rfl, by decide +kernel, by decide +kernel, by decide +kernel⟩
theorem hLi_speaking : MV mLi_speaking 1 := ⟨gLi_speaking, TG_2 9 (by decide +kernel) rfl, TG_2 10 (by decide +kernel) rfl⟩
theorem gRu_init : MG mRu_init 0 := ⟨TG_2 81 (by decide +kernel) rfl, TG_1 10 (by decide +kernel) rfl, by decide +kernel, by decide +kernel, by decide +kernel⟩
theorem hRu_init : MIn mRu_init 0 := ⟨gRu_init, TG_2 80 (by decide +kernel) rfl, rfl, rfl⟩
theorem gRu_clear : MG mRu_clear 0 := ⟨TG_2 86 (by decide +kernel) rfl, TG_1 10 (by decide +kernel) rfl, by decide +kernel, by decide +kernel, by decide +kernel⟩
theorem hRu_clear : MV mRu_clear 0 := ⟨gRu_clear, TG_2 84 (by decide +kernel) rfl, TG_2 85 (by decide +kernel) rfl⟩
theorem gWe_init : MG mWe_init 2 := ⟨TG_2 133 (by decide +kernel) rfl, TG_1 11 (by decide +kernel) rfl, by decide +kernel, by decide +kernel, by decide +kernel⟩
theorem hWe_init : MIn mWe_init 2 := ⟨gWe_init, TG_2 132 (by decide +kernel) rfl, rfl, rfl⟩
theorem gFi_init : MG mFi_init 1 := ⟨TG_2 177 (by decide +kernel) rfl, TG_1 12 (by decide +kernel) rfl, by decide +kernel, by decide +kernel, by decide +kernel⟩
theorem hFi_init : MIn mFi_init 1 := ⟨gFi_init, TG_2 176 (by decide +kernel) rfl, rfl, rfl⟩
theorem gSh_init : MG mSh_init 0 := ⟨TG_2 192 (by decide +kernel) rfl, TG_1 13 (by decide +kernel) rfl, by decide +kernel, by decide +kernel, by decide +kernel⟩
theorem hSh_init : MIn mSh_init 0 := ⟨gSh_init, TG_2 191 (by decide +kernel) rfl, rfl, rfl⟩
theorem gC_feed : MG mC_feed 1 := ⟨TG_3 13 (by decide +kernel) rfl, TG_1 1 (by decide +kernel) rfl, by decide +kernel, by decide +kernel, by decide +kernel⟩
theorem hC_feed : MV mC_feed 1 := ⟨gC_feed, TG_3 11 (by decide +kernel) rfl, TG_3 12 (by decide +kernel) rfl⟩
theorem gTa_append : MG mTa_append 1 := ⟨TG_3 17 (by decide +kernel) rfl, TG_1 2 (by decide +kernel) rfl, by decide +kernel, by decide +kernel, by decide +kernel⟩
theorem hTa_append : MV mTa_append 1 := ⟨gTa_append, TG_3 15 (by decide +kernel) rfl, TG_3 16 (by decide +kernel) rfl⟩
theorem gC_end : MG mC_end 1 := ⟨TG_3 21 (by decide +kernel) rfl, TG_1 1 (by decide +kernel) rfl, by decide +kernel, by decide +kernel, by decide +kernel⟩
theorem hC_end : MV mC_end 1 := ⟨gC_end, TG_3 19 (by decide +kernel) rfl, TG_3 20 (by decide +kernel) rfl⟩
theorem gC_library : MG mC_library 0 := ⟨TG_3 25 (by decide +kernel) rfl, TG_1 1 (by decide +kernel) rfl, by decide +kernel, by decide +kernel, by decide +kernel⟩
theorem hC_library : MV mC_library 0 := ⟨gC_library, TG_3 23 (by decide +kernel) rfl, TG_3 24 (by decide +kernel) rfl⟩
theorem gLr_readInto : MG mLr_readInto 1 := ⟨TG_3 29 (by decide +kernel) rfl, TG_1 4 (by decide +kernel) rfl, by decide +kernel, by decide +kernel, by decide +kernel⟩
theorem hLr_readInto : MV mLr_readInto 1 := ⟨gLr_readInto, TG_3 27 (by decide +kernel) rfl, TG_3 28 (by decide +kernel) rfl⟩
theorem gTo_begin : MG mTo_begin 0 := ⟨TG_3 34 (by decide +kernel) rfl, TG_1 3 (by decide +kernel) rfl, by decide +kernel, by decide +kernel, by decide +kernel⟩
theorem hTo_begin : MV mTo_begin 0 := ⟨gTo_begin, TG_3 32 (by decide +kernel) rfl, TG_3 33 (by decide +kernel) rfl⟩
theorem gTo_advance : MG mTo_advance 0 := ⟨TG_3 38 (by decide +kernel) rfl, TG_1 3 (by decide +kernel) rfl, by decide +kernel, by decide +kernel, by decide +kernel⟩
theorem hTo_advance : MV mTo_advance 0 := ⟨gTo_advance, TG_3 36 (by decide +kernel) rfl, TG_3 37 (by decide +kernel) rfl⟩
theorem gTa_behindAll : MG mTa_behindAll 3 := ⟨TG_3 42 (by decide +kernel) rfl, TG_1 2 (by decide +kernel) rfl, by decide +kernel, by decide +kernel, by decide +kernel⟩
theorem hTa_behindAll : MV mTa_behindAll 3 := ⟨gTa_behindAll, TG_3 40 (by decide +kernel) rfl, TG_3 41 (by decide +kernel) rfl⟩
theorem gTa_byteAt : MG mTa_byteAt 1 := ⟨TG_3 46 (by decide +kernel) rfl, TG_1 2 (by decide +kernel) rfl, by decide +kernel, by decide +kernel, by decide +kernel⟩
theorem hTa_byteAt : MV mTa_byteAt 1 := ⟨gTa_byteAt, TG_3 44 (by decide +kernel) rfl, TG_3 45 (by decide +kernel) rfl⟩
theorem gJm_min : MG mJm_min 2 := ⟨TG_3 49 (by decide +kernel) rfl, TG_1 15 (by decide +kernel) rfl, by decide +kernel, by decide +kernel, by decide +kernel⟩
theorem hJm_min : MSt mJm_min 2 := ⟨gJm_min, TG_3 48 (by decide +kernel) rfl⟩
theorem gTa_figures : MG mTa_figures 2 := ⟨TG_3 53 (by decide +kernel) rfl, TG_1 2 (by decide +kernel) rfl, by decide +kernel, by decide +kernel, by decide +kernel⟩
theorem hTa_figures : MV mTa_figures 2 := ⟨gTa_figures, TG_3 51 (by decide +kernel) rfl, TG_3 52 (by decide +kernel) rfl⟩
theorem gTo_fail : MG mTo_fail 1 := ⟨TG_3 57 (by decide +kernel) rfl, TG_1 3 (by decide +kernel) rfl, by decide +kernel, by decide +kernel, by decide +kernel⟩
theorem hTo_fail : MV mTo_fail 1 := ⟨gTo_fail, TG_3 55 (by decide +kernel) rfl, TG_3 56 (by decide +kernel) rfl⟩
theorem gTo_among : MG mTo_among 1 := ⟨TG_3 62 (by decide +kernel) rfl, TG_1 3 (by decide +kernel) rfl, by decide +kernel, by decide +kernel, by decide +kernel⟩
theorem hTo_among : MV mTo_among 1 := ⟨gTo_among, TG_3 60 (by decide +kernel) rfl, TG_3 61 (by decide +kernel) rfl⟩
theorem gJs_length : MG mJs_length 0 := ⟨TG_3 66 (by decide +kernel) rfl, TG_1 16 (by decide +kernel) rfl, by decide +kernel, by decide +kernel, by decide +kernel⟩
theorem hJs_length : MV mJs_length 0 := ⟨gJs_length, TG_3 64 (by decide +kernel) rfl, TG_3 65 (by decide +kernel) rfl⟩
theorem gJs_coder : MG mJs_coder 0 := ⟨TG_3 70 (by decide +kernel) rfl, TG_1 16 (by decide +kernel) rfl, by decide +kernel, by decide +kernel, by decide +kernel⟩
theorem hJs_coder : MV mJs_coder 0 := ⟨gJs_coder, TG_3 68 (by decide +kernel) rfl, TG_3 69 (by decide +kernel) rfl⟩
theorem gJs_charAt : MG mJs_charAt 1 := ⟨TG_3 76 (by decide +kernel) rfl, TG_1 16 (by decide +kernel) rfl, by decide +kernel, by decide +kernel, by decide +kernel⟩
theorem hJs_charAt : MV mJs_charAt 1 := ⟨gJs_charAt, TG_3 74 (by decide +kernel) rfl, TG_3 75 (by decide +kernel) rfl⟩
theorem gJs_isLatin1 : MG mJs_isLatin1 0 := ⟨TG_3 80 (by decide +kernel) rfl, TG_1 16 (by decide +kernel) rfl, by decide +kernel, by decide +kernel, by decide +kernel⟩
theorem hJs_isLatin1 : MV mJs_isLatin1 0 := ⟨gJs_isLatin1, TG_3 78 (by decide +kernel) rfl, TG_3 79 (by decide +kernel) rfl⟩
theorem gJa_charAt : MG mJa_charAt 2 := ⟨TG_3 83 (by decide +kernel) rfl, TG_1 17 (by decide +kernel) rfl, by decide +kernel, by decide +kernel, by decide +kernel⟩
theorem hJa_charAt : MSt mJa_charAt 2 := ⟨gJa_charAt, TG_3 82 (by decide +kernel) rfl⟩
theorem gJs_checkIndex : MG mJs_checkIndex 2 := ⟨TG_3 86 (by decide +kernel) rfl, TG_1 16 (by decide +kernel) rfl, by decide +kernel, by decide +kernel, by decide +kernel⟩
theorem hJs_checkIndex : MSt mJs_checkIndex 2 := ⟨gJs_checkIndex, TG_3 85 (by decide +kernel) rfl⟩
theorem gJp_checkIndex : MG mJp_checkIndex 3 := ⟨TG_3 91 (by decide +kernel) rfl, TG_1 18 (by decide +kernel) rfl, by decide +kernel, by decide +kernel, by decide +kernel⟩
theorem hJp_checkIndex : MSt mJp_checkIndex 3 := ⟨gJp_checkIndex, TG_3 90 (by decide +kernel) rfl⟩
theorem gTo_isNamed : MG mTo_isNamed 3 := ⟨TG_3 114 (by decide +kernel) rfl, TG_1 3 (by decide +kernel) rfl, by decide +kernel, by decide +kernel, by decide +kernel⟩
theorem hTo_isNamed : MV mTo_isNamed 3 := ⟨gTo_isNamed, TG_3 113 (by decide +kernel) rfl, TG_p 10 (by decide +kernel) rfl⟩
theorem gLr_tellWord : MG mLr_tellWord 2 := ⟨TG_3 119 (by decide +kernel) rfl, TG_1 4 (by decide +kernel) rfl, by decide +kernel, by decide +kernel, by decide +kernel⟩
theorem hLr_tellWord : MV mLr_tellWord 2 := ⟨gLr_tellWord, TG_3 118 (by decide +kernel) rfl, TG_p 11 (by decide +kernel) rfl⟩
theorem gWo_begin : MG mWo_begin 2 := ⟨TG_3 123 (by decide +kernel) rfl, TG_1 7 (by decide +kernel) rfl, by decide +kernel, by decide +kernel, by decide +kernel⟩
theorem hWo_begin : MV mWo_begin 2 := ⟨gWo_begin, TG_3 121 (by decide +kernel) rfl, TG_3 122 (by decide +kernel) rfl⟩
theorem gTo_takeNumber : MG mTo_takeNumber 1 := ⟨TG_3 127 (by decide +kernel) rfl, TG_1 3 (by decide +kernel) rfl, by decide +kernel, by decide +kernel, by decide +kernel⟩
theorem hTo_takeNumber : MV mTo_takeNumber 1 := ⟨gTo_takeNumber, TG_3 125 (by decide +kernel) rfl, TG_3 126 (by decide +kernel) rfl⟩
theorem gTo_takeDoctor : MG mTo_takeDoctor 0 := ⟨TG_3 132 (by decide +kernel) rfl, TG_1 3 (by decide +kernel) rfl, by decide +kernel, by decide +kernel, by decide +kernel⟩
theorem hTo_takeDoctor : MV mTo_takeDoctor 0 := ⟨gTo_takeDoctor, TG_3 130 (by decide +kernel) rfl, TG_3 131 (by decide +kernel) rfl⟩
theorem gTo_takeDoctors : MG mTo_takeDoctors 0 := ⟨TG_3 136 (by decide +kernel) rfl, TG_1 3 (by decide +kernel) rfl, by decide +kernel, by decide +kernel, by decide +kernel⟩
theorem hTo_takeDoctors : MV mTo_takeDoctors 0 := ⟨gTo_takeDoctors, TG_3 134 (by decide +kernel) rfl, TG_3 135 (by decide +kernel) rfl⟩
theorem gTo_letters : MG mTo_letters 2 := ⟨TG_3 140 (by decide +kernel) rfl, TG_1 3 (by decide +kernel) rfl, by decide +kernel, by decide +kernel, by decide +kernel⟩
theorem hTo_letters : MV mTo_letters 2 := ⟨gTo_letters, TG_3 139 (by decide +kernel) rfl, TG_p 12 (by decide +kernel) rfl⟩
theorem gJi_numberOfTrailingZeros : MG mJi_numberOfTrailingZeros 1 := ⟨TG_3 145 (by decide +kernel) rfl, TG_1 9 (by decide +kernel) rfl, by decide +kernel, by decide +kernel, by decide +kernel⟩
theorem hJi_numberOfTrailingZeros : MSt mJi_numberOfTrailingZeros 1 := ⟨gJi_numberOfTrailingZeros, TG_3 144 (by decide +kernel) rfl⟩
theorem gLr_tellSaying : MG mLr_tellSaying 1 := ⟨TG_3 150 (by decide +kernel) rfl, TG_1 4 (by decide +kernel) rfl, by decide +kernel, by decide +kernel, by decide +kernel⟩
theorem hLr_tellSaying : MV mLr_tellSaying 1 := ⟨gLr_tellSaying, TG_3 149 (by decide +kernel) rfl, TG_p 13 (by decide +kernel) rfl⟩
theorem gTo_takeMarks : MG mTo_takeMarks 0 := ⟨TG_3 154 (by decide +kernel) rfl, TG_1 3 (by decide +kernel) rfl, by decide +kernel, by decide +kernel, by decide +kernel⟩
theorem hTo_takeMarks : MV mTo_takeMarks 0 := ⟨gTo_takeMarks, TG_3 152 (by decide +kernel) rfl, TG_3 153 (by decide +kernel) rfl⟩
theorem gTo_takeAnswer : MG mTo_takeAnswer 0 := ⟨TG_3 158 (by decide +kernel) rfl, TG_1 3 (by decide +kernel) rfl, by decide +kernel, by decide +kernel, by decide +kernel⟩
theorem hTo_takeAnswer : MV mTo_takeAnswer 0 := ⟨gTo_takeAnswer, TG_3 156 (by decide +kernel) rfl, TG_3 157 (by decide +kernel) rfl⟩
theorem gLr_tellCopies : MG mLr_tellCopies 2 := ⟨TG_3 164 (by decide +kernel) rfl, TG_1 4 (by decide +kernel) rfl, by decide +kernel, by decide +kernel, by decide +kernel⟩
theorem hLr_tellCopies : MV mLr_tellCopies 2 := ⟨gLr_tellCopies, TG_3 163 (by decide +kernel) rfl, TG_p 14 (by decide +kernel) rfl⟩
theorem gTo_closeLine : MG mTo_closeLine 0 := ⟨TG_3 169 (by decide +kernel) rfl, TG_1 3 (by decide +kernel) rfl, by decide +kernel, by decide +kernel, by decide +kernel⟩
theorem hTo_closeLine : MV mTo_closeLine 0 := ⟨gTo_closeLine, TG_3 167 (by decide +kernel) rfl, TG_3 168 (by decide +kernel) rfl⟩
theorem gLr_findWrongFollowers : MG mLr_findWrongFollowers 1 := ⟨TG_3 173 (by decide +kernel) rfl, TG_1 4 (by decide +kernel) rfl, by decide +kernel, by decide +kernel, by decide +kernel⟩
theorem hLr_findWrongFollowers : MV mLr_findWrongFollowers 1 := ⟨gLr_findWrongFollowers, TG_3 172 (by decide +kernel) rfl, TG_p 15 (by decide +kernel) rfl⟩
theorem gLi_mayFollow : MG mLi_mayFollow 1 := ⟨TG_3 177 (by decide +kernel) rfl, TG_1 6 (by decide +kernel) rfl, by decide +kernel, by decide +kernel, by decide +kernel⟩
theorem hLi_mayFollow : MV mLi_mayFollow 1 := ⟨gLi_mayFollow, TG_3 175 (by decide +kernel) rfl, TG_3 176 (by decide +kernel) rfl⟩
theorem gTo_failAt : MG mTo_failAt 2 := ⟨TG_3 181 (by decide +kernel) rfl, TG_1 3 (by decide +kernel) rfl, by decide +kernel, by decide +kernel, by decide +kernel⟩
theorem hTo_failAt : MV mTo_failAt 2 := ⟨gTo_failAt, TG_3 179 (by decide +kernel) rfl, TG_3 180 (by decide +kernel) rfl⟩
theorem gC_afterText : MG mC_afterText 1 := ⟨TG_3 186 (by decide +kernel) rfl, TG_1 1 (by decide +kernel) rfl, by decide +kernel, by decide +kernel, by decide +kernel⟩
theorem hC_afterText : MV mC_afterText 1 := ⟨gC_afterText, TG_3 185 (by decide +kernel) rfl, TG_p 16 (by decide +kernel) rfl⟩
theorem gC_rule : MG mC_rule 0 := ⟨TG_3 190 (by decide +kernel) rfl, TG_1 1 (by decide +kernel) rfl, by decide +kernel, by decide +kernel, by decide +kernel⟩
theorem hC_rule : MV mC_rule 0 := ⟨gC_rule, TG_3 188 (by decide +kernel) rfl, TG_3 189 (by decide +kernel) rfl⟩
theorem gRr_readInto : MG mRr_readInto 1 := ⟨TG_3 194 (by decide +kernel) rfl, TG_1 5 (by decide +kernel) rfl, by decide +kernel, by decide +kernel, by decide +kernel⟩
theorem hRr_readInto : MV mRr_readInto 1 := ⟨gRr_readInto, TG_3 192 (by decide +kernel) rfl, TG_3 193 (by decide +kernel) rfl⟩
theorem gRr_tell : MG mRr_tell 2 := ⟨TG_3 205 (by decide +kernel) rfl, TG_1 5 (by decide +kernel) rfl, by decide +kernel, by decide +kernel, by decide +kernel⟩
theorem hRr_tell : MV mRr_tell 2 := ⟨gRr_tell, TG_3 204 (by decide +kernel) rfl, TG_p 17 (by decide +kernel) rfl⟩
theorem gTo_takeOneOf : MG mTo_takeOneOf 1 := ⟨TG_3 212 (by decide +kernel) rfl, TG_1 3 (by decide +kernel) rfl, by decide +kernel, by decide +kernel, by decide +kernel⟩
theorem hTo_takeOneOf : MV mTo_takeOneOf 1 := ⟨gTo_takeOneOf, TG_3 210 (by decide +kernel) rfl, TG_3 211 (by decide +kernel) rfl⟩
theorem gC_fault : MG mC_fault 0 := ⟨TG_3 220 (by decide +kernel) rfl, TG_1 1 (by decide +kernel) rfl, by decide +kernel, by decide +kernel, by decide +kernel⟩
theorem hC_fault : MV mC_fault 0 := ⟨gC_fault, TG_3 218 (by decide +kernel) rfl, TG_3 219 (by decide +kernel) rfl⟩
theorem gC_weighs : MG mC_weighs 1 := ⟨TG_3 224 (by decide +kernel) rfl, TG_1 1 (by decide +kernel) rfl, by decide +kernel, by decide +kernel, by decide +kernel⟩
theorem hC_weighs : MV mC_weighs 1 := ⟨gC_weighs, TG_3 222 (by decide +kernel) rfl, TG_3 223 (by decide +kernel) rfl⟩
theorem gC_word : MG mC_word 2 := ⟨TG_3 228 (by decide +kernel) rfl, TG_1 1 (by decide +kernel) rfl, by decide +kernel, by decide +kernel, by decide +kernel⟩
theorem hC_word : MV mC_word 2 := ⟨gC_word, TG_3 226 (by decide +kernel) rfl, TG_3 227 (by decide +kernel) rfl⟩
theorem gC_isWord : MG mC_isWord 1 := ⟨TG_3 232 (by decide +kernel) rfl, TG_1 1 (by decide +kernel) rfl, by decide +kernel, by decide +kernel, by decide +kernel⟩
theorem hC_isWord : MV mC_isWord 1 := ⟨gC_isWord, TG_3 231 (by decide +kernel) rfl, TG_p 18 (by decide +kernel) rfl⟩
theorem gC_says : MG mC_says 2 := ⟨TG_3 236 (by decide +kernel) rfl, TG_1 1 (by decide +kernel) rfl, by decide +kernel, by decide +kernel, by decide +kernel⟩
theorem hC_says : MV mC_says 2 := ⟨gC_says, TG_3 234 (by decide +kernel) rfl, TG_3 235 (by decide +kernel) rfl⟩
theorem gC_isCase : MG mC_isCase 1 := ⟨TG_3 239 (by decide +kernel) rfl, TG_1 1 (by decide +kernel) rfl, by decide +kernel, by decide +kernel, by decide +kernel⟩
theorem hC_isCase : MSt mC_isCase 1 := ⟨gC_isCase, TG_3 238 (by decide +kernel) rfl⟩
theorem gC_words : MG mC_words 1 := ⟨TG_4 4 (by decide +kernel) rfl, TG_1 1 (by decide +kernel) rfl, by decide +kernel, by decide +kernel, by decide +kernel⟩
theorem hC_words : MV mC_words 1 := ⟨gC_words, TG_4 2 (by decide +kernel) rfl, TG_4 3 (by decide +kernel) rfl⟩
theorem gLi_counting : MG mLi_counting 2 := ⟨TG_4 8 (by decide +kernel) rfl, TG_1 6 (by decide +kernel) rfl, by decide +kernel, by decide +kernel, by decide +kernel⟩
theorem hLi_counting : MV mLi_counting 2 := ⟨gLi_counting, TG_4 6 (by decide +kernel) rfl, TG_4 7 (by decide +kernel) rfl⟩
theorem gLi_mainWords : MG mLi_mainWords 1 := ⟨TG_4 12 (by decide +kernel) rfl, TG_1 6 (by decide +kernel) rfl, by decide +kernel, by decide +kernel, by decide +kernel⟩
theorem hLi_mainWords : MV mLi_mainWords 1 := ⟨gLi_mainWords, TG_4 11 (by decide +kernel) rfl, TG_p 19 (by decide +kernel) rfl⟩
theorem gRu_isMain : MG mRu_isMain 1 := ⟨TG_4 16 (by decide +kernel) rfl, TG_1 10 (by decide +kernel) rfl, by decide +kernel, by decide +kernel, by decide +kernel⟩
theorem hRu_isMain : MV mRu_isMain 1 := ⟨gRu_isMain, TG_4 14 (by decide +kernel) rfl, TG_4 15 (by decide +kernel) rfl⟩
theorem gC_meets : MG mC_meets 2 := ⟨TG_4 20 (by decide +kernel) rfl, TG_1 1 (by decide +kernel) rfl, by decide +kernel, by decide +kernel, by decide +kernel⟩
theorem hC_meets : MV mC_meets 2 := ⟨gC_meets, TG_4 18 (by decide +kernel) rfl, TG_4 19 (by decide +kernel) rfl⟩
theorem gC_steps : MG mC_steps 1 := ⟨TG_4 25 (by decide +kernel) rfl, TG_1 1 (by decide +kernel) rfl, by decide +kernel, by decide +kernel, by decide +kernel⟩
theorem hC_steps : MV mC_steps 1 := ⟨gC_steps, TG_4 23 (by decide +kernel) rfl, TG_4 24 (by decide +kernel) rfl⟩
theorem gC_each : MG mC_each 2 := ⟨TG_4 29 (by decide +kernel) rfl, TG_1 1 (by decide +kernel) rfl, by decide +kernel, by decide +kernel, by decide +kernel⟩
theorem hC_each : MV mC_each 2 := ⟨gC_each, TG_4 27 (by decide +kernel) rfl, TG_4 28 (by decide +kernel) rfl⟩
theorem gC_isDoctor : MG mC_isDoctor 1 := ⟨TG_4 32 (by decide +kernel) rfl, TG_1 1 (by decide +kernel) rfl, by decide +kernel, by decide +kernel, by decide +kernel⟩
theorem hC_isDoctor : MSt mC_isDoctor 1 := ⟨gC_isDoctor, TG_4 31 (by decide +kernel) rfl⟩
theorem gC_weighNow : MG mC_weighNow 0 := ⟨TG_4 36 (by decide +kernel) rfl, TG_1 1 (by decide +kernel) rfl, by decide +kernel, by decide +kernel, by decide +kernel⟩
theorem hC_weighNow : MV mC_weighNow 0 := ⟨gC_weighNow, TG_4 35 (by decide +kernel) rfl, TG_p 20 (by decide +kernel) rfl⟩
theorem gWe_begin : MG mWe_begin 3 := ⟨TG_4 40 (by decide +kernel) rfl, TG_1 11 (by decide +kernel) rfl, by decide +kernel, by decide +kernel, by decide +kernel⟩
theorem hWe_begin : MV mWe_begin 3 := ⟨gWe_begin, TG_4 38 (by decide +kernel) rfl, TG_4 39 (by decide +kernel) rfl⟩
theorem gWe_opinion : MG mWe_opinion 2 := ⟨TG_4 45 (by decide +kernel) rfl, TG_1 11 (by decide +kernel) rfl, by decide +kernel, by decide +kernel, by decide +kernel⟩
theorem hWe_opinion : MV mWe_opinion 2 := ⟨gWe_opinion, TG_4 43 (by decide +kernel) rfl, TG_4 44 (by decide +kernel) rfl⟩
theorem gWe_settled : MG mWe_settled 3 := ⟨TG_4 49 (by decide +kernel) rfl, TG_1 11 (by decide +kernel) rfl, by decide +kernel, by decide +kernel, by decide +kernel⟩
theorem hWe_settled : MV mWe_settled 3 := ⟨gWe_settled, TG_4 48 (by decide +kernel) rfl, TG_p 21 (by decide +kernel) rfl⟩
theorem gWe_heaviest : MG mWe_heaviest 2 := ⟨TG_4 54 (by decide +kernel) rfl, TG_1 11 (by decide +kernel) rfl, by decide +kernel, by decide +kernel, by decide +kernel⟩
theorem hWe_heaviest : MV mWe_heaviest 2 := ⟨gWe_heaviest, TG_4 53 (by decide +kernel) rfl, TG_p 22 (by decide +kernel) rfl⟩
theorem gC_clash : MG mC_clash 2 := ⟨TG_4 59 (by decide +kernel) rfl, TG_1 1 (by decide +kernel) rfl, by decide +kernel, by decide +kernel, by decide +kernel⟩
theorem hC_clash : MV mC_clash 2 := ⟨gC_clash, TG_4 57 (by decide +kernel) rfl, TG_4 58 (by decide +kernel) rfl⟩
theorem gC_isEither : MG mC_isEither 1 := ⟨TG_4 62 (by decide +kernel) rfl, TG_1 1 (by decide +kernel) rfl, by decide +kernel, by decide +kernel, by decide +kernel⟩
theorem hC_isEither : MSt mC_isEither 1 := ⟨gC_isEither, TG_4 61 (by decide +kernel) rfl⟩
theorem gWe_clashes : MG mWe_clashes 2 := ⟨TG_4 66 (by decide +kernel) rfl, TG_1 11 (by decide +kernel) rfl, by decide +kernel, by decide +kernel, by decide +kernel⟩
theorem hWe_clashes : MV mWe_clashes 2 := ⟨gWe_clashes, TG_4 64 (by decide +kernel) rfl, TG_4 65 (by decide +kernel) rfl⟩
theorem gC_manyOrLeast : MG mC_manyOrLeast 2 := ⟨TG_4 69 (by decide +kernel) rfl, TG_1 1 (by decide +kernel) rfl, by decide +kernel, by decide +kernel, by decide +kernel⟩
theorem hC_manyOrLeast : MSt mC_manyOrLeast 2 := ⟨gC_manyOrLeast, TG_4 68 (by decide +kernel) rfl⟩
theorem gJl_bitCount : MG mJl_bitCount 1 := ⟨TG_4 72 (by decide +kernel) rfl, TG_1 20 (by decide +kernel) rfl, by decide +kernel, by decide +kernel, by decide +kernel⟩
theorem hJl_bitCount : MSt mJl_bitCount 1 := ⟨gJl_bitCount, TG_4 71 (by decide +kernel) rfl⟩
theorem gC_least : MG mC_least 1 := ⟨TG_4 78 (by decide +kernel) rfl, TG_1 1 (by decide +kernel) rfl, by decide +kernel, by decide +kernel, by decide +kernel⟩
theorem hC_least : MSt mC_least 1 := ⟨gC_least, TG_4 77 (by decide +kernel) rfl⟩
theorem gJl_numberOfTrailingZeros : MG mJl_numberOfTrailingZeros 1 := ⟨TG_4 81 (by decide +kernel) rfl, TG_1 20 (by decide +kernel) rfl, by decide +kernel, by decide +kernel, by decide +kernel⟩
theorem hJl_numberOfTrailingZeros : MSt mJl_numberOfTrailingZeros 1 := ⟨gJl_numberOfTrailingZeros, TG_4 80 (by decide +kernel) rfl⟩
theorem gC_sides : MG mC_sides 3 := ⟨TG_4 86 (by decide +kernel) rfl, TG_1 1 (by decide +kernel) rfl, by decide +kernel, by decide +kernel, by decide +kernel⟩
theorem hC_sides : MV mC_sides 3 := ⟨gC_sides, TG_4 84 (by decide +kernel) rfl, TG_4 85 (by decide +kernel) rfl⟩
theorem gC_hangs : MG mC_hangs 2 := ⟨TG_4 90 (by decide +kernel) rfl, TG_1 1 (by decide +kernel) rfl, by decide +kernel, by decide +kernel, by decide +kernel⟩
theorem hC_hangs : MV mC_hangs 2 := ⟨gC_hangs, TG_4 88 (by decide +kernel) rfl, TG_4 89 (by decide +kernel) rfl⟩
theorem gWe_weigh : MG mWe_weigh 1 := ⟨TG_4 94 (by decide +kernel) rfl, TG_1 11 (by decide +kernel) rfl, by decide +kernel, by decide +kernel, by decide +kernel⟩
theorem hWe_weigh : MV mWe_weigh 1 := ⟨gWe_weigh, TG_4 92 (by decide +kernel) rfl, TG_4 93 (by decide +kernel) rfl⟩
theorem gWe_lawIn : MG mWe_lawIn 1 := ⟨TG_4 98 (by decide +kernel) rfl, TG_1 11 (by decide +kernel) rfl, by decide +kernel, by decide +kernel, by decide +kernel⟩
theorem hWe_lawIn : MV mWe_lawIn 1 := ⟨gWe_lawIn, TG_4 97 (by decide +kernel) rfl, TG_p 23 (by decide +kernel) rfl⟩
theorem gWe_headSaying : MG mWe_headSaying 0 := ⟨TG_4 103 (by decide +kernel) rfl, TG_1 11 (by decide +kernel) rfl, by decide +kernel, by decide +kernel, by decide +kernel⟩
theorem hWe_headSaying : MV mWe_headSaying 0 := ⟨gWe_headSaying, TG_4 102 (by decide +kernel) rfl, TG_p 24 (by decide +kernel) rfl⟩
theorem gWe_decider : MG mWe_decider 3 := ⟨TG_4 107 (by decide +kernel) rfl, TG_1 11 (by decide +kernel) rfl, by decide +kernel, by decide +kernel, by decide +kernel⟩
theorem hWe_decider : MV mWe_decider 3 := ⟨gWe_decider, TG_4 106 (by decide +kernel) rfl, TG_p 25 (by decide +kernel) rfl⟩
theorem gWe_answerBy : MG mWe_answerBy 4 := ⟨TG_4 111 (by decide +kernel) rfl, TG_1 11 (by decide +kernel) rfl, by decide +kernel, by decide +kernel, by decide +kernel⟩
theorem hWe_answerBy : MV mWe_answerBy 4 := ⟨gWe_answerBy, TG_4 110 (by decide +kernel) rfl, TG_p 26 (by decide +kernel) rfl⟩
theorem gWe_heldIf : MG mWe_heldIf 2 := ⟨TG_4 115 (by decide +kernel) rfl, TG_1 11 (by decide +kernel) rfl, by decide +kernel, by decide +kernel, by decide +kernel⟩
theorem hWe_heldIf : MV mWe_heldIf 2 := ⟨gWe_heldIf, TG_4 113 (by decide +kernel) rfl, TG_4 114 (by decide +kernel) rfl⟩
theorem gC_held : MG mC_held 2 := ⟨TG_4 119 (by decide +kernel) rfl, TG_1 1 (by decide +kernel) rfl, by decide +kernel, by decide +kernel, by decide +kernel⟩
theorem hC_held : MV mC_held 2 := ⟨gC_held, TG_4 117 (by decide +kernel) rfl, TG_4 118 (by decide +kernel) rfl⟩
theorem gC_cases : MG mC_cases 1 := ⟨TG_4 123 (by decide +kernel) rfl, TG_1 1 (by decide +kernel) rfl, by decide +kernel, by decide +kernel, by decide +kernel⟩
theorem hC_cases : MV mC_cases 1 := ⟨gC_cases, TG_4 121 (by decide +kernel) rfl, TG_4 122 (by decide +kernel) rfl⟩
theorem gC_isKindOfCases : MG mC_isKindOfCases 1 := ⟨TG_4 126 (by decide +kernel) rfl, TG_1 1 (by decide +kernel) rfl, by decide +kernel, by decide +kernel, by decide +kernel⟩
theorem hC_isKindOfCases : MSt mC_isKindOfCases 1 := ⟨gC_isKindOfCases, TG_4 125 (by decide +kernel) rfl⟩
theorem gC_casesNow : MG mC_casesNow 1 := ⟨TG_4 130 (by decide +kernel) rfl, TG_1 1 (by decide +kernel) rfl, by decide +kernel, by decide +kernel, by decide +kernel⟩
theorem hC_casesNow : MV mC_casesNow 1 := ⟨gC_casesNow, TG_4 129 (by decide +kernel) rfl, TG_p 27 (by decide +kernel) rfl⟩
theorem gWe_casesOf : MG mWe_casesOf 1 := ⟨TG_4 134 (by decide +kernel) rfl, TG_1 11 (by decide +kernel) rfl, by decide +kernel, by decide +kernel, by decide +kernel⟩
theorem hWe_casesOf : MV mWe_casesOf 1 := ⟨gWe_casesOf, TG_4 132 (by decide +kernel) rfl, TG_4 133 (by decide +kernel) rfl⟩
theorem gC_many : MG mC_many 1 := ⟨TG_4 139 (by decide +kernel) rfl, TG_1 1 (by decide +kernel) rfl, by decide +kernel, by decide +kernel, by decide +kernel⟩
theorem hC_many : MV mC_many 1 := ⟨gC_many, TG_4 137 (by decide +kernel) rfl, TG_4 138 (by decide +kernel) rfl⟩
theorem gC_reckon : MG mC_reckon 5 := ⟨TG_4 143 (by decide +kernel) rfl, TG_1 1 (by decide +kernel) rfl, by decide +kernel, by decide +kernel, by decide +kernel⟩
theorem hC_reckon : MV mC_reckon 5 := ⟨gC_reckon, TG_4 141 (by decide +kernel) rfl, TG_4 142 (by decide +kernel) rfl⟩
theorem gC_widest : MG mC_widest 1 := ⟨TG_4 147 (by decide +kernel) rfl, TG_1 1 (by decide +kernel) rfl, by decide +kernel, by decide +kernel, by decide +kernel⟩
theorem hC_widest : MV mC_widest 1 := ⟨gC_widest, TG_4 145 (by decide +kernel) rfl, TG_4 146 (by decide +kernel) rfl⟩
theorem gC_near : MG mC_near 3 := ⟨TG_4 152 (by decide +kernel) rfl, TG_1 1 (by decide +kernel) rfl, by decide +kernel, by decide +kernel, by decide +kernel⟩
theorem hC_near : MV mC_near 3 := ⟨gC_near, TG_4 150 (by decide +kernel) rfl, TG_4 151 (by decide +kernel) rfl⟩
theorem gWe_heldIn : MG mWe_heldIn 1 := ⟨TG_4 157 (by decide +kernel) rfl, TG_1 11 (by decide +kernel) rfl, by decide +kernel, by decide +kernel, by decide +kernel⟩
theorem hWe_heldIn : MV mWe_heldIn 1 := ⟨gWe_heldIn, TG_4 155 (by decide +kernel) rfl, TG_4 156 (by decide +kernel) rfl⟩
theorem gC_bring : MG mC_bring 1 := ⟨TG_4 161 (by decide +kernel) rfl, TG_1 1 (by decide +kernel) rfl, by decide +kernel, by decide +kernel, by decide +kernel⟩
theorem hC_bring : MV mC_bring 1 := ⟨gC_bring, TG_4 159 (by decide +kernel) rfl, TG_4 160 (by decide +kernel) rfl⟩
theorem gC_copies : MG mC_copies 2 := ⟨TG_4 165 (by decide +kernel) rfl, TG_1 1 (by decide +kernel) rfl, by decide +kernel, by decide +kernel, by decide +kernel⟩
theorem hC_copies : MV mC_copies 2 := ⟨gC_copies, TG_4 163 (by decide +kernel) rfl, TG_4 164 (by decide +kernel) rfl⟩
theorem gC_argue : MG mC_argue 3 := ⟨TG_4 169 (by decide +kernel) rfl, TG_1 1 (by decide +kernel) rfl, by decide +kernel, by decide +kernel, by decide +kernel⟩
theorem hC_argue : MV mC_argue 3 := ⟨gC_argue, TG_4 167 (by decide +kernel) rfl, TG_4 168 (by decide +kernel) rfl⟩
theorem gC_fewestBooks : MG mC_fewestBooks 2 := ⟨TG_4 173 (by decide +kernel) rfl, TG_1 1 (by decide +kernel) rfl, by decide +kernel, by decide +kernel, by decide +kernel⟩
theorem hC_fewestBooks : MV mC_fewestBooks 2 := ⟨gC_fewestBooks, TG_4 172 (by decide +kernel) rfl, TG_p 28 (by decide +kernel) rfl⟩
theorem gLi_tellingBooks : MG mLi_tellingBooks 1 := ⟨TG_4 177 (by decide +kernel) rfl, TG_1 6 (by decide +kernel) rfl, by decide +kernel, by decide +kernel, by decide +kernel⟩
theorem hLi_tellingBooks : MV mLi_tellingBooks 1 := ⟨gLi_tellingBooks, TG_4 175 (by decide +kernel) rfl, TG_4 176 (by decide +kernel) rfl⟩
theorem gC_game : MG mC_game 3 := ⟨TG_4 181 (by decide +kernel) rfl, TG_1 1 (by decide +kernel) rfl, by decide +kernel, by decide +kernel, by decide +kernel⟩
theorem hC_game : MV mC_game 3 := ⟨gC_game, TG_4 179 (by decide +kernel) rfl, TG_4 180 (by decide +kernel) rfl⟩
theorem gC_turn : MG mC_turn 1 := ⟨TG_4 185 (by decide +kernel) rfl, TG_1 1 (by decide +kernel) rfl, by decide +kernel, by decide +kernel, by decide +kernel⟩
theorem hC_turn : MV mC_turn 1 := ⟨gC_turn, TG_4 183 (by decide +kernel) rfl, TG_4 184 (by decide +kernel) rfl⟩
theorem gFi_best : MG mFi_best 0 := ⟨TG_4 189 (by decide +kernel) rfl, TG_1 12 (by decide +kernel) rfl, by decide +kernel, by decide +kernel, by decide +kernel⟩
theorem hFi_best : MV mFi_best 0 := ⟨gFi_best, TG_4 187 (by decide +kernel) rfl, TG_4 188 (by decide +kernel) rfl⟩
theorem gFi_tallyDoctors : MG mFi_tallyDoctors 0 := ⟨TG_4 195 (by decide +kernel) rfl, TG_1 12 (by decide +kernel) rfl, by decide +kernel, by decide +kernel, by decide +kernel⟩
theorem hFi_tallyDoctors : MV mFi_tallyDoctors 0 := ⟨gFi_tallyDoctors, TG_4 194 (by decide +kernel) rfl, TG_p 29 (by decide +kernel) rfl⟩
theorem gFi_tally : MG mFi_tally 2 := ⟨TG_4 200 (by decide +kernel) rfl, TG_1 12 (by decide +kernel) rfl, by decide +kernel, by decide +kernel, by decide +kernel⟩
theorem hFi_tally : MV mFi_tally 2 := ⟨gFi_tally, TG_4 199 (by decide +kernel) rfl, TG_p 30 (by decide +kernel) rfl⟩
theorem gWe_turnsBy : MG mWe_turnsBy 3 := ⟨TG_4 204 (by decide +kernel) rfl, TG_1 11 (by decide +kernel) rfl, by decide +kernel, by decide +kernel, by decide +kernel⟩
theorem hWe_turnsBy : MV mWe_turnsBy 3 := ⟨gWe_turnsBy, TG_4 202 (by decide +kernel) rfl, TG_4 203 (by decide +kernel) rfl⟩
theorem gFi_doctorAt : MG mFi_doctorAt 1 := ⟨TG_4 210 (by decide +kernel) rfl, TG_1 12 (by decide +kernel) rfl, by decide +kernel, by decide +kernel, by decide +kernel⟩
theorem hFi_doctorAt : MSt mFi_doctorAt 1 := ⟨gFi_doctorAt, TG_4 209 (by decide +kernel) rfl⟩
theorem gFi_answerAt : MG mFi_answerAt 1 := ⟨TG_4 214 (by decide +kernel) rfl, TG_1 12 (by decide +kernel) rfl, by decide +kernel, by decide +kernel, by decide +kernel⟩
theorem hFi_answerAt : MSt mFi_answerAt 1 := ⟨gFi_answerAt, TG_4 213 (by decide +kernel) rfl⟩
theorem gFi_marksAt : MG mFi_marksAt 1 := ⟨TG_4 217 (by decide +kernel) rfl, TG_1 12 (by decide +kernel) rfl, by decide +kernel, by decide +kernel, by decide +kernel⟩
theorem hFi_marksAt : MSt mFi_marksAt 1 := ⟨gFi_marksAt, TG_4 216 (by decide +kernel) rfl⟩
theorem gC_turns : MG mC_turns 3 := ⟨TG_4 221 (by decide +kernel) rfl, TG_1 1 (by decide +kernel) rfl, by decide +kernel, by decide +kernel, by decide +kernel⟩
theorem hC_turns : MV mC_turns 3 := ⟨gC_turns, TG_4 219 (by decide +kernel) rfl, TG_4 220 (by decide +kernel) rfl⟩
theorem gC_keep : MG mC_keep 0 := ⟨TG_4 227 (by decide +kernel) rfl, TG_1 1 (by decide +kernel) rfl, by decide +kernel, by decide +kernel, by decide +kernel⟩
theorem hC_keep : MV mC_keep 0 := ⟨gC_keep, TG_4 225 (by decide +kernel) rfl, TG_4 226 (by decide +kernel) rfl⟩
theorem gRu_becomeAs : MG mRu_becomeAs 1 := ⟨TG_4 231 (by decide +kernel) rfl, TG_1 10 (by decide +kernel) rfl, by decide +kernel, by decide +kernel, by decide +kernel⟩
theorem hRu_becomeAs : MV mRu_becomeAs 1 := ⟨gRu_becomeAs, TG_4 229 (by decide +kernel) rfl, TG_4 230 (by decide +kernel) rfl⟩
theorem gC_swap : MG mC_swap 0 := ⟨TG_4 235 (by decide +kernel) rfl, TG_1 1 (by decide +kernel) rfl, by decide +kernel, by decide +kernel, by decide +kernel⟩
theorem hC_swap : MV mC_swap 0 := ⟨gC_swap, TG_4 233 (by decide +kernel) rfl, TG_4 234 (by decide +kernel) rfl⟩
theorem gC_differ : MG mC_differ 1 := ⟨TG_4 239 (by decide +kernel) rfl, TG_1 1 (by decide +kernel) rfl, by decide +kernel, by decide +kernel, by decide +kernel⟩
theorem hC_differ : MV mC_differ 1 := ⟨gC_differ, TG_4 237 (by decide +kernel) rfl, TG_4 238 (by decide +kernel) rfl⟩
theorem gC_brief : MG mC_brief 1 := ⟨TG_5 3 (by decide +kernel) rfl, TG_1 1 (by decide +kernel) rfl, by decide +kernel, by decide +kernel, by decide +kernel⟩
theorem hC_brief : MV mC_brief 1 := ⟨gC_brief, TG_5 1 (by decide +kernel) rfl, TG_5 2 (by decide +kernel) rfl⟩
theorem gC_tellsApart : MG mC_tellsApart 3 := ⟨TG_5 6 (by decide +kernel) rfl, TG_1 1 (by decide +kernel) rfl, by decide +kernel, by decide +kernel, by decide +kernel⟩
theorem hC_tellsApart : MSt mC_tellsApart 3 := ⟨gC_tellsApart, TG_5 5 (by decide +kernel) rfl⟩
theorem gC_sheet : MG mC_sheet 3 := ⟨TG_5 10 (by decide +kernel) rfl, TG_1 1 (by decide +kernel) rfl, by decide +kernel, by decide +kernel, by decide +kernel⟩
theorem hC_sheet : MV mC_sheet 3 := ⟨gC_sheet, TG_5 8 (by decide +kernel) rfl, TG_5 9 (by decide +kernel) rfl⟩
theorem gC_isSheet : MG mC_isSheet 1 := ⟨TG_5 13 (by decide +kernel) rfl, TG_1 1 (by decide +kernel) rfl, by decide +kernel, by decide +kernel, by decide +kernel⟩
theorem hC_isSheet : MSt mC_isSheet 1 := ⟨gC_isSheet, TG_5 12 (by decide +kernel) rfl⟩
theorem gC_isLane : MG mC_isLane 1 := ⟨TG_5 16 (by decide +kernel) rfl, TG_1 1 (by decide +kernel) rfl, by decide +kernel, by decide +kernel, by decide +kernel⟩
theorem hC_isLane : MSt mC_isLane 1 := ⟨gC_isLane, TG_5 15 (by decide +kernel) rfl⟩
theorem gSh_renew : MG mSh_renew 2 := ⟨TG_5 20 (by decide +kernel) rfl, TG_1 13 (by decide +kernel) rfl, by decide +kernel, by decide +kernel, by decide +kernel⟩
theorem hSh_renew : MV mSh_renew 2 := ⟨gSh_renew, TG_5 18 (by decide +kernel) rfl, TG_5 19 (by decide +kernel) rfl⟩
theorem gC_lay : MG mC_lay 3 := ⟨TG_5 25 (by decide +kernel) rfl, TG_1 1 (by decide +kernel) rfl, by decide +kernel, by decide +kernel, by decide +kernel⟩
theorem hC_lay : MV mC_lay 3 := ⟨gC_lay, TG_5 23 (by decide +kernel) rfl, TG_5 24 (by decide +kernel) rfl⟩
theorem gSh_isNothing : MG mSh_isNothing 0 := ⟨TG_5 29 (by decide +kernel) rfl, TG_1 13 (by decide +kernel) rfl, by decide +kernel, by decide +kernel, by decide +kernel⟩
theorem hSh_isNothing : MV mSh_isNothing 0 := ⟨gSh_isNothing, TG_5 27 (by decide +kernel) rfl, TG_5 28 (by decide +kernel) rfl⟩
theorem gSh_hasCell : MG mSh_hasCell 1 := ⟨TG_5 33 (by decide +kernel) rfl, TG_1 13 (by decide +kernel) rfl, by decide +kernel, by decide +kernel, by decide +kernel⟩
theorem hSh_hasCell : MV mSh_hasCell 1 := ⟨gSh_hasCell, TG_5 31 (by decide +kernel) rfl, TG_5 32 (by decide +kernel) rfl⟩
theorem gSh_put : MG mSh_put 2 := ⟨TG_5 37 (by decide +kernel) rfl, TG_1 13 (by decide +kernel) rfl, by decide +kernel, by decide +kernel, by decide +kernel⟩
theorem hSh_put : MV mSh_put 2 := ⟨gSh_put, TG_5 35 (by decide +kernel) rfl, TG_5 36 (by decide +kernel) rfl⟩
theorem gC_read : MG mC_read 5 := ⟨TG_5 41 (by decide +kernel) rfl, TG_1 1 (by decide +kernel) rfl, by decide +kernel, by decide +kernel, by decide +kernel⟩
theorem hC_read : MV mC_read 5 := ⟨gC_read, TG_5 39 (by decide +kernel) rfl, TG_5 40 (by decide +kernel) rfl⟩
theorem gC_readCells : MG mC_readCells 4 := ⟨TG_5 45 (by decide +kernel) rfl, TG_1 1 (by decide +kernel) rfl, by decide +kernel, by decide +kernel, by decide +kernel⟩
theorem hC_readCells : MV mC_readCells 4 := ⟨gC_readCells, TG_5 44 (by decide +kernel) rfl, TG_p 31 (by decide +kernel) rfl⟩
theorem gC_count : MG mC_count 1 := ⟨TG_5 49 (by decide +kernel) rfl, TG_1 1 (by decide +kernel) rfl, by decide +kernel, by decide +kernel, by decide +kernel⟩
theorem hC_count : MV mC_count 1 := ⟨gC_count, TG_5 47 (by decide +kernel) rfl, TG_5 48 (by decide +kernel) rfl⟩
theorem gM_init : MG mM_init 0 := ⟨TG_5 54 (by decide +kernel) rfl, TG_1 14 (by decide +kernel) rfl, by decide +kernel, by decide +kernel, by decide +kernel⟩
theorem hM_init : MIn mM_init 0 := ⟨gM_init, TG_5 53 (by decide +kernel) rfl, rfl, rfl⟩
theorem gM_firstLibrary : MG mM_firstLibrary 0 := ⟨TG_5 59 (by decide +kernel) rfl, TG_1 14 (by decide +kernel) rfl, by decide +kernel, by decide +kernel, by decide +kernel⟩
theorem hM_firstLibrary : MV mM_firstLibrary 0 := ⟨gM_firstLibrary, TG_5 58 (by decide +kernel) rfl, TG_p 32 (by decide +kernel) rfl⟩
theorem gM_keepLibrary : MG mM_keepLibrary 0 := ⟨TG_5 63 (by decide +kernel) rfl, TG_1 14 (by decide +kernel) rfl, by decide +kernel, by decide +kernel, by decide +kernel⟩
theorem hM_keepLibrary : MV mM_keepLibrary 0 := ⟨gM_keepLibrary, TG_5 62 (by decide +kernel) rfl, TG_p 33 (by decide +kernel) rfl⟩
theorem gM_findFollowing : MG mM_findFollowing 0 := ⟨TG_5 67 (by decide +kernel) rfl, TG_1 14 (by decide +kernel) rfl, by decide +kernel, by decide +kernel, by decide +kernel⟩
theorem hM_findFollowing : MV mM_findFollowing 0 := ⟨gM_findFollowing, TG_5 66 (by decide +kernel) rfl, TG_p 34 (by decide +kernel) rfl⟩
theorem gM_followed : MG mM_followed 1 := ⟨TG_5 71 (by decide +kernel) rfl, TG_1 14 (by decide +kernel) rfl, by decide +kernel, by decide +kernel, by decide +kernel⟩
theorem hM_followed : MV mM_followed 1 := ⟨gM_followed, TG_5 70 (by decide +kernel) rfl, TG_p 35 (by decide +kernel) rfl⟩
theorem gM_of : MG mM_of 2 := ⟨TG_5 75 (by decide +kernel) rfl, TG_1 14 (by decide +kernel) rfl, by decide +kernel, by decide +kernel, by decide +kernel⟩
theorem hM_of : MV mM_of 2 := ⟨gM_of, TG_5 74 (by decide +kernel) rfl, TG_p 36 (by decide +kernel) rfl⟩
theorem gM_findSaid : MG mM_findSaid 0 := ⟨TG_5 79 (by decide +kernel) rfl, TG_1 14 (by decide +kernel) rfl, by decide +kernel, by decide +kernel, by decide +kernel⟩
theorem hM_findSaid : MV mM_findSaid 0 := ⟨gM_findSaid, TG_5 78 (by decide +kernel) rfl, TG_p 37 (by decide +kernel) rfl⟩
theorem gM_isUnsound : MG mM_isUnsound 1 := ⟨TG_5 83 (by decide +kernel) rfl, TG_1 14 (by decide +kernel) rfl, by decide +kernel, by decide +kernel, by decide +kernel⟩
theorem hM_isUnsound : MV mM_isUnsound 1 := ⟨gM_isUnsound, TG_5 82 (by decide +kernel) rfl, TG_p 38 (by decide +kernel) rfl⟩
theorem gM_sayWord : MG mM_sayWord 1 := ⟨TG_5 87 (by decide +kernel) rfl, TG_1 14 (by decide +kernel) rfl, by decide +kernel, by decide +kernel, by decide +kernel⟩
theorem hM_sayWord : MV mM_sayWord 1 := ⟨gM_sayWord, TG_5 86 (by decide +kernel) rfl, TG_p 39 (by decide +kernel) rfl⟩
theorem gM_casesWith : MG mM_casesWith 2 := ⟨TG_5 91 (by decide +kernel) rfl, TG_1 14 (by decide +kernel) rfl, by decide +kernel, by decide +kernel, by decide +kernel⟩
theorem hM_casesWith : MV mM_casesWith 2 := ⟨gM_casesWith, TG_5 90 (by decide +kernel) rfl, TG_p 40 (by decide +kernel) rfl⟩
theorem gM_firstRule : MG mM_firstRule 0 := ⟨TG_5 95 (by decide +kernel) rfl, TG_1 14 (by decide +kernel) rfl, by decide +kernel, by decide +kernel, by decide +kernel⟩
theorem hM_firstRule : MV mM_firstRule 0 := ⟨gM_firstRule, TG_5 94 (by decide +kernel) rfl, TG_p 41 (by decide +kernel) rfl⟩
theorem gM_feed : MG mM_feed 1 := ⟨TG_5 231 (by decide +kernel) rfl, TG_1 14 (by decide +kernel) rfl, by decide +kernel, by decide +kernel, by decide +kernel⟩
theorem hM_feed : MV mM_feed 1 := ⟨gM_feed, TG_5 229 (by decide +kernel) rfl, TG_5 230 (by decide +kernel) rfl⟩
theorem gM_end : MG mM_end 1 := ⟨TG_5 236 (by decide +kernel) rfl, TG_1 14 (by decide +kernel) rfl, by decide +kernel, by decide +kernel, by decide +kernel⟩
theorem hM_end : MV mM_end 1 := ⟨gM_end, TG_5 234 (by decide +kernel) rfl, TG_5 235 (by decide +kernel) rfl⟩
theorem gM_in : MG mM_in 3 := ⟨TG_5 239 (by decide +kernel) rfl, TG_1 14 (by decide +kernel) rfl, by decide +kernel, by decide +kernel, by decide +kernel⟩
theorem hM_in : MSt mM_in 3 := ⟨gM_in, TG_5 238 (by decide +kernel) rfl⟩
theorem gM_library : MG mM_library 0 := ⟨TG_6 3 (by decide +kernel) rfl, TG_1 14 (by decide +kernel) rfl, by decide +kernel, by decide +kernel, by decide +kernel⟩
theorem hM_library : MV mM_library 0 := ⟨gM_library, TG_6 1 (by decide +kernel) rfl, TG_6 2 (by decide +kernel) rfl⟩
theorem gM_next : MG mM_next 0 := ⟨TG_6 7 (by decide +kernel) rfl, TG_1 14 (by decide +kernel) rfl, by decide +kernel, by decide +kernel, by decide +kernel⟩
theorem hM_next : MV mM_next 0 := ⟨gM_next, TG_6 6 (by decide +kernel) rfl, TG_p 42 (by decide +kernel) rfl⟩
theorem gM_look : MG mM_look 1 := ⟨TG_6 11 (by decide +kernel) rfl, TG_1 14 (by decide +kernel) rfl, by decide +kernel, by decide +kernel, by decide +kernel⟩
theorem hM_look : MV mM_look 1 := ⟨gM_look, TG_6 10 (by decide +kernel) rfl, TG_p 43 (by decide +kernel) rfl⟩
theorem gM_wants : MG mM_wants 2 := ⟨TG_6 19 (by decide +kernel) rfl, TG_1 14 (by decide +kernel) rfl, by decide +kernel, by decide +kernel, by decide +kernel⟩
theorem hM_wants : MV mM_wants 2 := ⟨gM_wants, TG_6 18 (by decide +kernel) rfl, TG_p 44 (by decide +kernel) rfl⟩
theorem gM_readLine : MG mM_readLine 0 := ⟨TG_6 23 (by decide +kernel) rfl, TG_1 14 (by decide +kernel) rfl, by decide +kernel, by decide +kernel, by decide +kernel⟩
theorem hM_readLine : MV mM_readLine 0 := ⟨gM_readLine, TG_6 22 (by decide +kernel) rfl, TG_p 45 (by decide +kernel) rfl⟩
theorem gM_nameNow : MG mM_nameNow 0 := ⟨TG_6 27 (by decide +kernel) rfl, TG_1 14 (by decide +kernel) rfl, by decide +kernel, by decide +kernel, by decide +kernel⟩
theorem hM_nameNow : MV mM_nameNow 0 := ⟨gM_nameNow, TG_6 26 (by decide +kernel) rfl, TG_p 46 (by decide +kernel) rfl⟩
theorem gM_is : MG mM_is 5 := ⟨TG_6 31 (by decide +kernel) rfl, TG_1 14 (by decide +kernel) rfl, by decide +kernel, by decide +kernel, by decide +kernel⟩
theorem hM_is : MV mM_is 5 := ⟨gM_is, TG_6 30 (by decide +kernel) rfl, TG_p 47 (by decide +kernel) rfl⟩
theorem gM_goesOn : MG mM_goesOn 4 := ⟨TG_6 35 (by decide +kernel) rfl, TG_1 14 (by decide +kernel) rfl, by decide +kernel, by decide +kernel, by decide +kernel⟩
theorem hM_goesOn : MV mM_goesOn 4 := ⟨gM_goesOn, TG_6 34 (by decide +kernel) rfl, TG_p 48 (by decide +kernel) rfl⟩
theorem gM_ruleNameNow : MG mM_ruleNameNow 0 := ⟨TG_6 39 (by decide +kernel) rfl, TG_1 14 (by decide +kernel) rfl, by decide +kernel, by decide +kernel, by decide +kernel⟩
theorem hM_ruleNameNow : MV mM_ruleNameNow 0 := ⟨gM_ruleNameNow, TG_6 38 (by decide +kernel) rfl, TG_p 49 (by decide +kernel) rfl⟩
theorem gM_readNumber : MG mM_readNumber 2 := ⟨TG_6 44 (by decide +kernel) rfl, TG_1 14 (by decide +kernel) rfl, by decide +kernel, by decide +kernel, by decide +kernel⟩
theorem hM_readNumber : MV mM_readNumber 2 := ⟨gM_readNumber, TG_6 43 (by decide +kernel) rfl, TG_p 50 (by decide +kernel) rfl⟩
theorem gM_isNumber : MG mM_isNumber 2 := ⟨TG_6 48 (by decide +kernel) rfl, TG_1 14 (by decide +kernel) rfl, by decide +kernel, by decide +kernel, by decide +kernel⟩
theorem hM_isNumber : MV mM_isNumber 2 := ⟨gM_isNumber, TG_6 47 (by decide +kernel) rfl, TG_p 51 (by decide +kernel) rfl⟩
theorem gM_readCopies : MG mM_readCopies 0 := ⟨TG_6 52 (by decide +kernel) rfl, TG_1 14 (by decide +kernel) rfl, by decide +kernel, by decide +kernel, by decide +kernel⟩
theorem hM_readCopies : MV mM_readCopies 0 := ⟨gM_readCopies, TG_6 51 (by decide +kernel) rfl, TG_p 52 (by decide +kernel) rfl⟩
theorem gM_readWord : MG mM_readWord 1 := ⟨TG_6 56 (by decide +kernel) rfl, TG_1 14 (by decide +kernel) rfl, by decide +kernel, by decide +kernel, by decide +kernel⟩
theorem hM_readWord : MV mM_readWord 1 := ⟨gM_readWord, TG_6 55 (by decide +kernel) rfl, TG_p 53 (by decide +kernel) rfl⟩
theorem gM_readDoctor : MG mM_readDoctor 0 := ⟨TG_6 60 (by decide +kernel) rfl, TG_1 14 (by decide +kernel) rfl, by decide +kernel, by decide +kernel, by decide +kernel⟩
theorem hM_readDoctor : MV mM_readDoctor 0 := ⟨gM_readDoctor, TG_6 59 (by decide +kernel) rfl, TG_p 54 (by decide +kernel) rfl⟩
theorem gM_readMarks : MG mM_readMarks 1 := ⟨TG_6 65 (by decide +kernel) rfl, TG_1 14 (by decide +kernel) rfl, by decide +kernel, by decide +kernel, by decide +kernel⟩
theorem hM_readMarks : MV mM_readMarks 1 := ⟨gM_readMarks, TG_6 64 (by decide +kernel) rfl, TG_p 55 (by decide +kernel) rfl⟩
theorem gM_letters : MG mM_letters 2 := ⟨TG_6 69 (by decide +kernel) rfl, TG_1 14 (by decide +kernel) rfl, by decide +kernel, by decide +kernel, by decide +kernel⟩
theorem hM_letters : MV mM_letters 2 := ⟨gM_letters, TG_6 68 (by decide +kernel) rfl, TG_p 56 (by decide +kernel) rfl⟩
theorem gM_readAnswer : MG mM_readAnswer 0 := ⟨TG_6 73 (by decide +kernel) rfl, TG_1 14 (by decide +kernel) rfl, by decide +kernel, by decide +kernel, by decide +kernel⟩
theorem hM_readAnswer : MV mM_readAnswer 0 := ⟨gM_readAnswer, TG_6 72 (by decide +kernel) rfl, TG_p 57 (by decide +kernel) rfl⟩
theorem gM_endLine : MG mM_endLine 0 := ⟨TG_6 78 (by decide +kernel) rfl, TG_1 14 (by decide +kernel) rfl, by decide +kernel, by decide +kernel, by decide +kernel⟩
theorem hM_endLine : MV mM_endLine 0 := ⟨gM_endLine, TG_6 77 (by decide +kernel) rfl, TG_p 58 (by decide +kernel) rfl⟩
theorem gM_checks : MG mM_checks 0 := ⟨TG_6 82 (by decide +kernel) rfl, TG_1 14 (by decide +kernel) rfl, by decide +kernel, by decide +kernel, by decide +kernel⟩
theorem hM_checks : MV mM_checks 0 := ⟨gM_checks, TG_6 81 (by decide +kernel) rfl, TG_p 59 (by decide +kernel) rfl⟩
theorem gM_rule : MG mM_rule 0 := ⟨TG_6 86 (by decide +kernel) rfl, TG_1 14 (by decide +kernel) rfl, by decide +kernel, by decide +kernel, by decide +kernel⟩
theorem hM_rule : MV mM_rule 0 := ⟨gM_rule, TG_6 84 (by decide +kernel) rfl, TG_6 85 (by decide +kernel) rfl⟩
theorem gM_readRule : MG mM_readRule 0 := ⟨TG_6 90 (by decide +kernel) rfl, TG_1 14 (by decide +kernel) rfl, by decide +kernel, by decide +kernel, by decide +kernel⟩
theorem hM_readRule : MV mM_readRule 0 := ⟨gM_readRule, TG_6 89 (by decide +kernel) rfl, TG_p 60 (by decide +kernel) rfl⟩
theorem gM_rowOf : MG mM_rowOf 1 := ⟨TG_6 93 (by decide +kernel) rfl, TG_1 14 (by decide +kernel) rfl, by decide +kernel, by decide +kernel, by decide +kernel⟩
theorem hM_rowOf : MSt mM_rowOf 1 := ⟨gM_rowOf, TG_6 92 (by decide +kernel) rfl⟩
theorem gM_readMain : MG mM_readMain 0 := ⟨TG_6 97 (by decide +kernel) rfl, TG_1 14 (by decide +kernel) rfl, by decide +kernel, by decide +kernel, by decide +kernel⟩
theorem hM_readMain : MV mM_readMain 0 := ⟨gM_readMain, TG_6 96 (by decide +kernel) rfl, TG_p 61 (by decide +kernel) rfl⟩
theorem gM_oneOf : MG mM_oneOf 6 := ⟨TG_6 101 (by decide +kernel) rfl, TG_1 14 (by decide +kernel) rfl, by decide +kernel, by decide +kernel, by decide +kernel⟩
theorem hM_oneOf : MV mM_oneOf 6 := ⟨gM_oneOf, TG_6 100 (by decide +kernel) rfl, TG_p 62 (by decide +kernel) rfl⟩
theorem gM_fault : MG mM_fault 0 := ⟨TG_6 105 (by decide +kernel) rfl, TG_1 14 (by decide +kernel) rfl, by decide +kernel, by decide +kernel, by decide +kernel⟩
theorem hM_fault : MV mM_fault 0 := ⟨gM_fault, TG_6 103 (by decide +kernel) rfl, TG_6 104 (by decide +kernel) rfl⟩
theorem gM_weighs : MG mM_weighs 1 := ⟨TG_6 109 (by decide +kernel) rfl, TG_1 14 (by decide +kernel) rfl, by decide +kernel, by decide +kernel, by decide +kernel⟩
theorem hM_weighs : MV mM_weighs 1 := ⟨gM_weighs, TG_6 107 (by decide +kernel) rfl, TG_6 108 (by decide +kernel) rfl⟩
theorem gM_word : MG mM_word 2 := ⟨TG_6 114 (by decide +kernel) rfl, TG_1 14 (by decide +kernel) rfl, by decide +kernel, by decide +kernel, by decide +kernel⟩
theorem hM_word : MV mM_word 2 := ⟨gM_word, TG_6 112 (by decide +kernel) rfl, TG_6 113 (by decide +kernel) rfl⟩
theorem gM_isWord : MG mM_isWord 1 := ⟨TG_6 118 (by decide +kernel) rfl, TG_1 14 (by decide +kernel) rfl, by decide +kernel, by decide +kernel, by decide +kernel⟩
theorem hM_isWord : MV mM_isWord 1 := ⟨gM_isWord, TG_6 117 (by decide +kernel) rfl, TG_p 63 (by decide +kernel) rfl⟩
theorem gM_weightOf : MG mM_weightOf 1 := ⟨TG_6 123 (by decide +kernel) rfl, TG_1 14 (by decide +kernel) rfl, by decide +kernel, by decide +kernel, by decide +kernel⟩
theorem hM_weightOf : MV mM_weightOf 1 := ⟨gM_weightOf, TG_6 122 (by decide +kernel) rfl, TG_p 64 (by decide +kernel) rfl⟩
theorem gM_countOf : MG mM_countOf 1 := ⟨TG_6 126 (by decide +kernel) rfl, TG_1 14 (by decide +kernel) rfl, by decide +kernel, by decide +kernel, by decide +kernel⟩
theorem hM_countOf : MSt mM_countOf 1 := ⟨gM_countOf, TG_6 125 (by decide +kernel) rfl⟩
theorem gM_says : MG mM_says 2 := ⟨TG_6 130 (by decide +kernel) rfl, TG_1 14 (by decide +kernel) rfl, by decide +kernel, by decide +kernel, by decide +kernel⟩
theorem hM_says : MV mM_says 2 := ⟨gM_says, TG_6 128 (by decide +kernel) rfl, TG_6 129 (by decide +kernel) rfl⟩
theorem gM_isCase : MG mM_isCase 1 := ⟨TG_6 133 (by decide +kernel) rfl, TG_1 14 (by decide +kernel) rfl, by decide +kernel, by decide +kernel, by decide +kernel⟩
theorem hM_isCase : MSt mM_isCase 1 := ⟨gM_isCase, TG_6 132 (by decide +kernel) rfl⟩
theorem gM_told : MG mM_told 3 := ⟨TG_6 137 (by decide +kernel) rfl, TG_1 14 (by decide +kernel) rfl, by decide +kernel, by decide +kernel, by decide +kernel⟩
theorem hM_told : MSt mM_told 3 := ⟨gM_told, TG_6 136 (by decide +kernel) rfl⟩
theorem gM_words : MG mM_words 1 := ⟨TG_6 141 (by decide +kernel) rfl, TG_1 14 (by decide +kernel) rfl, by decide +kernel, by decide +kernel, by decide +kernel⟩
theorem hM_words : MV mM_words 1 := ⟨gM_words, TG_6 139 (by decide +kernel) rfl, TG_6 140 (by decide +kernel) rfl⟩
theorem gM_counts : MG mM_counts 1 := ⟨TG_6 146 (by decide +kernel) rfl, TG_1 14 (by decide +kernel) rfl, by decide +kernel, by decide +kernel, by decide +kernel⟩
theorem hM_counts : MV mM_counts 1 := ⟨gM_counts, TG_6 145 (by decide +kernel) rfl, TG_p 65 (by decide +kernel) rfl⟩
theorem gM_meets : MG mM_meets 2 := ⟨TG_6 150 (by decide +kernel) rfl, TG_1 14 (by decide +kernel) rfl, by decide +kernel, by decide +kernel, by decide +kernel⟩
theorem hM_meets : MV mM_meets 2 := ⟨gM_meets, TG_6 148 (by decide +kernel) rfl, TG_6 149 (by decide +kernel) rfl⟩
theorem gM_steps : MG mM_steps 1 := ⟨TG_6 154 (by decide +kernel) rfl, TG_1 14 (by decide +kernel) rfl, by decide +kernel, by decide +kernel, by decide +kernel⟩
theorem hM_steps : MV mM_steps 1 := ⟨gM_steps, TG_6 152 (by decide +kernel) rfl, TG_6 153 (by decide +kernel) rfl⟩
theorem gM_each : MG mM_each 2 := ⟨TG_6 158 (by decide +kernel) rfl, TG_1 14 (by decide +kernel) rfl, by decide +kernel, by decide +kernel, by decide +kernel⟩
theorem hM_each : MV mM_each 2 := ⟨gM_each, TG_6 156 (by decide +kernel) rfl, TG_6 157 (by decide +kernel) rfl⟩
theorem gM_isDoctor : MG mM_isDoctor 1 := ⟨TG_6 161 (by decide +kernel) rfl, TG_1 14 (by decide +kernel) rfl, by decide +kernel, by decide +kernel, by decide +kernel⟩
theorem hM_isDoctor : MSt mM_isDoctor 1 := ⟨gM_isDoctor, TG_6 160 (by decide +kernel) rfl⟩
theorem gM_findEach : MG mM_findEach 0 := ⟨TG_6 165 (by decide +kernel) rfl, TG_1 14 (by decide +kernel) rfl, by decide +kernel, by decide +kernel, by decide +kernel⟩
theorem hM_findEach : MV mM_findEach 0 := ⟨gM_findEach, TG_6 164 (by decide +kernel) rfl, TG_p 66 (by decide +kernel) rfl⟩
theorem gM_findOne : MG mM_findOne 1 := ⟨TG_6 169 (by decide +kernel) rfl, TG_1 14 (by decide +kernel) rfl, by decide +kernel, by decide +kernel, by decide +kernel⟩
theorem hM_findOne : MV mM_findOne 1 := ⟨gM_findOne, TG_6 168 (by decide +kernel) rfl, TG_p 67 (by decide +kernel) rfl⟩
theorem gM_ofTwo : MG mM_ofTwo 2 := ⟨TG_6 174 (by decide +kernel) rfl, TG_1 14 (by decide +kernel) rfl, by decide +kernel, by decide +kernel, by decide +kernel⟩
theorem hM_ofTwo : MV mM_ofTwo 2 := ⟨gM_ofTwo, TG_6 173 (by decide +kernel) rfl, TG_p 68 (by decide +kernel) rfl⟩
theorem gM_clash : MG mM_clash 2 := ⟨TG_6 178 (by decide +kernel) rfl, TG_1 14 (by decide +kernel) rfl, by decide +kernel, by decide +kernel, by decide +kernel⟩
theorem hM_clash : MV mM_clash 2 := ⟨gM_clash, TG_6 176 (by decide +kernel) rfl, TG_6 177 (by decide +kernel) rfl⟩
theorem gM_manyOf : MG mM_manyOf 1 := ⟨TG_6 181 (by decide +kernel) rfl, TG_1 14 (by decide +kernel) rfl, by decide +kernel, by decide +kernel, by decide +kernel⟩
theorem hM_manyOf : MSt mM_manyOf 1 := ⟨gM_manyOf, TG_6 180 (by decide +kernel) rfl⟩
theorem gM_firstOf : MG mM_firstOf 1 := ⟨TG_6 184 (by decide +kernel) rfl, TG_1 14 (by decide +kernel) rfl, by decide +kernel, by decide +kernel, by decide +kernel⟩
theorem hM_firstOf : MSt mM_firstOf 1 := ⟨gM_firstOf, TG_6 183 (by decide +kernel) rfl⟩
theorem gM_sides : MG mM_sides 3 := ⟨TG_6 188 (by decide +kernel) rfl, TG_1 14 (by decide +kernel) rfl, by decide +kernel, by decide +kernel, by decide +kernel⟩
theorem hM_sides : MV mM_sides 3 := ⟨gM_sides, TG_6 186 (by decide +kernel) rfl, TG_6 187 (by decide +kernel) rfl⟩
theorem gM_hangs : MG mM_hangs 2 := ⟨TG_6 192 (by decide +kernel) rfl, TG_1 14 (by decide +kernel) rfl, by decide +kernel, by decide +kernel, by decide +kernel⟩
theorem hM_hangs : MV mM_hangs 2 := ⟨gM_hangs, TG_6 190 (by decide +kernel) rfl, TG_6 191 (by decide +kernel) rfl⟩
theorem gM_findAll : MG mM_findAll 0 := ⟨TG_6 196 (by decide +kernel) rfl, TG_1 14 (by decide +kernel) rfl, by decide +kernel, by decide +kernel, by decide +kernel⟩
theorem hM_findAll : MV mM_findAll 0 := ⟨gM_findAll, TG_6 195 (by decide +kernel) rfl, TG_p 69 (by decide +kernel) rfl⟩
theorem gM_findHeld : MG mM_findHeld 0 := ⟨TG_6 200 (by decide +kernel) rfl, TG_1 14 (by decide +kernel) rfl, by decide +kernel, by decide +kernel, by decide +kernel⟩
theorem hM_findHeld : MV mM_findHeld 0 := ⟨gM_findHeld, TG_6 199 (by decide +kernel) rfl, TG_p 70 (by decide +kernel) rfl⟩
theorem gM_lawOf : MG mM_lawOf 1 := ⟨TG_6 204 (by decide +kernel) rfl, TG_1 14 (by decide +kernel) rfl, by decide +kernel, by decide +kernel, by decide +kernel⟩
theorem hM_lawOf : MV mM_lawOf 1 := ⟨gM_lawOf, TG_6 203 (by decide +kernel) rfl, TG_p 71 (by decide +kernel) rfl⟩
theorem gM_keepHeld : MG mM_keepHeld 0 := ⟨TG_6 208 (by decide +kernel) rfl, TG_1 14 (by decide +kernel) rfl, by decide +kernel, by decide +kernel, by decide +kernel⟩
theorem hM_keepHeld : MV mM_keepHeld 0 := ⟨gM_keepHeld, TG_6 207 (by decide +kernel) rfl, TG_p 72 (by decide +kernel) rfl⟩
theorem gM_findChanged : MG mM_findChanged 0 := ⟨TG_6 212 (by decide +kernel) rfl, TG_1 14 (by decide +kernel) rfl, by decide +kernel, by decide +kernel, by decide +kernel⟩
theorem hM_findChanged : MV mM_findChanged 0 := ⟨gM_findChanged, TG_6 211 (by decide +kernel) rfl, TG_p 73 (by decide +kernel) rfl⟩
theorem gM_held : MG mM_held 2 := ⟨TG_6 216 (by decide +kernel) rfl, TG_1 14 (by decide +kernel) rfl, by decide +kernel, by decide +kernel, by decide +kernel⟩
theorem hM_held : MV mM_held 2 := ⟨gM_held, TG_6 214 (by decide +kernel) rfl, TG_6 215 (by decide +kernel) rfl⟩
theorem gM_cases : MG mM_cases 1 := ⟨TG_6 220 (by decide +kernel) rfl, TG_1 14 (by decide +kernel) rfl, by decide +kernel, by decide +kernel, by decide +kernel⟩
theorem hM_cases : MV mM_cases 1 := ⟨gM_cases, TG_6 218 (by decide +kernel) rfl, TG_6 219 (by decide +kernel) rfl⟩
theorem gM_areAsked : MG mM_areAsked 1 := ⟨TG_6 224 (by decide +kernel) rfl, TG_1 14 (by decide +kernel) rfl, by decide +kernel, by decide +kernel, by decide +kernel⟩
theorem hM_areAsked : MV mM_areAsked 1 := ⟨gM_areAsked, TG_6 223 (by decide +kernel) rfl, TG_p 74 (by decide +kernel) rfl⟩
theorem gM_many : MG mM_many 1 := ⟨TG_6 230 (by decide +kernel) rfl, TG_1 14 (by decide +kernel) rfl, by decide +kernel, by decide +kernel, by decide +kernel⟩
theorem hM_many : MV mM_many 1 := ⟨gM_many, TG_6 228 (by decide +kernel) rfl, TG_6 229 (by decide +kernel) rfl⟩
theorem gM_reckon : MG mM_reckon 5 := ⟨TG_6 235 (by decide +kernel) rfl, TG_1 14 (by decide +kernel) rfl, by decide +kernel, by decide +kernel, by decide +kernel⟩
theorem hM_reckon : MV mM_reckon 5 := ⟨gM_reckon, TG_6 233 (by decide +kernel) rfl, TG_6 234 (by decide +kernel) rfl⟩
theorem gM_widest : MG mM_widest 1 := ⟨TG_6 239 (by decide +kernel) rfl, TG_1 14 (by decide +kernel) rfl, by decide +kernel, by decide +kernel, by decide +kernel⟩
theorem hM_widest : MV mM_widest 1 := ⟨gM_widest, TG_6 237 (by decide +kernel) rfl, TG_6 238 (by decide +kernel) rfl⟩
theorem gM_near : MG mM_near 3 := ⟨TG_7 3 (by decide +kernel) rfl, TG_1 14 (by decide +kernel) rfl, by decide +kernel, by decide +kernel, by decide +kernel⟩
theorem hM_near : MV mM_near 3 := ⟨gM_near, TG_7 1 (by decide +kernel) rfl, TG_7 2 (by decide +kernel) rfl⟩
theorem gM_bring : MG mM_bring 1 := ⟨TG_7 7 (by decide +kernel) rfl, TG_1 14 (by decide +kernel) rfl, by decide +kernel, by decide +kernel, by decide +kernel⟩
theorem hM_bring : MV mM_bring 1 := ⟨gM_bring, TG_7 5 (by decide +kernel) rfl, TG_7 6 (by decide +kernel) rfl⟩
theorem gM_copies : MG mM_copies 2 := ⟨TG_7 11 (by decide +kernel) rfl, TG_1 14 (by decide +kernel) rfl, by decide +kernel, by decide +kernel, by decide +kernel⟩
theorem hM_copies : MV mM_copies 2 := ⟨gM_copies, TG_7 9 (by decide +kernel) rfl, TG_7 10 (by decide +kernel) rfl⟩
theorem gM_argue : MG mM_argue 3 := ⟨TG_7 16 (by decide +kernel) rfl, TG_1 14 (by decide +kernel) rfl, by decide +kernel, by decide +kernel, by decide +kernel⟩
theorem hM_argue : MV mM_argue 3 := ⟨gM_argue, TG_7 14 (by decide +kernel) rfl, TG_7 15 (by decide +kernel) rfl⟩
theorem gM_game : MG mM_game 3 := ⟨TG_7 20 (by decide +kernel) rfl, TG_1 14 (by decide +kernel) rfl, by decide +kernel, by decide +kernel, by decide +kernel⟩
theorem hM_game : MV mM_game 3 := ⟨gM_game, TG_7 18 (by decide +kernel) rfl, TG_7 19 (by decide +kernel) rfl⟩
theorem gM_findGame : MG mM_findGame 1 := ⟨TG_7 24 (by decide +kernel) rfl, TG_1 14 (by decide +kernel) rfl, by decide +kernel, by decide +kernel, by decide +kernel⟩
theorem hM_findGame : MV mM_findGame 1 := ⟨gM_findGame, TG_7 23 (by decide +kernel) rfl, TG_p 75 (by decide +kernel) rfl⟩
theorem gM_bestTurn : MG mM_bestTurn 3 := ⟨TG_7 28 (by decide +kernel) rfl, TG_1 14 (by decide +kernel) rfl, by decide +kernel, by decide +kernel, by decide +kernel⟩
theorem hM_bestTurn : MV mM_bestTurn 3 := ⟨gM_bestTurn, TG_7 27 (by decide +kernel) rfl, TG_p 76 (by decide +kernel) rfl⟩
theorem gM_turn : MG mM_turn 1 := ⟨TG_7 32 (by decide +kernel) rfl, TG_1 14 (by decide +kernel) rfl, by decide +kernel, by decide +kernel, by decide +kernel⟩
theorem hM_turn : MV mM_turn 1 := ⟨gM_turn, TG_7 30 (by decide +kernel) rfl, TG_7 31 (by decide +kernel) rfl⟩
theorem gM_turnsBy : MG mM_turnsBy 3 := ⟨TG_7 36 (by decide +kernel) rfl, TG_1 14 (by decide +kernel) rfl, by decide +kernel, by decide +kernel, by decide +kernel⟩
theorem hM_turnsBy : MV mM_turnsBy 3 := ⟨gM_turnsBy, TG_7 35 (by decide +kernel) rfl, TG_p 77 (by decide +kernel) rfl⟩
theorem gM_turns : MG mM_turns 3 := ⟨TG_7 40 (by decide +kernel) rfl, TG_1 14 (by decide +kernel) rfl, by decide +kernel, by decide +kernel, by decide +kernel⟩
theorem hM_turns : MV mM_turns 3 := ⟨gM_turns, TG_7 38 (by decide +kernel) rfl, TG_7 39 (by decide +kernel) rfl⟩
theorem gM_keep : MG mM_keep 0 := ⟨TG_7 44 (by decide +kernel) rfl, TG_1 14 (by decide +kernel) rfl, by decide +kernel, by decide +kernel, by decide +kernel⟩
theorem hM_keep : MV mM_keep 0 := ⟨gM_keep, TG_7 42 (by decide +kernel) rfl, TG_7 43 (by decide +kernel) rfl⟩
theorem gM_swap : MG mM_swap 0 := ⟨TG_7 48 (by decide +kernel) rfl, TG_1 14 (by decide +kernel) rfl, by decide +kernel, by decide +kernel, by decide +kernel⟩
theorem hM_swap : MV mM_swap 0 := ⟨gM_swap, TG_7 46 (by decide +kernel) rfl, TG_7 47 (by decide +kernel) rfl⟩
theorem gM_differ : MG mM_differ 1 := ⟨TG_7 52 (by decide +kernel) rfl, TG_1 14 (by decide +kernel) rfl, by decide +kernel, by decide +kernel, by decide +kernel⟩
theorem hM_differ : MV mM_differ 1 := ⟨gM_differ, TG_7 50 (by decide +kernel) rfl, TG_7 51 (by decide +kernel) rfl⟩
theorem gM_brief : MG mM_brief 1 := ⟨TG_7 57 (by decide +kernel) rfl, TG_1 14 (by decide +kernel) rfl, by decide +kernel, by decide +kernel, by decide +kernel⟩
theorem hM_brief : MV mM_brief 1 := ⟨gM_brief, TG_7 55 (by decide +kernel) rfl, TG_7 56 (by decide +kernel) rfl⟩
theorem gM_sheet : MG mM_sheet 3 := ⟨TG_7 61 (by decide +kernel) rfl, TG_1 14 (by decide +kernel) rfl, by decide +kernel, by decide +kernel, by decide +kernel⟩
theorem hM_sheet : MV mM_sheet 3 := ⟨gM_sheet, TG_7 59 (by decide +kernel) rfl, TG_7 60 (by decide +kernel) rfl⟩
theorem gM_isSheet : MG mM_isSheet 2 := ⟨TG_7 64 (by decide +kernel) rfl, TG_1 14 (by decide +kernel) rfl, by decide +kernel, by decide +kernel, by decide +kernel⟩
theorem hM_isSheet : MSt mM_isSheet 2 := ⟨gM_isSheet, TG_7 63 (by decide +kernel) rfl⟩
theorem gM_lay : MG mM_lay 3 := ⟨TG_7 68 (by decide +kernel) rfl, TG_1 14 (by decide +kernel) rfl, by decide +kernel, by decide +kernel, by decide +kernel⟩
theorem hM_lay : MV mM_lay 3 := ⟨gM_lay, TG_7 66 (by decide +kernel) rfl, TG_7 67 (by decide +kernel) rfl⟩
theorem gM_read : MG mM_read 5 := ⟨TG_7 72 (by decide +kernel) rfl, TG_1 14 (by decide +kernel) rfl, by decide +kernel, by decide +kernel, by decide +kernel⟩
theorem hM_read : MV mM_read 5 := ⟨gM_read, TG_7 70 (by decide +kernel) rfl, TG_7 71 (by decide +kernel) rfl⟩
theorem gM_count : MG mM_count 1 := ⟨TG_7 77 (by decide +kernel) rfl, TG_1 14 (by decide +kernel) rfl, by decide +kernel, by decide +kernel, by decide +kernel⟩
theorem hM_count : MV mM_count 1 := ⟨gM_count, TG_7 75 (by decide +kernel) rfl, TG_7 76 (by decide +kernel) rfl⟩
theorem h_obj : Cond.instanceMethod Lib.objectInit ∈ TG ∧ Cond.code Lib.objectInit ⟨#[0xb1]⟩ 1 none ∈ TG := ⟨TG_1 27 (by decide +kernel) rfl, TG_1 28 (by decide +kernel) rfl⟩
theorem clLa_7 : Cond.classLink "LearnedCountLaw" 7 "LearnedCount" ∈ TG := TG_1 21 (by decide +kernel) rfl
theorem mlLa_9 : Cond.methodLink "LearnedCountLaw" 9 (mY mC_init) ∈ TG := TG_1 23 (by decide +kernel) rfl
theorem mlC_3 : Cond.methodLink "LearnedCount" 3 Lib.objectInit ∈ TG := TG_1 26 (by decide +kernel) rfl
theorem clC_9 : Cond.classLink "LearnedCount" 9 "LearnedCount$Tape" ∈ TG := TG_1 29 (by decide +kernel) rfl
theorem mlC_11 : Cond.methodLink "LearnedCount" 11 (mY mTa_init) ∈ TG := TG_1 31 (by decide +kernel) rfl
theorem mlTa_3 : Cond.methodLink "LearnedCount$Tape" 3 Lib.objectInit ∈ TG := TG_1 34 (by decide +kernel) rfl
theorem flTa_9 : FL "LearnedCount$Tape" 9 6 0 := ⟨by decide, by decide, TG_1 35 (by decide +kernel) rfl⟩
theorem flTa_15 : FL "LearnedCount$Tape" 15 6 1 := ⟨by decide, by decide, TG_1 36 (by decide +kernel) rfl⟩
theorem flC_97 : FL "LearnedCount" 97 6 1 := ⟨by decide, by decide, TG_1 37 (by decide +kernel) rfl⟩
theorem ac_byte : Cond.arrayClass .byte ∈ TG := TG_1 43 (by decide +kernel) rfl
theorem clC_16 : Cond.classLink "LearnedCount" 16 "LearnedCount$Tokens" ∈ TG := TG_1 44 (by decide +kernel) rfl
theorem mlC_18 : Cond.methodLink "LearnedCount" 18 (mY mTo_init) ∈ TG := TG_1 46 (by decide +kernel) rfl
theorem mlTo_3 : Cond.methodLink "LearnedCount$Tokens" 3 Lib.objectInit ∈ TG := TG_1 49 (by decide +kernel) rfl
theorem flTo_9 : FL "LearnedCount$Tokens" 9 7 0 := ⟨by decide, by decide, TG_1 50 (by decide +kernel) rfl⟩
theorem flTo_15 : FL "LearnedCount$Tokens" 15 7 1 := ⟨by decide, by decide, TG_1 51 (by decide +kernel) rfl⟩
theorem flRr_32 : FL "LearnedCount$RuleReader" 32 7 1 := ⟨by decide, by decide, TG_1 52 (by decide +kernel) rfl⟩
theorem flLr_35 : FL "LearnedCount$LibraryReader" 35 7 1 := ⟨by decide, by decide, TG_1 53 (by decide +kernel) rfl⟩
theorem flTo_19 : FL "LearnedCount$Tokens" 19 7 2 := ⟨by decide, by decide, TG_1 54 (by decide +kernel) rfl⟩
theorem flLr_104 : FL "LearnedCount$LibraryReader" 104 7 2 := ⟨by decide, by decide, TG_1 55 (by decide +kernel) rfl⟩
theorem flTo_22 : FL "LearnedCount$Tokens" 22 7 3 := ⟨by decide, by decide, TG_1 56 (by decide +kernel) rfl⟩
theorem flTo_53 : FL "LearnedCount$Tokens" 53 7 4 := ⟨by decide, by decide, TG_1 57 (by decide +kernel) rfl⟩
theorem flTo_25 : FL "LearnedCount$Tokens" 25 7 5 := ⟨by decide, by decide, TG_1 58 (by decide +kernel) rfl⟩
theorem flRr_28 : FL "LearnedCount$RuleReader" 28 7 5 := ⟨by decide, by decide, TG_1 59 (by decide +kernel) rfl⟩
theorem flLr_32 : FL "LearnedCount$LibraryReader" 32 7 5 := ⟨by decide, by decide, TG_1 60 (by decide +kernel) rfl⟩
theorem flC_114 : FL "LearnedCount" 114 7 5 := ⟨by decide, by decide, TG_1 61 (by decide +kernel) rfl⟩
theorem flTo_28 : FL "LearnedCount$Tokens" 28 7 6 := ⟨by decide, by decide, TG_1 62 (by decide +kernel) rfl⟩
theorem flC_120 : FL "LearnedCount" 120 7 6 := ⟨by decide, by decide, TG_1 63 (by decide +kernel) rfl⟩
theorem clC_25 : Cond.classLink "LearnedCount" 25 "LearnedCount$LibraryReader" ∈ TG := TG_1 79 (by decide +kernel) rfl
theorem mlC_27 : Cond.methodLink "LearnedCount" 27 (mY mLr_init) ∈ TG := TG_1 81 (by decide +kernel) rfl
theorem mlLr_3 : Cond.methodLink "LearnedCount$LibraryReader" 3 Lib.objectInit ∈ TG := TG_1 84 (by decide +kernel) rfl
theorem flLr_9 : FL "LearnedCount$LibraryReader" 9 2 0 := ⟨by decide, by decide, TG_1 85 (by decide +kernel) rfl⟩
theorem flLr_25 : FL "LearnedCount$LibraryReader" 25 2 1 := ⟨by decide, by decide, TG_1 86 (by decide +kernel) rfl⟩
theorem clC_34 : Cond.classLink "LearnedCount" 34 "LearnedCount$RuleReader" ∈ TG := TG_1 92 (by decide +kernel) rfl
theorem mlC_36 : Cond.methodLink "LearnedCount" 36 (mY mRr_init) ∈ TG := TG_1 94 (by decide +kernel) rfl
theorem mlRr_3 : Cond.methodLink "LearnedCount$RuleReader" 3 Lib.objectInit ∈ TG := TG_1 97 (by decide +kernel) rfl
theorem flRr_9 : FL "LearnedCount$RuleReader" 9 4 0 := ⟨by decide, by decide, TG_1 98 (by decide +kernel) rfl⟩
theorem clC_41 : Cond.classLink "LearnedCount" 41 "LearnedCount$Library" ∈ TG := TG_1 102 (by decide +kernel) rfl
theorem mlC_43 : Cond.methodLink "LearnedCount" 43 (mY mLi_init) ∈ TG := TG_1 104 (by decide +kernel) rfl
theorem mlLi_3 : Cond.methodLink "LearnedCount$Library" 3 Lib.objectInit ∈ TG := TG_1 107 (by decide +kernel) rfl
theorem clLi_9 : Cond.classLink "LearnedCount$Library" 9 "LearnedCount$Word" ∈ TG := TG_1 108 (by decide +kernel) rfl
theorem mlLi_48 : Cond.methodLink "LearnedCount$Library" 48 (mY mWo_init) ∈ TG := TG_1 111 (by decide +kernel) rfl
theorem mlWo_3 : Cond.methodLink "LearnedCount$Word" 3 Lib.objectInit ∈ TG := TG_1 114 (by decide +kernel) rfl
theorem flWo_9 : FL "LearnedCount$Word" 9 9 0 := ⟨by decide, by decide, TG_1 115 (by decide +kernel) rfl⟩
theorem flLi_95 : FL "LearnedCount$Library" 95 9 0 := ⟨by decide, by decide, TG_1 116 (by decide +kernel) rfl⟩
theorem flLr_100 : FL "LearnedCount$LibraryReader" 100 9 0 := ⟨by decide, by decide, TG_1 117 (by decide +kernel) rfl⟩
theorem flC_153 : FL "LearnedCount" 153 9 0 := ⟨by decide, by decide, TG_1 118 (by decide +kernel) rfl⟩
theorem flWo_15 : FL "LearnedCount$Word" 15 9 1 := ⟨by decide, by decide, TG_1 119 (by decide +kernel) rfl⟩
theorem flLi_92 : FL "LearnedCount$Library" 92 9 1 := ⟨by decide, by decide, TG_1 120 (by decide +kernel) rfl⟩
theorem flLr_93 : FL "LearnedCount$LibraryReader" 93 9 1 := ⟨by decide, by decide, TG_1 121 (by decide +kernel) rfl⟩
theorem flC_158 : FL "LearnedCount" 158 9 1 := ⟨by decide, by decide, TG_1 122 (by decide +kernel) rfl⟩
theorem flWo_18 : FL "LearnedCount$Word" 18 9 2 := ⟨by decide, by decide, TG_1 123 (by decide +kernel) rfl⟩
theorem flLi_89 : FL "LearnedCount$Library" 89 9 2 := ⟨by decide, by decide, TG_1 124 (by decide +kernel) rfl⟩
theorem flC_161 : FL "LearnedCount" 161 9 2 := ⟨by decide, by decide, TG_1 125 (by decide +kernel) rfl⟩
theorem flWo_21 : FL "LearnedCount$Word" 21 9 3 := ⟨by decide, by decide, TG_1 126 (by decide +kernel) rfl⟩
theorem flLr_113 : FL "LearnedCount$LibraryReader" 113 9 3 := ⟨by decide, by decide, TG_1 127 (by decide +kernel) rfl⟩
theorem flLi_121 : FL "LearnedCount$Library" 121 9 3 := ⟨by decide, by decide, TG_1 128 (by decide +kernel) rfl⟩
theorem flC_164 : FL "LearnedCount" 164 9 3 := ⟨by decide, by decide, TG_1 129 (by decide +kernel) rfl⟩
theorem flWo_24 : FL "LearnedCount$Word" 24 9 4 := ⟨by decide, by decide, TG_1 130 (by decide +kernel) rfl⟩
theorem flLr_116 : FL "LearnedCount$LibraryReader" 116 9 4 := ⟨by decide, by decide, TG_1 131 (by decide +kernel) rfl⟩
theorem flC_167 : FL "LearnedCount" 167 9 4 := ⟨by decide, by decide, TG_1 132 (by decide +kernel) rfl⟩
theorem flLi_139 : FL "LearnedCount$Library" 139 9 4 := ⟨by decide, by decide, TG_1 133 (by decide +kernel) rfl⟩
theorem flWo_27 : FL "LearnedCount$Word" 27 9 5 := ⟨by decide, by decide, TG_1 134 (by decide +kernel) rfl⟩
theorem flLr_122 : FL "LearnedCount$LibraryReader" 122 9 5 := ⟨by decide, by decide, TG_1 135 (by decide +kernel) rfl⟩
theorem flLi_118 : FL "LearnedCount$Library" 118 9 5 := ⟨by decide, by decide, TG_1 136 (by decide +kernel) rfl⟩
theorem flC_170 : FL "LearnedCount" 170 9 5 := ⟨by decide, by decide, TG_1 137 (by decide +kernel) rfl⟩
theorem flWo_30 : FL "LearnedCount$Word" 30 9 6 := ⟨by decide, by decide, TG_1 138 (by decide +kernel) rfl⟩
theorem flLi_98 : FL "LearnedCount$Library" 98 9 6 := ⟨by decide, by decide, TG_1 139 (by decide +kernel) rfl⟩
theorem flLr_101 : FL "LearnedCount$LibraryReader" 101 9 6 := ⟨by decide, by decide, TG_1 140 (by decide +kernel) rfl⟩
theorem flC_173 : FL "LearnedCount" 173 9 6 := ⟨by decide, by decide, TG_1 141 (by decide +kernel) rfl⟩
theorem flWo_33 : FL "LearnedCount$Word" 33 9 7 := ⟨by decide, by decide, TG_1 142 (by decide +kernel) rfl⟩
theorem flLr_107 : FL "LearnedCount$LibraryReader" 107 9 7 := ⟨by decide, by decide, TG_1 143 (by decide +kernel) rfl⟩
theorem flWo_36 : FL "LearnedCount$Word" 36 9 8 := ⟨by decide, by decide, TG_1 144 (by decide +kernel) rfl⟩
theorem flLr_86 : FL "LearnedCount$LibraryReader" 86 9 8 := ⟨by decide, by decide, TG_1 145 (by decide +kernel) rfl⟩
theorem flC_176 : FL "LearnedCount" 176 9 8 := ⟨by decide, by decide, TG_1 146 (by decide +kernel) rfl⟩
theorem flLi_161 : FL "LearnedCount$Library" 161 9 8 := ⟨by decide, by decide, TG_1 147 (by decide +kernel) rfl⟩
theorem flWo_39 : FL "LearnedCount$Word" 39 9 9 := ⟨by decide, by decide, TG_1 148 (by decide +kernel) rfl⟩
theorem flC_179 : FL "LearnedCount" 179 9 9 := ⟨by decide, by decide, TG_1 149 (by decide +kernel) rfl⟩
theorem flLi_146 : FL "LearnedCount$Library" 146 9 9 := ⟨by decide, by decide, TG_1 150 (by decide +kernel) rfl⟩
theorem flWo_42 : FL "LearnedCount$Word" 42 9 10 := ⟨by decide, by decide, TG_1 151 (by decide +kernel) rfl⟩
theorem flLi_115 : FL "LearnedCount$Library" 115 9 10 := ⟨by decide, by decide, TG_1 152 (by decide +kernel) rfl⟩
theorem flC_206 : FL "LearnedCount" 206 9 10 := ⟨by decide, by decide, TG_1 153 (by decide +kernel) rfl⟩
theorem ac_int : Cond.arrayClass .int ∈ TG := TG_1 177 (by decide +kernel) rfl
theorem mlLi_49 : Cond.methodLink "LearnedCount$Library" 49 (mY mLi_clear) ∈ TG := TG_1 178 (by decide +kernel) rfl
theorem mlLi_59 : Cond.methodLink "LearnedCount$Library" 59 (mY mJr_fill) ∈ TG := TG_1 182 (by decide +kernel) rfl
theorem mlLi_52 : Cond.methodLink "LearnedCount$Library" 52 (mY mLi_settle) ∈ TG := TG_1 185 (by decide +kernel) rfl
theorem mlLi_65 : Cond.methodLink "LearnedCount$Library" 65 (mY mLi_sortWords) ∈ TG := TG_1 189 (by decide +kernel) rfl
theorem mlLi_68 : Cond.methodLink "LearnedCount$Library" 68 (mY mLi_findFollowed) ∈ TG := TG_1 193 (by decide +kernel) rfl
theorem mlLi_71 : Cond.methodLink "LearnedCount$Library" 71 (mY mLi_findRings) ∈ TG := TG_1 197 (by decide +kernel) rfl
theorem mlLi_74 : Cond.methodLink "LearnedCount$Library" 74 (mY mLi_speakInOrder) ∈ TG := TG_1 204 (by decide +kernel) rfl
theorem mlLi_111 : Cond.methodLink "LearnedCount$Library" 111 (mY mLi_speak) ∈ TG := TG_1 208 (by decide +kernel) rfl
theorem mlLi_128 : Cond.methodLink "LearnedCount$Library" 128 (mY mLi_followedSaying) ∈ TG := TG_1 215 (by decide +kernel) rfl
theorem mlLi_136 : Cond.methodLink "LearnedCount$Library" 136 (mY mLi_saying) ∈ TG := TG_1 219 (by decide +kernel) rfl
theorem mlLi_132 : Cond.methodLink "LearnedCount$Library" 132 (mY mLi_ownSaying) ∈ TG := TG_1 223 (by decide +kernel) rfl
theorem mlLi_77 : Cond.methodLink "LearnedCount$Library" 77 (mY mLi_weighAll) ∈ TG := TG_1 226 (by decide +kernel) rfl
theorem mlLi_142 : Cond.methodLink "LearnedCount$Library" 142 (mY mLi_weightOf) ∈ TG := TG_1 230 (by decide +kernel) rfl
theorem mlLi_149 : Cond.methodLink "LearnedCount$Library" 149 (mY mJi_bitCount) ∈ TG := TG_1 234 (by decide +kernel) rfl
theorem kcJi_265 : Cond.constant "java/lang/Integer" 265 1431655765 ∈ TG := TG_1 237 (by decide +kernel) rfl
theorem kcJi_266 : Cond.constant "java/lang/Integer" 266 858993459 ∈ TG := TG_1 238 (by decide +kernel) rfl
theorem kcJi_267 : Cond.constant "java/lang/Integer" 267 252645135 ∈ TG := TG_1 239 (by decide +kernel) rfl
theorem mlLi_80 : Cond.methodLink "LearnedCount$Library" 80 (mY mLi_askLaws) ∈ TG := TG_2 0 (by decide +kernel) rfl
theorem mlLi_154 : Cond.methodLink "LearnedCount$Library" 154 (mY mLi_lawSaying) ∈ TG := TG_2 4 (by decide +kernel) rfl
theorem mlLi_158 : Cond.methodLink "LearnedCount$Library" 158 (mY mLi_speaking) ∈ TG := TG_2 8 (by decide +kernel) rfl
theorem flLi_11 : FL "LearnedCount$Library" 11 1 0 := ⟨by decide, by decide, TG_2 12 (by decide +kernel) rfl⟩
theorem flLr_77 : FL "LearnedCount$LibraryReader" 77 1 0 := ⟨by decide, by decide, TG_2 13 (by decide +kernel) rfl⟩
theorem flC_149 : FL "LearnedCount" 149 1 0 := ⟨by decide, by decide, TG_2 14 (by decide +kernel) rfl⟩
theorem flLi_55 : FL "LearnedCount$Library" 55 1 1 := ⟨by decide, by decide, TG_2 15 (by decide +kernel) rfl⟩
theorem flLr_74 : FL "LearnedCount$LibraryReader" 74 1 1 := ⟨by decide, by decide, TG_2 16 (by decide +kernel) rfl⟩
theorem flC_353 : FL "LearnedCount" 353 1 1 := ⟨by decide, by decide, TG_2 17 (by decide +kernel) rfl⟩
theorem flLi_17 : FL "LearnedCount$Library" 17 1 2 := ⟨by decide, by decide, TG_2 18 (by decide +kernel) rfl⟩
theorem flLr_70 : FL "LearnedCount$LibraryReader" 70 1 2 := ⟨by decide, by decide, TG_2 19 (by decide +kernel) rfl⟩
theorem flC_276 : FL "LearnedCount" 276 1 2 := ⟨by decide, by decide, TG_2 20 (by decide +kernel) rfl⟩
theorem flLi_21 : FL "LearnedCount$Library" 21 1 3 := ⟨by decide, by decide, TG_2 21 (by decide +kernel) rfl⟩
theorem flWe_94 : FL "LearnedCount$Weighing" 94 1 3 := ⟨by decide, by decide, TG_2 22 (by decide +kernel) rfl⟩
theorem flC_202 : FL "LearnedCount" 202 1 3 := ⟨by decide, by decide, TG_2 23 (by decide +kernel) rfl⟩
theorem flLi_24 : FL "LearnedCount$Library" 24 1 4 := ⟨by decide, by decide, TG_2 24 (by decide +kernel) rfl⟩
theorem flWe_97 : FL "LearnedCount$Weighing" 97 1 4 := ⟨by decide, by decide, TG_2 25 (by decide +kernel) rfl⟩
theorem flLi_27 : FL "LearnedCount$Library" 27 1 5 := ⟨by decide, by decide, TG_2 26 (by decide +kernel) rfl⟩
theorem flWe_82 : FL "LearnedCount$Weighing" 82 1 5 := ⟨by decide, by decide, TG_2 27 (by decide +kernel) rfl⟩
theorem flLi_30 : FL "LearnedCount$Library" 30 1 6 := ⟨by decide, by decide, TG_2 28 (by decide +kernel) rfl⟩
theorem flWe_79 : FL "LearnedCount$Weighing" 79 1 6 := ⟨by decide, by decide, TG_2 29 (by decide +kernel) rfl⟩
theorem flLi_33 : FL "LearnedCount$Library" 33 1 7 := ⟨by decide, by decide, TG_2 30 (by decide +kernel) rfl⟩
theorem flWe_91 : FL "LearnedCount$Weighing" 91 1 7 := ⟨by decide, by decide, TG_2 31 (by decide +kernel) rfl⟩
theorem flLi_36 : FL "LearnedCount$Library" 36 1 8 := ⟨by decide, by decide, TG_2 32 (by decide +kernel) rfl⟩
theorem flLi_39 : FL "LearnedCount$Library" 39 1 9 := ⟨by decide, by decide, TG_2 33 (by decide +kernel) rfl⟩
theorem flWe_112 : FL "LearnedCount$Weighing" 112 1 9 := ⟨by decide, by decide, TG_2 34 (by decide +kernel) rfl⟩
theorem flLi_83 : FL "LearnedCount$Library" 83 1 10 := ⟨by decide, by decide, TG_2 35 (by decide +kernel) rfl⟩
theorem flC_356 : FL "LearnedCount" 356 1 10 := ⟨by decide, by decide, TG_2 36 (by decide +kernel) rfl⟩
theorem flLi_86 : FL "LearnedCount$Library" 86 1 11 := ⟨by decide, by decide, TG_2 37 (by decide +kernel) rfl⟩
theorem flLi_105 : FL "LearnedCount$Library" 105 1 12 := ⟨by decide, by decide, TG_2 38 (by decide +kernel) rfl⟩
theorem flC_189 : FL "LearnedCount" 189 1 12 := ⟨by decide, by decide, TG_2 39 (by decide +kernel) rfl⟩
theorem flLi_108 : FL "LearnedCount$Library" 108 1 13 := ⟨by decide, by decide, TG_2 40 (by decide +kernel) rfl⟩
theorem flC_192 : FL "LearnedCount" 192 1 13 := ⟨by decide, by decide, TG_2 41 (by decide +kernel) rfl⟩
theorem flLi_42 : FL "LearnedCount$Library" 42 1 14 := ⟨by decide, by decide, TG_2 42 (by decide +kernel) rfl⟩
theorem flLi_45 : FL "LearnedCount$Library" 45 1 15 := ⟨by decide, by decide, TG_2 43 (by decide +kernel) rfl⟩
theorem clC_51 : Cond.classLink "LearnedCount" 51 "LearnedCount$Rule" ∈ TG := TG_2 77 (by decide +kernel) rfl
theorem mlC_53 : Cond.methodLink "LearnedCount" 53 (mY mRu_init) ∈ TG := TG_2 79 (by decide +kernel) rfl
theorem mlRu_3 : Cond.methodLink "LearnedCount$Rule" 3 Lib.objectInit ∈ TG := TG_2 82 (by decide +kernel) rfl
theorem mlRu_9 : Cond.methodLink "LearnedCount$Rule" 9 (mY mRu_clear) ∈ TG := TG_2 83 (by decide +kernel) rfl
theorem flRu_14 : FL "LearnedCount$Rule" 14 3 0 := ⟨by decide, by decide, TG_2 87 (by decide +kernel) rfl⟩
theorem flRr_60 : FL "LearnedCount$RuleReader" 60 3 0 := ⟨by decide, by decide, TG_2 88 (by decide +kernel) rfl⟩
theorem flC_123 : FL "LearnedCount" 123 3 0 := ⟨by decide, by decide, TG_2 89 (by decide +kernel) rfl⟩
theorem flRu_18 : FL "LearnedCount$Rule" 18 3 1 := ⟨by decide, by decide, TG_2 90 (by decide +kernel) rfl⟩
theorem flRr_66 : FL "LearnedCount$RuleReader" 66 3 1 := ⟨by decide, by decide, TG_2 91 (by decide +kernel) rfl⟩
theorem flC_126 : FL "LearnedCount" 126 3 1 := ⟨by decide, by decide, TG_2 92 (by decide +kernel) rfl⟩
theorem flLi_168 : FL "LearnedCount$Library" 168 3 1 := ⟨by decide, by decide, TG_2 93 (by decide +kernel) rfl⟩
theorem flRu_21 : FL "LearnedCount$Rule" 21 3 2 := ⟨by decide, by decide, TG_2 94 (by decide +kernel) rfl⟩
theorem flRr_69 : FL "LearnedCount$RuleReader" 69 3 2 := ⟨by decide, by decide, TG_2 95 (by decide +kernel) rfl⟩
theorem flC_129 : FL "LearnedCount" 129 3 2 := ⟨by decide, by decide, TG_2 96 (by decide +kernel) rfl⟩
theorem flLi_173 : FL "LearnedCount$Library" 173 3 2 := ⟨by decide, by decide, TG_2 97 (by decide +kernel) rfl⟩
theorem flRu_25 : FL "LearnedCount$Rule" 25 3 3 := ⟨by decide, by decide, TG_2 98 (by decide +kernel) rfl⟩
theorem flRr_78 : FL "LearnedCount$RuleReader" 78 3 3 := ⟨by decide, by decide, TG_2 99 (by decide +kernel) rfl⟩
theorem flC_133 : FL "LearnedCount" 133 3 3 := ⟨by decide, by decide, TG_2 100 (by decide +kernel) rfl⟩
theorem flWe_106 : FL "LearnedCount$Weighing" 106 3 3 := ⟨by decide, by decide, TG_2 101 (by decide +kernel) rfl⟩
theorem flRu_28 : FL "LearnedCount$Rule" 28 3 4 := ⟨by decide, by decide, TG_2 102 (by decide +kernel) rfl⟩
theorem flRr_84 : FL "LearnedCount$RuleReader" 84 3 4 := ⟨by decide, by decide, TG_2 103 (by decide +kernel) rfl⟩
theorem flWe_85 : FL "LearnedCount$Weighing" 85 3 4 := ⟨by decide, by decide, TG_2 104 (by decide +kernel) rfl⟩
theorem flC_136 : FL "LearnedCount" 136 3 4 := ⟨by decide, by decide, TG_2 105 (by decide +kernel) rfl⟩
theorem flRu_31 : FL "LearnedCount$Rule" 31 3 5 := ⟨by decide, by decide, TG_2 106 (by decide +kernel) rfl⟩
theorem flRr_89 : FL "LearnedCount$RuleReader" 89 3 5 := ⟨by decide, by decide, TG_2 107 (by decide +kernel) rfl⟩
theorem flWe_88 : FL "LearnedCount$Weighing" 88 3 5 := ⟨by decide, by decide, TG_2 108 (by decide +kernel) rfl⟩
theorem flC_139 : FL "LearnedCount" 139 3 5 := ⟨by decide, by decide, TG_2 109 (by decide +kernel) rfl⟩
theorem flRu_34 : FL "LearnedCount$Rule" 34 3 6 := ⟨by decide, by decide, TG_2 110 (by decide +kernel) rfl⟩
theorem flRr_94 : FL "LearnedCount$RuleReader" 94 3 6 := ⟨by decide, by decide, TG_2 111 (by decide +kernel) rfl⟩
theorem flWe_74 : FL "LearnedCount$Weighing" 74 3 6 := ⟨by decide, by decide, TG_2 112 (by decide +kernel) rfl⟩
theorem flC_142 : FL "LearnedCount" 142 3 6 := ⟨by decide, by decide, TG_2 113 (by decide +kernel) rfl⟩
theorem clC_68 : Cond.classLink "LearnedCount" 68 "LearnedCount$Weighing" ∈ TG := TG_2 129 (by decide +kernel) rfl
theorem mlC_70 : Cond.methodLink "LearnedCount" 70 (mY mWe_init) ∈ TG := TG_2 131 (by decide +kernel) rfl
theorem mlWe_3 : Cond.methodLink "LearnedCount$Weighing" 3 Lib.objectInit ∈ TG := TG_2 134 (by decide +kernel) rfl
theorem flWe_15 : FL "LearnedCount$Weighing" 15 8 0 := ⟨by decide, by decide, TG_2 135 (by decide +kernel) rfl⟩
theorem flWe_19 : FL "LearnedCount$Weighing" 19 8 1 := ⟨by decide, by decide, TG_2 136 (by decide +kernel) rfl⟩
theorem flFi_38 : FL "LearnedCount$Finding" 38 8 1 := ⟨by decide, by decide, TG_2 137 (by decide +kernel) rfl⟩
theorem flWe_29 : FL "LearnedCount$Weighing" 29 8 2 := ⟨by decide, by decide, TG_2 138 (by decide +kernel) rfl⟩
theorem flWe_9 : FL "LearnedCount$Weighing" 9 8 3 := ⟨by decide, by decide, TG_2 139 (by decide +kernel) rfl⟩
theorem flWe_32 : FL "LearnedCount$Weighing" 32 8 4 := ⟨by decide, by decide, TG_2 140 (by decide +kernel) rfl⟩
theorem flFi_56 : FL "LearnedCount$Finding" 56 8 4 := ⟨by decide, by decide, TG_2 141 (by decide +kernel) rfl⟩
theorem flWe_39 : FL "LearnedCount$Weighing" 39 8 5 := ⟨by decide, by decide, TG_2 142 (by decide +kernel) rfl⟩
theorem flFi_31 : FL "LearnedCount$Finding" 31 8 5 := ⟨by decide, by decide, TG_2 143 (by decide +kernel) rfl⟩
theorem flWe_42 : FL "LearnedCount$Weighing" 42 8 6 := ⟨by decide, by decide, TG_2 144 (by decide +kernel) rfl⟩
theorem flC_251 : FL "LearnedCount" 251 8 6 := ⟨by decide, by decide, TG_2 145 (by decide +kernel) rfl⟩
theorem flWe_45 : FL "LearnedCount$Weighing" 45 8 7 := ⟨by decide, by decide, TG_2 146 (by decide +kernel) rfl⟩
theorem flC_254 : FL "LearnedCount" 254 8 7 := ⟨by decide, by decide, TG_2 147 (by decide +kernel) rfl⟩
theorem flWe_60 : FL "LearnedCount$Weighing" 60 8 8 := ⟨by decide, by decide, TG_2 148 (by decide +kernel) rfl⟩
theorem flC_248 : FL "LearnedCount" 248 8 8 := ⟨by decide, by decide, TG_2 149 (by decide +kernel) rfl⟩
theorem flWe_67 : FL "LearnedCount$Weighing" 67 8 9 := ⟨by decide, by decide, TG_2 150 (by decide +kernel) rfl⟩
theorem flC_245 : FL "LearnedCount" 245 8 9 := ⟨by decide, by decide, TG_2 151 (by decide +kernel) rfl⟩
theorem clC_77 : Cond.classLink "LearnedCount" 77 "LearnedCount$Finding" ∈ TG := TG_2 173 (by decide +kernel) rfl
theorem mlC_79 : Cond.methodLink "LearnedCount" 79 (mY mFi_init) ∈ TG := TG_2 175 (by decide +kernel) rfl
theorem mlFi_3 : Cond.methodLink "LearnedCount$Finding" 3 Lib.objectInit ∈ TG := TG_2 178 (by decide +kernel) rfl
theorem flFi_15 : FL "LearnedCount$Finding" 15 0 0 := ⟨by decide, by decide, TG_2 179 (by decide +kernel) rfl⟩
theorem flFi_9 : FL "LearnedCount$Finding" 9 0 1 := ⟨by decide, by decide, TG_2 180 (by decide +kernel) rfl⟩
theorem flC_293 : FL "LearnedCount" 293 0 1 := ⟨by decide, by decide, TG_2 181 (by decide +kernel) rfl⟩
theorem clC_86 : Cond.classLink "LearnedCount" 86 "LearnedCount$Sheet" ∈ TG := TG_2 187 (by decide +kernel) rfl
theorem mlC_92 : Cond.methodLink "LearnedCount" 92 (mY mSh_init) ∈ TG := TG_2 190 (by decide +kernel) rfl
theorem mlSh_3 : Cond.methodLink "LearnedCount$Sheet" 3 Lib.objectInit ∈ TG := TG_2 193 (by decide +kernel) rfl
theorem flSh_9 : FL "LearnedCount$Sheet" 9 5 0 := ⟨by decide, by decide, TG_2 194 (by decide +kernel) rfl⟩
theorem flC_350 : FL "LearnedCount" 350 5 0 := ⟨by decide, by decide, TG_2 195 (by decide +kernel) rfl⟩
theorem flSh_15 : FL "LearnedCount$Sheet" 15 5 1 := ⟨by decide, by decide, TG_2 196 (by decide +kernel) rfl⟩
theorem flC_343 : FL "LearnedCount" 343 5 1 := ⟨by decide, by decide, TG_2 197 (by decide +kernel) rfl⟩
theorem flSh_19 : FL "LearnedCount$Sheet" 19 5 2 := ⟨by decide, by decide, TG_2 198 (by decide +kernel) rfl⟩
theorem flC_359 : FL "LearnedCount" 359 5 2 := ⟨by decide, by decide, TG_2 199 (by decide +kernel) rfl⟩
theorem flC_12 : FL "LearnedCount" 12 10 0 := ⟨by decide, by decide, TG_2 207 (by decide +kernel) rfl⟩
theorem flC_21 : FL "LearnedCount" 21 10 1 := ⟨by decide, by decide, TG_2 208 (by decide +kernel) rfl⟩
theorem flC_30 : FL "LearnedCount" 30 10 2 := ⟨by decide, by decide, TG_2 209 (by decide +kernel) rfl⟩
theorem flC_37 : FL "LearnedCount" 37 10 3 := ⟨by decide, by decide, TG_2 210 (by decide +kernel) rfl⟩
theorem flC_44 : FL "LearnedCount" 44 10 4 := ⟨by decide, by decide, TG_2 211 (by decide +kernel) rfl⟩
theorem flC_48 : FL "LearnedCount" 48 10 5 := ⟨by decide, by decide, TG_2 212 (by decide +kernel) rfl⟩
theorem flC_54 : FL "LearnedCount" 54 10 6 := ⟨by decide, by decide, TG_2 213 (by decide +kernel) rfl⟩
theorem flC_58 : FL "LearnedCount" 58 10 7 := ⟨by decide, by decide, TG_2 214 (by decide +kernel) rfl⟩
theorem flC_61 : FL "LearnedCount" 61 10 8 := ⟨by decide, by decide, TG_2 215 (by decide +kernel) rfl⟩
theorem flC_64 : FL "LearnedCount" 64 10 9 := ⟨by decide, by decide, TG_2 216 (by decide +kernel) rfl⟩
theorem flC_117 : FL "LearnedCount" 117 10 10 := ⟨by decide, by decide, TG_2 217 (by decide +kernel) rfl⟩
theorem flC_73 : FL "LearnedCount" 73 10 11 := ⟨by decide, by decide, TG_2 218 (by decide +kernel) rfl⟩
theorem flC_82 : FL "LearnedCount" 82 10 12 := ⟨by decide, by decide, TG_2 219 (by decide +kernel) rfl⟩
theorem flC_88 : FL "LearnedCount" 88 10 13 := ⟨by decide, by decide, TG_2 220 (by decide +kernel) rfl⟩
theorem mlLa_15 : Cond.methodLink "LearnedCountLaw" 15 (mY mC_feed) ∈ TG := TG_3 10 (by decide +kernel) rfl
theorem mlC_93 : Cond.methodLink "LearnedCount" 93 (mY mTa_append) ∈ TG := TG_3 14 (by decide +kernel) rfl
theorem mlLa_20 : Cond.methodLink "LearnedCountLaw" 20 (mY mC_end) ∈ TG := TG_3 18 (by decide +kernel) rfl
theorem mlLa_25 : Cond.methodLink "LearnedCountLaw" 25 (mY mC_library) ∈ TG := TG_3 22 (by decide +kernel) rfl
theorem mlC_100 : Cond.methodLink "LearnedCount" 100 (mY mLr_readInto) ∈ TG := TG_3 26 (by decide +kernel) rfl
theorem mlLr_15 : Cond.methodLink "LearnedCount$LibraryReader" 15 (mY mLi_clear) ∈ TG := TG_3 30 (by decide +kernel) rfl
theorem mlLr_20 : Cond.methodLink "LearnedCount$LibraryReader" 20 (mY mTo_begin) ∈ TG := TG_3 31 (by decide +kernel) rfl
theorem mlLr_29 : Cond.methodLink "LearnedCount$LibraryReader" 29 (mY mTo_advance) ∈ TG := TG_3 35 (by decide +kernel) rfl
theorem mlTo_35 : Cond.methodLink "LearnedCount$Tokens" 35 (mY mTa_behindAll) ∈ TG := TG_3 39 (by decide +kernel) rfl
theorem mlTo_41 : Cond.methodLink "LearnedCount$Tokens" 41 (mY mTa_byteAt) ∈ TG := TG_3 43 (by decide +kernel) rfl
theorem mlTo_44 : Cond.methodLink "LearnedCount$Tokens" 44 (mY mJm_min) ∈ TG := TG_3 47 (by decide +kernel) rfl
theorem mlTo_50 : Cond.methodLink "LearnedCount$Tokens" 50 (mY mTa_figures) ∈ TG := TG_3 50 (by decide +kernel) rfl
theorem mlTo_31 : Cond.methodLink "LearnedCount$Tokens" 31 (mY mTo_fail) ∈ TG := TG_3 54 (by decide +kernel) rfl
theorem mlLr_40 : Cond.methodLink "LearnedCount$LibraryReader" 40 (mY mTo_among) ∈ TG := TG_3 59 (by decide +kernel) rfl
theorem mlTo_56 : Cond.methodLink "LearnedCount$Tokens" 56 (mY mJs_length) ∈ TG := TG_3 63 (by decide +kernel) rfl
theorem mlJs_335 : Cond.methodLink "java/lang/String" 335 (mY mJs_coder) ∈ TG := TG_3 67 (by decide +kernel) rfl
theorem flJs_38 : Cond.fieldLink "java/lang/String" 38 "java/lang/String" "COMPACT_STRINGS" "Z" ∈ TG := TG_3 71 (by decide +kernel) rfl
theorem mlTo_62 : Cond.methodLink "LearnedCount$Tokens" 62 (mY mJs_charAt) ∈ TG := TG_3 73 (by decide +kernel) rfl
theorem mlJs_492 : Cond.methodLink "java/lang/String" 492 (mY mJs_isLatin1) ∈ TG := TG_3 77 (by decide +kernel) rfl
theorem mlJs_495 : Cond.methodLink "java/lang/String" 495 (mY mJa_charAt) ∈ TG := TG_3 81 (by decide +kernel) rfl
theorem mlJa_9 : Cond.methodLink "java/lang/StringLatin1" 9 (mY mJs_checkIndex) ∈ TG := TG_3 84 (by decide +kernel) rfl
theorem flJs_1053 : Cond.fieldLink "java/lang/String" 1053 "jdk/internal/util/Preconditions" "SIOOBE_FORMATTER" "Ljava/util/function/BiFunction;" ∈ TG := TG_3 87 (by decide +kernel) rfl
theorem mlJs_1059 : Cond.methodLink "java/lang/String" 1059 (mY mJp_checkIndex) ∈ TG := TG_3 89 (by decide +kernel) rfl
theorem mlTo_66 : Cond.methodLink "LearnedCount$Tokens" 66 (mY mTo_isNamed) ∈ TG := TG_3 111 (by decide +kernel) rfl
theorem mlLr_44 : Cond.methodLink "LearnedCount$LibraryReader" 44 (mY mTo_fail) ∈ TG := TG_3 115 (by decide +kernel) rfl
theorem mlLr_48 : Cond.methodLink "LearnedCount$LibraryReader" 48 (mY mLr_tellWord) ∈ TG := TG_3 116 (by decide +kernel) rfl
theorem mlLr_81 : Cond.methodLink "LearnedCount$LibraryReader" 81 (mY mWo_begin) ∈ TG := TG_3 120 (by decide +kernel) rfl
theorem mlLr_52 : Cond.methodLink "LearnedCount$LibraryReader" 52 (mY mTo_takeNumber) ∈ TG := TG_3 124 (by decide +kernel) rfl
theorem mlTo_74 : Cond.methodLink "LearnedCount$Tokens" 74 (mY mTo_advance) ∈ TG := TG_3 128 (by decide +kernel) rfl
theorem mlLr_89 : Cond.methodLink "LearnedCount$LibraryReader" 89 (mY mTo_takeDoctor) ∈ TG := TG_3 129 (by decide +kernel) rfl
theorem mlTo_80 : Cond.methodLink "LearnedCount$Tokens" 80 (mY mTo_takeDoctors) ∈ TG := TG_3 133 (by decide +kernel) rfl
theorem mlTo_77 : Cond.methodLink "LearnedCount$Tokens" 77 (mY mTo_letters) ∈ TG := TG_3 137 (by decide +kernel) rfl
theorem mlTo_83 : Cond.methodLink "LearnedCount$Tokens" 83 (mY mJi_bitCount) ∈ TG := TG_3 142 (by decide +kernel) rfl
theorem mlTo_88 : Cond.methodLink "LearnedCount$Tokens" 88 (mY mJi_numberOfTrailingZeros) ∈ TG := TG_3 143 (by decide +kernel) rfl
theorem kcJi_264 : Cond.constant "java/lang/Integer" 264 65536 ∈ TG := TG_3 146 (by decide +kernel) rfl
theorem mlLr_96 : Cond.methodLink "LearnedCount$LibraryReader" 96 (mY mLr_tellSaying) ∈ TG := TG_3 147 (by decide +kernel) rfl
theorem mlLr_110 : Cond.methodLink "LearnedCount$LibraryReader" 110 (mY mTo_takeMarks) ∈ TG := TG_3 151 (by decide +kernel) rfl
theorem mlLr_119 : Cond.methodLink "LearnedCount$LibraryReader" 119 (mY mTo_takeAnswer) ∈ TG := TG_3 155 (by decide +kernel) rfl
theorem mlTo_93 : Cond.methodLink "LearnedCount$Tokens" 93 (mY mTo_among) ∈ TG := TG_3 160 (by decide +kernel) rfl
theorem mlLr_55 : Cond.methodLink "LearnedCount$LibraryReader" 55 (mY mLr_tellCopies) ∈ TG := TG_3 161 (by decide +kernel) rfl
theorem mlLr_59 : Cond.methodLink "LearnedCount$LibraryReader" 59 (mY mTo_closeLine) ∈ TG := TG_3 166 (by decide +kernel) rfl
theorem mlLr_62 : Cond.methodLink "LearnedCount$LibraryReader" 62 (mY mLr_findWrongFollowers) ∈ TG := TG_3 170 (by decide +kernel) rfl
theorem mlLr_125 : Cond.methodLink "LearnedCount$LibraryReader" 125 (mY mLi_mayFollow) ∈ TG := TG_3 174 (by decide +kernel) rfl
theorem mlLr_129 : Cond.methodLink "LearnedCount$LibraryReader" 129 (mY mTo_failAt) ∈ TG := TG_3 178 (by decide +kernel) rfl
theorem mlC_104 : Cond.methodLink "LearnedCount" 104 (mY mLi_settle) ∈ TG := TG_3 182 (by decide +kernel) rfl
theorem mlC_107 : Cond.methodLink "LearnedCount" 107 (mY mC_afterText) ∈ TG := TG_3 183 (by decide +kernel) rfl
theorem mlLa_30 : Cond.methodLink "LearnedCountLaw" 30 (mY mC_rule) ∈ TG := TG_3 187 (by decide +kernel) rfl
theorem mlC_111 : Cond.methodLink "LearnedCount" 111 (mY mRr_readInto) ∈ TG := TG_3 191 (by decide +kernel) rfl
theorem mlRr_15 : Cond.methodLink "LearnedCount$RuleReader" 15 (mY mRu_clear) ∈ TG := TG_3 195 (by decide +kernel) rfl
theorem mlRr_20 : Cond.methodLink "LearnedCount$RuleReader" 20 (mY mTo_begin) ∈ TG := TG_3 196 (by decide +kernel) rfl
theorem mlRr_25 : Cond.methodLink "LearnedCount$RuleReader" 25 (mY mTo_advance) ∈ TG := TG_3 197 (by decide +kernel) rfl
theorem mlRr_37 : Cond.methodLink "LearnedCount$RuleReader" 37 (mY mTo_among) ∈ TG := TG_3 199 (by decide +kernel) rfl
theorem mlRr_41 : Cond.methodLink "LearnedCount$RuleReader" 41 (mY mTo_fail) ∈ TG := TG_3 200 (by decide +kernel) rfl
theorem mlRr_49 : Cond.methodLink "LearnedCount$RuleReader" 49 (mY mRr_tell) ∈ TG := TG_3 202 (by decide +kernel) rfl
theorem mlRr_56 : Cond.methodLink "LearnedCount$RuleReader" 56 (mY mTo_takeDoctors) ∈ TG := TG_3 206 (by decide +kernel) rfl
theorem mlRr_63 : Cond.methodLink "LearnedCount$RuleReader" 63 (mY mTo_takeNumber) ∈ TG := TG_3 207 (by decide +kernel) rfl
theorem mlRr_75 : Cond.methodLink "LearnedCount$RuleReader" 75 (mY mTo_takeOneOf) ∈ TG := TG_3 209 (by decide +kernel) rfl
theorem mlRr_81 : Cond.methodLink "LearnedCount$RuleReader" 81 (mY mTo_takeDoctor) ∈ TG := TG_3 213 (by decide +kernel) rfl
theorem mlRr_53 : Cond.methodLink "LearnedCount$RuleReader" 53 (mY mTo_closeLine) ∈ TG := TG_3 216 (by decide +kernel) rfl
theorem mlLa_34 : Cond.methodLink "LearnedCountLaw" 34 (mY mC_fault) ∈ TG := TG_3 217 (by decide +kernel) rfl
theorem mlLa_38 : Cond.methodLink "LearnedCountLaw" 38 (mY mC_weighs) ∈ TG := TG_3 221 (by decide +kernel) rfl
theorem mlLa_42 : Cond.methodLink "LearnedCountLaw" 42 (mY mC_word) ∈ TG := TG_3 225 (by decide +kernel) rfl
theorem mlC_145 : Cond.methodLink "LearnedCount" 145 (mY mC_isWord) ∈ TG := TG_3 229 (by decide +kernel) rfl
theorem mlLa_47 : Cond.methodLink "LearnedCountLaw" 47 (mY mC_says) ∈ TG := TG_3 233 (by decide +kernel) rfl
theorem mlC_182 : Cond.methodLink "LearnedCount" 182 (mY mC_isCase) ∈ TG := TG_3 237 (by decide +kernel) rfl
theorem mlC_185 : Cond.methodLink "LearnedCount" 185 (mY mLi_saying) ∈ TG := TG_4 0 (by decide +kernel) rfl
theorem mlLa_51 : Cond.methodLink "LearnedCountLaw" 51 (mY mC_words) ∈ TG := TG_4 1 (by decide +kernel) rfl
theorem mlC_195 : Cond.methodLink "LearnedCount" 195 (mY mLi_counting) ∈ TG := TG_4 5 (by decide +kernel) rfl
theorem mlLi_164 : Cond.methodLink "LearnedCount$Library" 164 (mY mLi_mainWords) ∈ TG := TG_4 9 (by decide +kernel) rfl
theorem mlLi_177 : Cond.methodLink "LearnedCount$Library" 177 (mY mRu_isMain) ∈ TG := TG_4 13 (by decide +kernel) rfl
theorem mlLa_55 : Cond.methodLink "LearnedCountLaw" 55 (mY mC_meets) ∈ TG := TG_4 17 (by decide +kernel) rfl
theorem mlC_199 : Cond.methodLink "LearnedCount" 199 (mY mLi_speaking) ∈ TG := TG_4 21 (by decide +kernel) rfl
theorem mlLa_59 : Cond.methodLink "LearnedCountLaw" 59 (mY mC_steps) ∈ TG := TG_4 22 (by decide +kernel) rfl
theorem mlLa_63 : Cond.methodLink "LearnedCountLaw" 63 (mY mC_each) ∈ TG := TG_4 26 (by decide +kernel) rfl
theorem mlC_209 : Cond.methodLink "LearnedCount" 209 (mY mC_isDoctor) ∈ TG := TG_4 30 (by decide +kernel) rfl
theorem mlC_212 : Cond.methodLink "LearnedCount" 212 (mY mC_weighNow) ∈ TG := TG_4 33 (by decide +kernel) rfl
theorem mlC_285 : Cond.methodLink "LearnedCount" 285 (mY mWe_begin) ∈ TG := TG_4 37 (by decide +kernel) rfl
theorem mlWe_23 : Cond.methodLink "LearnedCount$Weighing" 23 (mY mLi_counting) ∈ TG := TG_4 41 (by decide +kernel) rfl
theorem mlC_215 : Cond.methodLink "LearnedCount" 215 (mY mWe_opinion) ∈ TG := TG_4 42 (by decide +kernel) rfl
theorem mlWe_100 : Cond.methodLink "LearnedCount$Weighing" 100 (mY mWe_settled) ∈ TG := TG_4 46 (by decide +kernel) rfl
theorem mlWe_109 : Cond.methodLink "LearnedCount$Weighing" 109 (mY mWe_heaviest) ∈ TG := TG_4 51 (by decide +kernel) rfl
theorem kcWe_115 : Cond.constant "LearnedCount$Weighing" 115 16777216 ∈ TG := TG_4 55 (by decide +kernel) rfl
theorem mlLa_67 : Cond.methodLink "LearnedCountLaw" 67 (mY mC_clash) ∈ TG := TG_4 56 (by decide +kernel) rfl
theorem mlC_218 : Cond.methodLink "LearnedCount" 218 (mY mC_isEither) ∈ TG := TG_4 60 (by decide +kernel) rfl
theorem mlC_221 : Cond.methodLink "LearnedCount" 221 (mY mWe_clashes) ∈ TG := TG_4 63 (by decide +kernel) rfl
theorem mlC_225 : Cond.methodLink "LearnedCount" 225 (mY mC_manyOrLeast) ∈ TG := TG_4 67 (by decide +kernel) rfl
theorem mlC_229 : Cond.methodLink "LearnedCount" 229 (mY mJl_bitCount) ∈ TG := TG_4 70 (by decide +kernel) rfl
theorem klJl_314 : Cond.constantLong "java/lang/Long" 314 6148914691236517205 ∈ TG := TG_4 73 (by decide +kernel) rfl
theorem klJl_316 : Cond.constantLong "java/lang/Long" 316 3689348814741910323 ∈ TG := TG_4 74 (by decide +kernel) rfl
theorem klJl_318 : Cond.constantLong "java/lang/Long" 318 1085102592571150095 ∈ TG := TG_4 75 (by decide +kernel) rfl
theorem mlC_235 : Cond.methodLink "LearnedCount" 235 (mY mC_least) ∈ TG := TG_4 76 (by decide +kernel) rfl
theorem mlC_360 : Cond.methodLink "LearnedCount" 360 (mY mJl_numberOfTrailingZeros) ∈ TG := TG_4 79 (by decide +kernel) rfl
theorem mlJl_311 : Cond.methodLink "java/lang/Long" 311 (mY mJi_numberOfTrailingZeros) ∈ TG := TG_4 82 (by decide +kernel) rfl
theorem mlLa_71 : Cond.methodLink "LearnedCountLaw" 71 (mY mC_sides) ∈ TG := TG_4 83 (by decide +kernel) rfl
theorem mlLa_76 : Cond.methodLink "LearnedCountLaw" 76 (mY mC_hangs) ∈ TG := TG_4 87 (by decide +kernel) rfl
theorem mlC_238 : Cond.methodLink "LearnedCount" 238 (mY mWe_weigh) ∈ TG := TG_4 91 (by decide +kernel) rfl
theorem mlWe_35 : Cond.methodLink "LearnedCount$Weighing" 35 (mY mWe_lawIn) ∈ TG := TG_4 95 (by decide +kernel) rfl
theorem mlWe_48 : Cond.methodLink "LearnedCount$Weighing" 48 (mY mWe_opinion) ∈ TG := TG_4 99 (by decide +kernel) rfl
theorem mlWe_52 : Cond.methodLink "LearnedCount$Weighing" 52 (mY mWe_headSaying) ∈ TG := TG_4 100 (by decide +kernel) rfl
theorem mlWe_56 : Cond.methodLink "LearnedCount$Weighing" 56 (mY mWe_decider) ∈ TG := TG_4 104 (by decide +kernel) rfl
theorem mlWe_63 : Cond.methodLink "LearnedCount$Weighing" 63 (mY mWe_answerBy) ∈ TG := TG_4 108 (by decide +kernel) rfl
theorem mlC_242 : Cond.methodLink "LearnedCount" 242 (mY mWe_heldIf) ∈ TG := TG_4 112 (by decide +kernel) rfl
theorem mlLa_80 : Cond.methodLink "LearnedCountLaw" 80 (mY mC_held) ∈ TG := TG_4 116 (by decide +kernel) rfl
theorem mlLa_84 : Cond.methodLink "LearnedCountLaw" 84 (mY mC_cases) ∈ TG := TG_4 120 (by decide +kernel) rfl
theorem mlC_257 : Cond.methodLink "LearnedCount" 257 (mY mC_isKindOfCases) ∈ TG := TG_4 124 (by decide +kernel) rfl
theorem mlC_260 : Cond.methodLink "LearnedCount" 260 (mY mC_casesNow) ∈ TG := TG_4 127 (by decide +kernel) rfl
theorem mlC_316 : Cond.methodLink "LearnedCount" 316 (mY mWe_casesOf) ∈ TG := TG_4 131 (by decide +kernel) rfl
theorem mlWe_70 : Cond.methodLink "LearnedCount$Weighing" 70 (mY mWe_weigh) ∈ TG := TG_4 135 (by decide +kernel) rfl
theorem mlLa_89 : Cond.methodLink "LearnedCountLaw" 89 (mY mC_many) ∈ TG := TG_4 136 (by decide +kernel) rfl
theorem mlLa_93 : Cond.methodLink "LearnedCountLaw" 93 (mY mC_reckon) ∈ TG := TG_4 140 (by decide +kernel) rfl
theorem mlLa_98 : Cond.methodLink "LearnedCountLaw" 98 (mY mC_widest) ∈ TG := TG_4 144 (by decide +kernel) rfl
theorem mlC_264 : Cond.methodLink "LearnedCount" 264 (mY mJm_min) ∈ TG := TG_4 148 (by decide +kernel) rfl
theorem mlLa_102 : Cond.methodLink "LearnedCountLaw" 102 (mY mC_near) ∈ TG := TG_4 149 (by decide +kernel) rfl
theorem mlC_269 : Cond.methodLink "LearnedCount" 269 (mY mJi_bitCount) ∈ TG := TG_4 153 (by decide +kernel) rfl
theorem mlC_273 : Cond.methodLink "LearnedCount" 273 (mY mWe_heldIn) ∈ TG := TG_4 154 (by decide +kernel) rfl
theorem mlLa_106 : Cond.methodLink "LearnedCountLaw" 106 (mY mC_bring) ∈ TG := TG_4 158 (by decide +kernel) rfl
theorem mlLa_110 : Cond.methodLink "LearnedCountLaw" 110 (mY mC_copies) ∈ TG := TG_4 162 (by decide +kernel) rfl
theorem mlLa_114 : Cond.methodLink "LearnedCountLaw" 114 (mY mC_argue) ∈ TG := TG_4 166 (by decide +kernel) rfl
theorem mlC_279 : Cond.methodLink "LearnedCount" 279 (mY mC_fewestBooks) ∈ TG := TG_4 170 (by decide +kernel) rfl
theorem mlC_282 : Cond.methodLink "LearnedCount" 282 (mY mLi_tellingBooks) ∈ TG := TG_4 174 (by decide +kernel) rfl
theorem mlLa_118 : Cond.methodLink "LearnedCountLaw" 118 (mY mC_game) ∈ TG := TG_4 178 (by decide +kernel) rfl
theorem mlLa_122 : Cond.methodLink "LearnedCountLaw" 122 (mY mC_turn) ∈ TG := TG_4 182 (by decide +kernel) rfl
theorem mlC_289 : Cond.methodLink "LearnedCount" 289 (mY mFi_best) ∈ TG := TG_4 186 (by decide +kernel) rfl
theorem mlFi_19 : Cond.methodLink "LearnedCount$Finding" 19 (mY mJr_fill) ∈ TG := TG_4 190 (by decide +kernel) rfl
theorem mlFi_25 : Cond.methodLink "LearnedCount$Finding" 25 (mY mWe_weigh) ∈ TG := TG_4 191 (by decide +kernel) rfl
theorem mlFi_35 : Cond.methodLink "LearnedCount$Finding" 35 (mY mFi_tallyDoctors) ∈ TG := TG_4 192 (by decide +kernel) rfl
theorem mlFi_46 : Cond.methodLink "LearnedCount$Finding" 46 (mY mRu_isMain) ∈ TG := TG_4 196 (by decide +kernel) rfl
theorem mlFi_52 : Cond.methodLink "LearnedCount$Finding" 52 (mY mFi_tally) ∈ TG := TG_4 197 (by decide +kernel) rfl
theorem mlFi_59 : Cond.methodLink "LearnedCount$Finding" 59 (mY mWe_turnsBy) ∈ TG := TG_4 201 (by decide +kernel) rfl
theorem mlWe_116 : Cond.methodLink "LearnedCount$Weighing" 116 (mY mWe_heldIf) ∈ TG := TG_4 205 (by decide +kernel) rfl
theorem mlFi_63 : Cond.methodLink "LearnedCount$Finding" 63 (mY mJi_bitCount) ∈ TG := TG_4 206 (by decide +kernel) rfl
theorem mlFi_42 : Cond.methodLink "LearnedCount$Finding" 42 (mY mFi_doctorAt) ∈ TG := TG_4 208 (by decide +kernel) rfl
theorem mlC_296 : Cond.methodLink "LearnedCount" 296 (mY mFi_doctorAt) ∈ TG := TG_4 211 (by decide +kernel) rfl
theorem mlC_299 : Cond.methodLink "LearnedCount" 299 (mY mFi_answerAt) ∈ TG := TG_4 212 (by decide +kernel) rfl
theorem mlC_302 : Cond.methodLink "LearnedCount" 302 (mY mFi_marksAt) ∈ TG := TG_4 215 (by decide +kernel) rfl
theorem mlLa_126 : Cond.methodLink "LearnedCountLaw" 126 (mY mC_turns) ∈ TG := TG_4 218 (by decide +kernel) rfl
theorem mlC_305 : Cond.methodLink "LearnedCount" 305 (mY mRu_isMain) ∈ TG := TG_4 222 (by decide +kernel) rfl
theorem mlC_308 : Cond.methodLink "LearnedCount" 308 (mY mWe_turnsBy) ∈ TG := TG_4 223 (by decide +kernel) rfl
theorem mlLa_130 : Cond.methodLink "LearnedCountLaw" 130 (mY mC_keep) ∈ TG := TG_4 224 (by decide +kernel) rfl
theorem mlC_312 : Cond.methodLink "LearnedCount" 312 (mY mRu_becomeAs) ∈ TG := TG_4 228 (by decide +kernel) rfl
theorem mlLa_134 : Cond.methodLink "LearnedCountLaw" 134 (mY mC_swap) ∈ TG := TG_4 232 (by decide +kernel) rfl
theorem mlLa_138 : Cond.methodLink "LearnedCountLaw" 138 (mY mC_differ) ∈ TG := TG_4 236 (by decide +kernel) rfl
theorem mlLa_142 : Cond.methodLink "LearnedCountLaw" 142 (mY mC_brief) ∈ TG := TG_5 0 (by decide +kernel) rfl
theorem mlC_319 : Cond.methodLink "LearnedCount" 319 (mY mC_tellsApart) ∈ TG := TG_5 4 (by decide +kernel) rfl
theorem mlLa_146 : Cond.methodLink "LearnedCountLaw" 146 (mY mC_sheet) ∈ TG := TG_5 7 (by decide +kernel) rfl
theorem mlC_323 : Cond.methodLink "LearnedCount" 323 (mY mC_isSheet) ∈ TG := TG_5 11 (by decide +kernel) rfl
theorem mlC_326 : Cond.methodLink "LearnedCount" 326 (mY mC_isLane) ∈ TG := TG_5 14 (by decide +kernel) rfl
theorem mlC_329 : Cond.methodLink "LearnedCount" 329 (mY mSh_renew) ∈ TG := TG_5 17 (by decide +kernel) rfl
theorem mlSh_22 : Cond.methodLink "LearnedCount$Sheet" 22 (mY mJr_fill) ∈ TG := TG_5 21 (by decide +kernel) rfl
theorem mlLa_150 : Cond.methodLink "LearnedCountLaw" 150 (mY mC_lay) ∈ TG := TG_5 22 (by decide +kernel) rfl
theorem mlC_333 : Cond.methodLink "LearnedCount" 333 (mY mSh_isNothing) ∈ TG := TG_5 26 (by decide +kernel) rfl
theorem mlC_337 : Cond.methodLink "LearnedCount" 337 (mY mSh_hasCell) ∈ TG := TG_5 30 (by decide +kernel) rfl
theorem mlC_340 : Cond.methodLink "LearnedCount" 340 (mY mSh_put) ∈ TG := TG_5 34 (by decide +kernel) rfl
theorem mlLa_154 : Cond.methodLink "LearnedCountLaw" 154 (mY mC_read) ∈ TG := TG_5 38 (by decide +kernel) rfl
theorem mlC_346 : Cond.methodLink "LearnedCount" 346 (mY mC_readCells) ∈ TG := TG_5 42 (by decide +kernel) rfl
theorem mlLa_158 : Cond.methodLink "LearnedCountLaw" 158 (mY mC_count) ∈ TG := TG_5 46 (by decide +kernel) rfl
theorem clLa_10 : Cond.classLink "LearnedCountLaw" 10 "LearnedCountModel" ∈ TG := TG_5 50 (by decide +kernel) rfl
theorem mlLa_12 : Cond.methodLink "LearnedCountLaw" 12 (mY mM_init) ∈ TG := TG_5 52 (by decide +kernel) rfl
theorem mlM_1 : Cond.methodLink "LearnedCountModel" 1 Lib.objectInit ∈ TG := TG_5 55 (by decide +kernel) rfl
theorem mlM_97 : Cond.methodLink "LearnedCountModel" 97 (mY mM_firstLibrary) ∈ TG := TG_5 56 (by decide +kernel) rfl
theorem mlM_100 : Cond.methodLink "LearnedCountModel" 100 (mY mM_keepLibrary) ∈ TG := TG_5 60 (by decide +kernel) rfl
theorem mlM_115 : Cond.methodLink "LearnedCountModel" 115 (mY mM_findFollowing) ∈ TG := TG_5 64 (by decide +kernel) rfl
theorem mlM_247 : Cond.methodLink "LearnedCountModel" 247 (mY mM_followed) ∈ TG := TG_5 68 (by decide +kernel) rfl
theorem mlM_244 : Cond.methodLink "LearnedCountModel" 244 (mY mM_of) ∈ TG := TG_5 72 (by decide +kernel) rfl
theorem mlM_118 : Cond.methodLink "LearnedCountModel" 118 (mY mM_findSaid) ∈ TG := TG_5 76 (by decide +kernel) rfl
theorem mlM_257 : Cond.methodLink "LearnedCountModel" 257 (mY mM_isUnsound) ∈ TG := TG_5 80 (by decide +kernel) rfl
theorem mlM_261 : Cond.methodLink "LearnedCountModel" 261 (mY mM_sayWord) ∈ TG := TG_5 84 (by decide +kernel) rfl
theorem mlM_253 : Cond.methodLink "LearnedCountModel" 253 (mY mM_casesWith) ∈ TG := TG_5 88 (by decide +kernel) rfl
theorem mlM_103 : Cond.methodLink "LearnedCountModel" 103 (mY mM_firstRule) ∈ TG := TG_5 92 (by decide +kernel) rfl
theorem flM_112 : FL "LearnedCountModel" 112 11 0 := ⟨by decide, by decide, TG_5 96 (by decide +kernel) rfl⟩
theorem flM_7 : FL "LearnedCountModel" 7 11 1 := ⟨by decide, by decide, TG_5 97 (by decide +kernel) rfl⟩
theorem flM_13 : FL "LearnedCountModel" 13 11 2 := ⟨by decide, by decide, TG_5 98 (by decide +kernel) rfl⟩
theorem flM_106 : FL "LearnedCountModel" 106 11 3 := ⟨by decide, by decide, TG_5 99 (by decide +kernel) rfl⟩
theorem flM_16 : FL "LearnedCountModel" 16 11 4 := ⟨by decide, by decide, TG_5 100 (by decide +kernel) rfl⟩
theorem flM_19 : FL "LearnedCountModel" 19 11 5 := ⟨by decide, by decide, TG_5 101 (by decide +kernel) rfl⟩
theorem flM_22 : FL "LearnedCountModel" 22 11 6 := ⟨by decide, by decide, TG_5 102 (by decide +kernel) rfl⟩
theorem flM_26 : FL "LearnedCountModel" 26 11 7 := ⟨by decide, by decide, TG_5 103 (by decide +kernel) rfl⟩
theorem flM_109 : FL "LearnedCountModel" 109 11 8 := ⟨by decide, by decide, TG_5 104 (by decide +kernel) rfl⟩
theorem flM_29 : FL "LearnedCountModel" 29 11 9 := ⟨by decide, by decide, TG_5 105 (by decide +kernel) rfl⟩
theorem flM_33 : FL "LearnedCountModel" 33 11 10 := ⟨by decide, by decide, TG_5 106 (by decide +kernel) rfl⟩
theorem flM_121 : FL "LearnedCountModel" 121 11 11 := ⟨by decide, by decide, TG_5 107 (by decide +kernel) rfl⟩
theorem flM_139 : FL "LearnedCountModel" 139 11 12 := ⟨by decide, by decide, TG_5 108 (by decide +kernel) rfl⟩
theorem flM_133 : FL "LearnedCountModel" 133 11 13 := ⟨by decide, by decide, TG_5 109 (by decide +kernel) rfl⟩
theorem flM_158 : FL "LearnedCountModel" 158 11 14 := ⟨by decide, by decide, TG_5 110 (by decide +kernel) rfl⟩
theorem flM_169 : FL "LearnedCountModel" 169 11 15 := ⟨by decide, by decide, TG_5 111 (by decide +kernel) rfl⟩
theorem flM_130 : FL "LearnedCountModel" 130 11 16 := ⟨by decide, by decide, TG_5 112 (by decide +kernel) rfl⟩
theorem flM_136 : FL "LearnedCountModel" 136 11 17 := ⟨by decide, by decide, TG_5 113 (by decide +kernel) rfl⟩
theorem flM_36 : FL "LearnedCountModel" 36 11 18 := ⟨by decide, by decide, TG_5 114 (by decide +kernel) rfl⟩
theorem flM_39 : FL "LearnedCountModel" 39 11 19 := ⟨by decide, by decide, TG_5 115 (by decide +kernel) rfl⟩
theorem flM_42 : FL "LearnedCountModel" 42 11 20 := ⟨by decide, by decide, TG_5 116 (by decide +kernel) rfl⟩
theorem flM_45 : FL "LearnedCountModel" 45 11 21 := ⟨by decide, by decide, TG_5 117 (by decide +kernel) rfl⟩
theorem flM_48 : FL "LearnedCountModel" 48 11 22 := ⟨by decide, by decide, TG_5 118 (by decide +kernel) rfl⟩
theorem flM_250 : FL "LearnedCountModel" 250 11 23 := ⟨by decide, by decide, TG_5 119 (by decide +kernel) rfl⟩
theorem flM_241 : FL "LearnedCountModel" 241 11 24 := ⟨by decide, by decide, TG_5 120 (by decide +kernel) rfl⟩
theorem flM_51 : FL "LearnedCountModel" 51 11 25 := ⟨by decide, by decide, TG_5 121 (by decide +kernel) rfl⟩
theorem flM_55 : FL "LearnedCountModel" 55 11 26 := ⟨by decide, by decide, TG_5 122 (by decide +kernel) rfl⟩
theorem flM_58 : FL "LearnedCountModel" 58 11 27 := ⟨by decide, by decide, TG_5 123 (by decide +kernel) rfl⟩
theorem flM_61 : FL "LearnedCountModel" 61 11 28 := ⟨by decide, by decide, TG_5 124 (by decide +kernel) rfl⟩
theorem flM_64 : FL "LearnedCountModel" 64 11 29 := ⟨by decide, by decide, TG_5 125 (by decide +kernel) rfl⟩
theorem flM_67 : FL "LearnedCountModel" 67 11 30 := ⟨by decide, by decide, TG_5 126 (by decide +kernel) rfl⟩
theorem flM_70 : FL "LearnedCountModel" 70 11 31 := ⟨by decide, by decide, TG_5 127 (by decide +kernel) rfl⟩
theorem flM_73 : FL "LearnedCountModel" 73 11 32 := ⟨by decide, by decide, TG_5 128 (by decide +kernel) rfl⟩
theorem flM_76 : FL "LearnedCountModel" 76 11 33 := ⟨by decide, by decide, TG_5 129 (by decide +kernel) rfl⟩
theorem flM_79 : FL "LearnedCountModel" 79 11 34 := ⟨by decide, by decide, TG_5 130 (by decide +kernel) rfl⟩
theorem flM_313 : FL "LearnedCountModel" 313 11 35 := ⟨by decide, by decide, TG_5 131 (by decide +kernel) rfl⟩
theorem flM_316 : FL "LearnedCountModel" 316 11 36 := ⟨by decide, by decide, TG_5 132 (by decide +kernel) rfl⟩
theorem flM_82 : FL "LearnedCountModel" 82 11 37 := ⟨by decide, by decide, TG_5 133 (by decide +kernel) rfl⟩
theorem flM_85 : FL "LearnedCountModel" 85 11 38 := ⟨by decide, by decide, TG_5 134 (by decide +kernel) rfl⟩
theorem flM_341 : FL "LearnedCountModel" 341 11 39 := ⟨by decide, by decide, TG_5 135 (by decide +kernel) rfl⟩
theorem flM_88 : FL "LearnedCountModel" 88 11 40 := ⟨by decide, by decide, TG_5 136 (by decide +kernel) rfl⟩
theorem flM_91 : FL "LearnedCountModel" 91 11 41 := ⟨by decide, by decide, TG_5 137 (by decide +kernel) rfl⟩
theorem flM_94 : FL "LearnedCountModel" 94 11 42 := ⟨by decide, by decide, TG_5 138 (by decide +kernel) rfl⟩
theorem ac_boolean : Cond.arrayClass .boolean ∈ TG := TG_5 226 (by decide +kernel) rfl
theorem ac_long : Cond.arrayClass .long ∈ TG := TG_5 227 (by decide +kernel) rfl
theorem mlLa_19 : Cond.methodLink "LearnedCountLaw" 19 (mY mM_feed) ∈ TG := TG_5 228 (by decide +kernel) rfl
theorem klM_124 : Cond.constantLong "LearnedCountModel" 124 255 ∈ TG := TG_5 232 (by decide +kernel) rfl
theorem mlLa_24 : Cond.methodLink "LearnedCountLaw" 24 (mY mM_end) ∈ TG := TG_5 233 (by decide +kernel) rfl
theorem mlM_126 : Cond.methodLink "LearnedCountModel" 126 (mY mM_in) ∈ TG := TG_5 237 (by decide +kernel) rfl
theorem mlLa_29 : Cond.methodLink "LearnedCountLaw" 29 (mY mM_library) ∈ TG := TG_6 0 (by decide +kernel) rfl
theorem mlM_180 : Cond.methodLink "LearnedCountModel" 180 (mY mM_next) ∈ TG := TG_6 4 (by decide +kernel) rfl
theorem mlM_142 : Cond.methodLink "LearnedCountModel" 142 (mY mM_look) ∈ TG := TG_6 8 (by decide +kernel) rfl
theorem klM_161 : Cond.constantLong "LearnedCountModel" 161 97 ∈ TG := TG_6 12 (by decide +kernel) rfl
theorem klM_163 : Cond.constantLong "LearnedCountModel" 163 122 ∈ TG := TG_6 13 (by decide +kernel) rfl
theorem klM_165 : Cond.constantLong "LearnedCountModel" 165 48 ∈ TG := TG_6 14 (by decide +kernel) rfl
theorem klM_167 : Cond.constantLong "LearnedCountModel" 167 57 ∈ TG := TG_6 15 (by decide +kernel) rfl
theorem mlM_172 : Cond.methodLink "LearnedCountModel" 172 (mY mM_wants) ∈ TG := TG_6 16 (by decide +kernel) rfl
theorem mlM_218 : Cond.methodLink "LearnedCountModel" 218 (mY mM_readLine) ∈ TG := TG_6 20 (by decide +kernel) rfl
theorem mlM_189 : Cond.methodLink "LearnedCountModel" 189 (mY mM_nameNow) ∈ TG := TG_6 24 (by decide +kernel) rfl
theorem mlM_146 : Cond.methodLink "LearnedCountModel" 146 (mY mM_is) ∈ TG := TG_6 28 (by decide +kernel) rfl
theorem mlM_150 : Cond.methodLink "LearnedCountModel" 150 (mY mM_goesOn) ∈ TG := TG_6 32 (by decide +kernel) rfl
theorem mlM_154 : Cond.methodLink "LearnedCountModel" 154 (mY mM_ruleNameNow) ∈ TG := TG_6 36 (by decide +kernel) rfl
theorem klM_206 : Cond.constantLong "LearnedCountModel" 206 5 ∈ TG := TG_6 40 (by decide +kernel) rfl
theorem mlM_192 : Cond.methodLink "LearnedCountModel" 192 (mY mM_readNumber) ∈ TG := TG_6 41 (by decide +kernel) rfl
theorem mlM_176 : Cond.methodLink "LearnedCountModel" 176 (mY mM_isNumber) ∈ TG := TG_6 45 (by decide +kernel) rfl
theorem mlM_208 : Cond.methodLink "LearnedCountModel" 208 (mY mM_readCopies) ∈ TG := TG_6 49 (by decide +kernel) rfl
theorem mlM_211 : Cond.methodLink "LearnedCountModel" 211 (mY mM_readWord) ∈ TG := TG_6 53 (by decide +kernel) rfl
theorem mlM_195 : Cond.methodLink "LearnedCountModel" 195 (mY mM_readDoctor) ∈ TG := TG_6 57 (by decide +kernel) rfl
theorem klM_183 : Cond.constantLong "LearnedCountModel" 183 7 ∈ TG := TG_6 61 (by decide +kernel) rfl
theorem mlM_198 : Cond.methodLink "LearnedCountModel" 198 (mY mM_readMarks) ∈ TG := TG_6 62 (by decide +kernel) rfl
theorem mlM_185 : Cond.methodLink "LearnedCountModel" 185 (mY mM_letters) ∈ TG := TG_6 66 (by decide +kernel) rfl
theorem mlM_201 : Cond.methodLink "LearnedCountModel" 201 (mY mM_readAnswer) ∈ TG := TG_6 70 (by decide +kernel) rfl
theorem klM_204 : Cond.constantLong "LearnedCountModel" 204 3 ∈ TG := TG_6 74 (by decide +kernel) rfl
theorem mlM_215 : Cond.methodLink "LearnedCountModel" 215 (mY mM_endLine) ∈ TG := TG_6 75 (by decide +kernel) rfl
theorem mlM_221 : Cond.methodLink "LearnedCountModel" 221 (mY mM_checks) ∈ TG := TG_6 79 (by decide +kernel) rfl
theorem mlLa_33 : Cond.methodLink "LearnedCountLaw" 33 (mY mM_rule) ∈ TG := TG_6 83 (by decide +kernel) rfl
theorem mlM_234 : Cond.methodLink "LearnedCountModel" 234 (mY mM_readRule) ∈ TG := TG_6 87 (by decide +kernel) rfl
theorem mlM_224 : Cond.methodLink "LearnedCountModel" 224 (mY mM_rowOf) ∈ TG := TG_6 91 (by decide +kernel) rfl
theorem mlM_227 : Cond.methodLink "LearnedCountModel" 227 (mY mM_readMain) ∈ TG := TG_6 94 (by decide +kernel) rfl
theorem mlM_230 : Cond.methodLink "LearnedCountModel" 230 (mY mM_oneOf) ∈ TG := TG_6 98 (by decide +kernel) rfl
theorem mlLa_37 : Cond.methodLink "LearnedCountLaw" 37 (mY mM_fault) ∈ TG := TG_6 102 (by decide +kernel) rfl
theorem mlLa_41 : Cond.methodLink "LearnedCountLaw" 41 (mY mM_weighs) ∈ TG := TG_6 106 (by decide +kernel) rfl
theorem klM_237 : Cond.constantLong "LearnedCountModel" 237 6 ∈ TG := TG_6 110 (by decide +kernel) rfl
theorem mlLa_46 : Cond.methodLink "LearnedCountLaw" 46 (mY mM_word) ∈ TG := TG_6 111 (by decide +kernel) rfl
theorem mlM_267 : Cond.methodLink "LearnedCountModel" 267 (mY mM_isWord) ∈ TG := TG_6 115 (by decide +kernel) rfl
theorem klM_270 : Cond.constantLong "LearnedCountModel" 270 8 ∈ TG := TG_6 119 (by decide +kernel) rfl
theorem mlM_272 : Cond.methodLink "LearnedCountModel" 272 (mY mM_weightOf) ∈ TG := TG_6 120 (by decide +kernel) rfl
theorem mlM_264 : Cond.methodLink "LearnedCountModel" 264 (mY mM_countOf) ∈ TG := TG_6 124 (by decide +kernel) rfl
theorem mlLa_50 : Cond.methodLink "LearnedCountLaw" 50 (mY mM_says) ∈ TG := TG_6 127 (by decide +kernel) rfl
theorem mlM_275 : Cond.methodLink "LearnedCountModel" 275 (mY mM_isCase) ∈ TG := TG_6 131 (by decide +kernel) rfl
theorem klM_239 : Cond.constantLong "LearnedCountModel" 239 63 ∈ TG := TG_6 134 (by decide +kernel) rfl
theorem mlM_278 : Cond.methodLink "LearnedCountModel" 278 (mY mM_told) ∈ TG := TG_6 135 (by decide +kernel) rfl
theorem mlLa_54 : Cond.methodLink "LearnedCountLaw" 54 (mY mM_words) ∈ TG := TG_6 138 (by decide +kernel) rfl
theorem klM_281 : Cond.constantLong "LearnedCountModel" 281 2 ∈ TG := TG_6 142 (by decide +kernel) rfl
theorem mlM_283 : Cond.methodLink "LearnedCountModel" 283 (mY mM_counts) ∈ TG := TG_6 143 (by decide +kernel) rfl
theorem mlLa_58 : Cond.methodLink "LearnedCountLaw" 58 (mY mM_meets) ∈ TG := TG_6 147 (by decide +kernel) rfl
theorem mlLa_62 : Cond.methodLink "LearnedCountLaw" 62 (mY mM_steps) ∈ TG := TG_6 151 (by decide +kernel) rfl
theorem mlLa_66 : Cond.methodLink "LearnedCountLaw" 66 (mY mM_each) ∈ TG := TG_6 155 (by decide +kernel) rfl
theorem mlM_294 : Cond.methodLink "LearnedCountModel" 294 (mY mM_isDoctor) ∈ TG := TG_6 159 (by decide +kernel) rfl
theorem mlM_297 : Cond.methodLink "LearnedCountModel" 297 (mY mM_findEach) ∈ TG := TG_6 162 (by decide +kernel) rfl
theorem mlM_286 : Cond.methodLink "LearnedCountModel" 286 (mY mM_findOne) ∈ TG := TG_6 166 (by decide +kernel) rfl
theorem klM_289 : Cond.constantLong "LearnedCountModel" 289 (-1) ∈ TG := TG_6 170 (by decide +kernel) rfl
theorem mlM_291 : Cond.methodLink "LearnedCountModel" 291 (mY mM_ofTwo) ∈ TG := TG_6 171 (by decide +kernel) rfl
theorem mlLa_70 : Cond.methodLink "LearnedCountLaw" 70 (mY mM_clash) ∈ TG := TG_6 175 (by decide +kernel) rfl
theorem mlM_300 : Cond.methodLink "LearnedCountModel" 300 (mY mM_manyOf) ∈ TG := TG_6 179 (by decide +kernel) rfl
theorem mlM_304 : Cond.methodLink "LearnedCountModel" 304 (mY mM_firstOf) ∈ TG := TG_6 182 (by decide +kernel) rfl
theorem mlLa_75 : Cond.methodLink "LearnedCountLaw" 75 (mY mM_sides) ∈ TG := TG_6 185 (by decide +kernel) rfl
theorem mlLa_79 : Cond.methodLink "LearnedCountLaw" 79 (mY mM_hangs) ∈ TG := TG_6 189 (by decide +kernel) rfl
theorem mlM_319 : Cond.methodLink "LearnedCountModel" 319 (mY mM_findAll) ∈ TG := TG_6 193 (by decide +kernel) rfl
theorem mlM_310 : Cond.methodLink "LearnedCountModel" 310 (mY mM_findHeld) ∈ TG := TG_6 197 (by decide +kernel) rfl
theorem mlM_307 : Cond.methodLink "LearnedCountModel" 307 (mY mM_lawOf) ∈ TG := TG_6 201 (by decide +kernel) rfl
theorem mlM_322 : Cond.methodLink "LearnedCountModel" 322 (mY mM_keepHeld) ∈ TG := TG_6 205 (by decide +kernel) rfl
theorem mlM_325 : Cond.methodLink "LearnedCountModel" 325 (mY mM_findChanged) ∈ TG := TG_6 209 (by decide +kernel) rfl
theorem mlLa_83 : Cond.methodLink "LearnedCountLaw" 83 (mY mM_held) ∈ TG := TG_6 213 (by decide +kernel) rfl
theorem mlLa_88 : Cond.methodLink "LearnedCountLaw" 88 (mY mM_cases) ∈ TG := TG_6 217 (by decide +kernel) rfl
theorem mlM_332 : Cond.methodLink "LearnedCountModel" 332 (mY mM_areAsked) ∈ TG := TG_6 221 (by decide +kernel) rfl
theorem klM_328 : Cond.constantLong "LearnedCountModel" 328 10 ∈ TG := TG_6 225 (by decide +kernel) rfl
theorem klM_330 : Cond.constantLong "LearnedCountModel" 330 14 ∈ TG := TG_6 226 (by decide +kernel) rfl
theorem mlLa_92 : Cond.methodLink "LearnedCountLaw" 92 (mY mM_many) ∈ TG := TG_6 227 (by decide +kernel) rfl
theorem mlM_335 : Cond.methodLink "LearnedCountModel" 335 (mY mM_cases) ∈ TG := TG_6 231 (by decide +kernel) rfl
theorem mlLa_97 : Cond.methodLink "LearnedCountLaw" 97 (mY mM_reckon) ∈ TG := TG_6 232 (by decide +kernel) rfl
theorem mlLa_101 : Cond.methodLink "LearnedCountLaw" 101 (mY mM_widest) ∈ TG := TG_6 236 (by decide +kernel) rfl
theorem mlLa_105 : Cond.methodLink "LearnedCountLaw" 105 (mY mM_near) ∈ TG := TG_7 0 (by decide +kernel) rfl
theorem mlLa_109 : Cond.methodLink "LearnedCountLaw" 109 (mY mM_bring) ∈ TG := TG_7 4 (by decide +kernel) rfl
theorem mlLa_113 : Cond.methodLink "LearnedCountLaw" 113 (mY mM_copies) ∈ TG := TG_7 8 (by decide +kernel) rfl
theorem klM_339 : Cond.constantLong "LearnedCountModel" 339 9 ∈ TG := TG_7 12 (by decide +kernel) rfl
theorem mlLa_117 : Cond.methodLink "LearnedCountLaw" 117 (mY mM_argue) ∈ TG := TG_7 13 (by decide +kernel) rfl
theorem mlLa_121 : Cond.methodLink "LearnedCountLaw" 121 (mY mM_game) ∈ TG := TG_7 17 (by decide +kernel) rfl
theorem mlM_348 : Cond.methodLink "LearnedCountModel" 348 (mY mM_findGame) ∈ TG := TG_7 21 (by decide +kernel) rfl
theorem mlM_344 : Cond.methodLink "LearnedCountModel" 344 (mY mM_bestTurn) ∈ TG := TG_7 25 (by decide +kernel) rfl
theorem mlLa_125 : Cond.methodLink "LearnedCountLaw" 125 (mY mM_turn) ∈ TG := TG_7 29 (by decide +kernel) rfl
theorem mlM_351 : Cond.methodLink "LearnedCountModel" 351 (mY mM_turnsBy) ∈ TG := TG_7 33 (by decide +kernel) rfl
theorem mlLa_129 : Cond.methodLink "LearnedCountLaw" 129 (mY mM_turns) ∈ TG := TG_7 37 (by decide +kernel) rfl
theorem mlLa_133 : Cond.methodLink "LearnedCountLaw" 133 (mY mM_keep) ∈ TG := TG_7 41 (by decide +kernel) rfl
theorem mlLa_137 : Cond.methodLink "LearnedCountLaw" 137 (mY mM_swap) ∈ TG := TG_7 45 (by decide +kernel) rfl
theorem mlLa_141 : Cond.methodLink "LearnedCountLaw" 141 (mY mM_differ) ∈ TG := TG_7 49 (by decide +kernel) rfl
theorem mlM_354 : Cond.methodLink "LearnedCountModel" 354 (mY mM_swap) ∈ TG := TG_7 53 (by decide +kernel) rfl
theorem mlLa_145 : Cond.methodLink "LearnedCountLaw" 145 (mY mM_brief) ∈ TG := TG_7 54 (by decide +kernel) rfl
theorem mlLa_149 : Cond.methodLink "LearnedCountLaw" 149 (mY mM_sheet) ∈ TG := TG_7 58 (by decide +kernel) rfl
theorem mlM_357 : Cond.methodLink "LearnedCountModel" 357 (mY mM_isSheet) ∈ TG := TG_7 62 (by decide +kernel) rfl
theorem mlLa_153 : Cond.methodLink "LearnedCountLaw" 153 (mY mM_lay) ∈ TG := TG_7 65 (by decide +kernel) rfl
theorem mlLa_157 : Cond.methodLink "LearnedCountLaw" 157 (mY mM_read) ∈ TG := TG_7 69 (by decide +kernel) rfl
theorem klM_361 : Cond.constantLong "LearnedCountModel" 361 40 ∈ TG := TG_7 73 (by decide +kernel) rfl
theorem mlLa_161 : Cond.methodLink "LearnedCountLaw" 161 (mY mM_count) ∈ TG := TG_7 74 (by decide +kernel) rfl
theorem klM_363 : Cond.constantLong "LearnedCountModel" 363 17 ∈ TG := TG_7 78 (by decide +kernel) rfl
theorem klLa_13 : Cond.constantLong "LearnedCountLaw" 13 4294967295 ∈ TG := TG_7 79 (by decide +kernel) rfl
theorem flJs_9 : Cond.fieldLink "java/lang/String" 9 "java/lang/String" "value" "[B" ∈ TG := TG_7 80 (by decide +kernel) rfl
theorem flJs_15 : Cond.fieldLink "java/lang/String" 15 "java/lang/String" "coder" "B" ∈ TG := TG_7 81 (by decide +kernel) rfl
theorem nlLi_101 : ("LearnedCount$Library", 101, mY mC_holds, "LearnedCount") ∈ nestl := List.mem_of_getElem? (i := 0) rfl
theorem nlLi_124 : ("LearnedCount$Library", 124, mY mC_agreed, "LearnedCount") ∈ nestl := List.mem_of_getElem? (i := 1) rfl
theorem nlTo_70 : ("LearnedCount$Tokens", 70, mY mC_holds, "LearnedCount") ∈ nestl := List.mem_of_getElem? (i := 2) rfl
theorem nlLr_66 : ("LearnedCount$LibraryReader", 66, mY mC_holds, "LearnedCount") ∈ nestl := List.mem_of_getElem? (i := 3) rfl
theorem nlRr_45 : ("LearnedCount$RuleReader", 45, mY mC_holds, "LearnedCount") ∈ nestl := List.mem_of_getElem? (i := 4) rfl
theorem nlWe_103 : ("LearnedCount$Weighing", 103, mY mC_agreed, "LearnedCount") ∈ nestl := List.mem_of_getElem? (i := 5) rfl
theorem nlFi_68 : ("LearnedCount$Finding", 68, mY mC_holds, "LearnedCount") ∈ nestl := List.mem_of_getElem? (i := 6) rfl
theorem ak_12 : AK 12 0 24 := ⟨by decide, by decide, rfl, by decide⟩
theorem ak_13 : AK 13 0 8 := ⟨by decide, by decide, rfl, by decide⟩
theorem ak_14 : AK 14 0 64 := ⟨by decide, by decide, rfl, by decide⟩
theorem ak_15 : AK 15 0 7 := ⟨by decide, by decide, rfl, by decide⟩
theorem ak_16 : AK 16 0 1024 := ⟨by decide, by decide, rfl, by decide⟩
theorem ak_17 : AK 17 2 400 := ⟨by decide, by decide, rfl, by decide⟩
theorem ak_18 : AK 18 4 24 := ⟨by decide, by decide, rfl, by decide⟩
theorem ak_19 : AK 19 5 4 := ⟨by decide, by decide, rfl, by decide⟩
theorem ak_20 : AK 20 0 40 := ⟨by decide, by decide, rfl, by decide⟩
theorem ak_21 : AK 21 0 250 := ⟨by decide, by decide, rfl, by decide⟩
theorem ak_22 : AK 22 0 400 := ⟨by decide, by decide, rfl, by decide⟩
theorem ak_23 : AK 23 0 25 := ⟨by decide, by decide, rfl, by decide⟩
theorem ak_24 : AK 24 3 8 := ⟨by decide, by decide, rfl, by decide⟩
theorem ak_25 : AK 25 3 7 := ⟨by decide, by decide, rfl, by decide⟩
theorem ak_26 : AK 26 1 25 := ⟨by decide, by decide, rfl, by decide⟩
theorem ak_27 : AK 27 1 8 := ⟨by decide, by decide, rfl, by decide⟩
theorem ak_28 : AK 28 0 4 := ⟨by decide, by decide, rfl, by decide⟩
theorem ak_29 : AK 29 0 160 := ⟨by decide, by decide, rfl, by decide⟩
theorem ak_30 : AK 30 0 256 := ⟨by decide, by decide, rfl, by decide⟩
end
