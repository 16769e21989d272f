section
-- ===== PART A: goes FIRST, ahead of the names: the tables' words, and 'selects' of the private methods out of them =====
/-- a private method of a class that the tables say can be made, by its rows of tables_1 -/
def lw_okq (q : MethodName × Nat) : Prop := (q.1.cls ≠ "java/lang/invoke/MethodHandle" ∧ q.1.cls ≠ "java/lang/invoke/VarHandle") ∧ Cond.instantiable q.1.cls q.2 ∈ tables_1 ∧ Cond.privateMethod q.1 ∈ tables_1 ∧ Cond.instanceMethod q.1 ∈ tables_1
theorem lw_p0 : lw_okq (⟨"KeptSentences", "addTapeTo", "(LKeptSentences$Words;)I"⟩, 12) := ⟨⟨by decide +kernel, by decide +kernel⟩, List.mem_of_getElem? (i := 17) (by decide +kernel), List.mem_of_getElem? (i := 328) (by decide +kernel), List.mem_of_getElem? (i := 329) (by decide +kernel)⟩
theorem lw_p1 : lw_okq (⟨"KeptSentences", "isSegment", "(I)Z"⟩, 12) := ⟨⟨by decide +kernel, by decide +kernel⟩, List.mem_of_getElem? (i := 17) (by decide +kernel), List.mem_of_getElem? (i := 426) (by decide +kernel), List.mem_of_getElem? (i := 427) (by decide +kernel)⟩
theorem lw_p2 : lw_okq (⟨"KeptSentences", "isSomebody", "(I)Z"⟩, 12) := ⟨⟨by decide +kernel, by decide +kernel⟩, List.mem_of_getElem? (i := 17) (by decide +kernel), List.mem_of_getElem? (i := 451) (by decide +kernel), List.mem_of_getElem? (i := 452) (by decide +kernel)⟩
theorem lw_p3 : lw_okq (⟨"KeptSentences", "isTapeTorn", "()Z"⟩, 12) := ⟨⟨by decide +kernel, by decide +kernel⟩, List.mem_of_getElem? (i := 17) (by decide +kernel), List.mem_of_getElem? (i := 455) (by decide +kernel), List.mem_of_getElem? (i := 456) (by decide +kernel)⟩
theorem lw_p4 : lw_okq (⟨"KeptSentences", "moveTapeTo", "(II)V"⟩, 12) := ⟨⟨by decide +kernel, by decide +kernel⟩, List.mem_of_getElem? (i := 17) (by decide +kernel), List.mem_of_getElem? (i := 470) (by decide +kernel), List.mem_of_getElem? (i := 471) (by decide +kernel)⟩
theorem lw_p5 : lw_okq (⟨"KeptSentences", "isPair", "(I)Z"⟩, 12) := ⟨⟨by decide +kernel, by decide +kernel⟩, List.mem_of_getElem? (i := 17) (by decide +kernel), List.mem_of_getElem? (i := 482) (by decide +kernel), List.mem_of_getElem? (i := 483) (by decide +kernel)⟩
theorem lw_p6 : lw_okq (⟨"KeptSentences", "isLikeSource", "(II)Z"⟩, 12) := ⟨⟨by decide +kernel, by decide +kernel⟩, List.mem_of_getElem? (i := 17) (by decide +kernel), List.mem_of_getElem? (i := 518) (by decide +kernel), List.mem_of_getElem? (i := 519) (by decide +kernel)⟩
theorem lw_p7 : lw_okq (⟨"KeptSentences", "scoreOf", "(II)I"⟩, 12) := ⟨⟨by decide +kernel, by decide +kernel⟩, List.mem_of_getElem? (i := 17) (by decide +kernel), List.mem_of_getElem? (i := 542) (by decide +kernel), List.mem_of_getElem? (i := 543) (by decide +kernel)⟩
theorem lw_p8 : lw_okq (⟨"KeptSentences", "aheadOf", "(II)I"⟩, 12) := ⟨⟨by decide +kernel, by decide +kernel⟩, List.mem_of_getElem? (i := 17) (by decide +kernel), List.mem_of_getElem? (i := 573) (by decide +kernel), List.mem_of_getElem? (i := 574) (by decide +kernel)⟩
theorem lw_p9 : lw_okq (⟨"KeptSentences", "readRenderingOf", "(I)V"⟩, 12) := ⟨⟨by decide +kernel, by decide +kernel⟩, List.mem_of_getElem? (i := 17) (by decide +kernel), List.mem_of_getElem? (i := 598) (by decide +kernel), List.mem_of_getElem? (i := 599) (by decide +kernel)⟩
theorem lw_p10 : lw_okq (⟨"KeptSentences", "kindCounted", "(I)I"⟩, 12) := ⟨⟨by decide +kernel, by decide +kernel⟩, List.mem_of_getElem? (i := 17) (by decide +kernel), List.mem_of_getElem? (i := 672) (by decide +kernel), List.mem_of_getElem? (i := 673) (by decide +kernel)⟩
theorem lw_p11 : lw_okq (⟨"KeptSentencesModel", "isWord", "(II)Z"⟩, 33) := ⟨⟨by decide +kernel, by decide +kernel⟩, List.mem_of_getElem? (i := 689) (by decide +kernel), List.mem_of_getElem? (i := 815) (by decide +kernel), List.mem_of_getElem? (i := 816) (by decide +kernel)⟩
theorem lw_p12 : lw_okq (⟨"KeptSentencesModel", "word", "(III)V"⟩, 33) := ⟨⟨by decide +kernel, by decide +kernel⟩, List.mem_of_getElem? (i := 689) (by decide +kernel), List.mem_of_getElem? (i := 822) (by decide +kernel), List.mem_of_getElem? (i := 823) (by decide +kernel)⟩
theorem lw_p13 : lw_okq (⟨"KeptSentencesModel", "read", "(IIIIZ)V"⟩, 33) := ⟨⟨by decide +kernel, by decide +kernel⟩, List.mem_of_getElem? (i := 689) (by decide +kernel), List.mem_of_getElem? (i := 838) (by decide +kernel), List.mem_of_getElem? (i := 839) (by decide +kernel)⟩
theorem lw_p14 : lw_okq (⟨"KeptSentencesModel", "mark", "(I)I"⟩, 33) := ⟨⟨by decide +kernel, by decide +kernel⟩, List.mem_of_getElem? (i := 689) (by decide +kernel), List.mem_of_getElem? (i := 842) (by decide +kernel), List.mem_of_getElem? (i := 843) (by decide +kernel)⟩
theorem lw_p15 : lw_okq (⟨"KeptSentencesModel", "at", "(I)I"⟩, 33) := ⟨⟨by decide +kernel, by decide +kernel⟩, List.mem_of_getElem? (i := 689) (by decide +kernel), List.mem_of_getElem? (i := 846) (by decide +kernel), List.mem_of_getElem? (i := 847) (by decide +kernel)⟩
def lw_privs_1 : List (MethodName × Nat) := [(⟨"KeptSentences", "addTapeTo", "(LKeptSentences$Words;)I"⟩, 12), (⟨"KeptSentences", "isSegment", "(I)Z"⟩, 12), (⟨"KeptSentences", "isSomebody", "(I)Z"⟩, 12), (⟨"KeptSentences", "isTapeTorn", "()Z"⟩, 12), (⟨"KeptSentences", "moveTapeTo", "(II)V"⟩, 12), (⟨"KeptSentences", "isPair", "(I)Z"⟩, 12), (⟨"KeptSentences", "isLikeSource", "(II)Z"⟩, 12), (⟨"KeptSentences", "scoreOf", "(II)I"⟩, 12), (⟨"KeptSentences", "aheadOf", "(II)I"⟩, 12), (⟨"KeptSentences", "readRenderingOf", "(I)V"⟩, 12), (⟨"KeptSentences", "kindCounted", "(I)I"⟩, 12), (⟨"KeptSentencesModel", "isWord", "(II)Z"⟩, 33), (⟨"KeptSentencesModel", "word", "(III)V"⟩, 33), (⟨"KeptSentencesModel", "read", "(IIIIZ)V"⟩, 33), (⟨"KeptSentencesModel", "mark", "(I)I"⟩, 33), (⟨"KeptSentencesModel", "at", "(I)I"⟩, 33)]
theorem lw_r1 : ∀ q ∈ lw_privs_1, lw_okq q := List.forall_mem_cons.mpr ⟨lw_p0, List.forall_mem_cons.mpr ⟨lw_p1, List.forall_mem_cons.mpr ⟨lw_p2, List.forall_mem_cons.mpr ⟨lw_p3, List.forall_mem_cons.mpr ⟨lw_p4, List.forall_mem_cons.mpr ⟨lw_p5, List.forall_mem_cons.mpr ⟨lw_p6, List.forall_mem_cons.mpr ⟨lw_p7, List.forall_mem_cons.mpr ⟨lw_p8, List.forall_mem_cons.mpr ⟨lw_p9, List.forall_mem_cons.mpr ⟨lw_p10, List.forall_mem_cons.mpr ⟨lw_p11, List.forall_mem_cons.mpr ⟨lw_p12, List.forall_mem_cons.mpr ⟨lw_p13, List.forall_mem_cons.mpr ⟨lw_p14, List.forall_mem_cons.mpr ⟨lw_p15, fun _ h => absurd h List.not_mem_nil⟩⟩⟩⟩⟩⟩⟩⟩⟩⟩⟩⟩⟩⟩⟩⟩
theorem lw_p16 : lw_okq (⟨"KeptSentencesModel", "digits", "(II)I"⟩, 33) := ⟨⟨by decide +kernel, by decide +kernel⟩, List.mem_of_getElem? (i := 689) (by decide +kernel), List.mem_of_getElem? (i := 853) (by decide +kernel), List.mem_of_getElem? (i := 854) (by decide +kernel)⟩
theorem lw_p17 : lw_okq (⟨"KeptSentencesModel", "ends", "(II)Z"⟩, 33) := ⟨⟨by decide +kernel, by decide +kernel⟩, List.mem_of_getElem? (i := 689) (by decide +kernel), List.mem_of_getElem? (i := 857) (by decide +kernel), List.mem_of_getElem? (i := 858) (by decide +kernel)⟩
theorem lw_p18 : lw_okq (⟨"KeptSentencesModel", "isThat", "(II)Z"⟩, 33) := ⟨⟨by decide +kernel, by decide +kernel⟩, List.mem_of_getElem? (i := 689) (by decide +kernel), List.mem_of_getElem? (i := 861) (by decide +kernel), List.mem_of_getElem? (i := 862) (by decide +kernel)⟩
theorem lw_p19 : lw_okq (⟨"KeptSentencesModel", "copy", "(III)V"⟩, 33) := ⟨⟨by decide +kernel, by decide +kernel⟩, List.mem_of_getElem? (i := 689) (by decide +kernel), List.mem_of_getElem? (i := 868) (by decide +kernel), List.mem_of_getElem? (i := 869) (by decide +kernel)⟩
theorem lw_p20 : lw_okq (⟨"KeptSentencesModel", "isSegment", "(I)Z"⟩, 33) := ⟨⟨by decide +kernel, by decide +kernel⟩, List.mem_of_getElem? (i := 689) (by decide +kernel), List.mem_of_getElem? (i := 876) (by decide +kernel), List.mem_of_getElem? (i := 877) (by decide +kernel)⟩
theorem lw_p21 : lw_okq (⟨"KeptSentencesModel", "readSegment", "(II)V"⟩, 33) := ⟨⟨by decide +kernel, by decide +kernel⟩, List.mem_of_getElem? (i := 689) (by decide +kernel), List.mem_of_getElem? (i := 880) (by decide +kernel), List.mem_of_getElem? (i := 881) (by decide +kernel)⟩
theorem lw_p22 : lw_okq (⟨"KeptSentencesModel", "wordsOf", "(I)I"⟩, 33) := ⟨⟨by decide +kernel, by decide +kernel⟩, List.mem_of_getElem? (i := 689) (by decide +kernel), List.mem_of_getElem? (i := 884) (by decide +kernel), List.mem_of_getElem? (i := 885) (by decide +kernel)⟩
theorem lw_p23 : lw_okq (⟨"KeptSentencesModel", "isTorn", "(I)Z"⟩, 33) := ⟨⟨by decide +kernel, by decide +kernel⟩, List.mem_of_getElem? (i := 689) (by decide +kernel), List.mem_of_getElem? (i := 888) (by decide +kernel), List.mem_of_getElem? (i := 889) (by decide +kernel)⟩
theorem lw_p24 : lw_okq (⟨"KeptSentencesModel", "digitAt", "(I)I"⟩, 33) := ⟨⟨by decide +kernel, by decide +kernel⟩, List.mem_of_getElem? (i := 689) (by decide +kernel), List.mem_of_getElem? (i := 892) (by decide +kernel), List.mem_of_getElem? (i := 893) (by decide +kernel)⟩
theorem lw_p25 : lw_okq (⟨"KeptSentencesModel", "readRow", "(II)V"⟩, 33) := ⟨⟨by decide +kernel, by decide +kernel⟩, List.mem_of_getElem? (i := 689) (by decide +kernel), List.mem_of_getElem? (i := 904) (by decide +kernel), List.mem_of_getElem? (i := 905) (by decide +kernel)⟩
theorem lw_p26 : lw_okq (⟨"KeptSentencesModel", "comes", "(II)V"⟩, 33) := ⟨⟨by decide +kernel, by decide +kernel⟩, List.mem_of_getElem? (i := 689) (by decide +kernel), List.mem_of_getElem? (i := 911) (by decide +kernel), List.mem_of_getElem? (i := 912) (by decide +kernel)⟩
theorem lw_p27 : lw_okq (⟨"KeptSentencesModel", "isPair", "(I)Z"⟩, 33) := ⟨⟨by decide +kernel, by decide +kernel⟩, List.mem_of_getElem? (i := 689) (by decide +kernel), List.mem_of_getElem? (i := 919) (by decide +kernel), List.mem_of_getElem? (i := 920) (by decide +kernel)⟩
theorem lw_p28 : lw_okq (⟨"KeptSentencesModel", "latest", "(II)I"⟩, 33) := ⟨⟨by decide +kernel, by decide +kernel⟩, List.mem_of_getElem? (i := 689) (by decide +kernel), List.mem_of_getElem? (i := 927) (by decide +kernel), List.mem_of_getElem? (i := 928) (by decide +kernel)⟩
theorem lw_p29 : lw_okq (⟨"KeptSentencesModel", "readBoth", "(II)V"⟩, 33) := ⟨⟨by decide +kernel, by decide +kernel⟩, List.mem_of_getElem? (i := 689) (by decide +kernel), List.mem_of_getElem? (i := 943) (by decide +kernel), List.mem_of_getElem? (i := 944) (by decide +kernel)⟩
theorem lw_p30 : lw_okq (⟨"KeptSentencesModel", "like", "()Z"⟩, 33) := ⟨⟨by decide +kernel, by decide +kernel⟩, List.mem_of_getElem? (i := 689) (by decide +kernel), List.mem_of_getElem? (i := 947) (by decide +kernel), List.mem_of_getElem? (i := 948) (by decide +kernel)⟩
theorem lw_p31 : lw_okq (⟨"KeptSentencesModel", "alike", "(IIII)Z"⟩, 33) := ⟨⟨by decide +kernel, by decide +kernel⟩, List.mem_of_getElem? (i := 689) (by decide +kernel), List.mem_of_getElem? (i := 951) (by decide +kernel), List.mem_of_getElem? (i := 952) (by decide +kernel)⟩
def lw_privs_2 : List (MethodName × Nat) := [(⟨"KeptSentencesModel", "digits", "(II)I"⟩, 33), (⟨"KeptSentencesModel", "ends", "(II)Z"⟩, 33), (⟨"KeptSentencesModel", "isThat", "(II)Z"⟩, 33), (⟨"KeptSentencesModel", "copy", "(III)V"⟩, 33), (⟨"KeptSentencesModel", "isSegment", "(I)Z"⟩, 33), (⟨"KeptSentencesModel", "readSegment", "(II)V"⟩, 33), (⟨"KeptSentencesModel", "wordsOf", "(I)I"⟩, 33), (⟨"KeptSentencesModel", "isTorn", "(I)Z"⟩, 33), (⟨"KeptSentencesModel", "digitAt", "(I)I"⟩, 33), (⟨"KeptSentencesModel", "readRow", "(II)V"⟩, 33), (⟨"KeptSentencesModel", "comes", "(II)V"⟩, 33), (⟨"KeptSentencesModel", "isPair", "(I)Z"⟩, 33), (⟨"KeptSentencesModel", "latest", "(II)I"⟩, 33), (⟨"KeptSentencesModel", "readBoth", "(II)V"⟩, 33), (⟨"KeptSentencesModel", "like", "()Z"⟩, 33), (⟨"KeptSentencesModel", "alike", "(IIII)Z"⟩, 33)]
theorem lw_r2 : ∀ q ∈ lw_privs_2, lw_okq q := List.forall_mem_cons.mpr ⟨lw_p16, List.forall_mem_cons.mpr ⟨lw_p17, List.forall_mem_cons.mpr ⟨lw_p18, List.forall_mem_cons.mpr ⟨lw_p19, List.forall_mem_cons.mpr ⟨lw_p20, List.forall_mem_cons.mpr ⟨lw_p21, List.forall_mem_cons.mpr ⟨lw_p22, List.forall_mem_cons.mpr ⟨lw_p23, List.forall_mem_cons.mpr ⟨lw_p24, List.forall_mem_cons.mpr ⟨lw_p25, List.forall_mem_cons.mpr ⟨lw_p26, List.forall_mem_cons.mpr ⟨lw_p27, List.forall_mem_cons.mpr ⟨lw_p28, List.forall_mem_cons.mpr ⟨lw_p29, List.forall_mem_cons.mpr ⟨lw_p30, List.forall_mem_cons.mpr ⟨lw_p31, fun _ h => absurd h List.not_mem_nil⟩⟩⟩⟩⟩⟩⟩⟩⟩⟩⟩⟩⟩⟩⟩⟩
theorem lw_p32 : lw_okq (⟨"KeptSentencesModel", "scoreOf", "(II)I"⟩, 33) := ⟨⟨by decide +kernel, by decide +kernel⟩, List.mem_of_getElem? (i := 689) (by decide +kernel), List.mem_of_getElem? (i := 959) (by decide +kernel), List.mem_of_getElem? (i := 960) (by decide +kernel)⟩
theorem lw_p33 : lw_okq (⟨"KeptSentencesModel", "work", "()I"⟩, 33) := ⟨⟨by decide +kernel, by decide +kernel⟩, List.mem_of_getElem? (i := 689) (by decide +kernel), List.mem_of_getElem? (i := 963) (by decide +kernel), List.mem_of_getElem? (i := 964) (by decide +kernel)⟩
theorem lw_p34 : lw_okq (⟨"KeptSentencesModel", "keepCost", "(II)I"⟩, 33) := ⟨⟨by decide +kernel, by decide +kernel⟩, List.mem_of_getElem? (i := 689) (by decide +kernel), List.mem_of_getElem? (i := 968) (by decide +kernel), List.mem_of_getElem? (i := 969) (by decide +kernel)⟩
theorem lw_p35 : lw_okq (⟨"KeptSentencesModel", "same", "(II)Z"⟩, 33) := ⟨⟨by decide +kernel, by decide +kernel⟩, List.mem_of_getElem? (i := 689) (by decide +kernel), List.mem_of_getElem? (i := 972) (by decide +kernel), List.mem_of_getElem? (i := 973) (by decide +kernel)⟩
theorem lw_p36 : lw_okq (⟨"KeptSentencesModel", "loneCost", "(I)I"⟩, 33) := ⟨⟨by decide +kernel, by decide +kernel⟩, List.mem_of_getElem? (i := 689) (by decide +kernel), List.mem_of_getElem? (i := 976) (by decide +kernel), List.mem_of_getElem? (i := 977) (by decide +kernel)⟩
theorem lw_p37 : lw_okq (⟨"KeptSentencesModel", "step", "(III)V"⟩, 33) := ⟨⟨by decide +kernel, by decide +kernel⟩, List.mem_of_getElem? (i := 689) (by decide +kernel), List.mem_of_getElem? (i := 991) (by decide +kernel), List.mem_of_getElem? (i := 992) (by decide +kernel)⟩
theorem lw_p38 : lw_okq (⟨"KeptSentencesModel", "maps", "()Z"⟩, 33) := ⟨⟨by decide +kernel, by decide +kernel⟩, List.mem_of_getElem? (i := 689) (by decide +kernel), List.mem_of_getElem? (i := 1003) (by decide +kernel), List.mem_of_getElem? (i := 1004) (by decide +kernel)⟩
theorem lw_p39 : lw_okq (⟨"KeptSentencesModel", "patches", "(I)Z"⟩, 33) := ⟨⟨by decide +kernel, by decide +kernel⟩, List.mem_of_getElem? (i := 689) (by decide +kernel), List.mem_of_getElem? (i := 1007) (by decide +kernel), List.mem_of_getElem? (i := 1008) (by decide +kernel)⟩
theorem lw_p40 : lw_okq (⟨"KeptSentencesModel", "reads", "(II)Z"⟩, 33) := ⟨⟨by decide +kernel, by decide +kernel⟩, List.mem_of_getElem? (i := 689) (by decide +kernel), List.mem_of_getElem? (i := 1011) (by decide +kernel), List.mem_of_getElem? (i := 1012) (by decide +kernel)⟩
theorem lw_p41 : lw_okq (⟨"KeptSentencesModel", "lay", "(I)V"⟩, 33) := ⟨⟨by decide +kernel, by decide +kernel⟩, List.mem_of_getElem? (i := 689) (by decide +kernel), List.mem_of_getElem? (i := 1015) (by decide +kernel), List.mem_of_getElem? (i := 1016) (by decide +kernel)⟩
theorem lw_p42 : lw_okq (⟨"KeptSentencesModel", "often", "(II)I"⟩, 33) := ⟨⟨by decide +kernel, by decide +kernel⟩, List.mem_of_getElem? (i := 689) (by decide +kernel), List.mem_of_getElem? (i := 1023) (by decide +kernel), List.mem_of_getElem? (i := 1024) (by decide +kernel)⟩
theorem lw_p43 : lw_okq (⟨"KeptSentencesModel", "countedOf", "(I)I"⟩, 33) := ⟨⟨by decide +kernel, by decide +kernel⟩, List.mem_of_getElem? (i := 689) (by decide +kernel), List.mem_of_getElem? (i := 1031) (by decide +kernel), List.mem_of_getElem? (i := 1032) (by decide +kernel)⟩
def lw_privs_3 : List (MethodName × Nat) := [(⟨"KeptSentencesModel", "scoreOf", "(II)I"⟩, 33), (⟨"KeptSentencesModel", "work", "()I"⟩, 33), (⟨"KeptSentencesModel", "keepCost", "(II)I"⟩, 33), (⟨"KeptSentencesModel", "same", "(II)Z"⟩, 33), (⟨"KeptSentencesModel", "loneCost", "(I)I"⟩, 33), (⟨"KeptSentencesModel", "step", "(III)V"⟩, 33), (⟨"KeptSentencesModel", "maps", "()Z"⟩, 33), (⟨"KeptSentencesModel", "patches", "(I)Z"⟩, 33), (⟨"KeptSentencesModel", "reads", "(II)Z"⟩, 33), (⟨"KeptSentencesModel", "lay", "(I)V"⟩, 33), (⟨"KeptSentencesModel", "often", "(II)I"⟩, 33), (⟨"KeptSentencesModel", "countedOf", "(I)I"⟩, 33)]
theorem lw_r3 : ∀ q ∈ lw_privs_3, lw_okq q := List.forall_mem_cons.mpr ⟨lw_p32, List.forall_mem_cons.mpr ⟨lw_p33, List.forall_mem_cons.mpr ⟨lw_p34, List.forall_mem_cons.mpr ⟨lw_p35, List.forall_mem_cons.mpr ⟨lw_p36, List.forall_mem_cons.mpr ⟨lw_p37, List.forall_mem_cons.mpr ⟨lw_p38, List.forall_mem_cons.mpr ⟨lw_p39, List.forall_mem_cons.mpr ⟨lw_p40, List.forall_mem_cons.mpr ⟨lw_p41, List.forall_mem_cons.mpr ⟨lw_p42, List.forall_mem_cons.mpr ⟨lw_p43, fun _ h => absurd h List.not_mem_nil⟩⟩⟩⟩⟩⟩⟩⟩⟩⟩⟩⟩
def lw_privs : List (MethodName × Nat) := lw_privs_1 ++ (lw_privs_2 ++ (lw_privs_3))
def lw_tbl : List Cond := k2_sels lw_privs ++ tables_1
theorem lw_privs_ok : ∀ q ∈ lw_privs, lw_okq q := by
  show ∀ q ∈ lw_privs_1 ++ (lw_privs_2 ++ (lw_privs_3)), lw_okq q
  exact List.forall_mem_append.mpr ⟨lw_r1, List.forall_mem_append.mpr ⟨lw_r2, lw_r3⟩⟩
-- ===== end of PART A; then your names; then what follows =====
end
section
/-! names and tables of the program, by wip/whole/gen_tab.py; the classes' field tables stand as the task prints them -/
def RX0 : String := "KeptSentences$Book"
def TX0 : u_T := fun k => match k with
  | 0 => ("KeptSentences$Book", "text", "LKeptSentences$Text;", true)
  | 1 => ("KeptSentences$Book", "segments", "[LKeptSentences$Row;", true)
  | 2 => ("KeptSentences$Book", "ends", "[I", true)
  | _ => ("KeptSentences$Book", "size", "I", false)
def tyX0 : Nat → FieldType := fun k => match k with
  | 0 => .object "KeptSentences$Text"
  | 1 => .array (.object "KeptSentences$Row")
  | 2 => .array .int
  | _ => .int
theorem nmX0 : ∀ a, a < 4 → ∀ b, b < 4 → a ≠ b → (TX0 a).2.1 ≠ (TX0 b).2.1 := by decide +kernel
theorem tyX0_ok : ∀ k, k < 4 → parseFieldDescriptor (TX0 k).2.2.1 = some (tyX0 k) := by decide +kernel
def RX1 : String := "KeptSentences$Ladder"
def TX1 : u_T := fun k => match k with
  | 0 => ("KeptSentences$Ladder", "sums", "[I", true)
  | 1 => ("KeptSentences$Ladder", "sorts", "[I", true)
  | 2 => ("KeptSentences$Ladder", "lefts", "[I", true)
  | 3 => ("KeptSentences$Ladder", "rights", "[I", true)
  | _ => ("KeptSentences$Ladder", "steps", "I", false)
def tyX1 : Nat → FieldType := fun k => match k with
  | 0 => .array .int
  | 1 => .array .int
  | 2 => .array .int
  | 3 => .array .int
  | _ => .int
theorem nmX1 : ∀ a, a < 5 → ∀ b, b < 5 → a ≠ b → (TX1 a).2.1 ≠ (TX1 b).2.1 := by decide +kernel
theorem tyX1_ok : ∀ k, k < 5 → parseFieldDescriptor (TX1 k).2.2.1 = some (tyX1 k) := by decide +kernel
def RX2 : String := "KeptSentences$Memory"
def TX2 : u_T := fun k => match k with
  | 0 => ("KeptSentences$Memory", "sources", "[LKeptSentences$Text;", true)
  | 1 => ("KeptSentences$Memory", "rows", "[LKeptSentences$Row;", true)
  | 2 => ("KeptSentences$Memory", "latest", "[I", true)
  | 3 => ("KeptSentences$Memory", "renderings", "[LKeptSentences$Text;", true)
  | 4 => ("KeptSentences$Memory", "pairOf", "[I", true)
  | 5 => ("KeptSentences$Memory", "by", "[I", true)
  | 6 => ("KeptSentences$Memory", "pairs", "I", false)
  | _ => ("KeptSentences$Memory", "time", "I", false)
def tyX2 : Nat → FieldType := fun k => match k with
  | 0 => .array (.object "KeptSentences$Text")
  | 1 => .array (.object "KeptSentences$Row")
  | 2 => .array .int
  | 3 => .array (.object "KeptSentences$Text")
  | 4 => .array .int
  | 5 => .array .int
  | 6 => .int
  | _ => .int
theorem nmX2 : ∀ a, a < 8 → ∀ b, b < 8 → a ≠ b → (TX2 a).2.1 ≠ (TX2 b).2.1 := by decide +kernel
theorem tyX2_ok : ∀ k, k < 8 → parseFieldDescriptor (TX2 k).2.2.1 = some (tyX2 k) := by decide +kernel
def RX3 : String := "KeptSentences$Nearness"
def TX3 : u_T := fun k => match k with
  | 0 => ("KeptSentences$Nearness", "known", "[I", true)
  | _ => ("KeptSentences$Nearness", "ladder", "LKeptSentences$Ladder;", true)
def tyX3 : Nat → FieldType := fun k => match k with
  | 0 => .array .int
  | _ => .object "KeptSentences$Ladder"
theorem nmX3 : ∀ a, a < 2 → ∀ b, b < 2 → a ≠ b → (TX3 a).2.1 ≠ (TX3 b).2.1 := by decide +kernel
theorem tyX3_ok : ∀ k, k < 2 → parseFieldDescriptor (TX3 k).2.2.1 = some (tyX3 k) := by decide +kernel
def RX4 : String := "KeptSentences$Nesting"
def TX4 : u_T := fun k => match k with
  | _ => ("KeptSentences$Nesting", "open", "[I", true)
def tyX4 : Nat → FieldType := fun k => match k with
  | _ => .array .int
theorem nmX4 : ∀ a, a < 1 → ∀ b, b < 1 → a ≠ b → (TX4 a).2.1 ≠ (TX4 b).2.1 := by decide +kernel
theorem tyX4_ok : ∀ k, k < 1 → parseFieldDescriptor (TX4 k).2.2.1 = some (tyX4 k) := by decide +kernel
def RX5 : String := "KeptSentences$Patcher"
def TX5 : u_T := fun k => match k with
  | 0 => ("KeptSentences$Patcher", "out", "LKeptSentences$Text;", true)
  | 1 => ("KeptSentences$Patcher", "digitTo", "[I", true)
  | _ => ("KeptSentences$Patcher", "served", "[Z", true)
def tyX5 : Nat → FieldType := fun k => match k with
  | 0 => .object "KeptSentences$Text"
  | 1 => .array .int
  | _ => .array .boolean
theorem nmX5 : ∀ a, a < 3 → ∀ b, b < 3 → a ≠ b → (TX5 a).2.1 ≠ (TX5 b).2.1 := by decide +kernel
theorem tyX5_ok : ∀ k, k < 3 → parseFieldDescriptor (TX5 k).2.2.1 = some (tyX5 k) := by decide +kernel
def RX6 : String := "KeptSentences$Row"
def TX6 : u_T := fun k => match k with
  | 0 => ("KeptSentences$Row", "kinds", "[I", true)
  | 1 => ("KeptSentences$Row", "begins", "[I", true)
  | 2 => ("KeptSentences$Row", "lengths", "[I", true)
  | 3 => ("KeptSentences$Row", "text", "LKeptSentences$Text;", false)
  | 4 => ("KeptSentences$Row", "from", "I", false)
  | 5 => ("KeptSentences$Row", "to", "I", false)
  | 6 => ("KeptSentences$Row", "all", "I", false)
  | 7 => ("KeptSentences$Row", "solid", "I", false)
  | _ => ("KeptSentences$Row", "words", "I", false)
def tyX6 : Nat → FieldType := fun k => match k with
  | 0 => .array .int
  | 1 => .array .int
  | 2 => .array .int
  | 3 => .object "KeptSentences$Text"
  | 4 => .int
  | 5 => .int
  | 6 => .int
  | 7 => .int
  | _ => .int
theorem nmX6 : ∀ a, a < 9 → ∀ b, b < 9 → a ≠ b → (TX6 a).2.1 ≠ (TX6 b).2.1 := by decide +kernel
theorem tyX6_ok : ∀ k, k < 9 → parseFieldDescriptor (TX6 k).2.2.1 = some (tyX6 k) := by decide +kernel
def RX8 : String := "KeptSentences$Text"
def TX8 : u_T := fun k => match k with
  | 0 => ("KeptSentences$Text", "bytes", "[B", false)
  | _ => ("KeptSentences$Text", "size", "I", false)
def tyX8 : Nat → FieldType := fun k => match k with
  | 0 => .array .byte
  | _ => .int
theorem nmX8 : ∀ a, a < 2 → ∀ b, b < 2 → a ≠ b → (TX8 a).2.1 ≠ (TX8 b).2.1 := by decide +kernel
theorem tyX8_ok : ∀ k, k < 2 → parseFieldDescriptor (TX8 k).2.2.1 = some (tyX8 k) := by decide +kernel
def RX9 : String := "KeptSentences$Words"
def TX9 : u_T := fun k => match k with
  | 0 => ("KeptSentences$Words", "list", "[J", true)
  | _ => ("KeptSentences$Words", "size", "I", false)
def tyX9 : Nat → FieldType := fun k => match k with
  | 0 => .array .long
  | _ => .int
theorem nmX9 : ∀ a, a < 2 → ∀ b, b < 2 → a ≠ b → (TX9 a).2.1 ≠ (TX9 b).2.1 := by decide +kernel
theorem tyX9_ok : ∀ k, k < 2 → parseFieldDescriptor (TX9 k).2.2.1 = some (tyX9 k) := by decide +kernel
def RX10 : String := "KeptSentences"
def TX10 : u_T := fun k => match k with
  | 0 => ("KeptSentences", "tapeText", "LKeptSentences$Text;", true)
  | 1 => ("KeptSentences", "book", "LKeptSentences$Book;", true)
  | 2 => ("KeptSentences", "memory", "LKeptSentences$Memory;", true)
  | 3 => ("KeptSentences", "nearness", "LKeptSentences$Nearness;", true)
  | 4 => ("KeptSentences", "told", "LKeptSentences$Ladder;", true)
  | 5 => ("KeptSentences", "patcher", "LKeptSentences$Patcher;", true)
  | 6 => ("KeptSentences", "nesting", "LKeptSentences$Nesting;", true)
  | 7 => ("KeptSentences", "reading", "LKeptSentences$Row;", true)
  | 8 => ("KeptSentences", "exceptions", "LKeptSentences$Words;", true)
  | 9 => ("KeptSentences", "termWords", "LKeptSentences$Words;", true)
  | 10 => ("KeptSentences", "termRenderings", "LKeptSentences$Words;", true)
  | _ => ("KeptSentences", "forbidden", "LKeptSentences$Words;", true)
def tyX10 : Nat → FieldType := fun k => match k with
  | 0 => .object "KeptSentences$Text"
  | 1 => .object "KeptSentences$Book"
  | 2 => .object "KeptSentences$Memory"
  | 3 => .object "KeptSentences$Nearness"
  | 4 => .object "KeptSentences$Ladder"
  | 5 => .object "KeptSentences$Patcher"
  | 6 => .object "KeptSentences$Nesting"
  | 7 => .object "KeptSentences$Row"
  | 8 => .object "KeptSentences$Words"
  | 9 => .object "KeptSentences$Words"
  | 10 => .object "KeptSentences$Words"
  | _ => .object "KeptSentences$Words"
theorem nmX10 : ∀ a, a < 12 → ∀ b, b < 12 → a ≠ b → (TX10 a).2.1 ≠ (TX10 b).2.1 := by decide +kernel
theorem tyX10_ok : ∀ k, k < 12 → parseFieldDescriptor (TX10 k).2.2.1 = some (tyX10 k) := by decide +kernel
def RX11 : String := "KeptSentencesModel"
def TX11 : u_T := fun k => match k with
  | 0 => ("KeptSentencesModel", "thrown", "I", false)
  | 1 => ("KeptSentencesModel", "bytes", "[I", true)
  | 2 => ("KeptSentencesModel", "size", "[I", true)
  | 3 => ("KeptSentencesModel", "kind", "[I", true)
  | 4 => ("KeptSentencesModel", "from", "[I", true)
  | 5 => ("KeptSentencesModel", "many", "[I", true)
  | 6 => ("KeptSentencesModel", "pieces", "[I", true)
  | 7 => ("KeptSentencesModel", "solid", "[I", true)
  | 8 => ("KeptSentencesModel", "end", "I", false)
  | 9 => ("KeptSentencesModel", "stack", "[I", true)
  | 10 => ("KeptSentencesModel", "words", "[I", true)
  | 11 => ("KeptSentencesModel", "letters", "[I", true)
  | 12 => ("KeptSentencesModel", "exceptions", "I", false)
  | 13 => ("KeptSentencesModel", "terms", "I", false)
  | 14 => ("KeptSentencesModel", "forbidden", "I", false)
  | 15 => ("KeptSentencesModel", "segments", "I", false)
  | 16 => ("KeptSentencesModel", "begins", "[I", true)
  | 17 => ("KeptSentencesModel", "sizes", "[I", true)
  | 18 => ("KeptSentencesModel", "cutAt", "[I", true)
  | 19 => ("KeptSentencesModel", "pairs", "I", false)
  | 20 => ("KeptSentencesModel", "renderings", "I", false)
  | 21 => ("KeptSentencesModel", "pairOf", "[I", true)
  | 22 => ("KeptSentencesModel", "who", "[I", true)
  | 23 => ("KeptSentencesModel", "sums", "[I", true)
  | 24 => ("KeptSentencesModel", "scores", "[I", true)
  | 25 => ("KeptSentencesModel", "stepKind", "[I", true)
  | 26 => ("KeptSentencesModel", "stepA", "[I", true)
  | 27 => ("KeptSentencesModel", "stepB", "[I", true)
  | 28 => ("KeptSentencesModel", "steps", "I", false)
  | 29 => ("KeptSentencesModel", "goesTo", "[I", true)
  | 30 => ("KeptSentencesModel", "served", "[Z", true)
  | 31 => ("KeptSentencesModel", "out", "[I", true)
  | _ => ("KeptSentencesModel", "outSize", "I", false)
def tyX11 : Nat → FieldType := fun k => match k with
  | 0 => .int
  | 1 => .array .int
  | 2 => .array .int
  | 3 => .array .int
  | 4 => .array .int
  | 5 => .array .int
  | 6 => .array .int
  | 7 => .array .int
  | 8 => .int
  | 9 => .array .int
  | 10 => .array .int
  | 11 => .array .int
  | 12 => .int
  | 13 => .int
  | 14 => .int
  | 15 => .int
  | 16 => .array .int
  | 17 => .array .int
  | 18 => .array .int
  | 19 => .int
  | 20 => .int
  | 21 => .array .int
  | 22 => .array .int
  | 23 => .array .int
  | 24 => .array .int
  | 25 => .array .int
  | 26 => .array .int
  | 27 => .array .int
  | 28 => .int
  | 29 => .array .int
  | 30 => .array .boolean
  | 31 => .array .int
  | _ => .int
theorem nmX11 : ∀ a, a < 33 → ∀ b, b < 33 → a ≠ b → (TX11 a).2.1 ≠ (TX11 b).2.1 := by decide +kernel
theorem tyX11_ok : ∀ k, k < 33 → parseFieldDescriptor (TX11 k).2.2.1 = some (tyX11 k) := by decide +kernel
abbrev classes : List vw_C := [(RX0, TX0, 4), (RX1, TX1, 5), (RX2, TX2, 8), (RX3, TX3, 2), (RX4, TX4, 1), (RX5, TX5, 3), (RX6, TX6, 9), (RX8, TX8, 2), (RX9, TX9, 2), (RX10, TX10, 12), (RX11, TX11, 33)]
def tyC : List (Nat → FieldType) := [tyX0, tyX1, tyX2, tyX3, tyX4, tyX5, tyX6, tyX8, tyX9, tyX10, tyX11]
def cNs : List String := ["KeptSentences$Book", "KeptSentences$Ladder", "KeptSentences$Memory", "KeptSentences$Nearness", "KeptSentences$Nesting", "KeptSentences$Patcher", "KeptSentences$Row", "KeptSentences$Text", "KeptSentences$Words", "KeptSentences", "KeptSentencesModel", "KeptSentences$Scan", "KeptSentencesLaw", "java/lang/Math", "java/util/Arrays"]
def cN (o : Nat) : String := cNs.getD o ""
/-- which fields hold references -/
def rfs : List (List Bool) := [[true, true, true, false], [true, true, true, true, false], [true, true, true, true, true, true, false, false], [true, true], [true], [true, true, true], [true, true, true, true, false, false, false, false, false], [true, false], [true, false], [true, true, true, true, true, true, true, true, true, true, true, true], [false, true, true, true, true, true, true, true, false, true, true, true, false, false, false, false, true, true, true, false, false, true, true, true, true, true, true, true, false, true, true, true, false]]
def isRf (ci k : Nat) : Bool := (rfs.getD ci []).getD k false
def nFs : List Nat := [4, 5, 8, 2, 1, 3, 9, 2, 2, 12, 33]
def nF (ci : Nat) : Nat := nFs.getD ci 0
abbrev k_Book_isStop : Nat := 0
abbrev k_Ladder_init : Nat := 1
abbrev k_Ladder_addStep : Nat := 2
abbrev k_Memory_renderingAt : Nat := 3
abbrev k_Memory_renderingsOf : Nat := 4
abbrev k_Near_forgetPair : Nat := 5
abbrev k_Nest_init : Nat := 6
abbrev k_Patch_forgetServed : Nat := 7
abbrev k_Patch_inRendering : Nat := 8
abbrev k_Patch_haveAllServed : Nat := 9
abbrev k_Row_init : Nat := 10
abbrev k_Row_addPiece : Nat := 11
abbrev k_Row_isMark : Nat := 12
abbrev k_Row_digitPlace : Nat := 13
abbrev k_Row_hasBytesOf : Nat := 14
abbrev k_Row_hasLettersOf : Nat := 15
abbrev k_Scan_isLetter : Nat := 16
abbrev k_Scan_isDigit : Nat := 17
abbrev k_Text_init : Nat := 18
abbrev k_Text_at : Nat := 19
abbrev k_Text_put : Nat := 20
abbrev k_Text_take : Nat := 21
abbrev k_Text_firstBlank : Nat := 22
abbrev k_Words_init : Nat := 23
abbrev k_Words_isFull : Nat := 24
abbrev k_Words_has : Nat := 25
abbrev k_K_cut : Nat := 26
abbrev k_K_step : Nat := 27
abbrev k_K_about : Nat := 28
abbrev k_K_isSegment : Nat := 29
abbrev k_K_isPair : Nat := 30
abbrev k_K_isSomebody : Nat := 31
abbrev k_M_init : Nat := 32
abbrev k_M_in : Nat := 33
abbrev k_M_copy : Nat := 34
abbrev k_M_at : Nat := 35
abbrev k_M_isDigit : Nat := 36
abbrev k_M_isLetter : Nat := 37
abbrev k_M_small : Nat := 38
abbrev k_M_pointOf : Nat := 39
abbrev k_M_digitAt : Nat := 40
abbrev k_M_same : Nat := 41
abbrev k_M_word : Nat := 42
abbrev k_M_wordsOf : Nat := 43
abbrev k_M_latest : Nat := 44
abbrev k_M_step : Nat := 45
abbrev k_M_lay : Nat := 46
abbrev k_M_reads : Nat := 47
abbrev k_M_about : Nat := 48
abbrev k_Arrays_fill : Nat := 49
abbrev k_Book_init : Nat := 50
abbrev k_Book_isBlankOrEnd : Nat := 51
abbrev k_Memory_init : Nat := 52
abbrev k_Memory_addRendering : Nat := 53
abbrev k_Memory_takeBack : Nat := 54
abbrev k_Near_forgetAll : Nat := 55
abbrev k_Patch_init : Nat := 56
abbrev k_Patch_copy : Nat := 57
abbrev k_Patch_readsSame : Nat := 58
abbrev k_Patch_copyNumber : Nat := 59
abbrev k_Row_digit : Nat := 60
abbrev k_Row_isPieceLike : Nat := 61
abbrev k_Row_changeCost : Nat := 62
abbrev k_Row_aloneCost : Nat := 63
abbrev k_Scan_byteAt : Nat := 64
abbrev k_Scan_lettersEnd : Nat := 65
abbrev k_Scan_blanksEnd : Nat := 66
abbrev k_Scan_digitsEnd : Nat := 67
abbrev k_Words_packed : Nat := 68
abbrev k_Words_add : Nat := 69
abbrev k_K_feed : Nat := 70
abbrev k_K_tape : Nat := 71
abbrev k_K_piece : Nat := 72
abbrev k_K_pair : Nat := 73
abbrev k_K_rendered : Nat := 74
abbrev k_M_feed : Nat := 75
abbrev k_M_cut : Nat := 76
abbrev k_M_tape : Nat := 77
abbrev k_M_digits : Nat := 78
abbrev k_M_mark : Nat := 79
abbrev k_M_isMark : Nat := 80
abbrev k_M_isTorn : Nat := 81
abbrev k_M_alike : Nat := 82
abbrev k_M_isWord : Nat := 83
abbrev k_M_isThat : Nat := 84
abbrev k_M_isSegment : Nat := 85
abbrev k_M_isPair : Nat := 86
abbrev k_M_comes : Nat := 87
abbrev k_M_undo : Nat := 88
abbrev k_M_step2 : Nat := 89
abbrev k_Ladder_leastSum : Nat := 90
abbrev k_Near_init : Nat := 91
abbrev k_Nest_isTorn : Nat := 92
abbrev k_Patch_matchDigits : Nat := 93
abbrev k_Patch_putMark : Nat := 94
abbrev k_Patch_putNumber : Nat := 95
abbrev k_Row_isLike : Nat := 96
abbrev k_Row_timesOf : Nat := 97
abbrev k_Scan_kindBehindBracket : Nat := 98
abbrev k_Scan_numberEnd : Nat := 99
abbrev k_K_undo : Nat := 100
abbrev k_K_term : Nat := 101
abbrev k_K_moveTapeTo : Nat := 102
abbrev k_K_addTapeTo : Nat := 103
abbrev k_M_read : Nat := 104
abbrev k_M_except : Nat := 105
abbrev k_M_term : Nat := 106
abbrev k_M_forbid : Nat := 107
abbrev k_M_ends : Nat := 108
abbrev k_M_pair : Nat := 109
abbrev k_M_rendered : Nat := 110
abbrev k_M_like : Nat := 111
abbrev k_M_keepCost : Nat := 112
abbrev k_M_loneCost : Nat := 113
abbrev k_M_maps : Nat := 114
abbrev k_M_patches : Nat := 115
abbrev k_M_often : Nat := 116
abbrev k_Ladder_tell : Nat := 117
abbrev k_Near_between : Nat := 118
abbrev k_Patch_make : Nat := 119
abbrev k_Scan_kindAt : Nat := 120
abbrev k_Scan_endOf : Nat := 121
abbrev k_K_init : Nat := 122
abbrev k_K_except : Nat := 123
abbrev k_K_segment : Nat := 124
abbrev k_K_forbid : Nat := 125
abbrev k_K_isLikeSource : Nat := 126
abbrev k_M_readRow : Nat := 127
abbrev k_M_load : Nat := 128
abbrev k_M_readSegment : Nat := 129
abbrev k_M_work : Nat := 130
abbrev k_Book_findEnds : Nat := 131
abbrev k_Row_read : Nat := 132
abbrev k_K_like : Nat := 133
abbrev k_K_differ : Nat := 134
abbrev k_K_spread : Nat := 135
abbrev k_K_scoreOf : Nat := 136
abbrev k_M_segment : Nat := 137
abbrev k_M_piece : Nat := 138
abbrev k_M_keep : Nat := 139
abbrev k_M_change : Nat := 140
abbrev k_M_readBoth : Nat := 141
abbrev k_M_faults : Nat := 142
abbrev k_Book_become : Nat := 143
abbrev k_Memory_addPair : Nat := 144
abbrev k_K_score : Nat := 145
abbrev k_K_isTapeTorn : Nat := 146
abbrev k_K_readRenderingOf : Nat := 147
abbrev k_K_aheadOf : Nat := 148
abbrev k_K_kindCounted : Nat := 149
abbrev k_M_like2 : Nat := 150
abbrev k_M_scoreOf : Nat := 151
abbrev k_M_differ : Nat := 152
abbrev k_M_patch : Nat := 153
abbrev k_M_spread : Nat := 154
abbrev k_K_load : Nat := 155
abbrev k_K_keep : Nat := 156
abbrev k_K_change : Nat := 157
abbrev k_K_found : Nat := 158
abbrev k_K_patch : Nat := 159
abbrev k_K_faults : Nat := 160
abbrev k_K_counted : Nat := 161
abbrev k_K_count : Nat := 162
abbrev k_M_score : Nat := 163
abbrev k_M_found : Nat := 164
abbrev k_M_countedOf : Nat := 165
abbrev k_M_counted : Nat := 166
abbrev k_M_count : Nat := 167
abbrev k_Law_law : Nat := 168
def yMs : List MethodName := [
  ⟨"KeptSentences$Book", "isStop", "(I)Z"⟩,
  ⟨"KeptSentences$Ladder", "<init>", "()V"⟩,
  ⟨"KeptSentences$Ladder", "addStep", "(III)V"⟩,
  ⟨"KeptSentences$Memory", "renderingAt", "(II)I"⟩,
  ⟨"KeptSentences$Memory", "renderingsOf", "(I)I"⟩,
  ⟨"KeptSentences$Nearness", "forgetPair", "(I)V"⟩,
  ⟨"KeptSentences$Nesting", "<init>", "()V"⟩,
  ⟨"KeptSentences$Patcher", "forgetServed", "()V"⟩,
  ⟨"KeptSentences$Patcher", "inRendering", "(I)I"⟩,
  ⟨"KeptSentences$Patcher", "haveAllServed", "(LKeptSentences$Row;)Z"⟩,
  ⟨"KeptSentences$Row", "<init>", "(LKeptSentences$Text;I)V"⟩,
  ⟨"KeptSentences$Row", "addPiece", "(III)V"⟩,
  ⟨"KeptSentences$Row", "isMark", "(I)Z"⟩,
  ⟨"KeptSentences$Row", "digitPlace", "(I)I"⟩,
  ⟨"KeptSentences$Row", "hasBytesOf", "(ILKeptSentences$Row;I)Z"⟩,
  ⟨"KeptSentences$Row", "hasLettersOf", "(ILKeptSentences$Row;I)Z"⟩,
  ⟨"KeptSentences$Scan", "isLetter", "(I)Z"⟩,
  ⟨"KeptSentences$Scan", "isDigit", "(I)Z"⟩,
  ⟨"KeptSentences$Text", "<init>", "(I)V"⟩,
  ⟨"KeptSentences$Text", "at", "(I)I"⟩,
  ⟨"KeptSentences$Text", "put", "(I)V"⟩,
  ⟨"KeptSentences$Text", "take", "(LKeptSentences$Text;II)V"⟩,
  ⟨"KeptSentences$Text", "firstBlank", "()I"⟩,
  ⟨"KeptSentences$Words", "<init>", "(I)V"⟩,
  ⟨"KeptSentences$Words", "isFull", "()Z"⟩,
  ⟨"KeptSentences$Words", "has", "(J)Z"⟩,
  ⟨"KeptSentences", "cut", "(I)I"⟩,
  ⟨"KeptSentences", "step", "(II)I"⟩,
  ⟨"KeptSentences", "about", "(I)I"⟩,
  ⟨"KeptSentences", "isSegment", "(I)Z"⟩,
  ⟨"KeptSentences", "isPair", "(I)Z"⟩,
  ⟨"KeptSentences", "isSomebody", "(I)Z"⟩,
  ⟨"KeptSentencesModel", "<init>", "()V"⟩,
  ⟨"KeptSentencesModel", "in", "(III)Z"⟩,
  ⟨"KeptSentencesModel", "copy", "(III)V"⟩,
  ⟨"KeptSentencesModel", "at", "(I)I"⟩,
  ⟨"KeptSentencesModel", "isDigit", "(I)Z"⟩,
  ⟨"KeptSentencesModel", "isLetter", "(I)Z"⟩,
  ⟨"KeptSentencesModel", "small", "(I)I"⟩,
  ⟨"KeptSentencesModel", "pointOf", "(I)I"⟩,
  ⟨"KeptSentencesModel", "digitAt", "(I)I"⟩,
  ⟨"KeptSentencesModel", "same", "(II)Z"⟩,
  ⟨"KeptSentencesModel", "word", "(III)V"⟩,
  ⟨"KeptSentencesModel", "wordsOf", "(I)I"⟩,
  ⟨"KeptSentencesModel", "latest", "(II)I"⟩,
  ⟨"KeptSentencesModel", "step", "(III)V"⟩,
  ⟨"KeptSentencesModel", "lay", "(I)V"⟩,
  ⟨"KeptSentencesModel", "reads", "(II)Z"⟩,
  ⟨"KeptSentencesModel", "about", "(I)I"⟩,
  ⟨"java/util/Arrays", "fill", "([II)V"⟩,
  ⟨"KeptSentences$Book", "<init>", "()V"⟩,
  ⟨"KeptSentences$Book", "isBlankOrEnd", "(LKeptSentences$Text;I)Z"⟩,
  ⟨"KeptSentences$Memory", "<init>", "()V"⟩,
  ⟨"KeptSentences$Memory", "addRendering", "(ILKeptSentences$Text;I)V"⟩,
  ⟨"KeptSentences$Memory", "takeBack", "()I"⟩,
  ⟨"KeptSentences$Nearness", "forgetAll", "()V"⟩,
  ⟨"KeptSentences$Patcher", "<init>", "()V"⟩,
  ⟨"KeptSentences$Patcher", "copy", "(LKeptSentences$Text;II)V"⟩,
  ⟨"KeptSentences$Patcher", "readsSame", "(LKeptSentences$Row;ILKeptSentences$Row;I)Z"⟩,
  ⟨"KeptSentences$Patcher", "copyNumber", "(LKeptSentences$Row;I)V"⟩,
  ⟨"KeptSentences$Row", "digit", "(I)I"⟩,
  ⟨"KeptSentences$Row", "isPieceLike", "(ILKeptSentences$Row;)Z"⟩,
  ⟨"KeptSentences$Row", "changeCost", "(ILKeptSentences$Row;I)I"⟩,
  ⟨"KeptSentences$Row", "aloneCost", "(I)I"⟩,
  ⟨"KeptSentences$Scan", "byteAt", "(LKeptSentences$Text;II)I"⟩,
  ⟨"KeptSentences$Scan", "lettersEnd", "(LKeptSentences$Text;II)I"⟩,
  ⟨"KeptSentences$Scan", "blanksEnd", "(LKeptSentences$Text;II)I"⟩,
  ⟨"KeptSentences$Scan", "digitsEnd", "(LKeptSentences$Text;III)I"⟩,
  ⟨"KeptSentences$Words", "packed", "(LKeptSentences$Text;II)J"⟩,
  ⟨"KeptSentences$Words", "add", "(J)V"⟩,
  ⟨"KeptSentences", "feed", "(JI)I"⟩,
  ⟨"KeptSentences", "tape", "(I)I"⟩,
  ⟨"KeptSentences", "piece", "(III)I"⟩,
  ⟨"KeptSentences", "pair", "(II)I"⟩,
  ⟨"KeptSentences", "rendered", "(III)I"⟩,
  ⟨"KeptSentencesModel", "feed", "(JI)I"⟩,
  ⟨"KeptSentencesModel", "cut", "(I)I"⟩,
  ⟨"KeptSentencesModel", "tape", "(I)I"⟩,
  ⟨"KeptSentencesModel", "digits", "(II)I"⟩,
  ⟨"KeptSentencesModel", "mark", "(I)I"⟩,
  ⟨"KeptSentencesModel", "isMark", "(I)Z"⟩,
  ⟨"KeptSentencesModel", "isTorn", "(I)Z"⟩,
  ⟨"KeptSentencesModel", "alike", "(IIII)Z"⟩,
  ⟨"KeptSentencesModel", "isWord", "(II)Z"⟩,
  ⟨"KeptSentencesModel", "isThat", "(II)Z"⟩,
  ⟨"KeptSentencesModel", "isSegment", "(I)Z"⟩,
  ⟨"KeptSentencesModel", "isPair", "(I)Z"⟩,
  ⟨"KeptSentencesModel", "comes", "(II)V"⟩,
  ⟨"KeptSentencesModel", "undo", "()I"⟩,
  ⟨"KeptSentencesModel", "step", "(II)I"⟩,
  ⟨"KeptSentences$Ladder", "leastSum", "(LKeptSentences$Row;LKeptSentences$Row;)I"⟩,
  ⟨"KeptSentences$Nearness", "<init>", "(LKeptSentences$Ladder;)V"⟩,
  ⟨"KeptSentences$Nesting", "isTorn", "(LKeptSentences$Row;)Z"⟩,
  ⟨"KeptSentences$Patcher", "matchDigits", "(LKeptSentences$Row;LKeptSentences$Row;)Z"⟩,
  ⟨"KeptSentences$Patcher", "putMark", "(LKeptSentences$Row;I)Z"⟩,
  ⟨"KeptSentences$Patcher", "putNumber", "(LKeptSentences$Row;ILKeptSentences$Row;LKeptSentences$Row;)Z"⟩,
  ⟨"KeptSentences$Row", "isLike", "(LKeptSentences$Row;)Z"⟩,
  ⟨"KeptSentences$Row", "timesOf", "(J)I"⟩,
  ⟨"KeptSentences$Scan", "kindBehindBracket", "(LKeptSentences$Text;II)I"⟩,
  ⟨"KeptSentences$Scan", "numberEnd", "(LKeptSentences$Text;III)I"⟩,
  ⟨"KeptSentences", "undo", "()I"⟩,
  ⟨"KeptSentences", "term", "()I"⟩,
  ⟨"KeptSentences", "moveTapeTo", "(II)V"⟩,
  ⟨"KeptSentences", "addTapeTo", "(LKeptSentences$Words;)I"⟩,
  ⟨"KeptSentencesModel", "read", "(IIIIZ)V"⟩,
  ⟨"KeptSentencesModel", "except", "()I"⟩,
  ⟨"KeptSentencesModel", "term", "()I"⟩,
  ⟨"KeptSentencesModel", "forbid", "()I"⟩,
  ⟨"KeptSentencesModel", "ends", "(II)Z"⟩,
  ⟨"KeptSentencesModel", "pair", "(II)I"⟩,
  ⟨"KeptSentencesModel", "rendered", "(III)I"⟩,
  ⟨"KeptSentencesModel", "like", "()Z"⟩,
  ⟨"KeptSentencesModel", "keepCost", "(II)I"⟩,
  ⟨"KeptSentencesModel", "loneCost", "(I)I"⟩,
  ⟨"KeptSentencesModel", "maps", "()Z"⟩,
  ⟨"KeptSentencesModel", "patches", "(I)Z"⟩,
  ⟨"KeptSentencesModel", "often", "(II)I"⟩,
  ⟨"KeptSentences$Ladder", "tell", "(LKeptSentences$Row;LKeptSentences$Row;)V"⟩,
  ⟨"KeptSentences$Nearness", "between", "(ILKeptSentences$Row;ILKeptSentences$Row;)I"⟩,
  ⟨"KeptSentences$Patcher", "make", "(LKeptSentences$Row;LKeptSentences$Row;LKeptSentences$Row;)Z"⟩,
  ⟨"KeptSentences$Scan", "kindAt", "(LKeptSentences$Text;II)I"⟩,
  ⟨"KeptSentences$Scan", "endOf", "(LKeptSentences$Text;IIII)I"⟩,
  ⟨"KeptSentences", "<init>", "()V"⟩,
  ⟨"KeptSentences", "except", "()I"⟩,
  ⟨"KeptSentences", "segment", "(II)I"⟩,
  ⟨"KeptSentences", "forbid", "()I"⟩,
  ⟨"KeptSentences", "isLikeSource", "(II)Z"⟩,
  ⟨"KeptSentencesModel", "readRow", "(II)V"⟩,
  ⟨"KeptSentencesModel", "load", "()I"⟩,
  ⟨"KeptSentencesModel", "readSegment", "(II)V"⟩,
  ⟨"KeptSentencesModel", "work", "()I"⟩,
  ⟨"KeptSentences$Book", "findEnds", "(LKeptSentences$Text;LKeptSentences$Words;)I"⟩,
  ⟨"KeptSentences$Row", "read", "(LKeptSentences$Text;III)V"⟩,
  ⟨"KeptSentences", "like", "(II)I"⟩,
  ⟨"KeptSentences", "differ", "(II)I"⟩,
  ⟨"KeptSentences", "spread", "(I)I"⟩,
  ⟨"KeptSentences", "scoreOf", "(II)I"⟩,
  ⟨"KeptSentencesModel", "segment", "(II)I"⟩,
  ⟨"KeptSentencesModel", "piece", "(III)I"⟩,
  ⟨"KeptSentencesModel", "keep", "(II)I"⟩,
  ⟨"KeptSentencesModel", "change", "(II)I"⟩,
  ⟨"KeptSentencesModel", "readBoth", "(II)V"⟩,
  ⟨"KeptSentencesModel", "faults", "(I)I"⟩,
  ⟨"KeptSentences$Book", "become", "(LKeptSentences$Text;LKeptSentences$Words;)I"⟩,
  ⟨"KeptSentences$Memory", "addPair", "(LKeptSentences$Row;)I"⟩,
  ⟨"KeptSentences", "score", "(II)I"⟩,
  ⟨"KeptSentences", "isTapeTorn", "()Z"⟩,
  ⟨"KeptSentences", "readRenderingOf", "(I)V"⟩,
  ⟨"KeptSentences", "aheadOf", "(II)I"⟩,
  ⟨"KeptSentences", "kindCounted", "(I)I"⟩,
  ⟨"KeptSentencesModel", "like", "(II)I"⟩,
  ⟨"KeptSentencesModel", "scoreOf", "(II)I"⟩,
  ⟨"KeptSentencesModel", "differ", "(II)I"⟩,
  ⟨"KeptSentencesModel", "patch", "(II)I"⟩,
  ⟨"KeptSentencesModel", "spread", "(I)I"⟩,
  ⟨"KeptSentences", "load", "()I"⟩,
  ⟨"KeptSentences", "keep", "(II)I"⟩,
  ⟨"KeptSentences", "change", "(II)I"⟩,
  ⟨"KeptSentences", "found", "(III)I"⟩,
  ⟨"KeptSentences", "patch", "(II)I"⟩,
  ⟨"KeptSentences", "faults", "(I)I"⟩,
  ⟨"KeptSentences", "counted", "(I)I"⟩,
  ⟨"KeptSentences", "count", "(II)I"⟩,
  ⟨"KeptSentencesModel", "score", "(II)I"⟩,
  ⟨"KeptSentencesModel", "found", "(III)I"⟩,
  ⟨"KeptSentencesModel", "countedOf", "(I)I"⟩,
  ⟨"KeptSentencesModel", "counted", "(I)I"⟩,
  ⟨"KeptSentencesModel", "count", "(II)I"⟩,
  ⟨"KeptSentencesLaw", "law", "([I)Z"⟩]
def yM (X : Nat) : MethodName := yMs.getD X ⟨"", "", ""⟩
def cods : List ByteArray := [prog_2_method_4_code, prog_3_method_1_code, prog_3_method_4_code, prog_4_method_5_code, prog_4_method_6_code, prog_5_method_3_code, prog_6_method_1_code, prog_7_method_3_code, prog_7_method_10_code, prog_7_method_11_code, prog_8_method_1_code, prog_8_method_3_code, prog_8_method_4_code, prog_8_method_5_code, prog_8_method_7_code, prog_8_method_8_code, prog_9_method_2_code, prog_9_method_3_code, prog_10_method_1_code, prog_10_method_2_code, prog_10_method_3_code, prog_10_method_4_code, prog_10_method_5_code, prog_11_method_1_code, prog_11_method_3_code, prog_11_method_5_code, prog_1_method_3_code, prog_1_method_18_code, prog_1_method_26_code, prog_1_method_27_code, prog_1_method_28_code, prog_1_method_29_code, prog_13_method_1_code, prog_13_method_3_code, prog_13_method_7_code, prog_13_method_8_code, prog_13_method_9_code, prog_13_method_10_code, prog_13_method_11_code, prog_13_method_15_code, prog_13_method_18_code, prog_13_method_21_code, prog_13_method_23_code, prog_13_method_32_code, prog_13_method_39_code, prog_13_method_52_code, prog_13_method_55_code, prog_13_method_57_code, prog_13_method_66_code, prog_16_method_103_code, prog_2_method_1_code, prog_2_method_5_code, prog_4_method_1_code, prog_4_method_3_code, prog_4_method_4_code, prog_5_method_2_code, prog_7_method_1_code, prog_7_method_5_code, prog_7_method_8_code, prog_7_method_9_code, prog_8_method_6_code, prog_8_method_10_code, prog_8_method_11_code, prog_8_method_12_code, prog_9_method_4_code, prog_9_method_8_code, prog_9_method_9_code, prog_9_method_10_code, prog_11_method_2_code, prog_11_method_4_code, prog_1_method_2_code, prog_1_method_4_code, prog_1_method_8_code, prog_1_method_12_code, prog_1_method_13_code, prog_13_method_4_code, prog_13_method_5_code, prog_13_method_6_code, prog_13_method_12_code, prog_13_method_13_code, prog_13_method_17_code, prog_13_method_19_code, prog_13_method_20_code, prog_13_method_22_code, prog_13_method_24_code, prog_13_method_30_code, prog_13_method_35_code, prog_13_method_36_code, prog_13_method_40_code, prog_13_method_54_code, prog_3_method_2_code, prog_5_method_1_code, prog_6_method_2_code, prog_7_method_4_code, prog_7_method_6_code, prog_7_method_7_code, prog_8_method_9_code, prog_8_method_13_code, prog_9_method_6_code, prog_9_method_11_code, prog_1_method_11_code, prog_1_method_20_code, prog_1_method_32_code, prog_1_method_33_code, prog_13_method_14_code, prog_13_method_25_code, prog_13_method_26_code, prog_13_method_27_code, prog_13_method_28_code, prog_13_method_41_code, prog_13_method_42_code, prog_13_method_43_code, prog_13_method_46_code, prog_13_method_47_code, prog_13_method_56_code, prog_13_method_58_code, prog_13_method_60_code, prog_3_method_3_code, prog_5_method_4_code, prog_7_method_2_code, prog_9_method_5_code, prog_9_method_7_code, prog_1_method_1_code, prog_1_method_5_code, prog_1_method_7_code, prog_1_method_21_code, prog_1_method_34_code, prog_13_method_16_code, prog_13_method_29_code, prog_13_method_31_code, prog_13_method_48_code, prog_2_method_3_code, prog_8_method_2_code, prog_1_method_14_code, prog_1_method_17_code, prog_1_method_25_code, prog_1_method_35_code, prog_13_method_33_code, prog_13_method_34_code, prog_13_method_37_code, prog_13_method_38_code, prog_13_method_44_code, prog_13_method_61_code, prog_2_method_2_code, prog_4_method_2_code, prog_1_method_15_code, prog_1_method_30_code, prog_1_method_31_code, prog_1_method_36_code, prog_1_method_37_code, prog_13_method_45_code, prog_13_method_49_code, prog_13_method_53_code, prog_13_method_59_code, prog_13_method_65_code, prog_1_method_6_code, prog_1_method_9_code, prog_1_method_10_code, prog_1_method_16_code, prog_1_method_19_code, prog_1_method_22_code, prog_1_method_23_code, prog_1_method_24_code, prog_13_method_50_code, prog_13_method_51_code, prog_13_method_62_code, prog_13_method_63_code, prog_13_method_64_code, code]
def cod (X : Nat) : ByteArray := cods.getD X code
def mxls : List Nat := [1, 1, 4, 4, 4, 3, 1, 2, 1, 3, 3, 4, 2, 2, 7, 7, 1, 1, 2, 2, 2, 5, 2, 2, 1, 4, 2, 3, 2, 2, 2, 2, 1, 3, 5, 2, 1, 1, 1, 1, 2, 5, 5, 4, 4, 4, 2, 6, 2, 4, 2, 2, 2, 4, 3, 1, 1, 5, 6, 4, 2, 3, 4, 2, 3, 4, 4, 5, 7, 3, 5, 2, 5, 4, 5, 5, 2, 2, 4, 2, 1, 4, 7, 5, 5, 2, 2, 3, 2, 3, 8, 2, 4, 6, 5, 6, 3, 5, 5, 6, 1, 6, 3, 4, 11, 1, 2, 1, 6, 6, 6, 5, 3, 2, 4, 5, 5, 7, 7, 7, 4, 5, 1, 1, 4, 1, 3, 3, 6, 3, 7, 12, 8, 3, 3, 4, 3, 3, 5, 3, 3, 3, 3, 6, 3, 3, 1, 3, 7, 4, 3, 5, 9, 5, 4, 2, 4, 3, 5, 3, 4, 2, 5, 3, 7, 5, 2, 5, 4]
def mxl (X : Nat) : Nat := mxls.getD X 0
def rks : List Nat := [3, 0, 0, 1, 1, 0, 0, 0, 1, 3, 0, 0, 3, 1, 3, 3, 3, 3, 0, 1, 0, 0, 1, 0, 3, 3, 1, 1, 1, 3, 3, 3, 0, 3, 0, 1, 3, 3, 1, 1, 1, 3, 0, 1, 1, 0, 0, 3, 1, 0, 0, 3, 0, 0, 1, 0, 0, 0, 3, 0, 1, 3, 1, 1, 1, 1, 1, 1, 2, 0, 1, 1, 1, 1, 1, 1, 1, 1, 1, 1, 3, 3, 3, 3, 3, 3, 3, 0, 1, 1, 1, 0, 3, 3, 3, 3, 3, 1, 1, 1, 1, 1, 0, 1, 0, 1, 1, 1, 3, 1, 1, 3, 1, 1, 3, 3, 1, 0, 1, 3, 1, 1, 0, 1, 1, 1, 3, 0, 1, 0, 1, 1, 0, 1, 1, 1, 1, 1, 1, 1, 1, 0, 1, 1, 1, 1, 3, 0, 1, 1, 1, 1, 1, 1, 1, 1, 1, 1, 1, 1, 1, 1, 1, 1, 1, 1, 1, 1, 3]
def rk (X : Nat) : Nat := rks.getD X 0
def rtyK (k : Nat) : Option FieldType := match k with
  | 0 => none
  | 1 => some .int
  | 2 => some .long
  | _ => some .boolean
def ownCs : List Nat := [0, 1, 1, 2, 2, 3, 4, 5, 5, 5, 6, 6, 6, 6, 6, 6, 11, 11, 7, 7, 7, 7, 7, 8, 8, 8, 9, 9, 9, 9, 9, 9, 10, 10, 10, 10, 10, 10, 10, 10, 10, 10, 10, 10, 10, 10, 10, 10, 10, 14, 0, 0, 2, 2, 2, 3, 5, 5, 5, 5, 6, 6, 6, 6, 11, 11, 11, 11, 8, 8, 9, 9, 9, 9, 9, 10, 10, 10, 10, 10, 10, 10, 10, 10, 10, 10, 10, 10, 10, 10, 1, 3, 4, 5, 5, 5, 6, 6, 11, 11, 9, 9, 9, 9, 10, 10, 10, 10, 10, 10, 10, 10, 10, 10, 10, 10, 10, 1, 3, 5, 11, 11, 9, 9, 9, 9, 9, 10, 10, 10, 10, 0, 6, 9, 9, 9, 9, 10, 10, 10, 10, 10, 10, 0, 2, 9, 9, 9, 9, 9, 10, 10, 10, 10, 10, 9, 9, 9, 9, 9, 9, 9, 9, 10, 10, 10, 10, 10, 12]
def ownC (X : Nat) : Nat := ownCs.getD X 0
def deps : List Nat := [1, 1, 1, 1, 1, 1, 1, 1, 1, 1, 1, 1, 1, 1, 1, 1, 1, 1, 1, 1, 1, 1, 1, 1, 1, 1, 1, 1, 1, 1, 1, 1, 1, 1, 1, 1, 1, 1, 1, 1, 1, 1, 1, 1, 1, 1, 1, 1, 1, 1, 2, 2, 2, 2, 2, 2, 2, 2, 2, 2, 2, 2, 2, 2, 2, 2, 2, 2, 2, 2, 2, 2, 2, 2, 2, 2, 2, 2, 2, 2, 2, 2, 2, 2, 2, 2, 2, 2, 2, 2, 3, 3, 3, 3, 3, 3, 3, 3, 3, 3, 3, 3, 3, 3, 3, 3, 3, 3, 3, 3, 3, 3, 3, 3, 3, 3, 3, 4, 4, 4, 4, 4, 4, 4, 4, 4, 4, 4, 4, 4, 4, 5, 5, 5, 5, 5, 5, 5, 5, 5, 5, 5, 5, 6, 6, 6, 6, 6, 6, 6, 6, 6, 6, 6, 6, 7, 7, 7, 7, 7, 7, 7, 7, 7, 7, 7, 8, 8, 10]
def dep (X : Nat) : Nat := deps.getD X 0
def mcs : List Nat := [0, 4, 0, 0, 0, 0, 1, 0, 0, 0, 3, 0, 0, 0, 0, 0, 0, 0, 1, 0, 0, 1, 0, 1, 0, 0, 0, 0, 0, 0, 0, 0, 23, 0, 0, 0, 0, 0, 0, 0, 0, 0, 0, 0, 0, 0, 0, 0, 0, 0, 100, 0, 206, 1, 0, 0, 4, 0, 0, 0, 0, 0, 0, 0, 0, 0, 0, 0, 0, 0, 0, 0, 0, 0, 0, 0, 0, 0, 0, 0, 0, 0, 0, 0, 0, 0, 0, 0, 0, 0, 0, 1, 0, 0, 0, 0, 0, 0, 0, 0, 0, 0, 1, 0, 0, 0, 0, 0, 0, 0, 0, 0, 0, 0, 0, 0, 0, 0, 0, 0, 0, 0, 336, 0, 0, 0, 0, 0, 0, 0, 0, 0, 0, 0, 0, 0, 0, 0, 0, 0, 0, 0, 0, 1, 1, 0, 0, 0, 0, 0, 0, 0, 0, 0, 0, 1, 2, 1, 0, 1, 0, 0, 0, 0, 0, 0, 0, 0, 600000]
def mcM (X : Nat) : Nat := mcs.getD X 0
def mss : List Nat := [0, 561, 0, 0, 0, 0, 200, 0, 0, 0, 1800, 0, 0, 0, 0, 0, 0, 0, 880, 0, 0, 640, 0, 10, 0, 0, 0, 0, 0, 0, 0, 0, 51975, 0, 0, 0, 0, 0, 0, 0, 0, 0, 0, 0, 0, 0, 0, 0, 0, 0, 44346, 0, 89280, 640, 0, 0, 912, 0, 0, 0, 0, 0, 0, 0, 0, 0, 0, 0, 0, 0, 0, 0, 0, 0, 0, 0, 0, 0, 0, 0, 0, 0, 0, 0, 0, 0, 0, 0, 0, 0, 0, 480, 0, 0, 0, 0, 0, 0, 0, 0, 0, 0, 640, 0, 0, 0, 0, 0, 0, 0, 0, 0, 0, 0, 0, 0, 0, 0, 0, 0, 0, 0, 138541, 0, 0, 0, 0, 0, 0, 0, 0, 0, 0, 0, 0, 0, 0, 0, 0, 0, 0, 0, 0, 640, 640, 0, 0, 0, 0, 0, 0, 0, 0, 0, 0, 640, 1280, 640, 0, 640, 0, 0, 0, 0, 0, 0, 0, 0, 7302250]
def msM (X : Nat) : Nat := mss.getD X 0
/-- links: kind, own, place in the pool, what -/
abbrev LK : Type := Nat × Nat × Nat × Nat × Nat
def lks : List LK := [
  (8, 1, 3, 0, 0),
  (0, 1, 11, 1, 0),
  (0, 1, 15, 1, 1),
  (0, 1, 18, 1, 2),
  (0, 1, 21, 1, 3),
  (0, 1, 49, 1, 4),
  (0, 2, 67, 2, 7),
  (12, 2, 74, 0, 0),
  (0, 2, 30, 2, 4),
  (0, 3, 9, 3, 0),
  (8, 4, 3, 0, 0),
  (0, 4, 9, 4, 0),
  (0, 5, 24, 5, 2),
  (0, 5, 44, 6, 7),
  (0, 5, 51, 6, 0),
  (8, 6, 3, 0, 0),
  (0, 6, 9, 6, 3),
  (11, 6, 15, 0, 0),
  (0, 6, 21, 6, 0),
  (0, 6, 25, 6, 1),
  (0, 6, 28, 6, 2),
  (0, 6, 38, 6, 6),
  (0, 6, 41, 6, 7),
  (0, 6, 44, 6, 8),
  (0, 6, 70, 7, 0),
  (8, 7, 3, 0, 0),
  (11, 7, 9, 0, 0),
  (0, 7, 15, 7, 0),
  (0, 7, 21, 7, 1),
  (9, 7, 25, 0, 0),
  (8, 8, 3, 0, 0),
  (11, 8, 9, 0, 0),
  (0, 8, 15, 8, 0),
  (0, 8, 35, 8, 1),
  (0, 9, 14, 9, 0),
  (0, 9, 87, 7, 1),
  (0, 9, 35, 9, 4),
  (0, 9, 214, 1, 4),
  (0, 9, 217, 1, 1),
  (0, 9, 220, 1, 2),
  (0, 9, 223, 1, 3),
  (0, 9, 21, 9, 1),
  (0, 9, 266, 0, 3),
  (0, 9, 28, 9, 2),
  (0, 9, 153, 2, 6),
  (0, 9, 156, 2, 7),
  (0, 9, 74, 9, 8),
  (0, 9, 254, 8, 1),
  (0, 9, 78, 9, 9),
  (0, 9, 84, 9, 11),
  (8, 10, 1, 0, 0),
  (6, 10, 7, 37200, 0),
  (0, 10, 8, 10, 1),
  (0, 10, 14, 10, 2),
  (0, 10, 17, 10, 3),
  (0, 10, 20, 10, 4),
  (0, 10, 23, 10, 5),
  (0, 10, 26, 10, 6),
  (0, 10, 29, 10, 7),
  (0, 10, 32, 10, 9),
  (0, 10, 35, 10, 10),
  (0, 10, 38, 10, 11),
  (0, 10, 41, 10, 16),
  (0, 10, 44, 10, 17),
  (0, 10, 47, 10, 18),
  (0, 10, 50, 10, 21),
  (0, 10, 53, 10, 22),
  (0, 10, 56, 10, 23),
  (0, 10, 59, 10, 24),
  (0, 10, 62, 10, 25),
  (0, 10, 65, 10, 26),
  (0, 10, 68, 10, 27),
  (0, 10, 71, 10, 29),
  (0, 10, 74, 10, 30),
  (0, 10, 78, 10, 31),
  (0, 10, 91, 10, 8),
  (0, 10, 216, 10, 28),
  (0, 10, 222, 10, 32),
  (0, 10, 151, 10, 15),
  (0, 10, 167, 10, 19),
  (0, 10, 170, 10, 20),
  (0, 10, 129, 10, 12),
  (0, 10, 136, 10, 13),
  (0, 10, 139, 10, 14),
  (8, 0, 3, 0, 0),
  (4, 0, 9, 7, 2),
  (3, 0, 11, 18, 1),
  (0, 0, 14, 0, 0),
  (5, 0, 20, 6, 104),
  (0, 0, 22, 0, 1),
  (0, 0, 26, 0, 2),
  (4, 0, 20, 6, 9),
  (3, 0, 30, 10, 2),
  (0, 0, 37, 7, 1),
  (1, 0, 66, 19, 1),
  (8, 2, 3, 0, 0),
  (5, 2, 9, 7, 105),
  (0, 2, 11, 2, 0),
  (5, 2, 17, 6, 104),
  (0, 2, 19, 2, 1),
  (0, 2, 23, 2, 2),
  (0, 2, 27, 2, 3),
  (0, 2, 33, 2, 5),
  (4, 2, 9, 7, 2),
  (3, 2, 36, 18, 1),
  (4, 2, 17, 6, 9),
  (3, 2, 39, 10, 2),
  (0, 2, 60, 7, 1),
  (1, 2, 56, 21, 3),
  (1, 2, 70, 3, 2),
  (0, 2, 42, 2, 6),
  (2, 3, 22, 49, 2),
  (8, 5, 3, 0, 0),
  (4, 5, 9, 7, 2),
  (3, 5, 13, 18, 1),
  (0, 5, 16, 5, 0),
  (0, 5, 20, 5, 1),
  (1, 5, 92, 19, 1),
  (1, 5, 95, 20, 1),
  (0, 5, 64, 6, 2),
  (0, 5, 54, 6, 3),
  (0, 5, 57, 6, 1),
  (2, 5, 109, 8, 1),
  (1, 6, 61, 13, 1),
  (1, 6, 65, 19, 1),
  (1, 6, 78, 15, 3),
  (1, 6, 82, 14, 3),
  (1, 6, 85, 12, 1),
  (1, 11, 9, 19, 1),
  (2, 11, 21, 16, 1),
  (2, 11, 25, 17, 1),
  (1, 8, 21, 19, 1),
  (2, 8, 27, 16, 1),
  (7, 8, 33, 32, 0),
  (1, 8, 39, 24, 0),
  (1, 9, 91, 20, 1),
  (1, 9, 94, 19, 1),
  (1, 9, 109, 29, 1),
  (0, 9, 113, 0, 1),
  (0, 9, 126, 6, 7),
  (0, 9, 136, 6, 0),
  (0, 9, 140, 6, 1),
  (0, 9, 143, 6, 2),
  (1, 9, 170, 30, 1),
  (0, 9, 177, 2, 2),
  (0, 9, 180, 2, 0),
  (0, 9, 184, 2, 3),
  (1, 9, 187, 4, 1),
  (0, 9, 190, 2, 5),
  (1, 9, 193, 3, 2),
  (2, 10, 85, 33, 3),
  (7, 10, 89, 255, 0),
  (1, 10, 94, 35, 1),
  (2, 10, 98, 36, 1),
  (1, 10, 119, 40, 1),
  (2, 10, 122, 38, 1),
  (2, 10, 105, 37, 1),
  (1, 10, 148, 34, 3),
  (1, 10, 182, 44, 2),
  (0, 1, 24, 6, 7),
  (6, 1, 30, 1000000, 0),
  (1, 1, 31, 62, 3),
  (1, 1, 35, 63, 1),
  (12, 1, 39, 0, 0),
  (8, 3, 3, 0, 0),
  (0, 3, 15, 3, 1),
  (1, 3, 19, 55, 0),
  (0, 4, 15, 6, 7),
  (0, 4, 21, 6, 0),
  (1, 4, 24, 60, 1),
  (2, 5, 82, 49, 2),
  (1, 5, 47, 12, 1),
  (1, 5, 88, 60, 1),
  (1, 5, 98, 13, 1),
  (1, 5, 60, 57, 3),
  (2, 5, 101, 58, 4),
  (1, 5, 105, 59, 2),
  (1, 6, 74, 61, 2),
  (2, 6, 89, 68, 3),
  (2, 11, 15, 64, 3),
  (2, 11, 41, 67, 4),
  (1, 9, 173, 54, 0),
  (1, 9, 240, 22, 0),
  (2, 9, 243, 68, 3),
  (1, 9, 247, 24, 0),
  (1, 9, 250, 69, 1),
  (0, 9, 81, 9, 10),
  (1, 9, 271, 53, 3),
  (1, 10, 102, 79, 1),
  (1, 10, 108, 78, 2),
  (1, 10, 125, 83, 2),
  (1, 10, 132, 42, 3),
  (1, 10, 142, 84, 2),
  (1, 10, 179, 86, 1),
  (1, 10, 185, 82, 4),
  (1, 10, 196, 41, 2),
  (2, 10, 199, 80, 1),
  (1, 10, 225, 47, 2),
  (1, 10, 228, 46, 1),
  (1, 1, 45, 90, 2),
  (1, 1, 52, 2, 3),
  (0, 3, 28, 6, 7),
  (11, 3, 34, 0, 0),
  (1, 3, 40, 90, 2),
  (0, 5, 28, 7, 1),
  (1, 5, 32, 7, 0),
  (1, 5, 35, 93, 2),
  (0, 5, 39, 6, 4),
  (1, 5, 67, 94, 2),
  (1, 5, 71, 95, 4),
  (0, 5, 75, 6, 5),
  (1, 5, 78, 9, 1),
  (2, 11, 28, 98, 3),
  (2, 11, 31, 65, 3),
  (2, 11, 34, 99, 4),
  (2, 11, 38, 66, 3),
  (8, 9, 1, 0, 0),
  (4, 9, 7, 7, 2),
  (3, 9, 11, 18, 1),
  (4, 9, 18, 0, 4),
  (3, 9, 20, 50, 0),
  (4, 9, 25, 2, 8),
  (3, 9, 27, 52, 0),
  (4, 9, 32, 1, 5),
  (10, 9, 34, 1, 0),
  (4, 9, 39, 3, 2),
  (3, 9, 41, 91, 1),
  (0, 9, 44, 9, 3),
  (4, 9, 48, 5, 3),
  (10, 9, 50, 56, 0),
  (0, 9, 51, 9, 5),
  (4, 9, 55, 4, 1),
  (10, 9, 57, 6, 0),
  (0, 9, 58, 9, 6),
  (4, 9, 62, 6, 9),
  (3, 9, 64, 10, 2),
  (0, 9, 67, 9, 7),
  (4, 9, 71, 8, 2),
  (3, 9, 73, 23, 1),
  (1, 9, 98, 103, 1),
  (0, 9, 117, 6, 4),
  (0, 9, 120, 6, 5),
  (0, 9, 123, 6, 6),
  (0, 9, 129, 6, 8),
  (1, 9, 132, 92, 1),
  (0, 9, 207, 2, 1),
  (1, 9, 275, 96, 1),
  (2, 10, 112, 39, 1),
  (1, 10, 115, 104, 5),
  (1, 10, 145, 108, 2),
  (6, 10, 202, 1000000, 0),
  (1, 10, 203, 112, 2),
  (1, 10, 206, 113, 1),
  (2, 0, 50, 120, 3),
  (2, 0, 56, 121, 5),
  (11, 0, 60, 0, 0),
  (1, 0, 70, 25, 1),
  (2, 0, 76, 0, 1),
  (2, 0, 80, 51, 2),
  (2, 0, 84, 66, 3),
  (2, 0, 87, 68, 3),
  (0, 6, 31, 6, 4),
  (0, 6, 35, 6, 5),
  (2, 6, 47, 120, 3),
  (2, 6, 53, 121, 5),
  (1, 6, 57, 11, 3),
  (1, 9, 197, 126, 2),
  (1, 9, 210, 117, 2),
  (1, 9, 278, 118, 4),
  (1, 10, 154, 85, 1),
  (1, 10, 157, 129, 2),
  (1, 10, 161, 43, 1),
  (1, 10, 164, 81, 1),
  (1, 10, 173, 127, 2),
  (1, 10, 176, 87, 2),
  (1, 10, 238, 116, 2),
  (1, 0, 33, 131, 2),
  (1, 0, 41, 21, 3),
  (1, 0, 45, 132, 4),
  (0, 0, 49, 0, 3),
  (0, 2, 46, 6, 3),
  (0, 2, 50, 6, 4),
  (0, 2, 53, 6, 5),
  (1, 2, 63, 132, 4),
  (1, 9, 201, 136, 2),
  (1, 9, 267, 132, 4),
  (11, 9, 282, 0, 0),
  (1, 10, 189, 141, 2),
  (1, 10, 192, 111, 0),
  (1, 10, 209, 130, 0),
  (1, 10, 219, 45, 3),
  (1, 10, 232, 114, 0),
  (1, 10, 235, 115, 1),
  (1, 9, 102, 143, 2),
  (1, 9, 106, 55, 0),
  (1, 9, 146, 31, 1),
  (1, 9, 149, 146, 0),
  (1, 9, 159, 144, 1),
  (1, 9, 163, 5, 1),
  (1, 9, 166, 102, 2),
  (1, 9, 204, 148, 2),
  (1, 9, 226, 147, 1),
  (1, 9, 229, 119, 3),
  (0, 9, 233, 5, 0),
  (1, 9, 236, 21, 3),
  (0, 9, 255, 8, 0),
  (1, 9, 259, 97, 1),
  (1, 9, 263, 149, 1),
  (1, 10, 213, 151, 2),
  (1, 10, 241, 165, 1),
  (4, 12, 7, 9, 12),
  (3, 12, 9, 122, 0),
  (4, 12, 10, 10, 33),
  (3, 12, 12, 32, 0),
  (7, 12, 13, 4294967295, 0),
  (1, 12, 15, 70, 2),
  (1, 12, 19, 75, 2),
  (1, 12, 20, 26, 1),
  (1, 12, 24, 76, 1),
  (1, 12, 25, 71, 1),
  (1, 12, 28, 77, 1),
  (1, 12, 29, 123, 0),
  (1, 12, 33, 105, 0),
  (1, 12, 34, 155, 0),
  (1, 12, 37, 128, 0),
  (1, 12, 38, 124, 2),
  (1, 12, 42, 137, 2),
  (1, 12, 43, 72, 3),
  (1, 12, 47, 138, 3),
  (1, 12, 48, 156, 2),
  (1, 12, 51, 139, 2),
  (1, 12, 52, 157, 2),
  (1, 12, 55, 140, 2),
  (1, 12, 56, 100, 0),
  (1, 12, 59, 88, 0),
  (1, 12, 60, 73, 2),
  (1, 12, 63, 109, 2),
  (1, 12, 64, 74, 3),
  (1, 12, 67, 110, 3),
  (1, 12, 68, 133, 2),
  (1, 12, 71, 150, 2),
  (1, 12, 72, 145, 2),
  (1, 12, 75, 163, 2),
  (1, 12, 76, 158, 3),
  (1, 12, 79, 164, 3),
  (1, 12, 80, 134, 2),
  (1, 12, 83, 152, 2),
  (1, 12, 84, 27, 2),
  (1, 12, 87, 89, 2),
  (1, 12, 88, 159, 2),
  (1, 12, 91, 153, 2),
  (1, 12, 92, 101, 0),
  (1, 12, 95, 106, 0),
  (1, 12, 96, 125, 0),
  (1, 12, 99, 107, 0),
  (1, 12, 100, 160, 1),
  (1, 12, 103, 142, 1),
  (1, 12, 104, 161, 1),
  (1, 12, 107, 166, 1),
  (1, 12, 108, 162, 2),
  (1, 12, 111, 167, 2),
  (1, 12, 112, 135, 1),
  (1, 12, 115, 154, 1),
  (1, 12, 116, 28, 1),
  (1, 12, 119, 48, 1)]
/-- a row of a table: the instruction, the next pc, what is forgotten there, a (target, class, callee ..), what is forgotten there, b, link, constant -/
abbrev TE : Type := Instr × Nat × List Nat × Nat × List Nat × Nat × Nat × Int32
/-- the calls that are no methods of ours: System.arraycopy, Math.max, Math.min -/
def spc : Nat → Nat
  | 1001 => 1
  | 1002 => 2
  | 1003 => 3
  | _ => 0
end
section
def t_Book_isStop : List (Nat × TE) := [
  (0, .iload_n 0, 1, [], 0, [], 0, 0, 0),
  (1, .bipush 46, 3, [], 0, [], 0, 0, 46),
  (3, .if_icmp .eq 15, 6, [], 18, [0], 0, 0, 0),
  (6, .iload_n 0, 7, [], 0, [], 0, 0, 0),
  (7, .bipush 33, 9, [], 0, [], 0, 0, 33),
  (9, .if_icmp .eq 9, 12, [], 18, [0], 0, 0, 0),
  (12, .iload_n 0, 13, [], 0, [], 0, 0, 0),
  (13, .bipush 63, 15, [], 0, [], 0, 0, 63),
  (15, .if_icmp .ne 7, 18, [0], 22, [], 0, 0, 0),
  (18, .iconst 1, 19, [], 0, [], 0, 0, 1),
  (19, .goto 4, 22, [], 23, [0], 0, 0, 0),
  (22, .iconst 0, 23, [0], 0, [], 0, 0, 0),
  (23, .ireturn, 24, [], 0, [], 0, 0, 0)]
def t_Ladder_init : List (Nat × TE) := [
  (0, .aload_n 0, 1, [], 0, [], 0, 0, 0),
  (1, .invokespecial 3, 4, [], 1000, [], 0, 0, 0),
  (4, .aload_n 0, 5, [], 0, [], 0, 0, 0),
  (5, .sipush 441, 8, [], 0, [], 0, 0, 441),
  (8, .newarray .int, 10, [], 0, [], 100, 0, 0),
  (10, .putfield 11, 13, [], 1, [], 0, 1, 0),
  (13, .aload_n 0, 14, [], 0, [], 0, 0, 0),
  (14, .bipush 40, 16, [], 0, [], 0, 0, 40),
  (16, .newarray .int, 18, [], 0, [], 100, 0, 0),
  (18, .putfield 15, 21, [], 1, [], 1, 2, 0),
  (21, .aload_n 0, 22, [], 0, [], 0, 0, 0),
  (22, .bipush 40, 24, [], 0, [], 0, 0, 40),
  (24, .newarray .int, 26, [], 0, [], 100, 0, 0),
  (26, .putfield 18, 29, [], 1, [], 2, 3, 0),
  (29, .aload_n 0, 30, [], 0, [], 0, 0, 0),
  (30, .bipush 40, 32, [], 0, [], 0, 0, 40),
  (32, .newarray .int, 34, [], 0, [], 100, 0, 0),
  (34, .putfield 21, 37, [], 1, [], 3, 4, 0),
  (37, .return_, 38, [], 0, [], 0, 0, 0)]
def t_Ladder_addStep : List (Nat × TE) := [
  (0, .aload_n 0, 1, [], 0, [], 0, 0, 0),
  (1, .getfield 15, 4, [], 1, [], 1, 2, 0),
  (4, .aload_n 0, 5, [], 0, [], 0, 0, 0),
  (5, .getfield 49, 8, [], 1, [], 4, 5, 0),
  (8, .iload_n 1, 9, [], 0, [], 0, 0, 0),
  (9, .iastore, 10, [], 0, [], 0, 0, 0),
  (10, .aload_n 0, 11, [], 0, [], 0, 0, 0),
  (11, .getfield 18, 14, [], 1, [], 2, 3, 0),
  (14, .aload_n 0, 15, [], 0, [], 0, 0, 0),
  (15, .getfield 49, 18, [], 1, [], 4, 5, 0),
  (18, .iload_n 2, 19, [], 0, [], 0, 0, 0),
  (19, .iastore, 20, [], 0, [], 0, 0, 0),
  (20, .aload_n 0, 21, [], 0, [], 0, 0, 0),
  (21, .getfield 21, 24, [], 1, [], 3, 4, 0),
  (24, .aload_n 0, 25, [], 0, [], 0, 0, 0),
  (25, .getfield 49, 28, [], 1, [], 4, 5, 0),
  (28, .iload_n 3, 29, [], 0, [], 0, 0, 0),
  (29, .iastore, 30, [], 0, [], 0, 0, 0),
  (30, .aload_n 0, 31, [], 0, [], 0, 0, 0),
  (31, .dup, 32, [], 0, [], 0, 0, 0),
  (32, .getfield 49, 35, [], 1, [], 4, 5, 0),
  (35, .iconst 1, 36, [], 0, [], 0, 0, 1),
  (36, .iadd, 37, [], 0, [], 0, 0, 0),
  (37, .putfield 49, 40, [], 1, [], 4, 5, 0),
  (40, .return_, 41, [], 0, [], 0, 0, 0)]
def t_Memory_renderingAt : List (Nat × TE) := [
  (0, .iload_n 2, 1, [], 0, [], 0, 0, 0),
  (1, .aload_n 0, 2, [], 0, [], 0, 0, 0),
  (2, .getfield 67, 5, [], 2, [], 7, 6, 0),
  (5, .invokestatic 74, 8, [], 1003, [], 0, 7, 0),
  (8, .iconst 1, 9, [], 0, [], 0, 0, 1),
  (9, .isub, 10, [], 0, [], 0, 0, 0),
  (10, .istore_n 3, 11, [2], 0, [], 0, 0, 0),
  (11, .iload_n 3, 12, [], 0, [], 0, 0, 0),
  (12, .ifCond .lt 21, 15, [], 33, [], 0, 0, 0),
  (15, .aload_n 0, 16, [], 0, [], 0, 0, 0),
  (16, .getfield 30, 19, [], 2, [], 4, 8, 0),
  (19, .iload_n 3, 20, [], 0, [], 0, 0, 0),
  (20, .iaload, 21, [], 0, [], 0, 0, 0),
  (21, .iload_n 1, 22, [], 0, [], 0, 0, 0),
  (22, .if_icmp .ne 5, 25, [], 27, [], 0, 0, 0),
  (25, .iload_n 3, 26, [], 0, [], 0, 0, 0),
  (26, .ireturn, 27, [], 0, [], 0, 0, 0),
  (27, .iinc 3 (-1), 30, [], 0, [], 0, 0, -1),
  (30, .goto (-19), 33, [], 11, [2], 0, 0, 0),
  (33, .iconst (-1), 34, [], 0, [], 0, 0, -1),
  (34, .ireturn, 35, [], 0, [], 0, 0, 0)]
def t_Memory_renderingsOf : List (Nat × TE) := [
  (0, .iconst 0, 1, [], 0, [], 0, 0, 0),
  (1, .istore_n 2, 2, [], 0, [], 0, 0, 0),
  (2, .iconst 0, 3, [], 0, [], 0, 0, 0),
  (3, .istore_n 3, 4, [], 0, [], 0, 0, 0),
  (4, .iload_n 3, 5, [], 0, [], 0, 0, 0),
  (5, .aload_n 0, 6, [], 0, [], 0, 0, 0),
  (6, .getfield 67, 9, [], 2, [], 7, 6, 0),
  (9, .if_icmp .ge 22, 12, [], 31, [], 0, 0, 0),
  (12, .aload_n 0, 13, [], 0, [], 0, 0, 0),
  (13, .getfield 30, 16, [], 2, [], 4, 8, 0),
  (16, .iload_n 3, 17, [], 0, [], 0, 0, 0),
  (17, .iaload, 18, [], 0, [], 0, 0, 0),
  (18, .iload_n 1, 19, [], 0, [], 0, 0, 0),
  (19, .if_icmp .ne 6, 22, [], 25, [], 0, 0, 0),
  (22, .iinc 2 1, 25, [], 0, [], 0, 0, 1),
  (25, .iinc 3 1, 28, [], 0, [], 0, 0, 1),
  (28, .goto (-24), 31, [], 4, [], 0, 0, 0),
  (31, .iload_n 2, 32, [], 0, [], 0, 0, 0),
  (32, .ireturn, 33, [], 0, [], 0, 0, 0)]
def t_Near_forgetPair : List (Nat × TE) := [
  (0, .iconst 0, 1, [], 0, [], 0, 0, 0),
  (1, .istore_n 2, 2, [], 0, [], 0, 0, 0),
  (2, .iload_n 2, 3, [], 0, [], 0, 0, 0),
  (3, .bipush 24, 5, [], 0, [], 0, 0, 24),
  (5, .if_icmp .ge 21, 8, [], 26, [], 0, 0, 0),
  (8, .aload_n 0, 9, [], 0, [], 0, 0, 0),
  (9, .getfield 9, 12, [], 3, [], 0, 9, 0),
  (12, .iload_n 1, 13, [], 0, [], 0, 0, 0),
  (13, .bipush 24, 15, [], 0, [], 0, 0, 24),
  (15, .imul, 16, [], 0, [], 0, 0, 0),
  (16, .iload_n 2, 17, [], 0, [], 0, 0, 0),
  (17, .iadd, 18, [], 0, [], 0, 0, 0),
  (18, .iconst (-1), 19, [], 0, [], 0, 0, -1),
  (19, .iastore, 20, [], 0, [], 0, 0, 0),
  (20, .iinc 2 1, 23, [], 0, [], 0, 0, 1),
  (23, .goto (-21), 26, [], 2, [], 0, 0, 0),
  (26, .return_, 27, [], 0, [], 0, 0, 0)]
def t_Nest_init : List (Nat × TE) := [
  (0, .aload_n 0, 1, [], 0, [], 0, 0, 0),
  (1, .invokespecial 3, 4, [], 1000, [], 0, 10, 0),
  (4, .aload_n 0, 5, [], 0, [], 0, 0, 0),
  (5, .sipush 200, 8, [], 0, [], 0, 0, 200),
  (8, .newarray .int, 10, [], 0, [], 100, 0, 0),
  (10, .putfield 9, 13, [], 4, [], 0, 11, 0),
  (13, .return_, 14, [], 0, [], 0, 0, 0)]
def t_Patch_forgetServed : List (Nat × TE) := [
  (0, .iconst 0, 1, [], 0, [], 0, 0, 0),
  (1, .istore_n 1, 2, [], 0, [], 0, 0, 0),
  (2, .iload_n 1, 3, [], 0, [], 0, 0, 0),
  (3, .bipush 20, 5, [], 0, [], 0, 0, 20),
  (5, .if_icmp .ge 16, 8, [], 21, [], 0, 0, 0),
  (8, .aload_n 0, 9, [], 0, [], 0, 0, 0),
  (9, .getfield 24, 12, [], 5, [], 2, 12, 0),
  (12, .iload_n 1, 13, [], 0, [], 0, 0, 0),
  (13, .iconst 0, 14, [], 0, [], 0, 0, 0),
  (14, .bastore, 15, [], 0, [], 102, 0, 0),
  (15, .iinc 1 1, 18, [], 0, [], 0, 0, 1),
  (18, .goto (-16), 21, [], 2, [], 0, 0, 0),
  (21, .return_, 22, [], 0, [], 0, 0, 0)]
def t_Patch_inRendering : List (Nat × TE) := [
  (0, .iload_n 0, 1, [], 0, [], 0, 0, 0),
  (1, .bipush 46, 3, [], 0, [], 0, 0, 46),
  (3, .if_icmp .ne 8, 6, [], 11, [], 0, 0, 0),
  (6, .bipush 44, 8, [], 0, [], 0, 0, 44),
  (8, .goto 4, 11, [], 12, [0], 0, 0, 0),
  (11, .iload_n 0, 12, [0], 0, [], 0, 0, 0),
  (12, .ireturn, 13, [], 0, [], 0, 0, 0)]
def t_Patch_haveAllServed : List (Nat × TE) := [
  (0, .iconst 0, 1, [], 0, [], 0, 0, 0),
  (1, .istore_n 2, 2, [], 0, [], 0, 0, 0),
  (2, .iload_n 2, 3, [], 0, [], 0, 0, 0),
  (3, .aload_n 1, 4, [], 0, [], 0, 0, 0),
  (4, .getfield 44, 7, [], 6, [], 7, 13, 0),
  (7, .if_icmp .ge 30, 10, [], 37, [], 0, 0, 0),
  (10, .aload_n 1, 11, [], 0, [], 0, 0, 0),
  (11, .getfield 51, 14, [], 6, [], 0, 14, 0),
  (14, .iload_n 2, 15, [], 0, [], 0, 0, 0),
  (15, .iaload, 16, [], 0, [], 0, 0, 0),
  (16, .iconst 1, 17, [], 0, [], 0, 0, 1),
  (17, .if_icmp .ne 14, 20, [], 31, [], 0, 0, 0),
  (20, .aload_n 0, 21, [], 0, [], 0, 0, 0),
  (21, .getfield 24, 24, [], 5, [], 2, 12, 0),
  (24, .iload_n 2, 25, [], 0, [], 0, 0, 0),
  (25, .baload, 26, [], 0, [], 102, 0, 0),
  (26, .ifCond .ne 5, 29, [], 31, [], 0, 0, 0),
  (29, .iconst 0, 30, [], 0, [], 0, 0, 0),
  (30, .ireturn, 31, [], 0, [], 0, 0, 0),
  (31, .iinc 2 1, 34, [], 0, [], 0, 0, 1),
  (34, .goto (-32), 37, [], 2, [], 0, 0, 0),
  (37, .iconst 1, 38, [], 0, [], 0, 0, 1),
  (38, .ireturn, 39, [], 0, [], 0, 0, 0)]
def t_Row_init : List (Nat × TE) := [
  (0, .aload_n 0, 1, [], 0, [], 0, 0, 0),
  (1, .invokespecial 3, 4, [], 1000, [], 0, 15, 0),
  (4, .aload_n 0, 5, [], 0, [], 0, 0, 0),
  (5, .aload_n 1, 6, [], 0, [], 0, 0, 0),
  (6, .putfield 9, 9, [], 6, [], 3, 16, 0),
  (9, .aload_n 0, 10, [], 0, [], 0, 0, 0),
  (10, .iload_n 2, 11, [], 0, [], 0, 0, 0),
  (11, .iconst 0, 12, [], 0, [], 0, 0, 0),
  (12, .invokestatic 15, 15, [], 1002, [], 0, 17, 0),
  (15, .newarray .int, 17, [], 0, [], 100, 0, 0),
  (17, .putfield 21, 20, [], 6, [], 0, 18, 0),
  (20, .aload_n 0, 21, [], 0, [], 0, 0, 0),
  (21, .iload_n 2, 22, [], 0, [], 0, 0, 0),
  (22, .iconst 0, 23, [], 0, [], 0, 0, 0),
  (23, .invokestatic 15, 26, [], 1002, [], 0, 17, 0),
  (26, .newarray .int, 28, [], 0, [], 100, 0, 0),
  (28, .putfield 25, 31, [], 6, [], 1, 19, 0),
  (31, .aload_n 0, 32, [], 0, [], 0, 0, 0),
  (32, .iload_n 2, 33, [], 0, [], 0, 0, 0),
  (33, .iconst 0, 34, [], 0, [], 0, 0, 0),
  (34, .invokestatic 15, 37, [], 1002, [], 0, 17, 0),
  (37, .newarray .int, 39, [], 0, [], 100, 0, 0),
  (39, .putfield 28, 42, [], 6, [], 2, 20, 0),
  (42, .return_, 43, [], 0, [], 0, 0, 0)]
def t_Row_addPiece : List (Nat × TE) := [
  (0, .aload_n 0, 1, [], 0, [], 0, 0, 0),
  (1, .dup, 2, [], 0, [], 0, 0, 0),
  (2, .getfield 38, 5, [], 6, [], 6, 21, 0),
  (5, .iconst 1, 6, [], 0, [], 0, 0, 1),
  (6, .iadd, 7, [], 0, [], 0, 0, 0),
  (7, .putfield 38, 10, [], 6, [], 6, 21, 0),
  (10, .iload_n 1, 11, [], 0, [], 0, 0, 0),
  (11, .bipush 6, 13, [], 0, [], 0, 0, 6),
  (13, .if_icmp .eq 15, 16, [], 28, [0, 1, 2, 3], 0, 0, 0),
  (16, .aload_n 0, 17, [], 0, [], 0, 0, 0),
  (17, .getfield 41, 20, [], 6, [], 7, 22, 0),
  (20, .aload_n 0, 21, [], 0, [], 0, 0, 0),
  (21, .getfield 21, 24, [], 6, [], 0, 18, 0),
  (24, .arraylength, 25, [], 0, [], 0, 0, 0),
  (25, .if_icmp .lt 4, 28, [0, 1, 2, 3], 29, [], 0, 0, 0),
  (28, .return_, 29, [], 0, [], 0, 0, 0),
  (29, .aload_n 0, 30, [], 0, [], 0, 0, 0),
  (30, .getfield 21, 33, [], 6, [], 0, 18, 0),
  (33, .aload_n 0, 34, [], 0, [], 0, 0, 0),
  (34, .getfield 41, 37, [], 6, [], 7, 22, 0),
  (37, .iload_n 1, 38, [], 0, [], 0, 0, 0),
  (38, .iastore, 39, [], 0, [], 0, 0, 0),
  (39, .aload_n 0, 40, [], 0, [], 0, 0, 0),
  (40, .getfield 25, 43, [], 6, [], 1, 19, 0),
  (43, .aload_n 0, 44, [], 0, [], 0, 0, 0),
  (44, .getfield 41, 47, [], 6, [], 7, 22, 0),
  (47, .iload_n 2, 48, [], 0, [], 0, 0, 0),
  (48, .iastore, 49, [], 0, [], 0, 0, 0),
  (49, .aload_n 0, 50, [], 0, [], 0, 0, 0),
  (50, .getfield 28, 53, [], 6, [], 2, 20, 0),
  (53, .aload_n 0, 54, [], 0, [], 0, 0, 0),
  (54, .getfield 41, 57, [], 6, [], 7, 22, 0),
  (57, .iload_n 3, 58, [], 0, [], 0, 0, 0),
  (58, .iastore, 59, [], 0, [], 0, 0, 0),
  (59, .aload_n 0, 60, [], 0, [], 0, 0, 0),
  (60, .dup, 61, [], 0, [], 0, 0, 0),
  (61, .getfield 41, 64, [], 6, [], 7, 22, 0),
  (64, .iconst 1, 65, [], 0, [], 0, 0, 1),
  (65, .iadd, 66, [], 0, [], 0, 0, 0),
  (66, .putfield 41, 69, [], 6, [], 7, 22, 0),
  (69, .iload_n 1, 70, [], 0, [], 0, 0, 0),
  (70, .ifCond .ne 13, 73, [], 83, [0, 1, 2, 3], 0, 0, 0),
  (73, .aload_n 0, 74, [], 0, [], 0, 0, 0),
  (74, .dup, 75, [], 0, [], 0, 0, 0),
  (75, .getfield 44, 78, [], 6, [], 8, 23, 0),
  (78, .iconst 1, 79, [], 0, [], 0, 0, 1),
  (79, .iadd, 80, [], 0, [], 0, 0, 0),
  (80, .putfield 44, 83, [0, 1, 2, 3], 6, [], 8, 23, 0),
  (83, .return_, 84, [], 0, [], 0, 0, 0)]
def t_Row_isMark : List (Nat × TE) := [
  (0, .aload_n 0, 1, [], 0, [], 0, 0, 0),
  (1, .getfield 21, 4, [], 6, [], 0, 18, 0),
  (4, .iload_n 1, 5, [], 0, [], 0, 0, 0),
  (5, .iaload, 6, [], 0, [], 0, 0, 0),
  (6, .iconst 2, 7, [], 0, [], 0, 0, 2),
  (7, .if_icmp .eq 23, 10, [], 30, [0, 1], 0, 0, 0),
  (10, .aload_n 0, 11, [], 0, [], 0, 0, 0),
  (11, .getfield 21, 14, [], 6, [], 0, 18, 0),
  (14, .iload_n 1, 15, [], 0, [], 0, 0, 0),
  (15, .iaload, 16, [], 0, [], 0, 0, 0),
  (16, .iconst 3, 17, [], 0, [], 0, 0, 3),
  (17, .if_icmp .eq 13, 20, [], 30, [0, 1], 0, 0, 0),
  (20, .aload_n 0, 21, [], 0, [], 0, 0, 0),
  (21, .getfield 21, 24, [], 6, [], 0, 18, 0),
  (24, .iload_n 1, 25, [], 0, [], 0, 0, 0),
  (25, .iaload, 26, [], 0, [], 0, 0, 0),
  (26, .iconst 4, 27, [], 0, [], 0, 0, 4),
  (27, .if_icmp .ne 7, 30, [0, 1], 34, [], 0, 0, 0),
  (30, .iconst 1, 31, [], 0, [], 0, 0, 1),
  (31, .goto 4, 34, [], 35, [0, 1], 0, 0, 0),
  (34, .iconst 0, 35, [0, 1], 0, [], 0, 0, 0),
  (35, .ireturn, 36, [], 0, [], 0, 0, 0)]
def t_Row_digitPlace : List (Nat × TE) := [
  (0, .aload_n 0, 1, [], 0, [], 0, 0, 0),
  (1, .getfield 25, 4, [], 6, [], 1, 19, 0),
  (4, .iload_n 1, 5, [], 0, [], 0, 0, 0),
  (5, .iaload, 6, [], 0, [], 0, 0, 0),
  (6, .aload_n 0, 7, [], 0, [], 0, 0, 0),
  (7, .getfield 21, 10, [], 6, [], 0, 18, 0),
  (10, .iload_n 1, 11, [], 0, [], 0, 0, 0),
  (11, .iaload, 12, [], 0, [], 0, 0, 0),
  (12, .iconst 3, 13, [], 0, [], 0, 0, 3),
  (13, .if_icmp .ne 7, 16, [], 20, [], 0, 0, 0),
  (16, .iconst 2, 17, [], 0, [], 0, 0, 2),
  (17, .goto 4, 20, [], 21, [0, 1], 0, 0, 0),
  (20, .iconst 1, 21, [0, 1], 0, [], 0, 0, 1),
  (21, .iadd, 22, [], 0, [], 0, 0, 0),
  (22, .ireturn, 23, [], 0, [], 0, 0, 0)]
def t_Row_hasBytesOf : List (Nat × TE) := [
  (0, .aload_n 0, 1, [], 0, [], 0, 0, 0),
  (1, .getfield 28, 4, [], 6, [], 2, 20, 0),
  (4, .iload_n 1, 5, [], 0, [], 0, 0, 0),
  (5, .iaload, 6, [], 0, [], 0, 0, 0),
  (6, .aload_n 2, 7, [], 0, [], 0, 0, 0),
  (7, .getfield 28, 10, [], 6, [], 2, 20, 0),
  (10, .iload_n 3, 11, [], 0, [], 0, 0, 0),
  (11, .iaload, 12, [], 0, [], 0, 0, 0),
  (12, .if_icmp .eq 5, 15, [], 17, [], 0, 0, 0),
  (15, .iconst 0, 16, [], 0, [], 0, 0, 0),
  (16, .ireturn, 17, [], 0, [], 0, 0, 0),
  (17, .aload_n 0, 18, [], 0, [], 0, 0, 0),
  (18, .getfield 9, 21, [], 6, [], 3, 16, 0),
  (21, .getfield 70, 24, [], 7, [], 0, 24, 0),
  (24, .astore 4, 26, [], 0, [], 0, 0, 0),
  (26, .aload_n 2, 27, [], 0, [], 0, 0, 0),
  (27, .getfield 9, 30, [], 6, [], 3, 16, 0),
  (30, .getfield 70, 33, [], 7, [], 0, 24, 0),
  (33, .astore 5, 35, [], 0, [], 0, 0, 0),
  (35, .iconst 0, 36, [], 0, [], 0, 0, 0),
  (36, .istore 6, 38, [], 0, [], 0, 0, 0),
  (38, .iload 6, 40, [], 0, [], 0, 0, 0),
  (40, .aload_n 0, 41, [], 0, [], 0, 0, 0),
  (41, .getfield 28, 44, [], 6, [], 2, 20, 0),
  (44, .iload_n 1, 45, [], 0, [], 0, 0, 0),
  (45, .iaload, 46, [], 0, [], 0, 0, 0),
  (46, .if_icmp .ge 38, 49, [], 84, [], 0, 0, 0),
  (49, .aload 4, 51, [], 0, [], 0, 0, 0),
  (51, .aload_n 0, 52, [], 0, [], 0, 0, 0),
  (52, .getfield 25, 55, [], 6, [], 1, 19, 0),
  (55, .iload_n 1, 56, [], 0, [], 0, 0, 0),
  (56, .iaload, 57, [], 0, [], 0, 0, 0),
  (57, .iload 6, 59, [], 0, [], 0, 0, 0),
  (59, .iadd, 60, [], 0, [], 0, 0, 0),
  (60, .baload, 61, [], 0, [], 101, 0, 0),
  (61, .aload 5, 63, [], 0, [], 0, 0, 0),
  (63, .aload_n 2, 64, [], 0, [], 0, 0, 0),
  (64, .getfield 25, 67, [], 6, [], 1, 19, 0),
  (67, .iload_n 3, 68, [], 0, [], 0, 0, 0),
  (68, .iaload, 69, [], 0, [], 0, 0, 0),
  (69, .iload 6, 71, [], 0, [], 0, 0, 0),
  (71, .iadd, 72, [], 0, [], 0, 0, 0),
  (72, .baload, 73, [], 0, [], 101, 0, 0),
  (73, .if_icmp .eq 5, 76, [], 78, [], 0, 0, 0),
  (76, .iconst 0, 77, [], 0, [], 0, 0, 0),
  (77, .ireturn, 78, [], 0, [], 0, 0, 0),
  (78, .iinc 6 1, 81, [], 0, [], 0, 0, 1),
  (81, .goto (-43), 84, [], 38, [], 0, 0, 0),
  (84, .iconst 1, 85, [], 0, [], 0, 0, 1),
  (85, .ireturn, 86, [], 0, [], 0, 0, 0)]
def t_Row_hasLettersOf : List (Nat × TE) := [
  (0, .aload_n 0, 1, [], 0, [], 0, 0, 0),
  (1, .getfield 28, 4, [], 6, [], 2, 20, 0),
  (4, .iload_n 1, 5, [], 0, [], 0, 0, 0),
  (5, .iaload, 6, [], 0, [], 0, 0, 0),
  (6, .aload_n 2, 7, [], 0, [], 0, 0, 0),
  (7, .getfield 28, 10, [], 6, [], 2, 20, 0),
  (10, .iload_n 3, 11, [], 0, [], 0, 0, 0),
  (11, .iaload, 12, [], 0, [], 0, 0, 0),
  (12, .if_icmp .eq 5, 15, [], 17, [], 0, 0, 0),
  (15, .iconst 0, 16, [], 0, [], 0, 0, 0),
  (16, .ireturn, 17, [], 0, [], 0, 0, 0),
  (17, .aload_n 0, 18, [], 0, [], 0, 0, 0),
  (18, .getfield 9, 21, [], 6, [], 3, 16, 0),
  (21, .getfield 70, 24, [], 7, [], 0, 24, 0),
  (24, .astore 4, 26, [], 0, [], 0, 0, 0),
  (26, .aload_n 2, 27, [], 0, [], 0, 0, 0),
  (27, .getfield 9, 30, [], 6, [], 3, 16, 0),
  (30, .getfield 70, 33, [], 7, [], 0, 24, 0),
  (33, .astore 5, 35, [], 0, [], 0, 0, 0),
  (35, .iconst 0, 36, [], 0, [], 0, 0, 0),
  (36, .istore 6, 38, [], 0, [], 0, 0, 0),
  (38, .iload 6, 40, [], 0, [], 0, 0, 0),
  (40, .aload_n 0, 41, [], 0, [], 0, 0, 0),
  (41, .getfield 28, 44, [], 6, [], 2, 20, 0),
  (44, .iload_n 1, 45, [], 0, [], 0, 0, 0),
  (45, .iaload, 46, [], 0, [], 0, 0, 0),
  (46, .if_icmp .ge 44, 49, [], 90, [], 0, 0, 0),
  (49, .aload 4, 51, [], 0, [], 0, 0, 0),
  (51, .aload_n 0, 52, [], 0, [], 0, 0, 0),
  (52, .getfield 25, 55, [], 6, [], 1, 19, 0),
  (55, .iload_n 1, 56, [], 0, [], 0, 0, 0),
  (56, .iaload, 57, [], 0, [], 0, 0, 0),
  (57, .iload 6, 59, [], 0, [], 0, 0, 0),
  (59, .iadd, 60, [], 0, [], 0, 0, 0),
  (60, .baload, 61, [], 0, [], 101, 0, 0),
  (61, .bipush 32, 63, [], 0, [], 0, 0, 32),
  (63, .ior, 64, [], 0, [], 0, 0, 0),
  (64, .aload 5, 66, [], 0, [], 0, 0, 0),
  (66, .aload_n 2, 67, [], 0, [], 0, 0, 0),
  (67, .getfield 25, 70, [], 6, [], 1, 19, 0),
  (70, .iload_n 3, 71, [], 0, [], 0, 0, 0),
  (71, .iaload, 72, [], 0, [], 0, 0, 0),
  (72, .iload 6, 74, [], 0, [], 0, 0, 0),
  (74, .iadd, 75, [], 0, [], 0, 0, 0),
  (75, .baload, 76, [], 0, [], 101, 0, 0),
  (76, .bipush 32, 78, [], 0, [], 0, 0, 32),
  (78, .ior, 79, [], 0, [], 0, 0, 0),
  (79, .if_icmp .eq 5, 82, [], 84, [], 0, 0, 0),
  (82, .iconst 0, 83, [], 0, [], 0, 0, 0),
  (83, .ireturn, 84, [], 0, [], 0, 0, 0),
  (84, .iinc 6 1, 87, [], 0, [], 0, 0, 1),
  (87, .goto (-49), 90, [], 38, [], 0, 0, 0),
  (90, .iconst 1, 91, [], 0, [], 0, 0, 1),
  (91, .ireturn, 92, [], 0, [], 0, 0, 0)]
def t_Scan_isLetter : List (Nat × TE) := [
  (0, .iload_n 0, 1, [], 0, [], 0, 0, 0),
  (1, .bipush 97, 3, [], 0, [], 0, 0, 97),
  (3, .if_icmp .lt 9, 6, [], 12, [], 0, 0, 0),
  (6, .iload_n 0, 7, [], 0, [], 0, 0, 0),
  (7, .bipush 122, 9, [], 0, [], 0, 0, 122),
  (9, .if_icmp .le 15, 12, [], 24, [0], 0, 0, 0),
  (12, .iload_n 0, 13, [], 0, [], 0, 0, 0),
  (13, .bipush 65, 15, [], 0, [], 0, 0, 65),
  (15, .if_icmp .lt 13, 18, [], 28, [0], 0, 0, 0),
  (18, .iload_n 0, 19, [], 0, [], 0, 0, 0),
  (19, .bipush 90, 21, [], 0, [], 0, 0, 90),
  (21, .if_icmp .gt 7, 24, [0], 28, [0], 0, 0, 0),
  (24, .iconst 1, 25, [], 0, [], 0, 0, 1),
  (25, .goto 4, 28, [0], 29, [0], 0, 0, 0),
  (28, .iconst 0, 29, [0], 0, [], 0, 0, 0),
  (29, .ireturn, 30, [], 0, [], 0, 0, 0)]
def t_Scan_isDigit : List (Nat × TE) := [
  (0, .iload_n 0, 1, [], 0, [], 0, 0, 0),
  (1, .bipush 48, 3, [], 0, [], 0, 0, 48),
  (3, .if_icmp .lt 13, 6, [], 16, [0], 0, 0, 0),
  (6, .iload_n 0, 7, [], 0, [], 0, 0, 0),
  (7, .bipush 57, 9, [], 0, [], 0, 0, 57),
  (9, .if_icmp .gt 7, 12, [], 16, [0], 0, 0, 0),
  (12, .iconst 1, 13, [], 0, [], 0, 0, 1),
  (13, .goto 4, 16, [0], 17, [0], 0, 0, 0),
  (16, .iconst 0, 17, [0], 0, [], 0, 0, 0),
  (17, .ireturn, 18, [], 0, [], 0, 0, 0)]
def t_Text_init : List (Nat × TE) := [
  (0, .aload_n 0, 1, [], 0, [], 0, 0, 0),
  (1, .invokespecial 3, 4, [], 1000, [], 0, 25, 0),
  (4, .aload_n 0, 5, [], 0, [], 0, 0, 0),
  (5, .iload_n 1, 6, [], 0, [], 0, 0, 0),
  (6, .iconst 0, 7, [], 0, [], 0, 0, 0),
  (7, .invokestatic 9, 10, [], 1002, [], 0, 26, 0),
  (10, .newarray .byte, 12, [], 0, [], 101, 0, 0),
  (12, .putfield 15, 15, [], 7, [], 0, 27, 0),
  (15, .return_, 16, [], 0, [], 0, 0, 0)]
def t_Text_at : List (Nat × TE) := [
  (0, .iload_n 1, 1, [], 0, [], 0, 0, 0),
  (1, .ifCond .lt 11, 4, [], 12, [0, 1], 0, 0, 0),
  (4, .iload_n 1, 5, [], 0, [], 0, 0, 0),
  (5, .aload_n 0, 6, [], 0, [], 0, 0, 0),
  (6, .getfield 21, 9, [], 7, [], 1, 28, 0),
  (9, .if_icmp .lt 7, 12, [0, 1], 16, [], 0, 0, 0),
  (12, .iconst (-1), 13, [], 0, [], 0, 0, -1),
  (13, .goto 13, 16, [], 26, [0, 1], 0, 0, 0),
  (16, .aload_n 0, 17, [], 0, [], 0, 0, 0),
  (17, .getfield 15, 20, [], 7, [], 0, 27, 0),
  (20, .iload_n 1, 21, [], 0, [], 0, 0, 0),
  (21, .baload, 22, [], 0, [], 101, 0, 0),
  (22, .sipush 255, 25, [], 0, [], 0, 0, 255),
  (25, .iand, 26, [0, 1], 0, [], 0, 0, 0),
  (26, .ireturn, 27, [], 0, [], 0, 0, 0)]
def t_Text_put : List (Nat × TE) := [
  (0, .aload_n 0, 1, [], 0, [], 0, 0, 0),
  (1, .getfield 21, 4, [], 7, [], 1, 28, 0),
  (4, .aload_n 0, 5, [], 0, [], 0, 0, 0),
  (5, .getfield 15, 8, [], 7, [], 0, 27, 0),
  (8, .arraylength, 9, [], 0, [], 0, 0, 0),
  (9, .if_icmp .ge 24, 12, [], 33, [0, 1], 0, 0, 0),
  (12, .aload_n 0, 13, [], 0, [], 0, 0, 0),
  (13, .getfield 15, 16, [], 7, [], 0, 27, 0),
  (16, .aload_n 0, 17, [], 0, [], 0, 0, 0),
  (17, .getfield 21, 20, [], 7, [], 1, 28, 0),
  (20, .iload_n 1, 21, [], 0, [], 0, 0, 0),
  (21, .i2b, 22, [], 0, [], 0, 0, 0),
  (22, .bastore, 23, [], 0, [], 101, 0, 0),
  (23, .aload_n 0, 24, [], 0, [], 0, 0, 0),
  (24, .dup, 25, [], 0, [], 0, 0, 0),
  (25, .getfield 21, 28, [], 7, [], 1, 28, 0),
  (28, .iconst 1, 29, [], 0, [], 0, 0, 1),
  (29, .iadd, 30, [], 0, [], 0, 0, 0),
  (30, .putfield 21, 33, [0, 1], 7, [], 1, 28, 0),
  (33, .return_, 34, [], 0, [], 0, 0, 0)]
def t_Text_take : List (Nat × TE) := [
  (0, .iload_n 2, 1, [], 0, [], 0, 0, 0),
  (1, .ifCond .lt 16, 4, [], 17, [0, 1, 2, 3, 4], 0, 0, 0),
  (4, .iload_n 3, 5, [], 0, [], 0, 0, 0),
  (5, .iload_n 2, 6, [], 0, [], 0, 0, 0),
  (6, .if_icmp .lt 11, 9, [], 17, [0, 1, 2, 3, 4], 0, 0, 0),
  (9, .iload_n 3, 10, [], 0, [], 0, 0, 0),
  (10, .aload_n 1, 11, [], 0, [], 0, 0, 0),
  (11, .getfield 21, 14, [], 7, [], 1, 28, 0),
  (14, .if_icmp .le 4, 17, [0, 1, 2, 3, 4], 18, [], 0, 0, 0),
  (17, .return_, 18, [], 0, [], 0, 0, 0),
  (18, .iload_n 3, 19, [], 0, [], 0, 0, 0),
  (19, .iload_n 2, 20, [], 0, [], 0, 0, 0),
  (20, .isub, 21, [], 0, [], 0, 0, 0),
  (21, .istore 4, 23, [], 0, [], 0, 0, 0),
  (23, .aload_n 0, 24, [], 0, [], 0, 0, 0),
  (24, .getfield 15, 27, [], 7, [], 0, 27, 0),
  (27, .arraylength, 28, [], 0, [], 0, 0, 0),
  (28, .iload 4, 30, [], 0, [], 0, 0, 0),
  (30, .if_icmp .ge 20, 33, [], 50, [3], 0, 0, 0),
  (33, .aload_n 0, 34, [], 0, [], 0, 0, 0),
  (34, .iload 4, 36, [], 0, [], 0, 0, 0),
  (36, .bipush 63, 38, [], 0, [], 0, 0, 63),
  (38, .iadd, 39, [], 0, [], 0, 0, 0),
  (39, .bipush 64, 41, [], 0, [], 0, 0, 64),
  (41, .idiv, 42, [], 0, [], 0, 0, 0),
  (42, .bipush 64, 44, [], 0, [], 0, 0, 64),
  (44, .imul, 45, [], 0, [], 0, 0, 0),
  (45, .newarray .byte, 47, [], 0, [], 101, 0, 0),
  (47, .putfield 15, 50, [3], 7, [], 0, 27, 0),
  (50, .aload_n 1, 51, [], 0, [], 0, 0, 0),
  (51, .getfield 15, 54, [], 7, [], 0, 27, 0),
  (54, .iload_n 2, 55, [], 0, [], 0, 0, 0),
  (55, .aload_n 0, 56, [], 0, [], 0, 0, 0),
  (56, .getfield 15, 59, [], 7, [], 0, 27, 0),
  (59, .iconst 0, 60, [], 0, [], 0, 0, 0),
  (60, .iload 4, 62, [], 0, [], 0, 0, 0),
  (62, .invokestatic 25, 65, [], 1001, [], 0, 29, 0),
  (65, .aload_n 0, 66, [], 0, [], 0, 0, 0),
  (66, .iload 4, 68, [], 0, [], 0, 0, 0),
  (68, .putfield 21, 71, [], 7, [], 1, 28, 0),
  (71, .return_, 72, [], 0, [], 0, 0, 0)]
def t_Text_firstBlank : List (Nat × TE) := [
  (0, .iconst 0, 1, [], 0, [], 0, 0, 0),
  (1, .istore_n 1, 2, [], 0, [], 0, 0, 0),
  (2, .iload_n 1, 3, [], 0, [], 0, 0, 0),
  (3, .aload_n 0, 4, [], 0, [], 0, 0, 0),
  (4, .getfield 21, 7, [], 7, [], 1, 28, 0),
  (7, .if_icmp .ge 22, 10, [], 29, [], 0, 0, 0),
  (10, .aload_n 0, 11, [], 0, [], 0, 0, 0),
  (11, .getfield 15, 14, [], 7, [], 0, 27, 0),
  (14, .iload_n 1, 15, [], 0, [], 0, 0, 0),
  (15, .baload, 16, [], 0, [], 101, 0, 0),
  (16, .bipush 32, 18, [], 0, [], 0, 0, 32),
  (18, .if_icmp .ne 5, 21, [], 23, [], 0, 0, 0),
  (21, .iload_n 1, 22, [], 0, [], 0, 0, 0),
  (22, .ireturn, 23, [], 0, [], 0, 0, 0),
  (23, .iinc 1 1, 26, [], 0, [], 0, 0, 1),
  (26, .goto (-24), 29, [], 2, [], 0, 0, 0),
  (29, .aload_n 0, 30, [], 0, [], 0, 0, 0),
  (30, .getfield 21, 33, [], 7, [], 1, 28, 0),
  (33, .ireturn, 34, [], 0, [], 0, 0, 0)]
def t_Words_init : List (Nat × TE) := [
  (0, .aload_n 0, 1, [], 0, [], 0, 0, 0),
  (1, .invokespecial 3, 4, [], 1000, [], 0, 30, 0),
  (4, .aload_n 0, 5, [], 0, [], 0, 0, 0),
  (5, .iload_n 1, 6, [], 0, [], 0, 0, 0),
  (6, .iconst 0, 7, [], 0, [], 0, 0, 0),
  (7, .invokestatic 9, 10, [], 1002, [], 0, 31, 0),
  (10, .newarray .long, 12, [], 0, [], 103, 0, 0),
  (12, .putfield 15, 15, [], 8, [], 0, 32, 0),
  (15, .return_, 16, [], 0, [], 0, 0, 0)]
def t_Words_isFull : List (Nat × TE) := [
  (0, .aload_n 0, 1, [], 0, [], 0, 0, 0),
  (1, .getfield 35, 4, [], 8, [], 1, 33, 0),
  (4, .aload_n 0, 5, [], 0, [], 0, 0, 0),
  (5, .getfield 15, 8, [], 8, [], 0, 32, 0),
  (8, .arraylength, 9, [], 0, [], 0, 0, 0),
  (9, .if_icmp .lt 7, 12, [], 16, [], 0, 0, 0),
  (12, .iconst 1, 13, [], 0, [], 0, 0, 1),
  (13, .goto 4, 16, [], 17, [0], 0, 0, 0),
  (16, .iconst 0, 17, [0], 0, [], 0, 0, 0),
  (17, .ireturn, 18, [], 0, [], 0, 0, 0)]
def t_Words_has : List (Nat × TE) := [
  (0, .iconst 0, 1, [], 0, [], 0, 0, 0),
  (1, .istore_n 3, 2, [2], 0, [], 0, 0, 0),
  (2, .iload_n 3, 3, [], 0, [], 0, 0, 0),
  (3, .aload_n 0, 4, [], 0, [], 0, 0, 0),
  (4, .getfield 35, 7, [], 8, [], 1, 33, 0),
  (7, .if_icmp .ge 22, 10, [], 29, [], 0, 0, 0),
  (10, .aload_n 0, 11, [], 0, [], 0, 0, 0),
  (11, .getfield 15, 14, [], 8, [], 0, 32, 0),
  (14, .iload_n 3, 15, [], 0, [], 0, 0, 0),
  (15, .laload, 16, [], 0, [], 0, 0, 0),
  (16, .lload_n 1, 17, [], 0, [], 0, 0, 0),
  (17, .lcmp, 18, [], 0, [], 0, 0, 0),
  (18, .ifCond .ne 5, 21, [], 23, [], 0, 0, 0),
  (21, .iconst 1, 22, [], 0, [], 0, 0, 1),
  (22, .ireturn, 23, [], 0, [], 0, 0, 0),
  (23, .iinc 3 1, 26, [], 0, [], 0, 0, 1),
  (26, .goto (-24), 29, [], 2, [2], 0, 0, 0),
  (29, .iconst 0, 30, [], 0, [], 0, 0, 0),
  (30, .ireturn, 31, [], 0, [], 0, 0, 0)]
def t_K_cut : List (Nat × TE) := [
  (0, .iload_n 1, 1, [], 0, [], 0, 0, 0),
  (1, .ifCond .lt 14, 4, [], 15, [0, 1], 0, 0, 0),
  (4, .iload_n 1, 5, [], 0, [], 0, 0, 0),
  (5, .aload_n 0, 6, [], 0, [], 0, 0, 0),
  (6, .getfield 14, 9, [], 9, [], 0, 34, 0),
  (9, .getfield 87, 12, [], 7, [], 1, 35, 0),
  (12, .if_icmp .le 6, 15, [0, 1], 18, [], 0, 0, 0),
  (15, .bipush (-2), 17, [], 0, [], 0, 0, -2),
  (17, .ireturn, 18, [], 0, [], 0, 0, 0),
  (18, .aload_n 0, 19, [], 0, [], 0, 0, 0),
  (19, .getfield 14, 22, [], 9, [], 0, 34, 0),
  (22, .iload_n 1, 23, [], 0, [], 0, 0, 0),
  (23, .putfield 87, 26, [], 7, [], 1, 35, 0),
  (26, .iload_n 1, 27, [], 0, [], 0, 0, 0),
  (27, .ireturn, 28, [], 0, [], 0, 0, 0)]
def t_K_step : List (Nat × TE) := [
  (0, .iload_n 1, 1, [], 0, [], 0, 0, 0),
  (1, .ifCond .lt 14, 4, [], 15, [0, 1, 2], 0, 0, 0),
  (4, .iload_n 1, 5, [], 0, [], 0, 0, 0),
  (5, .aload_n 0, 6, [], 0, [], 0, 0, 0),
  (6, .getfield 35, 9, [], 9, [], 4, 36, 0),
  (9, .getfield 214, 12, [], 1, [], 4, 37, 0),
  (12, .if_icmp .lt 5, 15, [0, 1, 2], 17, [], 0, 0, 0),
  (15, .iconst (-1), 16, [], 0, [], 0, 0, -1),
  (16, .ireturn, 17, [], 0, [], 0, 0, 0),
  (17, .iload_n 2, 18, [], 0, [], 0, 0, 0),
  (18, .tableswitch 56 0 2 #[26, 36, 46], 44, [], 74, [], 0, 0, 0),
  (44, .aload_n 0, 45, [], 0, [], 0, 0, 0),
  (45, .getfield 35, 48, [], 9, [], 4, 36, 0),
  (48, .getfield 217, 51, [], 1, [], 1, 38, 0),
  (51, .iload_n 1, 52, [], 0, [], 0, 0, 0),
  (52, .iaload, 53, [], 0, [], 0, 0, 0),
  (53, .ireturn, 54, [], 0, [], 0, 0, 0),
  (54, .aload_n 0, 55, [], 0, [], 0, 0, 0),
  (55, .getfield 35, 58, [], 9, [], 4, 36, 0),
  (58, .getfield 220, 61, [], 1, [], 2, 39, 0),
  (61, .iload_n 1, 62, [], 0, [], 0, 0, 0),
  (62, .iaload, 63, [], 0, [], 0, 0, 0),
  (63, .ireturn, 64, [], 0, [], 0, 0, 0),
  (64, .aload_n 0, 65, [], 0, [], 0, 0, 0),
  (65, .getfield 35, 68, [], 9, [], 4, 36, 0),
  (68, .getfield 223, 71, [], 1, [], 3, 40, 0),
  (71, .iload_n 1, 72, [], 0, [], 0, 0, 0),
  (72, .iaload, 73, [], 0, [], 0, 0, 0),
  (73, .ireturn, 74, [], 0, [], 0, 0, 0),
  (74, .iconst (-1), 75, [], 0, [], 0, 0, -1),
  (75, .ireturn, 76, [], 0, [], 0, 0, 0)]
def t_K_about : List (Nat × TE) := [
  (0, .iload_n 1, 1, [], 0, [], 0, 0, 0),
  (1, .tableswitch 111 0 7 #[47, 55, 63, 71, 79, 87, 95, 103], 48, [], 112, [], 0, 0, 0),
  (48, .aload_n 0, 49, [], 0, [], 0, 0, 0),
  (49, .getfield 21, 52, [], 9, [], 1, 41, 0),
  (52, .getfield 266, 55, [], 0, [], 3, 42, 0),
  (55, .ireturn, 56, [], 0, [], 0, 0, 0),
  (56, .aload_n 0, 57, [], 0, [], 0, 0, 0),
  (57, .getfield 28, 60, [], 9, [], 2, 43, 0),
  (60, .getfield 153, 63, [], 2, [], 6, 44, 0),
  (63, .ireturn, 64, [], 0, [], 0, 0, 0),
  (64, .aload_n 0, 65, [], 0, [], 0, 0, 0),
  (65, .getfield 28, 68, [], 9, [], 2, 43, 0),
  (68, .getfield 156, 71, [], 2, [], 7, 45, 0),
  (71, .ireturn, 72, [], 0, [], 0, 0, 0),
  (72, .aload_n 0, 73, [], 0, [], 0, 0, 0),
  (73, .getfield 28, 76, [], 9, [], 2, 43, 0),
  (76, .getfield 156, 79, [], 2, [], 7, 45, 0),
  (79, .ireturn, 80, [], 0, [], 0, 0, 0),
  (80, .aload_n 0, 81, [], 0, [], 0, 0, 0),
  (81, .getfield 14, 84, [], 9, [], 0, 34, 0),
  (84, .getfield 87, 87, [], 7, [], 1, 35, 0),
  (87, .ireturn, 88, [], 0, [], 0, 0, 0),
  (88, .aload_n 0, 89, [], 0, [], 0, 0, 0),
  (89, .getfield 74, 92, [], 9, [], 8, 46, 0),
  (92, .getfield 254, 95, [], 8, [], 1, 47, 0),
  (95, .ireturn, 96, [], 0, [], 0, 0, 0),
  (96, .aload_n 0, 97, [], 0, [], 0, 0, 0),
  (97, .getfield 78, 100, [], 9, [], 9, 48, 0),
  (100, .getfield 254, 103, [], 8, [], 1, 47, 0),
  (103, .ireturn, 104, [], 0, [], 0, 0, 0),
  (104, .aload_n 0, 105, [], 0, [], 0, 0, 0),
  (105, .getfield 84, 108, [], 9, [], 11, 49, 0),
  (108, .getfield 254, 111, [], 8, [], 1, 47, 0),
  (111, .ireturn, 112, [], 0, [], 0, 0, 0),
  (112, .iconst (-1), 113, [], 0, [], 0, 0, -1),
  (113, .ireturn, 114, [], 0, [], 0, 0, 0)]
def t_K_isSegment : List (Nat × TE) := [
  (0, .iload_n 1, 1, [], 0, [], 0, 0, 0),
  (1, .ifCond .lt 18, 4, [], 19, [0, 1], 0, 0, 0),
  (4, .iload_n 1, 5, [], 0, [], 0, 0, 0),
  (5, .aload_n 0, 6, [], 0, [], 0, 0, 0),
  (6, .getfield 21, 9, [], 9, [], 1, 41, 0),
  (9, .getfield 266, 12, [], 0, [], 3, 42, 0),
  (12, .if_icmp .ge 7, 15, [], 19, [0, 1], 0, 0, 0),
  (15, .iconst 1, 16, [], 0, [], 0, 0, 1),
  (16, .goto 4, 19, [0, 1], 20, [0, 1], 0, 0, 0),
  (19, .iconst 0, 20, [0, 1], 0, [], 0, 0, 0),
  (20, .ireturn, 21, [], 0, [], 0, 0, 0)]
def t_K_isPair : List (Nat × TE) := [
  (0, .iload_n 1, 1, [], 0, [], 0, 0, 0),
  (1, .ifCond .lt 18, 4, [], 19, [0, 1], 0, 0, 0),
  (4, .iload_n 1, 5, [], 0, [], 0, 0, 0),
  (5, .aload_n 0, 6, [], 0, [], 0, 0, 0),
  (6, .getfield 28, 9, [], 9, [], 2, 43, 0),
  (9, .getfield 153, 12, [], 2, [], 6, 44, 0),
  (12, .if_icmp .ge 7, 15, [], 19, [0, 1], 0, 0, 0),
  (15, .iconst 1, 16, [], 0, [], 0, 0, 1),
  (16, .goto 4, 19, [0, 1], 20, [0, 1], 0, 0, 0),
  (19, .iconst 0, 20, [0, 1], 0, [], 0, 0, 0),
  (20, .ireturn, 21, [], 0, [], 0, 0, 0)]
def t_K_isSomebody : List (Nat × TE) := [
  (0, .iload_n 1, 1, [], 0, [], 0, 0, 0),
  (1, .ifCond .lt 13, 4, [], 14, [0, 1], 0, 0, 0),
  (4, .iload_n 1, 5, [], 0, [], 0, 0, 0),
  (5, .bipush 99, 7, [], 0, [], 0, 0, 99),
  (7, .if_icmp .gt 7, 10, [], 14, [0, 1], 0, 0, 0),
  (10, .iconst 1, 11, [], 0, [], 0, 0, 1),
  (11, .goto 4, 14, [0, 1], 15, [0, 1], 0, 0, 0),
  (14, .iconst 0, 15, [0, 1], 0, [], 0, 0, 0),
  (15, .ireturn, 16, [], 0, [], 0, 0, 0)]
def t_M_init : List (Nat × TE) := [
  (0, .aload_n 0, 1, [], 0, [], 0, 0, 0),
  (1, .invokespecial 1, 4, [], 1000, [], 0, 50, 0),
  (4, .aload_n 0, 5, [], 0, [], 0, 0, 0),
  (5, .ldc 7, 7, [], 37200, [], 0, 51, 37200),
  (7, .newarray .int, 9, [], 0, [], 100, 0, 0),
  (9, .putfield 8, 12, [], 10, [], 1, 52, 0),
  (12, .aload_n 0, 13, [], 0, [], 0, 0, 0),
  (13, .bipush 62, 15, [], 0, [], 0, 0, 62),
  (15, .newarray .int, 17, [], 0, [], 100, 0, 0),
  (17, .putfield 14, 20, [], 10, [], 2, 53, 0),
  (20, .aload_n 0, 21, [], 0, [], 0, 0, 0),
  (21, .sipush 1800, 24, [], 0, [], 0, 0, 1800),
  (24, .newarray .int, 26, [], 0, [], 100, 0, 0),
  (26, .putfield 17, 29, [], 10, [], 3, 54, 0),
  (29, .aload_n 0, 30, [], 0, [], 0, 0, 0),
  (30, .sipush 1800, 33, [], 0, [], 0, 0, 1800),
  (33, .newarray .int, 35, [], 0, [], 100, 0, 0),
  (35, .putfield 20, 38, [], 10, [], 4, 55, 0),
  (38, .aload_n 0, 39, [], 0, [], 0, 0, 0),
  (39, .sipush 1800, 42, [], 0, [], 0, 0, 1800),
  (42, .newarray .int, 44, [], 0, [], 100, 0, 0),
  (44, .putfield 23, 47, [], 10, [], 5, 56, 0),
  (47, .aload_n 0, 48, [], 0, [], 0, 0, 0),
  (48, .iconst 3, 49, [], 0, [], 0, 0, 3),
  (49, .newarray .int, 51, [], 0, [], 100, 0, 0),
  (51, .putfield 26, 54, [], 10, [], 6, 57, 0),
  (54, .aload_n 0, 55, [], 0, [], 0, 0, 0),
  (55, .iconst 3, 56, [], 0, [], 0, 0, 3),
  (56, .newarray .int, 58, [], 0, [], 100, 0, 0),
  (58, .putfield 29, 61, [], 10, [], 7, 58, 0),
  (61, .aload_n 0, 62, [], 0, [], 0, 0, 0),
  (62, .sipush 600, 65, [], 0, [], 0, 0, 600),
  (65, .newarray .int, 67, [], 0, [], 100, 0, 0),
  (67, .putfield 32, 70, [], 10, [], 9, 59, 0),
  (70, .aload_n 0, 71, [], 0, [], 0, 0, 0),
  (71, .sipush 264, 74, [], 0, [], 0, 0, 264),
  (74, .newarray .int, 76, [], 0, [], 100, 0, 0),
  (76, .putfield 35, 79, [], 10, [], 10, 60, 0),
  (79, .aload_n 0, 80, [], 0, [], 0, 0, 0),
  (80, .bipush 33, 82, [], 0, [], 0, 0, 33),
  (82, .newarray .int, 84, [], 0, [], 100, 0, 0),
  (84, .putfield 38, 87, [], 10, [], 11, 61, 0),
  (87, .aload_n 0, 88, [], 0, [], 0, 0, 0),
  (88, .bipush 24, 90, [], 0, [], 0, 0, 24),
  (90, .newarray .int, 92, [], 0, [], 100, 0, 0),
  (92, .putfield 41, 95, [], 10, [], 16, 62, 0),
  (95, .aload_n 0, 96, [], 0, [], 0, 0, 0),
  (96, .bipush 24, 98, [], 0, [], 0, 0, 24),
  (98, .newarray .int, 100, [], 0, [], 100, 0, 0),
  (100, .putfield 44, 103, [], 10, [], 17, 63, 0),
  (103, .aload_n 0, 104, [], 0, [], 0, 0, 0),
  (104, .sipush 601, 107, [], 0, [], 0, 0, 601),
  (107, .newarray .int, 109, [], 0, [], 100, 0, 0),
  (109, .putfield 47, 112, [], 10, [], 18, 64, 0),
  (112, .aload_n 0, 113, [], 0, [], 0, 0, 0),
  (113, .bipush 40, 115, [], 0, [], 0, 0, 40),
  (115, .newarray .int, 117, [], 0, [], 100, 0, 0),
  (117, .putfield 50, 120, [], 10, [], 21, 65, 0),
  (120, .aload_n 0, 121, [], 0, [], 0, 0, 0),
  (121, .bipush 40, 123, [], 0, [], 0, 0, 40),
  (123, .newarray .int, 125, [], 0, [], 100, 0, 0),
  (125, .putfield 53, 128, [], 10, [], 22, 66, 0),
  (128, .aload_n 0, 129, [], 0, [], 0, 0, 0),
  (129, .sipush 441, 132, [], 0, [], 0, 0, 441),
  (132, .newarray .int, 134, [], 0, [], 100, 0, 0),
  (134, .putfield 56, 137, [], 10, [], 23, 67, 0),
  (137, .aload_n 0, 138, [], 0, [], 0, 0, 0),
  (138, .bipush 30, 140, [], 0, [], 0, 0, 30),
  (140, .newarray .int, 142, [], 0, [], 100, 0, 0),
  (142, .putfield 59, 145, [], 10, [], 24, 68, 0),
  (145, .aload_n 0, 146, [], 0, [], 0, 0, 0),
  (146, .sipush 2000, 149, [], 0, [], 0, 0, 2000),
  (149, .newarray .int, 151, [], 0, [], 100, 0, 0),
  (151, .putfield 62, 154, [], 10, [], 25, 69, 0),
  (154, .aload_n 0, 155, [], 0, [], 0, 0, 0),
  (155, .sipush 2000, 158, [], 0, [], 0, 0, 2000),
  (158, .newarray .int, 160, [], 0, [], 100, 0, 0),
  (160, .putfield 65, 163, [], 10, [], 26, 70, 0),
  (163, .aload_n 0, 164, [], 0, [], 0, 0, 0),
  (164, .sipush 2000, 167, [], 0, [], 0, 0, 2000),
  (167, .newarray .int, 169, [], 0, [], 100, 0, 0),
  (169, .putfield 68, 172, [], 10, [], 27, 71, 0),
  (172, .aload_n 0, 173, [], 0, [], 0, 0, 0),
  (173, .bipush 10, 175, [], 0, [], 0, 0, 10),
  (175, .newarray .int, 177, [], 0, [], 100, 0, 0),
  (177, .putfield 71, 180, [], 10, [], 29, 72, 0),
  (180, .aload_n 0, 181, [], 0, [], 0, 0, 0),
  (181, .sipush 600, 184, [], 0, [], 0, 0, 600),
  (184, .newarray .boolean, 186, [], 0, [], 102, 0, 0),
  (186, .putfield 74, 189, [], 10, [], 30, 73, 0),
  (189, .aload_n 0, 190, [], 0, [], 0, 0, 0),
  (190, .sipush 600, 193, [], 0, [], 0, 0, 600),
  (193, .newarray .int, 195, [], 0, [], 100, 0, 0),
  (195, .putfield 78, 198, [], 10, [], 31, 74, 0),
  (198, .return_, 199, [], 0, [], 0, 0, 0)]
def t_M_in : List (Nat × TE) := [
  (0, .iload_n 0, 1, [], 0, [], 0, 0, 0),
  (1, .iload_n 1, 2, [], 0, [], 0, 0, 0),
  (2, .if_icmp .lt 12, 5, [], 14, [0, 1, 2], 0, 0, 0),
  (5, .iload_n 0, 6, [], 0, [], 0, 0, 0),
  (6, .iload_n 2, 7, [], 0, [], 0, 0, 0),
  (7, .if_icmp .gt 7, 10, [], 14, [0, 1, 2], 0, 0, 0),
  (10, .iconst 1, 11, [], 0, [], 0, 0, 1),
  (11, .goto 4, 14, [0, 1, 2], 15, [0, 1, 2], 0, 0, 0),
  (14, .iconst 0, 15, [0, 1, 2], 0, [], 0, 0, 0),
  (15, .ireturn, 16, [], 0, [], 0, 0, 0)]
def t_M_copy : List (Nat × TE) := [
  (0, .iconst 0, 1, [], 0, [], 0, 0, 0),
  (1, .istore 4, 3, [], 0, [], 0, 0, 0),
  (3, .iload 4, 5, [], 0, [], 0, 0, 0),
  (5, .iload_n 2, 6, [], 0, [], 0, 0, 0),
  (6, .if_icmp .ge 31, 9, [], 37, [], 0, 0, 0),
  (9, .aload_n 0, 10, [], 0, [], 0, 0, 0),
  (10, .getfield 8, 13, [], 10, [], 1, 52, 0),
  (13, .sipush 600, 16, [], 0, [], 0, 0, 600),
  (16, .iload_n 3, 17, [], 0, [], 0, 0, 0),
  (17, .imul, 18, [], 0, [], 0, 0, 0),
  (18, .iload 4, 20, [], 0, [], 0, 0, 0),
  (20, .iadd, 21, [], 0, [], 0, 0, 0),
  (21, .aload_n 0, 22, [], 0, [], 0, 0, 0),
  (22, .getfield 8, 25, [], 10, [], 1, 52, 0),
  (25, .iload_n 1, 26, [], 0, [], 0, 0, 0),
  (26, .iload 4, 28, [], 0, [], 0, 0, 0),
  (28, .iadd, 29, [], 0, [], 0, 0, 0),
  (29, .iaload, 30, [], 0, [], 0, 0, 0),
  (30, .iastore, 31, [], 0, [], 0, 0, 0),
  (31, .iinc 4 1, 34, [], 0, [], 0, 0, 1),
  (34, .goto (-31), 37, [], 3, [], 0, 0, 0),
  (37, .aload_n 0, 38, [], 0, [], 0, 0, 0),
  (38, .getfield 14, 41, [], 10, [], 2, 53, 0),
  (41, .iload_n 3, 42, [], 0, [], 0, 0, 0),
  (42, .iload_n 2, 43, [], 0, [], 0, 0, 0),
  (43, .iastore, 44, [], 0, [], 0, 0, 0),
  (44, .return_, 45, [], 0, [], 0, 0, 0)]
def t_M_at : List (Nat × TE) := [
  (0, .iload_n 1, 1, [], 0, [], 0, 0, 0),
  (1, .aload_n 0, 2, [], 0, [], 0, 0, 0),
  (2, .getfield 91, 5, [], 10, [], 8, 75, 0),
  (5, .if_icmp .ge 12, 8, [], 17, [], 0, 0, 0),
  (8, .aload_n 0, 9, [], 0, [], 0, 0, 0),
  (9, .getfield 8, 12, [], 10, [], 1, 52, 0),
  (12, .iload_n 1, 13, [], 0, [], 0, 0, 0),
  (13, .iaload, 14, [], 0, [], 0, 0, 0),
  (14, .goto 4, 17, [], 18, [0, 1], 0, 0, 0),
  (17, .iconst 0, 18, [0, 1], 0, [], 0, 0, 0),
  (18, .ireturn, 19, [], 0, [], 0, 0, 0)]
def t_M_isDigit : List (Nat × TE) := [
  (0, .iload_n 0, 1, [], 0, [], 0, 0, 0),
  (1, .bipush 48, 3, [], 0, [], 0, 0, 48),
  (3, .if_icmp .lt 13, 6, [], 16, [0], 0, 0, 0),
  (6, .iload_n 0, 7, [], 0, [], 0, 0, 0),
  (7, .bipush 57, 9, [], 0, [], 0, 0, 57),
  (9, .if_icmp .gt 7, 12, [], 16, [0], 0, 0, 0),
  (12, .iconst 1, 13, [], 0, [], 0, 0, 1),
  (13, .goto 4, 16, [0], 17, [0], 0, 0, 0),
  (16, .iconst 0, 17, [0], 0, [], 0, 0, 0),
  (17, .ireturn, 18, [], 0, [], 0, 0, 0)]
def t_M_isLetter : List (Nat × TE) := [
  (0, .iload_n 0, 1, [], 0, [], 0, 0, 0),
  (1, .bipush 97, 3, [], 0, [], 0, 0, 97),
  (3, .if_icmp .lt 9, 6, [], 12, [], 0, 0, 0),
  (6, .iload_n 0, 7, [], 0, [], 0, 0, 0),
  (7, .bipush 122, 9, [], 0, [], 0, 0, 122),
  (9, .if_icmp .le 15, 12, [], 24, [0], 0, 0, 0),
  (12, .iload_n 0, 13, [], 0, [], 0, 0, 0),
  (13, .bipush 65, 15, [], 0, [], 0, 0, 65),
  (15, .if_icmp .lt 13, 18, [], 28, [0], 0, 0, 0),
  (18, .iload_n 0, 19, [], 0, [], 0, 0, 0),
  (19, .bipush 90, 21, [], 0, [], 0, 0, 90),
  (21, .if_icmp .gt 7, 24, [0], 28, [0], 0, 0, 0),
  (24, .iconst 1, 25, [], 0, [], 0, 0, 1),
  (25, .goto 4, 28, [0], 29, [0], 0, 0, 0),
  (28, .iconst 0, 29, [0], 0, [], 0, 0, 0),
  (29, .ireturn, 30, [], 0, [], 0, 0, 0)]
def t_M_small : List (Nat × TE) := [
  (0, .iload_n 0, 1, [], 0, [], 0, 0, 0),
  (1, .bipush 65, 3, [], 0, [], 0, 0, 65),
  (3, .if_icmp .lt 16, 6, [], 19, [], 0, 0, 0),
  (6, .iload_n 0, 7, [], 0, [], 0, 0, 0),
  (7, .bipush 90, 9, [], 0, [], 0, 0, 90),
  (9, .if_icmp .gt 10, 12, [], 19, [], 0, 0, 0),
  (12, .iload_n 0, 13, [], 0, [], 0, 0, 0),
  (13, .bipush 32, 15, [], 0, [], 0, 0, 32),
  (15, .iadd, 16, [], 0, [], 0, 0, 0),
  (16, .goto 4, 19, [], 20, [0], 0, 0, 0),
  (19, .iload_n 0, 20, [0], 0, [], 0, 0, 0),
  (20, .ireturn, 21, [], 0, [], 0, 0, 0)]
def t_M_pointOf : List (Nat × TE) := [
  (0, .iload_n 0, 1, [], 0, [], 0, 0, 0),
  (1, .bipush 22, 3, [], 0, [], 0, 0, 22),
  (3, .if_icmp .ge 7, 6, [], 10, [0], 0, 0, 0),
  (6, .iload_n 0, 7, [], 0, [], 0, 0, 0),
  (7, .ifCond .ne 8, 10, [0], 15, [], 0, 0, 0),
  (10, .bipush 44, 12, [], 0, [], 0, 0, 44),
  (12, .goto 5, 15, [], 17, [0], 0, 0, 0),
  (15, .bipush 46, 17, [0], 0, [], 0, 0, 46),
  (17, .ireturn, 18, [], 0, [], 0, 0, 0)]
def t_M_digitAt : List (Nat × TE) := [
  (0, .aload_n 0, 1, [], 0, [], 0, 0, 0),
  (1, .getfield 20, 4, [], 10, [], 4, 55, 0),
  (4, .iload_n 1, 5, [], 0, [], 0, 0, 0),
  (5, .iaload, 6, [], 0, [], 0, 0, 0),
  (6, .aload_n 0, 7, [], 0, [], 0, 0, 0),
  (7, .getfield 17, 10, [], 10, [], 3, 54, 0),
  (10, .iload_n 1, 11, [], 0, [], 0, 0, 0),
  (11, .iaload, 12, [], 0, [], 0, 0, 0),
  (12, .iconst 3, 13, [], 0, [], 0, 0, 3),
  (13, .if_icmp .ne 7, 16, [], 20, [], 0, 0, 0),
  (16, .iconst 2, 17, [], 0, [], 0, 0, 2),
  (17, .goto 4, 20, [], 21, [0, 1], 0, 0, 0),
  (20, .iconst 1, 21, [0, 1], 0, [], 0, 0, 1),
  (21, .iadd, 22, [], 0, [], 0, 0, 0),
  (22, .ireturn, 23, [], 0, [], 0, 0, 0)]
def t_M_same : List (Nat × TE) := [
  (0, .aload_n 0, 1, [], 0, [], 0, 0, 0),
  (1, .getfield 23, 4, [], 10, [], 5, 56, 0),
  (4, .iload_n 1, 5, [], 0, [], 0, 0, 0),
  (5, .iaload, 6, [], 0, [], 0, 0, 0),
  (6, .aload_n 0, 7, [], 0, [], 0, 0, 0),
  (7, .getfield 23, 10, [], 10, [], 5, 56, 0),
  (10, .iload_n 2, 11, [], 0, [], 0, 0, 0),
  (11, .iaload, 12, [], 0, [], 0, 0, 0),
  (12, .if_icmp .ne 7, 15, [], 19, [], 0, 0, 0),
  (15, .iconst 1, 16, [], 0, [], 0, 0, 1),
  (16, .goto 4, 19, [], 20, [3, 4], 0, 0, 0),
  (19, .iconst 0, 20, [3, 4], 0, [], 0, 0, 0),
  (20, .istore_n 3, 21, [], 0, [], 0, 0, 0),
  (21, .iconst 0, 22, [], 0, [], 0, 0, 0),
  (22, .istore 4, 24, [], 0, [], 0, 0, 0),
  (24, .iload 4, 26, [], 0, [], 0, 0, 0),
  (26, .aload_n 0, 27, [], 0, [], 0, 0, 0),
  (27, .getfield 23, 30, [], 10, [], 5, 56, 0),
  (30, .iload_n 1, 31, [], 0, [], 0, 0, 0),
  (31, .iaload, 32, [], 0, [], 0, 0, 0),
  (32, .if_icmp .ge 50, 35, [], 82, [0, 1, 2, 4], 0, 0, 0),
  (35, .iload_n 3, 36, [], 0, [], 0, 0, 0),
  (36, .ifCond .eq 46, 39, [], 82, [0, 1, 2, 4], 0, 0, 0),
  (39, .aload_n 0, 40, [], 0, [], 0, 0, 0),
  (40, .getfield 8, 43, [], 10, [], 1, 52, 0),
  (43, .aload_n 0, 44, [], 0, [], 0, 0, 0),
  (44, .getfield 20, 47, [], 10, [], 4, 55, 0),
  (47, .iload_n 1, 48, [], 0, [], 0, 0, 0),
  (48, .iaload, 49, [], 0, [], 0, 0, 0),
  (49, .iload 4, 51, [], 0, [], 0, 0, 0),
  (51, .iadd, 52, [], 0, [], 0, 0, 0),
  (52, .iaload, 53, [], 0, [], 0, 0, 0),
  (53, .aload_n 0, 54, [], 0, [], 0, 0, 0),
  (54, .getfield 8, 57, [], 10, [], 1, 52, 0),
  (57, .aload_n 0, 58, [], 0, [], 0, 0, 0),
  (58, .getfield 20, 61, [], 10, [], 4, 55, 0),
  (61, .iload_n 2, 62, [], 0, [], 0, 0, 0),
  (62, .iaload, 63, [], 0, [], 0, 0, 0),
  (63, .iload 4, 65, [], 0, [], 0, 0, 0),
  (65, .iadd, 66, [], 0, [], 0, 0, 0),
  (66, .iaload, 67, [], 0, [], 0, 0, 0),
  (67, .if_icmp .ne 7, 70, [], 74, [], 0, 0, 0),
  (70, .iconst 1, 71, [], 0, [], 0, 0, 1),
  (71, .goto 4, 74, [], 75, [3], 0, 0, 0),
  (74, .iconst 0, 75, [3], 0, [], 0, 0, 0),
  (75, .istore_n 3, 76, [], 0, [], 0, 0, 0),
  (76, .iinc 4 1, 79, [], 0, [], 0, 0, 1),
  (79, .goto (-55), 82, [0, 1, 2, 4], 24, [], 0, 0, 0),
  (82, .iload_n 3, 83, [], 0, [], 0, 0, 0),
  (83, .ireturn, 84, [], 0, [], 0, 0, 0)]
def t_M_word : List (Nat × TE) := [
  (0, .iconst 0, 1, [], 0, [], 0, 0, 0),
  (1, .istore 4, 3, [], 0, [], 0, 0, 0),
  (3, .iload 4, 5, [], 0, [], 0, 0, 0),
  (5, .iload_n 3, 6, [], 0, [], 0, 0, 0),
  (6, .if_icmp .ge 30, 9, [], 36, [], 0, 0, 0),
  (9, .aload_n 0, 10, [], 0, [], 0, 0, 0),
  (10, .getfield 35, 13, [], 10, [], 10, 60, 0),
  (13, .bipush 8, 15, [], 0, [], 0, 0, 8),
  (15, .iload_n 1, 16, [], 0, [], 0, 0, 0),
  (16, .imul, 17, [], 0, [], 0, 0, 0),
  (17, .iload 4, 19, [], 0, [], 0, 0, 0),
  (19, .iadd, 20, [], 0, [], 0, 0, 0),
  (20, .aload_n 0, 21, [], 0, [], 0, 0, 0),
  (21, .getfield 8, 24, [], 10, [], 1, 52, 0),
  (24, .iload_n 2, 25, [], 0, [], 0, 0, 0),
  (25, .iload 4, 27, [], 0, [], 0, 0, 0),
  (27, .iadd, 28, [], 0, [], 0, 0, 0),
  (28, .iaload, 29, [], 0, [], 0, 0, 0),
  (29, .iastore, 30, [], 0, [], 0, 0, 0),
  (30, .iinc 4 1, 33, [], 0, [], 0, 0, 1),
  (33, .goto (-30), 36, [], 3, [], 0, 0, 0),
  (36, .aload_n 0, 37, [], 0, [], 0, 0, 0),
  (37, .getfield 38, 40, [], 10, [], 11, 61, 0),
  (40, .iload_n 1, 41, [], 0, [], 0, 0, 0),
  (41, .iload_n 3, 42, [], 0, [], 0, 0, 0),
  (42, .iastore, 43, [], 0, [], 0, 0, 0),
  (43, .return_, 44, [], 0, [], 0, 0, 0)]
def t_M_wordsOf : List (Nat × TE) := [
  (0, .iconst 0, 1, [], 0, [], 0, 0, 0),
  (1, .istore_n 2, 2, [], 0, [], 0, 0, 0),
  (2, .iconst 0, 3, [], 0, [], 0, 0, 0),
  (3, .istore_n 3, 4, [], 0, [], 0, 0, 0),
  (4, .iload_n 3, 5, [], 0, [], 0, 0, 0),
  (5, .aload_n 0, 6, [], 0, [], 0, 0, 0),
  (6, .getfield 29, 9, [], 10, [], 7, 58, 0),
  (9, .iload_n 1, 10, [], 0, [], 0, 0, 0),
  (10, .iaload, 11, [], 0, [], 0, 0, 0),
  (11, .if_icmp .ge 32, 14, [], 43, [], 0, 0, 0),
  (14, .iload_n 2, 15, [], 0, [], 0, 0, 0),
  (15, .aload_n 0, 16, [], 0, [], 0, 0, 0),
  (16, .getfield 17, 19, [], 10, [], 3, 54, 0),
  (19, .sipush 600, 22, [], 0, [], 0, 0, 600),
  (22, .iload_n 1, 23, [], 0, [], 0, 0, 0),
  (23, .imul, 24, [], 0, [], 0, 0, 0),
  (24, .iload_n 3, 25, [], 0, [], 0, 0, 0),
  (25, .iadd, 26, [], 0, [], 0, 0, 0),
  (26, .iaload, 27, [], 0, [], 0, 0, 0),
  (27, .ifCond .ne 7, 30, [], 34, [], 0, 0, 0),
  (30, .iconst 1, 31, [], 0, [], 0, 0, 1),
  (31, .goto 4, 34, [], 35, [2], 0, 0, 0),
  (34, .iconst 0, 35, [2], 0, [], 0, 0, 0),
  (35, .iadd, 36, [], 0, [], 0, 0, 0),
  (36, .istore_n 2, 37, [], 0, [], 0, 0, 0),
  (37, .iinc 3 1, 40, [], 0, [], 0, 0, 1),
  (40, .goto (-36), 43, [], 4, [], 0, 0, 0),
  (43, .iload_n 2, 44, [], 0, [], 0, 0, 0),
  (44, .ireturn, 45, [], 0, [], 0, 0, 0)]
def t_M_latest : List (Nat × TE) := [
  (0, .iload_n 2, 1, [], 0, [], 0, 0, 0),
  (1, .iconst 1, 2, [], 0, [], 0, 0, 1),
  (2, .isub, 3, [], 0, [], 0, 0, 0),
  (3, .istore_n 3, 4, [2], 0, [], 0, 0, 0),
  (4, .iload_n 3, 5, [], 0, [], 0, 0, 0),
  (5, .ifCond .lt 19, 8, [], 24, [0, 1, 2], 0, 0, 0),
  (8, .aload_n 0, 9, [], 0, [], 0, 0, 0),
  (9, .getfield 50, 12, [], 10, [], 21, 65, 0),
  (12, .iload_n 3, 13, [], 0, [], 0, 0, 0),
  (13, .iaload, 14, [], 0, [], 0, 0, 0),
  (14, .iload_n 1, 15, [], 0, [], 0, 0, 0),
  (15, .if_icmp .eq 9, 18, [], 24, [0, 1, 2], 0, 0, 0),
  (18, .iinc 3 (-1), 21, [], 0, [], 0, 0, -1),
  (21, .goto (-17), 24, [0, 1, 2], 4, [2], 0, 0, 0),
  (24, .iload_n 3, 25, [], 0, [], 0, 0, 0),
  (25, .ireturn, 26, [], 0, [], 0, 0, 0)]
def t_M_step : List (Nat × TE) := [
  (0, .aload_n 0, 1, [], 0, [], 0, 0, 0),
  (1, .getfield 62, 4, [], 10, [], 25, 69, 0),
  (4, .aload_n 0, 5, [], 0, [], 0, 0, 0),
  (5, .getfield 216, 8, [], 10, [], 28, 76, 0),
  (8, .iload_n 1, 9, [], 0, [], 0, 0, 0),
  (9, .iastore, 10, [], 0, [], 0, 0, 0),
  (10, .aload_n 0, 11, [], 0, [], 0, 0, 0),
  (11, .getfield 65, 14, [], 10, [], 26, 70, 0),
  (14, .aload_n 0, 15, [], 0, [], 0, 0, 0),
  (15, .getfield 216, 18, [], 10, [], 28, 76, 0),
  (18, .iload_n 2, 19, [], 0, [], 0, 0, 0),
  (19, .iastore, 20, [], 0, [], 0, 0, 0),
  (20, .aload_n 0, 21, [], 0, [], 0, 0, 0),
  (21, .getfield 68, 24, [], 10, [], 27, 71, 0),
  (24, .aload_n 0, 25, [], 0, [], 0, 0, 0),
  (25, .getfield 216, 28, [], 10, [], 28, 76, 0),
  (28, .iload_n 3, 29, [], 0, [], 0, 0, 0),
  (29, .iastore, 30, [], 0, [], 0, 0, 0),
  (30, .aload_n 0, 31, [], 0, [], 0, 0, 0),
  (31, .dup, 32, [], 0, [], 0, 0, 0),
  (32, .getfield 216, 35, [], 10, [], 28, 76, 0),
  (35, .iconst 1, 36, [], 0, [], 0, 0, 1),
  (36, .iadd, 37, [], 0, [], 0, 0, 0),
  (37, .putfield 216, 40, [], 10, [], 28, 76, 0),
  (40, .return_, 41, [], 0, [], 0, 0, 0)]
def t_M_lay : List (Nat × TE) := [
  (0, .aload_n 0, 1, [], 0, [], 0, 0, 0),
  (1, .getfield 222, 4, [], 10, [], 32, 77, 0),
  (4, .sipush 600, 7, [], 0, [], 0, 0, 600),
  (7, .if_icmp .ge 13, 10, [], 20, [1], 0, 0, 0),
  (10, .aload_n 0, 11, [], 0, [], 0, 0, 0),
  (11, .getfield 78, 14, [], 10, [], 31, 74, 0),
  (14, .aload_n 0, 15, [], 0, [], 0, 0, 0),
  (15, .getfield 222, 18, [], 10, [], 32, 77, 0),
  (18, .iload_n 1, 19, [], 0, [], 0, 0, 0),
  (19, .iastore, 20, [1], 0, [], 0, 0, 0),
  (20, .aload_n 0, 21, [], 0, [], 0, 0, 0),
  (21, .dup, 22, [], 0, [], 0, 0, 0),
  (22, .getfield 222, 25, [], 10, [], 32, 77, 0),
  (25, .iconst 1, 26, [], 0, [], 0, 0, 1),
  (26, .iadd, 27, [], 0, [], 0, 0, 0),
  (27, .putfield 222, 30, [], 10, [], 32, 77, 0),
  (30, .return_, 31, [], 0, [], 0, 0, 0)]
def t_M_reads : List (Nat × TE) := [
  (0, .aload_n 0, 1, [], 0, [], 0, 0, 0),
  (1, .getfield 17, 4, [], 10, [], 3, 54, 0),
  (4, .iload_n 1, 5, [], 0, [], 0, 0, 0),
  (5, .iaload, 6, [], 0, [], 0, 0, 0),
  (6, .iconst 1, 7, [], 0, [], 0, 0, 1),
  (7, .if_icmp .ne 22, 10, [], 29, [3, 4, 5], 0, 0, 0),
  (10, .aload_n 0, 11, [], 0, [], 0, 0, 0),
  (11, .getfield 23, 14, [], 10, [], 5, 56, 0),
  (14, .iload_n 1, 15, [], 0, [], 0, 0, 0),
  (15, .iaload, 16, [], 0, [], 0, 0, 0),
  (16, .aload_n 0, 17, [], 0, [], 0, 0, 0),
  (17, .getfield 23, 20, [], 10, [], 5, 56, 0),
  (20, .iload_n 2, 21, [], 0, [], 0, 0, 0),
  (21, .iaload, 22, [], 0, [], 0, 0, 0),
  (22, .if_icmp .ne 7, 25, [], 29, [3, 4, 5], 0, 0, 0),
  (25, .iconst 1, 26, [], 0, [], 0, 0, 1),
  (26, .goto 4, 29, [3, 4, 5], 30, [3, 4, 5], 0, 0, 0),
  (29, .iconst 0, 30, [3, 4, 5], 0, [], 0, 0, 0),
  (30, .istore_n 3, 31, [], 0, [], 0, 0, 0),
  (31, .iconst 0, 32, [], 0, [], 0, 0, 0),
  (32, .istore 4, 34, [5], 0, [], 0, 0, 0),
  (34, .iload 4, 36, [], 0, [], 0, 0, 0),
  (36, .aload_n 0, 37, [], 0, [], 0, 0, 0),
  (37, .getfield 23, 40, [], 10, [], 5, 56, 0),
  (40, .iload_n 2, 41, [], 0, [], 0, 0, 0),
  (41, .iaload, 42, [], 0, [], 0, 0, 0),
  (42, .if_icmp .ge 66, 45, [], 108, [0, 1, 2, 4, 5], 0, 0, 0),
  (45, .iload_n 3, 46, [], 0, [], 0, 0, 0),
  (46, .ifCond .eq 62, 49, [], 108, [0, 1, 2, 4, 5], 0, 0, 0),
  (49, .aload_n 0, 50, [], 0, [], 0, 0, 0),
  (50, .getfield 8, 53, [], 10, [], 1, 52, 0),
  (53, .aload_n 0, 54, [], 0, [], 0, 0, 0),
  (54, .getfield 20, 57, [], 10, [], 4, 55, 0),
  (57, .iload_n 1, 58, [], 0, [], 0, 0, 0),
  (58, .iaload, 59, [], 0, [], 0, 0, 0),
  (59, .iload 4, 61, [], 0, [], 0, 0, 0),
  (61, .iadd, 62, [], 0, [], 0, 0, 0),
  (62, .iaload, 63, [], 0, [], 0, 0, 0),
  (63, .istore 5, 65, [], 0, [], 0, 0, 0),
  (65, .iload 5, 67, [], 0, [], 0, 0, 0),
  (67, .bipush 46, 69, [], 0, [], 0, 0, 46),
  (69, .if_icmp .ne 8, 72, [], 77, [], 0, 0, 0),
  (72, .bipush 44, 74, [], 0, [], 0, 0, 44),
  (74, .goto 5, 77, [], 79, [3, 5], 0, 0, 0),
  (77, .iload 5, 79, [3, 5], 0, [], 0, 0, 0),
  (79, .aload_n 0, 80, [], 0, [], 0, 0, 0),
  (80, .getfield 8, 83, [], 10, [], 1, 52, 0),
  (83, .aload_n 0, 84, [], 0, [], 0, 0, 0),
  (84, .getfield 20, 87, [], 10, [], 4, 55, 0),
  (87, .iload_n 2, 88, [], 0, [], 0, 0, 0),
  (88, .iaload, 89, [], 0, [], 0, 0, 0),
  (89, .iload 4, 91, [], 0, [], 0, 0, 0),
  (91, .iadd, 92, [], 0, [], 0, 0, 0),
  (92, .iaload, 93, [], 0, [], 0, 0, 0),
  (93, .if_icmp .ne 7, 96, [], 100, [], 0, 0, 0),
  (96, .iconst 1, 97, [], 0, [], 0, 0, 1),
  (97, .goto 4, 100, [], 101, [3, 5], 0, 0, 0),
  (100, .iconst 0, 101, [3, 5], 0, [], 0, 0, 0),
  (101, .istore_n 3, 102, [], 0, [], 0, 0, 0),
  (102, .iinc 4 1, 105, [], 0, [], 0, 0, 1),
  (105, .goto (-71), 108, [0, 1, 2, 4, 5], 34, [5], 0, 0, 0),
  (108, .iload_n 3, 109, [], 0, [], 0, 0, 0),
  (109, .ireturn, 110, [], 0, [], 0, 0, 0)]
def t_M_about : List (Nat × TE) := [
  (0, .iload_n 1, 1, [], 0, [], 0, 0, 0),
  (1, .tableswitch 89 0 7 #[47, 52, 57, 62, 67, 74, 79, 84], 48, [], 90, [], 0, 0, 0),
  (48, .aload_n 0, 49, [], 0, [], 0, 0, 0),
  (49, .getfield 151, 52, [], 10, [], 15, 78, 0),
  (52, .ireturn, 53, [], 0, [], 0, 0, 0),
  (53, .aload_n 0, 54, [], 0, [], 0, 0, 0),
  (54, .getfield 167, 57, [], 10, [], 19, 79, 0),
  (57, .ireturn, 58, [], 0, [], 0, 0, 0),
  (58, .aload_n 0, 59, [], 0, [], 0, 0, 0),
  (59, .getfield 170, 62, [], 10, [], 20, 80, 0),
  (62, .ireturn, 63, [], 0, [], 0, 0, 0),
  (63, .aload_n 0, 64, [], 0, [], 0, 0, 0),
  (64, .getfield 170, 67, [], 10, [], 20, 80, 0),
  (67, .ireturn, 68, [], 0, [], 0, 0, 0),
  (68, .aload_n 0, 69, [], 0, [], 0, 0, 0),
  (69, .getfield 14, 72, [], 10, [], 2, 53, 0),
  (72, .iconst 0, 73, [], 0, [], 0, 0, 0),
  (73, .iaload, 74, [], 0, [], 0, 0, 0),
  (74, .ireturn, 75, [], 0, [], 0, 0, 0),
  (75, .aload_n 0, 76, [], 0, [], 0, 0, 0),
  (76, .getfield 129, 79, [], 10, [], 12, 81, 0),
  (79, .ireturn, 80, [], 0, [], 0, 0, 0),
  (80, .aload_n 0, 81, [], 0, [], 0, 0, 0),
  (81, .getfield 136, 84, [], 10, [], 13, 82, 0),
  (84, .ireturn, 85, [], 0, [], 0, 0, 0),
  (85, .aload_n 0, 86, [], 0, [], 0, 0, 0),
  (86, .getfield 139, 89, [], 10, [], 14, 83, 0),
  (89, .ireturn, 90, [], 0, [], 0, 0, 0),
  (90, .iconst (-1), 91, [], 0, [], 0, 0, -1),
  (91, .ireturn, 92, [], 0, [], 0, 0, 0)]
def t_Arrays_fill : List (Nat × TE) := [
  (0, .iconst 0, 1, [], 0, [], 0, 0, 0),
  (1, .istore_n 2, 2, [], 0, [], 0, 0, 0),
  (2, .aload_n 0, 3, [], 0, [], 0, 0, 0),
  (3, .arraylength, 4, [], 0, [], 0, 0, 0),
  (4, .istore_n 3, 5, [], 0, [], 0, 0, 0),
  (5, .iload_n 2, 6, [], 0, [], 0, 0, 0),
  (6, .iload_n 3, 7, [], 0, [], 0, 0, 0),
  (7, .if_icmp .ge 13, 10, [], 20, [], 0, 0, 0),
  (10, .aload_n 0, 11, [], 0, [], 0, 0, 0),
  (11, .iload_n 2, 12, [], 0, [], 0, 0, 0),
  (12, .iload_n 1, 13, [], 0, [], 0, 0, 0),
  (13, .iastore, 14, [], 0, [], 0, 0, 0),
  (14, .iinc 2 1, 17, [], 0, [], 0, 0, 1),
  (17, .goto (-12), 20, [], 5, [], 0, 0, 0),
  (20, .return_, 21, [], 0, [], 0, 0, 0)]
def t_Book_init : List (Nat × TE) := [
  (0, .aload_n 0, 1, [], 0, [], 0, 0, 0),
  (1, .invokespecial 3, 4, [], 1000, [], 0, 84, 0),
  (4, .aload_n 0, 5, [], 0, [], 0, 0, 0),
  (5, .new 9, 8, [], 7, [], 2, 85, 0),
  (8, .dup, 9, [], 0, [], 0, 0, 0),
  (9, .iconst 0, 10, [], 0, [], 0, 0, 0),
  (10, .invokespecial 11, 13, [], 18, [], 1, 86, 0),
  (13, .putfield 14, 16, [], 0, [], 0, 87, 0),
  (16, .aload_n 0, 17, [], 0, [], 0, 0, 0),
  (17, .bipush 24, 19, [], 0, [], 0, 0, 24),
  (19, .anewarray 20, 22, [], 6, [], 104, 88, 0),
  (22, .putfield 22, 25, [], 0, [], 1, 89, 0),
  (25, .aload_n 0, 26, [], 0, [], 0, 0, 0),
  (26, .bipush 24, 28, [], 0, [], 0, 0, 24),
  (28, .newarray .int, 30, [], 0, [], 100, 0, 0),
  (30, .putfield 26, 33, [], 0, [], 2, 90, 0),
  (33, .iconst 0, 34, [], 0, [], 0, 0, 0),
  (34, .istore_n 1, 35, [], 0, [], 0, 0, 0),
  (35, .iload_n 1, 36, [], 0, [], 0, 0, 0),
  (36, .bipush 24, 38, [], 0, [], 0, 0, 24),
  (38, .if_icmp .ge 28, 41, [], 66, [], 0, 0, 0),
  (41, .aload_n 0, 42, [], 0, [], 0, 0, 0),
  (42, .getfield 22, 45, [], 0, [], 1, 89, 0),
  (45, .iload_n 1, 46, [], 0, [], 0, 0, 0),
  (46, .new 20, 49, [], 6, [], 9, 91, 0),
  (49, .dup, 50, [], 0, [], 0, 0, 0),
  (50, .aload_n 0, 51, [], 0, [], 0, 0, 0),
  (51, .getfield 14, 54, [], 0, [], 0, 87, 0),
  (54, .bipush 20, 56, [], 0, [], 0, 0, 20),
  (56, .invokespecial 30, 59, [], 10, [], 2, 92, 0),
  (59, .aastore, 60, [], 0, [], 0, 0, 0),
  (60, .iinc 1 1, 63, [], 0, [], 0, 0, 1),
  (63, .goto (-28), 66, [], 35, [], 0, 0, 0),
  (66, .return_, 67, [], 0, [], 0, 0, 0)]
def t_Book_isBlankOrEnd : List (Nat × TE) := [
  (0, .iload_n 1, 1, [], 0, [], 0, 0, 0),
  (1, .aload_n 0, 2, [], 0, [], 0, 0, 0),
  (2, .getfield 37, 5, [], 7, [], 1, 93, 0),
  (5, .if_icmp .ge 13, 8, [], 18, [0, 1], 0, 0, 0),
  (8, .aload_n 0, 9, [], 0, [], 0, 0, 0),
  (9, .iload_n 1, 10, [], 0, [], 0, 0, 0),
  (10, .invokevirtual 66, 13, [], 19, [], 1, 94, 0),
  (13, .bipush 32, 15, [], 0, [], 0, 0, 32),
  (15, .if_icmp .ne 7, 18, [0, 1], 22, [], 0, 0, 0),
  (18, .iconst 1, 19, [], 0, [], 0, 0, 1),
  (19, .goto 4, 22, [], 23, [0, 1], 0, 0, 0),
  (22, .iconst 0, 23, [0, 1], 0, [], 0, 0, 0),
  (23, .ireturn, 24, [], 0, [], 0, 0, 0)]
def t_Memory_init : List (Nat × TE) := [
  (0, .aload_n 0, 1, [], 0, [], 0, 0, 0),
  (1, .invokespecial 3, 4, [], 1000, [], 0, 95, 0),
  (4, .aload_n 0, 5, [], 0, [], 0, 0, 0),
  (5, .bipush 20, 7, [], 0, [], 0, 0, 20),
  (7, .anewarray 9, 10, [], 7, [], 105, 96, 0),
  (10, .putfield 11, 13, [], 2, [], 0, 97, 0),
  (13, .aload_n 0, 14, [], 0, [], 0, 0, 0),
  (14, .bipush 20, 16, [], 0, [], 0, 0, 20),
  (16, .anewarray 17, 19, [], 6, [], 104, 98, 0),
  (19, .putfield 19, 22, [], 2, [], 1, 99, 0),
  (22, .aload_n 0, 23, [], 0, [], 0, 0, 0),
  (23, .bipush 20, 25, [], 0, [], 0, 0, 20),
  (25, .newarray .int, 27, [], 0, [], 100, 0, 0),
  (27, .putfield 23, 30, [], 2, [], 2, 100, 0),
  (30, .aload_n 0, 31, [], 0, [], 0, 0, 0),
  (31, .bipush 40, 33, [], 0, [], 0, 0, 40),
  (33, .anewarray 9, 36, [], 7, [], 105, 96, 0),
  (36, .putfield 27, 39, [], 2, [], 3, 101, 0),
  (39, .aload_n 0, 40, [], 0, [], 0, 0, 0),
  (40, .bipush 40, 42, [], 0, [], 0, 0, 40),
  (42, .newarray .int, 44, [], 0, [], 100, 0, 0),
  (44, .putfield 30, 47, [], 2, [], 4, 8, 0),
  (47, .aload_n 0, 48, [], 0, [], 0, 0, 0),
  (48, .bipush 40, 50, [], 0, [], 0, 0, 40),
  (50, .newarray .int, 52, [], 0, [], 100, 0, 0),
  (52, .putfield 33, 55, [], 2, [], 5, 102, 0),
  (55, .iconst 0, 56, [], 0, [], 0, 0, 0),
  (56, .istore_n 1, 57, [], 0, [], 0, 0, 0),
  (57, .iload_n 1, 58, [], 0, [], 0, 0, 0),
  (58, .bipush 20, 60, [], 0, [], 0, 0, 20),
  (60, .if_icmp .ge 44, 63, [], 104, [], 0, 0, 0),
  (63, .aload_n 0, 64, [], 0, [], 0, 0, 0),
  (64, .getfield 11, 67, [], 2, [], 0, 97, 0),
  (67, .iload_n 1, 68, [], 0, [], 0, 0, 0),
  (68, .new 9, 71, [], 7, [], 2, 103, 0),
  (71, .dup, 72, [], 0, [], 0, 0, 0),
  (72, .iconst 0, 73, [], 0, [], 0, 0, 0),
  (73, .invokespecial 36, 76, [], 18, [], 1, 104, 0),
  (76, .aastore, 77, [], 0, [], 0, 0, 0),
  (77, .aload_n 0, 78, [], 0, [], 0, 0, 0),
  (78, .getfield 19, 81, [], 2, [], 1, 99, 0),
  (81, .iload_n 1, 82, [], 0, [], 0, 0, 0),
  (82, .new 17, 85, [], 6, [], 9, 105, 0),
  (85, .dup, 86, [], 0, [], 0, 0, 0),
  (86, .aload_n 0, 87, [], 0, [], 0, 0, 0),
  (87, .getfield 11, 90, [], 2, [], 0, 97, 0),
  (90, .iload_n 1, 91, [], 0, [], 0, 0, 0),
  (91, .aaload, 92, [], 0, [], 0, 0, 0),
  (92, .bipush 20, 94, [], 0, [], 0, 0, 20),
  (94, .invokespecial 39, 97, [], 10, [], 2, 106, 0),
  (97, .aastore, 98, [], 0, [], 0, 0, 0),
  (98, .iinc 1 1, 101, [], 0, [], 0, 0, 1),
  (101, .goto (-44), 104, [], 57, [], 0, 0, 0),
  (104, .iconst 0, 105, [], 0, [], 0, 0, 0),
  (105, .istore_n 1, 106, [], 0, [], 0, 0, 0),
  (106, .iload_n 1, 107, [], 0, [], 0, 0, 0),
  (107, .bipush 40, 109, [], 0, [], 0, 0, 40),
  (109, .if_icmp .ge 23, 112, [], 132, [], 0, 0, 0),
  (112, .aload_n 0, 113, [], 0, [], 0, 0, 0),
  (113, .getfield 27, 116, [], 2, [], 3, 101, 0),
  (116, .iload_n 1, 117, [], 0, [], 0, 0, 0),
  (117, .new 9, 120, [], 7, [], 2, 103, 0),
  (120, .dup, 121, [], 0, [], 0, 0, 0),
  (121, .iconst 0, 122, [], 0, [], 0, 0, 0),
  (122, .invokespecial 36, 125, [], 18, [], 1, 104, 0),
  (125, .aastore, 126, [], 0, [], 0, 0, 0),
  (126, .iinc 1 1, 129, [], 0, [], 0, 0, 1),
  (129, .goto (-23), 132, [], 106, [], 0, 0, 0),
  (132, .return_, 133, [], 0, [], 0, 0, 0)]
def t_Memory_addRendering : List (Nat × TE) := [
  (0, .aload_n 0, 1, [], 0, [], 0, 0, 0),
  (1, .getfield 27, 4, [], 2, [], 3, 101, 0),
  (4, .aload_n 0, 5, [], 0, [], 0, 0, 0),
  (5, .getfield 67, 8, [], 2, [], 7, 6, 0),
  (8, .aaload, 9, [], 0, [], 0, 0, 0),
  (9, .aload_n 2, 10, [], 0, [], 0, 0, 0),
  (10, .iconst 0, 11, [], 0, [], 0, 0, 0),
  (11, .aload_n 2, 12, [], 0, [], 0, 0, 0),
  (12, .getfield 60, 15, [], 7, [], 1, 107, 0),
  (15, .invokevirtual 56, 18, [], 21, [], 3, 108, 0),
  (18, .aload_n 0, 19, [], 0, [], 0, 0, 0),
  (19, .getfield 30, 22, [], 2, [], 4, 8, 0),
  (22, .aload_n 0, 23, [], 0, [], 0, 0, 0),
  (23, .getfield 67, 26, [], 2, [], 7, 6, 0),
  (26, .iload_n 1, 27, [], 0, [], 0, 0, 0),
  (27, .iastore, 28, [], 0, [], 0, 0, 0),
  (28, .aload_n 0, 29, [], 0, [], 0, 0, 0),
  (29, .getfield 33, 32, [], 2, [], 5, 102, 0),
  (32, .aload_n 0, 33, [], 0, [], 0, 0, 0),
  (33, .getfield 67, 36, [], 2, [], 7, 6, 0),
  (36, .iload_n 3, 37, [], 0, [], 0, 0, 0),
  (37, .iastore, 38, [], 0, [], 0, 0, 0),
  (38, .aload_n 0, 39, [], 0, [], 0, 0, 0),
  (39, .getfield 23, 42, [], 2, [], 2, 100, 0),
  (42, .iload_n 1, 43, [], 0, [], 0, 0, 0),
  (43, .aload_n 0, 44, [], 0, [], 0, 0, 0),
  (44, .getfield 67, 47, [], 2, [], 7, 6, 0),
  (47, .iastore, 48, [], 0, [], 0, 0, 0),
  (48, .aload_n 0, 49, [], 0, [], 0, 0, 0),
  (49, .dup, 50, [], 0, [], 0, 0, 0),
  (50, .getfield 67, 53, [], 2, [], 7, 6, 0),
  (53, .iconst 1, 54, [], 0, [], 0, 0, 1),
  (54, .iadd, 55, [], 0, [], 0, 0, 0),
  (55, .putfield 67, 58, [], 2, [], 7, 6, 0),
  (58, .return_, 59, [], 0, [], 0, 0, 0)]
def t_Memory_takeBack : List (Nat × TE) := [
  (0, .aload_n 0, 1, [], 0, [], 0, 0, 0),
  (1, .dup, 2, [], 0, [], 0, 0, 0),
  (2, .getfield 67, 5, [], 2, [], 7, 6, 0),
  (5, .iconst 1, 6, [], 0, [], 0, 0, 1),
  (6, .isub, 7, [], 0, [], 0, 0, 0),
  (7, .putfield 67, 10, [], 2, [], 7, 6, 0),
  (10, .aload_n 0, 11, [], 0, [], 0, 0, 0),
  (11, .getfield 30, 14, [], 2, [], 4, 8, 0),
  (14, .aload_n 0, 15, [], 0, [], 0, 0, 0),
  (15, .getfield 67, 18, [], 2, [], 7, 6, 0),
  (18, .iaload, 19, [], 0, [], 0, 0, 0),
  (19, .istore_n 1, 20, [], 0, [], 0, 0, 0),
  (20, .aload_n 0, 21, [], 0, [], 0, 0, 0),
  (21, .iload_n 1, 22, [], 0, [], 0, 0, 0),
  (22, .aload_n 0, 23, [], 0, [], 0, 0, 0),
  (23, .getfield 67, 26, [], 2, [], 7, 6, 0),
  (26, .invokevirtual 70, 29, [], 3, [], 2, 109, 0),
  (29, .istore_n 2, 30, [], 0, [], 0, 0, 0),
  (30, .iload_n 2, 31, [], 0, [], 0, 0, 0),
  (31, .ifCond .ge 16, 34, [], 47, [], 0, 0, 0),
  (34, .aload_n 0, 35, [], 0, [], 0, 0, 0),
  (35, .dup, 36, [], 0, [], 0, 0, 0),
  (36, .getfield 42, 39, [], 2, [], 6, 110, 0),
  (39, .iconst 1, 40, [], 0, [], 0, 0, 1),
  (40, .isub, 41, [], 0, [], 0, 0, 0),
  (41, .putfield 42, 44, [], 2, [], 6, 110, 0),
  (44, .goto 10, 47, [], 54, [0, 2], 0, 0, 0),
  (47, .aload_n 0, 48, [], 0, [], 0, 0, 0),
  (48, .getfield 23, 51, [], 2, [], 2, 100, 0),
  (51, .iload_n 1, 52, [], 0, [], 0, 0, 0),
  (52, .iload_n 2, 53, [], 0, [], 0, 0, 0),
  (53, .iastore, 54, [0, 2], 0, [], 0, 0, 0),
  (54, .iload_n 1, 55, [], 0, [], 0, 0, 0),
  (55, .ireturn, 56, [], 0, [], 0, 0, 0)]
def t_Near_forgetAll : List (Nat × TE) := [
  (0, .aload_n 0, 1, [], 0, [], 0, 0, 0),
  (1, .getfield 9, 4, [], 3, [], 0, 9, 0),
  (4, .iconst (-1), 5, [], 0, [], 0, 0, -1),
  (5, .invokestatic 22, 8, [], 49, [], 2, 111, 0),
  (8, .return_, 9, [], 0, [], 0, 0, 0)]
def t_Patch_init : List (Nat × TE) := [
  (0, .aload_n 0, 1, [], 0, [], 0, 0, 0),
  (1, .invokespecial 3, 4, [], 1000, [], 0, 112, 0),
  (4, .aload_n 0, 5, [], 0, [], 0, 0, 0),
  (5, .new 9, 8, [], 7, [], 2, 113, 0),
  (8, .dup, 9, [], 0, [], 0, 0, 0),
  (9, .sipush 880, 12, [], 0, [], 0, 0, 880),
  (12, .invokespecial 13, 15, [], 18, [], 1, 114, 0),
  (15, .putfield 16, 18, [], 5, [], 0, 115, 0),
  (18, .aload_n 0, 19, [], 0, [], 0, 0, 0),
  (19, .bipush 10, 21, [], 0, [], 0, 0, 10),
  (21, .newarray .int, 23, [], 0, [], 100, 0, 0),
  (23, .putfield 20, 26, [], 5, [], 1, 116, 0),
  (26, .aload_n 0, 27, [], 0, [], 0, 0, 0),
  (27, .bipush 20, 29, [], 0, [], 0, 0, 20),
  (29, .newarray .boolean, 31, [], 0, [], 102, 0, 0),
  (31, .putfield 24, 34, [], 5, [], 2, 12, 0),
  (34, .return_, 35, [], 0, [], 0, 0, 0)]
def t_Patch_copy : List (Nat × TE) := [
  (0, .iload_n 2, 1, [], 0, [], 0, 0, 0),
  (1, .istore 4, 3, [2], 0, [], 0, 0, 0),
  (3, .iload 4, 5, [], 0, [], 0, 0, 0),
  (5, .iload_n 3, 6, [], 0, [], 0, 0, 0),
  (6, .if_icmp .ge 22, 9, [], 28, [], 0, 0, 0),
  (9, .aload_n 0, 10, [], 0, [], 0, 0, 0),
  (10, .getfield 16, 13, [], 5, [], 0, 115, 0),
  (13, .aload_n 1, 14, [], 0, [], 0, 0, 0),
  (14, .iload 4, 16, [], 0, [], 0, 0, 0),
  (16, .invokevirtual 92, 19, [], 19, [], 1, 117, 0),
  (19, .invokevirtual 95, 22, [], 20, [], 1, 118, 0),
  (22, .iinc 4 1, 25, [], 0, [], 0, 0, 1),
  (25, .goto (-22), 28, [], 3, [2], 0, 0, 0),
  (28, .return_, 29, [], 0, [], 0, 0, 0)]
def t_Patch_readsSame : List (Nat × TE) := [
  (0, .aload_n 0, 1, [], 0, [], 0, 0, 0),
  (1, .getfield 64, 4, [], 6, [], 2, 119, 0),
  (4, .iload_n 1, 5, [], 0, [], 0, 0, 0),
  (5, .iaload, 6, [], 0, [], 0, 0, 0),
  (6, .aload_n 2, 7, [], 0, [], 0, 0, 0),
  (7, .getfield 64, 10, [], 6, [], 2, 119, 0),
  (10, .iload_n 3, 11, [], 0, [], 0, 0, 0),
  (11, .iaload, 12, [], 0, [], 0, 0, 0),
  (12, .if_icmp .eq 5, 15, [], 17, [], 0, 0, 0),
  (15, .iconst 0, 16, [], 0, [], 0, 0, 0),
  (16, .ireturn, 17, [], 0, [], 0, 0, 0),
  (17, .iconst 0, 18, [], 0, [], 0, 0, 0),
  (18, .istore 4, 20, [5], 0, [], 0, 0, 0),
  (20, .iload 4, 22, [], 0, [], 0, 0, 0),
  (22, .aload_n 2, 23, [], 0, [], 0, 0, 0),
  (23, .getfield 64, 26, [], 6, [], 2, 119, 0),
  (26, .iload_n 3, 27, [], 0, [], 0, 0, 0),
  (27, .iaload, 28, [], 0, [], 0, 0, 0),
  (28, .if_icmp .ge 53, 31, [], 81, [], 0, 0, 0),
  (31, .aload_n 2, 32, [], 0, [], 0, 0, 0),
  (32, .getfield 54, 35, [], 6, [], 3, 120, 0),
  (35, .aload_n 2, 36, [], 0, [], 0, 0, 0),
  (36, .getfield 57, 39, [], 6, [], 1, 121, 0),
  (39, .iload_n 3, 40, [], 0, [], 0, 0, 0),
  (40, .iaload, 41, [], 0, [], 0, 0, 0),
  (41, .iload 4, 43, [], 0, [], 0, 0, 0),
  (43, .iadd, 44, [], 0, [], 0, 0, 0),
  (44, .invokevirtual 92, 47, [], 19, [], 1, 117, 0),
  (47, .invokestatic 109, 50, [], 8, [], 1, 122, 0),
  (50, .istore 5, 52, [], 0, [], 0, 0, 0),
  (52, .aload_n 0, 53, [], 0, [], 0, 0, 0),
  (53, .getfield 54, 56, [], 6, [], 3, 120, 0),
  (56, .aload_n 0, 57, [], 0, [], 0, 0, 0),
  (57, .getfield 57, 60, [], 6, [], 1, 121, 0),
  (60, .iload_n 1, 61, [], 0, [], 0, 0, 0),
  (61, .iaload, 62, [], 0, [], 0, 0, 0),
  (62, .iload 4, 64, [], 0, [], 0, 0, 0),
  (64, .iadd, 65, [], 0, [], 0, 0, 0),
  (65, .invokevirtual 92, 68, [], 19, [], 1, 117, 0),
  (68, .iload 5, 70, [], 0, [], 0, 0, 0),
  (70, .if_icmp .eq 5, 73, [], 75, [], 0, 0, 0),
  (73, .iconst 0, 74, [], 0, [], 0, 0, 0),
  (74, .ireturn, 75, [], 0, [], 0, 0, 0),
  (75, .iinc 4 1, 78, [], 0, [], 0, 0, 1),
  (78, .goto (-58), 81, [], 20, [5], 0, 0, 0),
  (81, .iconst 1, 82, [], 0, [], 0, 0, 1),
  (82, .ireturn, 83, [], 0, [], 0, 0, 0)]
def t_Patch_copyNumber : List (Nat × TE) := [
  (0, .iconst 0, 1, [], 0, [], 0, 0, 0),
  (1, .istore_n 3, 2, [], 0, [], 0, 0, 0),
  (2, .iload_n 3, 3, [], 0, [], 0, 0, 0),
  (3, .aload_n 1, 4, [], 0, [], 0, 0, 0),
  (4, .getfield 64, 7, [], 6, [], 2, 119, 0),
  (7, .iload_n 2, 8, [], 0, [], 0, 0, 0),
  (8, .iaload, 9, [], 0, [], 0, 0, 0),
  (9, .if_icmp .ge 34, 12, [], 43, [], 0, 0, 0),
  (12, .aload_n 0, 13, [], 0, [], 0, 0, 0),
  (13, .getfield 16, 16, [], 5, [], 0, 115, 0),
  (16, .aload_n 1, 17, [], 0, [], 0, 0, 0),
  (17, .getfield 54, 20, [], 6, [], 3, 120, 0),
  (20, .aload_n 1, 21, [], 0, [], 0, 0, 0),
  (21, .getfield 57, 24, [], 6, [], 1, 121, 0),
  (24, .iload_n 2, 25, [], 0, [], 0, 0, 0),
  (25, .iaload, 26, [], 0, [], 0, 0, 0),
  (26, .iload_n 3, 27, [], 0, [], 0, 0, 0),
  (27, .iadd, 28, [], 0, [], 0, 0, 0),
  (28, .invokevirtual 92, 31, [], 19, [], 1, 117, 0),
  (31, .invokestatic 109, 34, [], 8, [], 1, 122, 0),
  (34, .invokevirtual 95, 37, [], 20, [], 1, 118, 0),
  (37, .iinc 3 1, 40, [], 0, [], 0, 0, 1),
  (40, .goto (-38), 43, [], 2, [], 0, 0, 0),
  (43, .return_, 44, [], 0, [], 0, 0, 0)]
def t_Row_digit : List (Nat × TE) := [
  (0, .aload_n 0, 1, [], 0, [], 0, 0, 0),
  (1, .getfield 9, 4, [], 6, [], 3, 16, 0),
  (4, .aload_n 0, 5, [], 0, [], 0, 0, 0),
  (5, .iload_n 1, 6, [], 0, [], 0, 0, 0),
  (6, .invokevirtual 61, 9, [], 13, [], 1, 123, 0),
  (9, .invokevirtual 65, 12, [], 19, [], 1, 124, 0),
  (12, .bipush 48, 14, [], 0, [], 0, 0, 48),
  (14, .isub, 15, [], 0, [], 0, 0, 0),
  (15, .ireturn, 16, [], 0, [], 0, 0, 0)]
def t_Row_isPieceLike : List (Nat × TE) := [
  (0, .aload_n 0, 1, [], 0, [], 0, 0, 0),
  (1, .getfield 21, 4, [], 6, [], 0, 18, 0),
  (4, .iload_n 1, 5, [], 0, [], 0, 0, 0),
  (5, .iaload, 6, [], 0, [], 0, 0, 0),
  (6, .aload_n 2, 7, [], 0, [], 0, 0, 0),
  (7, .getfield 21, 10, [], 6, [], 0, 18, 0),
  (10, .iload_n 1, 11, [], 0, [], 0, 0, 0),
  (11, .iaload, 12, [], 0, [], 0, 0, 0),
  (12, .if_icmp .eq 5, 15, [], 17, [], 0, 0, 0),
  (15, .iconst 0, 16, [], 0, [], 0, 0, 0),
  (16, .ireturn, 17, [], 0, [], 0, 0, 0),
  (17, .aload_n 0, 18, [], 0, [], 0, 0, 0),
  (18, .getfield 21, 21, [], 6, [], 0, 18, 0),
  (21, .iload_n 1, 22, [], 0, [], 0, 0, 0),
  (22, .iaload, 23, [], 0, [], 0, 0, 0),
  (23, .lookupswitch 41 #[(0, 25), (5, 33)], 48, [], 64, [], 0, 0, 0),
  (48, .aload_n 0, 49, [], 0, [], 0, 0, 0),
  (49, .iload_n 1, 50, [], 0, [], 0, 0, 0),
  (50, .aload_n 2, 51, [], 0, [], 0, 0, 0),
  (51, .iload_n 1, 52, [], 0, [], 0, 0, 0),
  (52, .invokevirtual 78, 55, [], 15, [], 3, 125, 0),
  (55, .ireturn, 56, [], 0, [], 0, 0, 0),
  (56, .aload_n 0, 57, [], 0, [], 0, 0, 0),
  (57, .iload_n 1, 58, [], 0, [], 0, 0, 0),
  (58, .aload_n 2, 59, [], 0, [], 0, 0, 0),
  (59, .iload_n 1, 60, [], 0, [], 0, 0, 0),
  (60, .invokevirtual 82, 63, [], 14, [], 3, 126, 0),
  (63, .ireturn, 64, [], 0, [], 0, 0, 0),
  (64, .iconst 1, 65, [], 0, [], 0, 0, 1),
  (65, .ireturn, 66, [], 0, [], 0, 0, 0)]
def t_Row_changeCost : List (Nat × TE) := [
  (0, .aload_n 0, 1, [], 0, [], 0, 0, 0),
  (1, .getfield 21, 4, [], 6, [], 0, 18, 0),
  (4, .iload_n 1, 5, [], 0, [], 0, 0, 0),
  (5, .iaload, 6, [], 0, [], 0, 0, 0),
  (6, .aload_n 2, 7, [], 0, [], 0, 0, 0),
  (7, .getfield 21, 10, [], 6, [], 0, 18, 0),
  (10, .iload_n 3, 11, [], 0, [], 0, 0, 0),
  (11, .iaload, 12, [], 0, [], 0, 0, 0),
  (12, .if_icmp .eq 6, 15, [], 18, [], 0, 0, 0),
  (15, .bipush 10, 17, [], 0, [], 0, 0, 10),
  (17, .ireturn, 18, [], 0, [], 0, 0, 0),
  (18, .aload_n 0, 19, [], 0, [], 0, 0, 0),
  (19, .iload_n 1, 20, [], 0, [], 0, 0, 0),
  (20, .aload_n 2, 21, [], 0, [], 0, 0, 0),
  (21, .iload_n 3, 22, [], 0, [], 0, 0, 0),
  (22, .invokevirtual 82, 25, [], 14, [], 3, 126, 0),
  (25, .ifCond .eq 5, 28, [], 30, [], 0, 0, 0),
  (28, .iconst 0, 29, [], 0, [], 0, 0, 0),
  (29, .ireturn, 30, [], 0, [], 0, 0, 0),
  (30, .aload_n 0, 31, [], 0, [], 0, 0, 0),
  (31, .getfield 21, 34, [], 6, [], 0, 18, 0),
  (34, .iload_n 1, 35, [], 0, [], 0, 0, 0),
  (35, .iaload, 36, [], 0, [], 0, 0, 0),
  (36, .lookupswitch 48 #[(0, 28), (5, 45)], 64, [], 84, [], 0, 0, 0),
  (64, .aload_n 0, 65, [], 0, [], 0, 0, 0),
  (65, .iload_n 1, 66, [], 0, [], 0, 0, 0),
  (66, .aload_n 2, 67, [], 0, [], 0, 0, 0),
  (67, .iload_n 3, 68, [], 0, [], 0, 0, 0),
  (68, .invokevirtual 78, 71, [], 15, [], 3, 125, 0),
  (71, .ifCond .eq 7, 74, [], 78, [], 0, 0, 0),
  (74, .iconst 1, 75, [], 0, [], 0, 0, 1),
  (75, .goto 5, 78, [], 80, [0, 1, 2, 3], 0, 0, 0),
  (78, .bipush 10, 80, [0, 1, 2, 3], 0, [], 0, 0, 10),
  (80, .ireturn, 81, [], 0, [], 0, 0, 0),
  (81, .bipush 10, 83, [], 0, [], 0, 0, 10),
  (83, .ireturn, 84, [], 0, [], 0, 0, 0),
  (84, .iconst 2, 85, [], 0, [], 0, 0, 2),
  (85, .ireturn, 86, [], 0, [], 0, 0, 0)]
def t_Row_aloneCost : List (Nat × TE) := [
  (0, .aload_n 0, 1, [], 0, [], 0, 0, 0),
  (1, .iload_n 1, 2, [], 0, [], 0, 0, 0),
  (2, .invokevirtual 85, 5, [], 12, [], 1, 127, 0),
  (5, .ifCond .eq 7, 8, [], 12, [], 0, 0, 0),
  (8, .iconst 4, 9, [], 0, [], 0, 0, 4),
  (9, .goto 5, 12, [], 14, [0, 1], 0, 0, 0),
  (12, .bipush 10, 14, [0, 1], 0, [], 0, 0, 10),
  (14, .ireturn, 15, [], 0, [], 0, 0, 0)]
def t_Scan_byteAt : List (Nat × TE) := [
  (0, .iload_n 1, 1, [], 0, [], 0, 0, 0),
  (1, .iload_n 2, 2, [], 0, [], 0, 0, 0),
  (2, .if_icmp .ge 11, 5, [], 13, [], 0, 0, 0),
  (5, .aload_n 0, 6, [], 0, [], 0, 0, 0),
  (6, .iload_n 1, 7, [], 0, [], 0, 0, 0),
  (7, .invokevirtual 9, 10, [], 19, [], 1, 128, 0),
  (10, .goto 4, 13, [], 14, [0, 1, 2], 0, 0, 0),
  (13, .iconst (-1), 14, [0, 1, 2], 0, [], 0, 0, -1),
  (14, .ireturn, 15, [], 0, [], 0, 0, 0)]
def t_Scan_lettersEnd : List (Nat × TE) := [
  (0, .iload_n 1, 1, [], 0, [], 0, 0, 0),
  (1, .istore_n 3, 2, [1], 0, [], 0, 0, 0),
  (2, .iload_n 3, 3, [], 0, [], 0, 0, 0),
  (3, .iload_n 2, 4, [], 0, [], 0, 0, 0),
  (4, .if_icmp .ge 20, 7, [], 24, [0, 1, 2], 0, 0, 0),
  (7, .aload_n 0, 8, [], 0, [], 0, 0, 0),
  (8, .iload_n 3, 9, [], 0, [], 0, 0, 0),
  (9, .invokevirtual 9, 12, [], 19, [], 1, 128, 0),
  (12, .invokestatic 21, 15, [], 16, [], 1, 129, 0),
  (15, .ifCond .eq 9, 18, [], 24, [0, 1, 2], 0, 0, 0),
  (18, .iinc 3 1, 21, [], 0, [], 0, 0, 1),
  (21, .goto (-19), 24, [0, 1, 2], 2, [1], 0, 0, 0),
  (24, .iload_n 3, 25, [], 0, [], 0, 0, 0),
  (25, .ireturn, 26, [], 0, [], 0, 0, 0)]
def t_Scan_blanksEnd : List (Nat × TE) := [
  (0, .iload_n 1, 1, [], 0, [], 0, 0, 0),
  (1, .istore_n 3, 2, [1], 0, [], 0, 0, 0),
  (2, .iload_n 3, 3, [], 0, [], 0, 0, 0),
  (3, .iload_n 2, 4, [], 0, [], 0, 0, 0),
  (4, .if_icmp .ge 19, 7, [], 23, [0, 1, 2], 0, 0, 0),
  (7, .aload_n 0, 8, [], 0, [], 0, 0, 0),
  (8, .iload_n 3, 9, [], 0, [], 0, 0, 0),
  (9, .invokevirtual 9, 12, [], 19, [], 1, 128, 0),
  (12, .bipush 32, 14, [], 0, [], 0, 0, 32),
  (14, .if_icmp .ne 9, 17, [], 23, [0, 1, 2], 0, 0, 0),
  (17, .iinc 3 1, 20, [], 0, [], 0, 0, 1),
  (20, .goto (-18), 23, [0, 1, 2], 2, [1], 0, 0, 0),
  (23, .iload_n 3, 24, [], 0, [], 0, 0, 0),
  (24, .ireturn, 25, [], 0, [], 0, 0, 0)]
def t_Scan_digitsEnd : List (Nat × TE) := [
  (0, .iload_n 1, 1, [], 0, [], 0, 0, 0),
  (1, .istore 4, 3, [], 0, [], 0, 0, 0),
  (3, .iload 4, 5, [], 0, [], 0, 0, 0),
  (5, .iload_n 2, 6, [], 0, [], 0, 0, 0),
  (6, .if_icmp .ge 29, 9, [], 35, [0, 1, 2, 3], 0, 0, 0),
  (9, .iload 4, 11, [], 0, [], 0, 0, 0),
  (11, .iload_n 1, 12, [], 0, [], 0, 0, 0),
  (12, .iload_n 3, 13, [], 0, [], 0, 0, 0),
  (13, .iadd, 14, [], 0, [], 0, 0, 0),
  (14, .if_icmp .ge 21, 17, [], 35, [0, 1, 2, 3], 0, 0, 0),
  (17, .aload_n 0, 18, [], 0, [], 0, 0, 0),
  (18, .iload 4, 20, [], 0, [], 0, 0, 0),
  (20, .invokevirtual 9, 23, [], 19, [], 1, 128, 0),
  (23, .invokestatic 25, 26, [], 17, [], 1, 130, 0),
  (26, .ifCond .eq 9, 29, [], 35, [0, 1, 2, 3], 0, 0, 0),
  (29, .iinc 4 1, 32, [], 0, [], 0, 0, 1),
  (32, .goto (-29), 35, [0, 1, 2, 3], 3, [], 0, 0, 0),
  (35, .iload 4, 37, [], 0, [], 0, 0, 0),
  (37, .ireturn, 38, [], 0, [], 0, 0, 0)]
def t_Words_packed : List (Nat × TE) := [
  (0, .iload_n 2, 1, [], 0, [], 0, 0, 0),
  (1, .iload_n 1, 2, [], 0, [], 0, 0, 0),
  (2, .if_icmp .le 11, 5, [], 13, [0, 1, 2, 3, 4, 5, 6], 0, 0, 0),
  (5, .iload_n 2, 6, [], 0, [], 0, 0, 0),
  (6, .iload_n 1, 7, [], 0, [], 0, 0, 0),
  (7, .isub, 8, [], 0, [], 0, 0, 0),
  (8, .bipush 8, 10, [], 0, [], 0, 0, 8),
  (10, .if_icmp .le 5, 13, [0, 1, 2, 3, 4, 5, 6], 15, [], 0, 0, 0),
  (13, .lconst 0, 14, [], 0, [], 0, 0, 0),
  (14, .lreturn, 15, [], 0, [], 0, 0, 0),
  (15, .lconst 0, 16, [], 0, [], 0, 0, 0),
  (16, .lstore_n 3, 17, [], 0, [], 0, 0, 0),
  (17, .iload_n 1, 18, [], 0, [], 0, 0, 0),
  (18, .istore 5, 20, [1, 4, 6], 0, [], 0, 0, 0),
  (20, .iload 5, 22, [], 0, [], 0, 0, 0),
  (22, .iload_n 2, 23, [], 0, [], 0, 0, 0),
  (23, .if_icmp .ge 40, 26, [], 63, [], 0, 0, 0),
  (26, .aload_n 0, 27, [], 0, [], 0, 0, 0),
  (27, .iload 5, 29, [], 0, [], 0, 0, 0),
  (29, .invokevirtual 21, 32, [], 19, [], 1, 131, 0),
  (32, .istore 6, 34, [], 0, [], 0, 0, 0),
  (34, .iload 6, 36, [], 0, [], 0, 0, 0),
  (36, .invokestatic 27, 39, [], 16, [], 1, 132, 0),
  (39, .ifCond .ne 5, 42, [], 44, [], 0, 0, 0),
  (42, .lconst 0, 43, [], 0, [], 0, 0, 0),
  (43, .lreturn, 44, [], 0, [], 0, 0, 0),
  (44, .lload_n 3, 45, [], 0, [], 0, 0, 0),
  (45, .bipush 8, 47, [], 0, [], 0, 0, 8),
  (47, .lshl, 48, [], 0, [], 0, 0, 0),
  (48, .iload 6, 50, [], 0, [], 0, 0, 0),
  (50, .i2l, 51, [], 0, [], 0, 0, 0),
  (51, .lor, 52, [], 0, [], 0, 0, 0),
  (52, .ldc2_w 33, 55, [], 32, [], 0, 133, 0),
  (55, .lor, 56, [], 0, [], 0, 0, 0),
  (56, .lstore_n 3, 57, [], 0, [], 0, 0, 0),
  (57, .iinc 5 1, 60, [], 0, [], 0, 0, 1),
  (60, .goto (-40), 63, [], 20, [1, 4, 6], 0, 0, 0),
  (63, .lload_n 3, 64, [], 0, [], 0, 0, 0),
  (64, .lreturn, 65, [], 0, [], 0, 0, 0)]
def t_Words_add : List (Nat × TE) := [
  (0, .aload_n 0, 1, [], 0, [], 0, 0, 0),
  (1, .invokevirtual 39, 4, [], 24, [], 0, 134, 0),
  (4, .ifCond .ne 23, 7, [], 27, [0, 1, 2], 0, 0, 0),
  (7, .aload_n 0, 8, [], 0, [], 0, 0, 0),
  (8, .getfield 15, 11, [], 8, [], 0, 32, 0),
  (11, .aload_n 0, 12, [], 0, [], 0, 0, 0),
  (12, .getfield 35, 15, [], 8, [], 1, 33, 0),
  (15, .lload_n 1, 16, [], 0, [], 0, 0, 0),
  (16, .lastore, 17, [], 0, [], 0, 0, 0),
  (17, .aload_n 0, 18, [], 0, [], 0, 0, 0),
  (18, .dup, 19, [], 0, [], 0, 0, 0),
  (19, .getfield 35, 22, [], 8, [], 1, 33, 0),
  (22, .iconst 1, 23, [], 0, [], 0, 0, 1),
  (23, .iadd, 24, [], 0, [], 0, 0, 0),
  (24, .putfield 35, 27, [0, 1, 2], 8, [], 1, 33, 0),
  (27, .return_, 28, [], 0, [], 0, 0, 0)]
def t_K_feed : List (Nat × TE) := [
  (0, .iload_n 3, 1, [], 0, [], 0, 0, 0),
  (1, .iconst 1, 2, [], 0, [], 0, 0, 1),
  (2, .if_icmp .lt 9, 5, [], 11, [0, 1, 2, 3, 4], 0, 0, 0),
  (5, .iload_n 3, 6, [], 0, [], 0, 0, 0),
  (6, .bipush 8, 8, [], 0, [], 0, 0, 8),
  (8, .if_icmp .le 6, 11, [0, 1, 2, 3, 4], 14, [], 0, 0, 0),
  (11, .bipush (-2), 13, [], 0, [], 0, 0, -2),
  (13, .ireturn, 14, [], 0, [], 0, 0, 0),
  (14, .aload_n 0, 15, [], 0, [], 0, 0, 0),
  (15, .getfield 14, 18, [], 9, [], 0, 34, 0),
  (18, .getfield 87, 21, [], 7, [], 1, 35, 0),
  (21, .iload_n 3, 22, [], 0, [], 0, 0, 0),
  (22, .iadd, 23, [], 0, [], 0, 0, 0),
  (23, .sipush 600, 26, [], 0, [], 0, 0, 600),
  (26, .if_icmp .le 6, 29, [], 32, [], 0, 0, 0),
  (29, .bipush (-5), 31, [], 0, [], 0, 0, -5),
  (31, .ireturn, 32, [], 0, [], 0, 0, 0),
  (32, .iload_n 3, 33, [], 0, [], 0, 0, 0),
  (33, .iconst 1, 34, [], 0, [], 0, 0, 1),
  (34, .isub, 35, [], 0, [], 0, 0, 0),
  (35, .istore 4, 37, [2, 3], 0, [], 0, 0, 0),
  (37, .iload 4, 39, [], 0, [], 0, 0, 0),
  (39, .ifCond .lt 24, 42, [], 63, [], 0, 0, 0),
  (42, .aload_n 0, 43, [], 0, [], 0, 0, 0),
  (43, .getfield 14, 46, [], 9, [], 0, 34, 0),
  (46, .lload_n 1, 47, [], 0, [], 0, 0, 0),
  (47, .bipush 8, 49, [], 0, [], 0, 0, 8),
  (49, .iload 4, 51, [], 0, [], 0, 0, 0),
  (51, .imul, 52, [], 0, [], 0, 0, 0),
  (52, .lushr, 53, [], 0, [], 0, 0, 0),
  (53, .l2i, 54, [], 0, [], 0, 0, 0),
  (54, .invokevirtual 91, 57, [], 20, [], 1, 135, 0),
  (57, .iinc 4 (-1), 60, [], 0, [], 0, 0, -1),
  (60, .goto (-23), 63, [], 37, [2, 3], 0, 0, 0),
  (63, .aload_n 0, 64, [], 0, [], 0, 0, 0),
  (64, .getfield 14, 67, [], 9, [], 0, 34, 0),
  (67, .getfield 87, 70, [], 7, [], 1, 35, 0),
  (70, .ireturn, 71, [], 0, [], 0, 0, 0)]
def t_K_tape : List (Nat × TE) := [
  (0, .aload_n 0, 1, [], 0, [], 0, 0, 0),
  (1, .getfield 14, 4, [], 9, [], 0, 34, 0),
  (4, .iload_n 1, 5, [], 0, [], 0, 0, 0),
  (5, .invokevirtual 94, 8, [], 19, [], 1, 136, 0),
  (8, .ireturn, 9, [], 0, [], 0, 0, 0)]
def t_K_piece : List (Nat × TE) := [
  (0, .aload_n 0, 1, [], 0, [], 0, 0, 0),
  (1, .iload_n 1, 2, [], 0, [], 0, 0, 0),
  (2, .invokevirtual 109, 5, [], 29, [], 1, 137, 0),
  (5, .ifCond .ne 5, 8, [], 10, [], 0, 0, 0),
  (8, .iconst (-1), 9, [], 0, [], 0, 0, -1),
  (9, .ireturn, 10, [], 0, [], 0, 0, 0),
  (10, .aload_n 0, 11, [], 0, [], 0, 0, 0),
  (11, .getfield 21, 14, [], 9, [], 1, 41, 0),
  (14, .getfield 113, 17, [], 0, [], 1, 138, 0),
  (17, .iload_n 1, 18, [], 0, [], 0, 0, 0),
  (18, .aaload, 19, [], 0, [], 0, 0, 0),
  (19, .astore 4, 21, [], 0, [], 0, 0, 0),
  (21, .iload_n 2, 22, [], 0, [], 0, 0, 0),
  (22, .ifCond .lt 12, 25, [], 34, [0, 1, 2, 3, 4], 0, 0, 0),
  (25, .iload_n 2, 26, [], 0, [], 0, 0, 0),
  (26, .aload 4, 28, [], 0, [], 0, 0, 0),
  (28, .getfield 126, 31, [], 6, [], 7, 139, 0),
  (31, .if_icmp .lt 5, 34, [0, 1, 2, 3, 4], 36, [], 0, 0, 0),
  (34, .iconst (-1), 35, [], 0, [], 0, 0, -1),
  (35, .ireturn, 36, [], 0, [], 0, 0, 0),
  (36, .iload_n 3, 37, [], 0, [], 0, 0, 0),
  (37, .tableswitch 51 0 2 #[27, 35, 43], 64, [], 88, [], 0, 0, 0),
  (64, .aload 4, 66, [], 0, [], 0, 0, 0),
  (66, .getfield 136, 69, [], 6, [], 0, 140, 0),
  (69, .iload_n 2, 70, [], 0, [], 0, 0, 0),
  (70, .iaload, 71, [], 0, [], 0, 0, 0),
  (71, .ireturn, 72, [], 0, [], 0, 0, 0),
  (72, .aload 4, 74, [], 0, [], 0, 0, 0),
  (74, .getfield 140, 77, [], 6, [], 1, 141, 0),
  (77, .iload_n 2, 78, [], 0, [], 0, 0, 0),
  (78, .iaload, 79, [], 0, [], 0, 0, 0),
  (79, .ireturn, 80, [], 0, [], 0, 0, 0),
  (80, .aload 4, 82, [], 0, [], 0, 0, 0),
  (82, .getfield 143, 85, [], 6, [], 2, 142, 0),
  (85, .iload_n 2, 86, [], 0, [], 0, 0, 0),
  (86, .iaload, 87, [], 0, [], 0, 0, 0),
  (87, .ireturn, 88, [], 0, [], 0, 0, 0),
  (88, .iconst (-1), 89, [], 0, [], 0, 0, -1),
  (89, .ireturn, 90, [], 0, [], 0, 0, 0)]
def t_K_pair : List (Nat × TE) := [
  (0, .aload_n 0, 1, [], 0, [], 0, 0, 0),
  (1, .iload_n 1, 2, [], 0, [], 0, 0, 0),
  (2, .invokevirtual 170, 5, [], 30, [], 1, 143, 0),
  (5, .ifCond .ne 5, 8, [], 10, [], 0, 0, 0),
  (8, .iconst (-1), 9, [], 0, [], 0, 0, -1),
  (9, .ireturn, 10, [], 0, [], 0, 0, 0),
  (10, .aload_n 0, 11, [], 0, [], 0, 0, 0),
  (11, .getfield 28, 14, [], 9, [], 2, 43, 0),
  (14, .getfield 177, 17, [], 2, [], 2, 144, 0),
  (17, .iload_n 1, 18, [], 0, [], 0, 0, 0),
  (18, .iaload, 19, [], 0, [], 0, 0, 0),
  (19, .istore_n 3, 20, [], 0, [], 0, 0, 0),
  (20, .iload_n 2, 21, [], 0, [], 0, 0, 0),
  (21, .tableswitch 84 0 4 #[35, 48, 61, 70, 80], 56, [], 105, [], 0, 0, 0),
  (56, .aload_n 0, 57, [], 0, [], 0, 0, 0),
  (57, .getfield 28, 60, [], 9, [], 2, 43, 0),
  (60, .getfield 180, 63, [], 2, [], 0, 145, 0),
  (63, .iload_n 1, 64, [], 0, [], 0, 0, 0),
  (64, .aaload, 65, [], 0, [], 0, 0, 0),
  (65, .getfield 87, 68, [], 7, [], 1, 35, 0),
  (68, .ireturn, 69, [], 0, [], 0, 0, 0),
  (69, .aload_n 0, 70, [], 0, [], 0, 0, 0),
  (70, .getfield 28, 73, [], 9, [], 2, 43, 0),
  (73, .getfield 184, 76, [], 2, [], 3, 146, 0),
  (76, .iload_n 3, 77, [], 0, [], 0, 0, 0),
  (77, .aaload, 78, [], 0, [], 0, 0, 0),
  (78, .getfield 87, 81, [], 7, [], 1, 35, 0),
  (81, .ireturn, 82, [], 0, [], 0, 0, 0),
  (82, .aload_n 0, 83, [], 0, [], 0, 0, 0),
  (83, .getfield 28, 86, [], 9, [], 2, 43, 0),
  (86, .iload_n 1, 87, [], 0, [], 0, 0, 0),
  (87, .invokevirtual 187, 90, [], 4, [], 1, 147, 0),
  (90, .ireturn, 91, [], 0, [], 0, 0, 0),
  (91, .aload_n 0, 92, [], 0, [], 0, 0, 0),
  (92, .getfield 28, 95, [], 9, [], 2, 43, 0),
  (95, .getfield 190, 98, [], 2, [], 5, 148, 0),
  (98, .iload_n 3, 99, [], 0, [], 0, 0, 0),
  (99, .iaload, 100, [], 0, [], 0, 0, 0),
  (100, .ireturn, 101, [], 0, [], 0, 0, 0),
  (101, .iload_n 3, 102, [], 0, [], 0, 0, 0),
  (102, .iconst 1, 103, [], 0, [], 0, 0, 1),
  (103, .iadd, 104, [], 0, [], 0, 0, 0),
  (104, .ireturn, 105, [], 0, [], 0, 0, 0),
  (105, .iconst (-1), 106, [], 0, [], 0, 0, -1),
  (106, .ireturn, 107, [], 0, [], 0, 0, 0)]
def t_K_rendered : List (Nat × TE) := [
  (0, .aload_n 0, 1, [], 0, [], 0, 0, 0),
  (1, .iload_n 1, 2, [], 0, [], 0, 0, 0),
  (2, .invokevirtual 170, 5, [], 30, [], 1, 143, 0),
  (5, .ifCond .eq 19, 8, [], 24, [0, 1, 2, 3, 4], 0, 0, 0),
  (8, .iload_n 2, 9, [], 0, [], 0, 0, 0),
  (9, .iconst (-1), 10, [], 0, [], 0, 0, -1),
  (10, .if_icmp .lt 14, 13, [], 24, [0, 1, 2, 3, 4], 0, 0, 0),
  (13, .iload_n 2, 14, [], 0, [], 0, 0, 0),
  (14, .aload_n 0, 15, [], 0, [], 0, 0, 0),
  (15, .getfield 28, 18, [], 9, [], 2, 43, 0),
  (18, .getfield 156, 21, [], 2, [], 7, 45, 0),
  (21, .if_icmp .le 5, 24, [0, 1, 2, 3, 4], 26, [], 0, 0, 0),
  (24, .iconst (-1), 25, [], 0, [], 0, 0, -1),
  (25, .ireturn, 26, [], 0, [], 0, 0, 0),
  (26, .iload_n 2, 27, [], 0, [], 0, 0, 0),
  (27, .iconst (-1), 28, [], 0, [], 0, 0, -1),
  (28, .if_icmp .ne 17, 31, [], 45, [], 0, 0, 0),
  (31, .aload_n 0, 32, [], 0, [], 0, 0, 0),
  (32, .getfield 28, 35, [], 9, [], 2, 43, 0),
  (35, .getfield 180, 38, [], 2, [], 0, 145, 0),
  (38, .iload_n 1, 39, [], 0, [], 0, 0, 0),
  (39, .aaload, 40, [], 0, [], 0, 0, 0),
  (40, .iload_n 3, 41, [], 0, [], 0, 0, 0),
  (41, .invokevirtual 94, 44, [], 19, [], 1, 136, 0),
  (44, .ireturn, 45, [], 0, [], 0, 0, 0),
  (45, .aload_n 0, 46, [], 0, [], 0, 0, 0),
  (46, .getfield 28, 49, [], 9, [], 2, 43, 0),
  (49, .iload_n 1, 50, [], 0, [], 0, 0, 0),
  (50, .iload_n 2, 51, [], 0, [], 0, 0, 0),
  (51, .invokevirtual 193, 54, [], 3, [], 2, 149, 0),
  (54, .istore 4, 56, [], 0, [], 0, 0, 0),
  (56, .iload 4, 58, [], 0, [], 0, 0, 0),
  (58, .ifCond .ge 7, 61, [], 65, [], 0, 0, 0),
  (61, .iconst (-1), 62, [], 0, [], 0, 0, -1),
  (62, .goto 17, 65, [], 79, [0, 1, 2, 3, 4], 0, 0, 0),
  (65, .aload_n 0, 66, [], 0, [], 0, 0, 0),
  (66, .getfield 28, 69, [], 9, [], 2, 43, 0),
  (69, .getfield 184, 72, [], 2, [], 3, 146, 0),
  (72, .iload 4, 74, [], 0, [], 0, 0, 0),
  (74, .aaload, 75, [], 0, [], 0, 0, 0),
  (75, .iload_n 3, 76, [], 0, [], 0, 0, 0),
  (76, .invokevirtual 94, 79, [0, 1, 2, 3, 4], 19, [], 1, 136, 0),
  (79, .ireturn, 80, [], 0, [], 0, 0, 0)]
def t_M_feed : List (Nat × TE) := [
  (0, .iload_n 3, 1, [], 0, [], 0, 0, 0),
  (1, .iconst 1, 2, [], 0, [], 0, 0, 1),
  (2, .bipush 8, 4, [], 0, [], 0, 0, 8),
  (4, .invokestatic 85, 7, [], 33, [], 3, 150, 0),
  (7, .ifCond .ne 6, 10, [], 13, [], 0, 0, 0),
  (10, .bipush (-2), 12, [], 0, [], 0, 0, -2),
  (12, .ireturn, 13, [], 0, [], 0, 0, 0),
  (13, .aload_n 0, 14, [], 0, [], 0, 0, 0),
  (14, .getfield 14, 17, [], 10, [], 2, 53, 0),
  (17, .iconst 0, 18, [], 0, [], 0, 0, 0),
  (18, .iaload, 19, [], 0, [], 0, 0, 0),
  (19, .iload_n 3, 20, [], 0, [], 0, 0, 0),
  (20, .iadd, 21, [], 0, [], 0, 0, 0),
  (21, .sipush 600, 24, [], 0, [], 0, 0, 600),
  (24, .if_icmp .le 6, 27, [], 30, [], 0, 0, 0),
  (27, .bipush (-5), 29, [], 0, [], 0, 0, -5),
  (29, .ireturn, 30, [], 0, [], 0, 0, 0),
  (30, .iload_n 3, 31, [], 0, [], 0, 0, 0),
  (31, .iconst 1, 32, [], 0, [], 0, 0, 1),
  (32, .isub, 33, [], 0, [], 0, 0, 0),
  (33, .istore 4, 35, [2, 3], 0, [], 0, 0, 0),
  (35, .iload 4, 37, [], 0, [], 0, 0, 0),
  (37, .ifCond .lt 42, 40, [], 79, [], 0, 0, 0),
  (40, .aload_n 0, 41, [], 0, [], 0, 0, 0),
  (41, .getfield 8, 44, [], 10, [], 1, 52, 0),
  (44, .aload_n 0, 45, [], 0, [], 0, 0, 0),
  (45, .getfield 14, 48, [], 10, [], 2, 53, 0),
  (48, .iconst 0, 49, [], 0, [], 0, 0, 0),
  (49, .iaload, 50, [], 0, [], 0, 0, 0),
  (50, .lload_n 1, 51, [], 0, [], 0, 0, 0),
  (51, .bipush 8, 53, [], 0, [], 0, 0, 8),
  (53, .iload 4, 55, [], 0, [], 0, 0, 0),
  (55, .imul, 56, [], 0, [], 0, 0, 0),
  (56, .lshr, 57, [], 0, [], 0, 0, 0),
  (57, .ldc2_w 89, 60, [], 255, [], 0, 151, 0),
  (60, .land, 61, [], 0, [], 0, 0, 0),
  (61, .l2i, 62, [], 0, [], 0, 0, 0),
  (62, .iastore, 63, [], 0, [], 0, 0, 0),
  (63, .aload_n 0, 64, [], 0, [], 0, 0, 0),
  (64, .getfield 14, 67, [], 10, [], 2, 53, 0),
  (67, .iconst 0, 68, [], 0, [], 0, 0, 0),
  (68, .dup2, 69, [], 0, [], 0, 0, 0),
  (69, .iaload, 70, [], 0, [], 0, 0, 0),
  (70, .iconst 1, 71, [], 0, [], 0, 0, 1),
  (71, .iadd, 72, [], 0, [], 0, 0, 0),
  (72, .iastore, 73, [], 0, [], 0, 0, 0),
  (73, .iinc 4 (-1), 76, [], 0, [], 0, 0, -1),
  (76, .goto (-41), 79, [], 35, [2, 3], 0, 0, 0),
  (79, .aload_n 0, 80, [], 0, [], 0, 0, 0),
  (80, .getfield 14, 83, [], 10, [], 2, 53, 0),
  (83, .iconst 0, 84, [], 0, [], 0, 0, 0),
  (84, .iaload, 85, [], 0, [], 0, 0, 0),
  (85, .ireturn, 86, [], 0, [], 0, 0, 0)]
def t_M_cut : List (Nat × TE) := [
  (0, .iload_n 1, 1, [], 0, [], 0, 0, 0),
  (1, .iconst 0, 2, [], 0, [], 0, 0, 0),
  (2, .aload_n 0, 3, [], 0, [], 0, 0, 0),
  (3, .getfield 14, 6, [], 10, [], 2, 53, 0),
  (6, .iconst 0, 7, [], 0, [], 0, 0, 0),
  (7, .iaload, 8, [], 0, [], 0, 0, 0),
  (8, .invokestatic 85, 11, [], 33, [], 3, 150, 0),
  (11, .ifCond .ne 6, 14, [], 17, [], 0, 0, 0),
  (14, .bipush (-2), 16, [], 0, [], 0, 0, -2),
  (16, .ireturn, 17, [], 0, [], 0, 0, 0),
  (17, .aload_n 0, 18, [], 0, [], 0, 0, 0),
  (18, .getfield 14, 21, [], 10, [], 2, 53, 0),
  (21, .iconst 0, 22, [], 0, [], 0, 0, 0),
  (22, .iload_n 1, 23, [], 0, [], 0, 0, 0),
  (23, .iastore, 24, [], 0, [], 0, 0, 0),
  (24, .iload_n 1, 25, [], 0, [], 0, 0, 0),
  (25, .ireturn, 26, [], 0, [], 0, 0, 0)]
def t_M_tape : List (Nat × TE) := [
  (0, .iload_n 1, 1, [], 0, [], 0, 0, 0),
  (1, .iconst 0, 2, [], 0, [], 0, 0, 0),
  (2, .aload_n 0, 3, [], 0, [], 0, 0, 0),
  (3, .getfield 14, 6, [], 10, [], 2, 53, 0),
  (6, .iconst 0, 7, [], 0, [], 0, 0, 0),
  (7, .iaload, 8, [], 0, [], 0, 0, 0),
  (8, .iconst 1, 9, [], 0, [], 0, 0, 1),
  (9, .isub, 10, [], 0, [], 0, 0, 0),
  (10, .invokestatic 85, 13, [], 33, [], 3, 150, 0),
  (13, .ifCond .eq 12, 16, [], 25, [], 0, 0, 0),
  (16, .aload_n 0, 17, [], 0, [], 0, 0, 0),
  (17, .getfield 8, 20, [], 10, [], 1, 52, 0),
  (20, .iload_n 1, 21, [], 0, [], 0, 0, 0),
  (21, .iaload, 22, [], 0, [], 0, 0, 0),
  (22, .goto 4, 25, [], 26, [0, 1], 0, 0, 0),
  (25, .iconst (-1), 26, [0, 1], 0, [], 0, 0, -1),
  (26, .ireturn, 27, [], 0, [], 0, 0, 0)]
def t_M_digits : List (Nat × TE) := [
  (0, .iload_n 1, 1, [], 0, [], 0, 0, 0),
  (1, .istore_n 3, 2, [], 0, [], 0, 0, 0),
  (2, .iload_n 3, 3, [], 0, [], 0, 0, 0),
  (3, .iload_n 1, 4, [], 0, [], 0, 0, 0),
  (4, .isub, 5, [], 0, [], 0, 0, 0),
  (5, .iload_n 2, 6, [], 0, [], 0, 0, 0),
  (6, .if_icmp .ge 20, 9, [], 26, [0, 1, 2], 0, 0, 0),
  (9, .aload_n 0, 10, [], 0, [], 0, 0, 0),
  (10, .iload_n 3, 11, [], 0, [], 0, 0, 0),
  (11, .invokevirtual 94, 14, [], 35, [], 1, 152, 0),
  (14, .invokestatic 98, 17, [], 36, [], 1, 153, 0),
  (17, .ifCond .eq 9, 20, [], 26, [0, 1, 2], 0, 0, 0),
  (20, .iinc 3 1, 23, [], 0, [], 0, 0, 1),
  (23, .goto (-21), 26, [0, 1, 2], 2, [], 0, 0, 0),
  (26, .iload_n 3, 27, [], 0, [], 0, 0, 0),
  (27, .ireturn, 28, [], 0, [], 0, 0, 0)]
def t_M_mark : List (Nat × TE) := [
  (0, .aload_n 0, 1, [], 0, [], 0, 0, 0),
  (1, .iload_n 1, 2, [], 0, [], 0, 0, 0),
  (2, .invokevirtual 94, 5, [], 35, [], 1, 152, 0),
  (5, .bipush 60, 7, [], 0, [], 0, 0, 60),
  (7, .if_icmp .eq 5, 10, [], 12, [], 0, 0, 0),
  (10, .iconst (-1), 11, [], 0, [], 0, 0, -1),
  (11, .ireturn, 12, [], 0, [], 0, 0, 0),
  (12, .aload_n 0, 13, [], 0, [], 0, 0, 0),
  (13, .iload_n 1, 14, [], 0, [], 0, 0, 0),
  (14, .iconst 1, 15, [], 0, [], 0, 0, 1),
  (15, .iadd, 16, [], 0, [], 0, 0, 0),
  (16, .invokevirtual 94, 19, [], 35, [], 1, 152, 0),
  (19, .bipush 47, 21, [], 0, [], 0, 0, 47),
  (21, .if_icmp .ne 34, 24, [], 55, [], 0, 0, 0),
  (24, .aload_n 0, 25, [], 0, [], 0, 0, 0),
  (25, .iload_n 1, 26, [], 0, [], 0, 0, 0),
  (26, .iconst 2, 27, [], 0, [], 0, 0, 2),
  (27, .iadd, 28, [], 0, [], 0, 0, 0),
  (28, .invokevirtual 94, 31, [], 35, [], 1, 152, 0),
  (31, .invokestatic 98, 34, [], 36, [], 1, 153, 0),
  (34, .ifCond .eq 19, 37, [], 53, [0, 1], 0, 0, 0),
  (37, .aload_n 0, 38, [], 0, [], 0, 0, 0),
  (38, .iload_n 1, 39, [], 0, [], 0, 0, 0),
  (39, .iconst 3, 40, [], 0, [], 0, 0, 3),
  (40, .iadd, 41, [], 0, [], 0, 0, 0),
  (41, .invokevirtual 94, 44, [], 35, [], 1, 152, 0),
  (44, .bipush 62, 46, [], 0, [], 0, 0, 62),
  (46, .if_icmp .ne 7, 49, [], 53, [0, 1], 0, 0, 0),
  (49, .iconst 3, 50, [], 0, [], 0, 0, 3),
  (50, .goto 4, 53, [0, 1], 54, [0, 1], 0, 0, 0),
  (53, .iconst (-1), 54, [0, 1], 0, [], 0, 0, -1),
  (54, .ireturn, 55, [], 0, [], 0, 0, 0),
  (55, .aload_n 0, 56, [], 0, [], 0, 0, 0),
  (56, .iload_n 1, 57, [], 0, [], 0, 0, 0),
  (57, .iconst 1, 58, [], 0, [], 0, 0, 1),
  (58, .iadd, 59, [], 0, [], 0, 0, 0),
  (59, .invokevirtual 94, 62, [], 35, [], 1, 152, 0),
  (62, .invokestatic 98, 65, [], 36, [], 1, 153, 0),
  (65, .ifCond .ne 5, 68, [], 70, [], 0, 0, 0),
  (68, .iconst (-1), 69, [], 0, [], 0, 0, -1),
  (69, .ireturn, 70, [], 0, [], 0, 0, 0),
  (70, .aload_n 0, 71, [], 0, [], 0, 0, 0),
  (71, .iload_n 1, 72, [], 0, [], 0, 0, 0),
  (72, .iconst 2, 73, [], 0, [], 0, 0, 2),
  (73, .iadd, 74, [], 0, [], 0, 0, 0),
  (74, .invokevirtual 94, 77, [], 35, [], 1, 152, 0),
  (77, .bipush 62, 79, [], 0, [], 0, 0, 62),
  (79, .if_icmp .ne 5, 82, [], 84, [], 0, 0, 0),
  (82, .iconst 2, 83, [], 0, [], 0, 0, 2),
  (83, .ireturn, 84, [], 0, [], 0, 0, 0),
  (84, .aload_n 0, 85, [], 0, [], 0, 0, 0),
  (85, .iload_n 1, 86, [], 0, [], 0, 0, 0),
  (86, .iconst 2, 87, [], 0, [], 0, 0, 2),
  (87, .iadd, 88, [], 0, [], 0, 0, 0),
  (88, .invokevirtual 94, 91, [], 35, [], 1, 152, 0),
  (91, .bipush 47, 93, [], 0, [], 0, 0, 47),
  (93, .if_icmp .ne 19, 96, [], 112, [0, 1], 0, 0, 0),
  (96, .aload_n 0, 97, [], 0, [], 0, 0, 0),
  (97, .iload_n 1, 98, [], 0, [], 0, 0, 0),
  (98, .iconst 3, 99, [], 0, [], 0, 0, 3),
  (99, .iadd, 100, [], 0, [], 0, 0, 0),
  (100, .invokevirtual 94, 103, [], 35, [], 1, 152, 0),
  (103, .bipush 62, 105, [], 0, [], 0, 0, 62),
  (105, .if_icmp .ne 7, 108, [], 112, [0, 1], 0, 0, 0),
  (108, .iconst 4, 109, [], 0, [], 0, 0, 4),
  (109, .goto 4, 112, [0, 1], 113, [0, 1], 0, 0, 0),
  (112, .iconst (-1), 113, [0, 1], 0, [], 0, 0, -1),
  (113, .ireturn, 114, [], 0, [], 0, 0, 0)]
def t_M_isMark : List (Nat × TE) := [
  (0, .iload_n 0, 1, [], 0, [], 0, 0, 0),
  (1, .iconst 2, 2, [], 0, [], 0, 0, 2),
  (2, .iconst 4, 3, [], 0, [], 0, 0, 4),
  (3, .invokestatic 85, 6, [], 33, [], 3, 150, 0),
  (6, .ireturn, 7, [], 0, [], 0, 0, 0)]
def t_M_isTorn : List (Nat × TE) := [
  (0, .iconst 0, 1, [], 0, [], 0, 0, 0),
  (1, .istore_n 2, 2, [], 0, [], 0, 0, 0),
  (2, .sipush 600, 5, [], 0, [], 0, 0, 600),
  (5, .iload_n 1, 6, [], 0, [], 0, 0, 0),
  (6, .imul, 7, [], 0, [], 0, 0, 0),
  (7, .istore_n 3, 8, [], 0, [], 0, 0, 0),
  (8, .iload_n 3, 9, [], 0, [], 0, 0, 0),
  (9, .sipush 600, 12, [], 0, [], 0, 0, 600),
  (12, .iload_n 1, 13, [], 0, [], 0, 0, 0),
  (13, .imul, 14, [], 0, [], 0, 0, 0),
  (14, .aload_n 0, 15, [], 0, [], 0, 0, 0),
  (15, .getfield 29, 18, [], 10, [], 7, 58, 0),
  (18, .iload_n 1, 19, [], 0, [], 0, 0, 0),
  (19, .iaload, 20, [], 0, [], 0, 0, 0),
  (20, .iadd, 21, [], 0, [], 0, 0, 0),
  (21, .if_icmp .ge 81, 24, [], 102, [], 0, 0, 0),
  (24, .aload_n 0, 25, [], 0, [], 0, 0, 0),
  (25, .getfield 17, 28, [], 10, [], 3, 54, 0),
  (28, .iload_n 3, 29, [], 0, [], 0, 0, 0),
  (29, .iaload, 30, [], 0, [], 0, 0, 0),
  (30, .iconst 2, 31, [], 0, [], 0, 0, 2),
  (31, .if_icmp .ne 25, 34, [], 56, [], 0, 0, 0),
  (34, .aload_n 0, 35, [], 0, [], 0, 0, 0),
  (35, .getfield 32, 38, [], 10, [], 9, 59, 0),
  (38, .iload_n 2, 39, [], 0, [], 0, 0, 0),
  (39, .aload_n 0, 40, [], 0, [], 0, 0, 0),
  (40, .getfield 8, 43, [], 10, [], 1, 52, 0),
  (43, .aload_n 0, 44, [], 0, [], 0, 0, 0),
  (44, .iload_n 3, 45, [], 0, [], 0, 0, 0),
  (45, .invokevirtual 119, 48, [], 40, [], 1, 154, 0),
  (48, .iaload, 49, [], 0, [], 0, 0, 0),
  (49, .iastore, 50, [], 0, [], 0, 0, 0),
  (50, .iinc 2 1, 53, [], 0, [], 0, 0, 1),
  (53, .goto 43, 56, [], 96, [], 0, 0, 0),
  (56, .aload_n 0, 57, [], 0, [], 0, 0, 0),
  (57, .getfield 17, 60, [], 10, [], 3, 54, 0),
  (60, .iload_n 3, 61, [], 0, [], 0, 0, 0),
  (61, .iaload, 62, [], 0, [], 0, 0, 0),
  (62, .iconst 3, 63, [], 0, [], 0, 0, 3),
  (63, .if_icmp .ne 33, 66, [], 96, [], 0, 0, 0),
  (66, .iload_n 2, 67, [], 0, [], 0, 0, 0),
  (67, .ifCond .eq 24, 70, [], 91, [0, 1, 2, 3], 0, 0, 0),
  (70, .aload_n 0, 71, [], 0, [], 0, 0, 0),
  (71, .getfield 32, 74, [], 10, [], 9, 59, 0),
  (74, .iload_n 2, 75, [], 0, [], 0, 0, 0),
  (75, .iconst 1, 76, [], 0, [], 0, 0, 1),
  (76, .isub, 77, [], 0, [], 0, 0, 0),
  (77, .iaload, 78, [], 0, [], 0, 0, 0),
  (78, .aload_n 0, 79, [], 0, [], 0, 0, 0),
  (79, .getfield 8, 82, [], 10, [], 1, 52, 0),
  (82, .aload_n 0, 83, [], 0, [], 0, 0, 0),
  (83, .iload_n 3, 84, [], 0, [], 0, 0, 0),
  (84, .invokevirtual 119, 87, [], 40, [], 1, 154, 0),
  (87, .iaload, 88, [], 0, [], 0, 0, 0),
  (88, .if_icmp .eq 5, 91, [0, 1, 2, 3], 93, [], 0, 0, 0),
  (91, .iconst 1, 92, [], 0, [], 0, 0, 1),
  (92, .ireturn, 93, [], 0, [], 0, 0, 0),
  (93, .iinc 2 (-1), 96, [], 0, [], 0, 0, -1),
  (96, .iinc 3 1, 99, [], 0, [], 0, 0, 1),
  (99, .goto (-91), 102, [], 8, [], 0, 0, 0),
  (102, .iload_n 2, 103, [], 0, [], 0, 0, 0),
  (103, .ifCond .le 7, 106, [], 110, [], 0, 0, 0),
  (106, .iconst 1, 107, [], 0, [], 0, 0, 1),
  (107, .goto 4, 110, [], 111, [0, 1, 2, 3], 0, 0, 0),
  (110, .iconst 0, 111, [0, 1, 2, 3], 0, [], 0, 0, 0),
  (111, .ireturn, 112, [], 0, [], 0, 0, 0)]
def t_M_alike : List (Nat × TE) := [
  (0, .iload_n 2, 1, [], 0, [], 0, 0, 0),
  (1, .iload 4, 3, [], 0, [], 0, 0, 0),
  (3, .if_icmp .ne 7, 6, [], 10, [], 0, 0, 0),
  (6, .iconst 1, 7, [], 0, [], 0, 0, 1),
  (7, .goto 4, 10, [], 11, [4, 5, 6], 0, 0, 0),
  (10, .iconst 0, 11, [4, 5, 6], 0, [], 0, 0, 0),
  (11, .istore 5, 13, [], 0, [], 0, 0, 0),
  (13, .iconst 0, 14, [], 0, [], 0, 0, 0),
  (14, .istore 6, 16, [4], 0, [], 0, 0, 0),
  (16, .iload 6, 18, [], 0, [], 0, 0, 0),
  (18, .iload_n 2, 19, [], 0, [], 0, 0, 0),
  (19, .if_icmp .ge 48, 22, [], 67, [0, 1, 2, 3, 4, 6], 0, 0, 0),
  (22, .iload 5, 24, [], 0, [], 0, 0, 0),
  (24, .ifCond .eq 43, 27, [], 67, [0, 1, 2, 3, 4, 6], 0, 0, 0),
  (27, .aload_n 0, 28, [], 0, [], 0, 0, 0),
  (28, .getfield 8, 31, [], 10, [], 1, 52, 0),
  (31, .iload_n 1, 32, [], 0, [], 0, 0, 0),
  (32, .iload 6, 34, [], 0, [], 0, 0, 0),
  (34, .iadd, 35, [], 0, [], 0, 0, 0),
  (35, .iaload, 36, [], 0, [], 0, 0, 0),
  (36, .invokestatic 122, 39, [], 38, [], 1, 155, 0),
  (39, .aload_n 0, 40, [], 0, [], 0, 0, 0),
  (40, .getfield 8, 43, [], 10, [], 1, 52, 0),
  (43, .iload_n 3, 44, [], 0, [], 0, 0, 0),
  (44, .iload 6, 46, [], 0, [], 0, 0, 0),
  (46, .iadd, 47, [], 0, [], 0, 0, 0),
  (47, .iaload, 48, [], 0, [], 0, 0, 0),
  (48, .invokestatic 122, 51, [], 38, [], 1, 155, 0),
  (51, .if_icmp .ne 7, 54, [], 58, [], 0, 0, 0),
  (54, .iconst 1, 55, [], 0, [], 0, 0, 1),
  (55, .goto 4, 58, [], 59, [4, 5], 0, 0, 0),
  (58, .iconst 0, 59, [4, 5], 0, [], 0, 0, 0),
  (59, .istore 5, 61, [], 0, [], 0, 0, 0),
  (61, .iinc 6 1, 64, [], 0, [], 0, 0, 1),
  (64, .goto (-48), 67, [0, 1, 2, 3, 4, 6], 16, [4], 0, 0, 0),
  (67, .iload 5, 69, [], 0, [], 0, 0, 0),
  (69, .ireturn, 70, [], 0, [], 0, 0, 0)]
def t_M_isWord : List (Nat × TE) := [
  (0, .iload_n 2, 1, [], 0, [], 0, 0, 0),
  (1, .iconst 1, 2, [], 0, [], 0, 0, 1),
  (2, .bipush 8, 4, [], 0, [], 0, 0, 8),
  (4, .invokestatic 85, 7, [], 33, [], 3, 150, 0),
  (7, .istore_n 3, 8, [], 0, [], 0, 0, 0),
  (8, .iload_n 1, 9, [], 0, [], 0, 0, 0),
  (9, .istore 4, 11, [], 0, [], 0, 0, 0),
  (11, .iload 4, 13, [], 0, [], 0, 0, 0),
  (13, .iload_n 1, 14, [], 0, [], 0, 0, 0),
  (14, .iload_n 2, 15, [], 0, [], 0, 0, 0),
  (15, .iadd, 16, [], 0, [], 0, 0, 0),
  (16, .if_icmp .ge 24, 19, [], 40, [0, 1, 2, 4], 0, 0, 0),
  (19, .iload_n 3, 20, [], 0, [], 0, 0, 0),
  (20, .ifCond .eq 20, 23, [], 40, [0, 1, 2, 4], 0, 0, 0),
  (23, .aload_n 0, 24, [], 0, [], 0, 0, 0),
  (24, .getfield 8, 27, [], 10, [], 1, 52, 0),
  (27, .iload 4, 29, [], 0, [], 0, 0, 0),
  (29, .iaload, 30, [], 0, [], 0, 0, 0),
  (30, .invokestatic 105, 33, [], 37, [], 1, 156, 0),
  (33, .istore_n 3, 34, [], 0, [], 0, 0, 0),
  (34, .iinc 4 1, 37, [], 0, [], 0, 0, 1),
  (37, .goto (-26), 40, [0, 1, 2, 4], 11, [], 0, 0, 0),
  (40, .iload_n 3, 41, [], 0, [], 0, 0, 0),
  (41, .ireturn, 42, [], 0, [], 0, 0, 0)]
def t_M_isThat : List (Nat × TE) := [
  (0, .aload_n 0, 1, [], 0, [], 0, 0, 0),
  (1, .getfield 17, 4, [], 10, [], 3, 54, 0),
  (4, .iload_n 1, 5, [], 0, [], 0, 0, 0),
  (5, .iaload, 6, [], 0, [], 0, 0, 0),
  (6, .ifCond .ne 22, 9, [], 28, [3, 4], 0, 0, 0),
  (9, .aload_n 0, 10, [], 0, [], 0, 0, 0),
  (10, .getfield 23, 13, [], 10, [], 5, 56, 0),
  (13, .iload_n 1, 14, [], 0, [], 0, 0, 0),
  (14, .iaload, 15, [], 0, [], 0, 0, 0),
  (15, .aload_n 0, 16, [], 0, [], 0, 0, 0),
  (16, .getfield 38, 19, [], 10, [], 11, 61, 0),
  (19, .iload_n 2, 20, [], 0, [], 0, 0, 0),
  (20, .iaload, 21, [], 0, [], 0, 0, 0),
  (21, .if_icmp .ne 7, 24, [], 28, [3, 4], 0, 0, 0),
  (24, .iconst 1, 25, [], 0, [], 0, 0, 1),
  (25, .goto 4, 28, [3, 4], 29, [3, 4], 0, 0, 0),
  (28, .iconst 0, 29, [3, 4], 0, [], 0, 0, 0),
  (29, .istore_n 3, 30, [], 0, [], 0, 0, 0),
  (30, .iconst 0, 31, [], 0, [], 0, 0, 0),
  (31, .istore 4, 33, [], 0, [], 0, 0, 0),
  (33, .iload 4, 35, [], 0, [], 0, 0, 0),
  (35, .aload_n 0, 36, [], 0, [], 0, 0, 0),
  (36, .getfield 38, 39, [], 10, [], 11, 61, 0),
  (39, .iload_n 2, 40, [], 0, [], 0, 0, 0),
  (40, .iaload, 41, [], 0, [], 0, 0, 0),
  (41, .if_icmp .ge 54, 44, [], 95, [0, 1, 2, 4], 0, 0, 0),
  (44, .iload_n 3, 45, [], 0, [], 0, 0, 0),
  (45, .ifCond .eq 50, 48, [], 95, [0, 1, 2, 4], 0, 0, 0),
  (48, .aload_n 0, 49, [], 0, [], 0, 0, 0),
  (49, .getfield 8, 52, [], 10, [], 1, 52, 0),
  (52, .aload_n 0, 53, [], 0, [], 0, 0, 0),
  (53, .getfield 20, 56, [], 10, [], 4, 55, 0),
  (56, .iload_n 1, 57, [], 0, [], 0, 0, 0),
  (57, .iaload, 58, [], 0, [], 0, 0, 0),
  (58, .iload 4, 60, [], 0, [], 0, 0, 0),
  (60, .iadd, 61, [], 0, [], 0, 0, 0),
  (61, .iaload, 62, [], 0, [], 0, 0, 0),
  (62, .invokestatic 122, 65, [], 38, [], 1, 155, 0),
  (65, .aload_n 0, 66, [], 0, [], 0, 0, 0),
  (66, .getfield 35, 69, [], 10, [], 10, 60, 0),
  (69, .bipush 8, 71, [], 0, [], 0, 0, 8),
  (71, .iload_n 2, 72, [], 0, [], 0, 0, 0),
  (72, .imul, 73, [], 0, [], 0, 0, 0),
  (73, .iload 4, 75, [], 0, [], 0, 0, 0),
  (75, .iadd, 76, [], 0, [], 0, 0, 0),
  (76, .iaload, 77, [], 0, [], 0, 0, 0),
  (77, .invokestatic 122, 80, [], 38, [], 1, 155, 0),
  (80, .if_icmp .ne 7, 83, [], 87, [], 0, 0, 0),
  (83, .iconst 1, 84, [], 0, [], 0, 0, 1),
  (84, .goto 4, 87, [], 88, [3], 0, 0, 0),
  (87, .iconst 0, 88, [3], 0, [], 0, 0, 0),
  (88, .istore_n 3, 89, [], 0, [], 0, 0, 0),
  (89, .iinc 4 1, 92, [], 0, [], 0, 0, 1),
  (92, .goto (-59), 95, [0, 1, 2, 4], 33, [], 0, 0, 0),
  (95, .iload_n 3, 96, [], 0, [], 0, 0, 0),
  (96, .ireturn, 97, [], 0, [], 0, 0, 0)]
def t_M_isSegment : List (Nat × TE) := [
  (0, .iload_n 1, 1, [], 0, [], 0, 0, 0),
  (1, .iconst 0, 2, [], 0, [], 0, 0, 0),
  (2, .aload_n 0, 3, [], 0, [], 0, 0, 0),
  (3, .getfield 151, 6, [], 10, [], 15, 78, 0),
  (6, .iconst 1, 7, [], 0, [], 0, 0, 1),
  (7, .isub, 8, [], 0, [], 0, 0, 0),
  (8, .invokestatic 85, 11, [], 33, [], 3, 150, 0),
  (11, .ireturn, 12, [], 0, [], 0, 0, 0)]
def t_M_isPair : List (Nat × TE) := [
  (0, .iload_n 1, 1, [], 0, [], 0, 0, 0),
  (1, .iconst 0, 2, [], 0, [], 0, 0, 0),
  (2, .aload_n 0, 3, [], 0, [], 0, 0, 0),
  (3, .getfield 167, 6, [], 10, [], 19, 79, 0),
  (6, .iconst 1, 7, [], 0, [], 0, 0, 1),
  (7, .isub, 8, [], 0, [], 0, 0, 0),
  (8, .invokestatic 85, 11, [], 33, [], 3, 150, 0),
  (11, .ireturn, 12, [], 0, [], 0, 0, 0)]
def t_M_comes : List (Nat × TE) := [
  (0, .aload_n 0, 1, [], 0, [], 0, 0, 0),
  (1, .iconst 0, 2, [], 0, [], 0, 0, 0),
  (2, .aload_n 0, 3, [], 0, [], 0, 0, 0),
  (3, .getfield 14, 6, [], 10, [], 2, 53, 0),
  (6, .iconst 0, 7, [], 0, [], 0, 0, 0),
  (7, .iaload, 8, [], 0, [], 0, 0, 0),
  (8, .bipush 22, 10, [], 0, [], 0, 0, 22),
  (10, .aload_n 0, 11, [], 0, [], 0, 0, 0),
  (11, .getfield 170, 14, [], 10, [], 20, 80, 0),
  (14, .iadd, 15, [], 0, [], 0, 0, 0),
  (15, .invokevirtual 148, 18, [], 34, [], 3, 157, 0),
  (18, .aload_n 0, 19, [], 0, [], 0, 0, 0),
  (19, .getfield 14, 22, [], 10, [], 2, 53, 0),
  (22, .iconst 0, 23, [], 0, [], 0, 0, 0),
  (23, .iconst 0, 24, [], 0, [], 0, 0, 0),
  (24, .iastore, 25, [], 0, [], 0, 0, 0),
  (25, .aload_n 0, 26, [], 0, [], 0, 0, 0),
  (26, .getfield 50, 29, [], 10, [], 21, 65, 0),
  (29, .aload_n 0, 30, [], 0, [], 0, 0, 0),
  (30, .getfield 170, 33, [], 10, [], 20, 80, 0),
  (33, .iload_n 1, 34, [], 0, [], 0, 0, 0),
  (34, .iastore, 35, [], 0, [], 0, 0, 0),
  (35, .aload_n 0, 36, [], 0, [], 0, 0, 0),
  (36, .getfield 53, 39, [], 10, [], 22, 66, 0),
  (39, .aload_n 0, 40, [], 0, [], 0, 0, 0),
  (40, .getfield 170, 43, [], 10, [], 20, 80, 0),
  (43, .iload_n 2, 44, [], 0, [], 0, 0, 0),
  (44, .iastore, 45, [], 0, [], 0, 0, 0),
  (45, .aload_n 0, 46, [], 0, [], 0, 0, 0),
  (46, .dup, 47, [], 0, [], 0, 0, 0),
  (47, .getfield 170, 50, [], 10, [], 20, 80, 0),
  (50, .iconst 1, 51, [], 0, [], 0, 0, 1),
  (51, .iadd, 52, [], 0, [], 0, 0, 0),
  (52, .putfield 170, 55, [], 10, [], 20, 80, 0),
  (55, .return_, 56, [], 0, [], 0, 0, 0)]
def t_M_undo : List (Nat × TE) := [
  (0, .aload_n 0, 1, [], 0, [], 0, 0, 0),
  (1, .getfield 170, 4, [], 10, [], 20, 80, 0),
  (4, .ifCond .ne 6, 7, [], 10, [], 0, 0, 0),
  (7, .bipush (-4), 9, [], 0, [], 0, 0, -4),
  (9, .ireturn, 10, [], 0, [], 0, 0, 0),
  (10, .aload_n 0, 11, [], 0, [], 0, 0, 0),
  (11, .dup, 12, [], 0, [], 0, 0, 0),
  (12, .getfield 170, 15, [], 10, [], 20, 80, 0),
  (15, .iconst 1, 16, [], 0, [], 0, 0, 1),
  (16, .isub, 17, [], 0, [], 0, 0, 0),
  (17, .putfield 170, 20, [], 10, [], 20, 80, 0),
  (20, .aload_n 0, 21, [], 0, [], 0, 0, 0),
  (21, .getfield 50, 24, [], 10, [], 21, 65, 0),
  (24, .aload_n 0, 25, [], 0, [], 0, 0, 0),
  (25, .getfield 170, 28, [], 10, [], 20, 80, 0),
  (28, .iaload, 29, [], 0, [], 0, 0, 0),
  (29, .istore_n 1, 30, [], 0, [], 0, 0, 0),
  (30, .aload_n 0, 31, [], 0, [], 0, 0, 0),
  (31, .iload_n 1, 32, [], 0, [], 0, 0, 0),
  (32, .aload_n 0, 33, [], 0, [], 0, 0, 0),
  (33, .getfield 170, 36, [], 10, [], 20, 80, 0),
  (36, .invokevirtual 182, 39, [], 44, [], 2, 158, 0),
  (39, .iconst (-1), 40, [], 0, [], 0, 0, -1),
  (40, .if_icmp .ne 13, 43, [], 53, [0], 0, 0, 0),
  (43, .aload_n 0, 44, [], 0, [], 0, 0, 0),
  (44, .dup, 45, [], 0, [], 0, 0, 0),
  (45, .getfield 167, 48, [], 10, [], 19, 79, 0),
  (48, .iconst 1, 49, [], 0, [], 0, 0, 1),
  (49, .isub, 50, [], 0, [], 0, 0, 0),
  (50, .putfield 167, 53, [0], 10, [], 19, 79, 0),
  (53, .iload_n 1, 54, [], 0, [], 0, 0, 0),
  (54, .ireturn, 55, [], 0, [], 0, 0, 0)]
def t_M_step2 : List (Nat × TE) := [
  (0, .iload_n 1, 1, [], 0, [], 0, 0, 0),
  (1, .iconst 0, 2, [], 0, [], 0, 0, 0),
  (2, .aload_n 0, 3, [], 0, [], 0, 0, 0),
  (3, .getfield 216, 6, [], 10, [], 28, 76, 0),
  (6, .iconst 1, 7, [], 0, [], 0, 0, 1),
  (7, .isub, 8, [], 0, [], 0, 0, 0),
  (8, .invokestatic 85, 11, [], 33, [], 3, 150, 0),
  (11, .ifCond .eq 48, 14, [], 59, [], 0, 0, 0),
  (14, .iload_n 2, 15, [], 0, [], 0, 0, 0),
  (15, .ifCond .ne 12, 18, [], 27, [], 0, 0, 0),
  (18, .aload_n 0, 19, [], 0, [], 0, 0, 0),
  (19, .getfield 62, 22, [], 10, [], 25, 69, 0),
  (22, .iload_n 1, 23, [], 0, [], 0, 0, 0),
  (23, .iaload, 24, [], 0, [], 0, 0, 0),
  (24, .goto 36, 27, [], 60, [0, 1, 2], 0, 0, 0),
  (27, .iload_n 2, 28, [], 0, [], 0, 0, 0),
  (28, .iconst 1, 29, [], 0, [], 0, 0, 1),
  (29, .if_icmp .ne 12, 32, [], 41, [], 0, 0, 0),
  (32, .aload_n 0, 33, [], 0, [], 0, 0, 0),
  (33, .getfield 65, 36, [], 10, [], 26, 70, 0),
  (36, .iload_n 1, 37, [], 0, [], 0, 0, 0),
  (37, .iaload, 38, [], 0, [], 0, 0, 0),
  (38, .goto 22, 41, [], 60, [0, 1, 2], 0, 0, 0),
  (41, .iload_n 2, 42, [], 0, [], 0, 0, 0),
  (42, .iconst 2, 43, [], 0, [], 0, 0, 2),
  (43, .if_icmp .ne 12, 46, [], 55, [], 0, 0, 0),
  (46, .aload_n 0, 47, [], 0, [], 0, 0, 0),
  (47, .getfield 68, 50, [], 10, [], 27, 71, 0),
  (50, .iload_n 1, 51, [], 0, [], 0, 0, 0),
  (51, .iaload, 52, [], 0, [], 0, 0, 0),
  (52, .goto 8, 55, [], 60, [0, 1, 2], 0, 0, 0),
  (55, .iconst (-1), 56, [], 0, [], 0, 0, -1),
  (56, .goto 4, 59, [], 60, [0, 1, 2], 0, 0, 0),
  (59, .iconst (-1), 60, [0, 1, 2], 0, [], 0, 0, -1),
  (60, .ireturn, 61, [], 0, [], 0, 0, 0)]
def t_Ladder_leastSum : List (Nat × TE) := [
  (0, .aload_n 1, 1, [], 0, [], 0, 0, 0),
  (1, .getfield 24, 4, [], 6, [], 7, 159, 0),
  (4, .istore_n 3, 5, [4, 5, 6, 7], 0, [], 0, 0, 0),
  (5, .iload_n 3, 6, [], 0, [], 0, 0, 0),
  (6, .ifCond .lt 191, 9, [], 197, [], 0, 0, 0),
  (9, .aload_n 2, 10, [], 0, [], 0, 0, 0),
  (10, .getfield 24, 13, [], 6, [], 7, 159, 0),
  (13, .istore 4, 15, [5, 6, 7], 0, [], 0, 0, 0),
  (15, .iload 4, 17, [], 0, [], 0, 0, 0),
  (17, .ifCond .lt 174, 20, [], 191, [], 0, 0, 0),
  (20, .iload_n 3, 21, [], 0, [], 0, 0, 0),
  (21, .aload_n 1, 22, [], 0, [], 0, 0, 0),
  (22, .getfield 24, 25, [], 6, [], 7, 159, 0),
  (25, .if_icmp .ge 7, 28, [], 32, [], 0, 0, 0),
  (28, .iconst 1, 29, [], 0, [], 0, 0, 1),
  (29, .goto 4, 32, [], 33, [5, 6, 7], 0, 0, 0),
  (32, .iconst 0, 33, [5, 6, 7], 0, [], 0, 0, 0),
  (33, .istore 5, 35, [], 0, [], 0, 0, 0),
  (35, .iload 4, 37, [], 0, [], 0, 0, 0),
  (37, .aload_n 2, 38, [], 0, [], 0, 0, 0),
  (38, .getfield 24, 41, [], 6, [], 7, 159, 0),
  (41, .if_icmp .ge 7, 44, [], 48, [], 0, 0, 0),
  (44, .iconst 1, 45, [], 0, [], 0, 0, 1),
  (45, .goto 4, 48, [], 49, [6, 7], 0, 0, 0),
  (48, .iconst 0, 49, [6, 7], 0, [], 0, 0, 0),
  (49, .istore 6, 51, [], 0, [], 0, 0, 0),
  (51, .iload 5, 53, [], 0, [], 0, 0, 0),
  (53, .ifCond .ne 8, 56, [], 61, [7], 0, 0, 0),
  (56, .iload 6, 58, [], 0, [], 0, 0, 0),
  (58, .ifCond .eq 8, 61, [7], 66, [], 0, 0, 0),
  (61, .ldc 30, 63, [], 1000000, [], 0, 160, 1000000),
  (63, .goto 4, 66, [], 67, [7], 0, 0, 0),
  (66, .iconst 0, 67, [7], 0, [], 0, 0, 0),
  (67, .istore 7, 69, [], 0, [], 0, 0, 0),
  (69, .iload 5, 71, [], 0, [], 0, 0, 0),
  (71, .ifCond .eq 35, 74, [], 106, [], 0, 0, 0),
  (74, .iload 6, 76, [], 0, [], 0, 0, 0),
  (76, .ifCond .eq 30, 79, [], 106, [], 0, 0, 0),
  (79, .aload_n 1, 80, [], 0, [], 0, 0, 0),
  (80, .iload_n 3, 81, [], 0, [], 0, 0, 0),
  (81, .aload_n 2, 82, [], 0, [], 0, 0, 0),
  (82, .iload 4, 84, [], 0, [], 0, 0, 0),
  (84, .invokevirtual 31, 87, [], 62, [], 3, 161, 0),
  (87, .aload_n 0, 88, [], 0, [], 0, 0, 0),
  (88, .getfield 11, 91, [], 1, [], 0, 1, 0),
  (91, .iload_n 3, 92, [], 0, [], 0, 0, 0),
  (92, .iconst 1, 93, [], 0, [], 0, 0, 1),
  (93, .iadd, 94, [], 0, [], 0, 0, 0),
  (94, .bipush 21, 96, [], 0, [], 0, 0, 21),
  (96, .imul, 97, [], 0, [], 0, 0, 0),
  (97, .iload 4, 99, [], 0, [], 0, 0, 0),
  (99, .iadd, 100, [], 0, [], 0, 0, 0),
  (100, .iconst 1, 101, [], 0, [], 0, 0, 1),
  (101, .iadd, 102, [], 0, [], 0, 0, 0),
  (102, .iaload, 103, [], 0, [], 0, 0, 0),
  (103, .iadd, 104, [], 0, [], 0, 0, 0),
  (104, .istore 7, 106, [], 0, [], 0, 0, 0),
  (106, .iload 5, 108, [], 0, [], 0, 0, 0),
  (108, .ifCond .eq 30, 111, [], 138, [5], 0, 0, 0),
  (111, .iload 7, 113, [], 0, [], 0, 0, 0),
  (113, .aload_n 1, 114, [], 0, [], 0, 0, 0),
  (114, .iload_n 3, 115, [], 0, [], 0, 0, 0),
  (115, .invokevirtual 35, 118, [], 63, [], 1, 162, 0),
  (118, .aload_n 0, 119, [], 0, [], 0, 0, 0),
  (119, .getfield 11, 122, [], 1, [], 0, 1, 0),
  (122, .iload_n 3, 123, [], 0, [], 0, 0, 0),
  (123, .iconst 1, 124, [], 0, [], 0, 0, 1),
  (124, .iadd, 125, [], 0, [], 0, 0, 0),
  (125, .bipush 21, 127, [], 0, [], 0, 0, 21),
  (127, .imul, 128, [], 0, [], 0, 0, 0),
  (128, .iload 4, 130, [], 0, [], 0, 0, 0),
  (130, .iadd, 131, [], 0, [], 0, 0, 0),
  (131, .iaload, 132, [], 0, [], 0, 0, 0),
  (132, .iadd, 133, [], 0, [], 0, 0, 0),
  (133, .invokestatic 39, 136, [], 1003, [], 0, 163, 0),
  (136, .istore 7, 138, [5], 0, [], 0, 0, 0),
  (138, .iload 6, 140, [], 0, [], 0, 0, 0),
  (140, .ifCond .eq 31, 143, [], 171, [5, 6], 0, 0, 0),
  (143, .iload 7, 145, [], 0, [], 0, 0, 0),
  (145, .aload_n 2, 146, [], 0, [], 0, 0, 0),
  (146, .iload 4, 148, [], 0, [], 0, 0, 0),
  (148, .invokevirtual 35, 151, [], 63, [], 1, 162, 0),
  (151, .aload_n 0, 152, [], 0, [], 0, 0, 0),
  (152, .getfield 11, 155, [], 1, [], 0, 1, 0),
  (155, .iload_n 3, 156, [], 0, [], 0, 0, 0),
  (156, .bipush 21, 158, [], 0, [], 0, 0, 21),
  (158, .imul, 159, [], 0, [], 0, 0, 0),
  (159, .iload 4, 161, [], 0, [], 0, 0, 0),
  (161, .iadd, 162, [], 0, [], 0, 0, 0),
  (162, .iconst 1, 163, [], 0, [], 0, 0, 1),
  (163, .iadd, 164, [], 0, [], 0, 0, 0),
  (164, .iaload, 165, [], 0, [], 0, 0, 0),
  (165, .iadd, 166, [], 0, [], 0, 0, 0),
  (166, .invokestatic 39, 169, [], 1003, [], 0, 163, 0),
  (169, .istore 7, 171, [5, 6], 0, [], 0, 0, 0),
  (171, .aload_n 0, 172, [], 0, [], 0, 0, 0),
  (172, .getfield 11, 175, [], 1, [], 0, 1, 0),
  (175, .iload_n 3, 176, [], 0, [], 0, 0, 0),
  (176, .bipush 21, 178, [], 0, [], 0, 0, 21),
  (178, .imul, 179, [], 0, [], 0, 0, 0),
  (179, .iload 4, 181, [], 0, [], 0, 0, 0),
  (181, .iadd, 182, [], 0, [], 0, 0, 0),
  (182, .iload 7, 184, [], 0, [], 0, 0, 0),
  (184, .iastore, 185, [], 0, [], 0, 0, 0),
  (185, .iinc 4 (-1), 188, [], 0, [], 0, 0, -1),
  (188, .goto (-173), 191, [], 15, [5, 6, 7], 0, 0, 0),
  (191, .iinc 3 (-1), 194, [], 0, [], 0, 0, -1),
  (194, .goto (-189), 197, [], 5, [4, 5, 6, 7], 0, 0, 0),
  (197, .aload_n 0, 198, [], 0, [], 0, 0, 0),
  (198, .getfield 11, 201, [], 1, [], 0, 1, 0),
  (201, .iconst 0, 202, [], 0, [], 0, 0, 0),
  (202, .iaload, 203, [], 0, [], 0, 0, 0),
  (203, .ireturn, 204, [], 0, [], 0, 0, 0)]
def t_Near_init : List (Nat × TE) := [
  (0, .aload_n 0, 1, [], 0, [], 0, 0, 0),
  (1, .invokespecial 3, 4, [], 1000, [], 0, 164, 0),
  (4, .aload_n 0, 5, [], 0, [], 0, 0, 0),
  (5, .sipush 480, 8, [], 0, [], 0, 0, 480),
  (8, .newarray .int, 10, [], 0, [], 100, 0, 0),
  (10, .putfield 9, 13, [], 3, [], 0, 9, 0),
  (13, .aload_n 0, 14, [], 0, [], 0, 0, 0),
  (14, .aload_n 1, 15, [], 0, [], 0, 0, 0),
  (15, .putfield 15, 18, [], 3, [], 1, 165, 0),
  (18, .aload_n 0, 19, [], 0, [], 0, 0, 0),
  (19, .invokevirtual 19, 22, [], 55, [], 0, 166, 0),
  (22, .return_, 23, [], 0, [], 0, 0, 0)]
def t_Nest_isTorn : List (Nat × TE) := [
  (0, .iconst 0, 1, [], 0, [], 0, 0, 0),
  (1, .istore_n 2, 2, [], 0, [], 0, 0, 0),
  (2, .iconst 0, 3, [], 0, [], 0, 0, 0),
  (3, .istore_n 3, 4, [], 0, [], 0, 0, 0),
  (4, .iload_n 3, 5, [], 0, [], 0, 0, 0),
  (5, .aload_n 1, 6, [], 0, [], 0, 0, 0),
  (6, .getfield 15, 9, [], 6, [], 7, 167, 0),
  (9, .if_icmp .ge 80, 12, [], 89, [], 0, 0, 0),
  (12, .aload_n 1, 13, [], 0, [], 0, 0, 0),
  (13, .getfield 21, 16, [], 6, [], 0, 168, 0),
  (16, .iload_n 3, 17, [], 0, [], 0, 0, 0),
  (17, .iaload, 18, [], 0, [], 0, 0, 0),
  (18, .iconst 2, 19, [], 0, [], 0, 0, 2),
  (19, .if_icmp .ne 29, 22, [], 48, [], 0, 0, 0),
  (22, .iload_n 2, 23, [], 0, [], 0, 0, 0),
  (23, .aload_n 0, 24, [], 0, [], 0, 0, 0),
  (24, .getfield 9, 27, [], 4, [], 0, 11, 0),
  (27, .arraylength, 28, [], 0, [], 0, 0, 0),
  (28, .if_icmp .ge 20, 31, [], 48, [], 0, 0, 0),
  (31, .aload_n 0, 32, [], 0, [], 0, 0, 0),
  (32, .getfield 9, 35, [], 4, [], 0, 11, 0),
  (35, .iload_n 2, 36, [], 0, [], 0, 0, 0),
  (36, .aload_n 1, 37, [], 0, [], 0, 0, 0),
  (37, .iload_n 3, 38, [], 0, [], 0, 0, 0),
  (38, .invokevirtual 24, 41, [], 60, [], 1, 169, 0),
  (41, .iastore, 42, [], 0, [], 0, 0, 0),
  (42, .iinc 2 1, 45, [], 0, [], 0, 0, 1),
  (45, .goto 38, 48, [], 83, [], 0, 0, 0),
  (48, .aload_n 1, 49, [], 0, [], 0, 0, 0),
  (49, .getfield 21, 52, [], 6, [], 0, 168, 0),
  (52, .iload_n 3, 53, [], 0, [], 0, 0, 0),
  (53, .iaload, 54, [], 0, [], 0, 0, 0),
  (54, .iconst 3, 55, [], 0, [], 0, 0, 3),
  (55, .if_icmp .ne 28, 58, [], 83, [], 0, 0, 0),
  (58, .iload_n 2, 59, [], 0, [], 0, 0, 0),
  (59, .ifCond .eq 19, 62, [], 78, [0, 1, 2, 3], 0, 0, 0),
  (62, .aload_n 0, 63, [], 0, [], 0, 0, 0),
  (63, .getfield 9, 66, [], 4, [], 0, 11, 0),
  (66, .iload_n 2, 67, [], 0, [], 0, 0, 0),
  (67, .iconst 1, 68, [], 0, [], 0, 0, 1),
  (68, .isub, 69, [], 0, [], 0, 0, 0),
  (69, .iaload, 70, [], 0, [], 0, 0, 0),
  (70, .aload_n 1, 71, [], 0, [], 0, 0, 0),
  (71, .iload_n 3, 72, [], 0, [], 0, 0, 0),
  (72, .invokevirtual 24, 75, [], 60, [], 1, 169, 0),
  (75, .if_icmp .eq 5, 78, [0, 1, 2, 3], 80, [], 0, 0, 0),
  (78, .iconst 1, 79, [], 0, [], 0, 0, 1),
  (79, .ireturn, 80, [], 0, [], 0, 0, 0),
  (80, .iinc 2 (-1), 83, [], 0, [], 0, 0, -1),
  (83, .iinc 3 1, 86, [], 0, [], 0, 0, 1),
  (86, .goto (-82), 89, [], 4, [], 0, 0, 0),
  (89, .iload_n 2, 90, [], 0, [], 0, 0, 0),
  (90, .ifCond .eq 7, 93, [], 97, [], 0, 0, 0),
  (93, .iconst 1, 94, [], 0, [], 0, 0, 1),
  (94, .goto 4, 97, [], 98, [0, 1, 2, 3], 0, 0, 0),
  (97, .iconst 0, 98, [0, 1, 2, 3], 0, [], 0, 0, 0),
  (98, .ireturn, 99, [], 0, [], 0, 0, 0)]
def t_Patch_matchDigits : List (Nat × TE) := [
  (0, .aload_n 0, 1, [], 0, [], 0, 0, 0),
  (1, .getfield 20, 4, [], 5, [], 1, 116, 0),
  (4, .iconst (-1), 5, [], 0, [], 0, 0, -1),
  (5, .invokestatic 82, 8, [], 49, [], 2, 170, 0),
  (8, .iconst 0, 9, [], 0, [], 0, 0, 0),
  (9, .istore_n 3, 10, [4, 5], 0, [], 0, 0, 0),
  (10, .iload_n 3, 11, [], 0, [], 0, 0, 0),
  (11, .aload_n 1, 12, [], 0, [], 0, 0, 0),
  (12, .getfield 44, 15, [], 6, [], 7, 13, 0),
  (15, .if_icmp .ge 65, 18, [], 80, [], 0, 0, 0),
  (18, .aload_n 1, 19, [], 0, [], 0, 0, 0),
  (19, .iload_n 3, 20, [], 0, [], 0, 0, 0),
  (20, .invokevirtual 47, 23, [], 12, [], 1, 171, 0),
  (23, .ifCond .eq 51, 26, [], 74, [4, 5], 0, 0, 0),
  (26, .aload_n 1, 27, [], 0, [], 0, 0, 0),
  (27, .iload_n 3, 28, [], 0, [], 0, 0, 0),
  (28, .invokevirtual 88, 31, [], 60, [], 1, 172, 0),
  (31, .istore 4, 33, [], 0, [], 0, 0, 0),
  (33, .aload_n 2, 34, [], 0, [], 0, 0, 0),
  (34, .iload_n 3, 35, [], 0, [], 0, 0, 0),
  (35, .invokevirtual 88, 38, [], 60, [], 1, 172, 0),
  (38, .istore 5, 40, [], 0, [], 0, 0, 0),
  (40, .aload_n 0, 41, [], 0, [], 0, 0, 0),
  (41, .getfield 20, 44, [], 5, [], 1, 116, 0),
  (44, .iload 4, 46, [], 0, [], 0, 0, 0),
  (46, .iaload, 47, [], 0, [], 0, 0, 0),
  (47, .iconst (-1), 48, [], 0, [], 0, 0, -1),
  (48, .if_icmp .eq 17, 51, [], 65, [], 0, 0, 0),
  (51, .aload_n 0, 52, [], 0, [], 0, 0, 0),
  (52, .getfield 20, 55, [], 5, [], 1, 116, 0),
  (55, .iload 4, 57, [], 0, [], 0, 0, 0),
  (57, .iaload, 58, [], 0, [], 0, 0, 0),
  (58, .iload 5, 60, [], 0, [], 0, 0, 0),
  (60, .if_icmp .eq 5, 63, [], 65, [], 0, 0, 0),
  (63, .iconst 0, 64, [], 0, [], 0, 0, 0),
  (64, .ireturn, 65, [], 0, [], 0, 0, 0),
  (65, .aload_n 0, 66, [], 0, [], 0, 0, 0),
  (66, .getfield 20, 69, [], 5, [], 1, 116, 0),
  (69, .iload 4, 71, [], 0, [], 0, 0, 0),
  (71, .iload 5, 73, [], 0, [], 0, 0, 0),
  (73, .iastore, 74, [4, 5], 0, [], 0, 0, 0),
  (74, .iinc 3 1, 77, [], 0, [], 0, 0, 1),
  (77, .goto (-67), 80, [], 10, [4, 5], 0, 0, 0),
  (80, .iconst 1, 81, [], 0, [], 0, 0, 1),
  (81, .ireturn, 82, [], 0, [], 0, 0, 0)]
def t_Patch_putMark : List (Nat × TE) := [
  (0, .aload_n 0, 1, [], 0, [], 0, 0, 0),
  (1, .getfield 20, 4, [], 5, [], 1, 116, 0),
  (4, .aload_n 1, 5, [], 0, [], 0, 0, 0),
  (5, .iload_n 2, 6, [], 0, [], 0, 0, 0),
  (6, .invokevirtual 88, 9, [], 60, [], 1, 172, 0),
  (9, .iaload, 10, [], 0, [], 0, 0, 0),
  (10, .istore_n 3, 11, [], 0, [], 0, 0, 0),
  (11, .iload_n 3, 12, [], 0, [], 0, 0, 0),
  (12, .iconst (-1), 13, [], 0, [], 0, 0, -1),
  (13, .if_icmp .ne 5, 16, [], 18, [], 0, 0, 0),
  (16, .iconst 0, 17, [], 0, [], 0, 0, 0),
  (17, .ireturn, 18, [], 0, [], 0, 0, 0),
  (18, .aload_n 1, 19, [], 0, [], 0, 0, 0),
  (19, .iload_n 2, 20, [], 0, [], 0, 0, 0),
  (20, .invokevirtual 98, 23, [], 13, [], 1, 173, 0),
  (23, .istore 4, 25, [], 0, [], 0, 0, 0),
  (25, .aload_n 0, 26, [], 0, [], 0, 0, 0),
  (26, .aload_n 1, 27, [], 0, [], 0, 0, 0),
  (27, .getfield 54, 30, [], 6, [], 3, 120, 0),
  (30, .aload_n 1, 31, [], 0, [], 0, 0, 0),
  (31, .getfield 57, 34, [], 6, [], 1, 121, 0),
  (34, .iload_n 2, 35, [], 0, [], 0, 0, 0),
  (35, .iaload, 36, [], 0, [], 0, 0, 0),
  (36, .iload 4, 38, [], 0, [], 0, 0, 0),
  (38, .invokevirtual 60, 41, [], 57, [], 3, 174, 0),
  (41, .aload_n 0, 42, [], 0, [], 0, 0, 0),
  (42, .getfield 16, 45, [], 5, [], 0, 115, 0),
  (45, .bipush 48, 47, [], 0, [], 0, 0, 48),
  (47, .iload_n 3, 48, [], 0, [], 0, 0, 0),
  (48, .iadd, 49, [], 0, [], 0, 0, 0),
  (49, .invokevirtual 95, 52, [], 20, [], 1, 118, 0),
  (52, .aload_n 0, 53, [], 0, [], 0, 0, 0),
  (53, .aload_n 1, 54, [], 0, [], 0, 0, 0),
  (54, .getfield 54, 57, [], 6, [], 3, 120, 0),
  (57, .iload 4, 59, [], 0, [], 0, 0, 0),
  (59, .iconst 1, 60, [], 0, [], 0, 0, 1),
  (60, .iadd, 61, [], 0, [], 0, 0, 0),
  (61, .aload_n 1, 62, [], 0, [], 0, 0, 0),
  (62, .getfield 57, 65, [], 6, [], 1, 121, 0),
  (65, .iload_n 2, 66, [], 0, [], 0, 0, 0),
  (66, .iaload, 67, [], 0, [], 0, 0, 0),
  (67, .aload_n 1, 68, [], 0, [], 0, 0, 0),
  (68, .getfield 64, 71, [], 6, [], 2, 119, 0),
  (71, .iload_n 2, 72, [], 0, [], 0, 0, 0),
  (72, .iaload, 73, [], 0, [], 0, 0, 0),
  (73, .iadd, 74, [], 0, [], 0, 0, 0),
  (74, .invokevirtual 60, 77, [], 57, [], 3, 174, 0),
  (77, .iconst 1, 78, [], 0, [], 0, 0, 1),
  (78, .ireturn, 79, [], 0, [], 0, 0, 0)]
def t_Patch_putNumber : List (Nat × TE) := [
  (0, .iconst 0, 1, [], 0, [], 0, 0, 0),
  (1, .istore 5, 3, [], 0, [], 0, 0, 0),
  (3, .iload 5, 5, [], 0, [], 0, 0, 0),
  (5, .aload_n 3, 6, [], 0, [], 0, 0, 0),
  (6, .getfield 44, 9, [], 6, [], 7, 13, 0),
  (9, .if_icmp .ge 59, 12, [], 68, [], 0, 0, 0),
  (12, .aload_n 3, 13, [], 0, [], 0, 0, 0),
  (13, .getfield 51, 16, [], 6, [], 0, 14, 0),
  (16, .iload 5, 18, [], 0, [], 0, 0, 0),
  (18, .iaload, 19, [], 0, [], 0, 0, 0),
  (19, .iconst 1, 20, [], 0, [], 0, 0, 1),
  (20, .if_icmp .ne 42, 23, [], 62, [], 0, 0, 0),
  (23, .aload_n 0, 24, [], 0, [], 0, 0, 0),
  (24, .getfield 24, 27, [], 5, [], 2, 12, 0),
  (27, .iload 5, 29, [], 0, [], 0, 0, 0),
  (29, .baload, 30, [], 0, [], 102, 0, 0),
  (30, .ifCond .ne 32, 33, [], 62, [], 0, 0, 0),
  (33, .aload_n 1, 34, [], 0, [], 0, 0, 0),
  (34, .iload_n 2, 35, [], 0, [], 0, 0, 0),
  (35, .aload_n 3, 36, [], 0, [], 0, 0, 0),
  (36, .iload 5, 38, [], 0, [], 0, 0, 0),
  (38, .invokestatic 101, 41, [], 58, [], 4, 175, 0),
  (41, .ifCond .eq 21, 44, [], 62, [], 0, 0, 0),
  (44, .aload_n 0, 45, [], 0, [], 0, 0, 0),
  (45, .getfield 24, 48, [], 5, [], 2, 12, 0),
  (48, .iload 5, 50, [], 0, [], 0, 0, 0),
  (50, .iconst 1, 51, [], 0, [], 0, 0, 1),
  (51, .bastore, 52, [], 0, [], 102, 0, 0),
  (52, .aload_n 0, 53, [], 0, [], 0, 0, 0),
  (53, .aload 4, 55, [], 0, [], 0, 0, 0),
  (55, .iload 5, 57, [], 0, [], 0, 0, 0),
  (57, .invokevirtual 105, 60, [], 59, [], 2, 176, 0),
  (60, .iconst 1, 61, [], 0, [], 0, 0, 1),
  (61, .ireturn, 62, [], 0, [], 0, 0, 0),
  (62, .iinc 5 1, 65, [], 0, [], 0, 0, 1),
  (65, .goto (-62), 68, [], 3, [], 0, 0, 0),
  (68, .iconst 0, 69, [], 0, [], 0, 0, 0),
  (69, .ireturn, 70, [], 0, [], 0, 0, 0)]
def t_Row_isLike : List (Nat × TE) := [
  (0, .aload_n 0, 1, [], 0, [], 0, 0, 0),
  (1, .getfield 41, 4, [], 6, [], 7, 22, 0),
  (4, .aload_n 1, 5, [], 0, [], 0, 0, 0),
  (5, .getfield 41, 8, [], 6, [], 7, 22, 0),
  (8, .if_icmp .eq 5, 11, [], 13, [], 0, 0, 0),
  (11, .iconst 0, 12, [], 0, [], 0, 0, 0),
  (12, .ireturn, 13, [], 0, [], 0, 0, 0),
  (13, .iconst 0, 14, [], 0, [], 0, 0, 0),
  (14, .istore_n 2, 15, [], 0, [], 0, 0, 0),
  (15, .iload_n 2, 16, [], 0, [], 0, 0, 0),
  (16, .aload_n 0, 17, [], 0, [], 0, 0, 0),
  (17, .getfield 41, 20, [], 6, [], 7, 22, 0),
  (20, .if_icmp .ge 20, 23, [], 40, [], 0, 0, 0),
  (23, .aload_n 0, 24, [], 0, [], 0, 0, 0),
  (24, .iload_n 2, 25, [], 0, [], 0, 0, 0),
  (25, .aload_n 1, 26, [], 0, [], 0, 0, 0),
  (26, .invokevirtual 74, 29, [], 61, [], 2, 177, 0),
  (29, .ifCond .ne 5, 32, [], 34, [], 0, 0, 0),
  (32, .iconst 0, 33, [], 0, [], 0, 0, 0),
  (33, .ireturn, 34, [], 0, [], 0, 0, 0),
  (34, .iinc 2 1, 37, [], 0, [], 0, 0, 1),
  (37, .goto (-22), 40, [], 15, [], 0, 0, 0),
  (40, .iconst 1, 41, [], 0, [], 0, 0, 1),
  (41, .ireturn, 42, [], 0, [], 0, 0, 0)]
def t_Row_timesOf : List (Nat × TE) := [
  (0, .iconst 0, 1, [], 0, [], 0, 0, 0),
  (1, .istore_n 3, 2, [], 0, [], 0, 0, 0),
  (2, .iconst 0, 3, [], 0, [], 0, 0, 0),
  (3, .istore 4, 5, [2], 0, [], 0, 0, 0),
  (5, .iload 4, 7, [], 0, [], 0, 0, 0),
  (7, .aload_n 0, 8, [], 0, [], 0, 0, 0),
  (8, .getfield 41, 11, [], 6, [], 7, 22, 0),
  (11, .if_icmp .ge 56, 14, [], 67, [], 0, 0, 0),
  (14, .aload_n 0, 15, [], 0, [], 0, 0, 0),
  (15, .getfield 21, 18, [], 6, [], 0, 18, 0),
  (18, .iload 4, 20, [], 0, [], 0, 0, 0),
  (20, .iaload, 21, [], 0, [], 0, 0, 0),
  (21, .ifCond .ne 40, 24, [], 61, [2], 0, 0, 0),
  (24, .aload_n 0, 25, [], 0, [], 0, 0, 0),
  (25, .getfield 9, 28, [], 6, [], 3, 16, 0),
  (28, .aload_n 0, 29, [], 0, [], 0, 0, 0),
  (29, .getfield 25, 32, [], 6, [], 1, 19, 0),
  (32, .iload 4, 34, [], 0, [], 0, 0, 0),
  (34, .iaload, 35, [], 0, [], 0, 0, 0),
  (35, .aload_n 0, 36, [], 0, [], 0, 0, 0),
  (36, .getfield 25, 39, [], 6, [], 1, 19, 0),
  (39, .iload 4, 41, [], 0, [], 0, 0, 0),
  (41, .iaload, 42, [], 0, [], 0, 0, 0),
  (42, .aload_n 0, 43, [], 0, [], 0, 0, 0),
  (43, .getfield 28, 46, [], 6, [], 2, 20, 0),
  (46, .iload 4, 48, [], 0, [], 0, 0, 0),
  (48, .iaload, 49, [], 0, [], 0, 0, 0),
  (49, .iadd, 50, [], 0, [], 0, 0, 0),
  (50, .invokestatic 89, 53, [], 68, [], 3, 178, 0),
  (53, .lload_n 1, 54, [], 0, [], 0, 0, 0),
  (54, .lcmp, 55, [], 0, [], 0, 0, 0),
  (55, .ifCond .ne 6, 58, [], 61, [2], 0, 0, 0),
  (58, .iinc 3 1, 61, [2], 0, [], 0, 0, 1),
  (61, .iinc 4 1, 64, [], 0, [], 0, 0, 1),
  (64, .goto (-59), 67, [], 5, [2], 0, 0, 0),
  (67, .iload_n 3, 68, [], 0, [], 0, 0, 0),
  (68, .ireturn, 69, [], 0, [], 0, 0, 0)]
def t_Scan_kindBehindBracket : List (Nat × TE) := [
  (0, .aload_n 0, 1, [], 0, [], 0, 0, 0),
  (1, .iload_n 1, 2, [], 0, [], 0, 0, 0),
  (2, .iconst 1, 3, [], 0, [], 0, 0, 1),
  (3, .iadd, 4, [], 0, [], 0, 0, 0),
  (4, .iload_n 2, 5, [], 0, [], 0, 0, 0),
  (5, .invokestatic 15, 8, [], 64, [], 3, 179, 0),
  (8, .istore_n 3, 9, [], 0, [], 0, 0, 0),
  (9, .aload_n 0, 10, [], 0, [], 0, 0, 0),
  (10, .iload_n 1, 11, [], 0, [], 0, 0, 0),
  (11, .iconst 2, 12, [], 0, [], 0, 0, 2),
  (12, .iadd, 13, [], 0, [], 0, 0, 0),
  (13, .iload_n 2, 14, [], 0, [], 0, 0, 0),
  (14, .invokestatic 15, 17, [], 64, [], 3, 179, 0),
  (17, .istore 4, 19, [], 0, [], 0, 0, 0),
  (19, .iload_n 3, 20, [], 0, [], 0, 0, 0),
  (20, .invokestatic 25, 23, [], 17, [], 1, 130, 0),
  (23, .ifCond .eq 12, 26, [], 35, [], 0, 0, 0),
  (26, .iload 4, 28, [], 0, [], 0, 0, 0),
  (28, .bipush 62, 30, [], 0, [], 0, 0, 62),
  (30, .if_icmp .ne 5, 33, [], 35, [], 0, 0, 0),
  (33, .iconst 2, 34, [], 0, [], 0, 0, 2),
  (34, .ireturn, 35, [], 0, [], 0, 0, 0),
  (35, .aload_n 0, 36, [], 0, [], 0, 0, 0),
  (36, .iload_n 1, 37, [], 0, [], 0, 0, 0),
  (37, .iconst 3, 38, [], 0, [], 0, 0, 3),
  (38, .iadd, 39, [], 0, [], 0, 0, 0),
  (39, .iload_n 2, 40, [], 0, [], 0, 0, 0),
  (40, .invokestatic 15, 43, [], 64, [], 3, 179, 0),
  (43, .bipush 62, 45, [], 0, [], 0, 0, 62),
  (45, .if_icmp .eq 5, 48, [], 50, [], 0, 0, 0),
  (48, .iconst 5, 49, [], 0, [], 0, 0, 5),
  (49, .ireturn, 50, [], 0, [], 0, 0, 0),
  (50, .iload_n 3, 51, [], 0, [], 0, 0, 0),
  (51, .bipush 47, 53, [], 0, [], 0, 0, 47),
  (53, .if_icmp .ne 13, 56, [], 66, [0, 1, 2], 0, 0, 0),
  (56, .iload 4, 58, [], 0, [], 0, 0, 0),
  (58, .invokestatic 25, 61, [], 17, [], 1, 130, 0),
  (61, .ifCond .eq 5, 64, [], 66, [0, 1, 2], 0, 0, 0),
  (64, .iconst 3, 65, [], 0, [], 0, 0, 3),
  (65, .ireturn, 66, [0, 1, 2], 0, [], 0, 0, 0),
  (66, .iload_n 3, 67, [], 0, [], 0, 0, 0),
  (67, .invokestatic 25, 70, [], 17, [], 1, 130, 0),
  (70, .ifCond .eq 14, 73, [], 84, [0, 1, 2, 3, 4], 0, 0, 0),
  (73, .iload 4, 75, [], 0, [], 0, 0, 0),
  (75, .bipush 47, 77, [], 0, [], 0, 0, 47),
  (77, .if_icmp .ne 7, 80, [], 84, [0, 1, 2, 3, 4], 0, 0, 0),
  (80, .iconst 4, 81, [], 0, [], 0, 0, 4),
  (81, .goto 4, 84, [0, 1, 2, 3, 4], 85, [0, 1, 2, 3, 4], 0, 0, 0),
  (84, .iconst 5, 85, [0, 1, 2, 3, 4], 0, [], 0, 0, 5),
  (85, .ireturn, 86, [], 0, [], 0, 0, 0)]
def t_Scan_numberEnd : List (Nat × TE) := [
  (0, .aload_n 0, 1, [], 0, [], 0, 0, 0),
  (1, .iload_n 1, 2, [], 0, [], 0, 0, 0),
  (2, .iload_n 2, 3, [], 0, [], 0, 0, 0),
  (3, .bipush 9, 5, [], 0, [], 0, 0, 9),
  (5, .invokestatic 41, 8, [], 67, [], 4, 180, 0),
  (8, .istore 4, 10, [], 0, [], 0, 0, 0),
  (10, .aload_n 0, 11, [], 0, [], 0, 0, 0),
  (11, .iload 4, 13, [], 0, [], 0, 0, 0),
  (13, .iload_n 2, 14, [], 0, [], 0, 0, 0),
  (14, .invokestatic 15, 17, [], 64, [], 3, 179, 0),
  (17, .iload_n 3, 18, [], 0, [], 0, 0, 0),
  (18, .if_icmp .eq 6, 21, [], 24, [], 0, 0, 0),
  (21, .iload 4, 23, [], 0, [], 0, 0, 0),
  (23, .ireturn, 24, [], 0, [], 0, 0, 0),
  (24, .aload_n 0, 25, [], 0, [], 0, 0, 0),
  (25, .iload 4, 27, [], 0, [], 0, 0, 0),
  (27, .iconst 1, 28, [], 0, [], 0, 0, 1),
  (28, .iadd, 29, [], 0, [], 0, 0, 0),
  (29, .iload_n 2, 30, [], 0, [], 0, 0, 0),
  (30, .iconst 4, 31, [], 0, [], 0, 0, 4),
  (31, .invokestatic 41, 34, [], 67, [], 4, 180, 0),
  (34, .istore 5, 36, [], 0, [], 0, 0, 0),
  (36, .iload 5, 38, [], 0, [], 0, 0, 0),
  (38, .iload 4, 40, [], 0, [], 0, 0, 0),
  (40, .iconst 1, 41, [], 0, [], 0, 0, 1),
  (41, .iadd, 42, [], 0, [], 0, 0, 0),
  (42, .if_icmp .le 8, 45, [], 50, [], 0, 0, 0),
  (45, .iload 5, 47, [], 0, [], 0, 0, 0),
  (47, .goto 5, 50, [], 52, [0, 1, 2, 3, 4, 5], 0, 0, 0),
  (50, .iload 4, 52, [0, 1, 2, 3, 4, 5], 0, [], 0, 0, 0),
  (52, .ireturn, 53, [], 0, [], 0, 0, 0)]
def t_K_undo : List (Nat × TE) := [
  (0, .aload_n 0, 1, [], 0, [], 0, 0, 0),
  (1, .getfield 28, 4, [], 9, [], 2, 43, 0),
  (4, .getfield 156, 7, [], 2, [], 7, 45, 0),
  (7, .ifCond .ne 8, 10, [], 15, [], 0, 0, 0),
  (10, .bipush (-4), 12, [], 0, [], 0, 0, -4),
  (12, .goto 10, 15, [], 22, [0], 0, 0, 0),
  (15, .aload_n 0, 16, [], 0, [], 0, 0, 0),
  (16, .getfield 28, 19, [], 9, [], 2, 43, 0),
  (19, .invokevirtual 173, 22, [0], 54, [], 0, 181, 0),
  (22, .ireturn, 23, [], 0, [], 0, 0, 0)]
def t_K_term : List (Nat × TE) := [
  (0, .aload_n 0, 1, [], 0, [], 0, 0, 0),
  (1, .getfield 14, 4, [], 9, [], 0, 34, 0),
  (4, .invokevirtual 240, 7, [], 22, [], 0, 182, 0),
  (7, .istore_n 1, 8, [], 0, [], 0, 0, 0),
  (8, .aload_n 0, 9, [], 0, [], 0, 0, 0),
  (9, .getfield 14, 12, [], 9, [], 0, 34, 0),
  (12, .iconst 0, 13, [], 0, [], 0, 0, 0),
  (13, .iload_n 1, 14, [], 0, [], 0, 0, 0),
  (14, .invokestatic 243, 17, [], 68, [], 3, 183, 0),
  (17, .lstore_n 2, 18, [], 0, [], 0, 0, 0),
  (18, .aload_n 0, 19, [], 0, [], 0, 0, 0),
  (19, .getfield 14, 22, [], 9, [], 0, 34, 0),
  (22, .iload_n 1, 23, [], 0, [], 0, 0, 0),
  (23, .iconst 1, 24, [], 0, [], 0, 0, 1),
  (24, .iadd, 25, [], 0, [], 0, 0, 0),
  (25, .aload_n 0, 26, [], 0, [], 0, 0, 0),
  (26, .getfield 14, 29, [], 9, [], 0, 34, 0),
  (29, .getfield 87, 32, [], 7, [], 1, 35, 0),
  (32, .invokestatic 243, 35, [], 68, [], 3, 183, 0),
  (35, .lstore 4, 37, [], 0, [], 0, 0, 0),
  (37, .lload_n 2, 38, [], 0, [], 0, 0, 0),
  (38, .lconst 0, 39, [], 0, [], 0, 0, 0),
  (39, .lcmp, 40, [], 0, [], 0, 0, 0),
  (40, .ifCond .eq 10, 43, [], 50, [0, 1, 2, 3, 4, 5], 0, 0, 0),
  (43, .lload 4, 45, [], 0, [], 0, 0, 0),
  (45, .lconst 0, 46, [], 0, [], 0, 0, 0),
  (46, .lcmp, 47, [], 0, [], 0, 0, 0),
  (47, .ifCond .ne 6, 50, [0, 1, 2, 3, 4, 5], 53, [], 0, 0, 0),
  (50, .bipush (-2), 52, [], 0, [], 0, 0, -2),
  (52, .ireturn, 53, [], 0, [], 0, 0, 0),
  (53, .aload_n 0, 54, [], 0, [], 0, 0, 0),
  (54, .getfield 78, 57, [], 9, [], 9, 48, 0),
  (57, .invokevirtual 247, 60, [], 24, [], 0, 184, 0),
  (60, .ifCond .eq 6, 63, [], 66, [], 0, 0, 0),
  (63, .bipush (-5), 65, [], 0, [], 0, 0, -5),
  (65, .ireturn, 66, [], 0, [], 0, 0, 0),
  (66, .aload_n 0, 67, [], 0, [], 0, 0, 0),
  (67, .getfield 78, 70, [], 9, [], 9, 48, 0),
  (70, .lload_n 2, 71, [], 0, [], 0, 0, 0),
  (71, .invokevirtual 250, 74, [], 69, [], 1, 185, 0),
  (74, .aload_n 0, 75, [], 0, [], 0, 0, 0),
  (75, .getfield 81, 78, [], 9, [], 10, 186, 0),
  (78, .lload 4, 80, [], 0, [], 0, 0, 0),
  (80, .invokevirtual 250, 83, [], 69, [], 1, 185, 0),
  (83, .aload_n 0, 84, [], 0, [], 0, 0, 0),
  (84, .getfield 14, 87, [], 9, [], 0, 34, 0),
  (87, .iconst 0, 88, [], 0, [], 0, 0, 0),
  (88, .putfield 87, 91, [], 7, [], 1, 35, 0),
  (91, .aload_n 0, 92, [], 0, [], 0, 0, 0),
  (92, .getfield 78, 95, [], 9, [], 9, 48, 0),
  (95, .getfield 254, 98, [], 8, [], 1, 47, 0),
  (98, .iconst 1, 99, [], 0, [], 0, 0, 1),
  (99, .isub, 100, [], 0, [], 0, 0, 0),
  (100, .ireturn, 101, [], 0, [], 0, 0, 0)]
def t_K_moveTapeTo : List (Nat × TE) := [
  (0, .aload_n 0, 1, [], 0, [], 0, 0, 0),
  (1, .getfield 28, 4, [], 9, [], 2, 43, 0),
  (4, .iload_n 1, 5, [], 0, [], 0, 0, 0),
  (5, .aload_n 0, 6, [], 0, [], 0, 0, 0),
  (6, .getfield 14, 9, [], 9, [], 0, 34, 0),
  (9, .iload_n 2, 10, [], 0, [], 0, 0, 0),
  (10, .invokevirtual 271, 13, [], 53, [], 3, 187, 0),
  (13, .aload_n 0, 14, [], 0, [], 0, 0, 0),
  (14, .getfield 14, 17, [], 9, [], 0, 34, 0),
  (17, .iconst 0, 18, [], 0, [], 0, 0, 0),
  (18, .putfield 87, 21, [], 7, [], 1, 35, 0),
  (21, .return_, 22, [], 0, [], 0, 0, 0)]
def t_K_addTapeTo : List (Nat × TE) := [
  (0, .aload_n 0, 1, [], 0, [], 0, 0, 0),
  (1, .getfield 14, 4, [], 9, [], 0, 34, 0),
  (4, .iconst 0, 5, [], 0, [], 0, 0, 0),
  (5, .aload_n 0, 6, [], 0, [], 0, 0, 0),
  (6, .getfield 14, 9, [], 9, [], 0, 34, 0),
  (9, .getfield 87, 12, [], 7, [], 1, 35, 0),
  (12, .invokestatic 243, 15, [], 68, [], 3, 183, 0),
  (15, .lstore_n 2, 16, [], 0, [], 0, 0, 0),
  (16, .lload_n 2, 17, [], 0, [], 0, 0, 0),
  (17, .lconst 0, 18, [], 0, [], 0, 0, 0),
  (18, .lcmp, 19, [], 0, [], 0, 0, 0),
  (19, .ifCond .ne 6, 22, [], 25, [], 0, 0, 0),
  (22, .bipush (-2), 24, [], 0, [], 0, 0, -2),
  (24, .ireturn, 25, [], 0, [], 0, 0, 0),
  (25, .aload_n 1, 26, [], 0, [], 0, 0, 0),
  (26, .invokevirtual 247, 29, [], 24, [], 0, 184, 0),
  (29, .ifCond .eq 6, 32, [], 35, [], 0, 0, 0),
  (32, .bipush (-5), 34, [], 0, [], 0, 0, -5),
  (34, .ireturn, 35, [], 0, [], 0, 0, 0),
  (35, .aload_n 1, 36, [], 0, [], 0, 0, 0),
  (36, .lload_n 2, 37, [], 0, [], 0, 0, 0),
  (37, .invokevirtual 250, 40, [], 69, [], 1, 185, 0),
  (40, .aload_n 0, 41, [], 0, [], 0, 0, 0),
  (41, .getfield 14, 44, [], 9, [], 0, 34, 0),
  (44, .iconst 0, 45, [], 0, [], 0, 0, 0),
  (45, .putfield 87, 48, [], 7, [], 1, 35, 0),
  (48, .aload_n 1, 49, [], 0, [], 0, 0, 0),
  (49, .getfield 254, 52, [], 8, [], 1, 47, 0),
  (52, .ireturn, 53, [], 0, [], 0, 0, 0)]
def t_M_read : List (Nat × TE) := [
  (0, .aload_n 0, 1, [], 0, [], 0, 0, 0),
  (1, .iload_n 2, 2, [], 0, [], 0, 0, 0),
  (2, .iload_n 3, 3, [], 0, [], 0, 0, 0),
  (3, .iadd, 4, [], 0, [], 0, 0, 0),
  (4, .putfield 91, 7, [], 10, [], 8, 75, 0),
  (7, .iconst 0, 8, [], 0, [], 0, 0, 0),
  (8, .istore 6, 10, [], 0, [], 0, 0, 0),
  (10, .aload_n 0, 11, [], 0, [], 0, 0, 0),
  (11, .getfield 26, 14, [], 10, [], 6, 57, 0),
  (14, .iload_n 1, 15, [], 0, [], 0, 0, 0),
  (15, .iconst 0, 16, [], 0, [], 0, 0, 0),
  (16, .iastore, 17, [], 0, [], 0, 0, 0),
  (17, .iload_n 2, 18, [], 0, [], 0, 0, 0),
  (18, .istore 7, 20, [2, 3, 8, 9, 10], 0, [], 0, 0, 0),
  (20, .iload 7, 22, [], 0, [], 0, 0, 0),
  (22, .aload_n 0, 23, [], 0, [], 0, 0, 0),
  (23, .getfield 91, 26, [], 10, [], 8, 75, 0),
  (26, .if_icmp .ge 258, 29, [], 284, [], 0, 0, 0),
  (29, .iconst 5, 30, [], 0, [], 0, 0, 5),
  (30, .istore 8, 32, [], 0, [], 0, 0, 0),
  (32, .iload 7, 34, [], 0, [], 0, 0, 0),
  (34, .iconst 1, 35, [], 0, [], 0, 0, 1),
  (35, .iadd, 36, [], 0, [], 0, 0, 0),
  (36, .istore 9, 38, [], 0, [], 0, 0, 0),
  (38, .aload_n 0, 39, [], 0, [], 0, 0, 0),
  (39, .iload 7, 41, [], 0, [], 0, 0, 0),
  (41, .invokevirtual 102, 44, [], 79, [], 1, 188, 0),
  (44, .istore 10, 46, [], 0, [], 0, 0, 0),
  (46, .aload_n 0, 47, [], 0, [], 0, 0, 0),
  (47, .iload 7, 49, [], 0, [], 0, 0, 0),
  (49, .invokevirtual 94, 52, [], 35, [], 1, 152, 0),
  (52, .invokestatic 105, 55, [], 37, [], 1, 156, 0),
  (55, .ifCond .eq 24, 58, [], 79, [], 0, 0, 0),
  (58, .iconst 0, 59, [], 0, [], 0, 0, 0),
  (59, .istore 8, 61, [2, 3, 10], 0, [], 0, 0, 0),
  (61, .aload_n 0, 62, [], 0, [], 0, 0, 0),
  (62, .iload 9, 64, [], 0, [], 0, 0, 0),
  (64, .invokevirtual 94, 67, [], 35, [], 1, 152, 0),
  (67, .invokestatic 105, 70, [], 37, [], 1, 156, 0),
  (70, .ifCond .eq 134, 73, [], 204, [2, 3, 10], 0, 0, 0),
  (73, .iinc 9 1, 76, [], 0, [], 0, 0, 1),
  (76, .goto (-15), 79, [], 61, [2, 3, 10], 0, 0, 0),
  (79, .aload_n 0, 80, [], 0, [], 0, 0, 0),
  (80, .iload 7, 82, [], 0, [], 0, 0, 0),
  (82, .invokevirtual 94, 85, [], 35, [], 1, 152, 0),
  (85, .invokestatic 98, 88, [], 36, [], 1, 153, 0),
  (88, .ifCond .eq 55, 91, [], 143, [], 0, 0, 0),
  (91, .iconst 1, 92, [], 0, [], 0, 0, 1),
  (92, .istore 8, 94, [], 0, [], 0, 0, 0),
  (94, .aload_n 0, 95, [], 0, [], 0, 0, 0),
  (95, .iload 7, 97, [], 0, [], 0, 0, 0),
  (97, .bipush 9, 99, [], 0, [], 0, 0, 9),
  (99, .invokevirtual 108, 102, [], 78, [], 2, 189, 0),
  (102, .istore 9, 104, [], 0, [], 0, 0, 0),
  (104, .aload_n 0, 105, [], 0, [], 0, 0, 0),
  (105, .iload 9, 107, [], 0, [], 0, 0, 0),
  (107, .invokevirtual 94, 110, [], 35, [], 1, 152, 0),
  (110, .iload 4, 112, [], 0, [], 0, 0, 0),
  (112, .if_icmp .ne 92, 115, [], 204, [2, 3, 10], 0, 0, 0),
  (115, .aload_n 0, 116, [], 0, [], 0, 0, 0),
  (116, .iload 9, 118, [], 0, [], 0, 0, 0),
  (118, .iconst 1, 119, [], 0, [], 0, 0, 1),
  (119, .iadd, 120, [], 0, [], 0, 0, 0),
  (120, .invokevirtual 94, 123, [], 35, [], 1, 152, 0),
  (123, .invokestatic 98, 126, [], 36, [], 1, 153, 0),
  (126, .ifCond .eq 78, 129, [], 204, [2, 3, 10], 0, 0, 0),
  (129, .aload_n 0, 130, [], 0, [], 0, 0, 0),
  (130, .iload 9, 132, [], 0, [], 0, 0, 0),
  (132, .iconst 1, 133, [], 0, [], 0, 0, 1),
  (133, .iadd, 134, [], 0, [], 0, 0, 0),
  (134, .iconst 4, 135, [], 0, [], 0, 0, 4),
  (135, .invokevirtual 108, 138, [], 78, [], 2, 189, 0),
  (138, .istore 9, 140, [], 0, [], 0, 0, 0),
  (140, .goto 64, 143, [], 204, [2, 3, 10], 0, 0, 0),
  (143, .aload_n 0, 144, [], 0, [], 0, 0, 0),
  (144, .iload 7, 146, [], 0, [], 0, 0, 0),
  (146, .invokevirtual 94, 149, [], 35, [], 1, 152, 0),
  (149, .bipush 32, 151, [], 0, [], 0, 0, 32),
  (151, .if_icmp .ne 24, 154, [], 175, [], 0, 0, 0),
  (154, .bipush 6, 156, [], 0, [], 0, 0, 6),
  (156, .istore 8, 158, [2, 3, 10], 0, [], 0, 0, 0),
  (158, .aload_n 0, 159, [], 0, [], 0, 0, 0),
  (159, .iload 9, 161, [], 0, [], 0, 0, 0),
  (161, .invokevirtual 94, 164, [], 35, [], 1, 152, 0),
  (164, .bipush 32, 166, [], 0, [], 0, 0, 32),
  (166, .if_icmp .ne 38, 169, [], 204, [2, 3, 10], 0, 0, 0),
  (169, .iinc 9 1, 172, [], 0, [], 0, 0, 1),
  (172, .goto (-14), 175, [], 158, [2, 3, 10], 0, 0, 0),
  (175, .iload 10, 177, [], 0, [], 0, 0, 0),
  (177, .iconst (-1), 178, [], 0, [], 0, 0, -1),
  (178, .if_icmp .eq 26, 181, [], 204, [2, 3, 10], 0, 0, 0),
  (181, .iload 10, 183, [], 0, [], 0, 0, 0),
  (183, .istore 8, 185, [], 0, [], 0, 0, 0),
  (185, .iload 10, 187, [], 0, [], 0, 0, 0),
  (187, .iconst 2, 188, [], 0, [], 0, 0, 2),
  (188, .if_icmp .ne 10, 191, [], 198, [], 0, 0, 0),
  (191, .iload 7, 193, [], 0, [], 0, 0, 0),
  (193, .iconst 3, 194, [], 0, [], 0, 0, 3),
  (194, .iadd, 195, [], 0, [], 0, 0, 0),
  (195, .goto 7, 198, [], 202, [2, 3, 9, 10], 0, 0, 0),
  (198, .iload 7, 200, [], 0, [], 0, 0, 0),
  (200, .iconst 4, 201, [], 0, [], 0, 0, 4),
  (201, .iadd, 202, [2, 3, 9, 10], 0, [], 0, 0, 0),
  (202, .istore 9, 204, [2, 3, 10], 0, [], 0, 0, 0),
  (204, .aload_n 0, 205, [], 0, [], 0, 0, 0),
  (205, .getfield 26, 208, [], 10, [], 6, 57, 0),
  (208, .iload_n 1, 209, [], 0, [], 0, 0, 0),
  (209, .dup2, 210, [], 0, [], 0, 0, 0),
  (210, .iaload, 211, [], 0, [], 0, 0, 0),
  (211, .iconst 1, 212, [], 0, [], 0, 0, 1),
  (212, .iadd, 213, [], 0, [], 0, 0, 0),
  (213, .iastore, 214, [], 0, [], 0, 0, 0),
  (214, .iload 8, 216, [], 0, [], 0, 0, 0),
  (216, .bipush 6, 218, [], 0, [], 0, 0, 6),
  (218, .if_icmp .ne 8, 221, [], 226, [2, 3, 10], 0, 0, 0),
  (221, .iload 5, 223, [], 0, [], 0, 0, 0),
  (223, .ifCond .eq 54, 226, [2, 3, 10], 277, [2, 3, 7, 8, 10], 0, 0, 0),
  (226, .aload_n 0, 227, [], 0, [], 0, 0, 0),
  (227, .getfield 17, 230, [], 10, [], 3, 54, 0),
  (230, .sipush 600, 233, [], 0, [], 0, 0, 600),
  (233, .iload_n 1, 234, [], 0, [], 0, 0, 0),
  (234, .imul, 235, [], 0, [], 0, 0, 0),
  (235, .iload 6, 237, [], 0, [], 0, 0, 0),
  (237, .iadd, 238, [], 0, [], 0, 0, 0),
  (238, .iload 8, 240, [], 0, [], 0, 0, 0),
  (240, .iastore, 241, [], 0, [], 0, 0, 0),
  (241, .aload_n 0, 242, [], 0, [], 0, 0, 0),
  (242, .getfield 20, 245, [], 10, [], 4, 55, 0),
  (245, .sipush 600, 248, [], 0, [], 0, 0, 600),
  (248, .iload_n 1, 249, [], 0, [], 0, 0, 0),
  (249, .imul, 250, [], 0, [], 0, 0, 0),
  (250, .iload 6, 252, [], 0, [], 0, 0, 0),
  (252, .iadd, 253, [], 0, [], 0, 0, 0),
  (253, .iload 7, 255, [], 0, [], 0, 0, 0),
  (255, .iastore, 256, [], 0, [], 0, 0, 0),
  (256, .aload_n 0, 257, [], 0, [], 0, 0, 0),
  (257, .getfield 23, 260, [], 10, [], 5, 56, 0),
  (260, .sipush 600, 263, [], 0, [], 0, 0, 600),
  (263, .iload_n 1, 264, [], 0, [], 0, 0, 0),
  (264, .imul, 265, [], 0, [], 0, 0, 0),
  (265, .iload 6, 267, [], 0, [], 0, 0, 0),
  (267, .iadd, 268, [], 0, [], 0, 0, 0),
  (268, .iload 9, 270, [], 0, [], 0, 0, 0),
  (270, .iload 7, 272, [], 0, [], 0, 0, 0),
  (272, .isub, 273, [], 0, [], 0, 0, 0),
  (273, .iastore, 274, [], 0, [], 0, 0, 0),
  (274, .iinc 6 1, 277, [2, 3, 7, 8, 10], 0, [], 0, 0, 1),
  (277, .iload 9, 279, [], 0, [], 0, 0, 0),
  (279, .istore 7, 281, [], 0, [], 0, 0, 0),
  (281, .goto (-261), 284, [], 20, [2, 3, 8, 9, 10], 0, 0, 0),
  (284, .aload_n 0, 285, [], 0, [], 0, 0, 0),
  (285, .getfield 29, 288, [], 10, [], 7, 58, 0),
  (288, .iload_n 1, 289, [], 0, [], 0, 0, 0),
  (289, .iload 6, 291, [], 0, [], 0, 0, 0),
  (291, .iastore, 292, [], 0, [], 0, 0, 0),
  (292, .return_, 293, [], 0, [], 0, 0, 0)]
def t_M_except : List (Nat × TE) := [
  (0, .aload_n 0, 1, [], 0, [], 0, 0, 0),
  (1, .iconst 0, 2, [], 0, [], 0, 0, 0),
  (2, .aload_n 0, 3, [], 0, [], 0, 0, 0),
  (3, .getfield 14, 6, [], 10, [], 2, 53, 0),
  (6, .iconst 0, 7, [], 0, [], 0, 0, 0),
  (7, .iaload, 8, [], 0, [], 0, 0, 0),
  (8, .invokevirtual 125, 11, [], 83, [], 2, 190, 0),
  (11, .ifCond .ne 6, 14, [], 17, [], 0, 0, 0),
  (14, .bipush (-2), 16, [], 0, [], 0, 0, -2),
  (16, .ireturn, 17, [], 0, [], 0, 0, 0),
  (17, .aload_n 0, 18, [], 0, [], 0, 0, 0),
  (18, .getfield 129, 21, [], 10, [], 12, 81, 0),
  (21, .bipush 8, 23, [], 0, [], 0, 0, 8),
  (23, .if_icmp .ne 6, 26, [], 29, [], 0, 0, 0),
  (26, .bipush (-5), 28, [], 0, [], 0, 0, -5),
  (28, .ireturn, 29, [], 0, [], 0, 0, 0),
  (29, .aload_n 0, 30, [], 0, [], 0, 0, 0),
  (30, .aload_n 0, 31, [], 0, [], 0, 0, 0),
  (31, .getfield 129, 34, [], 10, [], 12, 81, 0),
  (34, .iconst 0, 35, [], 0, [], 0, 0, 0),
  (35, .aload_n 0, 36, [], 0, [], 0, 0, 0),
  (36, .getfield 14, 39, [], 10, [], 2, 53, 0),
  (39, .iconst 0, 40, [], 0, [], 0, 0, 0),
  (40, .iaload, 41, [], 0, [], 0, 0, 0),
  (41, .invokevirtual 132, 44, [], 42, [], 3, 191, 0),
  (44, .aload_n 0, 45, [], 0, [], 0, 0, 0),
  (45, .dup, 46, [], 0, [], 0, 0, 0),
  (46, .getfield 129, 49, [], 10, [], 12, 81, 0),
  (49, .iconst 1, 50, [], 0, [], 0, 0, 1),
  (50, .iadd, 51, [], 0, [], 0, 0, 0),
  (51, .putfield 129, 54, [], 10, [], 12, 81, 0),
  (54, .aload_n 0, 55, [], 0, [], 0, 0, 0),
  (55, .getfield 14, 58, [], 10, [], 2, 53, 0),
  (58, .iconst 0, 59, [], 0, [], 0, 0, 0),
  (59, .iconst 0, 60, [], 0, [], 0, 0, 0),
  (60, .iastore, 61, [], 0, [], 0, 0, 0),
  (61, .aload_n 0, 62, [], 0, [], 0, 0, 0),
  (62, .getfield 129, 65, [], 10, [], 12, 81, 0),
  (65, .ireturn, 66, [], 0, [], 0, 0, 0)]
def t_M_term : List (Nat × TE) := [
  (0, .iconst 0, 1, [], 0, [], 0, 0, 0),
  (1, .istore_n 1, 2, [], 0, [], 0, 0, 0),
  (2, .iload_n 1, 3, [], 0, [], 0, 0, 0),
  (3, .aload_n 0, 4, [], 0, [], 0, 0, 0),
  (4, .getfield 14, 7, [], 10, [], 2, 53, 0),
  (7, .iconst 0, 8, [], 0, [], 0, 0, 0),
  (8, .iaload, 9, [], 0, [], 0, 0, 0),
  (9, .if_icmp .ge 20, 12, [], 29, [], 0, 0, 0),
  (12, .aload_n 0, 13, [], 0, [], 0, 0, 0),
  (13, .getfield 8, 16, [], 10, [], 1, 52, 0),
  (16, .iload_n 1, 17, [], 0, [], 0, 0, 0),
  (17, .iaload, 18, [], 0, [], 0, 0, 0),
  (18, .bipush 32, 20, [], 0, [], 0, 0, 32),
  (20, .if_icmp .eq 9, 23, [], 29, [], 0, 0, 0),
  (23, .iinc 1 1, 26, [], 0, [], 0, 0, 1),
  (26, .goto (-24), 29, [], 2, [], 0, 0, 0),
  (29, .aload_n 0, 30, [], 0, [], 0, 0, 0),
  (30, .iconst 0, 31, [], 0, [], 0, 0, 0),
  (31, .iload_n 1, 32, [], 0, [], 0, 0, 0),
  (32, .invokevirtual 125, 35, [], 83, [], 2, 190, 0),
  (35, .ifCond .eq 33, 38, [], 68, [0, 1], 0, 0, 0),
  (38, .iload_n 1, 39, [], 0, [], 0, 0, 0),
  (39, .aload_n 0, 40, [], 0, [], 0, 0, 0),
  (40, .getfield 14, 43, [], 10, [], 2, 53, 0),
  (43, .iconst 0, 44, [], 0, [], 0, 0, 0),
  (44, .iaload, 45, [], 0, [], 0, 0, 0),
  (45, .if_icmp .eq 23, 48, [], 68, [0, 1], 0, 0, 0),
  (48, .aload_n 0, 49, [], 0, [], 0, 0, 0),
  (49, .iload_n 1, 50, [], 0, [], 0, 0, 0),
  (50, .iconst 1, 51, [], 0, [], 0, 0, 1),
  (51, .iadd, 52, [], 0, [], 0, 0, 0),
  (52, .aload_n 0, 53, [], 0, [], 0, 0, 0),
  (53, .getfield 14, 56, [], 10, [], 2, 53, 0),
  (56, .iconst 0, 57, [], 0, [], 0, 0, 0),
  (57, .iaload, 58, [], 0, [], 0, 0, 0),
  (58, .iload_n 1, 59, [], 0, [], 0, 0, 0),
  (59, .isub, 60, [], 0, [], 0, 0, 0),
  (60, .iconst 1, 61, [], 0, [], 0, 0, 1),
  (61, .isub, 62, [], 0, [], 0, 0, 0),
  (62, .invokevirtual 125, 65, [], 83, [], 2, 190, 0),
  (65, .ifCond .ne 6, 68, [0, 1], 71, [], 0, 0, 0),
  (68, .bipush (-2), 70, [], 0, [], 0, 0, -2),
  (70, .ireturn, 71, [], 0, [], 0, 0, 0),
  (71, .aload_n 0, 72, [], 0, [], 0, 0, 0),
  (72, .getfield 136, 75, [], 10, [], 13, 82, 0),
  (75, .bipush 10, 77, [], 0, [], 0, 0, 10),
  (77, .if_icmp .ne 6, 80, [], 83, [], 0, 0, 0),
  (80, .bipush (-5), 82, [], 0, [], 0, 0, -5),
  (82, .ireturn, 83, [], 0, [], 0, 0, 0),
  (83, .aload_n 0, 84, [], 0, [], 0, 0, 0),
  (84, .bipush 8, 86, [], 0, [], 0, 0, 8),
  (86, .aload_n 0, 87, [], 0, [], 0, 0, 0),
  (87, .getfield 136, 90, [], 10, [], 13, 82, 0),
  (90, .iadd, 91, [], 0, [], 0, 0, 0),
  (91, .iconst 0, 92, [], 0, [], 0, 0, 0),
  (92, .iload_n 1, 93, [], 0, [], 0, 0, 0),
  (93, .invokevirtual 132, 96, [], 42, [], 3, 191, 0),
  (96, .aload_n 0, 97, [], 0, [], 0, 0, 0),
  (97, .bipush 18, 99, [], 0, [], 0, 0, 18),
  (99, .aload_n 0, 100, [], 0, [], 0, 0, 0),
  (100, .getfield 136, 103, [], 10, [], 13, 82, 0),
  (103, .iadd, 104, [], 0, [], 0, 0, 0),
  (104, .iload_n 1, 105, [], 0, [], 0, 0, 0),
  (105, .iconst 1, 106, [], 0, [], 0, 0, 1),
  (106, .iadd, 107, [], 0, [], 0, 0, 0),
  (107, .aload_n 0, 108, [], 0, [], 0, 0, 0),
  (108, .getfield 14, 111, [], 10, [], 2, 53, 0),
  (111, .iconst 0, 112, [], 0, [], 0, 0, 0),
  (112, .iaload, 113, [], 0, [], 0, 0, 0),
  (113, .iload_n 1, 114, [], 0, [], 0, 0, 0),
  (114, .isub, 115, [], 0, [], 0, 0, 0),
  (115, .iconst 1, 116, [], 0, [], 0, 0, 1),
  (116, .isub, 117, [], 0, [], 0, 0, 0),
  (117, .invokevirtual 132, 120, [], 42, [], 3, 191, 0),
  (120, .aload_n 0, 121, [], 0, [], 0, 0, 0),
  (121, .dup, 122, [], 0, [], 0, 0, 0),
  (122, .getfield 136, 125, [], 10, [], 13, 82, 0),
  (125, .iconst 1, 126, [], 0, [], 0, 0, 1),
  (126, .iadd, 127, [], 0, [], 0, 0, 0),
  (127, .putfield 136, 130, [], 10, [], 13, 82, 0),
  (130, .aload_n 0, 131, [], 0, [], 0, 0, 0),
  (131, .getfield 14, 134, [], 10, [], 2, 53, 0),
  (134, .iconst 0, 135, [], 0, [], 0, 0, 0),
  (135, .iconst 0, 136, [], 0, [], 0, 0, 0),
  (136, .iastore, 137, [], 0, [], 0, 0, 0),
  (137, .aload_n 0, 138, [], 0, [], 0, 0, 0),
  (138, .getfield 136, 141, [], 10, [], 13, 82, 0),
  (141, .iconst 1, 142, [], 0, [], 0, 0, 1),
  (142, .isub, 143, [], 0, [], 0, 0, 0),
  (143, .ireturn, 144, [], 0, [], 0, 0, 0)]
def t_M_forbid : List (Nat × TE) := [
  (0, .aload_n 0, 1, [], 0, [], 0, 0, 0),
  (1, .iconst 0, 2, [], 0, [], 0, 0, 0),
  (2, .aload_n 0, 3, [], 0, [], 0, 0, 0),
  (3, .getfield 14, 6, [], 10, [], 2, 53, 0),
  (6, .iconst 0, 7, [], 0, [], 0, 0, 0),
  (7, .iaload, 8, [], 0, [], 0, 0, 0),
  (8, .invokevirtual 125, 11, [], 83, [], 2, 190, 0),
  (11, .ifCond .ne 6, 14, [], 17, [], 0, 0, 0),
  (14, .bipush (-2), 16, [], 0, [], 0, 0, -2),
  (16, .ireturn, 17, [], 0, [], 0, 0, 0),
  (17, .aload_n 0, 18, [], 0, [], 0, 0, 0),
  (18, .getfield 139, 21, [], 10, [], 14, 83, 0),
  (21, .iconst 5, 22, [], 0, [], 0, 0, 5),
  (22, .if_icmp .ne 6, 25, [], 28, [], 0, 0, 0),
  (25, .bipush (-5), 27, [], 0, [], 0, 0, -5),
  (27, .ireturn, 28, [], 0, [], 0, 0, 0),
  (28, .aload_n 0, 29, [], 0, [], 0, 0, 0),
  (29, .bipush 28, 31, [], 0, [], 0, 0, 28),
  (31, .aload_n 0, 32, [], 0, [], 0, 0, 0),
  (32, .getfield 139, 35, [], 10, [], 14, 83, 0),
  (35, .iadd, 36, [], 0, [], 0, 0, 0),
  (36, .iconst 0, 37, [], 0, [], 0, 0, 0),
  (37, .aload_n 0, 38, [], 0, [], 0, 0, 0),
  (38, .getfield 14, 41, [], 10, [], 2, 53, 0),
  (41, .iconst 0, 42, [], 0, [], 0, 0, 0),
  (42, .iaload, 43, [], 0, [], 0, 0, 0),
  (43, .invokevirtual 132, 46, [], 42, [], 3, 191, 0),
  (46, .aload_n 0, 47, [], 0, [], 0, 0, 0),
  (47, .dup, 48, [], 0, [], 0, 0, 0),
  (48, .getfield 139, 51, [], 10, [], 14, 83, 0),
  (51, .iconst 1, 52, [], 0, [], 0, 0, 1),
  (52, .iadd, 53, [], 0, [], 0, 0, 0),
  (53, .putfield 139, 56, [], 10, [], 14, 83, 0),
  (56, .aload_n 0, 57, [], 0, [], 0, 0, 0),
  (57, .getfield 14, 60, [], 10, [], 2, 53, 0),
  (60, .iconst 0, 61, [], 0, [], 0, 0, 0),
  (61, .iconst 0, 62, [], 0, [], 0, 0, 0),
  (62, .iastore, 63, [], 0, [], 0, 0, 0),
  (63, .aload_n 0, 64, [], 0, [], 0, 0, 0),
  (64, .getfield 139, 67, [], 10, [], 14, 83, 0),
  (67, .ireturn, 68, [], 0, [], 0, 0, 0)]
def t_M_ends : List (Nat × TE) := [
  (0, .aload_n 0, 1, [], 0, [], 0, 0, 0),
  (1, .getfield 8, 4, [], 10, [], 1, 52, 0),
  (4, .aload_n 0, 5, [], 0, [], 0, 0, 0),
  (5, .getfield 20, 8, [], 10, [], 4, 55, 0),
  (8, .iload_n 1, 9, [], 0, [], 0, 0, 0),
  (9, .iaload, 10, [], 0, [], 0, 0, 0),
  (10, .iaload, 11, [], 0, [], 0, 0, 0),
  (11, .istore_n 3, 12, [], 0, [], 0, 0, 0),
  (12, .aload_n 0, 13, [], 0, [], 0, 0, 0),
  (13, .getfield 17, 16, [], 10, [], 3, 54, 0),
  (16, .iload_n 1, 17, [], 0, [], 0, 0, 0),
  (17, .iaload, 18, [], 0, [], 0, 0, 0),
  (18, .iconst 5, 19, [], 0, [], 0, 0, 5),
  (19, .if_icmp .ne 21, 22, [], 40, [0, 1, 2, 3, 4, 5], 0, 0, 0),
  (22, .iload_n 3, 23, [], 0, [], 0, 0, 0),
  (23, .bipush 46, 25, [], 0, [], 0, 0, 46),
  (25, .if_icmp .eq 17, 28, [], 42, [4, 5], 0, 0, 0),
  (28, .iload_n 3, 29, [], 0, [], 0, 0, 0),
  (29, .bipush 33, 31, [], 0, [], 0, 0, 33),
  (31, .if_icmp .eq 11, 34, [], 42, [4, 5], 0, 0, 0),
  (34, .iload_n 3, 35, [], 0, [], 0, 0, 0),
  (35, .bipush 63, 37, [], 0, [], 0, 0, 63),
  (37, .if_icmp .eq 5, 40, [0, 1, 2, 3, 4, 5], 42, [4, 5], 0, 0, 0),
  (40, .iconst 0, 41, [], 0, [], 0, 0, 0),
  (41, .ireturn, 42, [4, 5], 0, [], 0, 0, 0),
  (42, .iload_n 1, 43, [], 0, [], 0, 0, 0),
  (43, .iconst 1, 44, [], 0, [], 0, 0, 1),
  (44, .iadd, 45, [], 0, [], 0, 0, 0),
  (45, .iload_n 2, 46, [], 0, [], 0, 0, 0),
  (46, .if_icmp .ge 18, 49, [], 64, [2, 4, 5], 0, 0, 0),
  (49, .aload_n 0, 50, [], 0, [], 0, 0, 0),
  (50, .getfield 17, 53, [], 10, [], 3, 54, 0),
  (53, .iload_n 1, 54, [], 0, [], 0, 0, 0),
  (54, .iconst 1, 55, [], 0, [], 0, 0, 1),
  (55, .iadd, 56, [], 0, [], 0, 0, 0),
  (56, .iaload, 57, [], 0, [], 0, 0, 0),
  (57, .bipush 6, 59, [], 0, [], 0, 0, 6),
  (59, .if_icmp .eq 5, 62, [], 64, [2, 4, 5], 0, 0, 0),
  (62, .iconst 0, 63, [], 0, [], 0, 0, 0),
  (63, .ireturn, 64, [2, 4, 5], 0, [], 0, 0, 0),
  (64, .iconst 1, 65, [], 0, [], 0, 0, 1),
  (65, .istore 4, 67, [], 0, [], 0, 0, 0),
  (67, .iconst 0, 68, [], 0, [], 0, 0, 0),
  (68, .istore 5, 70, [2], 0, [], 0, 0, 0),
  (70, .iload 5, 72, [], 0, [], 0, 0, 0),
  (72, .aload_n 0, 73, [], 0, [], 0, 0, 0),
  (73, .getfield 129, 76, [], 10, [], 12, 81, 0),
  (76, .if_icmp .ge 43, 79, [], 119, [0, 1, 2, 3, 5], 0, 0, 0),
  (79, .iload_n 3, 80, [], 0, [], 0, 0, 0),
  (80, .bipush 46, 82, [], 0, [], 0, 0, 46),
  (82, .if_icmp .ne 37, 85, [], 119, [0, 1, 2, 3, 5], 0, 0, 0),
  (85, .iload_n 1, 86, [], 0, [], 0, 0, 0),
  (86, .ifCond .le 33, 89, [], 119, [0, 1, 2, 3, 5], 0, 0, 0),
  (89, .iload 4, 91, [], 0, [], 0, 0, 0),
  (91, .ifCond .eq 19, 94, [], 110, [2, 4], 0, 0, 0),
  (94, .aload_n 0, 95, [], 0, [], 0, 0, 0),
  (95, .iload_n 1, 96, [], 0, [], 0, 0, 0),
  (96, .iconst 1, 97, [], 0, [], 0, 0, 1),
  (97, .isub, 98, [], 0, [], 0, 0, 0),
  (98, .iload 5, 100, [], 0, [], 0, 0, 0),
  (100, .invokevirtual 142, 103, [], 84, [], 2, 192, 0),
  (103, .ifCond .ne 7, 106, [], 110, [2, 4], 0, 0, 0),
  (106, .iconst 1, 107, [], 0, [], 0, 0, 1),
  (107, .goto 4, 110, [2, 4], 111, [2, 4], 0, 0, 0),
  (110, .iconst 0, 111, [2, 4], 0, [], 0, 0, 0),
  (111, .istore 4, 113, [], 0, [], 0, 0, 0),
  (113, .iinc 5 1, 116, [], 0, [], 0, 0, 1),
  (116, .goto (-46), 119, [0, 1, 2, 3, 5], 70, [2], 0, 0, 0),
  (119, .iload 4, 121, [], 0, [], 0, 0, 0),
  (121, .ireturn, 122, [], 0, [], 0, 0, 0)]
def t_M_pair : List (Nat × TE) := [
  (0, .aload_n 0, 1, [], 0, [], 0, 0, 0),
  (1, .iload_n 1, 2, [], 0, [], 0, 0, 0),
  (2, .invokevirtual 179, 5, [], 86, [], 1, 193, 0),
  (5, .ifCond .ne 5, 8, [], 10, [], 0, 0, 0),
  (8, .iconst (-1), 9, [], 0, [], 0, 0, -1),
  (9, .ireturn, 10, [], 0, [], 0, 0, 0),
  (10, .aload_n 0, 11, [], 0, [], 0, 0, 0),
  (11, .iload_n 1, 12, [], 0, [], 0, 0, 0),
  (12, .aload_n 0, 13, [], 0, [], 0, 0, 0),
  (13, .getfield 170, 16, [], 10, [], 20, 80, 0),
  (16, .invokevirtual 182, 19, [], 44, [], 2, 158, 0),
  (19, .istore_n 3, 20, [], 0, [], 0, 0, 0),
  (20, .iconst 0, 21, [], 0, [], 0, 0, 0),
  (21, .istore 4, 23, [], 0, [], 0, 0, 0),
  (23, .iload_n 2, 24, [], 0, [], 0, 0, 0),
  (24, .tableswitch 108 0 4 #[36, 45, 55, 97, 104], 60, [], 132, [], 0, 0, 0),
  (60, .aload_n 0, 61, [], 0, [], 0, 0, 0),
  (61, .getfield 14, 64, [], 10, [], 2, 53, 0),
  (64, .iconst 2, 65, [], 0, [], 0, 0, 2),
  (65, .iload_n 1, 66, [], 0, [], 0, 0, 0),
  (66, .iadd, 67, [], 0, [], 0, 0, 0),
  (67, .iaload, 68, [], 0, [], 0, 0, 0),
  (68, .ireturn, 69, [], 0, [], 0, 0, 0),
  (69, .aload_n 0, 70, [], 0, [], 0, 0, 0),
  (70, .getfield 14, 73, [], 10, [], 2, 53, 0),
  (73, .bipush 22, 75, [], 0, [], 0, 0, 22),
  (75, .iload_n 3, 76, [], 0, [], 0, 0, 0),
  (76, .iadd, 77, [], 0, [], 0, 0, 0),
  (77, .iaload, 78, [], 0, [], 0, 0, 0),
  (78, .ireturn, 79, [], 0, [], 0, 0, 0),
  (79, .iconst 0, 80, [], 0, [], 0, 0, 0),
  (80, .istore 5, 82, [2, 3], 0, [], 0, 0, 0),
  (82, .iload 5, 84, [], 0, [], 0, 0, 0),
  (84, .aload_n 0, 85, [], 0, [], 0, 0, 0),
  (85, .getfield 170, 88, [], 10, [], 20, 80, 0),
  (88, .if_icmp .ge 30, 91, [], 118, [], 0, 0, 0),
  (91, .iload 4, 93, [], 0, [], 0, 0, 0),
  (93, .aload_n 0, 94, [], 0, [], 0, 0, 0),
  (94, .getfield 50, 97, [], 10, [], 21, 65, 0),
  (97, .iload 5, 99, [], 0, [], 0, 0, 0),
  (99, .iaload, 100, [], 0, [], 0, 0, 0),
  (100, .iload_n 1, 101, [], 0, [], 0, 0, 0),
  (101, .if_icmp .ne 7, 104, [], 108, [], 0, 0, 0),
  (104, .iconst 1, 105, [], 0, [], 0, 0, 1),
  (105, .goto 4, 108, [], 109, [2, 3, 4], 0, 0, 0),
  (108, .iconst 0, 109, [2, 3, 4], 0, [], 0, 0, 0),
  (109, .iadd, 110, [], 0, [], 0, 0, 0),
  (110, .istore 4, 112, [], 0, [], 0, 0, 0),
  (112, .iinc 5 1, 115, [], 0, [], 0, 0, 1),
  (115, .goto (-33), 118, [], 82, [2, 3], 0, 0, 0),
  (118, .iload 4, 120, [], 0, [], 0, 0, 0),
  (120, .ireturn, 121, [], 0, [], 0, 0, 0),
  (121, .aload_n 0, 122, [], 0, [], 0, 0, 0),
  (122, .getfield 53, 125, [], 10, [], 22, 66, 0),
  (125, .iload_n 3, 126, [], 0, [], 0, 0, 0),
  (126, .iaload, 127, [], 0, [], 0, 0, 0),
  (127, .ireturn, 128, [], 0, [], 0, 0, 0),
  (128, .iload_n 3, 129, [], 0, [], 0, 0, 0),
  (129, .iconst 1, 130, [], 0, [], 0, 0, 1),
  (130, .iadd, 131, [], 0, [], 0, 0, 0),
  (131, .ireturn, 132, [], 0, [], 0, 0, 0),
  (132, .iconst (-1), 133, [], 0, [], 0, 0, -1),
  (133, .ireturn, 134, [], 0, [], 0, 0, 0)]
def t_M_rendered : List (Nat × TE) := [
  (0, .aload_n 0, 1, [], 0, [], 0, 0, 0),
  (1, .iload_n 1, 2, [], 0, [], 0, 0, 0),
  (2, .invokevirtual 179, 5, [], 86, [], 1, 193, 0),
  (5, .ifCond .eq 15, 8, [], 20, [0, 1, 2, 3, 4, 5], 0, 0, 0),
  (8, .iload_n 2, 9, [], 0, [], 0, 0, 0),
  (9, .iconst (-1), 10, [], 0, [], 0, 0, -1),
  (10, .aload_n 0, 11, [], 0, [], 0, 0, 0),
  (11, .getfield 170, 14, [], 10, [], 20, 80, 0),
  (14, .invokestatic 85, 17, [], 33, [], 3, 150, 0),
  (17, .ifCond .ne 5, 20, [0, 1, 2, 3, 4, 5], 22, [], 0, 0, 0),
  (20, .iconst (-1), 21, [], 0, [], 0, 0, -1),
  (21, .ireturn, 22, [], 0, [], 0, 0, 0),
  (22, .aload_n 0, 23, [], 0, [], 0, 0, 0),
  (23, .iload_n 1, 24, [], 0, [], 0, 0, 0),
  (24, .iload_n 2, 25, [], 0, [], 0, 0, 0),
  (25, .invokevirtual 182, 28, [], 44, [], 2, 158, 0),
  (28, .istore 4, 30, [], 0, [], 0, 0, 0),
  (30, .iload_n 2, 31, [], 0, [], 0, 0, 0),
  (31, .ifCond .lt 11, 34, [], 42, [5], 0, 0, 0),
  (34, .iload 4, 36, [], 0, [], 0, 0, 0),
  (36, .iconst (-1), 37, [], 0, [], 0, 0, -1),
  (37, .if_icmp .ne 5, 40, [], 42, [5], 0, 0, 0),
  (40, .iconst (-1), 41, [], 0, [], 0, 0, -1),
  (41, .ireturn, 42, [5], 0, [], 0, 0, 0),
  (42, .iload_n 2, 43, [], 0, [], 0, 0, 0),
  (43, .iconst (-1), 44, [], 0, [], 0, 0, -1),
  (44, .if_icmp .ne 9, 47, [], 53, [], 0, 0, 0),
  (47, .iconst 2, 48, [], 0, [], 0, 0, 2),
  (48, .iload_n 1, 49, [], 0, [], 0, 0, 0),
  (49, .iadd, 50, [], 0, [], 0, 0, 0),
  (50, .goto 8, 53, [], 58, [1, 2, 4, 5], 0, 0, 0),
  (53, .bipush 22, 55, [], 0, [], 0, 0, 22),
  (55, .iload 4, 57, [], 0, [], 0, 0, 0),
  (57, .iadd, 58, [1, 2, 4, 5], 0, [], 0, 0, 0),
  (58, .istore 5, 60, [], 0, [], 0, 0, 0),
  (60, .iload_n 3, 61, [], 0, [], 0, 0, 0),
  (61, .iconst 0, 62, [], 0, [], 0, 0, 0),
  (62, .aload_n 0, 63, [], 0, [], 0, 0, 0),
  (63, .getfield 14, 66, [], 10, [], 2, 53, 0),
  (66, .iload 5, 68, [], 0, [], 0, 0, 0),
  (68, .iaload, 69, [], 0, [], 0, 0, 0),
  (69, .iconst 1, 70, [], 0, [], 0, 0, 1),
  (70, .isub, 71, [], 0, [], 0, 0, 0),
  (71, .invokestatic 85, 74, [], 33, [], 3, 150, 0),
  (74, .ifCond .eq 19, 77, [], 93, [], 0, 0, 0),
  (77, .aload_n 0, 78, [], 0, [], 0, 0, 0),
  (78, .getfield 8, 81, [], 10, [], 1, 52, 0),
  (81, .sipush 600, 84, [], 0, [], 0, 0, 600),
  (84, .iload 5, 86, [], 0, [], 0, 0, 0),
  (86, .imul, 87, [], 0, [], 0, 0, 0),
  (87, .iload_n 3, 88, [], 0, [], 0, 0, 0),
  (88, .iadd, 89, [], 0, [], 0, 0, 0),
  (89, .iaload, 90, [], 0, [], 0, 0, 0),
  (90, .goto 4, 93, [], 94, [0, 1, 2, 3, 4, 5], 0, 0, 0),
  (93, .iconst (-1), 94, [0, 1, 2, 3, 4, 5], 0, [], 0, 0, -1),
  (94, .ireturn, 95, [], 0, [], 0, 0, 0)]
def t_M_like : List (Nat × TE) := [
  (0, .aload_n 0, 1, [], 0, [], 0, 0, 0),
  (1, .getfield 29, 4, [], 10, [], 7, 58, 0),
  (4, .iconst 0, 5, [], 0, [], 0, 0, 0),
  (5, .iaload, 6, [], 0, [], 0, 0, 0),
  (6, .aload_n 0, 7, [], 0, [], 0, 0, 0),
  (7, .getfield 29, 10, [], 10, [], 7, 58, 0),
  (10, .iconst 1, 11, [], 0, [], 0, 0, 1),
  (11, .iaload, 12, [], 0, [], 0, 0, 0),
  (12, .if_icmp .ne 7, 15, [], 19, [], 0, 0, 0),
  (15, .iconst 1, 16, [], 0, [], 0, 0, 1),
  (16, .goto 4, 19, [], 20, [1, 2, 3, 4], 0, 0, 0),
  (19, .iconst 0, 20, [1, 2, 3, 4], 0, [], 0, 0, 0),
  (20, .istore_n 1, 21, [], 0, [], 0, 0, 0),
  (21, .iconst 0, 22, [], 0, [], 0, 0, 0),
  (22, .istore_n 2, 23, [3, 4], 0, [], 0, 0, 0),
  (23, .iload_n 2, 24, [], 0, [], 0, 0, 0),
  (24, .aload_n 0, 25, [], 0, [], 0, 0, 0),
  (25, .getfield 29, 28, [], 10, [], 7, 58, 0),
  (28, .iconst 0, 29, [], 0, [], 0, 0, 0),
  (29, .iaload, 30, [], 0, [], 0, 0, 0),
  (30, .if_icmp .ge 136, 33, [], 166, [0, 2, 3, 4], 0, 0, 0),
  (33, .iload_n 1, 34, [], 0, [], 0, 0, 0),
  (34, .ifCond .eq 132, 37, [], 166, [0, 2, 3, 4], 0, 0, 0),
  (37, .iconst 0, 38, [], 0, [], 0, 0, 0),
  (38, .iload_n 2, 39, [], 0, [], 0, 0, 0),
  (39, .iadd, 40, [], 0, [], 0, 0, 0),
  (40, .istore_n 3, 41, [], 0, [], 0, 0, 0),
  (41, .sipush 600, 44, [], 0, [], 0, 0, 600),
  (44, .iload_n 2, 45, [], 0, [], 0, 0, 0),
  (45, .iadd, 46, [], 0, [], 0, 0, 0),
  (46, .istore 4, 48, [], 0, [], 0, 0, 0),
  (48, .aload_n 0, 49, [], 0, [], 0, 0, 0),
  (49, .getfield 17, 52, [], 10, [], 3, 54, 0),
  (52, .iload_n 3, 53, [], 0, [], 0, 0, 0),
  (53, .iaload, 54, [], 0, [], 0, 0, 0),
  (54, .aload_n 0, 55, [], 0, [], 0, 0, 0),
  (55, .getfield 17, 58, [], 10, [], 3, 54, 0),
  (58, .iload 4, 60, [], 0, [], 0, 0, 0),
  (60, .iaload, 61, [], 0, [], 0, 0, 0),
  (61, .if_icmp .ne 7, 64, [], 68, [], 0, 0, 0),
  (64, .iconst 1, 65, [], 0, [], 0, 0, 1),
  (65, .goto 4, 68, [], 69, [1], 0, 0, 0),
  (68, .iconst 0, 69, [1], 0, [], 0, 0, 0),
  (69, .istore_n 1, 70, [], 0, [], 0, 0, 0),
  (70, .iload_n 1, 71, [], 0, [], 0, 0, 0),
  (71, .ifCond .eq 43, 74, [], 114, [], 0, 0, 0),
  (74, .aload_n 0, 75, [], 0, [], 0, 0, 0),
  (75, .getfield 17, 78, [], 10, [], 3, 54, 0),
  (78, .iload_n 3, 79, [], 0, [], 0, 0, 0),
  (79, .iaload, 80, [], 0, [], 0, 0, 0),
  (80, .ifCond .ne 34, 83, [], 114, [], 0, 0, 0),
  (83, .aload_n 0, 84, [], 0, [], 0, 0, 0),
  (84, .aload_n 0, 85, [], 0, [], 0, 0, 0),
  (85, .getfield 20, 88, [], 10, [], 4, 55, 0),
  (88, .iload_n 3, 89, [], 0, [], 0, 0, 0),
  (89, .iaload, 90, [], 0, [], 0, 0, 0),
  (90, .aload_n 0, 91, [], 0, [], 0, 0, 0),
  (91, .getfield 23, 94, [], 10, [], 5, 56, 0),
  (94, .iload_n 3, 95, [], 0, [], 0, 0, 0),
  (95, .iaload, 96, [], 0, [], 0, 0, 0),
  (96, .aload_n 0, 97, [], 0, [], 0, 0, 0),
  (97, .getfield 20, 100, [], 10, [], 4, 55, 0),
  (100, .iload 4, 102, [], 0, [], 0, 0, 0),
  (102, .iaload, 103, [], 0, [], 0, 0, 0),
  (103, .aload_n 0, 104, [], 0, [], 0, 0, 0),
  (104, .getfield 23, 107, [], 10, [], 5, 56, 0),
  (107, .iload 4, 109, [], 0, [], 0, 0, 0),
  (109, .iaload, 110, [], 0, [], 0, 0, 0),
  (110, .invokevirtual 185, 113, [], 82, [], 4, 194, 0),
  (113, .istore_n 1, 114, [], 0, [], 0, 0, 0),
  (114, .iload_n 1, 115, [], 0, [], 0, 0, 0),
  (115, .ifCond .eq 45, 118, [], 160, [3, 4], 0, 0, 0),
  (118, .aload_n 0, 119, [], 0, [], 0, 0, 0),
  (119, .getfield 17, 122, [], 10, [], 3, 54, 0),
  (122, .iload_n 3, 123, [], 0, [], 0, 0, 0),
  (123, .iaload, 124, [], 0, [], 0, 0, 0),
  (124, .iconst 5, 125, [], 0, [], 0, 0, 5),
  (125, .if_icmp .ne 35, 128, [], 160, [3, 4], 0, 0, 0),
  (128, .aload_n 0, 129, [], 0, [], 0, 0, 0),
  (129, .getfield 8, 132, [], 10, [], 1, 52, 0),
  (132, .aload_n 0, 133, [], 0, [], 0, 0, 0),
  (133, .getfield 20, 136, [], 10, [], 4, 55, 0),
  (136, .iload_n 3, 137, [], 0, [], 0, 0, 0),
  (137, .iaload, 138, [], 0, [], 0, 0, 0),
  (138, .iaload, 139, [], 0, [], 0, 0, 0),
  (139, .aload_n 0, 140, [], 0, [], 0, 0, 0),
  (140, .getfield 8, 143, [], 10, [], 1, 52, 0),
  (143, .aload_n 0, 144, [], 0, [], 0, 0, 0),
  (144, .getfield 20, 147, [], 10, [], 4, 55, 0),
  (147, .iload 4, 149, [], 0, [], 0, 0, 0),
  (149, .iaload, 150, [], 0, [], 0, 0, 0),
  (150, .iaload, 151, [], 0, [], 0, 0, 0),
  (151, .if_icmp .ne 7, 154, [], 158, [], 0, 0, 0),
  (154, .iconst 1, 155, [], 0, [], 0, 0, 1),
  (155, .goto 4, 158, [], 159, [1, 3, 4], 0, 0, 0),
  (158, .iconst 0, 159, [1, 3, 4], 0, [], 0, 0, 0),
  (159, .istore_n 1, 160, [3, 4], 0, [], 0, 0, 0),
  (160, .iinc 2 1, 163, [], 0, [], 0, 0, 1),
  (163, .goto (-140), 166, [0, 2, 3, 4], 23, [3, 4], 0, 0, 0),
  (166, .iload_n 1, 167, [], 0, [], 0, 0, 0),
  (167, .ireturn, 168, [], 0, [], 0, 0, 0)]
def t_M_keepCost : List (Nat × TE) := [
  (0, .aload_n 0, 1, [], 0, [], 0, 0, 0),
  (1, .getfield 17, 4, [], 10, [], 3, 54, 0),
  (4, .iload_n 1, 5, [], 0, [], 0, 0, 0),
  (5, .iaload, 6, [], 0, [], 0, 0, 0),
  (6, .aload_n 0, 7, [], 0, [], 0, 0, 0),
  (7, .getfield 17, 10, [], 10, [], 3, 54, 0),
  (10, .iload_n 2, 11, [], 0, [], 0, 0, 0),
  (11, .iaload, 12, [], 0, [], 0, 0, 0),
  (12, .if_icmp .ne 14, 15, [], 26, [], 0, 0, 0),
  (15, .aload_n 0, 16, [], 0, [], 0, 0, 0),
  (16, .iload_n 1, 17, [], 0, [], 0, 0, 0),
  (17, .iload_n 2, 18, [], 0, [], 0, 0, 0),
  (18, .invokevirtual 196, 21, [], 41, [], 2, 195, 0),
  (21, .ifCond .eq 5, 24, [], 26, [], 0, 0, 0),
  (24, .iconst 0, 25, [], 0, [], 0, 0, 0),
  (25, .ireturn, 26, [], 0, [], 0, 0, 0),
  (26, .aload_n 0, 27, [], 0, [], 0, 0, 0),
  (27, .getfield 17, 30, [], 10, [], 3, 54, 0),
  (30, .iload_n 1, 31, [], 0, [], 0, 0, 0),
  (31, .iaload, 32, [], 0, [], 0, 0, 0),
  (32, .aload_n 0, 33, [], 0, [], 0, 0, 0),
  (33, .getfield 17, 36, [], 10, [], 3, 54, 0),
  (36, .iload_n 2, 37, [], 0, [], 0, 0, 0),
  (37, .iaload, 38, [], 0, [], 0, 0, 0),
  (38, .if_icmp .eq 6, 41, [], 44, [], 0, 0, 0),
  (41, .bipush 10, 43, [], 0, [], 0, 0, 10),
  (43, .ireturn, 44, [], 0, [], 0, 0, 0),
  (44, .aload_n 0, 45, [], 0, [], 0, 0, 0),
  (45, .getfield 17, 48, [], 10, [], 3, 54, 0),
  (48, .iload_n 1, 49, [], 0, [], 0, 0, 0),
  (49, .iaload, 50, [], 0, [], 0, 0, 0),
  (50, .ifCond .ne 41, 53, [], 91, [], 0, 0, 0),
  (53, .aload_n 0, 54, [], 0, [], 0, 0, 0),
  (54, .aload_n 0, 55, [], 0, [], 0, 0, 0),
  (55, .getfield 20, 58, [], 10, [], 4, 55, 0),
  (58, .iload_n 1, 59, [], 0, [], 0, 0, 0),
  (59, .iaload, 60, [], 0, [], 0, 0, 0),
  (60, .aload_n 0, 61, [], 0, [], 0, 0, 0),
  (61, .getfield 23, 64, [], 10, [], 5, 56, 0),
  (64, .iload_n 1, 65, [], 0, [], 0, 0, 0),
  (65, .iaload, 66, [], 0, [], 0, 0, 0),
  (66, .aload_n 0, 67, [], 0, [], 0, 0, 0),
  (67, .getfield 20, 70, [], 10, [], 4, 55, 0),
  (70, .iload_n 2, 71, [], 0, [], 0, 0, 0),
  (71, .iaload, 72, [], 0, [], 0, 0, 0),
  (72, .aload_n 0, 73, [], 0, [], 0, 0, 0),
  (73, .getfield 23, 76, [], 10, [], 5, 56, 0),
  (76, .iload_n 2, 77, [], 0, [], 0, 0, 0),
  (77, .iaload, 78, [], 0, [], 0, 0, 0),
  (78, .invokevirtual 185, 81, [], 82, [], 4, 194, 0),
  (81, .ifCond .eq 7, 84, [], 88, [], 0, 0, 0),
  (84, .iconst 1, 85, [], 0, [], 0, 0, 1),
  (85, .goto 5, 88, [], 90, [0, 1, 2], 0, 0, 0),
  (88, .bipush 10, 90, [0, 1, 2], 0, [], 0, 0, 10),
  (90, .ireturn, 91, [], 0, [], 0, 0, 0),
  (91, .aload_n 0, 92, [], 0, [], 0, 0, 0),
  (92, .getfield 17, 95, [], 10, [], 3, 54, 0),
  (95, .iload_n 1, 96, [], 0, [], 0, 0, 0),
  (96, .iaload, 97, [], 0, [], 0, 0, 0),
  (97, .iconst 5, 98, [], 0, [], 0, 0, 5),
  (98, .if_icmp .ne 8, 101, [], 106, [], 0, 0, 0),
  (101, .bipush 10, 103, [], 0, [], 0, 0, 10),
  (103, .goto 4, 106, [], 107, [0, 1, 2], 0, 0, 0),
  (106, .iconst 2, 107, [0, 1, 2], 0, [], 0, 0, 2),
  (107, .ireturn, 108, [], 0, [], 0, 0, 0)]
def t_M_loneCost : List (Nat × TE) := [
  (0, .aload_n 0, 1, [], 0, [], 0, 0, 0),
  (1, .getfield 17, 4, [], 10, [], 3, 54, 0),
  (4, .iload_n 1, 5, [], 0, [], 0, 0, 0),
  (5, .iaload, 6, [], 0, [], 0, 0, 0),
  (6, .invokestatic 199, 9, [], 80, [], 1, 196, 0),
  (9, .ifCond .eq 7, 12, [], 16, [], 0, 0, 0),
  (12, .iconst 4, 13, [], 0, [], 0, 0, 4),
  (13, .goto 5, 16, [], 18, [0, 1], 0, 0, 0),
  (16, .bipush 10, 18, [0, 1], 0, [], 0, 0, 10),
  (18, .ireturn, 19, [], 0, [], 0, 0, 0)]
def t_M_maps : List (Nat × TE) := [
  (0, .iconst 0, 1, [], 0, [], 0, 0, 0),
  (1, .istore_n 1, 2, [2, 3], 0, [], 0, 0, 0),
  (2, .iload_n 1, 3, [], 0, [], 0, 0, 0),
  (3, .bipush 10, 5, [], 0, [], 0, 0, 10),
  (5, .if_icmp .ge 16, 8, [], 21, [], 0, 0, 0),
  (8, .aload_n 0, 9, [], 0, [], 0, 0, 0),
  (9, .getfield 71, 12, [], 10, [], 29, 72, 0),
  (12, .iload_n 1, 13, [], 0, [], 0, 0, 0),
  (13, .iconst (-1), 14, [], 0, [], 0, 0, -1),
  (14, .iastore, 15, [], 0, [], 0, 0, 0),
  (15, .iinc 1 1, 18, [], 0, [], 0, 0, 1),
  (18, .goto (-16), 21, [], 2, [2, 3], 0, 0, 0),
  (21, .iconst 0, 22, [], 0, [], 0, 0, 0),
  (22, .istore_n 1, 23, [2, 3], 0, [], 0, 0, 0),
  (23, .iload_n 1, 24, [], 0, [], 0, 0, 0),
  (24, .aload_n 0, 25, [], 0, [], 0, 0, 0),
  (25, .getfield 29, 28, [], 10, [], 7, 58, 0),
  (28, .iconst 0, 29, [], 0, [], 0, 0, 0),
  (29, .iaload, 30, [], 0, [], 0, 0, 0),
  (30, .if_icmp .ge 86, 33, [], 116, [], 0, 0, 0),
  (33, .aload_n 0, 34, [], 0, [], 0, 0, 0),
  (34, .getfield 17, 37, [], 10, [], 3, 54, 0),
  (37, .iconst 0, 38, [], 0, [], 0, 0, 0),
  (38, .iload_n 1, 39, [], 0, [], 0, 0, 0),
  (39, .iadd, 40, [], 0, [], 0, 0, 0),
  (40, .iaload, 41, [], 0, [], 0, 0, 0),
  (41, .invokestatic 199, 44, [], 80, [], 1, 196, 0),
  (44, .ifCond .ne 6, 47, [], 50, [], 0, 0, 0),
  (47, .goto 63, 50, [], 110, [2, 3], 0, 0, 0),
  (50, .aload_n 0, 51, [], 0, [], 0, 0, 0),
  (51, .getfield 8, 54, [], 10, [], 1, 52, 0),
  (54, .aload_n 0, 55, [], 0, [], 0, 0, 0),
  (55, .iconst 0, 56, [], 0, [], 0, 0, 0),
  (56, .iload_n 1, 57, [], 0, [], 0, 0, 0),
  (57, .iadd, 58, [], 0, [], 0, 0, 0),
  (58, .invokevirtual 119, 61, [], 40, [], 1, 154, 0),
  (61, .iaload, 62, [], 0, [], 0, 0, 0),
  (62, .bipush 48, 64, [], 0, [], 0, 0, 48),
  (64, .isub, 65, [], 0, [], 0, 0, 0),
  (65, .istore_n 2, 66, [], 0, [], 0, 0, 0),
  (66, .aload_n 0, 67, [], 0, [], 0, 0, 0),
  (67, .getfield 8, 70, [], 10, [], 1, 52, 0),
  (70, .aload_n 0, 71, [], 0, [], 0, 0, 0),
  (71, .sipush 600, 74, [], 0, [], 0, 0, 600),
  (74, .iload_n 1, 75, [], 0, [], 0, 0, 0),
  (75, .iadd, 76, [], 0, [], 0, 0, 0),
  (76, .invokevirtual 119, 79, [], 40, [], 1, 154, 0),
  (79, .iaload, 80, [], 0, [], 0, 0, 0),
  (80, .istore_n 3, 81, [], 0, [], 0, 0, 0),
  (81, .aload_n 0, 82, [], 0, [], 0, 0, 0),
  (82, .getfield 71, 85, [], 10, [], 29, 72, 0),
  (85, .iload_n 2, 86, [], 0, [], 0, 0, 0),
  (86, .iaload, 87, [], 0, [], 0, 0, 0),
  (87, .iconst (-1), 88, [], 0, [], 0, 0, -1),
  (88, .if_icmp .eq 15, 91, [], 103, [], 0, 0, 0),
  (91, .aload_n 0, 92, [], 0, [], 0, 0, 0),
  (92, .getfield 71, 95, [], 10, [], 29, 72, 0),
  (95, .iload_n 2, 96, [], 0, [], 0, 0, 0),
  (96, .iaload, 97, [], 0, [], 0, 0, 0),
  (97, .iload_n 3, 98, [], 0, [], 0, 0, 0),
  (98, .if_icmp .eq 5, 101, [], 103, [], 0, 0, 0),
  (101, .iconst 0, 102, [], 0, [], 0, 0, 0),
  (102, .ireturn, 103, [], 0, [], 0, 0, 0),
  (103, .aload_n 0, 104, [], 0, [], 0, 0, 0),
  (104, .getfield 71, 107, [], 10, [], 29, 72, 0),
  (107, .iload_n 2, 108, [], 0, [], 0, 0, 0),
  (108, .iload_n 3, 109, [], 0, [], 0, 0, 0),
  (109, .iastore, 110, [2, 3], 0, [], 0, 0, 0),
  (110, .iinc 1 1, 113, [], 0, [], 0, 0, 1),
  (113, .goto (-90), 116, [], 23, [2, 3], 0, 0, 0),
  (116, .iconst 1, 117, [], 0, [], 0, 0, 1),
  (117, .ireturn, 118, [], 0, [], 0, 0, 0)]
def t_M_patches : List (Nat × TE) := [
  (0, .aload_n 0, 1, [], 0, [], 0, 0, 0),
  (1, .getfield 17, 4, [], 10, [], 3, 54, 0),
  (4, .iload_n 1, 5, [], 0, [], 0, 0, 0),
  (5, .iaload, 6, [], 0, [], 0, 0, 0),
  (6, .iconst 1, 7, [], 0, [], 0, 0, 1),
  (7, .if_icmp .ne 121, 10, [], 128, [], 0, 0, 0),
  (10, .iconst 0, 11, [], 0, [], 0, 0, 0),
  (11, .istore_n 2, 12, [3, 4], 0, [], 0, 0, 0),
  (12, .iload_n 2, 13, [], 0, [], 0, 0, 0),
  (13, .aload_n 0, 14, [], 0, [], 0, 0, 0),
  (14, .getfield 29, 17, [], 10, [], 7, 58, 0),
  (17, .iconst 0, 18, [], 0, [], 0, 0, 0),
  (18, .iaload, 19, [], 0, [], 0, 0, 0),
  (19, .if_icmp .ge 29, 22, [], 48, [1, 3, 4], 0, 0, 0),
  (22, .aload_n 0, 23, [], 0, [], 0, 0, 0),
  (23, .getfield 74, 26, [], 10, [], 30, 73, 0),
  (26, .iload_n 2, 27, [], 0, [], 0, 0, 0),
  (27, .baload, 28, [], 0, [], 102, 0, 0),
  (28, .ifCond .ne 14, 31, [], 42, [3, 4], 0, 0, 0),
  (31, .aload_n 0, 32, [], 0, [], 0, 0, 0),
  (32, .iconst 0, 33, [], 0, [], 0, 0, 0),
  (33, .iload_n 2, 34, [], 0, [], 0, 0, 0),
  (34, .iadd, 35, [], 0, [], 0, 0, 0),
  (35, .iload_n 1, 36, [], 0, [], 0, 0, 0),
  (36, .invokevirtual 225, 39, [], 47, [], 2, 197, 0),
  (39, .ifCond .ne 9, 42, [3, 4], 48, [1, 3, 4], 0, 0, 0),
  (42, .iinc 2 1, 45, [], 0, [], 0, 0, 1),
  (45, .goto (-33), 48, [1, 3, 4], 12, [3, 4], 0, 0, 0),
  (48, .iload_n 2, 49, [], 0, [], 0, 0, 0),
  (49, .aload_n 0, 50, [], 0, [], 0, 0, 0),
  (50, .getfield 29, 53, [], 10, [], 7, 58, 0),
  (53, .iconst 0, 54, [], 0, [], 0, 0, 0),
  (54, .iaload, 55, [], 0, [], 0, 0, 0),
  (55, .if_icmp .ne 5, 58, [], 60, [], 0, 0, 0),
  (58, .iconst 0, 59, [], 0, [], 0, 0, 0),
  (59, .ireturn, 60, [], 0, [], 0, 0, 0),
  (60, .aload_n 0, 61, [], 0, [], 0, 0, 0),
  (61, .getfield 74, 64, [], 10, [], 30, 73, 0),
  (64, .iload_n 2, 65, [], 0, [], 0, 0, 0),
  (65, .iconst 1, 66, [], 0, [], 0, 0, 1),
  (66, .bastore, 67, [], 0, [], 102, 0, 0),
  (67, .iconst 0, 68, [], 0, [], 0, 0, 0),
  (68, .istore_n 3, 69, [1, 4], 0, [], 0, 0, 0),
  (69, .iload_n 3, 70, [], 0, [], 0, 0, 0),
  (70, .aload_n 0, 71, [], 0, [], 0, 0, 0),
  (71, .getfield 23, 74, [], 10, [], 5, 56, 0),
  (74, .sipush 600, 77, [], 0, [], 0, 0, 600),
  (77, .iload_n 2, 78, [], 0, [], 0, 0, 0),
  (78, .iadd, 79, [], 0, [], 0, 0, 0),
  (79, .iaload, 80, [], 0, [], 0, 0, 0),
  (80, .if_icmp .ge 46, 83, [], 126, [], 0, 0, 0),
  (83, .aload_n 0, 84, [], 0, [], 0, 0, 0),
  (84, .getfield 8, 87, [], 10, [], 1, 52, 0),
  (87, .aload_n 0, 88, [], 0, [], 0, 0, 0),
  (88, .getfield 20, 91, [], 10, [], 4, 55, 0),
  (91, .sipush 600, 94, [], 0, [], 0, 0, 600),
  (94, .iload_n 2, 95, [], 0, [], 0, 0, 0),
  (95, .iadd, 96, [], 0, [], 0, 0, 0),
  (96, .iaload, 97, [], 0, [], 0, 0, 0),
  (97, .iload_n 3, 98, [], 0, [], 0, 0, 0),
  (98, .iadd, 99, [], 0, [], 0, 0, 0),
  (99, .iaload, 100, [], 0, [], 0, 0, 0),
  (100, .istore 4, 102, [], 0, [], 0, 0, 0),
  (102, .aload_n 0, 103, [], 0, [], 0, 0, 0),
  (103, .iload 4, 105, [], 0, [], 0, 0, 0),
  (105, .bipush 46, 107, [], 0, [], 0, 0, 46),
  (107, .if_icmp .ne 8, 110, [], 115, [], 0, 0, 0),
  (110, .bipush 44, 112, [], 0, [], 0, 0, 44),
  (112, .goto 5, 115, [], 117, [1, 4], 0, 0, 0),
  (115, .iload 4, 117, [1, 4], 0, [], 0, 0, 0),
  (117, .invokevirtual 228, 120, [], 46, [], 1, 198, 0),
  (120, .iinc 3 1, 123, [], 0, [], 0, 0, 1),
  (123, .goto (-54), 126, [], 69, [1, 4], 0, 0, 0),
  (126, .iconst 1, 127, [], 0, [], 0, 0, 1),
  (127, .ireturn, 128, [], 0, [], 0, 0, 0),
  (128, .iconst 0, 129, [], 0, [], 0, 0, 0),
  (129, .istore_n 2, 130, [3, 4], 0, [], 0, 0, 0),
  (130, .iload_n 2, 131, [], 0, [], 0, 0, 0),
  (131, .aload_n 0, 132, [], 0, [], 0, 0, 0),
  (132, .getfield 23, 135, [], 10, [], 5, 56, 0),
  (135, .iload_n 1, 136, [], 0, [], 0, 0, 0),
  (136, .iaload, 137, [], 0, [], 0, 0, 0),
  (137, .if_icmp .ge 80, 140, [], 217, [], 0, 0, 0),
  (140, .aload_n 0, 141, [], 0, [], 0, 0, 0),
  (141, .getfield 8, 144, [], 10, [], 1, 52, 0),
  (144, .aload_n 0, 145, [], 0, [], 0, 0, 0),
  (145, .getfield 20, 148, [], 10, [], 4, 55, 0),
  (148, .iload_n 1, 149, [], 0, [], 0, 0, 0),
  (149, .iaload, 150, [], 0, [], 0, 0, 0),
  (150, .iload_n 2, 151, [], 0, [], 0, 0, 0),
  (151, .iadd, 152, [], 0, [], 0, 0, 0),
  (152, .iaload, 153, [], 0, [], 0, 0, 0),
  (153, .istore_n 3, 154, [], 0, [], 0, 0, 0),
  (154, .aload_n 0, 155, [], 0, [], 0, 0, 0),
  (155, .getfield 17, 158, [], 10, [], 3, 54, 0),
  (158, .iload_n 1, 159, [], 0, [], 0, 0, 0),
  (159, .iaload, 160, [], 0, [], 0, 0, 0),
  (160, .invokestatic 199, 163, [], 80, [], 1, 196, 0),
  (163, .ifCond .eq 31, 166, [], 194, [4], 0, 0, 0),
  (166, .aload_n 0, 167, [], 0, [], 0, 0, 0),
  (167, .getfield 20, 170, [], 10, [], 4, 55, 0),
  (170, .iload_n 1, 171, [], 0, [], 0, 0, 0),
  (171, .iaload, 172, [], 0, [], 0, 0, 0),
  (172, .iload_n 2, 173, [], 0, [], 0, 0, 0),
  (173, .iadd, 174, [], 0, [], 0, 0, 0),
  (174, .aload_n 0, 175, [], 0, [], 0, 0, 0),
  (175, .iload_n 1, 176, [], 0, [], 0, 0, 0),
  (176, .invokevirtual 119, 179, [], 40, [], 1, 154, 0),
  (179, .if_icmp .ne 15, 182, [], 194, [4], 0, 0, 0),
  (182, .aload_n 0, 183, [], 0, [], 0, 0, 0),
  (183, .getfield 71, 186, [], 10, [], 29, 72, 0),
  (186, .iload_n 3, 187, [], 0, [], 0, 0, 0),
  (187, .bipush 48, 189, [], 0, [], 0, 0, 48),
  (189, .isub, 190, [], 0, [], 0, 0, 0),
  (190, .iaload, 191, [], 0, [], 0, 0, 0),
  (191, .goto 4, 194, [4], 195, [3, 4], 0, 0, 0),
  (194, .iload_n 3, 195, [3, 4], 0, [], 0, 0, 0),
  (195, .istore 4, 197, [], 0, [], 0, 0, 0),
  (197, .iload 4, 199, [], 0, [], 0, 0, 0),
  (199, .iconst (-1), 200, [], 0, [], 0, 0, -1),
  (200, .if_icmp .ne 5, 203, [], 205, [], 0, 0, 0),
  (203, .iconst 0, 204, [], 0, [], 0, 0, 0),
  (204, .ireturn, 205, [], 0, [], 0, 0, 0),
  (205, .aload_n 0, 206, [], 0, [], 0, 0, 0),
  (206, .iload 4, 208, [], 0, [], 0, 0, 0),
  (208, .invokevirtual 228, 211, [], 46, [], 1, 198, 0),
  (211, .iinc 2 1, 214, [], 0, [], 0, 0, 1),
  (214, .goto (-84), 217, [], 130, [3, 4], 0, 0, 0),
  (217, .iconst 1, 218, [], 0, [], 0, 0, 1),
  (218, .ireturn, 219, [], 0, [], 0, 0, 0)]
def t_M_often : List (Nat × TE) := [
  (0, .iconst 0, 1, [], 0, [], 0, 0, 0),
  (1, .istore_n 3, 2, [], 0, [], 0, 0, 0),
  (2, .iconst 0, 3, [], 0, [], 0, 0, 0),
  (3, .istore 4, 5, [], 0, [], 0, 0, 0),
  (5, .iload 4, 7, [], 0, [], 0, 0, 0),
  (7, .aload_n 0, 8, [], 0, [], 0, 0, 0),
  (8, .getfield 29, 11, [], 10, [], 7, 58, 0),
  (11, .iload_n 1, 12, [], 0, [], 0, 0, 0),
  (12, .iaload, 13, [], 0, [], 0, 0, 0),
  (13, .if_icmp .ge 33, 16, [], 46, [], 0, 0, 0),
  (16, .iload_n 3, 17, [], 0, [], 0, 0, 0),
  (17, .aload_n 0, 18, [], 0, [], 0, 0, 0),
  (18, .sipush 600, 21, [], 0, [], 0, 0, 600),
  (21, .iload_n 1, 22, [], 0, [], 0, 0, 0),
  (22, .imul, 23, [], 0, [], 0, 0, 0),
  (23, .iload 4, 25, [], 0, [], 0, 0, 0),
  (25, .iadd, 26, [], 0, [], 0, 0, 0),
  (26, .iload_n 2, 27, [], 0, [], 0, 0, 0),
  (27, .invokevirtual 142, 30, [], 84, [], 2, 192, 0),
  (30, .ifCond .eq 7, 33, [], 37, [], 0, 0, 0),
  (33, .iconst 1, 34, [], 0, [], 0, 0, 1),
  (34, .goto 4, 37, [], 38, [3], 0, 0, 0),
  (37, .iconst 0, 38, [3], 0, [], 0, 0, 0),
  (38, .iadd, 39, [], 0, [], 0, 0, 0),
  (39, .istore_n 3, 40, [], 0, [], 0, 0, 0),
  (40, .iinc 4 1, 43, [], 0, [], 0, 0, 1),
  (43, .goto (-38), 46, [], 5, [], 0, 0, 0),
  (46, .iload_n 3, 47, [], 0, [], 0, 0, 0),
  (47, .ireturn, 48, [], 0, [], 0, 0, 0)]
def t_Ladder_tell : List (Nat × TE) := [
  (0, .aload_n 0, 1, [], 0, [], 0, 0, 0),
  (1, .aload_n 1, 2, [], 0, [], 0, 0, 0),
  (2, .aload_n 2, 3, [], 0, [], 0, 0, 0),
  (3, .invokevirtual 45, 6, [], 90, [], 2, 199, 0),
  (6, .pop, 7, [], 0, [], 0, 0, 0),
  (7, .aload_n 0, 8, [], 0, [], 0, 0, 0),
  (8, .iconst 0, 9, [], 0, [], 0, 0, 0),
  (9, .putfield 49, 12, [], 1, [], 4, 5, 0),
  (12, .iconst 0, 13, [], 0, [], 0, 0, 0),
  (13, .istore_n 3, 14, [], 0, [], 0, 0, 0),
  (14, .iconst 0, 15, [], 0, [], 0, 0, 0),
  (15, .istore 4, 17, [5, 6], 0, [], 0, 0, 0),
  (17, .aload_n 0, 18, [], 0, [], 0, 0, 0),
  (18, .getfield 49, 21, [], 1, [], 4, 5, 0),
  (21, .aload_n 0, 22, [], 0, [], 0, 0, 0),
  (22, .getfield 15, 25, [], 1, [], 1, 2, 0),
  (25, .arraylength, 26, [], 0, [], 0, 0, 0),
  (26, .if_icmp .ge 183, 29, [], 209, [0, 1, 2, 3, 4, 5, 6], 0, 0, 0),
  (29, .iload_n 3, 30, [], 0, [], 0, 0, 0),
  (30, .aload_n 1, 31, [], 0, [], 0, 0, 0),
  (31, .getfield 24, 34, [], 6, [], 7, 159, 0),
  (34, .if_icmp .lt 12, 37, [], 46, [5, 6], 0, 0, 0),
  (37, .iload 4, 39, [], 0, [], 0, 0, 0),
  (39, .aload_n 2, 40, [], 0, [], 0, 0, 0),
  (40, .getfield 24, 43, [], 6, [], 7, 159, 0),
  (43, .if_icmp .ge 166, 46, [5, 6], 209, [0, 1, 2, 3, 4, 5, 6], 0, 0, 0),
  (46, .aload_n 0, 47, [], 0, [], 0, 0, 0),
  (47, .getfield 11, 50, [], 1, [], 0, 1, 0),
  (50, .iload_n 3, 51, [], 0, [], 0, 0, 0),
  (51, .bipush 21, 53, [], 0, [], 0, 0, 21),
  (53, .imul, 54, [], 0, [], 0, 0, 0),
  (54, .iload 4, 56, [], 0, [], 0, 0, 0),
  (56, .iadd, 57, [], 0, [], 0, 0, 0),
  (57, .iaload, 58, [], 0, [], 0, 0, 0),
  (58, .istore 5, 60, [], 0, [], 0, 0, 0),
  (60, .iload_n 3, 61, [], 0, [], 0, 0, 0),
  (61, .aload_n 1, 62, [], 0, [], 0, 0, 0),
  (62, .getfield 24, 65, [], 6, [], 7, 159, 0),
  (65, .if_icmp .ge 23, 68, [], 88, [6], 0, 0, 0),
  (68, .iload 4, 70, [], 0, [], 0, 0, 0),
  (70, .aload_n 2, 71, [], 0, [], 0, 0, 0),
  (71, .getfield 24, 74, [], 6, [], 7, 159, 0),
  (74, .if_icmp .ge 14, 77, [], 88, [6], 0, 0, 0),
  (77, .aload_n 1, 78, [], 0, [], 0, 0, 0),
  (78, .iload_n 3, 79, [], 0, [], 0, 0, 0),
  (79, .aload_n 2, 80, [], 0, [], 0, 0, 0),
  (80, .iload 4, 82, [], 0, [], 0, 0, 0),
  (82, .invokevirtual 31, 85, [], 62, [], 3, 161, 0),
  (85, .goto 5, 88, [6], 90, [6], 0, 0, 0),
  (88, .ldc 30, 90, [6], 1000000, [], 0, 160, 1000000),
  (90, .istore 6, 92, [], 0, [], 0, 0, 0),
  (92, .iload 6, 94, [], 0, [], 0, 0, 0),
  (94, .ldc 30, 96, [], 1000000, [], 0, 160, 1000000),
  (96, .if_icmp .eq 53, 99, [], 149, [6], 0, 0, 0),
  (99, .iload 6, 101, [], 0, [], 0, 0, 0),
  (101, .aload_n 0, 102, [], 0, [], 0, 0, 0),
  (102, .getfield 11, 105, [], 1, [], 0, 1, 0),
  (105, .iload_n 3, 106, [], 0, [], 0, 0, 0),
  (106, .iconst 1, 107, [], 0, [], 0, 0, 1),
  (107, .iadd, 108, [], 0, [], 0, 0, 0),
  (108, .bipush 21, 110, [], 0, [], 0, 0, 21),
  (110, .imul, 111, [], 0, [], 0, 0, 0),
  (111, .iload 4, 113, [], 0, [], 0, 0, 0),
  (113, .iadd, 114, [], 0, [], 0, 0, 0),
  (114, .iconst 1, 115, [], 0, [], 0, 0, 1),
  (115, .iadd, 116, [], 0, [], 0, 0, 0),
  (116, .iaload, 117, [], 0, [], 0, 0, 0),
  (117, .iadd, 118, [], 0, [], 0, 0, 0),
  (118, .iload 5, 120, [], 0, [], 0, 0, 0),
  (120, .if_icmp .ne 29, 123, [], 149, [6], 0, 0, 0),
  (123, .aload_n 0, 124, [], 0, [], 0, 0, 0),
  (124, .iload 6, 126, [], 0, [], 0, 0, 0),
  (126, .ifCond .ne 7, 129, [], 133, [], 0, 0, 0),
  (129, .iconst 0, 130, [], 0, [], 0, 0, 0),
  (130, .goto 4, 133, [], 134, [5, 6], 0, 0, 0),
  (133, .iconst 1, 134, [5, 6], 0, [], 0, 0, 1),
  (134, .iload_n 3, 135, [], 0, [], 0, 0, 0),
  (135, .iload 4, 137, [], 0, [], 0, 0, 0),
  (137, .invokevirtual 52, 140, [], 2, [], 3, 200, 0),
  (140, .iinc 3 1, 143, [], 0, [], 0, 0, 1),
  (143, .iinc 4 1, 146, [], 0, [], 0, 0, 1),
  (146, .goto 60, 149, [6], 206, [5, 6], 0, 0, 0),
  (149, .iload_n 3, 150, [], 0, [], 0, 0, 0),
  (150, .aload_n 1, 151, [], 0, [], 0, 0, 0),
  (151, .getfield 24, 154, [], 6, [], 7, 159, 0),
  (154, .if_icmp .ge 41, 157, [], 195, [5, 6], 0, 0, 0),
  (157, .aload_n 1, 158, [], 0, [], 0, 0, 0),
  (158, .iload_n 3, 159, [], 0, [], 0, 0, 0),
  (159, .invokevirtual 35, 162, [], 63, [], 1, 162, 0),
  (162, .aload_n 0, 163, [], 0, [], 0, 0, 0),
  (163, .getfield 11, 166, [], 1, [], 0, 1, 0),
  (166, .iload_n 3, 167, [], 0, [], 0, 0, 0),
  (167, .iconst 1, 168, [], 0, [], 0, 0, 1),
  (168, .iadd, 169, [], 0, [], 0, 0, 0),
  (169, .bipush 21, 171, [], 0, [], 0, 0, 21),
  (171, .imul, 172, [], 0, [], 0, 0, 0),
  (172, .iload 4, 174, [], 0, [], 0, 0, 0),
  (174, .iadd, 175, [], 0, [], 0, 0, 0),
  (175, .iaload, 176, [], 0, [], 0, 0, 0),
  (176, .iadd, 177, [], 0, [], 0, 0, 0),
  (177, .iload 5, 179, [], 0, [], 0, 0, 0),
  (179, .if_icmp .ne 16, 182, [], 195, [5, 6], 0, 0, 0),
  (182, .aload_n 0, 183, [], 0, [], 0, 0, 0),
  (183, .iconst 2, 184, [], 0, [], 0, 0, 2),
  (184, .iload_n 3, 185, [], 0, [], 0, 0, 0),
  (185, .iconst (-1), 186, [], 0, [], 0, 0, -1),
  (186, .invokevirtual 52, 189, [], 2, [], 3, 200, 0),
  (189, .iinc 3 1, 192, [], 0, [], 0, 0, 1),
  (192, .goto 14, 195, [5, 6], 206, [5, 6], 0, 0, 0),
  (195, .aload_n 0, 196, [], 0, [], 0, 0, 0),
  (196, .iconst 3, 197, [], 0, [], 0, 0, 3),
  (197, .iconst (-1), 198, [], 0, [], 0, 0, -1),
  (198, .iload 4, 200, [], 0, [], 0, 0, 0),
  (200, .invokevirtual 52, 203, [], 2, [], 3, 200, 0),
  (203, .iinc 4 1, 206, [5, 6], 0, [], 0, 0, 1),
  (206, .goto (-189), 209, [0, 1, 2, 3, 4, 5, 6], 17, [5, 6], 0, 0, 0),
  (209, .return_, 210, [], 0, [], 0, 0, 0)]
def t_Near_between : List (Nat × TE) := [
  (0, .iload_n 1, 1, [], 0, [], 0, 0, 0),
  (1, .bipush 24, 3, [], 0, [], 0, 0, 24),
  (3, .imul, 4, [], 0, [], 0, 0, 0),
  (4, .iload_n 3, 5, [], 0, [], 0, 0, 0),
  (5, .iadd, 6, [], 0, [], 0, 0, 0),
  (6, .istore 5, 8, [], 0, [], 0, 0, 0),
  (8, .aload_n 0, 9, [], 0, [], 0, 0, 0),
  (9, .getfield 9, 12, [], 3, [], 0, 9, 0),
  (12, .iload 5, 14, [], 0, [], 0, 0, 0),
  (14, .iaload, 15, [], 0, [], 0, 0, 0),
  (15, .iconst (-1), 16, [], 0, [], 0, 0, -1),
  (16, .if_icmp .ne 57, 19, [], 73, [1, 2, 3, 4, 6], 0, 0, 0),
  (19, .aload_n 2, 20, [], 0, [], 0, 0, 0),
  (20, .getfield 28, 23, [], 6, [], 7, 201, 0),
  (23, .aload 4, 25, [], 0, [], 0, 0, 0),
  (25, .getfield 28, 28, [], 6, [], 7, 201, 0),
  (28, .invokestatic 34, 31, [], 1002, [], 0, 202, 0),
  (31, .istore 6, 33, [], 0, [], 0, 0, 0),
  (33, .aload_n 0, 34, [], 0, [], 0, 0, 0),
  (34, .getfield 9, 37, [], 3, [], 0, 9, 0),
  (37, .iload 5, 39, [], 0, [], 0, 0, 0),
  (39, .iload 6, 41, [], 0, [], 0, 0, 0),
  (41, .ifCond .ne 8, 44, [], 49, [], 0, 0, 0),
  (44, .bipush 100, 46, [], 0, [], 0, 0, 100),
  (46, .goto 26, 49, [], 72, [1, 2, 3, 4, 6], 0, 0, 0),
  (49, .iconst 0, 50, [], 0, [], 0, 0, 0),
  (50, .bipush 100, 52, [], 0, [], 0, 0, 100),
  (52, .bipush 10, 54, [], 0, [], 0, 0, 10),
  (54, .aload_n 0, 55, [], 0, [], 0, 0, 0),
  (55, .getfield 15, 58, [], 3, [], 1, 165, 0),
  (58, .aload_n 2, 59, [], 0, [], 0, 0, 0),
  (59, .aload 4, 61, [], 0, [], 0, 0, 0),
  (61, .invokevirtual 40, 64, [], 90, [], 2, 203, 0),
  (64, .imul, 65, [], 0, [], 0, 0, 0),
  (65, .iload 6, 67, [], 0, [], 0, 0, 0),
  (67, .idiv, 68, [], 0, [], 0, 0, 0),
  (68, .isub, 69, [], 0, [], 0, 0, 0),
  (69, .invokestatic 34, 72, [1, 2, 3, 4, 6], 1002, [], 0, 202, 0),
  (72, .iastore, 73, [1, 2, 3, 4, 6], 0, [], 0, 0, 0),
  (73, .aload_n 0, 74, [], 0, [], 0, 0, 0),
  (74, .getfield 9, 77, [], 3, [], 0, 9, 0),
  (77, .iload 5, 79, [], 0, [], 0, 0, 0),
  (79, .iaload, 80, [], 0, [], 0, 0, 0),
  (80, .ireturn, 81, [], 0, [], 0, 0, 0)]
def t_Patch_make : List (Nat × TE) := [
  (0, .aload_n 0, 1, [], 0, [], 0, 0, 0),
  (1, .getfield 16, 4, [], 5, [], 0, 115, 0),
  (4, .iconst 0, 5, [], 0, [], 0, 0, 0),
  (5, .putfield 28, 8, [], 7, [], 1, 204, 0),
  (8, .aload_n 0, 9, [], 0, [], 0, 0, 0),
  (9, .invokevirtual 32, 12, [], 7, [], 0, 205, 0),
  (12, .aload_n 0, 13, [], 0, [], 0, 0, 0),
  (13, .aload_n 2, 14, [], 0, [], 0, 0, 0),
  (14, .aload_n 3, 15, [], 0, [], 0, 0, 0),
  (15, .invokevirtual 35, 18, [], 93, [], 2, 206, 0),
  (18, .ifCond .ne 5, 21, [], 23, [], 0, 0, 0),
  (21, .iconst 0, 22, [], 0, [], 0, 0, 0),
  (22, .ireturn, 23, [], 0, [], 0, 0, 0),
  (23, .aload_n 1, 24, [], 0, [], 0, 0, 0),
  (24, .getfield 39, 27, [], 6, [], 4, 207, 0),
  (27, .istore 4, 29, [], 0, [], 0, 0, 0),
  (29, .iconst 0, 30, [], 0, [], 0, 0, 0),
  (30, .istore 5, 32, [6], 0, [], 0, 0, 0),
  (32, .iload 5, 34, [], 0, [], 0, 0, 0),
  (34, .aload_n 1, 35, [], 0, [], 0, 0, 0),
  (35, .getfield 44, 38, [], 6, [], 7, 13, 0),
  (38, .if_icmp .ge 99, 41, [], 137, [], 0, 0, 0),
  (41, .aload_n 1, 42, [], 0, [], 0, 0, 0),
  (42, .iload 5, 44, [], 0, [], 0, 0, 0),
  (44, .invokevirtual 47, 47, [], 12, [], 1, 171, 0),
  (47, .istore 6, 49, [], 0, [], 0, 0, 0),
  (49, .iload 6, 51, [], 0, [], 0, 0, 0),
  (51, .ifCond .ne 14, 54, [], 65, [], 0, 0, 0),
  (54, .aload_n 1, 55, [], 0, [], 0, 0, 0),
  (55, .getfield 51, 58, [], 6, [], 0, 14, 0),
  (58, .iload 5, 60, [], 0, [], 0, 0, 0),
  (60, .iaload, 61, [], 0, [], 0, 0, 0),
  (61, .iconst 1, 62, [], 0, [], 0, 0, 1),
  (62, .if_icmp .ne 69, 65, [], 131, [6], 0, 0, 0),
  (65, .aload_n 0, 66, [], 0, [], 0, 0, 0),
  (66, .aload_n 1, 67, [], 0, [], 0, 0, 0),
  (67, .getfield 54, 70, [], 6, [], 3, 120, 0),
  (70, .iload 4, 72, [], 0, [], 0, 0, 0),
  (72, .aload_n 1, 73, [], 0, [], 0, 0, 0),
  (73, .getfield 57, 76, [], 6, [], 1, 121, 0),
  (76, .iload 5, 78, [], 0, [], 0, 0, 0),
  (78, .iaload, 79, [], 0, [], 0, 0, 0),
  (79, .invokevirtual 60, 82, [], 57, [], 3, 174, 0),
  (82, .aload_n 1, 83, [], 0, [], 0, 0, 0),
  (83, .getfield 57, 86, [], 6, [], 1, 121, 0),
  (86, .iload 5, 88, [], 0, [], 0, 0, 0),
  (88, .iaload, 89, [], 0, [], 0, 0, 0),
  (89, .aload_n 1, 90, [], 0, [], 0, 0, 0),
  (90, .getfield 64, 93, [], 6, [], 2, 119, 0),
  (93, .iload 5, 95, [], 0, [], 0, 0, 0),
  (95, .iaload, 96, [], 0, [], 0, 0, 0),
  (96, .iadd, 97, [], 0, [], 0, 0, 0),
  (97, .istore 4, 99, [], 0, [], 0, 0, 0),
  (99, .iload 6, 101, [], 0, [], 0, 0, 0),
  (101, .ifCond .eq 16, 104, [], 117, [], 0, 0, 0),
  (104, .aload_n 0, 105, [], 0, [], 0, 0, 0),
  (105, .aload_n 1, 106, [], 0, [], 0, 0, 0),
  (106, .iload 5, 108, [], 0, [], 0, 0, 0),
  (108, .invokevirtual 67, 111, [], 94, [], 2, 208, 0),
  (111, .ifCond .eq 18, 114, [], 129, [0, 1, 2, 3, 4, 5, 6], 0, 0, 0),
  (114, .goto 17, 117, [], 131, [6], 0, 0, 0),
  (117, .aload_n 0, 118, [], 0, [], 0, 0, 0),
  (118, .aload_n 1, 119, [], 0, [], 0, 0, 0),
  (119, .iload 5, 121, [], 0, [], 0, 0, 0),
  (121, .aload_n 2, 122, [], 0, [], 0, 0, 0),
  (122, .aload_n 3, 123, [], 0, [], 0, 0, 0),
  (123, .invokevirtual 71, 126, [], 95, [], 4, 209, 0),
  (126, .ifCond .ne 5, 129, [0, 1, 2, 3, 4, 5, 6], 131, [6], 0, 0, 0),
  (129, .iconst 0, 130, [], 0, [], 0, 0, 0),
  (130, .ireturn, 131, [6], 0, [], 0, 0, 0),
  (131, .iinc 5 1, 134, [], 0, [], 0, 0, 1),
  (134, .goto (-102), 137, [], 32, [6], 0, 0, 0),
  (137, .aload_n 0, 138, [], 0, [], 0, 0, 0),
  (138, .aload_n 1, 139, [], 0, [], 0, 0, 0),
  (139, .getfield 54, 142, [], 6, [], 3, 120, 0),
  (142, .iload 4, 144, [], 0, [], 0, 0, 0),
  (144, .aload_n 1, 145, [], 0, [], 0, 0, 0),
  (145, .getfield 75, 148, [], 6, [], 5, 210, 0),
  (148, .invokevirtual 60, 151, [], 57, [], 3, 174, 0),
  (151, .aload_n 0, 152, [], 0, [], 0, 0, 0),
  (152, .aload_n 2, 153, [], 0, [], 0, 0, 0),
  (153, .invokevirtual 78, 156, [], 9, [], 1, 211, 0),
  (156, .ireturn, 157, [], 0, [], 0, 0, 0)]
def t_Scan_kindAt : List (Nat × TE) := [
  (0, .aload_n 0, 1, [], 0, [], 0, 0, 0),
  (1, .iload_n 1, 2, [], 0, [], 0, 0, 0),
  (2, .iload_n 2, 3, [], 0, [], 0, 0, 0),
  (3, .invokestatic 15, 6, [], 64, [], 3, 179, 0),
  (6, .istore_n 3, 7, [], 0, [], 0, 0, 0),
  (7, .iload_n 3, 8, [], 0, [], 0, 0, 0),
  (8, .invokestatic 21, 11, [], 16, [], 1, 129, 0),
  (11, .ifCond .eq 5, 14, [], 16, [], 0, 0, 0),
  (14, .iconst 0, 15, [], 0, [], 0, 0, 0),
  (15, .ireturn, 16, [], 0, [], 0, 0, 0),
  (16, .iload_n 3, 17, [], 0, [], 0, 0, 0),
  (17, .invokestatic 25, 20, [], 17, [], 1, 130, 0),
  (20, .ifCond .eq 5, 23, [], 25, [], 0, 0, 0),
  (23, .iconst 1, 24, [], 0, [], 0, 0, 1),
  (24, .ireturn, 25, [], 0, [], 0, 0, 0),
  (25, .iload_n 3, 26, [], 0, [], 0, 0, 0),
  (26, .bipush 32, 28, [], 0, [], 0, 0, 32),
  (28, .if_icmp .ne 6, 31, [], 34, [], 0, 0, 0),
  (31, .bipush 6, 33, [], 0, [], 0, 0, 6),
  (33, .ireturn, 34, [], 0, [], 0, 0, 0),
  (34, .iload_n 3, 35, [], 0, [], 0, 0, 0),
  (35, .bipush 60, 37, [], 0, [], 0, 0, 60),
  (37, .if_icmp .ne 12, 40, [], 49, [], 0, 0, 0),
  (40, .aload_n 0, 41, [], 0, [], 0, 0, 0),
  (41, .iload_n 1, 42, [], 0, [], 0, 0, 0),
  (42, .iload_n 2, 43, [], 0, [], 0, 0, 0),
  (43, .invokestatic 28, 46, [], 98, [], 3, 212, 0),
  (46, .goto 4, 49, [], 50, [0, 1, 2, 3], 0, 0, 0),
  (49, .iconst 5, 50, [0, 1, 2, 3], 0, [], 0, 0, 5),
  (50, .ireturn, 51, [], 0, [], 0, 0, 0)]
def t_Scan_endOf : List (Nat × TE) := [
  (0, .iload_n 3, 1, [], 0, [], 0, 0, 0),
  (1, .tableswitch 78 0 6 #[43, 50, 59, 63, 67, 78, 71], 44, [], 79, [3], 0, 0, 0),
  (44, .aload_n 0, 45, [], 0, [], 0, 0, 0),
  (45, .iload_n 1, 46, [], 0, [], 0, 0, 0),
  (46, .iload_n 2, 47, [], 0, [], 0, 0, 0),
  (47, .invokestatic 31, 50, [], 65, [], 3, 213, 0),
  (50, .ireturn, 51, [], 0, [], 0, 0, 0),
  (51, .aload_n 0, 52, [], 0, [], 0, 0, 0),
  (52, .iload_n 1, 53, [], 0, [], 0, 0, 0),
  (53, .iload_n 2, 54, [], 0, [], 0, 0, 0),
  (54, .iload 4, 56, [], 0, [], 0, 0, 0),
  (56, .invokestatic 34, 59, [], 99, [], 4, 214, 0),
  (59, .ireturn, 60, [], 0, [], 0, 0, 0),
  (60, .iload_n 1, 61, [], 0, [], 0, 0, 0),
  (61, .iconst 3, 62, [], 0, [], 0, 0, 3),
  (62, .iadd, 63, [], 0, [], 0, 0, 0),
  (63, .ireturn, 64, [], 0, [], 0, 0, 0),
  (64, .iload_n 1, 65, [], 0, [], 0, 0, 0),
  (65, .iconst 4, 66, [], 0, [], 0, 0, 4),
  (66, .iadd, 67, [], 0, [], 0, 0, 0),
  (67, .ireturn, 68, [], 0, [], 0, 0, 0),
  (68, .iload_n 1, 69, [], 0, [], 0, 0, 0),
  (69, .iconst 4, 70, [], 0, [], 0, 0, 4),
  (70, .iadd, 71, [], 0, [], 0, 0, 0),
  (71, .ireturn, 72, [], 0, [], 0, 0, 0),
  (72, .aload_n 0, 73, [], 0, [], 0, 0, 0),
  (73, .iload_n 1, 74, [], 0, [], 0, 0, 0),
  (74, .iload_n 2, 75, [], 0, [], 0, 0, 0),
  (75, .invokestatic 38, 78, [], 66, [], 3, 215, 0),
  (78, .ireturn, 79, [0, 2, 3, 4], 0, [], 0, 0, 0),
  (79, .iload_n 1, 80, [], 0, [], 0, 0, 0),
  (80, .iconst 1, 81, [], 0, [], 0, 0, 1),
  (81, .iadd, 82, [], 0, [], 0, 0, 0),
  (82, .ireturn, 83, [], 0, [], 0, 0, 0)]
def t_K_init : List (Nat × TE) := [
  (0, .aload_n 0, 1, [], 0, [], 0, 0, 0),
  (1, .invokespecial 1, 4, [], 1000, [], 0, 216, 0),
  (4, .aload_n 0, 5, [], 0, [], 0, 0, 0),
  (5, .new 7, 8, [], 7, [], 2, 217, 0),
  (8, .dup, 9, [], 0, [], 0, 0, 0),
  (9, .sipush 600, 12, [], 0, [], 0, 0, 600),
  (12, .invokespecial 11, 15, [], 18, [], 1, 218, 0),
  (15, .putfield 14, 18, [], 9, [], 0, 34, 0),
  (18, .aload_n 0, 19, [], 0, [], 0, 0, 0),
  (19, .new 18, 22, [], 0, [], 4, 219, 0),
  (22, .dup, 23, [], 0, [], 0, 0, 0),
  (23, .invokespecial 20, 26, [], 50, [], 0, 220, 0),
  (26, .putfield 21, 29, [], 9, [], 1, 41, 0),
  (29, .aload_n 0, 30, [], 0, [], 0, 0, 0),
  (30, .new 25, 33, [], 2, [], 8, 221, 0),
  (33, .dup, 34, [], 0, [], 0, 0, 0),
  (34, .invokespecial 27, 37, [], 52, [], 0, 222, 0),
  (37, .putfield 28, 40, [], 9, [], 2, 43, 0),
  (40, .aload_n 0, 41, [], 0, [], 0, 0, 0),
  (41, .new 32, 44, [], 1, [], 5, 223, 0),
  (44, .dup, 45, [], 0, [], 0, 0, 0),
  (45, .invokespecial 34, 48, [], 1, [], 0, 224, 0),
  (48, .putfield 35, 51, [], 9, [], 4, 36, 0),
  (51, .aload_n 0, 52, [], 0, [], 0, 0, 0),
  (52, .new 39, 55, [], 3, [], 2, 225, 0),
  (55, .dup, 56, [], 0, [], 0, 0, 0),
  (56, .aload_n 0, 57, [], 0, [], 0, 0, 0),
  (57, .getfield 35, 60, [], 9, [], 4, 36, 0),
  (60, .invokespecial 41, 63, [], 91, [], 1, 226, 0),
  (63, .putfield 44, 66, [], 9, [], 3, 227, 0),
  (66, .aload_n 0, 67, [], 0, [], 0, 0, 0),
  (67, .new 48, 70, [], 5, [], 3, 228, 0),
  (70, .dup, 71, [], 0, [], 0, 0, 0),
  (71, .invokespecial 50, 74, [], 56, [], 0, 229, 0),
  (74, .putfield 51, 77, [], 9, [], 5, 230, 0),
  (77, .aload_n 0, 78, [], 0, [], 0, 0, 0),
  (78, .new 55, 81, [], 4, [], 1, 231, 0),
  (81, .dup, 82, [], 0, [], 0, 0, 0),
  (82, .invokespecial 57, 85, [], 6, [], 0, 232, 0),
  (85, .putfield 58, 88, [], 9, [], 6, 233, 0),
  (88, .aload_n 0, 89, [], 0, [], 0, 0, 0),
  (89, .new 62, 92, [], 6, [], 9, 234, 0),
  (92, .dup, 93, [], 0, [], 0, 0, 0),
  (93, .aload_n 0, 94, [], 0, [], 0, 0, 0),
  (94, .getfield 14, 97, [], 9, [], 0, 34, 0),
  (97, .sipush 600, 100, [], 0, [], 0, 0, 600),
  (100, .invokespecial 64, 103, [], 10, [], 2, 235, 0),
  (103, .putfield 67, 106, [], 9, [], 7, 236, 0),
  (106, .aload_n 0, 107, [], 0, [], 0, 0, 0),
  (107, .new 71, 110, [], 8, [], 2, 237, 0),
  (110, .dup, 111, [], 0, [], 0, 0, 0),
  (111, .bipush 8, 113, [], 0, [], 0, 0, 8),
  (113, .invokespecial 73, 116, [], 23, [], 1, 238, 0),
  (116, .putfield 74, 119, [], 9, [], 8, 46, 0),
  (119, .aload_n 0, 120, [], 0, [], 0, 0, 0),
  (120, .new 71, 123, [], 8, [], 2, 237, 0),
  (123, .dup, 124, [], 0, [], 0, 0, 0),
  (124, .bipush 10, 126, [], 0, [], 0, 0, 10),
  (126, .invokespecial 73, 129, [], 23, [], 1, 238, 0),
  (129, .putfield 78, 132, [], 9, [], 9, 48, 0),
  (132, .aload_n 0, 133, [], 0, [], 0, 0, 0),
  (133, .new 71, 136, [], 8, [], 2, 237, 0),
  (136, .dup, 137, [], 0, [], 0, 0, 0),
  (137, .bipush 10, 139, [], 0, [], 0, 0, 10),
  (139, .invokespecial 73, 142, [], 23, [], 1, 238, 0),
  (142, .putfield 81, 145, [], 9, [], 10, 186, 0),
  (145, .aload_n 0, 146, [], 0, [], 0, 0, 0),
  (146, .new 71, 149, [], 8, [], 2, 237, 0),
  (149, .dup, 150, [], 0, [], 0, 0, 0),
  (150, .iconst 5, 151, [], 0, [], 0, 0, 5),
  (151, .invokespecial 73, 154, [], 23, [], 1, 238, 0),
  (154, .putfield 84, 157, [], 9, [], 11, 49, 0),
  (157, .return_, 158, [], 0, [], 0, 0, 0)]
def t_K_except : List (Nat × TE) := [
  (0, .aload_n 0, 1, [], 0, [], 0, 0, 0),
  (1, .aload_n 0, 2, [], 0, [], 0, 0, 0),
  (2, .getfield 74, 5, [], 9, [], 8, 46, 0),
  (5, .invokevirtual 98, 8, [], 103, [], 1, 239, 0),
  (8, .ireturn, 9, [], 0, [], 0, 0, 0)]
def t_K_segment : List (Nat × TE) := [
  (0, .aload_n 0, 1, [], 0, [], 0, 0, 0),
  (1, .iload_n 1, 2, [], 0, [], 0, 0, 0),
  (2, .invokevirtual 109, 5, [], 29, [], 1, 137, 0),
  (5, .ifCond .ne 5, 8, [], 10, [], 0, 0, 0),
  (8, .iconst (-1), 9, [], 0, [], 0, 0, -1),
  (9, .ireturn, 10, [], 0, [], 0, 0, 0),
  (10, .aload_n 0, 11, [], 0, [], 0, 0, 0),
  (11, .getfield 21, 14, [], 9, [], 1, 41, 0),
  (14, .getfield 113, 17, [], 0, [], 1, 138, 0),
  (17, .iload_n 1, 18, [], 0, [], 0, 0, 0),
  (18, .aaload, 19, [], 0, [], 0, 0, 0),
  (19, .astore_n 3, 20, [], 0, [], 0, 0, 0),
  (20, .iload_n 2, 21, [], 0, [], 0, 0, 0),
  (21, .tableswitch 86 0 5 #[39, 44, 54, 59, 64, 69], 60, [], 107, [], 0, 0, 0),
  (60, .aload_n 3, 61, [], 0, [], 0, 0, 0),
  (61, .getfield 117, 64, [], 6, [], 4, 240, 0),
  (64, .ireturn, 65, [], 0, [], 0, 0, 0),
  (65, .aload_n 3, 66, [], 0, [], 0, 0, 0),
  (66, .getfield 120, 69, [], 6, [], 5, 241, 0),
  (69, .aload_n 3, 70, [], 0, [], 0, 0, 0),
  (70, .getfield 117, 73, [], 6, [], 4, 240, 0),
  (73, .isub, 74, [], 0, [], 0, 0, 0),
  (74, .ireturn, 75, [], 0, [], 0, 0, 0),
  (75, .aload_n 3, 76, [], 0, [], 0, 0, 0),
  (76, .getfield 123, 79, [], 6, [], 6, 242, 0),
  (79, .ireturn, 80, [], 0, [], 0, 0, 0),
  (80, .aload_n 3, 81, [], 0, [], 0, 0, 0),
  (81, .getfield 126, 84, [], 6, [], 7, 139, 0),
  (84, .ireturn, 85, [], 0, [], 0, 0, 0),
  (85, .aload_n 3, 86, [], 0, [], 0, 0, 0),
  (86, .getfield 129, 89, [], 6, [], 8, 243, 0),
  (89, .ireturn, 90, [], 0, [], 0, 0, 0),
  (90, .aload_n 0, 91, [], 0, [], 0, 0, 0),
  (91, .getfield 58, 94, [], 9, [], 6, 233, 0),
  (94, .aload_n 3, 95, [], 0, [], 0, 0, 0),
  (95, .invokevirtual 132, 98, [], 92, [], 1, 244, 0),
  (98, .ifCond .eq 7, 101, [], 105, [], 0, 0, 0),
  (101, .iconst 1, 102, [], 0, [], 0, 0, 1),
  (102, .goto 4, 105, [], 106, [0, 1, 2, 3], 0, 0, 0),
  (105, .iconst 0, 106, [0, 1, 2, 3], 0, [], 0, 0, 0),
  (106, .ireturn, 107, [], 0, [], 0, 0, 0),
  (107, .iconst (-1), 108, [], 0, [], 0, 0, -1),
  (108, .ireturn, 109, [], 0, [], 0, 0, 0)]
def t_K_forbid : List (Nat × TE) := [
  (0, .aload_n 0, 1, [], 0, [], 0, 0, 0),
  (1, .aload_n 0, 2, [], 0, [], 0, 0, 0),
  (2, .getfield 84, 5, [], 9, [], 11, 49, 0),
  (5, .invokevirtual 98, 8, [], 103, [], 1, 239, 0),
  (8, .ireturn, 9, [], 0, [], 0, 0, 0)]
def t_K_isLikeSource : List (Nat × TE) := [
  (0, .aload_n 0, 1, [], 0, [], 0, 0, 0),
  (1, .getfield 21, 4, [], 9, [], 1, 41, 0),
  (4, .getfield 113, 7, [], 0, [], 1, 138, 0),
  (7, .iload_n 1, 8, [], 0, [], 0, 0, 0),
  (8, .aaload, 9, [], 0, [], 0, 0, 0),
  (9, .aload_n 0, 10, [], 0, [], 0, 0, 0),
  (10, .getfield 28, 13, [], 9, [], 2, 43, 0),
  (13, .getfield 207, 16, [], 2, [], 1, 245, 0),
  (16, .iload_n 2, 17, [], 0, [], 0, 0, 0),
  (17, .aaload, 18, [], 0, [], 0, 0, 0),
  (18, .invokevirtual 275, 21, [], 96, [], 1, 246, 0),
  (21, .ireturn, 22, [], 0, [], 0, 0, 0)]
def t_M_readRow : List (Nat × TE) := [
  (0, .aload_n 0, 1, [], 0, [], 0, 0, 0),
  (1, .iload_n 1, 2, [], 0, [], 0, 0, 0),
  (2, .sipush 600, 5, [], 0, [], 0, 0, 600),
  (5, .iload_n 2, 6, [], 0, [], 0, 0, 0),
  (6, .imul, 7, [], 0, [], 0, 0, 0),
  (7, .aload_n 0, 8, [], 0, [], 0, 0, 0),
  (8, .getfield 14, 11, [], 10, [], 2, 53, 0),
  (11, .iload_n 2, 12, [], 0, [], 0, 0, 0),
  (12, .iaload, 13, [], 0, [], 0, 0, 0),
  (13, .iload_n 2, 14, [], 0, [], 0, 0, 0),
  (14, .invokestatic 112, 17, [], 39, [], 1, 247, 0),
  (17, .iconst 0, 18, [], 0, [], 0, 0, 0),
  (18, .invokevirtual 115, 21, [], 104, [], 5, 248, 0),
  (21, .return_, 22, [], 0, [], 0, 0, 0)]
def t_M_load : List (Nat × TE) := [
  (0, .aload_n 0, 1, [], 0, [], 0, 0, 0),
  (1, .iconst 0, 2, [], 0, [], 0, 0, 0),
  (2, .iconst 0, 3, [], 0, [], 0, 0, 0),
  (3, .aload_n 0, 4, [], 0, [], 0, 0, 0),
  (4, .getfield 14, 7, [], 10, [], 2, 53, 0),
  (7, .iconst 0, 8, [], 0, [], 0, 0, 0),
  (8, .iaload, 9, [], 0, [], 0, 0, 0),
  (9, .bipush 46, 11, [], 0, [], 0, 0, 46),
  (11, .iconst 1, 12, [], 0, [], 0, 0, 1),
  (12, .invokevirtual 115, 15, [], 104, [], 5, 248, 0),
  (15, .aload_n 0, 16, [], 0, [], 0, 0, 0),
  (16, .getfield 29, 19, [], 10, [], 7, 58, 0),
  (19, .iconst 0, 20, [], 0, [], 0, 0, 0),
  (20, .iaload, 21, [], 0, [], 0, 0, 0),
  (21, .istore_n 1, 22, [], 0, [], 0, 0, 0),
  (22, .iconst 0, 23, [], 0, [], 0, 0, 0),
  (23, .istore_n 2, 24, [], 0, [], 0, 0, 0),
  (24, .iconst 0, 25, [], 0, [], 0, 0, 0),
  (25, .istore_n 3, 26, [4, 5], 0, [], 0, 0, 0),
  (26, .iload_n 3, 27, [], 0, [], 0, 0, 0),
  (27, .iload_n 1, 28, [], 0, [], 0, 0, 0),
  (28, .if_icmp .ge 58, 31, [], 86, [], 0, 0, 0),
  (31, .aload_n 0, 32, [], 0, [], 0, 0, 0),
  (32, .iload_n 3, 33, [], 0, [], 0, 0, 0),
  (33, .iload_n 1, 34, [], 0, [], 0, 0, 0),
  (34, .invokevirtual 145, 37, [], 108, [], 2, 249, 0),
  (37, .ifCond .eq 43, 40, [], 80, [4, 5], 0, 0, 0),
  (40, .iload_n 3, 41, [], 0, [], 0, 0, 0),
  (41, .iconst 1, 42, [], 0, [], 0, 0, 1),
  (42, .iadd, 43, [], 0, [], 0, 0, 0),
  (43, .iload_n 1, 44, [], 0, [], 0, 0, 0),
  (44, .if_icmp .ge 9, 47, [], 53, [], 0, 0, 0),
  (47, .iload_n 3, 48, [], 0, [], 0, 0, 0),
  (48, .iconst 1, 49, [], 0, [], 0, 0, 1),
  (49, .iadd, 50, [], 0, [], 0, 0, 0),
  (50, .goto 4, 53, [], 54, [4, 5], 0, 0, 0),
  (53, .iload_n 3, 54, [4, 5], 0, [], 0, 0, 0),
  (54, .istore 4, 56, [], 0, [], 0, 0, 0),
  (56, .aload_n 0, 57, [], 0, [], 0, 0, 0),
  (57, .getfield 47, 60, [], 10, [], 18, 64, 0),
  (60, .iload_n 2, 61, [], 0, [], 0, 0, 0),
  (61, .aload_n 0, 62, [], 0, [], 0, 0, 0),
  (62, .getfield 20, 65, [], 10, [], 4, 55, 0),
  (65, .iload 4, 67, [], 0, [], 0, 0, 0),
  (67, .iaload, 68, [], 0, [], 0, 0, 0),
  (68, .aload_n 0, 69, [], 0, [], 0, 0, 0),
  (69, .getfield 23, 72, [], 10, [], 5, 56, 0),
  (72, .iload 4, 74, [], 0, [], 0, 0, 0),
  (74, .iaload, 75, [], 0, [], 0, 0, 0),
  (75, .iadd, 76, [], 0, [], 0, 0, 0),
  (76, .iastore, 77, [], 0, [], 0, 0, 0),
  (77, .iinc 2 1, 80, [4, 5], 0, [], 0, 0, 1),
  (80, .iinc 3 1, 83, [], 0, [], 0, 0, 1),
  (83, .goto (-57), 86, [], 26, [4, 5], 0, 0, 0),
  (86, .aload_n 0, 87, [], 0, [], 0, 0, 0),
  (87, .getfield 14, 90, [], 10, [], 2, 53, 0),
  (90, .iconst 0, 91, [], 0, [], 0, 0, 0),
  (91, .iaload, 92, [], 0, [], 0, 0, 0),
  (92, .ifCond .le 39, 95, [], 131, [3, 4, 5], 0, 0, 0),
  (95, .iload_n 2, 96, [], 0, [], 0, 0, 0),
  (96, .ifCond .eq 20, 99, [], 116, [3, 4, 5], 0, 0, 0),
  (99, .aload_n 0, 100, [], 0, [], 0, 0, 0),
  (100, .getfield 47, 103, [], 10, [], 18, 64, 0),
  (103, .iload_n 2, 104, [], 0, [], 0, 0, 0),
  (104, .iconst 1, 105, [], 0, [], 0, 0, 1),
  (105, .isub, 106, [], 0, [], 0, 0, 0),
  (106, .iaload, 107, [], 0, [], 0, 0, 0),
  (107, .aload_n 0, 108, [], 0, [], 0, 0, 0),
  (108, .getfield 14, 111, [], 10, [], 2, 53, 0),
  (111, .iconst 0, 112, [], 0, [], 0, 0, 0),
  (112, .iaload, 113, [], 0, [], 0, 0, 0),
  (113, .if_icmp .ge 18, 116, [3, 4, 5], 131, [3, 4, 5], 0, 0, 0),
  (116, .aload_n 0, 117, [], 0, [], 0, 0, 0),
  (117, .getfield 47, 120, [], 10, [], 18, 64, 0),
  (120, .iload_n 2, 121, [], 0, [], 0, 0, 0),
  (121, .aload_n 0, 122, [], 0, [], 0, 0, 0),
  (122, .getfield 14, 125, [], 10, [], 2, 53, 0),
  (125, .iconst 0, 126, [], 0, [], 0, 0, 0),
  (126, .iaload, 127, [], 0, [], 0, 0, 0),
  (127, .iastore, 128, [], 0, [], 0, 0, 0),
  (128, .iinc 2 1, 131, [3, 4, 5], 0, [], 0, 0, 1),
  (131, .iload_n 2, 132, [], 0, [], 0, 0, 0),
  (132, .bipush 24, 134, [], 0, [], 0, 0, 24),
  (134, .if_icmp .le 6, 137, [], 140, [], 0, 0, 0),
  (137, .bipush (-5), 139, [], 0, [], 0, 0, -5),
  (139, .ireturn, 140, [], 0, [], 0, 0, 0),
  (140, .iconst 0, 141, [], 0, [], 0, 0, 0),
  (141, .istore_n 3, 142, [], 0, [], 0, 0, 0),
  (142, .iconst 0, 143, [], 0, [], 0, 0, 0),
  (143, .istore 4, 145, [5], 0, [], 0, 0, 0),
  (145, .iload 4, 147, [], 0, [], 0, 0, 0),
  (147, .iload_n 2, 148, [], 0, [], 0, 0, 0),
  (148, .if_icmp .ge 70, 151, [], 218, [], 0, 0, 0),
  (151, .iconst 0, 152, [], 0, [], 0, 0, 0),
  (152, .istore 5, 154, [], 0, [], 0, 0, 0),
  (154, .iload_n 3, 155, [], 0, [], 0, 0, 0),
  (155, .iload_n 1, 156, [], 0, [], 0, 0, 0),
  (156, .if_icmp .ge 46, 159, [], 202, [], 0, 0, 0),
  (159, .aload_n 0, 160, [], 0, [], 0, 0, 0),
  (160, .getfield 20, 163, [], 10, [], 4, 55, 0),
  (163, .iload_n 3, 164, [], 0, [], 0, 0, 0),
  (164, .iaload, 165, [], 0, [], 0, 0, 0),
  (165, .aload_n 0, 166, [], 0, [], 0, 0, 0),
  (166, .getfield 47, 169, [], 10, [], 18, 64, 0),
  (169, .iload 4, 171, [], 0, [], 0, 0, 0),
  (171, .iaload, 172, [], 0, [], 0, 0, 0),
  (172, .if_icmp .ge 30, 175, [], 202, [], 0, 0, 0),
  (175, .iload 5, 177, [], 0, [], 0, 0, 0),
  (177, .aload_n 0, 178, [], 0, [], 0, 0, 0),
  (178, .getfield 17, 181, [], 10, [], 3, 54, 0),
  (181, .iload_n 3, 182, [], 0, [], 0, 0, 0),
  (182, .iaload, 183, [], 0, [], 0, 0, 0),
  (183, .bipush 6, 185, [], 0, [], 0, 0, 6),
  (185, .if_icmp .ne 7, 188, [], 192, [], 0, 0, 0),
  (188, .iconst 0, 189, [], 0, [], 0, 0, 0),
  (189, .goto 4, 192, [], 193, [5], 0, 0, 0),
  (192, .iconst 1, 193, [5], 0, [], 0, 0, 1),
  (193, .iadd, 194, [], 0, [], 0, 0, 0),
  (194, .istore 5, 196, [], 0, [], 0, 0, 0),
  (196, .iinc 3 1, 199, [], 0, [], 0, 0, 1),
  (199, .goto (-45), 202, [], 154, [], 0, 0, 0),
  (202, .iload 5, 204, [], 0, [], 0, 0, 0),
  (204, .bipush 20, 206, [], 0, [], 0, 0, 20),
  (206, .if_icmp .le 6, 209, [], 212, [], 0, 0, 0),
  (209, .bipush (-5), 211, [], 0, [], 0, 0, -5),
  (211, .ireturn, 212, [], 0, [], 0, 0, 0),
  (212, .iinc 4 1, 215, [], 0, [], 0, 0, 1),
  (215, .goto (-70), 218, [], 145, [5], 0, 0, 0),
  (218, .aload_n 0, 219, [], 0, [], 0, 0, 0),
  (219, .iconst 0, 220, [], 0, [], 0, 0, 0),
  (220, .aload_n 0, 221, [], 0, [], 0, 0, 0),
  (221, .getfield 14, 224, [], 10, [], 2, 53, 0),
  (224, .iconst 0, 225, [], 0, [], 0, 0, 0),
  (225, .iaload, 226, [], 0, [], 0, 0, 0),
  (226, .iconst 1, 227, [], 0, [], 0, 0, 1),
  (227, .invokevirtual 148, 230, [], 34, [], 3, 157, 0),
  (230, .aload_n 0, 231, [], 0, [], 0, 0, 0),
  (231, .getfield 14, 234, [], 10, [], 2, 53, 0),
  (234, .iconst 0, 235, [], 0, [], 0, 0, 0),
  (235, .iconst 0, 236, [], 0, [], 0, 0, 0),
  (236, .iastore, 237, [], 0, [], 0, 0, 0),
  (237, .aload_n 0, 238, [], 0, [], 0, 0, 0),
  (238, .iload_n 2, 239, [], 0, [], 0, 0, 0),
  (239, .putfield 151, 242, [], 10, [], 15, 78, 0),
  (242, .iconst 0, 243, [], 0, [], 0, 0, 0),
  (243, .istore 4, 245, [1, 3, 5], 0, [], 0, 0, 0),
  (245, .iload 4, 247, [], 0, [], 0, 0, 0),
  (247, .iload_n 2, 248, [], 0, [], 0, 0, 0),
  (248, .if_icmp .ge 56, 251, [], 304, [], 0, 0, 0),
  (251, .aload_n 0, 252, [], 0, [], 0, 0, 0),
  (252, .getfield 41, 255, [], 10, [], 16, 62, 0),
  (255, .iload 4, 257, [], 0, [], 0, 0, 0),
  (257, .iload 4, 259, [], 0, [], 0, 0, 0),
  (259, .ifCond .ne 7, 262, [], 266, [], 0, 0, 0),
  (262, .iconst 0, 263, [], 0, [], 0, 0, 0),
  (263, .goto 12, 266, [], 275, [1, 3, 5], 0, 0, 0),
  (266, .aload_n 0, 267, [], 0, [], 0, 0, 0),
  (267, .getfield 47, 270, [], 10, [], 18, 64, 0),
  (270, .iload 4, 272, [], 0, [], 0, 0, 0),
  (272, .iconst 1, 273, [], 0, [], 0, 0, 1),
  (273, .isub, 274, [], 0, [], 0, 0, 0),
  (274, .iaload, 275, [1, 3, 5], 0, [], 0, 0, 0),
  (275, .iastore, 276, [], 0, [], 0, 0, 0),
  (276, .aload_n 0, 277, [], 0, [], 0, 0, 0),
  (277, .getfield 44, 280, [], 10, [], 17, 63, 0),
  (280, .iload 4, 282, [], 0, [], 0, 0, 0),
  (282, .aload_n 0, 283, [], 0, [], 0, 0, 0),
  (283, .getfield 47, 286, [], 10, [], 18, 64, 0),
  (286, .iload 4, 288, [], 0, [], 0, 0, 0),
  (288, .iaload, 289, [], 0, [], 0, 0, 0),
  (289, .aload_n 0, 290, [], 0, [], 0, 0, 0),
  (290, .getfield 41, 293, [], 10, [], 16, 62, 0),
  (293, .iload 4, 295, [], 0, [], 0, 0, 0),
  (295, .iaload, 296, [], 0, [], 0, 0, 0),
  (296, .isub, 297, [], 0, [], 0, 0, 0),
  (297, .iastore, 298, [], 0, [], 0, 0, 0),
  (298, .iinc 4 1, 301, [], 0, [], 0, 0, 1),
  (301, .goto (-56), 304, [], 245, [1, 3, 5], 0, 0, 0),
  (304, .aload_n 0, 305, [], 0, [], 0, 0, 0),
  (305, .getfield 151, 308, [], 10, [], 15, 78, 0),
  (308, .ireturn, 309, [], 0, [], 0, 0, 0)]
def t_M_readSegment : List (Nat × TE) := [
  (0, .aload_n 0, 1, [], 0, [], 0, 0, 0),
  (1, .iload_n 1, 2, [], 0, [], 0, 0, 0),
  (2, .sipush 600, 5, [], 0, [], 0, 0, 600),
  (5, .aload_n 0, 6, [], 0, [], 0, 0, 0),
  (6, .getfield 41, 9, [], 10, [], 16, 62, 0),
  (9, .iload_n 2, 10, [], 0, [], 0, 0, 0),
  (10, .iaload, 11, [], 0, [], 0, 0, 0),
  (11, .iadd, 12, [], 0, [], 0, 0, 0),
  (12, .aload_n 0, 13, [], 0, [], 0, 0, 0),
  (13, .getfield 44, 16, [], 10, [], 17, 63, 0),
  (16, .iload_n 2, 17, [], 0, [], 0, 0, 0),
  (17, .iaload, 18, [], 0, [], 0, 0, 0),
  (18, .bipush 46, 20, [], 0, [], 0, 0, 46),
  (20, .iconst 0, 21, [], 0, [], 0, 0, 0),
  (21, .invokevirtual 115, 24, [], 104, [], 5, 248, 0),
  (24, .return_, 25, [], 0, [], 0, 0, 0)]
def t_M_work : List (Nat × TE) := [
  (0, .aload_n 0, 1, [], 0, [], 0, 0, 0),
  (1, .getfield 29, 4, [], 10, [], 7, 58, 0),
  (4, .iconst 0, 5, [], 0, [], 0, 0, 0),
  (5, .iaload, 6, [], 0, [], 0, 0, 0),
  (6, .istore_n 1, 7, [], 0, [], 0, 0, 0),
  (7, .aload_n 0, 8, [], 0, [], 0, 0, 0),
  (8, .getfield 29, 11, [], 10, [], 7, 58, 0),
  (11, .iconst 1, 12, [], 0, [], 0, 0, 1),
  (12, .iaload, 13, [], 0, [], 0, 0, 0),
  (13, .istore_n 2, 14, [], 0, [], 0, 0, 0),
  (14, .iload_n 1, 15, [], 0, [], 0, 0, 0),
  (15, .istore_n 3, 16, [4, 5, 6], 0, [], 0, 0, 0),
  (16, .iload_n 3, 17, [], 0, [], 0, 0, 0),
  (17, .ifCond .lt 198, 20, [], 215, [], 0, 0, 0),
  (20, .iload_n 2, 21, [], 0, [], 0, 0, 0),
  (21, .istore 4, 23, [5, 6], 0, [], 0, 0, 0),
  (23, .iload 4, 25, [], 0, [], 0, 0, 0),
  (25, .ifCond .lt 184, 28, [], 209, [], 0, 0, 0),
  (28, .bipush 21, 30, [], 0, [], 0, 0, 21),
  (30, .iload_n 3, 31, [], 0, [], 0, 0, 0),
  (31, .imul, 32, [], 0, [], 0, 0, 0),
  (32, .iload 4, 34, [], 0, [], 0, 0, 0),
  (34, .iadd, 35, [], 0, [], 0, 0, 0),
  (35, .istore 5, 37, [], 0, [], 0, 0, 0),
  (37, .iload_n 3, 38, [], 0, [], 0, 0, 0),
  (38, .iload_n 1, 39, [], 0, [], 0, 0, 0),
  (39, .if_icmp .ne 13, 42, [], 52, [6], 0, 0, 0),
  (42, .iload 4, 44, [], 0, [], 0, 0, 0),
  (44, .iload_n 2, 45, [], 0, [], 0, 0, 0),
  (45, .if_icmp .ne 7, 48, [], 52, [6], 0, 0, 0),
  (48, .iconst 0, 49, [], 0, [], 0, 0, 0),
  (49, .goto 5, 52, [6], 54, [6], 0, 0, 0),
  (52, .ldc 202, 54, [6], 1000000, [], 0, 250, 1000000),
  (54, .istore 6, 56, [], 0, [], 0, 0, 0),
  (56, .iload_n 3, 57, [], 0, [], 0, 0, 0),
  (57, .iload_n 1, 58, [], 0, [], 0, 0, 0),
  (58, .if_icmp .ge 35, 61, [], 93, [], 0, 0, 0),
  (61, .iload 4, 63, [], 0, [], 0, 0, 0),
  (63, .iload_n 2, 64, [], 0, [], 0, 0, 0),
  (64, .if_icmp .ge 29, 67, [], 93, [], 0, 0, 0),
  (67, .aload_n 0, 68, [], 0, [], 0, 0, 0),
  (68, .getfield 56, 71, [], 10, [], 23, 67, 0),
  (71, .iload 5, 73, [], 0, [], 0, 0, 0),
  (73, .bipush 22, 75, [], 0, [], 0, 0, 22),
  (75, .iadd, 76, [], 0, [], 0, 0, 0),
  (76, .iaload, 77, [], 0, [], 0, 0, 0),
  (77, .aload_n 0, 78, [], 0, [], 0, 0, 0),
  (78, .iconst 0, 79, [], 0, [], 0, 0, 0),
  (79, .iload_n 3, 80, [], 0, [], 0, 0, 0),
  (80, .iadd, 81, [], 0, [], 0, 0, 0),
  (81, .sipush 600, 84, [], 0, [], 0, 0, 600),
  (84, .iload 4, 86, [], 0, [], 0, 0, 0),
  (86, .iadd, 87, [], 0, [], 0, 0, 0),
  (87, .invokevirtual 203, 90, [], 112, [], 2, 251, 0),
  (90, .iadd, 91, [], 0, [], 0, 0, 0),
  (91, .istore 6, 93, [], 0, [], 0, 0, 0),
  (93, .iload_n 3, 94, [], 0, [], 0, 0, 0),
  (94, .iload_n 1, 95, [], 0, [], 0, 0, 0),
  (95, .if_icmp .ge 46, 98, [], 141, [], 0, 0, 0),
  (98, .aload_n 0, 99, [], 0, [], 0, 0, 0),
  (99, .getfield 56, 102, [], 10, [], 23, 67, 0),
  (102, .iload 5, 104, [], 0, [], 0, 0, 0),
  (104, .bipush 21, 106, [], 0, [], 0, 0, 21),
  (106, .iadd, 107, [], 0, [], 0, 0, 0),
  (107, .iaload, 108, [], 0, [], 0, 0, 0),
  (108, .aload_n 0, 109, [], 0, [], 0, 0, 0),
  (109, .iconst 0, 110, [], 0, [], 0, 0, 0),
  (110, .iload_n 3, 111, [], 0, [], 0, 0, 0),
  (111, .iadd, 112, [], 0, [], 0, 0, 0),
  (112, .invokevirtual 206, 115, [], 113, [], 1, 252, 0),
  (115, .iadd, 116, [], 0, [], 0, 0, 0),
  (116, .iload 6, 118, [], 0, [], 0, 0, 0),
  (118, .if_icmp .ge 23, 121, [], 141, [], 0, 0, 0),
  (121, .aload_n 0, 122, [], 0, [], 0, 0, 0),
  (122, .getfield 56, 125, [], 10, [], 23, 67, 0),
  (125, .iload 5, 127, [], 0, [], 0, 0, 0),
  (127, .bipush 21, 129, [], 0, [], 0, 0, 21),
  (129, .iadd, 130, [], 0, [], 0, 0, 0),
  (130, .iaload, 131, [], 0, [], 0, 0, 0),
  (131, .aload_n 0, 132, [], 0, [], 0, 0, 0),
  (132, .iconst 0, 133, [], 0, [], 0, 0, 0),
  (133, .iload_n 3, 134, [], 0, [], 0, 0, 0),
  (134, .iadd, 135, [], 0, [], 0, 0, 0),
  (135, .invokevirtual 206, 138, [], 113, [], 1, 252, 0),
  (138, .iadd, 139, [], 0, [], 0, 0, 0),
  (139, .istore 6, 141, [], 0, [], 0, 0, 0),
  (141, .iload 4, 143, [], 0, [], 0, 0, 0),
  (143, .iload_n 2, 144, [], 0, [], 0, 0, 0),
  (144, .if_icmp .ge 50, 147, [], 194, [], 0, 0, 0),
  (147, .aload_n 0, 148, [], 0, [], 0, 0, 0),
  (148, .getfield 56, 151, [], 10, [], 23, 67, 0),
  (151, .iload 5, 153, [], 0, [], 0, 0, 0),
  (153, .iconst 1, 154, [], 0, [], 0, 0, 1),
  (154, .iadd, 155, [], 0, [], 0, 0, 0),
  (155, .iaload, 156, [], 0, [], 0, 0, 0),
  (156, .aload_n 0, 157, [], 0, [], 0, 0, 0),
  (157, .sipush 600, 160, [], 0, [], 0, 0, 600),
  (160, .iload 4, 162, [], 0, [], 0, 0, 0),
  (162, .iadd, 163, [], 0, [], 0, 0, 0),
  (163, .invokevirtual 206, 166, [], 113, [], 1, 252, 0),
  (166, .iadd, 167, [], 0, [], 0, 0, 0),
  (167, .iload 6, 169, [], 0, [], 0, 0, 0),
  (169, .if_icmp .ge 25, 172, [], 194, [], 0, 0, 0),
  (172, .aload_n 0, 173, [], 0, [], 0, 0, 0),
  (173, .getfield 56, 176, [], 10, [], 23, 67, 0),
  (176, .iload 5, 178, [], 0, [], 0, 0, 0),
  (178, .iconst 1, 179, [], 0, [], 0, 0, 1),
  (179, .iadd, 180, [], 0, [], 0, 0, 0),
  (180, .iaload, 181, [], 0, [], 0, 0, 0),
  (181, .aload_n 0, 182, [], 0, [], 0, 0, 0),
  (182, .sipush 600, 185, [], 0, [], 0, 0, 600),
  (185, .iload 4, 187, [], 0, [], 0, 0, 0),
  (187, .iadd, 188, [], 0, [], 0, 0, 0),
  (188, .invokevirtual 206, 191, [], 113, [], 1, 252, 0),
  (191, .iadd, 192, [], 0, [], 0, 0, 0),
  (192, .istore 6, 194, [], 0, [], 0, 0, 0),
  (194, .aload_n 0, 195, [], 0, [], 0, 0, 0),
  (195, .getfield 56, 198, [], 10, [], 23, 67, 0),
  (198, .iload 5, 200, [], 0, [], 0, 0, 0),
  (200, .iload 6, 202, [], 0, [], 0, 0, 0),
  (202, .iastore, 203, [], 0, [], 0, 0, 0),
  (203, .iinc 4 (-1), 206, [], 0, [], 0, 0, -1),
  (206, .goto (-183), 209, [], 23, [5, 6], 0, 0, 0),
  (209, .iinc 3 (-1), 212, [], 0, [], 0, 0, -1),
  (212, .goto (-196), 215, [], 16, [4, 5, 6], 0, 0, 0),
  (215, .aload_n 0, 216, [], 0, [], 0, 0, 0),
  (216, .getfield 56, 219, [], 10, [], 23, 67, 0),
  (219, .iconst 0, 220, [], 0, [], 0, 0, 0),
  (220, .iaload, 221, [], 0, [], 0, 0, 0),
  (221, .ireturn, 222, [], 0, [], 0, 0, 0)]
def t_Book_findEnds : List (Nat × TE) := [
  (0, .iconst 0, 1, [], 0, [], 0, 0, 0),
  (1, .istore_n 3, 2, [], 0, [], 0, 0, 0),
  (2, .iconst 0, 3, [], 0, [], 0, 0, 0),
  (3, .istore 4, 5, [], 0, [], 0, 0, 0),
  (5, .lconst 0, 6, [], 0, [], 0, 0, 0),
  (6, .lstore 5, 8, [], 0, [], 0, 0, 0),
  (8, .iconst 0, 9, [], 0, [], 0, 0, 0),
  (9, .istore 7, 11, [6, 8, 9, 10, 11], 0, [], 0, 0, 0),
  (11, .iload 7, 13, [], 0, [], 0, 0, 0),
  (13, .aload_n 1, 14, [], 0, [], 0, 0, 0),
  (14, .getfield 37, 17, [], 7, [], 1, 93, 0),
  (17, .if_icmp .ge 198, 20, [], 215, [], 0, 0, 0),
  (20, .aload_n 1, 21, [], 0, [], 0, 0, 0),
  (21, .iload 7, 23, [], 0, [], 0, 0, 0),
  (23, .aload_n 1, 24, [], 0, [], 0, 0, 0),
  (24, .getfield 37, 27, [], 7, [], 1, 93, 0),
  (27, .invokestatic 50, 30, [], 120, [], 3, 253, 0),
  (30, .istore 8, 32, [], 0, [], 0, 0, 0),
  (32, .iload 7, 34, [], 0, [], 0, 0, 0),
  (34, .iconst 1, 35, [], 0, [], 0, 0, 1),
  (35, .iadd, 36, [], 0, [], 0, 0, 0),
  (36, .aload_n 1, 37, [], 0, [], 0, 0, 0),
  (37, .iload 7, 39, [], 0, [], 0, 0, 0),
  (39, .aload_n 1, 40, [], 0, [], 0, 0, 0),
  (40, .getfield 37, 43, [], 7, [], 1, 93, 0),
  (43, .iload 8, 45, [], 0, [], 0, 0, 0),
  (45, .bipush 46, 47, [], 0, [], 0, 0, 46),
  (47, .invokestatic 56, 50, [], 121, [], 5, 254, 0),
  (50, .invokestatic 60, 53, [], 1002, [], 0, 255, 0),
  (53, .istore 9, 55, [], 0, [], 0, 0, 0),
  (55, .iload 8, 57, [], 0, [], 0, 0, 0),
  (57, .bipush 6, 59, [], 0, [], 0, 0, 6),
  (59, .if_icmp .eq 6, 62, [], 65, [6, 10, 11], 0, 0, 0),
  (62, .iinc 4 1, 65, [6, 10, 11], 0, [], 0, 0, 1),
  (65, .iload 4, 67, [], 0, [], 0, 0, 0),
  (67, .bipush 20, 69, [], 0, [], 0, 0, 20),
  (69, .if_icmp .le 6, 72, [], 75, [], 0, 0, 0),
  (72, .bipush (-5), 74, [], 0, [], 0, 0, -5),
  (74, .ireturn, 75, [], 0, [], 0, 0, 0),
  (75, .aload_n 1, 76, [], 0, [], 0, 0, 0),
  (76, .iload 7, 78, [], 0, [], 0, 0, 0),
  (78, .invokevirtual 66, 81, [], 19, [], 1, 94, 0),
  (81, .bipush 46, 83, [], 0, [], 0, 0, 46),
  (83, .if_icmp .ne 16, 86, [], 99, [5, 6, 10, 11], 0, 0, 0),
  (86, .aload_n 2, 87, [], 0, [], 0, 0, 0),
  (87, .lload 5, 89, [], 0, [], 0, 0, 0),
  (89, .invokevirtual 70, 92, [], 25, [], 1, 256, 0),
  (92, .ifCond .eq 7, 95, [], 99, [5, 6, 10, 11], 0, 0, 0),
  (95, .iconst 1, 96, [], 0, [], 0, 0, 1),
  (96, .goto 4, 99, [5, 6, 10, 11], 100, [5, 6, 10, 11], 0, 0, 0),
  (99, .iconst 0, 100, [5, 6, 10, 11], 0, [], 0, 0, 0),
  (100, .istore 10, 102, [], 0, [], 0, 0, 0),
  (102, .iload 10, 104, [], 0, [], 0, 0, 0),
  (104, .ifCond .ne 28, 107, [], 132, [5, 6, 10, 11], 0, 0, 0),
  (107, .aload_n 1, 108, [], 0, [], 0, 0, 0),
  (108, .iload 7, 110, [], 0, [], 0, 0, 0),
  (110, .invokevirtual 66, 113, [], 19, [], 1, 94, 0),
  (113, .invokestatic 76, 116, [], 0, [], 1, 257, 0),
  (116, .ifCond .eq 16, 119, [], 132, [5, 6, 10, 11], 0, 0, 0),
  (119, .aload_n 1, 120, [], 0, [], 0, 0, 0),
  (120, .iload 9, 122, [], 0, [], 0, 0, 0),
  (122, .invokestatic 80, 125, [], 51, [], 2, 258, 0),
  (125, .ifCond .eq 7, 128, [], 132, [5, 6, 10, 11], 0, 0, 0),
  (128, .iconst 1, 129, [], 0, [], 0, 0, 1),
  (129, .goto 4, 132, [5, 6, 10, 11], 133, [5, 6, 10, 11], 0, 0, 0),
  (132, .iconst 0, 133, [5, 6, 10, 11], 0, [], 0, 0, 0),
  (133, .istore 11, 135, [], 0, [], 0, 0, 0),
  (135, .iload 11, 137, [], 0, [], 0, 0, 0),
  (137, .ifCond .eq 15, 140, [], 152, [5, 6, 10], 0, 0, 0),
  (140, .aload_n 1, 141, [], 0, [], 0, 0, 0),
  (141, .iload 9, 143, [], 0, [], 0, 0, 0),
  (143, .aload_n 1, 144, [], 0, [], 0, 0, 0),
  (144, .getfield 37, 147, [], 7, [], 1, 93, 0),
  (147, .invokestatic 84, 150, [], 66, [], 3, 259, 0),
  (150, .istore 9, 152, [5, 6, 10], 0, [], 0, 0, 0),
  (152, .iload 11, 154, [], 0, [], 0, 0, 0),
  (154, .ifCond .ne 12, 157, [], 166, [4, 5, 6, 10, 11], 0, 0, 0),
  (157, .iload 9, 159, [], 0, [], 0, 0, 0),
  (159, .aload_n 1, 160, [], 0, [], 0, 0, 0),
  (160, .getfield 37, 163, [], 7, [], 1, 93, 0),
  (163, .if_icmp .lt 26, 166, [4, 5, 6, 10, 11], 189, [5, 6, 10, 11], 0, 0, 0),
  (166, .iload_n 3, 167, [], 0, [], 0, 0, 0),
  (167, .bipush 24, 169, [], 0, [], 0, 0, 24),
  (169, .if_icmp .lt 6, 172, [], 175, [], 0, 0, 0),
  (172, .bipush (-5), 174, [], 0, [], 0, 0, -5),
  (174, .ireturn, 175, [], 0, [], 0, 0, 0),
  (175, .aload_n 0, 176, [], 0, [], 0, 0, 0),
  (176, .getfield 26, 179, [], 0, [], 2, 90, 0),
  (179, .iload_n 3, 180, [], 0, [], 0, 0, 0),
  (180, .iload 9, 182, [], 0, [], 0, 0, 0),
  (182, .iastore, 183, [], 0, [], 0, 0, 0),
  (183, .iinc 3 1, 186, [], 0, [], 0, 0, 1),
  (186, .iconst 0, 187, [], 0, [], 0, 0, 0),
  (187, .istore 4, 189, [5, 6, 10, 11], 0, [], 0, 0, 0),
  (189, .iload 8, 191, [], 0, [], 0, 0, 0),
  (191, .ifCond .ne 14, 194, [], 205, [], 0, 0, 0),
  (194, .aload_n 1, 195, [], 0, [], 0, 0, 0),
  (195, .iload 7, 197, [], 0, [], 0, 0, 0),
  (197, .iload 9, 199, [], 0, [], 0, 0, 0),
  (199, .invokestatic 87, 202, [], 68, [], 3, 260, 0),
  (202, .goto 4, 205, [], 206, [5, 6, 7, 8, 10, 11], 0, 0, 0),
  (205, .lconst 0, 206, [5, 6, 7, 8, 10, 11], 0, [], 0, 0, 0),
  (206, .lstore 5, 208, [], 0, [], 0, 0, 0),
  (208, .iload 9, 210, [], 0, [], 0, 0, 0),
  (210, .istore 7, 212, [], 0, [], 0, 0, 0),
  (212, .goto (-201), 215, [], 11, [6, 8, 9, 10, 11], 0, 0, 0),
  (215, .iload_n 3, 216, [], 0, [], 0, 0, 0),
  (216, .ireturn, 217, [], 0, [], 0, 0, 0)]
def t_Row_read : List (Nat × TE) := [
  (0, .aload_n 0, 1, [], 0, [], 0, 0, 0),
  (1, .aload_n 1, 2, [], 0, [], 0, 0, 0),
  (2, .putfield 9, 5, [], 6, [], 3, 16, 0),
  (5, .aload_n 0, 6, [], 0, [], 0, 0, 0),
  (6, .iload_n 2, 7, [], 0, [], 0, 0, 0),
  (7, .putfield 31, 10, [], 6, [], 4, 261, 0),
  (10, .aload_n 0, 11, [], 0, [], 0, 0, 0),
  (11, .iload_n 3, 12, [], 0, [], 0, 0, 0),
  (12, .putfield 35, 15, [], 6, [], 5, 262, 0),
  (15, .aload_n 0, 16, [], 0, [], 0, 0, 0),
  (16, .iconst 0, 17, [], 0, [], 0, 0, 0),
  (17, .putfield 38, 20, [], 6, [], 6, 21, 0),
  (20, .aload_n 0, 21, [], 0, [], 0, 0, 0),
  (21, .iconst 0, 22, [], 0, [], 0, 0, 0),
  (22, .putfield 41, 25, [], 6, [], 7, 22, 0),
  (25, .aload_n 0, 26, [], 0, [], 0, 0, 0),
  (26, .iconst 0, 27, [], 0, [], 0, 0, 0),
  (27, .putfield 44, 30, [], 6, [], 8, 23, 0),
  (30, .iload_n 2, 31, [], 0, [], 0, 0, 0),
  (31, .istore 5, 33, [2, 6, 7], 0, [], 0, 0, 0),
  (33, .iload 5, 35, [], 0, [], 0, 0, 0),
  (35, .iload_n 3, 36, [], 0, [], 0, 0, 0),
  (36, .if_icmp .ge 52, 39, [], 88, [], 0, 0, 0),
  (39, .aload_n 1, 40, [], 0, [], 0, 0, 0),
  (40, .iload 5, 42, [], 0, [], 0, 0, 0),
  (42, .iload_n 3, 43, [], 0, [], 0, 0, 0),
  (43, .invokestatic 47, 46, [], 120, [], 3, 263, 0),
  (46, .istore 6, 48, [], 0, [], 0, 0, 0),
  (48, .iload 5, 50, [], 0, [], 0, 0, 0),
  (50, .iconst 1, 51, [], 0, [], 0, 0, 1),
  (51, .iadd, 52, [], 0, [], 0, 0, 0),
  (52, .aload_n 1, 53, [], 0, [], 0, 0, 0),
  (53, .iload 5, 55, [], 0, [], 0, 0, 0),
  (55, .iload_n 3, 56, [], 0, [], 0, 0, 0),
  (56, .iload 6, 58, [], 0, [], 0, 0, 0),
  (58, .iload 4, 60, [], 0, [], 0, 0, 0),
  (60, .invokestatic 53, 63, [], 121, [], 5, 264, 0),
  (63, .invokestatic 15, 66, [], 1002, [], 0, 17, 0),
  (66, .istore 7, 68, [], 0, [], 0, 0, 0),
  (68, .aload_n 0, 69, [], 0, [], 0, 0, 0),
  (69, .iload 6, 71, [], 0, [], 0, 0, 0),
  (71, .iload 5, 73, [], 0, [], 0, 0, 0),
  (73, .iload 7, 75, [], 0, [], 0, 0, 0),
  (75, .iload 5, 77, [], 0, [], 0, 0, 0),
  (77, .isub, 78, [], 0, [], 0, 0, 0),
  (78, .invokevirtual 57, 81, [], 11, [], 3, 265, 0),
  (81, .iload 7, 83, [], 0, [], 0, 0, 0),
  (83, .istore 5, 85, [], 0, [], 0, 0, 0),
  (85, .goto (-52), 88, [], 33, [2, 6, 7], 0, 0, 0),
  (88, .return_, 89, [], 0, [], 0, 0, 0)]
def t_K_like : List (Nat × TE) := [
  (0, .aload_n 0, 1, [], 0, [], 0, 0, 0),
  (1, .iload_n 1, 2, [], 0, [], 0, 0, 0),
  (2, .invokevirtual 109, 5, [], 29, [], 1, 137, 0),
  (5, .ifCond .eq 11, 8, [], 16, [0, 1, 2], 0, 0, 0),
  (8, .aload_n 0, 9, [], 0, [], 0, 0, 0),
  (9, .iload_n 2, 10, [], 0, [], 0, 0, 0),
  (10, .invokevirtual 170, 13, [], 30, [], 1, 143, 0),
  (13, .ifCond .ne 5, 16, [0, 1, 2], 18, [], 0, 0, 0),
  (16, .iconst (-1), 17, [], 0, [], 0, 0, -1),
  (17, .ireturn, 18, [], 0, [], 0, 0, 0),
  (18, .aload_n 0, 19, [], 0, [], 0, 0, 0),
  (19, .iload_n 1, 20, [], 0, [], 0, 0, 0),
  (20, .iload_n 2, 21, [], 0, [], 0, 0, 0),
  (21, .invokevirtual 197, 24, [], 126, [], 2, 266, 0),
  (24, .ifCond .eq 7, 27, [], 31, [], 0, 0, 0),
  (27, .iconst 1, 28, [], 0, [], 0, 0, 1),
  (28, .goto 4, 31, [], 32, [0, 1, 2], 0, 0, 0),
  (31, .iconst 0, 32, [0, 1, 2], 0, [], 0, 0, 0),
  (32, .ireturn, 33, [], 0, [], 0, 0, 0)]
def t_K_differ : List (Nat × TE) := [
  (0, .aload_n 0, 1, [], 0, [], 0, 0, 0),
  (1, .iload_n 1, 2, [], 0, [], 0, 0, 0),
  (2, .invokevirtual 170, 5, [], 30, [], 1, 143, 0),
  (5, .ifCond .eq 11, 8, [], 16, [0, 1, 2], 0, 0, 0),
  (8, .aload_n 0, 9, [], 0, [], 0, 0, 0),
  (9, .iload_n 2, 10, [], 0, [], 0, 0, 0),
  (10, .invokevirtual 109, 13, [], 29, [], 1, 137, 0),
  (13, .ifCond .ne 5, 16, [0, 1, 2], 18, [], 0, 0, 0),
  (16, .iconst (-1), 17, [], 0, [], 0, 0, -1),
  (17, .ireturn, 18, [], 0, [], 0, 0, 0),
  (18, .aload_n 0, 19, [], 0, [], 0, 0, 0),
  (19, .getfield 35, 22, [], 9, [], 4, 36, 0),
  (22, .aload_n 0, 23, [], 0, [], 0, 0, 0),
  (23, .getfield 28, 26, [], 9, [], 2, 43, 0),
  (26, .getfield 207, 29, [], 2, [], 1, 245, 0),
  (29, .iload_n 1, 30, [], 0, [], 0, 0, 0),
  (30, .aaload, 31, [], 0, [], 0, 0, 0),
  (31, .aload_n 0, 32, [], 0, [], 0, 0, 0),
  (32, .getfield 21, 35, [], 9, [], 1, 41, 0),
  (35, .getfield 113, 38, [], 0, [], 1, 138, 0),
  (38, .iload_n 2, 39, [], 0, [], 0, 0, 0),
  (39, .aaload, 40, [], 0, [], 0, 0, 0),
  (40, .invokevirtual 210, 43, [], 117, [], 2, 267, 0),
  (43, .aload_n 0, 44, [], 0, [], 0, 0, 0),
  (44, .getfield 35, 47, [], 9, [], 4, 36, 0),
  (47, .getfield 214, 50, [], 1, [], 4, 37, 0),
  (50, .ireturn, 51, [], 0, [], 0, 0, 0)]
def t_K_spread : List (Nat × TE) := [
  (0, .aload_n 0, 1, [], 0, [], 0, 0, 0),
  (1, .iload_n 1, 2, [], 0, [], 0, 0, 0),
  (2, .invokevirtual 170, 5, [], 30, [], 1, 143, 0),
  (5, .ifCond .ne 5, 8, [], 10, [], 0, 0, 0),
  (8, .iconst (-1), 9, [], 0, [], 0, 0, -1),
  (9, .ireturn, 10, [], 0, [], 0, 0, 0),
  (10, .iconst 0, 11, [], 0, [], 0, 0, 0),
  (11, .istore_n 2, 12, [], 0, [], 0, 0, 0),
  (12, .iconst 0, 13, [], 0, [], 0, 0, 0),
  (13, .istore_n 3, 14, [], 0, [], 0, 0, 0),
  (14, .iload_n 3, 15, [], 0, [], 0, 0, 0),
  (15, .aload_n 0, 16, [], 0, [], 0, 0, 0),
  (16, .getfield 21, 19, [], 9, [], 1, 41, 0),
  (19, .getfield 266, 22, [], 0, [], 3, 42, 0),
  (22, .if_icmp .ge 21, 25, [], 43, [], 0, 0, 0),
  (25, .aload_n 0, 26, [], 0, [], 0, 0, 0),
  (26, .iload_n 3, 27, [], 0, [], 0, 0, 0),
  (27, .iload_n 1, 28, [], 0, [], 0, 0, 0),
  (28, .invokevirtual 197, 31, [], 126, [], 2, 266, 0),
  (31, .ifCond .eq 6, 34, [], 37, [], 0, 0, 0),
  (34, .iinc 2 1, 37, [], 0, [], 0, 0, 1),
  (37, .iinc 3 1, 40, [], 0, [], 0, 0, 1),
  (40, .goto (-26), 43, [], 14, [], 0, 0, 0),
  (43, .iload_n 2, 44, [], 0, [], 0, 0, 0),
  (44, .ireturn, 45, [], 0, [], 0, 0, 0)]
def t_K_scoreOf : List (Nat × TE) := [
  (0, .aload_n 0, 1, [], 0, [], 0, 0, 0),
  (1, .getfield 44, 4, [], 9, [], 3, 227, 0),
  (4, .iload_n 2, 5, [], 0, [], 0, 0, 0),
  (5, .aload_n 0, 6, [], 0, [], 0, 0, 0),
  (6, .getfield 28, 9, [], 9, [], 2, 43, 0),
  (9, .getfield 207, 12, [], 2, [], 1, 245, 0),
  (12, .iload_n 2, 13, [], 0, [], 0, 0, 0),
  (13, .aaload, 14, [], 0, [], 0, 0, 0),
  (14, .iload_n 1, 15, [], 0, [], 0, 0, 0),
  (15, .aload_n 0, 16, [], 0, [], 0, 0, 0),
  (16, .getfield 21, 19, [], 9, [], 1, 41, 0),
  (19, .getfield 113, 22, [], 0, [], 1, 138, 0),
  (22, .iload_n 1, 23, [], 0, [], 0, 0, 0),
  (23, .aaload, 24, [], 0, [], 0, 0, 0),
  (24, .invokevirtual 278, 27, [], 118, [], 4, 268, 0),
  (27, .ireturn, 28, [], 0, [], 0, 0, 0)]
def t_M_segment : List (Nat × TE) := [
  (0, .aload_n 0, 1, [], 0, [], 0, 0, 0),
  (1, .iload_n 1, 2, [], 0, [], 0, 0, 0),
  (2, .invokevirtual 154, 5, [], 85, [], 1, 269, 0),
  (5, .ifCond .ne 5, 8, [], 10, [], 0, 0, 0),
  (8, .iconst (-1), 9, [], 0, [], 0, 0, -1),
  (9, .ireturn, 10, [], 0, [], 0, 0, 0),
  (10, .aload_n 0, 11, [], 0, [], 0, 0, 0),
  (11, .iconst 1, 12, [], 0, [], 0, 0, 1),
  (12, .iload_n 1, 13, [], 0, [], 0, 0, 0),
  (13, .invokevirtual 157, 16, [], 129, [], 2, 270, 0),
  (16, .iload_n 2, 17, [], 0, [], 0, 0, 0),
  (17, .tableswitch 87 0 5 #[39, 46, 53, 60, 67, 73], 56, [], 104, [], 0, 0, 0),
  (56, .aload_n 0, 57, [], 0, [], 0, 0, 0),
  (57, .getfield 41, 60, [], 10, [], 16, 62, 0),
  (60, .iload_n 1, 61, [], 0, [], 0, 0, 0),
  (61, .iaload, 62, [], 0, [], 0, 0, 0),
  (62, .ireturn, 63, [], 0, [], 0, 0, 0),
  (63, .aload_n 0, 64, [], 0, [], 0, 0, 0),
  (64, .getfield 44, 67, [], 10, [], 17, 63, 0),
  (67, .iload_n 1, 68, [], 0, [], 0, 0, 0),
  (68, .iaload, 69, [], 0, [], 0, 0, 0),
  (69, .ireturn, 70, [], 0, [], 0, 0, 0),
  (70, .aload_n 0, 71, [], 0, [], 0, 0, 0),
  (71, .getfield 26, 74, [], 10, [], 6, 57, 0),
  (74, .iconst 1, 75, [], 0, [], 0, 0, 1),
  (75, .iaload, 76, [], 0, [], 0, 0, 0),
  (76, .ireturn, 77, [], 0, [], 0, 0, 0),
  (77, .aload_n 0, 78, [], 0, [], 0, 0, 0),
  (78, .getfield 29, 81, [], 10, [], 7, 58, 0),
  (81, .iconst 1, 82, [], 0, [], 0, 0, 1),
  (82, .iaload, 83, [], 0, [], 0, 0, 0),
  (83, .ireturn, 84, [], 0, [], 0, 0, 0),
  (84, .aload_n 0, 85, [], 0, [], 0, 0, 0),
  (85, .iconst 1, 86, [], 0, [], 0, 0, 1),
  (86, .invokevirtual 161, 89, [], 43, [], 1, 271, 0),
  (89, .ireturn, 90, [], 0, [], 0, 0, 0),
  (90, .aload_n 0, 91, [], 0, [], 0, 0, 0),
  (91, .iconst 1, 92, [], 0, [], 0, 0, 1),
  (92, .invokevirtual 164, 95, [], 81, [], 1, 272, 0),
  (95, .ifCond .eq 7, 98, [], 102, [], 0, 0, 0),
  (98, .iconst 1, 99, [], 0, [], 0, 0, 1),
  (99, .goto 4, 102, [], 103, [0, 1, 2], 0, 0, 0),
  (102, .iconst 0, 103, [0, 1, 2], 0, [], 0, 0, 0),
  (103, .ireturn, 104, [], 0, [], 0, 0, 0),
  (104, .iconst (-1), 105, [], 0, [], 0, 0, -1),
  (105, .ireturn, 106, [], 0, [], 0, 0, 0)]
def t_M_piece : List (Nat × TE) := [
  (0, .aload_n 0, 1, [], 0, [], 0, 0, 0),
  (1, .iload_n 1, 2, [], 0, [], 0, 0, 0),
  (2, .invokevirtual 154, 5, [], 85, [], 1, 269, 0),
  (5, .ifCond .ne 5, 8, [], 10, [], 0, 0, 0),
  (8, .iconst (-1), 9, [], 0, [], 0, 0, -1),
  (9, .ireturn, 10, [], 0, [], 0, 0, 0),
  (10, .aload_n 0, 11, [], 0, [], 0, 0, 0),
  (11, .iconst 1, 12, [], 0, [], 0, 0, 1),
  (12, .iload_n 1, 13, [], 0, [], 0, 0, 0),
  (13, .invokevirtual 157, 16, [], 129, [], 2, 270, 0),
  (16, .iload_n 2, 17, [], 0, [], 0, 0, 0),
  (17, .iconst 0, 18, [], 0, [], 0, 0, 0),
  (18, .aload_n 0, 19, [], 0, [], 0, 0, 0),
  (19, .getfield 29, 22, [], 10, [], 7, 58, 0),
  (22, .iconst 1, 23, [], 0, [], 0, 0, 1),
  (23, .iaload, 24, [], 0, [], 0, 0, 0),
  (24, .iconst 1, 25, [], 0, [], 0, 0, 1),
  (25, .isub, 26, [], 0, [], 0, 0, 0),
  (26, .invokestatic 85, 29, [], 33, [], 3, 150, 0),
  (29, .ifCond .ne 5, 32, [], 34, [], 0, 0, 0),
  (32, .iconst (-1), 33, [], 0, [], 0, 0, -1),
  (33, .ireturn, 34, [], 0, [], 0, 0, 0),
  (34, .sipush 600, 37, [], 0, [], 0, 0, 600),
  (37, .iload_n 2, 38, [], 0, [], 0, 0, 0),
  (38, .iadd, 39, [], 0, [], 0, 0, 0),
  (39, .istore 4, 41, [], 0, [], 0, 0, 0),
  (41, .iload_n 3, 42, [], 0, [], 0, 0, 0),
  (42, .ifCond .ne 13, 45, [], 55, [], 0, 0, 0),
  (45, .aload_n 0, 46, [], 0, [], 0, 0, 0),
  (46, .getfield 17, 49, [], 10, [], 3, 54, 0),
  (49, .iload 4, 51, [], 0, [], 0, 0, 0),
  (51, .iaload, 52, [], 0, [], 0, 0, 0),
  (52, .goto 38, 55, [], 90, [0, 1, 2, 3, 4], 0, 0, 0),
  (55, .iload_n 3, 56, [], 0, [], 0, 0, 0),
  (56, .iconst 1, 57, [], 0, [], 0, 0, 1),
  (57, .if_icmp .ne 17, 60, [], 74, [], 0, 0, 0),
  (60, .aload_n 0, 61, [], 0, [], 0, 0, 0),
  (61, .getfield 20, 64, [], 10, [], 4, 55, 0),
  (64, .iload 4, 66, [], 0, [], 0, 0, 0),
  (66, .iaload, 67, [], 0, [], 0, 0, 0),
  (67, .sipush 600, 70, [], 0, [], 0, 0, 600),
  (70, .isub, 71, [], 0, [], 0, 0, 0),
  (71, .goto 19, 74, [], 90, [0, 1, 2, 3, 4], 0, 0, 0),
  (74, .iload_n 3, 75, [], 0, [], 0, 0, 0),
  (75, .iconst 2, 76, [], 0, [], 0, 0, 2),
  (76, .if_icmp .ne 13, 79, [], 89, [], 0, 0, 0),
  (79, .aload_n 0, 80, [], 0, [], 0, 0, 0),
  (80, .getfield 23, 83, [], 10, [], 5, 56, 0),
  (83, .iload 4, 85, [], 0, [], 0, 0, 0),
  (85, .iaload, 86, [], 0, [], 0, 0, 0),
  (86, .goto 4, 89, [], 90, [0, 1, 2, 3, 4], 0, 0, 0),
  (89, .iconst (-1), 90, [0, 1, 2, 3, 4], 0, [], 0, 0, -1),
  (90, .ireturn, 91, [], 0, [], 0, 0, 0)]
def t_M_keep : List (Nat × TE) := [
  (0, .aload_n 0, 1, [], 0, [], 0, 0, 0),
  (1, .iload_n 1, 2, [], 0, [], 0, 0, 0),
  (2, .invokevirtual 154, 5, [], 85, [], 1, 269, 0),
  (5, .ifCond .ne 5, 8, [], 10, [], 0, 0, 0),
  (8, .iconst (-1), 9, [], 0, [], 0, 0, -1),
  (9, .ireturn, 10, [], 0, [], 0, 0, 0),
  (10, .iload_n 2, 11, [], 0, [], 0, 0, 0),
  (11, .iconst 0, 12, [], 0, [], 0, 0, 0),
  (12, .bipush 99, 14, [], 0, [], 0, 0, 99),
  (14, .invokestatic 85, 17, [], 33, [], 3, 150, 0),
  (17, .ifCond .ne 6, 20, [], 23, [], 0, 0, 0),
  (20, .bipush (-2), 22, [], 0, [], 0, 0, -2),
  (22, .ireturn, 23, [], 0, [], 0, 0, 0),
  (23, .aload_n 0, 24, [], 0, [], 0, 0, 0),
  (24, .iconst 1, 25, [], 0, [], 0, 0, 1),
  (25, .iload_n 1, 26, [], 0, [], 0, 0, 0),
  (26, .invokevirtual 157, 29, [], 129, [], 2, 270, 0),
  (29, .aload_n 0, 30, [], 0, [], 0, 0, 0),
  (30, .iconst 2, 31, [], 0, [], 0, 0, 2),
  (31, .iconst 0, 32, [], 0, [], 0, 0, 0),
  (32, .invokevirtual 173, 35, [], 127, [], 2, 273, 0),
  (35, .aload_n 0, 36, [], 0, [], 0, 0, 0),
  (36, .iconst 1, 37, [], 0, [], 0, 0, 1),
  (37, .invokevirtual 164, 40, [], 81, [], 1, 272, 0),
  (40, .ifCond .ne 11, 43, [], 51, [0, 1, 2], 0, 0, 0),
  (43, .aload_n 0, 44, [], 0, [], 0, 0, 0),
  (44, .iconst 2, 45, [], 0, [], 0, 0, 2),
  (45, .invokevirtual 164, 48, [], 81, [], 1, 272, 0),
  (48, .ifCond .eq 6, 51, [0, 1, 2], 54, [], 0, 0, 0),
  (51, .bipush (-3), 53, [], 0, [], 0, 0, -3),
  (53, .ireturn, 54, [], 0, [], 0, 0, 0),
  (54, .aload_n 0, 55, [], 0, [], 0, 0, 0),
  (55, .getfield 167, 58, [], 10, [], 19, 79, 0),
  (58, .bipush 20, 60, [], 0, [], 0, 0, 20),
  (60, .if_icmp .eq 12, 63, [], 72, [0, 1, 2], 0, 0, 0),
  (63, .aload_n 0, 64, [], 0, [], 0, 0, 0),
  (64, .getfield 170, 67, [], 10, [], 20, 80, 0),
  (67, .bipush 40, 69, [], 0, [], 0, 0, 40),
  (69, .if_icmp .ne 6, 72, [0, 1, 2], 75, [], 0, 0, 0),
  (72, .bipush (-5), 74, [], 0, [], 0, 0, -5),
  (74, .ireturn, 75, [], 0, [], 0, 0, 0),
  (75, .aload_n 0, 76, [], 0, [], 0, 0, 0),
  (76, .sipush 600, 79, [], 0, [], 0, 0, 600),
  (79, .aload_n 0, 80, [], 0, [], 0, 0, 0),
  (80, .getfield 41, 83, [], 10, [], 16, 62, 0),
  (83, .iload_n 1, 84, [], 0, [], 0, 0, 0),
  (84, .iaload, 85, [], 0, [], 0, 0, 0),
  (85, .iadd, 86, [], 0, [], 0, 0, 0),
  (86, .aload_n 0, 87, [], 0, [], 0, 0, 0),
  (87, .getfield 44, 90, [], 10, [], 17, 63, 0),
  (90, .iload_n 1, 91, [], 0, [], 0, 0, 0),
  (91, .iaload, 92, [], 0, [], 0, 0, 0),
  (92, .iconst 2, 93, [], 0, [], 0, 0, 2),
  (93, .aload_n 0, 94, [], 0, [], 0, 0, 0),
  (94, .getfield 167, 97, [], 10, [], 19, 79, 0),
  (97, .iadd, 98, [], 0, [], 0, 0, 0),
  (98, .invokevirtual 148, 101, [], 34, [], 3, 157, 0),
  (101, .aload_n 0, 102, [], 0, [], 0, 0, 0),
  (102, .dup, 103, [], 0, [], 0, 0, 0),
  (103, .getfield 167, 106, [], 10, [], 19, 79, 0),
  (106, .iconst 1, 107, [], 0, [], 0, 0, 1),
  (107, .iadd, 108, [], 0, [], 0, 0, 0),
  (108, .putfield 167, 111, [], 10, [], 19, 79, 0),
  (111, .aload_n 0, 112, [], 0, [], 0, 0, 0),
  (112, .aload_n 0, 113, [], 0, [], 0, 0, 0),
  (113, .getfield 167, 116, [], 10, [], 19, 79, 0),
  (116, .iconst 1, 117, [], 0, [], 0, 0, 1),
  (117, .isub, 118, [], 0, [], 0, 0, 0),
  (118, .iload_n 2, 119, [], 0, [], 0, 0, 0),
  (119, .invokevirtual 176, 122, [], 87, [], 2, 274, 0),
  (122, .aload_n 0, 123, [], 0, [], 0, 0, 0),
  (123, .getfield 167, 126, [], 10, [], 19, 79, 0),
  (126, .iconst 1, 127, [], 0, [], 0, 0, 1),
  (127, .isub, 128, [], 0, [], 0, 0, 0),
  (128, .ireturn, 129, [], 0, [], 0, 0, 0)]
def t_M_change : List (Nat × TE) := [
  (0, .aload_n 0, 1, [], 0, [], 0, 0, 0),
  (1, .iload_n 1, 2, [], 0, [], 0, 0, 0),
  (2, .invokevirtual 179, 5, [], 86, [], 1, 193, 0),
  (5, .ifCond .ne 5, 8, [], 10, [], 0, 0, 0),
  (8, .iconst (-1), 9, [], 0, [], 0, 0, -1),
  (9, .ireturn, 10, [], 0, [], 0, 0, 0),
  (10, .iload_n 2, 11, [], 0, [], 0, 0, 0),
  (11, .iconst 0, 12, [], 0, [], 0, 0, 0),
  (12, .bipush 99, 14, [], 0, [], 0, 0, 99),
  (14, .invokestatic 85, 17, [], 33, [], 3, 150, 0),
  (17, .ifCond .ne 6, 20, [], 23, [], 0, 0, 0),
  (20, .bipush (-2), 22, [], 0, [], 0, 0, -2),
  (22, .ireturn, 23, [], 0, [], 0, 0, 0),
  (23, .aload_n 0, 24, [], 0, [], 0, 0, 0),
  (24, .iconst 2, 25, [], 0, [], 0, 0, 2),
  (25, .iconst 0, 26, [], 0, [], 0, 0, 0),
  (26, .invokevirtual 173, 29, [], 127, [], 2, 273, 0),
  (29, .aload_n 0, 30, [], 0, [], 0, 0, 0),
  (30, .iconst 2, 31, [], 0, [], 0, 0, 2),
  (31, .invokevirtual 164, 34, [], 81, [], 1, 272, 0),
  (34, .ifCond .eq 6, 37, [], 40, [], 0, 0, 0),
  (37, .bipush (-3), 39, [], 0, [], 0, 0, -3),
  (39, .ireturn, 40, [], 0, [], 0, 0, 0),
  (40, .aload_n 0, 41, [], 0, [], 0, 0, 0),
  (41, .getfield 170, 44, [], 10, [], 20, 80, 0),
  (44, .bipush 40, 46, [], 0, [], 0, 0, 40),
  (46, .if_icmp .ne 6, 49, [], 52, [], 0, 0, 0),
  (49, .bipush (-5), 51, [], 0, [], 0, 0, -5),
  (51, .ireturn, 52, [], 0, [], 0, 0, 0),
  (52, .aload_n 0, 53, [], 0, [], 0, 0, 0),
  (53, .iload_n 1, 54, [], 0, [], 0, 0, 0),
  (54, .iload_n 2, 55, [], 0, [], 0, 0, 0),
  (55, .invokevirtual 176, 58, [], 87, [], 2, 274, 0),
  (58, .aload_n 0, 59, [], 0, [], 0, 0, 0),
  (59, .getfield 170, 62, [], 10, [], 20, 80, 0),
  (62, .ireturn, 63, [], 0, [], 0, 0, 0)]
def t_M_readBoth : List (Nat × TE) := [
  (0, .aload_n 0, 1, [], 0, [], 0, 0, 0),
  (1, .iconst 0, 2, [], 0, [], 0, 0, 0),
  (2, .iconst 2, 3, [], 0, [], 0, 0, 2),
  (3, .iload_n 2, 4, [], 0, [], 0, 0, 0),
  (4, .iadd, 5, [], 0, [], 0, 0, 0),
  (5, .invokevirtual 173, 8, [], 127, [], 2, 273, 0),
  (8, .aload_n 0, 9, [], 0, [], 0, 0, 0),
  (9, .iconst 1, 10, [], 0, [], 0, 0, 1),
  (10, .iload_n 1, 11, [], 0, [], 0, 0, 0),
  (11, .invokevirtual 157, 14, [], 129, [], 2, 270, 0),
  (14, .return_, 15, [], 0, [], 0, 0, 0)]
def t_M_faults : List (Nat × TE) := [
  (0, .aload_n 0, 1, [], 0, [], 0, 0, 0),
  (1, .iload_n 1, 2, [], 0, [], 0, 0, 0),
  (2, .invokevirtual 179, 5, [], 86, [], 1, 193, 0),
  (5, .ifCond .ne 5, 8, [], 10, [], 0, 0, 0),
  (8, .iconst (-1), 9, [], 0, [], 0, 0, -1),
  (9, .ireturn, 10, [], 0, [], 0, 0, 0),
  (10, .aload_n 0, 11, [], 0, [], 0, 0, 0),
  (11, .iconst 0, 12, [], 0, [], 0, 0, 0),
  (12, .iconst 2, 13, [], 0, [], 0, 0, 2),
  (13, .iload_n 1, 14, [], 0, [], 0, 0, 0),
  (14, .iadd, 15, [], 0, [], 0, 0, 0),
  (15, .invokevirtual 173, 18, [], 127, [], 2, 273, 0),
  (18, .aload_n 0, 19, [], 0, [], 0, 0, 0),
  (19, .iconst 2, 20, [], 0, [], 0, 0, 2),
  (20, .bipush 22, 22, [], 0, [], 0, 0, 22),
  (22, .aload_n 0, 23, [], 0, [], 0, 0, 0),
  (23, .iload_n 1, 24, [], 0, [], 0, 0, 0),
  (24, .aload_n 0, 25, [], 0, [], 0, 0, 0),
  (25, .getfield 170, 28, [], 10, [], 20, 80, 0),
  (28, .invokevirtual 182, 31, [], 44, [], 2, 158, 0),
  (31, .iadd, 32, [], 0, [], 0, 0, 0),
  (32, .invokevirtual 173, 35, [], 127, [], 2, 273, 0),
  (35, .iconst 0, 36, [], 0, [], 0, 0, 0),
  (36, .istore_n 2, 37, [1], 0, [], 0, 0, 0),
  (37, .iload_n 2, 38, [], 0, [], 0, 0, 0),
  (38, .aload_n 0, 39, [], 0, [], 0, 0, 0),
  (39, .getfield 136, 42, [], 10, [], 13, 82, 0),
  (42, .if_icmp .ge 32, 45, [], 74, [], 0, 0, 0),
  (45, .aload_n 0, 46, [], 0, [], 0, 0, 0),
  (46, .iconst 0, 47, [], 0, [], 0, 0, 0),
  (47, .bipush 8, 49, [], 0, [], 0, 0, 8),
  (49, .iload_n 2, 50, [], 0, [], 0, 0, 0),
  (50, .iadd, 51, [], 0, [], 0, 0, 0),
  (51, .invokevirtual 238, 54, [], 116, [], 2, 275, 0),
  (54, .aload_n 0, 55, [], 0, [], 0, 0, 0),
  (55, .iconst 2, 56, [], 0, [], 0, 0, 2),
  (56, .bipush 18, 58, [], 0, [], 0, 0, 18),
  (58, .iload_n 2, 59, [], 0, [], 0, 0, 0),
  (59, .iadd, 60, [], 0, [], 0, 0, 0),
  (60, .invokevirtual 238, 63, [], 116, [], 2, 275, 0),
  (63, .if_icmp .eq 5, 66, [], 68, [], 0, 0, 0),
  (66, .iload_n 2, 67, [], 0, [], 0, 0, 0),
  (67, .ireturn, 68, [], 0, [], 0, 0, 0),
  (68, .iinc 2 1, 71, [], 0, [], 0, 0, 1),
  (71, .goto (-34), 74, [], 37, [1], 0, 0, 0),
  (74, .iconst 0, 75, [], 0, [], 0, 0, 0),
  (75, .istore_n 2, 76, [1], 0, [], 0, 0, 0),
  (76, .iload_n 2, 77, [], 0, [], 0, 0, 0),
  (77, .aload_n 0, 78, [], 0, [], 0, 0, 0),
  (78, .getfield 139, 81, [], 10, [], 14, 83, 0),
  (81, .if_icmp .ge 26, 84, [], 107, [], 0, 0, 0),
  (84, .aload_n 0, 85, [], 0, [], 0, 0, 0),
  (85, .iconst 2, 86, [], 0, [], 0, 0, 2),
  (86, .bipush 28, 88, [], 0, [], 0, 0, 28),
  (88, .iload_n 2, 89, [], 0, [], 0, 0, 0),
  (89, .iadd, 90, [], 0, [], 0, 0, 0),
  (90, .invokevirtual 238, 93, [], 116, [], 2, 275, 0),
  (93, .ifCond .le 8, 96, [], 101, [], 0, 0, 0),
  (96, .bipush 100, 98, [], 0, [], 0, 0, 100),
  (98, .iload_n 2, 99, [], 0, [], 0, 0, 0),
  (99, .iadd, 100, [], 0, [], 0, 0, 0),
  (100, .ireturn, 101, [], 0, [], 0, 0, 0),
  (101, .iinc 2 1, 104, [], 0, [], 0, 0, 1),
  (104, .goto (-28), 107, [], 76, [1], 0, 0, 0),
  (107, .sipush 200, 110, [], 0, [], 0, 0, 200),
  (110, .ireturn, 111, [], 0, [], 0, 0, 0)]
def t_Book_become : List (Nat × TE) := [
  (0, .aload_n 0, 1, [], 0, [], 0, 0, 0),
  (1, .aload_n 1, 2, [], 0, [], 0, 0, 0),
  (2, .aload_n 2, 3, [], 0, [], 0, 0, 0),
  (3, .invokevirtual 33, 6, [], 131, [], 2, 276, 0),
  (6, .istore_n 3, 7, [], 0, [], 0, 0, 0),
  (7, .iload_n 3, 8, [], 0, [], 0, 0, 0),
  (8, .ifCond .ge 5, 11, [], 13, [], 0, 0, 0),
  (11, .iload_n 3, 12, [], 0, [], 0, 0, 0),
  (12, .ireturn, 13, [], 0, [], 0, 0, 0),
  (13, .aload_n 0, 14, [], 0, [], 0, 0, 0),
  (14, .getfield 14, 17, [], 0, [], 0, 87, 0),
  (17, .aload_n 1, 18, [], 0, [], 0, 0, 0),
  (18, .iconst 0, 19, [], 0, [], 0, 0, 0),
  (19, .aload_n 1, 20, [], 0, [], 0, 0, 0),
  (20, .getfield 37, 23, [], 7, [], 1, 93, 0),
  (23, .invokevirtual 41, 26, [], 21, [], 3, 277, 0),
  (26, .iconst 0, 27, [], 0, [], 0, 0, 0),
  (27, .istore 4, 29, [], 0, [], 0, 0, 0),
  (29, .iconst 0, 30, [], 0, [], 0, 0, 0),
  (30, .istore 5, 32, [1, 2], 0, [], 0, 0, 0),
  (32, .iload 5, 34, [], 0, [], 0, 0, 0),
  (34, .iload_n 3, 35, [], 0, [], 0, 0, 0),
  (35, .if_icmp .ge 43, 38, [], 78, [], 0, 0, 0),
  (38, .aload_n 0, 39, [], 0, [], 0, 0, 0),
  (39, .getfield 22, 42, [], 0, [], 1, 89, 0),
  (42, .iload 5, 44, [], 0, [], 0, 0, 0),
  (44, .aaload, 45, [], 0, [], 0, 0, 0),
  (45, .aload_n 0, 46, [], 0, [], 0, 0, 0),
  (46, .getfield 14, 49, [], 0, [], 0, 87, 0),
  (49, .iload 4, 51, [], 0, [], 0, 0, 0),
  (51, .aload_n 0, 52, [], 0, [], 0, 0, 0),
  (52, .getfield 26, 55, [], 0, [], 2, 90, 0),
  (55, .iload 5, 57, [], 0, [], 0, 0, 0),
  (57, .iaload, 58, [], 0, [], 0, 0, 0),
  (58, .bipush 46, 60, [], 0, [], 0, 0, 46),
  (60, .invokevirtual 45, 63, [], 132, [], 4, 278, 0),
  (63, .aload_n 0, 64, [], 0, [], 0, 0, 0),
  (64, .getfield 26, 67, [], 0, [], 2, 90, 0),
  (67, .iload 5, 69, [], 0, [], 0, 0, 0),
  (69, .iaload, 70, [], 0, [], 0, 0, 0),
  (70, .istore 4, 72, [], 0, [], 0, 0, 0),
  (72, .iinc 5 1, 75, [], 0, [], 0, 0, 1),
  (75, .goto (-43), 78, [], 32, [1, 2], 0, 0, 0),
  (78, .aload_n 0, 79, [], 0, [], 0, 0, 0),
  (79, .iload_n 3, 80, [], 0, [], 0, 0, 0),
  (80, .putfield 49, 83, [], 0, [], 3, 279, 0),
  (83, .iload_n 3, 84, [], 0, [], 0, 0, 0),
  (84, .ireturn, 85, [], 0, [], 0, 0, 0)]
def t_Memory_addPair : List (Nat × TE) := [
  (0, .aload_n 0, 1, [], 0, [], 0, 0, 0),
  (1, .getfield 42, 4, [], 2, [], 6, 110, 0),
  (4, .istore_n 2, 5, [], 0, [], 0, 0, 0),
  (5, .aload_n 0, 6, [], 0, [], 0, 0, 0),
  (6, .getfield 11, 9, [], 2, [], 0, 97, 0),
  (9, .iload_n 2, 10, [], 0, [], 0, 0, 0),
  (10, .aaload, 11, [], 0, [], 0, 0, 0),
  (11, .aload_n 1, 12, [], 0, [], 0, 0, 0),
  (12, .getfield 46, 15, [], 6, [], 3, 280, 0),
  (15, .aload_n 1, 16, [], 0, [], 0, 0, 0),
  (16, .getfield 50, 19, [], 6, [], 4, 281, 0),
  (19, .aload_n 1, 20, [], 0, [], 0, 0, 0),
  (20, .getfield 53, 23, [], 6, [], 5, 282, 0),
  (23, .invokevirtual 56, 26, [], 21, [], 3, 108, 0),
  (26, .aload_n 0, 27, [], 0, [], 0, 0, 0),
  (27, .getfield 19, 30, [], 2, [], 1, 99, 0),
  (30, .iload_n 2, 31, [], 0, [], 0, 0, 0),
  (31, .aaload, 32, [], 0, [], 0, 0, 0),
  (32, .aload_n 0, 33, [], 0, [], 0, 0, 0),
  (33, .getfield 11, 36, [], 2, [], 0, 97, 0),
  (36, .iload_n 2, 37, [], 0, [], 0, 0, 0),
  (37, .aaload, 38, [], 0, [], 0, 0, 0),
  (38, .iconst 0, 39, [], 0, [], 0, 0, 0),
  (39, .aload_n 0, 40, [], 0, [], 0, 0, 0),
  (40, .getfield 11, 43, [], 2, [], 0, 97, 0),
  (43, .iload_n 2, 44, [], 0, [], 0, 0, 0),
  (44, .aaload, 45, [], 0, [], 0, 0, 0),
  (45, .getfield 60, 48, [], 7, [], 1, 107, 0),
  (48, .bipush 46, 50, [], 0, [], 0, 0, 46),
  (50, .invokevirtual 63, 53, [], 132, [], 4, 283, 0),
  (53, .aload_n 0, 54, [], 0, [], 0, 0, 0),
  (54, .dup, 55, [], 0, [], 0, 0, 0),
  (55, .getfield 42, 58, [], 2, [], 6, 110, 0),
  (58, .iconst 1, 59, [], 0, [], 0, 0, 1),
  (59, .iadd, 60, [], 0, [], 0, 0, 0),
  (60, .putfield 42, 63, [], 2, [], 6, 110, 0),
  (63, .iload_n 2, 64, [], 0, [], 0, 0, 0),
  (64, .ireturn, 65, [], 0, [], 0, 0, 0)]
def t_K_score : List (Nat × TE) := [
  (0, .aload_n 0, 1, [], 0, [], 0, 0, 0),
  (1, .iload_n 1, 2, [], 0, [], 0, 0, 0),
  (2, .invokevirtual 109, 5, [], 29, [], 1, 137, 0),
  (5, .ifCond .eq 20, 8, [], 25, [0, 1, 2], 0, 0, 0),
  (8, .aload_n 0, 9, [], 0, [], 0, 0, 0),
  (9, .iload_n 2, 10, [], 0, [], 0, 0, 0),
  (10, .invokevirtual 170, 13, [], 30, [], 1, 143, 0),
  (13, .ifCond .eq 12, 16, [], 25, [0, 1, 2], 0, 0, 0),
  (16, .aload_n 0, 17, [], 0, [], 0, 0, 0),
  (17, .iload_n 1, 18, [], 0, [], 0, 0, 0),
  (18, .iload_n 2, 19, [], 0, [], 0, 0, 0),
  (19, .invokevirtual 201, 22, [], 136, [], 2, 284, 0),
  (22, .goto 4, 25, [0, 1, 2], 26, [0, 1, 2], 0, 0, 0),
  (25, .iconst (-1), 26, [0, 1, 2], 0, [], 0, 0, -1),
  (26, .ireturn, 27, [], 0, [], 0, 0, 0)]
def t_K_isTapeTorn : List (Nat × TE) := [
  (0, .aload_n 0, 1, [], 0, [], 0, 0, 0),
  (1, .getfield 67, 4, [], 9, [], 7, 236, 0),
  (4, .aload_n 0, 5, [], 0, [], 0, 0, 0),
  (5, .getfield 14, 8, [], 9, [], 0, 34, 0),
  (8, .iconst 0, 9, [], 0, [], 0, 0, 0),
  (9, .aload_n 0, 10, [], 0, [], 0, 0, 0),
  (10, .getfield 14, 13, [], 9, [], 0, 34, 0),
  (13, .getfield 87, 16, [], 7, [], 1, 35, 0),
  (16, .bipush 44, 18, [], 0, [], 0, 0, 44),
  (18, .invokevirtual 267, 21, [], 132, [], 4, 285, 0),
  (21, .aload_n 0, 22, [], 0, [], 0, 0, 0),
  (22, .getfield 58, 25, [], 9, [], 6, 233, 0),
  (25, .aload_n 0, 26, [], 0, [], 0, 0, 0),
  (26, .getfield 67, 29, [], 9, [], 7, 236, 0),
  (29, .invokevirtual 132, 32, [], 92, [], 1, 244, 0),
  (32, .ireturn, 33, [], 0, [], 0, 0, 0)]
def t_K_readRenderingOf : List (Nat × TE) := [
  (0, .aload_n 0, 1, [], 0, [], 0, 0, 0),
  (1, .getfield 28, 4, [], 9, [], 2, 43, 0),
  (4, .getfield 184, 7, [], 2, [], 3, 146, 0),
  (7, .aload_n 0, 8, [], 0, [], 0, 0, 0),
  (8, .getfield 28, 11, [], 9, [], 2, 43, 0),
  (11, .getfield 177, 14, [], 2, [], 2, 144, 0),
  (14, .iload_n 1, 15, [], 0, [], 0, 0, 0),
  (15, .iaload, 16, [], 0, [], 0, 0, 0),
  (16, .aaload, 17, [], 0, [], 0, 0, 0),
  (17, .astore_n 2, 18, [], 0, [], 0, 0, 0),
  (18, .aload_n 0, 19, [], 0, [], 0, 0, 0),
  (19, .getfield 67, 22, [], 9, [], 7, 236, 0),
  (22, .aload_n 2, 23, [], 0, [], 0, 0, 0),
  (23, .iconst 0, 24, [], 0, [], 0, 0, 0),
  (24, .aload_n 2, 25, [], 0, [], 0, 0, 0),
  (25, .getfield 87, 28, [], 7, [], 1, 35, 0),
  (28, .bipush 44, 30, [], 0, [], 0, 0, 44),
  (30, .invokevirtual 267, 33, [], 132, [], 4, 285, 0),
  (33, .return_, 34, [], 0, [], 0, 0, 0)]
def t_K_aheadOf : List (Nat × TE) := [
  (0, .aload_n 0, 1, [], 0, [], 0, 0, 0),
  (1, .iload_n 2, 2, [], 0, [], 0, 0, 0),
  (2, .iload_n 1, 3, [], 0, [], 0, 0, 0),
  (3, .invokevirtual 201, 6, [], 136, [], 2, 284, 0),
  (6, .istore_n 3, 7, [], 0, [], 0, 0, 0),
  (7, .iconst 0, 8, [], 0, [], 0, 0, 0),
  (8, .istore 4, 10, [], 0, [], 0, 0, 0),
  (10, .iconst 0, 11, [], 0, [], 0, 0, 0),
  (11, .istore 5, 13, [6], 0, [], 0, 0, 0),
  (13, .iload 5, 15, [], 0, [], 0, 0, 0),
  (15, .aload_n 0, 16, [], 0, [], 0, 0, 0),
  (16, .getfield 28, 19, [], 9, [], 2, 43, 0),
  (19, .getfield 153, 22, [], 2, [], 6, 44, 0),
  (22, .if_icmp .ge 55, 25, [], 77, [], 0, 0, 0),
  (25, .aload_n 0, 26, [], 0, [], 0, 0, 0),
  (26, .iload_n 2, 27, [], 0, [], 0, 0, 0),
  (27, .iload 5, 29, [], 0, [], 0, 0, 0),
  (29, .invokevirtual 201, 32, [], 136, [], 2, 284, 0),
  (32, .istore 6, 34, [], 0, [], 0, 0, 0),
  (34, .iload 6, 36, [], 0, [], 0, 0, 0),
  (36, .iload_n 3, 37, [], 0, [], 0, 0, 0),
  (37, .if_icmp .gt 31, 40, [], 68, [6], 0, 0, 0),
  (40, .iload 6, 42, [], 0, [], 0, 0, 0),
  (42, .iload_n 3, 43, [], 0, [], 0, 0, 0),
  (43, .if_icmp .ne 28, 46, [], 71, [6], 0, 0, 0),
  (46, .aload_n 0, 47, [], 0, [], 0, 0, 0),
  (47, .getfield 28, 50, [], 9, [], 2, 43, 0),
  (50, .getfield 177, 53, [], 2, [], 2, 144, 0),
  (53, .iload 5, 55, [], 0, [], 0, 0, 0),
  (55, .iaload, 56, [], 0, [], 0, 0, 0),
  (56, .aload_n 0, 57, [], 0, [], 0, 0, 0),
  (57, .getfield 28, 60, [], 9, [], 2, 43, 0),
  (60, .getfield 177, 63, [], 2, [], 2, 144, 0),
  (63, .iload_n 1, 64, [], 0, [], 0, 0, 0),
  (64, .iaload, 65, [], 0, [], 0, 0, 0),
  (65, .if_icmp .le 6, 68, [6], 71, [6], 0, 0, 0),
  (68, .iinc 4 1, 71, [6], 0, [], 0, 0, 1),
  (71, .iinc 5 1, 74, [], 0, [], 0, 0, 1),
  (74, .goto (-61), 77, [], 13, [6], 0, 0, 0),
  (77, .iload 4, 79, [], 0, [], 0, 0, 0),
  (79, .ireturn, 80, [], 0, [], 0, 0, 0)]
def t_K_kindCounted : List (Nat × TE) := [
  (0, .iconst 0, 1, [], 0, [], 0, 0, 0),
  (1, .istore_n 2, 2, [3], 0, [], 0, 0, 0),
  (2, .iload_n 2, 3, [], 0, [], 0, 0, 0),
  (3, .iload_n 1, 4, [], 0, [], 0, 0, 0),
  (4, .if_icmp .ge 35, 7, [], 39, [], 0, 0, 0),
  (7, .aload_n 0, 8, [], 0, [], 0, 0, 0),
  (8, .getfield 21, 11, [], 9, [], 1, 41, 0),
  (11, .getfield 113, 14, [], 0, [], 1, 138, 0),
  (14, .iload_n 1, 15, [], 0, [], 0, 0, 0),
  (15, .aaload, 16, [], 0, [], 0, 0, 0),
  (16, .aload_n 0, 17, [], 0, [], 0, 0, 0),
  (17, .getfield 21, 20, [], 9, [], 1, 41, 0),
  (20, .getfield 113, 23, [], 0, [], 1, 138, 0),
  (23, .iload_n 2, 24, [], 0, [], 0, 0, 0),
  (24, .aaload, 25, [], 0, [], 0, 0, 0),
  (25, .invokevirtual 275, 28, [], 96, [], 1, 246, 0),
  (28, .ifCond .eq 5, 31, [], 33, [], 0, 0, 0),
  (31, .iconst 0, 32, [], 0, [], 0, 0, 0),
  (32, .ireturn, 33, [], 0, [], 0, 0, 0),
  (33, .iinc 2 1, 36, [], 0, [], 0, 0, 1),
  (36, .goto (-34), 39, [], 2, [3], 0, 0, 0),
  (39, .iconst 0, 40, [], 0, [], 0, 0, 0),
  (40, .istore_n 2, 41, [], 0, [], 0, 0, 0),
  (41, .iconst 0, 42, [], 0, [], 0, 0, 0),
  (42, .istore_n 3, 43, [], 0, [], 0, 0, 0),
  (43, .iload_n 3, 44, [], 0, [], 0, 0, 0),
  (44, .aload_n 0, 45, [], 0, [], 0, 0, 0),
  (45, .getfield 28, 48, [], 9, [], 2, 43, 0),
  (48, .getfield 153, 51, [], 2, [], 6, 44, 0),
  (51, .if_icmp .ge 31, 54, [], 82, [], 0, 0, 0),
  (54, .aload_n 0, 55, [], 0, [], 0, 0, 0),
  (55, .iload_n 1, 56, [], 0, [], 0, 0, 0),
  (56, .iload_n 3, 57, [], 0, [], 0, 0, 0),
  (57, .invokevirtual 197, 60, [], 126, [], 2, 266, 0),
  (60, .ifCond .eq 5, 63, [], 65, [], 0, 0, 0),
  (63, .iconst 1, 64, [], 0, [], 0, 0, 1),
  (64, .ireturn, 65, [], 0, [], 0, 0, 0),
  (65, .iload_n 2, 66, [], 0, [], 0, 0, 0),
  (66, .aload_n 0, 67, [], 0, [], 0, 0, 0),
  (67, .iload_n 1, 68, [], 0, [], 0, 0, 0),
  (68, .iload_n 3, 69, [], 0, [], 0, 0, 0),
  (69, .invokevirtual 201, 72, [], 136, [], 2, 284, 0),
  (72, .invokestatic 282, 75, [], 1002, [], 0, 286, 0),
  (75, .istore_n 2, 76, [], 0, [], 0, 0, 0),
  (76, .iinc 3 1, 79, [], 0, [], 0, 0, 1),
  (79, .goto (-36), 82, [], 43, [], 0, 0, 0),
  (82, .iload_n 2, 83, [], 0, [], 0, 0, 0),
  (83, .bipush 75, 85, [], 0, [], 0, 0, 75),
  (85, .if_icmp .lt 5, 88, [], 90, [], 0, 0, 0),
  (88, .iconst 2, 89, [], 0, [], 0, 0, 2),
  (89, .ireturn, 90, [], 0, [], 0, 0, 0),
  (90, .iload_n 2, 91, [], 0, [], 0, 0, 0),
  (91, .bipush 50, 93, [], 0, [], 0, 0, 50),
  (93, .if_icmp .lt 7, 96, [], 100, [], 0, 0, 0),
  (96, .iconst 3, 97, [], 0, [], 0, 0, 3),
  (97, .goto 4, 100, [], 101, [0, 1, 2, 3], 0, 0, 0),
  (100, .iconst 4, 101, [0, 1, 2, 3], 0, [], 0, 0, 4),
  (101, .ireturn, 102, [], 0, [], 0, 0, 0)]
def t_M_like2 : List (Nat × TE) := [
  (0, .aload_n 0, 1, [], 0, [], 0, 0, 0),
  (1, .iload_n 1, 2, [], 0, [], 0, 0, 0),
  (2, .invokevirtual 154, 5, [], 85, [], 1, 269, 0),
  (5, .ifCond .eq 11, 8, [], 16, [0, 1, 2], 0, 0, 0),
  (8, .aload_n 0, 9, [], 0, [], 0, 0, 0),
  (9, .iload_n 2, 10, [], 0, [], 0, 0, 0),
  (10, .invokevirtual 179, 13, [], 86, [], 1, 193, 0),
  (13, .ifCond .ne 5, 16, [0, 1, 2], 18, [], 0, 0, 0),
  (16, .iconst (-1), 17, [], 0, [], 0, 0, -1),
  (17, .ireturn, 18, [], 0, [], 0, 0, 0),
  (18, .aload_n 0, 19, [], 0, [], 0, 0, 0),
  (19, .iload_n 1, 20, [], 0, [], 0, 0, 0),
  (20, .iload_n 2, 21, [], 0, [], 0, 0, 0),
  (21, .invokevirtual 189, 24, [], 141, [], 2, 287, 0),
  (24, .aload_n 0, 25, [], 0, [], 0, 0, 0),
  (25, .invokevirtual 192, 28, [], 111, [], 0, 288, 0),
  (28, .ifCond .eq 7, 31, [], 35, [], 0, 0, 0),
  (31, .iconst 1, 32, [], 0, [], 0, 0, 1),
  (32, .goto 4, 35, [], 36, [0, 1, 2], 0, 0, 0),
  (35, .iconst 0, 36, [0, 1, 2], 0, [], 0, 0, 0),
  (36, .ireturn, 37, [], 0, [], 0, 0, 0)]
def t_M_scoreOf : List (Nat × TE) := [
  (0, .aload_n 0, 1, [], 0, [], 0, 0, 0),
  (1, .iload_n 1, 2, [], 0, [], 0, 0, 0),
  (2, .iload_n 2, 3, [], 0, [], 0, 0, 0),
  (3, .invokevirtual 189, 6, [], 141, [], 2, 287, 0),
  (6, .aload_n 0, 7, [], 0, [], 0, 0, 0),
  (7, .getfield 29, 10, [], 10, [], 7, 58, 0),
  (10, .iconst 0, 11, [], 0, [], 0, 0, 0),
  (11, .iaload, 12, [], 0, [], 0, 0, 0),
  (12, .aload_n 0, 13, [], 0, [], 0, 0, 0),
  (13, .getfield 29, 16, [], 10, [], 7, 58, 0),
  (16, .iconst 1, 17, [], 0, [], 0, 0, 1),
  (17, .iaload, 18, [], 0, [], 0, 0, 0),
  (18, .if_icmp .le 12, 21, [], 30, [], 0, 0, 0),
  (21, .aload_n 0, 22, [], 0, [], 0, 0, 0),
  (22, .getfield 29, 25, [], 10, [], 7, 58, 0),
  (25, .iconst 0, 26, [], 0, [], 0, 0, 0),
  (26, .iaload, 27, [], 0, [], 0, 0, 0),
  (27, .goto 9, 30, [], 36, [1, 2, 3, 4], 0, 0, 0),
  (30, .aload_n 0, 31, [], 0, [], 0, 0, 0),
  (31, .getfield 29, 34, [], 10, [], 7, 58, 0),
  (34, .iconst 1, 35, [], 0, [], 0, 0, 1),
  (35, .iaload, 36, [1, 2, 3, 4], 0, [], 0, 0, 0),
  (36, .istore_n 3, 37, [], 0, [], 0, 0, 0),
  (37, .iload_n 3, 38, [], 0, [], 0, 0, 0),
  (38, .ifCond .ne 6, 41, [], 44, [], 0, 0, 0),
  (41, .bipush 100, 43, [], 0, [], 0, 0, 100),
  (43, .ireturn, 44, [], 0, [], 0, 0, 0),
  (44, .bipush 100, 46, [], 0, [], 0, 0, 100),
  (46, .bipush 10, 48, [], 0, [], 0, 0, 10),
  (48, .aload_n 0, 49, [], 0, [], 0, 0, 0),
  (49, .invokevirtual 209, 52, [], 130, [], 0, 289, 0),
  (52, .imul, 53, [], 0, [], 0, 0, 0),
  (53, .iload_n 3, 54, [], 0, [], 0, 0, 0),
  (54, .idiv, 55, [], 0, [], 0, 0, 0),
  (55, .isub, 56, [], 0, [], 0, 0, 0),
  (56, .istore 4, 58, [], 0, [], 0, 0, 0),
  (58, .iload 4, 60, [], 0, [], 0, 0, 0),
  (60, .ifCond .ge 7, 63, [], 67, [], 0, 0, 0),
  (63, .iconst 0, 64, [], 0, [], 0, 0, 0),
  (64, .goto 5, 67, [], 69, [0, 1, 2, 3, 4], 0, 0, 0),
  (67, .iload 4, 69, [0, 1, 2, 3, 4], 0, [], 0, 0, 0),
  (69, .ireturn, 70, [], 0, [], 0, 0, 0)]
def t_M_differ : List (Nat × TE) := [
  (0, .aload_n 0, 1, [], 0, [], 0, 0, 0),
  (1, .iload_n 1, 2, [], 0, [], 0, 0, 0),
  (2, .invokevirtual 179, 5, [], 86, [], 1, 193, 0),
  (5, .ifCond .eq 11, 8, [], 16, [0, 1, 2, 3, 4, 5, 6, 7, 8], 0, 0, 0),
  (8, .aload_n 0, 9, [], 0, [], 0, 0, 0),
  (9, .iload_n 2, 10, [], 0, [], 0, 0, 0),
  (10, .invokevirtual 154, 13, [], 85, [], 1, 269, 0),
  (13, .ifCond .ne 5, 16, [0, 1, 2, 3, 4, 5, 6, 7, 8], 18, [], 0, 0, 0),
  (16, .iconst (-1), 17, [], 0, [], 0, 0, -1),
  (17, .ireturn, 18, [], 0, [], 0, 0, 0),
  (18, .aload_n 0, 19, [], 0, [], 0, 0, 0),
  (19, .iload_n 2, 20, [], 0, [], 0, 0, 0),
  (20, .iload_n 1, 21, [], 0, [], 0, 0, 0),
  (21, .invokevirtual 189, 24, [], 141, [], 2, 287, 0),
  (24, .aload_n 0, 25, [], 0, [], 0, 0, 0),
  (25, .invokevirtual 209, 28, [], 130, [], 0, 289, 0),
  (28, .istore_n 3, 29, [], 0, [], 0, 0, 0),
  (29, .aload_n 0, 30, [], 0, [], 0, 0, 0),
  (30, .iconst 0, 31, [], 0, [], 0, 0, 0),
  (31, .putfield 216, 34, [], 10, [], 28, 76, 0),
  (34, .iconst 0, 35, [], 0, [], 0, 0, 0),
  (35, .istore 4, 37, [], 0, [], 0, 0, 0),
  (37, .iconst 0, 38, [], 0, [], 0, 0, 0),
  (38, .istore 5, 40, [1, 2, 3, 6, 7, 8], 0, [], 0, 0, 0),
  (40, .iload 4, 42, [], 0, [], 0, 0, 0),
  (42, .aload_n 0, 43, [], 0, [], 0, 0, 0),
  (43, .getfield 29, 46, [], 10, [], 7, 58, 0),
  (46, .iconst 0, 47, [], 0, [], 0, 0, 0),
  (47, .iaload, 48, [], 0, [], 0, 0, 0),
  (48, .if_icmp .lt 14, 51, [], 62, [1, 2, 3, 6, 7, 8], 0, 0, 0),
  (51, .iload 5, 53, [], 0, [], 0, 0, 0),
  (53, .aload_n 0, 54, [], 0, [], 0, 0, 0),
  (54, .getfield 29, 57, [], 10, [], 7, 58, 0),
  (57, .iconst 1, 58, [], 0, [], 0, 0, 1),
  (58, .iaload, 59, [], 0, [], 0, 0, 0),
  (59, .if_icmp .ge 190, 62, [1, 2, 3, 6, 7, 8], 249, [], 0, 0, 0),
  (62, .bipush 21, 64, [], 0, [], 0, 0, 21),
  (64, .iload 4, 66, [], 0, [], 0, 0, 0),
  (66, .imul, 67, [], 0, [], 0, 0, 0),
  (67, .iload 5, 69, [], 0, [], 0, 0, 0),
  (69, .iadd, 70, [], 0, [], 0, 0, 0),
  (70, .istore 6, 72, [], 0, [], 0, 0, 0),
  (72, .iload 4, 74, [], 0, [], 0, 0, 0),
  (74, .aload_n 0, 75, [], 0, [], 0, 0, 0),
  (75, .getfield 29, 78, [], 10, [], 7, 58, 0),
  (78, .iconst 0, 79, [], 0, [], 0, 0, 0),
  (79, .iaload, 80, [], 0, [], 0, 0, 0),
  (80, .if_icmp .ge 18, 83, [], 98, [1, 2, 3, 7, 8], 0, 0, 0),
  (83, .iload 5, 85, [], 0, [], 0, 0, 0),
  (85, .aload_n 0, 86, [], 0, [], 0, 0, 0),
  (86, .getfield 29, 89, [], 10, [], 7, 58, 0),
  (89, .iconst 1, 90, [], 0, [], 0, 0, 1),
  (90, .iaload, 91, [], 0, [], 0, 0, 0),
  (91, .if_icmp .ge 7, 94, [], 98, [1, 2, 3, 7, 8], 0, 0, 0),
  (94, .iconst 1, 95, [], 0, [], 0, 0, 1),
  (95, .goto 4, 98, [1, 2, 3, 7, 8], 99, [1, 2, 3, 7, 8], 0, 0, 0),
  (98, .iconst 0, 99, [1, 2, 3, 7, 8], 0, [], 0, 0, 0),
  (99, .istore 7, 101, [], 0, [], 0, 0, 0),
  (101, .iload 7, 103, [], 0, [], 0, 0, 0),
  (103, .ifCond .eq 20, 106, [], 123, [], 0, 0, 0),
  (106, .aload_n 0, 107, [], 0, [], 0, 0, 0),
  (107, .iconst 0, 108, [], 0, [], 0, 0, 0),
  (108, .iload 4, 110, [], 0, [], 0, 0, 0),
  (110, .iadd, 111, [], 0, [], 0, 0, 0),
  (111, .sipush 600, 114, [], 0, [], 0, 0, 600),
  (114, .iload 5, 116, [], 0, [], 0, 0, 0),
  (116, .iadd, 117, [], 0, [], 0, 0, 0),
  (117, .invokevirtual 203, 120, [], 112, [], 2, 251, 0),
  (120, .goto 4, 123, [], 124, [1, 2, 3, 8], 0, 0, 0),
  (123, .iconst 0, 124, [1, 2, 3, 8], 0, [], 0, 0, 0),
  (124, .istore 8, 126, [], 0, [], 0, 0, 0),
  (126, .iload 7, 128, [], 0, [], 0, 0, 0),
  (128, .ifCond .eq 53, 131, [], 181, [1, 2, 3, 7, 8], 0, 0, 0),
  (131, .aload_n 0, 132, [], 0, [], 0, 0, 0),
  (132, .getfield 56, 135, [], 10, [], 23, 67, 0),
  (135, .iload 6, 137, [], 0, [], 0, 0, 0),
  (137, .iaload, 138, [], 0, [], 0, 0, 0),
  (138, .aload_n 0, 139, [], 0, [], 0, 0, 0),
  (139, .getfield 56, 142, [], 10, [], 23, 67, 0),
  (142, .iload 6, 144, [], 0, [], 0, 0, 0),
  (144, .bipush 22, 146, [], 0, [], 0, 0, 22),
  (146, .iadd, 147, [], 0, [], 0, 0, 0),
  (147, .iaload, 148, [], 0, [], 0, 0, 0),
  (148, .iload 8, 150, [], 0, [], 0, 0, 0),
  (150, .iadd, 151, [], 0, [], 0, 0, 0),
  (151, .if_icmp .ne 30, 154, [], 181, [1, 2, 3, 7, 8], 0, 0, 0),
  (154, .aload_n 0, 155, [], 0, [], 0, 0, 0),
  (155, .iload 8, 157, [], 0, [], 0, 0, 0),
  (157, .ifCond .ne 7, 160, [], 164, [], 0, 0, 0),
  (160, .iconst 0, 161, [], 0, [], 0, 0, 0),
  (161, .goto 4, 164, [], 165, [1, 2, 3, 6, 7, 8], 0, 0, 0),
  (164, .iconst 1, 165, [1, 2, 3, 6, 7, 8], 0, [], 0, 0, 1),
  (165, .iload 4, 167, [], 0, [], 0, 0, 0),
  (167, .iload 5, 169, [], 0, [], 0, 0, 0),
  (169, .invokevirtual 219, 172, [], 45, [], 3, 290, 0),
  (172, .iinc 4 1, 175, [], 0, [], 0, 0, 1),
  (175, .iinc 5 1, 178, [], 0, [], 0, 0, 1),
  (178, .goto 68, 181, [1, 2, 3, 7, 8], 246, [1, 2, 3, 6, 7, 8], 0, 0, 0),
  (181, .iload 4, 183, [], 0, [], 0, 0, 0),
  (183, .aload_n 0, 184, [], 0, [], 0, 0, 0),
  (184, .getfield 29, 187, [], 10, [], 7, 58, 0),
  (187, .iconst 0, 188, [], 0, [], 0, 0, 0),
  (188, .iaload, 189, [], 0, [], 0, 0, 0),
  (189, .if_icmp .ge 46, 192, [], 235, [1, 2, 3, 6, 7, 8], 0, 0, 0),
  (192, .aload_n 0, 193, [], 0, [], 0, 0, 0),
  (193, .getfield 56, 196, [], 10, [], 23, 67, 0),
  (196, .iload 6, 198, [], 0, [], 0, 0, 0),
  (198, .iaload, 199, [], 0, [], 0, 0, 0),
  (199, .aload_n 0, 200, [], 0, [], 0, 0, 0),
  (200, .getfield 56, 203, [], 10, [], 23, 67, 0),
  (203, .iload 6, 205, [], 0, [], 0, 0, 0),
  (205, .bipush 21, 207, [], 0, [], 0, 0, 21),
  (207, .iadd, 208, [], 0, [], 0, 0, 0),
  (208, .iaload, 209, [], 0, [], 0, 0, 0),
  (209, .aload_n 0, 210, [], 0, [], 0, 0, 0),
  (210, .iconst 0, 211, [], 0, [], 0, 0, 0),
  (211, .iload 4, 213, [], 0, [], 0, 0, 0),
  (213, .iadd, 214, [], 0, [], 0, 0, 0),
  (214, .invokevirtual 206, 217, [], 113, [], 1, 252, 0),
  (217, .iadd, 218, [], 0, [], 0, 0, 0),
  (218, .if_icmp .ne 17, 221, [], 235, [1, 2, 3, 6, 7, 8], 0, 0, 0),
  (221, .aload_n 0, 222, [], 0, [], 0, 0, 0),
  (222, .iconst 2, 223, [], 0, [], 0, 0, 2),
  (223, .iload 4, 225, [], 0, [], 0, 0, 0),
  (225, .iconst (-1), 226, [], 0, [], 0, 0, -1),
  (226, .invokevirtual 219, 229, [], 45, [], 3, 290, 0),
  (229, .iinc 4 1, 232, [], 0, [], 0, 0, 1),
  (232, .goto 14, 235, [1, 2, 3, 6, 7, 8], 246, [1, 2, 3, 6, 7, 8], 0, 0, 0),
  (235, .aload_n 0, 236, [], 0, [], 0, 0, 0),
  (236, .iconst 3, 237, [], 0, [], 0, 0, 3),
  (237, .iconst (-1), 238, [], 0, [], 0, 0, -1),
  (238, .iload 5, 240, [], 0, [], 0, 0, 0),
  (240, .invokevirtual 219, 243, [], 45, [], 3, 290, 0),
  (243, .iinc 5 1, 246, [1, 2, 3, 6, 7, 8], 0, [], 0, 0, 1),
  (246, .goto (-206), 249, [], 40, [1, 2, 3, 6, 7, 8], 0, 0, 0),
  (249, .aload_n 0, 250, [], 0, [], 0, 0, 0),
  (250, .getfield 216, 253, [], 10, [], 28, 76, 0),
  (253, .ireturn, 254, [], 0, [], 0, 0, 0)]
def t_M_patch : List (Nat × TE) := [
  (0, .aload_n 0, 1, [], 0, [], 0, 0, 0),
  (1, .iload_n 1, 2, [], 0, [], 0, 0, 0),
  (2, .invokevirtual 154, 5, [], 85, [], 1, 269, 0),
  (5, .ifCond .eq 11, 8, [], 16, [0, 1, 2, 3, 4], 0, 0, 0),
  (8, .aload_n 0, 9, [], 0, [], 0, 0, 0),
  (9, .iload_n 2, 10, [], 0, [], 0, 0, 0),
  (10, .invokevirtual 179, 13, [], 86, [], 1, 193, 0),
  (13, .ifCond .ne 5, 16, [0, 1, 2, 3, 4], 18, [], 0, 0, 0),
  (16, .iconst (-1), 17, [], 0, [], 0, 0, -1),
  (17, .ireturn, 18, [], 0, [], 0, 0, 0),
  (18, .aload_n 0, 19, [], 0, [], 0, 0, 0),
  (19, .iload_n 1, 20, [], 0, [], 0, 0, 0),
  (20, .iload_n 2, 21, [], 0, [], 0, 0, 0),
  (21, .invokevirtual 189, 24, [], 141, [], 2, 287, 0),
  (24, .bipush 22, 26, [], 0, [], 0, 0, 22),
  (26, .aload_n 0, 27, [], 0, [], 0, 0, 0),
  (27, .iload_n 2, 28, [], 0, [], 0, 0, 0),
  (28, .aload_n 0, 29, [], 0, [], 0, 0, 0),
  (29, .getfield 170, 32, [], 10, [], 20, 80, 0),
  (32, .invokevirtual 182, 35, [], 44, [], 2, 158, 0),
  (35, .iadd, 36, [], 0, [], 0, 0, 0),
  (36, .istore_n 3, 37, [], 0, [], 0, 0, 0),
  (37, .aload_n 0, 38, [], 0, [], 0, 0, 0),
  (38, .iconst 2, 39, [], 0, [], 0, 0, 2),
  (39, .sipush 600, 42, [], 0, [], 0, 0, 600),
  (42, .iload_n 3, 43, [], 0, [], 0, 0, 0),
  (43, .imul, 44, [], 0, [], 0, 0, 0),
  (44, .aload_n 0, 45, [], 0, [], 0, 0, 0),
  (45, .getfield 14, 48, [], 10, [], 2, 53, 0),
  (48, .iload_n 3, 49, [], 0, [], 0, 0, 0),
  (49, .iaload, 50, [], 0, [], 0, 0, 0),
  (50, .bipush 44, 52, [], 0, [], 0, 0, 44),
  (52, .iconst 1, 53, [], 0, [], 0, 0, 1),
  (53, .invokevirtual 115, 56, [], 104, [], 5, 248, 0),
  (56, .aload_n 0, 57, [], 0, [], 0, 0, 0),
  (57, .invokevirtual 192, 60, [], 111, [], 0, 288, 0),
  (60, .ifCond .eq 10, 63, [], 70, [0, 1, 2, 3, 4], 0, 0, 0),
  (63, .aload_n 0, 64, [], 0, [], 0, 0, 0),
  (64, .invokevirtual 232, 67, [], 114, [], 0, 291, 0),
  (67, .ifCond .ne 6, 70, [0, 1, 2, 3, 4], 73, [], 0, 0, 0),
  (70, .bipush (-4), 72, [], 0, [], 0, 0, -4),
  (72, .ireturn, 73, [], 0, [], 0, 0, 0),
  (73, .aload_n 0, 74, [], 0, [], 0, 0, 0),
  (74, .iconst 0, 75, [], 0, [], 0, 0, 0),
  (75, .putfield 222, 78, [], 10, [], 32, 77, 0),
  (78, .iconst 0, 79, [], 0, [], 0, 0, 0),
  (79, .istore 4, 81, [1, 2, 3], 0, [], 0, 0, 0),
  (81, .iload 4, 83, [], 0, [], 0, 0, 0),
  (83, .aload_n 0, 84, [], 0, [], 0, 0, 0),
  (84, .getfield 29, 87, [], 10, [], 7, 58, 0),
  (87, .iconst 0, 88, [], 0, [], 0, 0, 0),
  (88, .iaload, 89, [], 0, [], 0, 0, 0),
  (89, .if_icmp .ge 17, 92, [], 106, [], 0, 0, 0),
  (92, .aload_n 0, 93, [], 0, [], 0, 0, 0),
  (93, .getfield 74, 96, [], 10, [], 30, 73, 0),
  (96, .iload 4, 98, [], 0, [], 0, 0, 0),
  (98, .iconst 0, 99, [], 0, [], 0, 0, 0),
  (99, .bastore, 100, [], 0, [], 102, 0, 0),
  (100, .iinc 4 1, 103, [], 0, [], 0, 0, 1),
  (103, .goto (-22), 106, [], 81, [1, 2, 3], 0, 0, 0),
  (106, .iconst 0, 107, [], 0, [], 0, 0, 0),
  (107, .istore 4, 109, [1, 2, 3], 0, [], 0, 0, 0),
  (109, .iload 4, 111, [], 0, [], 0, 0, 0),
  (111, .aload_n 0, 112, [], 0, [], 0, 0, 0),
  (112, .getfield 29, 115, [], 10, [], 7, 58, 0),
  (115, .iconst 2, 116, [], 0, [], 0, 0, 2),
  (116, .iaload, 117, [], 0, [], 0, 0, 0),
  (117, .if_icmp .ge 25, 120, [], 142, [], 0, 0, 0),
  (120, .aload_n 0, 121, [], 0, [], 0, 0, 0),
  (121, .sipush 1200, 124, [], 0, [], 0, 0, 1200),
  (124, .iload 4, 126, [], 0, [], 0, 0, 0),
  (126, .iadd, 127, [], 0, [], 0, 0, 0),
  (127, .invokevirtual 235, 130, [], 115, [], 1, 292, 0),
  (130, .ifCond .ne 6, 133, [], 136, [], 0, 0, 0),
  (133, .bipush (-4), 135, [], 0, [], 0, 0, -4),
  (135, .ireturn, 136, [], 0, [], 0, 0, 0),
  (136, .iinc 4 1, 139, [], 0, [], 0, 0, 1),
  (139, .goto (-30), 142, [], 109, [1, 2, 3], 0, 0, 0),
  (142, .iconst 0, 143, [], 0, [], 0, 0, 0),
  (143, .istore 4, 145, [1, 2, 3], 0, [], 0, 0, 0),
  (145, .iload 4, 147, [], 0, [], 0, 0, 0),
  (147, .aload_n 0, 148, [], 0, [], 0, 0, 0),
  (148, .getfield 29, 151, [], 10, [], 7, 58, 0),
  (151, .iconst 0, 152, [], 0, [], 0, 0, 0),
  (152, .iaload, 153, [], 0, [], 0, 0, 0),
  (153, .if_icmp .ge 35, 156, [], 188, [], 0, 0, 0),
  (156, .aload_n 0, 157, [], 0, [], 0, 0, 0),
  (157, .getfield 17, 160, [], 10, [], 3, 54, 0),
  (160, .iconst 0, 161, [], 0, [], 0, 0, 0),
  (161, .iload 4, 163, [], 0, [], 0, 0, 0),
  (163, .iadd, 164, [], 0, [], 0, 0, 0),
  (164, .iaload, 165, [], 0, [], 0, 0, 0),
  (165, .iconst 1, 166, [], 0, [], 0, 0, 1),
  (166, .if_icmp .ne 16, 169, [], 182, [1, 2, 3], 0, 0, 0),
  (169, .aload_n 0, 170, [], 0, [], 0, 0, 0),
  (170, .getfield 74, 173, [], 10, [], 30, 73, 0),
  (173, .iload 4, 175, [], 0, [], 0, 0, 0),
  (175, .baload, 176, [], 0, [], 102, 0, 0),
  (176, .ifCond .ne 6, 179, [], 182, [1, 2, 3], 0, 0, 0),
  (179, .bipush (-4), 181, [], 0, [], 0, 0, -4),
  (181, .ireturn, 182, [1, 2, 3], 0, [], 0, 0, 0),
  (182, .iinc 4 1, 185, [], 0, [], 0, 0, 1),
  (185, .goto (-40), 188, [], 145, [1, 2, 3], 0, 0, 0),
  (188, .aload_n 0, 189, [], 0, [], 0, 0, 0),
  (189, .getfield 222, 192, [], 10, [], 32, 77, 0),
  (192, .sipush 600, 195, [], 0, [], 0, 0, 600),
  (195, .if_icmp .le 6, 198, [], 201, [], 0, 0, 0),
  (198, .bipush (-5), 200, [], 0, [], 0, 0, -5),
  (200, .ireturn, 201, [], 0, [], 0, 0, 0),
  (201, .iconst 0, 202, [], 0, [], 0, 0, 0),
  (202, .istore 4, 204, [1, 2, 3], 0, [], 0, 0, 0),
  (204, .iload 4, 206, [], 0, [], 0, 0, 0),
  (206, .aload_n 0, 207, [], 0, [], 0, 0, 0),
  (207, .getfield 222, 210, [], 10, [], 32, 77, 0),
  (210, .if_icmp .ge 23, 213, [], 233, [], 0, 0, 0),
  (213, .aload_n 0, 214, [], 0, [], 0, 0, 0),
  (214, .getfield 8, 217, [], 10, [], 1, 52, 0),
  (217, .iload 4, 219, [], 0, [], 0, 0, 0),
  (219, .aload_n 0, 220, [], 0, [], 0, 0, 0),
  (220, .getfield 78, 223, [], 10, [], 31, 74, 0),
  (223, .iload 4, 225, [], 0, [], 0, 0, 0),
  (225, .iaload, 226, [], 0, [], 0, 0, 0),
  (226, .iastore, 227, [], 0, [], 0, 0, 0),
  (227, .iinc 4 1, 230, [], 0, [], 0, 0, 1),
  (230, .goto (-26), 233, [], 204, [1, 2, 3], 0, 0, 0),
  (233, .aload_n 0, 234, [], 0, [], 0, 0, 0),
  (234, .getfield 14, 237, [], 10, [], 2, 53, 0),
  (237, .iconst 0, 238, [], 0, [], 0, 0, 0),
  (238, .aload_n 0, 239, [], 0, [], 0, 0, 0),
  (239, .getfield 222, 242, [], 10, [], 32, 77, 0),
  (242, .iastore, 243, [], 0, [], 0, 0, 0),
  (243, .aload_n 0, 244, [], 0, [], 0, 0, 0),
  (244, .getfield 222, 247, [], 10, [], 32, 77, 0),
  (247, .ireturn, 248, [], 0, [], 0, 0, 0)]
def t_M_spread : List (Nat × TE) := [
  (0, .aload_n 0, 1, [], 0, [], 0, 0, 0),
  (1, .iload_n 1, 2, [], 0, [], 0, 0, 0),
  (2, .invokevirtual 179, 5, [], 86, [], 1, 193, 0),
  (5, .ifCond .ne 5, 8, [], 10, [], 0, 0, 0),
  (8, .iconst (-1), 9, [], 0, [], 0, 0, -1),
  (9, .ireturn, 10, [], 0, [], 0, 0, 0),
  (10, .iconst 0, 11, [], 0, [], 0, 0, 0),
  (11, .istore_n 2, 12, [], 0, [], 0, 0, 0),
  (12, .iconst 0, 13, [], 0, [], 0, 0, 0),
  (13, .istore_n 3, 14, [], 0, [], 0, 0, 0),
  (14, .iload_n 3, 15, [], 0, [], 0, 0, 0),
  (15, .aload_n 0, 16, [], 0, [], 0, 0, 0),
  (16, .getfield 151, 19, [], 10, [], 15, 78, 0),
  (19, .if_icmp .ge 30, 22, [], 49, [], 0, 0, 0),
  (22, .aload_n 0, 23, [], 0, [], 0, 0, 0),
  (23, .iload_n 3, 24, [], 0, [], 0, 0, 0),
  (24, .iload_n 1, 25, [], 0, [], 0, 0, 0),
  (25, .invokevirtual 189, 28, [], 141, [], 2, 287, 0),
  (28, .iload_n 2, 29, [], 0, [], 0, 0, 0),
  (29, .aload_n 0, 30, [], 0, [], 0, 0, 0),
  (30, .invokevirtual 192, 33, [], 111, [], 0, 288, 0),
  (33, .ifCond .eq 7, 36, [], 40, [], 0, 0, 0),
  (36, .iconst 1, 37, [], 0, [], 0, 0, 1),
  (37, .goto 4, 40, [], 41, [2], 0, 0, 0),
  (40, .iconst 0, 41, [2], 0, [], 0, 0, 0),
  (41, .iadd, 42, [], 0, [], 0, 0, 0),
  (42, .istore_n 2, 43, [], 0, [], 0, 0, 0),
  (43, .iinc 3 1, 46, [], 0, [], 0, 0, 1),
  (46, .goto (-32), 49, [], 14, [], 0, 0, 0),
  (49, .iload_n 2, 50, [], 0, [], 0, 0, 0),
  (50, .ireturn, 51, [], 0, [], 0, 0, 0)]
def t_K_load : List (Nat × TE) := [
  (0, .aload_n 0, 1, [], 0, [], 0, 0, 0),
  (1, .getfield 21, 4, [], 9, [], 1, 41, 0),
  (4, .aload_n 0, 5, [], 0, [], 0, 0, 0),
  (5, .getfield 14, 8, [], 9, [], 0, 34, 0),
  (8, .aload_n 0, 9, [], 0, [], 0, 0, 0),
  (9, .getfield 74, 12, [], 9, [], 8, 46, 0),
  (12, .invokevirtual 102, 15, [], 143, [], 2, 293, 0),
  (15, .istore_n 1, 16, [], 0, [], 0, 0, 0),
  (16, .iload_n 1, 17, [], 0, [], 0, 0, 0),
  (17, .ifCond .lt 18, 20, [], 35, [0], 0, 0, 0),
  (20, .aload_n 0, 21, [], 0, [], 0, 0, 0),
  (21, .getfield 14, 24, [], 9, [], 0, 34, 0),
  (24, .iconst 0, 25, [], 0, [], 0, 0, 0),
  (25, .putfield 87, 28, [], 7, [], 1, 35, 0),
  (28, .aload_n 0, 29, [], 0, [], 0, 0, 0),
  (29, .getfield 44, 32, [], 9, [], 3, 227, 0),
  (32, .invokevirtual 106, 35, [0], 55, [], 0, 294, 0),
  (35, .iload_n 1, 36, [], 0, [], 0, 0, 0),
  (36, .ireturn, 37, [], 0, [], 0, 0, 0)]
def t_K_keep : List (Nat × TE) := [
  (0, .aload_n 0, 1, [], 0, [], 0, 0, 0),
  (1, .iload_n 1, 2, [], 0, [], 0, 0, 0),
  (2, .invokevirtual 109, 5, [], 29, [], 1, 137, 0),
  (5, .ifCond .ne 5, 8, [], 10, [], 0, 0, 0),
  (8, .iconst (-1), 9, [], 0, [], 0, 0, -1),
  (9, .ireturn, 10, [], 0, [], 0, 0, 0),
  (10, .aload_n 0, 11, [], 0, [], 0, 0, 0),
  (11, .iload_n 2, 12, [], 0, [], 0, 0, 0),
  (12, .invokevirtual 146, 15, [], 31, [], 1, 295, 0),
  (15, .ifCond .ne 6, 18, [], 21, [], 0, 0, 0),
  (18, .bipush (-2), 20, [], 0, [], 0, 0, -2),
  (20, .ireturn, 21, [], 0, [], 0, 0, 0),
  (21, .aload_n 0, 22, [], 0, [], 0, 0, 0),
  (22, .getfield 58, 25, [], 9, [], 6, 233, 0),
  (25, .aload_n 0, 26, [], 0, [], 0, 0, 0),
  (26, .getfield 21, 29, [], 9, [], 1, 41, 0),
  (29, .getfield 113, 32, [], 0, [], 1, 138, 0),
  (32, .iload_n 1, 33, [], 0, [], 0, 0, 0),
  (33, .aaload, 34, [], 0, [], 0, 0, 0),
  (34, .invokevirtual 132, 37, [], 92, [], 1, 244, 0),
  (37, .ifCond .ne 10, 40, [], 47, [0, 1, 2, 3], 0, 0, 0),
  (40, .aload_n 0, 41, [], 0, [], 0, 0, 0),
  (41, .invokevirtual 149, 44, [], 146, [], 0, 296, 0),
  (44, .ifCond .eq 6, 47, [0, 1, 2, 3], 50, [], 0, 0, 0),
  (47, .bipush (-3), 49, [], 0, [], 0, 0, -3),
  (49, .ireturn, 50, [], 0, [], 0, 0, 0),
  (50, .aload_n 0, 51, [], 0, [], 0, 0, 0),
  (51, .getfield 28, 54, [], 9, [], 2, 43, 0),
  (54, .getfield 153, 57, [], 2, [], 6, 44, 0),
  (57, .bipush 20, 59, [], 0, [], 0, 0, 20),
  (59, .if_icmp .ge 15, 62, [], 74, [0, 1, 2, 3], 0, 0, 0),
  (62, .aload_n 0, 63, [], 0, [], 0, 0, 0),
  (63, .getfield 28, 66, [], 9, [], 2, 43, 0),
  (66, .getfield 156, 69, [], 2, [], 7, 45, 0),
  (69, .bipush 40, 71, [], 0, [], 0, 0, 40),
  (71, .if_icmp .lt 6, 74, [0, 1, 2, 3], 77, [], 0, 0, 0),
  (74, .bipush (-5), 76, [], 0, [], 0, 0, -5),
  (76, .ireturn, 77, [], 0, [], 0, 0, 0),
  (77, .aload_n 0, 78, [], 0, [], 0, 0, 0),
  (78, .getfield 28, 81, [], 9, [], 2, 43, 0),
  (81, .aload_n 0, 82, [], 0, [], 0, 0, 0),
  (82, .getfield 21, 85, [], 9, [], 1, 41, 0),
  (85, .getfield 113, 88, [], 0, [], 1, 138, 0),
  (88, .iload_n 1, 89, [], 0, [], 0, 0, 0),
  (89, .aaload, 90, [], 0, [], 0, 0, 0),
  (90, .invokevirtual 159, 93, [], 144, [], 1, 297, 0),
  (93, .istore_n 3, 94, [], 0, [], 0, 0, 0),
  (94, .aload_n 0, 95, [], 0, [], 0, 0, 0),
  (95, .getfield 44, 98, [], 9, [], 3, 227, 0),
  (98, .iload_n 3, 99, [], 0, [], 0, 0, 0),
  (99, .invokevirtual 163, 102, [], 5, [], 1, 298, 0),
  (102, .aload_n 0, 103, [], 0, [], 0, 0, 0),
  (103, .iload_n 3, 104, [], 0, [], 0, 0, 0),
  (104, .iload_n 2, 105, [], 0, [], 0, 0, 0),
  (105, .invokevirtual 166, 108, [], 102, [], 2, 299, 0),
  (108, .iload_n 3, 109, [], 0, [], 0, 0, 0),
  (109, .ireturn, 110, [], 0, [], 0, 0, 0)]
def t_K_change : List (Nat × TE) := [
  (0, .aload_n 0, 1, [], 0, [], 0, 0, 0),
  (1, .iload_n 1, 2, [], 0, [], 0, 0, 0),
  (2, .invokevirtual 170, 5, [], 30, [], 1, 143, 0),
  (5, .ifCond .ne 5, 8, [], 10, [], 0, 0, 0),
  (8, .iconst (-1), 9, [], 0, [], 0, 0, -1),
  (9, .ireturn, 10, [], 0, [], 0, 0, 0),
  (10, .aload_n 0, 11, [], 0, [], 0, 0, 0),
  (11, .iload_n 2, 12, [], 0, [], 0, 0, 0),
  (12, .invokevirtual 146, 15, [], 31, [], 1, 295, 0),
  (15, .ifCond .ne 6, 18, [], 21, [], 0, 0, 0),
  (18, .bipush (-2), 20, [], 0, [], 0, 0, -2),
  (20, .ireturn, 21, [], 0, [], 0, 0, 0),
  (21, .aload_n 0, 22, [], 0, [], 0, 0, 0),
  (22, .invokevirtual 149, 25, [], 146, [], 0, 296, 0),
  (25, .ifCond .eq 6, 28, [], 31, [], 0, 0, 0),
  (28, .bipush (-3), 30, [], 0, [], 0, 0, -3),
  (30, .ireturn, 31, [], 0, [], 0, 0, 0),
  (31, .aload_n 0, 32, [], 0, [], 0, 0, 0),
  (32, .getfield 28, 35, [], 9, [], 2, 43, 0),
  (35, .getfield 156, 38, [], 2, [], 7, 45, 0),
  (38, .bipush 40, 40, [], 0, [], 0, 0, 40),
  (40, .if_icmp .lt 6, 43, [], 46, [], 0, 0, 0),
  (43, .bipush (-5), 45, [], 0, [], 0, 0, -5),
  (45, .ireturn, 46, [], 0, [], 0, 0, 0),
  (46, .aload_n 0, 47, [], 0, [], 0, 0, 0),
  (47, .iload_n 1, 48, [], 0, [], 0, 0, 0),
  (48, .iload_n 2, 49, [], 0, [], 0, 0, 0),
  (49, .invokevirtual 166, 52, [], 102, [], 2, 299, 0),
  (52, .aload_n 0, 53, [], 0, [], 0, 0, 0),
  (53, .getfield 28, 56, [], 9, [], 2, 43, 0),
  (56, .getfield 156, 59, [], 2, [], 7, 45, 0),
  (59, .ireturn, 60, [], 0, [], 0, 0, 0)]
def t_K_found : List (Nat × TE) := [
  (0, .aload_n 0, 1, [], 0, [], 0, 0, 0),
  (1, .iload_n 1, 2, [], 0, [], 0, 0, 0),
  (2, .invokevirtual 109, 5, [], 29, [], 1, 137, 0),
  (5, .ifCond .eq 7, 8, [], 12, [0, 1, 2, 3, 4], 0, 0, 0),
  (8, .iload_n 3, 9, [], 0, [], 0, 0, 0),
  (9, .ifCond .ge 5, 12, [0, 1, 2, 3, 4], 14, [], 0, 0, 0),
  (12, .iconst (-1), 13, [], 0, [], 0, 0, -1),
  (13, .ireturn, 14, [], 0, [], 0, 0, 0),
  (14, .iload_n 2, 15, [], 0, [], 0, 0, 0),
  (15, .ifCond .lt 9, 18, [], 24, [0, 1, 2, 3, 4], 0, 0, 0),
  (18, .iload_n 2, 19, [], 0, [], 0, 0, 0),
  (19, .bipush 100, 21, [], 0, [], 0, 0, 100),
  (21, .if_icmp .le 6, 24, [0, 1, 2, 3, 4], 27, [], 0, 0, 0),
  (24, .bipush (-2), 26, [], 0, [], 0, 0, -2),
  (26, .ireturn, 27, [], 0, [], 0, 0, 0),
  (27, .iconst 0, 28, [], 0, [], 0, 0, 0),
  (28, .istore 4, 30, [], 0, [], 0, 0, 0),
  (30, .iload 4, 32, [], 0, [], 0, 0, 0),
  (32, .aload_n 0, 33, [], 0, [], 0, 0, 0),
  (33, .getfield 28, 36, [], 9, [], 2, 43, 0),
  (36, .getfield 153, 39, [], 2, [], 6, 44, 0),
  (39, .if_icmp .ge 34, 42, [], 73, [], 0, 0, 0),
  (42, .aload_n 0, 43, [], 0, [], 0, 0, 0),
  (43, .iload_n 1, 44, [], 0, [], 0, 0, 0),
  (44, .iload 4, 46, [], 0, [], 0, 0, 0),
  (46, .invokevirtual 201, 49, [], 136, [], 2, 284, 0),
  (49, .iload_n 2, 50, [], 0, [], 0, 0, 0),
  (50, .if_icmp .lt 17, 53, [], 67, [], 0, 0, 0),
  (53, .aload_n 0, 54, [], 0, [], 0, 0, 0),
  (54, .iload 4, 56, [], 0, [], 0, 0, 0),
  (56, .iload_n 1, 57, [], 0, [], 0, 0, 0),
  (57, .invokevirtual 204, 60, [], 148, [], 2, 300, 0),
  (60, .iload_n 3, 61, [], 0, [], 0, 0, 0),
  (61, .if_icmp .ne 6, 64, [], 67, [], 0, 0, 0),
  (64, .iload 4, 66, [], 0, [], 0, 0, 0),
  (66, .ireturn, 67, [], 0, [], 0, 0, 0),
  (67, .iinc 4 1, 70, [], 0, [], 0, 0, 1),
  (70, .goto (-40), 73, [], 30, [], 0, 0, 0),
  (73, .iconst (-1), 74, [], 0, [], 0, 0, -1),
  (74, .ireturn, 75, [], 0, [], 0, 0, 0)]
def t_K_patch : List (Nat × TE) := [
  (0, .aload_n 0, 1, [], 0, [], 0, 0, 0),
  (1, .iload_n 1, 2, [], 0, [], 0, 0, 0),
  (2, .invokevirtual 109, 5, [], 29, [], 1, 137, 0),
  (5, .ifCond .eq 11, 8, [], 16, [0, 1, 2], 0, 0, 0),
  (8, .aload_n 0, 9, [], 0, [], 0, 0, 0),
  (9, .iload_n 2, 10, [], 0, [], 0, 0, 0),
  (10, .invokevirtual 170, 13, [], 30, [], 1, 143, 0),
  (13, .ifCond .ne 5, 16, [0, 1, 2], 18, [], 0, 0, 0),
  (16, .iconst (-1), 17, [], 0, [], 0, 0, -1),
  (17, .ireturn, 18, [], 0, [], 0, 0, 0),
  (18, .aload_n 0, 19, [], 0, [], 0, 0, 0),
  (19, .iload_n 1, 20, [], 0, [], 0, 0, 0),
  (20, .iload_n 2, 21, [], 0, [], 0, 0, 0),
  (21, .invokevirtual 197, 24, [], 126, [], 2, 266, 0),
  (24, .ifCond .ne 6, 27, [], 30, [], 0, 0, 0),
  (27, .bipush (-4), 29, [], 0, [], 0, 0, -4),
  (29, .ireturn, 30, [], 0, [], 0, 0, 0),
  (30, .aload_n 0, 31, [], 0, [], 0, 0, 0),
  (31, .iload_n 2, 32, [], 0, [], 0, 0, 0),
  (32, .invokevirtual 226, 35, [], 147, [], 1, 301, 0),
  (35, .aload_n 0, 36, [], 0, [], 0, 0, 0),
  (36, .getfield 51, 39, [], 9, [], 5, 230, 0),
  (39, .aload_n 0, 40, [], 0, [], 0, 0, 0),
  (40, .getfield 67, 43, [], 9, [], 7, 236, 0),
  (43, .aload_n 0, 44, [], 0, [], 0, 0, 0),
  (44, .getfield 28, 47, [], 9, [], 2, 43, 0),
  (47, .getfield 207, 50, [], 2, [], 1, 245, 0),
  (50, .iload_n 2, 51, [], 0, [], 0, 0, 0),
  (51, .aaload, 52, [], 0, [], 0, 0, 0),
  (52, .aload_n 0, 53, [], 0, [], 0, 0, 0),
  (53, .getfield 21, 56, [], 9, [], 1, 41, 0),
  (56, .getfield 113, 59, [], 0, [], 1, 138, 0),
  (59, .iload_n 1, 60, [], 0, [], 0, 0, 0),
  (60, .aaload, 61, [], 0, [], 0, 0, 0),
  (61, .invokevirtual 229, 64, [], 119, [], 3, 302, 0),
  (64, .ifCond .ne 6, 67, [], 70, [], 0, 0, 0),
  (67, .bipush (-4), 69, [], 0, [], 0, 0, -4),
  (69, .ireturn, 70, [], 0, [], 0, 0, 0),
  (70, .aload_n 0, 71, [], 0, [], 0, 0, 0),
  (71, .getfield 51, 74, [], 9, [], 5, 230, 0),
  (74, .getfield 233, 77, [], 5, [], 0, 303, 0),
  (77, .getfield 87, 80, [], 7, [], 1, 35, 0),
  (80, .sipush 600, 83, [], 0, [], 0, 0, 600),
  (83, .if_icmp .le 6, 86, [], 89, [], 0, 0, 0),
  (86, .bipush (-5), 88, [], 0, [], 0, 0, -5),
  (88, .ireturn, 89, [], 0, [], 0, 0, 0),
  (89, .aload_n 0, 90, [], 0, [], 0, 0, 0),
  (90, .getfield 14, 93, [], 9, [], 0, 34, 0),
  (93, .aload_n 0, 94, [], 0, [], 0, 0, 0),
  (94, .getfield 51, 97, [], 9, [], 5, 230, 0),
  (97, .getfield 233, 100, [], 5, [], 0, 303, 0),
  (100, .iconst 0, 101, [], 0, [], 0, 0, 0),
  (101, .aload_n 0, 102, [], 0, [], 0, 0, 0),
  (102, .getfield 51, 105, [], 9, [], 5, 230, 0),
  (105, .getfield 233, 108, [], 5, [], 0, 303, 0),
  (108, .getfield 87, 111, [], 7, [], 1, 35, 0),
  (111, .invokevirtual 236, 114, [], 21, [], 3, 304, 0),
  (114, .aload_n 0, 115, [], 0, [], 0, 0, 0),
  (115, .getfield 14, 118, [], 9, [], 0, 34, 0),
  (118, .getfield 87, 121, [], 7, [], 1, 35, 0),
  (121, .ireturn, 122, [], 0, [], 0, 0, 0)]
def t_K_faults : List (Nat × TE) := [
  (0, .aload_n 0, 1, [], 0, [], 0, 0, 0),
  (1, .iload_n 1, 2, [], 0, [], 0, 0, 0),
  (2, .invokevirtual 170, 5, [], 30, [], 1, 143, 0),
  (5, .ifCond .ne 5, 8, [], 10, [], 0, 0, 0),
  (8, .iconst (-1), 9, [], 0, [], 0, 0, -1),
  (9, .ireturn, 10, [], 0, [], 0, 0, 0),
  (10, .aload_n 0, 11, [], 0, [], 0, 0, 0),
  (11, .iload_n 1, 12, [], 0, [], 0, 0, 0),
  (12, .invokevirtual 226, 15, [], 147, [], 1, 301, 0),
  (15, .aload_n 0, 16, [], 0, [], 0, 0, 0),
  (16, .getfield 28, 19, [], 9, [], 2, 43, 0),
  (19, .getfield 207, 22, [], 2, [], 1, 245, 0),
  (22, .iload_n 1, 23, [], 0, [], 0, 0, 0),
  (23, .aaload, 24, [], 0, [], 0, 0, 0),
  (24, .astore_n 2, 25, [], 0, [], 0, 0, 0),
  (25, .iconst 0, 26, [], 0, [], 0, 0, 0),
  (26, .istore_n 3, 27, [1], 0, [], 0, 0, 0),
  (27, .iload_n 3, 28, [], 0, [], 0, 0, 0),
  (28, .aload_n 0, 29, [], 0, [], 0, 0, 0),
  (29, .getfield 78, 32, [], 9, [], 9, 48, 0),
  (32, .getfield 254, 35, [], 8, [], 1, 47, 0),
  (35, .if_icmp .ge 43, 38, [], 78, [], 0, 0, 0),
  (38, .aload_n 2, 39, [], 0, [], 0, 0, 0),
  (39, .aload_n 0, 40, [], 0, [], 0, 0, 0),
  (40, .getfield 78, 43, [], 9, [], 9, 48, 0),
  (43, .getfield 255, 46, [], 8, [], 0, 305, 0),
  (46, .iload_n 3, 47, [], 0, [], 0, 0, 0),
  (47, .laload, 48, [], 0, [], 0, 0, 0),
  (48, .invokevirtual 259, 51, [], 97, [], 1, 306, 0),
  (51, .aload_n 0, 52, [], 0, [], 0, 0, 0),
  (52, .getfield 67, 55, [], 9, [], 7, 236, 0),
  (55, .aload_n 0, 56, [], 0, [], 0, 0, 0),
  (56, .getfield 81, 59, [], 9, [], 10, 186, 0),
  (59, .getfield 255, 62, [], 8, [], 0, 305, 0),
  (62, .iload_n 3, 63, [], 0, [], 0, 0, 0),
  (63, .laload, 64, [], 0, [], 0, 0, 0),
  (64, .invokevirtual 259, 67, [], 97, [], 1, 306, 0),
  (67, .if_icmp .eq 5, 70, [], 72, [], 0, 0, 0),
  (70, .iload_n 3, 71, [], 0, [], 0, 0, 0),
  (71, .ireturn, 72, [], 0, [], 0, 0, 0),
  (72, .iinc 3 1, 75, [], 0, [], 0, 0, 1),
  (75, .goto (-48), 78, [], 27, [1], 0, 0, 0),
  (78, .iconst 0, 79, [], 0, [], 0, 0, 0),
  (79, .istore_n 3, 80, [1, 2], 0, [], 0, 0, 0),
  (80, .iload_n 3, 81, [], 0, [], 0, 0, 0),
  (81, .aload_n 0, 82, [], 0, [], 0, 0, 0),
  (82, .getfield 84, 85, [], 9, [], 11, 49, 0),
  (85, .getfield 254, 88, [], 8, [], 1, 47, 0),
  (88, .if_icmp .ge 33, 91, [], 121, [], 0, 0, 0),
  (91, .aload_n 0, 92, [], 0, [], 0, 0, 0),
  (92, .getfield 67, 95, [], 9, [], 7, 236, 0),
  (95, .aload_n 0, 96, [], 0, [], 0, 0, 0),
  (96, .getfield 84, 99, [], 9, [], 11, 49, 0),
  (99, .getfield 255, 102, [], 8, [], 0, 305, 0),
  (102, .iload_n 3, 103, [], 0, [], 0, 0, 0),
  (103, .laload, 104, [], 0, [], 0, 0, 0),
  (104, .invokevirtual 259, 107, [], 97, [], 1, 306, 0),
  (107, .ifCond .le 8, 110, [], 115, [], 0, 0, 0),
  (110, .bipush 100, 112, [], 0, [], 0, 0, 100),
  (112, .iload_n 3, 113, [], 0, [], 0, 0, 0),
  (113, .iadd, 114, [], 0, [], 0, 0, 0),
  (114, .ireturn, 115, [], 0, [], 0, 0, 0),
  (115, .iinc 3 1, 118, [], 0, [], 0, 0, 1),
  (118, .goto (-38), 121, [], 80, [1, 2], 0, 0, 0),
  (121, .sipush 200, 124, [], 0, [], 0, 0, 200),
  (124, .ireturn, 125, [], 0, [], 0, 0, 0)]
def t_K_counted : List (Nat × TE) := [
  (0, .aload_n 0, 1, [], 0, [], 0, 0, 0),
  (1, .iload_n 1, 2, [], 0, [], 0, 0, 0),
  (2, .invokevirtual 109, 5, [], 29, [], 1, 137, 0),
  (5, .ifCond .eq 11, 8, [], 16, [], 0, 0, 0),
  (8, .aload_n 0, 9, [], 0, [], 0, 0, 0),
  (9, .iload_n 1, 10, [], 0, [], 0, 0, 0),
  (10, .invokevirtual 263, 13, [], 149, [], 1, 307, 0),
  (13, .goto 4, 16, [], 17, [0, 1], 0, 0, 0),
  (16, .iconst (-1), 17, [0, 1], 0, [], 0, 0, -1),
  (17, .ireturn, 18, [], 0, [], 0, 0, 0)]
def t_K_count : List (Nat × TE) := [
  (0, .iload_n 1, 1, [], 0, [], 0, 0, 0),
  (1, .ifCond .lt 8, 4, [], 9, [0, 1, 2, 3, 4], 0, 0, 0),
  (4, .iload_n 1, 5, [], 0, [], 0, 0, 0),
  (5, .iconst 5, 6, [], 0, [], 0, 0, 5),
  (6, .if_icmp .lt 5, 9, [0, 1, 2, 3, 4], 11, [], 0, 0, 0),
  (9, .iconst (-1), 10, [], 0, [], 0, 0, -1),
  (10, .ireturn, 11, [], 0, [], 0, 0, 0),
  (11, .iload_n 2, 12, [], 0, [], 0, 0, 0),
  (12, .ifCond .eq 11, 15, [], 23, [3, 4], 0, 0, 0),
  (15, .iload_n 2, 16, [], 0, [], 0, 0, 0),
  (16, .iconst 1, 17, [], 0, [], 0, 0, 1),
  (17, .if_icmp .eq 6, 20, [], 23, [3, 4], 0, 0, 0),
  (20, .bipush (-2), 22, [], 0, [], 0, 0, -2),
  (22, .ireturn, 23, [3, 4], 0, [], 0, 0, 0),
  (23, .iconst 0, 24, [], 0, [], 0, 0, 0),
  (24, .istore_n 3, 25, [], 0, [], 0, 0, 0),
  (25, .iconst 0, 26, [], 0, [], 0, 0, 0),
  (26, .istore 4, 28, [], 0, [], 0, 0, 0),
  (28, .iload 4, 30, [], 0, [], 0, 0, 0),
  (30, .aload_n 0, 31, [], 0, [], 0, 0, 0),
  (31, .getfield 21, 34, [], 9, [], 1, 41, 0),
  (34, .getfield 266, 37, [], 0, [], 3, 42, 0),
  (37, .if_icmp .ge 43, 40, [], 80, [], 0, 0, 0),
  (40, .aload_n 0, 41, [], 0, [], 0, 0, 0),
  (41, .iload 4, 43, [], 0, [], 0, 0, 0),
  (43, .invokevirtual 263, 46, [], 149, [], 1, 307, 0),
  (46, .iload_n 1, 47, [], 0, [], 0, 0, 0),
  (47, .if_icmp .ne 27, 50, [], 74, [], 0, 0, 0),
  (50, .iload_n 3, 51, [], 0, [], 0, 0, 0),
  (51, .iload_n 2, 52, [], 0, [], 0, 0, 0),
  (52, .ifCond .ne 7, 55, [], 59, [], 0, 0, 0),
  (55, .iconst 1, 56, [], 0, [], 0, 0, 1),
  (56, .goto 16, 59, [], 72, [3], 0, 0, 0),
  (59, .aload_n 0, 60, [], 0, [], 0, 0, 0),
  (60, .getfield 21, 63, [], 9, [], 1, 41, 0),
  (63, .getfield 113, 66, [], 0, [], 1, 138, 0),
  (66, .iload 4, 68, [], 0, [], 0, 0, 0),
  (68, .aaload, 69, [], 0, [], 0, 0, 0),
  (69, .getfield 129, 72, [3], 6, [], 8, 243, 0),
  (72, .iadd, 73, [], 0, [], 0, 0, 0),
  (73, .istore_n 3, 74, [], 0, [], 0, 0, 0),
  (74, .iinc 4 1, 77, [], 0, [], 0, 0, 1),
  (77, .goto (-49), 80, [], 28, [], 0, 0, 0),
  (80, .iload_n 3, 81, [], 0, [], 0, 0, 0),
  (81, .ireturn, 82, [], 0, [], 0, 0, 0)]
def t_M_score : List (Nat × TE) := [
  (0, .aload_n 0, 1, [], 0, [], 0, 0, 0),
  (1, .iload_n 1, 2, [], 0, [], 0, 0, 0),
  (2, .invokevirtual 154, 5, [], 85, [], 1, 269, 0),
  (5, .ifCond .eq 20, 8, [], 25, [0, 1, 2], 0, 0, 0),
  (8, .aload_n 0, 9, [], 0, [], 0, 0, 0),
  (9, .iload_n 2, 10, [], 0, [], 0, 0, 0),
  (10, .invokevirtual 179, 13, [], 86, [], 1, 193, 0),
  (13, .ifCond .eq 12, 16, [], 25, [0, 1, 2], 0, 0, 0),
  (16, .aload_n 0, 17, [], 0, [], 0, 0, 0),
  (17, .iload_n 1, 18, [], 0, [], 0, 0, 0),
  (18, .iload_n 2, 19, [], 0, [], 0, 0, 0),
  (19, .invokevirtual 213, 22, [], 151, [], 2, 308, 0),
  (22, .goto 4, 25, [0, 1, 2], 26, [0, 1, 2], 0, 0, 0),
  (25, .iconst (-1), 26, [0, 1, 2], 0, [], 0, 0, -1),
  (26, .ireturn, 27, [], 0, [], 0, 0, 0)]
def t_M_found : List (Nat × TE) := [
  (0, .aload_n 0, 1, [], 0, [], 0, 0, 0),
  (1, .iload_n 1, 2, [], 0, [], 0, 0, 0),
  (2, .invokevirtual 154, 5, [], 85, [], 1, 269, 0),
  (5, .ifCond .eq 7, 8, [], 12, [0, 1, 2, 3, 4, 5, 6], 0, 0, 0),
  (8, .iload_n 3, 9, [], 0, [], 0, 0, 0),
  (9, .ifCond .ge 5, 12, [0, 1, 2, 3, 4, 5, 6], 14, [], 0, 0, 0),
  (12, .iconst (-1), 13, [], 0, [], 0, 0, -1),
  (13, .ireturn, 14, [], 0, [], 0, 0, 0),
  (14, .iload_n 2, 15, [], 0, [], 0, 0, 0),
  (15, .iconst 0, 16, [], 0, [], 0, 0, 0),
  (16, .bipush 100, 18, [], 0, [], 0, 0, 100),
  (18, .invokestatic 85, 21, [], 33, [], 3, 150, 0),
  (21, .ifCond .ne 6, 24, [], 27, [], 0, 0, 0),
  (24, .bipush (-2), 26, [], 0, [], 0, 0, -2),
  (26, .ireturn, 27, [], 0, [], 0, 0, 0),
  (27, .iconst 0, 28, [], 0, [], 0, 0, 0),
  (28, .istore 4, 30, [5, 6], 0, [], 0, 0, 0),
  (30, .iload 4, 32, [], 0, [], 0, 0, 0),
  (32, .aload_n 0, 33, [], 0, [], 0, 0, 0),
  (33, .getfield 167, 36, [], 10, [], 19, 79, 0),
  (36, .if_icmp .ge 23, 39, [], 59, [], 0, 0, 0),
  (39, .aload_n 0, 40, [], 0, [], 0, 0, 0),
  (40, .getfield 59, 43, [], 10, [], 24, 68, 0),
  (43, .iload 4, 45, [], 0, [], 0, 0, 0),
  (45, .aload_n 0, 46, [], 0, [], 0, 0, 0),
  (46, .iload_n 1, 47, [], 0, [], 0, 0, 0),
  (47, .iload 4, 49, [], 0, [], 0, 0, 0),
  (49, .invokevirtual 213, 52, [], 151, [], 2, 308, 0),
  (52, .iastore, 53, [], 0, [], 0, 0, 0),
  (53, .iinc 4 1, 56, [], 0, [], 0, 0, 1),
  (56, .goto (-26), 59, [], 30, [5, 6], 0, 0, 0),
  (59, .iconst 0, 60, [], 0, [], 0, 0, 0),
  (60, .istore 4, 62, [1, 5, 6], 0, [], 0, 0, 0),
  (62, .iload 4, 64, [], 0, [], 0, 0, 0),
  (64, .aload_n 0, 65, [], 0, [], 0, 0, 0),
  (65, .getfield 167, 68, [], 10, [], 19, 79, 0),
  (68, .if_icmp .ge 120, 71, [], 188, [], 0, 0, 0),
  (71, .aload_n 0, 72, [], 0, [], 0, 0, 0),
  (72, .getfield 59, 75, [], 10, [], 24, 68, 0),
  (75, .iload 4, 77, [], 0, [], 0, 0, 0),
  (77, .iaload, 78, [], 0, [], 0, 0, 0),
  (78, .iload_n 2, 79, [], 0, [], 0, 0, 0),
  (79, .if_icmp .ge 6, 82, [], 85, [], 0, 0, 0),
  (82, .goto 100, 85, [], 182, [1, 5, 6], 0, 0, 0),
  (85, .iconst 0, 86, [], 0, [], 0, 0, 0),
  (86, .istore 5, 88, [], 0, [], 0, 0, 0),
  (88, .iconst 0, 89, [], 0, [], 0, 0, 0),
  (89, .istore 6, 91, [1], 0, [], 0, 0, 0),
  (91, .iload 6, 93, [], 0, [], 0, 0, 0),
  (93, .aload_n 0, 94, [], 0, [], 0, 0, 0),
  (94, .getfield 167, 97, [], 10, [], 19, 79, 0),
  (97, .if_icmp .ge 76, 100, [], 173, [], 0, 0, 0),
  (100, .iload 5, 102, [], 0, [], 0, 0, 0),
  (102, .aload_n 0, 103, [], 0, [], 0, 0, 0),
  (103, .getfield 59, 106, [], 10, [], 24, 68, 0),
  (106, .iload 6, 108, [], 0, [], 0, 0, 0),
  (108, .iaload, 109, [], 0, [], 0, 0, 0),
  (109, .aload_n 0, 110, [], 0, [], 0, 0, 0),
  (110, .getfield 59, 113, [], 10, [], 24, 68, 0),
  (113, .iload 4, 115, [], 0, [], 0, 0, 0),
  (115, .iaload, 116, [], 0, [], 0, 0, 0),
  (116, .if_icmp .gt 43, 119, [], 159, [1, 5], 0, 0, 0),
  (119, .aload_n 0, 120, [], 0, [], 0, 0, 0),
  (120, .getfield 59, 123, [], 10, [], 24, 68, 0),
  (123, .iload 6, 125, [], 0, [], 0, 0, 0),
  (125, .iaload, 126, [], 0, [], 0, 0, 0),
  (126, .aload_n 0, 127, [], 0, [], 0, 0, 0),
  (127, .getfield 59, 130, [], 10, [], 24, 68, 0),
  (130, .iload 4, 132, [], 0, [], 0, 0, 0),
  (132, .iaload, 133, [], 0, [], 0, 0, 0),
  (133, .if_icmp .ne 30, 136, [], 163, [1, 5], 0, 0, 0),
  (136, .aload_n 0, 137, [], 0, [], 0, 0, 0),
  (137, .iload 6, 139, [], 0, [], 0, 0, 0),
  (139, .aload_n 0, 140, [], 0, [], 0, 0, 0),
  (140, .getfield 170, 143, [], 10, [], 20, 80, 0),
  (143, .invokevirtual 182, 146, [], 44, [], 2, 158, 0),
  (146, .aload_n 0, 147, [], 0, [], 0, 0, 0),
  (147, .iload 4, 149, [], 0, [], 0, 0, 0),
  (149, .aload_n 0, 150, [], 0, [], 0, 0, 0),
  (150, .getfield 170, 153, [], 10, [], 20, 80, 0),
  (153, .invokevirtual 182, 156, [], 44, [], 2, 158, 0),
  (156, .if_icmp .le 7, 159, [1, 5], 163, [1, 5], 0, 0, 0),
  (159, .iconst 1, 160, [], 0, [], 0, 0, 1),
  (160, .goto 4, 163, [1, 5], 164, [1, 5], 0, 0, 0),
  (163, .iconst 0, 164, [1, 5], 0, [], 0, 0, 0),
  (164, .iadd, 165, [], 0, [], 0, 0, 0),
  (165, .istore 5, 167, [], 0, [], 0, 0, 0),
  (167, .iinc 6 1, 170, [], 0, [], 0, 0, 1),
  (170, .goto (-79), 173, [], 91, [1], 0, 0, 0),
  (173, .iload 5, 175, [], 0, [], 0, 0, 0),
  (175, .iload_n 3, 176, [], 0, [], 0, 0, 0),
  (176, .if_icmp .ne 6, 179, [], 182, [1, 5, 6], 0, 0, 0),
  (179, .iload 4, 181, [], 0, [], 0, 0, 0),
  (181, .ireturn, 182, [1, 5, 6], 0, [], 0, 0, 0),
  (182, .iinc 4 1, 185, [], 0, [], 0, 0, 1),
  (185, .goto (-123), 188, [], 62, [1, 5, 6], 0, 0, 0),
  (188, .iconst (-1), 189, [], 0, [], 0, 0, -1),
  (189, .ireturn, 190, [], 0, [], 0, 0, 0)]
def t_M_countedOf : List (Nat × TE) := [
  (0, .aload_n 0, 1, [], 0, [], 0, 0, 0),
  (1, .iconst 1, 2, [], 0, [], 0, 0, 1),
  (2, .iload_n 1, 3, [], 0, [], 0, 0, 0),
  (3, .invokevirtual 157, 6, [], 129, [], 2, 270, 0),
  (6, .iconst 0, 7, [], 0, [], 0, 0, 0),
  (7, .istore_n 2, 8, [3, 4], 0, [], 0, 0, 0),
  (8, .iload_n 2, 9, [], 0, [], 0, 0, 0),
  (9, .iload_n 1, 10, [], 0, [], 0, 0, 0),
  (10, .if_icmp .ge 24, 13, [], 34, [], 0, 0, 0),
  (13, .aload_n 0, 14, [], 0, [], 0, 0, 0),
  (14, .iconst 0, 15, [], 0, [], 0, 0, 0),
  (15, .iload_n 2, 16, [], 0, [], 0, 0, 0),
  (16, .invokevirtual 157, 19, [], 129, [], 2, 270, 0),
  (19, .aload_n 0, 20, [], 0, [], 0, 0, 0),
  (20, .invokevirtual 192, 23, [], 111, [], 0, 288, 0),
  (23, .ifCond .eq 5, 26, [], 28, [], 0, 0, 0),
  (26, .iconst 0, 27, [], 0, [], 0, 0, 0),
  (27, .ireturn, 28, [], 0, [], 0, 0, 0),
  (28, .iinc 2 1, 31, [], 0, [], 0, 0, 1),
  (31, .goto (-23), 34, [], 8, [3, 4], 0, 0, 0),
  (34, .iconst 0, 35, [], 0, [], 0, 0, 0),
  (35, .istore_n 2, 36, [3, 4], 0, [], 0, 0, 0),
  (36, .iload_n 2, 37, [], 0, [], 0, 0, 0),
  (37, .aload_n 0, 38, [], 0, [], 0, 0, 0),
  (38, .getfield 167, 41, [], 10, [], 19, 79, 0),
  (41, .if_icmp .ge 26, 44, [], 67, [], 0, 0, 0),
  (44, .aload_n 0, 45, [], 0, [], 0, 0, 0),
  (45, .iconst 0, 46, [], 0, [], 0, 0, 0),
  (46, .iconst 2, 47, [], 0, [], 0, 0, 2),
  (47, .iload_n 2, 48, [], 0, [], 0, 0, 0),
  (48, .iadd, 49, [], 0, [], 0, 0, 0),
  (49, .invokevirtual 173, 52, [], 127, [], 2, 273, 0),
  (52, .aload_n 0, 53, [], 0, [], 0, 0, 0),
  (53, .invokevirtual 192, 56, [], 111, [], 0, 288, 0),
  (56, .ifCond .eq 5, 59, [], 61, [], 0, 0, 0),
  (59, .iconst 1, 60, [], 0, [], 0, 0, 1),
  (60, .ireturn, 61, [], 0, [], 0, 0, 0),
  (61, .iinc 2 1, 64, [], 0, [], 0, 0, 1),
  (64, .goto (-28), 67, [], 36, [3, 4], 0, 0, 0),
  (67, .iconst (-1), 68, [], 0, [], 0, 0, -1),
  (68, .istore_n 2, 69, [], 0, [], 0, 0, 0),
  (69, .iconst 0, 70, [], 0, [], 0, 0, 0),
  (70, .istore_n 3, 71, [4], 0, [], 0, 0, 0),
  (71, .iload_n 3, 72, [], 0, [], 0, 0, 0),
  (72, .aload_n 0, 73, [], 0, [], 0, 0, 0),
  (73, .getfield 167, 76, [], 10, [], 19, 79, 0),
  (76, .if_icmp .ge 30, 79, [], 106, [], 0, 0, 0),
  (79, .aload_n 0, 80, [], 0, [], 0, 0, 0),
  (80, .iload_n 1, 81, [], 0, [], 0, 0, 0),
  (81, .iload_n 3, 82, [], 0, [], 0, 0, 0),
  (82, .invokevirtual 213, 85, [], 151, [], 2, 308, 0),
  (85, .istore 4, 87, [], 0, [], 0, 0, 0),
  (87, .iload 4, 89, [], 0, [], 0, 0, 0),
  (89, .iload_n 2, 90, [], 0, [], 0, 0, 0),
  (90, .if_icmp .le 8, 93, [], 98, [], 0, 0, 0),
  (93, .iload 4, 95, [], 0, [], 0, 0, 0),
  (95, .goto 4, 98, [], 99, [2, 4], 0, 0, 0),
  (98, .iload_n 2, 99, [2, 4], 0, [], 0, 0, 0),
  (99, .istore_n 2, 100, [], 0, [], 0, 0, 0),
  (100, .iinc 3 1, 103, [], 0, [], 0, 0, 1),
  (103, .goto (-32), 106, [], 71, [4], 0, 0, 0),
  (106, .iload_n 2, 107, [], 0, [], 0, 0, 0),
  (107, .bipush 75, 109, [], 0, [], 0, 0, 75),
  (109, .if_icmp .lt 7, 112, [], 116, [], 0, 0, 0),
  (112, .iconst 2, 113, [], 0, [], 0, 0, 2),
  (113, .goto 14, 116, [], 127, [0, 1, 2, 3, 4], 0, 0, 0),
  (116, .iload_n 2, 117, [], 0, [], 0, 0, 0),
  (117, .bipush 50, 119, [], 0, [], 0, 0, 50),
  (119, .if_icmp .lt 7, 122, [], 126, [], 0, 0, 0),
  (122, .iconst 3, 123, [], 0, [], 0, 0, 3),
  (123, .goto 4, 126, [], 127, [0, 1, 2, 3, 4], 0, 0, 0),
  (126, .iconst 4, 127, [0, 1, 2, 3, 4], 0, [], 0, 0, 4),
  (127, .ireturn, 128, [], 0, [], 0, 0, 0)]
def t_M_counted : List (Nat × TE) := [
  (0, .aload_n 0, 1, [], 0, [], 0, 0, 0),
  (1, .iload_n 1, 2, [], 0, [], 0, 0, 0),
  (2, .invokevirtual 154, 5, [], 85, [], 1, 269, 0),
  (5, .ifCond .eq 11, 8, [], 16, [], 0, 0, 0),
  (8, .aload_n 0, 9, [], 0, [], 0, 0, 0),
  (9, .iload_n 1, 10, [], 0, [], 0, 0, 0),
  (10, .invokevirtual 241, 13, [], 165, [], 1, 309, 0),
  (13, .goto 4, 16, [], 17, [0, 1], 0, 0, 0),
  (16, .iconst (-1), 17, [0, 1], 0, [], 0, 0, -1),
  (17, .ireturn, 18, [], 0, [], 0, 0, 0)]
def t_M_count : List (Nat × TE) := [
  (0, .iload_n 1, 1, [], 0, [], 0, 0, 0),
  (1, .iconst 0, 2, [], 0, [], 0, 0, 0),
  (2, .iconst 4, 3, [], 0, [], 0, 0, 4),
  (3, .invokestatic 85, 6, [], 33, [], 3, 150, 0),
  (6, .ifCond .ne 5, 9, [], 11, [], 0, 0, 0),
  (9, .iconst (-1), 10, [], 0, [], 0, 0, -1),
  (10, .ireturn, 11, [], 0, [], 0, 0, 0),
  (11, .iload_n 2, 12, [], 0, [], 0, 0, 0),
  (12, .iconst 0, 13, [], 0, [], 0, 0, 0),
  (13, .iconst 1, 14, [], 0, [], 0, 0, 1),
  (14, .invokestatic 85, 17, [], 33, [], 3, 150, 0),
  (17, .ifCond .ne 6, 20, [], 23, [], 0, 0, 0),
  (20, .bipush (-2), 22, [], 0, [], 0, 0, -2),
  (22, .ireturn, 23, [], 0, [], 0, 0, 0),
  (23, .iconst 0, 24, [], 0, [], 0, 0, 0),
  (24, .istore_n 3, 25, [], 0, [], 0, 0, 0),
  (25, .iconst 0, 26, [], 0, [], 0, 0, 0),
  (26, .istore 4, 28, [], 0, [], 0, 0, 0),
  (28, .iload 4, 30, [], 0, [], 0, 0, 0),
  (30, .aload_n 0, 31, [], 0, [], 0, 0, 0),
  (31, .getfield 151, 34, [], 10, [], 15, 78, 0),
  (34, .if_icmp .ge 46, 37, [], 80, [], 0, 0, 0),
  (37, .aload_n 0, 38, [], 0, [], 0, 0, 0),
  (38, .iload 4, 40, [], 0, [], 0, 0, 0),
  (40, .invokevirtual 241, 43, [], 165, [], 1, 309, 0),
  (43, .iload_n 1, 44, [], 0, [], 0, 0, 0),
  (44, .if_icmp .eq 6, 47, [], 50, [], 0, 0, 0),
  (47, .goto 27, 50, [], 74, [], 0, 0, 0),
  (50, .aload_n 0, 51, [], 0, [], 0, 0, 0),
  (51, .iconst 1, 52, [], 0, [], 0, 0, 1),
  (52, .iload 4, 54, [], 0, [], 0, 0, 0),
  (54, .invokevirtual 157, 57, [], 129, [], 2, 270, 0),
  (57, .iload_n 3, 58, [], 0, [], 0, 0, 0),
  (58, .iload_n 2, 59, [], 0, [], 0, 0, 0),
  (59, .iconst 1, 60, [], 0, [], 0, 0, 1),
  (60, .if_icmp .ne 11, 63, [], 71, [], 0, 0, 0),
  (63, .aload_n 0, 64, [], 0, [], 0, 0, 0),
  (64, .iconst 1, 65, [], 0, [], 0, 0, 1),
  (65, .invokevirtual 161, 68, [], 43, [], 1, 271, 0),
  (68, .goto 4, 71, [], 72, [3], 0, 0, 0),
  (71, .iconst 1, 72, [3], 0, [], 0, 0, 1),
  (72, .iadd, 73, [], 0, [], 0, 0, 0),
  (73, .istore_n 3, 74, [], 0, [], 0, 0, 0),
  (74, .iinc 4 1, 77, [], 0, [], 0, 0, 1),
  (77, .goto (-49), 80, [], 28, [], 0, 0, 0),
  (80, .iload_n 3, 81, [], 0, [], 0, 0, 0),
  (81, .ireturn, 82, [], 0, [], 0, 0, 0)]
def t_Law_law_0 : List (Nat × TE) := [
  (0, .new 7, 3, [], 9, [], 12, 310, 0),
  (3, .dup, 4, [], 0, [], 0, 0, 0),
  (4, .invokespecial 9, 7, [], 122, [], 0, 311, 0),
  (7, .astore_n 1, 8, [], 0, [], 0, 0, 0),
  (8, .new 10, 11, [], 10, [], 33, 312, 0),
  (11, .dup, 12, [], 0, [], 0, 0, 0),
  (12, .invokespecial 12, 15, [], 32, [], 0, 313, 0),
  (15, .astore_n 2, 16, [], 0, [], 0, 0, 0),
  (16, .iconst 0, 17, [], 0, [], 0, 0, 0),
  (17, .istore_n 3, 18, [], 0, [], 0, 0, 0),
  (18, .iload_n 3, 19, [], 0, [], 0, 0, 0),
  (19, .aload_n 0, 20, [], 0, [], 0, 0, 0),
  (20, .arraylength, 21, [], 0, [], 0, 0, 0),
  (21, .iconst 4, 22, [], 0, [], 0, 0, 4),
  (22, .isub, 23, [], 0, [], 0, 0, 0),
  (23, .if_icmp .gt 856, 26, [], 879, [], 0, 0, 0),
  (26, .aload_n 0, 27, [], 0, [], 0, 0, 0),
  (27, .iload_n 3, 28, [], 0, [], 0, 0, 0),
  (28, .iaload, 29, [], 0, [], 0, 0, 0),
  (29, .bipush 31, 31, [], 0, [], 0, 0, 31),
  (31, .iand, 32, [], 0, [], 0, 0, 0),
  (32, .tableswitch 841 0 24 #[116, 179, 202, 225, 238, 251, 284, 327, 360, 393, 406, 439, 482, 515, 548, 591, 624, 657, 690, 703, 716, 739, 762, 795, 818], 148, [], 873, [], 0, 0, 0),
  (148, .aload_n 1, 149, [], 0, [], 0, 0, 0),
  (149, .aload_n 0, 150, [], 0, [], 0, 0, 0),
  (150, .iload_n 3, 151, [], 0, [], 0, 0, 0),
  (151, .iconst 1, 152, [], 0, [], 0, 0, 1),
  (152, .iadd, 153, [], 0, [], 0, 0, 0),
  (153, .iaload, 154, [], 0, [], 0, 0, 0),
  (154, .i2l, 155, [], 0, [], 0, 0, 0),
  (155, .bipush 32, 157, [], 0, [], 0, 0, 32),
  (157, .lshl, 158, [], 0, [], 0, 0, 0),
  (158, .aload_n 0, 159, [], 0, [], 0, 0, 0),
  (159, .iload_n 3, 160, [], 0, [], 0, 0, 0),
  (160, .iconst 2, 161, [], 0, [], 0, 0, 2),
  (161, .iadd, 162, [], 0, [], 0, 0, 0),
  (162, .iaload, 163, [], 0, [], 0, 0, 0),
  (163, .i2l, 164, [], 0, [], 0, 0, 0),
  (164, .ldc2_w 13, 167, [], 4294967295, [], 0, 314, 0),
  (167, .land, 168, [], 0, [], 0, 0, 0),
  (168, .lor, 169, [], 0, [], 0, 0, 0),
  (169, .aload_n 0, 170, [], 0, [], 0, 0, 0),
  (170, .iload_n 3, 171, [], 0, [], 0, 0, 0),
  (171, .iconst 3, 172, [], 0, [], 0, 0, 3),
  (172, .iadd, 173, [], 0, [], 0, 0, 0),
  (173, .iaload, 174, [], 0, [], 0, 0, 0),
  (174, .invokevirtual 15, 177, [], 70, [], 2, 315, 0),
  (177, .aload_n 2, 178, [], 0, [], 0, 0, 0),
  (178, .aload_n 0, 179, [], 0, [], 0, 0, 0),
  (179, .iload_n 3, 180, [], 0, [], 0, 0, 0),
  (180, .iconst 1, 181, [], 0, [], 0, 0, 1),
  (181, .iadd, 182, [], 0, [], 0, 0, 0),
  (182, .iaload, 183, [], 0, [], 0, 0, 0),
  (183, .i2l, 184, [], 0, [], 0, 0, 0),
  (184, .bipush 32, 186, [], 0, [], 0, 0, 32),
  (186, .lshl, 187, [], 0, [], 0, 0, 0),
  (187, .aload_n 0, 188, [], 0, [], 0, 0, 0),
  (188, .iload_n 3, 189, [], 0, [], 0, 0, 0),
  (189, .iconst 2, 190, [], 0, [], 0, 0, 2),
  (190, .iadd, 191, [], 0, [], 0, 0, 0),
  (191, .iaload, 192, [], 0, [], 0, 0, 0),
  (192, .i2l, 193, [], 0, [], 0, 0, 0),
  (193, .ldc2_w 13, 196, [], 4294967295, [], 0, 314, 0),
  (196, .land, 197, [], 0, [], 0, 0, 0),
  (197, .lor, 198, [], 0, [], 0, 0, 0),
  (198, .aload_n 0, 199, [], 0, [], 0, 0, 0),
  (199, .iload_n 3, 200, [], 0, [], 0, 0, 0),
  (200, .iconst 3, 201, [], 0, [], 0, 0, 3),
  (201, .iadd, 202, [], 0, [], 0, 0, 0),
  (202, .iaload, 203, [], 0, [], 0, 0, 0),
  (203, .invokevirtual 19, 206, [], 75, [], 2, 316, 0),
  (206, .if_icmp .eq 667, 209, [], 873, [], 0, 0, 0),
  (209, .iconst 0, 210, [], 0, [], 0, 0, 0),
  (210, .ireturn, 211, [], 0, [], 0, 0, 0),
  (211, .aload_n 1, 212, [], 0, [], 0, 0, 0),
  (212, .aload_n 0, 213, [], 0, [], 0, 0, 0),
  (213, .iload_n 3, 214, [], 0, [], 0, 0, 0),
  (214, .iconst 1, 215, [], 0, [], 0, 0, 1),
  (215, .iadd, 216, [], 0, [], 0, 0, 0),
  (216, .iaload, 217, [], 0, [], 0, 0, 0),
  (217, .invokevirtual 20, 220, [], 26, [], 1, 317, 0),
  (220, .aload_n 2, 221, [], 0, [], 0, 0, 0),
  (221, .aload_n 0, 222, [], 0, [], 0, 0, 0),
  (222, .iload_n 3, 223, [], 0, [], 0, 0, 0),
  (223, .iconst 1, 224, [], 0, [], 0, 0, 1),
  (224, .iadd, 225, [], 0, [], 0, 0, 0),
  (225, .iaload, 226, [], 0, [], 0, 0, 0),
  (226, .invokevirtual 24, 229, [], 76, [], 1, 318, 0),
  (229, .if_icmp .eq 644, 232, [], 873, [], 0, 0, 0),
  (232, .iconst 0, 233, [], 0, [], 0, 0, 0),
  (233, .ireturn, 234, [], 0, [], 0, 0, 0),
  (234, .aload_n 1, 235, [], 0, [], 0, 0, 0),
  (235, .aload_n 0, 236, [], 0, [], 0, 0, 0),
  (236, .iload_n 3, 237, [], 0, [], 0, 0, 0),
  (237, .iconst 1, 238, [], 0, [], 0, 0, 1),
  (238, .iadd, 239, [], 0, [], 0, 0, 0),
  (239, .iaload, 240, [], 0, [], 0, 0, 0),
  (240, .invokevirtual 25, 243, [], 71, [], 1, 319, 0),
  (243, .aload_n 2, 244, [], 0, [], 0, 0, 0),
  (244, .aload_n 0, 245, [], 0, [], 0, 0, 0),
  (245, .iload_n 3, 246, [], 0, [], 0, 0, 0),
  (246, .iconst 1, 247, [], 0, [], 0, 0, 1),
  (247, .iadd, 248, [], 0, [], 0, 0, 0),
  (248, .iaload, 249, [], 0, [], 0, 0, 0),
  (249, .invokevirtual 28, 252, [], 77, [], 1, 320, 0),
  (252, .if_icmp .eq 621, 255, [], 873, [], 0, 0, 0),
  (255, .iconst 0, 256, [], 0, [], 0, 0, 0),
  (256, .ireturn, 257, [], 0, [], 0, 0, 0),
  (257, .aload_n 1, 258, [], 0, [], 0, 0, 0),
  (258, .invokevirtual 29, 261, [], 123, [], 0, 321, 0),
  (261, .aload_n 2, 262, [], 0, [], 0, 0, 0),
  (262, .invokevirtual 33, 265, [], 105, [], 0, 322, 0),
  (265, .if_icmp .eq 608, 268, [], 873, [], 0, 0, 0),
  (268, .iconst 0, 269, [], 0, [], 0, 0, 0),
  (269, .ireturn, 270, [], 0, [], 0, 0, 0),
  (270, .aload_n 1, 271, [], 0, [], 0, 0, 0),
  (271, .invokevirtual 34, 274, [], 155, [], 0, 323, 0),
  (274, .aload_n 2, 275, [], 0, [], 0, 0, 0),
  (275, .invokevirtual 37, 278, [], 128, [], 0, 324, 0),
  (278, .if_icmp .eq 595, 281, [], 873, [], 0, 0, 0),
  (281, .iconst 0, 282, [], 0, [], 0, 0, 0),
  (282, .ireturn, 283, [], 0, [], 0, 0, 0),
  (283, .aload_n 1, 284, [], 0, [], 0, 0, 0),
  (284, .aload_n 0, 285, [], 0, [], 0, 0, 0),
  (285, .iload_n 3, 286, [], 0, [], 0, 0, 0),
  (286, .iconst 1, 287, [], 0, [], 0, 0, 1),
  (287, .iadd, 288, [], 0, [], 0, 0, 0),
  (288, .iaload, 289, [], 0, [], 0, 0, 0),
  (289, .aload_n 0, 290, [], 0, [], 0, 0, 0),
  (290, .iload_n 3, 291, [], 0, [], 0, 0, 0),
  (291, .iconst 2, 292, [], 0, [], 0, 0, 2),
  (292, .iadd, 293, [], 0, [], 0, 0, 0),
  (293, .iaload, 294, [], 0, [], 0, 0, 0),
  (294, .invokevirtual 38, 297, [], 124, [], 2, 325, 0),
  (297, .aload_n 2, 298, [], 0, [], 0, 0, 0),
  (298, .aload_n 0, 299, [], 0, [], 0, 0, 0),
  (299, .iload_n 3, 300, [], 0, [], 0, 0, 0),
  (300, .iconst 1, 301, [], 0, [], 0, 0, 1),
  (301, .iadd, 302, [], 0, [], 0, 0, 0),
  (302, .iaload, 303, [], 0, [], 0, 0, 0),
  (303, .aload_n 0, 304, [], 0, [], 0, 0, 0),
  (304, .iload_n 3, 305, [], 0, [], 0, 0, 0),
  (305, .iconst 2, 306, [], 0, [], 0, 0, 2),
  (306, .iadd, 307, [], 0, [], 0, 0, 0),
  (307, .iaload, 308, [], 0, [], 0, 0, 0),
  (308, .invokevirtual 42, 311, [], 137, [], 2, 326, 0),
  (311, .if_icmp .eq 562, 314, [], 873, [], 0, 0, 0),
  (314, .iconst 0, 315, [], 0, [], 0, 0, 0),
  (315, .ireturn, 316, [], 0, [], 0, 0, 0),
  (316, .aload_n 1, 317, [], 0, [], 0, 0, 0),
  (317, .aload_n 0, 318, [], 0, [], 0, 0, 0)]
def t_Law_law_1 : List (Nat × TE) := [
  (318, .iload_n 3, 319, [], 0, [], 0, 0, 0),
  (319, .iconst 1, 320, [], 0, [], 0, 0, 1),
  (320, .iadd, 321, [], 0, [], 0, 0, 0),
  (321, .iaload, 322, [], 0, [], 0, 0, 0),
  (322, .aload_n 0, 323, [], 0, [], 0, 0, 0),
  (323, .iload_n 3, 324, [], 0, [], 0, 0, 0),
  (324, .iconst 2, 325, [], 0, [], 0, 0, 2),
  (325, .iadd, 326, [], 0, [], 0, 0, 0),
  (326, .iaload, 327, [], 0, [], 0, 0, 0),
  (327, .aload_n 0, 328, [], 0, [], 0, 0, 0),
  (328, .iload_n 3, 329, [], 0, [], 0, 0, 0),
  (329, .iconst 3, 330, [], 0, [], 0, 0, 3),
  (330, .iadd, 331, [], 0, [], 0, 0, 0),
  (331, .iaload, 332, [], 0, [], 0, 0, 0),
  (332, .invokevirtual 43, 335, [], 72, [], 3, 327, 0),
  (335, .aload_n 2, 336, [], 0, [], 0, 0, 0),
  (336, .aload_n 0, 337, [], 0, [], 0, 0, 0),
  (337, .iload_n 3, 338, [], 0, [], 0, 0, 0),
  (338, .iconst 1, 339, [], 0, [], 0, 0, 1),
  (339, .iadd, 340, [], 0, [], 0, 0, 0),
  (340, .iaload, 341, [], 0, [], 0, 0, 0),
  (341, .aload_n 0, 342, [], 0, [], 0, 0, 0),
  (342, .iload_n 3, 343, [], 0, [], 0, 0, 0),
  (343, .iconst 2, 344, [], 0, [], 0, 0, 2),
  (344, .iadd, 345, [], 0, [], 0, 0, 0),
  (345, .iaload, 346, [], 0, [], 0, 0, 0),
  (346, .aload_n 0, 347, [], 0, [], 0, 0, 0),
  (347, .iload_n 3, 348, [], 0, [], 0, 0, 0),
  (348, .iconst 3, 349, [], 0, [], 0, 0, 3),
  (349, .iadd, 350, [], 0, [], 0, 0, 0),
  (350, .iaload, 351, [], 0, [], 0, 0, 0),
  (351, .invokevirtual 47, 354, [], 138, [], 3, 328, 0),
  (354, .if_icmp .eq 519, 357, [], 873, [], 0, 0, 0),
  (357, .iconst 0, 358, [], 0, [], 0, 0, 0),
  (358, .ireturn, 359, [], 0, [], 0, 0, 0),
  (359, .aload_n 1, 360, [], 0, [], 0, 0, 0),
  (360, .aload_n 0, 361, [], 0, [], 0, 0, 0),
  (361, .iload_n 3, 362, [], 0, [], 0, 0, 0),
  (362, .iconst 1, 363, [], 0, [], 0, 0, 1),
  (363, .iadd, 364, [], 0, [], 0, 0, 0),
  (364, .iaload, 365, [], 0, [], 0, 0, 0),
  (365, .aload_n 0, 366, [], 0, [], 0, 0, 0),
  (366, .iload_n 3, 367, [], 0, [], 0, 0, 0),
  (367, .iconst 2, 368, [], 0, [], 0, 0, 2),
  (368, .iadd, 369, [], 0, [], 0, 0, 0),
  (369, .iaload, 370, [], 0, [], 0, 0, 0),
  (370, .invokevirtual 48, 373, [], 156, [], 2, 329, 0),
  (373, .aload_n 2, 374, [], 0, [], 0, 0, 0),
  (374, .aload_n 0, 375, [], 0, [], 0, 0, 0),
  (375, .iload_n 3, 376, [], 0, [], 0, 0, 0),
  (376, .iconst 1, 377, [], 0, [], 0, 0, 1),
  (377, .iadd, 378, [], 0, [], 0, 0, 0),
  (378, .iaload, 379, [], 0, [], 0, 0, 0),
  (379, .aload_n 0, 380, [], 0, [], 0, 0, 0),
  (380, .iload_n 3, 381, [], 0, [], 0, 0, 0),
  (381, .iconst 2, 382, [], 0, [], 0, 0, 2),
  (382, .iadd, 383, [], 0, [], 0, 0, 0),
  (383, .iaload, 384, [], 0, [], 0, 0, 0),
  (384, .invokevirtual 51, 387, [], 139, [], 2, 330, 0),
  (387, .if_icmp .eq 486, 390, [], 873, [], 0, 0, 0),
  (390, .iconst 0, 391, [], 0, [], 0, 0, 0),
  (391, .ireturn, 392, [], 0, [], 0, 0, 0),
  (392, .aload_n 1, 393, [], 0, [], 0, 0, 0),
  (393, .aload_n 0, 394, [], 0, [], 0, 0, 0),
  (394, .iload_n 3, 395, [], 0, [], 0, 0, 0),
  (395, .iconst 1, 396, [], 0, [], 0, 0, 1),
  (396, .iadd, 397, [], 0, [], 0, 0, 0),
  (397, .iaload, 398, [], 0, [], 0, 0, 0),
  (398, .aload_n 0, 399, [], 0, [], 0, 0, 0),
  (399, .iload_n 3, 400, [], 0, [], 0, 0, 0),
  (400, .iconst 2, 401, [], 0, [], 0, 0, 2),
  (401, .iadd, 402, [], 0, [], 0, 0, 0),
  (402, .iaload, 403, [], 0, [], 0, 0, 0),
  (403, .invokevirtual 52, 406, [], 157, [], 2, 331, 0),
  (406, .aload_n 2, 407, [], 0, [], 0, 0, 0),
  (407, .aload_n 0, 408, [], 0, [], 0, 0, 0),
  (408, .iload_n 3, 409, [], 0, [], 0, 0, 0),
  (409, .iconst 1, 410, [], 0, [], 0, 0, 1),
  (410, .iadd, 411, [], 0, [], 0, 0, 0),
  (411, .iaload, 412, [], 0, [], 0, 0, 0),
  (412, .aload_n 0, 413, [], 0, [], 0, 0, 0),
  (413, .iload_n 3, 414, [], 0, [], 0, 0, 0),
  (414, .iconst 2, 415, [], 0, [], 0, 0, 2),
  (415, .iadd, 416, [], 0, [], 0, 0, 0),
  (416, .iaload, 417, [], 0, [], 0, 0, 0),
  (417, .invokevirtual 55, 420, [], 140, [], 2, 332, 0),
  (420, .if_icmp .eq 453, 423, [], 873, [], 0, 0, 0),
  (423, .iconst 0, 424, [], 0, [], 0, 0, 0),
  (424, .ireturn, 425, [], 0, [], 0, 0, 0),
  (425, .aload_n 1, 426, [], 0, [], 0, 0, 0),
  (426, .invokevirtual 56, 429, [], 100, [], 0, 333, 0),
  (429, .aload_n 2, 430, [], 0, [], 0, 0, 0),
  (430, .invokevirtual 59, 433, [], 88, [], 0, 334, 0),
  (433, .if_icmp .eq 440, 436, [], 873, [], 0, 0, 0),
  (436, .iconst 0, 437, [], 0, [], 0, 0, 0),
  (437, .ireturn, 438, [], 0, [], 0, 0, 0),
  (438, .aload_n 1, 439, [], 0, [], 0, 0, 0),
  (439, .aload_n 0, 440, [], 0, [], 0, 0, 0),
  (440, .iload_n 3, 441, [], 0, [], 0, 0, 0),
  (441, .iconst 1, 442, [], 0, [], 0, 0, 1),
  (442, .iadd, 443, [], 0, [], 0, 0, 0),
  (443, .iaload, 444, [], 0, [], 0, 0, 0),
  (444, .aload_n 0, 445, [], 0, [], 0, 0, 0),
  (445, .iload_n 3, 446, [], 0, [], 0, 0, 0),
  (446, .iconst 2, 447, [], 0, [], 0, 0, 2),
  (447, .iadd, 448, [], 0, [], 0, 0, 0),
  (448, .iaload, 449, [], 0, [], 0, 0, 0),
  (449, .invokevirtual 60, 452, [], 73, [], 2, 335, 0),
  (452, .aload_n 2, 453, [], 0, [], 0, 0, 0),
  (453, .aload_n 0, 454, [], 0, [], 0, 0, 0),
  (454, .iload_n 3, 455, [], 0, [], 0, 0, 0),
  (455, .iconst 1, 456, [], 0, [], 0, 0, 1),
  (456, .iadd, 457, [], 0, [], 0, 0, 0),
  (457, .iaload, 458, [], 0, [], 0, 0, 0),
  (458, .aload_n 0, 459, [], 0, [], 0, 0, 0),
  (459, .iload_n 3, 460, [], 0, [], 0, 0, 0),
  (460, .iconst 2, 461, [], 0, [], 0, 0, 2),
  (461, .iadd, 462, [], 0, [], 0, 0, 0),
  (462, .iaload, 463, [], 0, [], 0, 0, 0),
  (463, .invokevirtual 63, 466, [], 109, [], 2, 336, 0),
  (466, .if_icmp .eq 407, 469, [], 873, [], 0, 0, 0),
  (469, .iconst 0, 470, [], 0, [], 0, 0, 0),
  (470, .ireturn, 471, [], 0, [], 0, 0, 0),
  (471, .aload_n 1, 472, [], 0, [], 0, 0, 0),
  (472, .aload_n 0, 473, [], 0, [], 0, 0, 0),
  (473, .iload_n 3, 474, [], 0, [], 0, 0, 0),
  (474, .iconst 1, 475, [], 0, [], 0, 0, 1),
  (475, .iadd, 476, [], 0, [], 0, 0, 0),
  (476, .iaload, 477, [], 0, [], 0, 0, 0),
  (477, .aload_n 0, 478, [], 0, [], 0, 0, 0),
  (478, .iload_n 3, 479, [], 0, [], 0, 0, 0),
  (479, .iconst 2, 480, [], 0, [], 0, 0, 2),
  (480, .iadd, 481, [], 0, [], 0, 0, 0),
  (481, .iaload, 482, [], 0, [], 0, 0, 0),
  (482, .aload_n 0, 483, [], 0, [], 0, 0, 0),
  (483, .iload_n 3, 484, [], 0, [], 0, 0, 0),
  (484, .iconst 3, 485, [], 0, [], 0, 0, 3),
  (485, .iadd, 486, [], 0, [], 0, 0, 0),
  (486, .iaload, 487, [], 0, [], 0, 0, 0),
  (487, .invokevirtual 64, 490, [], 74, [], 3, 337, 0),
  (490, .aload_n 2, 491, [], 0, [], 0, 0, 0),
  (491, .aload_n 0, 492, [], 0, [], 0, 0, 0),
  (492, .iload_n 3, 493, [], 0, [], 0, 0, 0),
  (493, .iconst 1, 494, [], 0, [], 0, 0, 1),
  (494, .iadd, 495, [], 0, [], 0, 0, 0),
  (495, .iaload, 496, [], 0, [], 0, 0, 0),
  (496, .aload_n 0, 497, [], 0, [], 0, 0, 0),
  (497, .iload_n 3, 498, [], 0, [], 0, 0, 0),
  (498, .iconst 2, 499, [], 0, [], 0, 0, 2),
  (499, .iadd, 500, [], 0, [], 0, 0, 0)]
def t_Law_law_2 : List (Nat × TE) := [
  (500, .iaload, 501, [], 0, [], 0, 0, 0),
  (501, .aload_n 0, 502, [], 0, [], 0, 0, 0),
  (502, .iload_n 3, 503, [], 0, [], 0, 0, 0),
  (503, .iconst 3, 504, [], 0, [], 0, 0, 3),
  (504, .iadd, 505, [], 0, [], 0, 0, 0),
  (505, .iaload, 506, [], 0, [], 0, 0, 0),
  (506, .invokevirtual 67, 509, [], 110, [], 3, 338, 0),
  (509, .if_icmp .eq 364, 512, [], 873, [], 0, 0, 0),
  (512, .iconst 0, 513, [], 0, [], 0, 0, 0),
  (513, .ireturn, 514, [], 0, [], 0, 0, 0),
  (514, .aload_n 1, 515, [], 0, [], 0, 0, 0),
  (515, .aload_n 0, 516, [], 0, [], 0, 0, 0),
  (516, .iload_n 3, 517, [], 0, [], 0, 0, 0),
  (517, .iconst 1, 518, [], 0, [], 0, 0, 1),
  (518, .iadd, 519, [], 0, [], 0, 0, 0),
  (519, .iaload, 520, [], 0, [], 0, 0, 0),
  (520, .aload_n 0, 521, [], 0, [], 0, 0, 0),
  (521, .iload_n 3, 522, [], 0, [], 0, 0, 0),
  (522, .iconst 2, 523, [], 0, [], 0, 0, 2),
  (523, .iadd, 524, [], 0, [], 0, 0, 0),
  (524, .iaload, 525, [], 0, [], 0, 0, 0),
  (525, .invokevirtual 68, 528, [], 133, [], 2, 339, 0),
  (528, .aload_n 2, 529, [], 0, [], 0, 0, 0),
  (529, .aload_n 0, 530, [], 0, [], 0, 0, 0),
  (530, .iload_n 3, 531, [], 0, [], 0, 0, 0),
  (531, .iconst 1, 532, [], 0, [], 0, 0, 1),
  (532, .iadd, 533, [], 0, [], 0, 0, 0),
  (533, .iaload, 534, [], 0, [], 0, 0, 0),
  (534, .aload_n 0, 535, [], 0, [], 0, 0, 0),
  (535, .iload_n 3, 536, [], 0, [], 0, 0, 0),
  (536, .iconst 2, 537, [], 0, [], 0, 0, 2),
  (537, .iadd, 538, [], 0, [], 0, 0, 0),
  (538, .iaload, 539, [], 0, [], 0, 0, 0),
  (539, .invokevirtual 71, 542, [], 150, [], 2, 340, 0),
  (542, .if_icmp .eq 331, 545, [], 873, [], 0, 0, 0),
  (545, .iconst 0, 546, [], 0, [], 0, 0, 0),
  (546, .ireturn, 547, [], 0, [], 0, 0, 0),
  (547, .aload_n 1, 548, [], 0, [], 0, 0, 0),
  (548, .aload_n 0, 549, [], 0, [], 0, 0, 0),
  (549, .iload_n 3, 550, [], 0, [], 0, 0, 0),
  (550, .iconst 1, 551, [], 0, [], 0, 0, 1),
  (551, .iadd, 552, [], 0, [], 0, 0, 0),
  (552, .iaload, 553, [], 0, [], 0, 0, 0),
  (553, .aload_n 0, 554, [], 0, [], 0, 0, 0),
  (554, .iload_n 3, 555, [], 0, [], 0, 0, 0),
  (555, .iconst 2, 556, [], 0, [], 0, 0, 2),
  (556, .iadd, 557, [], 0, [], 0, 0, 0),
  (557, .iaload, 558, [], 0, [], 0, 0, 0),
  (558, .invokevirtual 72, 561, [], 145, [], 2, 341, 0),
  (561, .aload_n 2, 562, [], 0, [], 0, 0, 0),
  (562, .aload_n 0, 563, [], 0, [], 0, 0, 0),
  (563, .iload_n 3, 564, [], 0, [], 0, 0, 0),
  (564, .iconst 1, 565, [], 0, [], 0, 0, 1),
  (565, .iadd, 566, [], 0, [], 0, 0, 0),
  (566, .iaload, 567, [], 0, [], 0, 0, 0),
  (567, .aload_n 0, 568, [], 0, [], 0, 0, 0),
  (568, .iload_n 3, 569, [], 0, [], 0, 0, 0),
  (569, .iconst 2, 570, [], 0, [], 0, 0, 2),
  (570, .iadd, 571, [], 0, [], 0, 0, 0),
  (571, .iaload, 572, [], 0, [], 0, 0, 0),
  (572, .invokevirtual 75, 575, [], 163, [], 2, 342, 0),
  (575, .if_icmp .eq 298, 578, [], 873, [], 0, 0, 0),
  (578, .iconst 0, 579, [], 0, [], 0, 0, 0),
  (579, .ireturn, 580, [], 0, [], 0, 0, 0),
  (580, .aload_n 1, 581, [], 0, [], 0, 0, 0),
  (581, .aload_n 0, 582, [], 0, [], 0, 0, 0),
  (582, .iload_n 3, 583, [], 0, [], 0, 0, 0),
  (583, .iconst 1, 584, [], 0, [], 0, 0, 1),
  (584, .iadd, 585, [], 0, [], 0, 0, 0),
  (585, .iaload, 586, [], 0, [], 0, 0, 0),
  (586, .aload_n 0, 587, [], 0, [], 0, 0, 0),
  (587, .iload_n 3, 588, [], 0, [], 0, 0, 0),
  (588, .iconst 2, 589, [], 0, [], 0, 0, 2),
  (589, .iadd, 590, [], 0, [], 0, 0, 0),
  (590, .iaload, 591, [], 0, [], 0, 0, 0),
  (591, .aload_n 0, 592, [], 0, [], 0, 0, 0),
  (592, .iload_n 3, 593, [], 0, [], 0, 0, 0),
  (593, .iconst 3, 594, [], 0, [], 0, 0, 3),
  (594, .iadd, 595, [], 0, [], 0, 0, 0),
  (595, .iaload, 596, [], 0, [], 0, 0, 0),
  (596, .invokevirtual 76, 599, [], 158, [], 3, 343, 0),
  (599, .aload_n 2, 600, [], 0, [], 0, 0, 0),
  (600, .aload_n 0, 601, [], 0, [], 0, 0, 0),
  (601, .iload_n 3, 602, [], 0, [], 0, 0, 0),
  (602, .iconst 1, 603, [], 0, [], 0, 0, 1),
  (603, .iadd, 604, [], 0, [], 0, 0, 0),
  (604, .iaload, 605, [], 0, [], 0, 0, 0),
  (605, .aload_n 0, 606, [], 0, [], 0, 0, 0),
  (606, .iload_n 3, 607, [], 0, [], 0, 0, 0),
  (607, .iconst 2, 608, [], 0, [], 0, 0, 2),
  (608, .iadd, 609, [], 0, [], 0, 0, 0),
  (609, .iaload, 610, [], 0, [], 0, 0, 0),
  (610, .aload_n 0, 611, [], 0, [], 0, 0, 0),
  (611, .iload_n 3, 612, [], 0, [], 0, 0, 0),
  (612, .iconst 3, 613, [], 0, [], 0, 0, 3),
  (613, .iadd, 614, [], 0, [], 0, 0, 0),
  (614, .iaload, 615, [], 0, [], 0, 0, 0),
  (615, .invokevirtual 79, 618, [], 164, [], 3, 344, 0),
  (618, .if_icmp .eq 255, 621, [], 873, [], 0, 0, 0),
  (621, .iconst 0, 622, [], 0, [], 0, 0, 0),
  (622, .ireturn, 623, [], 0, [], 0, 0, 0),
  (623, .aload_n 1, 624, [], 0, [], 0, 0, 0),
  (624, .aload_n 0, 625, [], 0, [], 0, 0, 0),
  (625, .iload_n 3, 626, [], 0, [], 0, 0, 0),
  (626, .iconst 1, 627, [], 0, [], 0, 0, 1),
  (627, .iadd, 628, [], 0, [], 0, 0, 0),
  (628, .iaload, 629, [], 0, [], 0, 0, 0),
  (629, .aload_n 0, 630, [], 0, [], 0, 0, 0),
  (630, .iload_n 3, 631, [], 0, [], 0, 0, 0),
  (631, .iconst 2, 632, [], 0, [], 0, 0, 2),
  (632, .iadd, 633, [], 0, [], 0, 0, 0),
  (633, .iaload, 634, [], 0, [], 0, 0, 0),
  (634, .invokevirtual 80, 637, [], 134, [], 2, 345, 0),
  (637, .aload_n 2, 638, [], 0, [], 0, 0, 0),
  (638, .aload_n 0, 639, [], 0, [], 0, 0, 0),
  (639, .iload_n 3, 640, [], 0, [], 0, 0, 0),
  (640, .iconst 1, 641, [], 0, [], 0, 0, 1),
  (641, .iadd, 642, [], 0, [], 0, 0, 0),
  (642, .iaload, 643, [], 0, [], 0, 0, 0),
  (643, .aload_n 0, 644, [], 0, [], 0, 0, 0),
  (644, .iload_n 3, 645, [], 0, [], 0, 0, 0),
  (645, .iconst 2, 646, [], 0, [], 0, 0, 2),
  (646, .iadd, 647, [], 0, [], 0, 0, 0),
  (647, .iaload, 648, [], 0, [], 0, 0, 0),
  (648, .invokevirtual 83, 651, [], 152, [], 2, 346, 0),
  (651, .if_icmp .eq 222, 654, [], 873, [], 0, 0, 0),
  (654, .iconst 0, 655, [], 0, [], 0, 0, 0),
  (655, .ireturn, 656, [], 0, [], 0, 0, 0),
  (656, .aload_n 1, 657, [], 0, [], 0, 0, 0),
  (657, .aload_n 0, 658, [], 0, [], 0, 0, 0),
  (658, .iload_n 3, 659, [], 0, [], 0, 0, 0),
  (659, .iconst 1, 660, [], 0, [], 0, 0, 1),
  (660, .iadd, 661, [], 0, [], 0, 0, 0),
  (661, .iaload, 662, [], 0, [], 0, 0, 0),
  (662, .aload_n 0, 663, [], 0, [], 0, 0, 0),
  (663, .iload_n 3, 664, [], 0, [], 0, 0, 0),
  (664, .iconst 2, 665, [], 0, [], 0, 0, 2),
  (665, .iadd, 666, [], 0, [], 0, 0, 0),
  (666, .iaload, 667, [], 0, [], 0, 0, 0),
  (667, .invokevirtual 84, 670, [], 27, [], 2, 347, 0),
  (670, .aload_n 2, 671, [], 0, [], 0, 0, 0),
  (671, .aload_n 0, 672, [], 0, [], 0, 0, 0),
  (672, .iload_n 3, 673, [], 0, [], 0, 0, 0),
  (673, .iconst 1, 674, [], 0, [], 0, 0, 1),
  (674, .iadd, 675, [], 0, [], 0, 0, 0),
  (675, .iaload, 676, [], 0, [], 0, 0, 0),
  (676, .aload_n 0, 677, [], 0, [], 0, 0, 0),
  (677, .iload_n 3, 678, [], 0, [], 0, 0, 0),
  (678, .iconst 2, 679, [], 0, [], 0, 0, 2),
  (679, .iadd, 680, [], 0, [], 0, 0, 0)]
def t_Law_law_3 : List (Nat × TE) := [
  (680, .iaload, 681, [], 0, [], 0, 0, 0),
  (681, .invokevirtual 87, 684, [], 89, [], 2, 348, 0),
  (684, .if_icmp .eq 189, 687, [], 873, [], 0, 0, 0),
  (687, .iconst 0, 688, [], 0, [], 0, 0, 0),
  (688, .ireturn, 689, [], 0, [], 0, 0, 0),
  (689, .aload_n 1, 690, [], 0, [], 0, 0, 0),
  (690, .aload_n 0, 691, [], 0, [], 0, 0, 0),
  (691, .iload_n 3, 692, [], 0, [], 0, 0, 0),
  (692, .iconst 1, 693, [], 0, [], 0, 0, 1),
  (693, .iadd, 694, [], 0, [], 0, 0, 0),
  (694, .iaload, 695, [], 0, [], 0, 0, 0),
  (695, .aload_n 0, 696, [], 0, [], 0, 0, 0),
  (696, .iload_n 3, 697, [], 0, [], 0, 0, 0),
  (697, .iconst 2, 698, [], 0, [], 0, 0, 2),
  (698, .iadd, 699, [], 0, [], 0, 0, 0),
  (699, .iaload, 700, [], 0, [], 0, 0, 0),
  (700, .invokevirtual 88, 703, [], 159, [], 2, 349, 0),
  (703, .aload_n 2, 704, [], 0, [], 0, 0, 0),
  (704, .aload_n 0, 705, [], 0, [], 0, 0, 0),
  (705, .iload_n 3, 706, [], 0, [], 0, 0, 0),
  (706, .iconst 1, 707, [], 0, [], 0, 0, 1),
  (707, .iadd, 708, [], 0, [], 0, 0, 0),
  (708, .iaload, 709, [], 0, [], 0, 0, 0),
  (709, .aload_n 0, 710, [], 0, [], 0, 0, 0),
  (710, .iload_n 3, 711, [], 0, [], 0, 0, 0),
  (711, .iconst 2, 712, [], 0, [], 0, 0, 2),
  (712, .iadd, 713, [], 0, [], 0, 0, 0),
  (713, .iaload, 714, [], 0, [], 0, 0, 0),
  (714, .invokevirtual 91, 717, [], 153, [], 2, 350, 0),
  (717, .if_icmp .eq 156, 720, [], 873, [], 0, 0, 0),
  (720, .iconst 0, 721, [], 0, [], 0, 0, 0),
  (721, .ireturn, 722, [], 0, [], 0, 0, 0),
  (722, .aload_n 1, 723, [], 0, [], 0, 0, 0),
  (723, .invokevirtual 92, 726, [], 101, [], 0, 351, 0),
  (726, .aload_n 2, 727, [], 0, [], 0, 0, 0),
  (727, .invokevirtual 95, 730, [], 106, [], 0, 352, 0),
  (730, .if_icmp .eq 143, 733, [], 873, [], 0, 0, 0),
  (733, .iconst 0, 734, [], 0, [], 0, 0, 0),
  (734, .ireturn, 735, [], 0, [], 0, 0, 0),
  (735, .aload_n 1, 736, [], 0, [], 0, 0, 0),
  (736, .invokevirtual 96, 739, [], 125, [], 0, 353, 0),
  (739, .aload_n 2, 740, [], 0, [], 0, 0, 0),
  (740, .invokevirtual 99, 743, [], 107, [], 0, 354, 0),
  (743, .if_icmp .eq 130, 746, [], 873, [], 0, 0, 0),
  (746, .iconst 0, 747, [], 0, [], 0, 0, 0),
  (747, .ireturn, 748, [], 0, [], 0, 0, 0),
  (748, .aload_n 1, 749, [], 0, [], 0, 0, 0),
  (749, .aload_n 0, 750, [], 0, [], 0, 0, 0),
  (750, .iload_n 3, 751, [], 0, [], 0, 0, 0),
  (751, .iconst 1, 752, [], 0, [], 0, 0, 1),
  (752, .iadd, 753, [], 0, [], 0, 0, 0),
  (753, .iaload, 754, [], 0, [], 0, 0, 0),
  (754, .invokevirtual 100, 757, [], 160, [], 1, 355, 0),
  (757, .aload_n 2, 758, [], 0, [], 0, 0, 0),
  (758, .aload_n 0, 759, [], 0, [], 0, 0, 0),
  (759, .iload_n 3, 760, [], 0, [], 0, 0, 0),
  (760, .iconst 1, 761, [], 0, [], 0, 0, 1),
  (761, .iadd, 762, [], 0, [], 0, 0, 0),
  (762, .iaload, 763, [], 0, [], 0, 0, 0),
  (763, .invokevirtual 103, 766, [], 142, [], 1, 356, 0),
  (766, .if_icmp .eq 107, 769, [], 873, [], 0, 0, 0),
  (769, .iconst 0, 770, [], 0, [], 0, 0, 0),
  (770, .ireturn, 771, [], 0, [], 0, 0, 0),
  (771, .aload_n 1, 772, [], 0, [], 0, 0, 0),
  (772, .aload_n 0, 773, [], 0, [], 0, 0, 0),
  (773, .iload_n 3, 774, [], 0, [], 0, 0, 0),
  (774, .iconst 1, 775, [], 0, [], 0, 0, 1),
  (775, .iadd, 776, [], 0, [], 0, 0, 0),
  (776, .iaload, 777, [], 0, [], 0, 0, 0),
  (777, .invokevirtual 104, 780, [], 161, [], 1, 357, 0),
  (780, .aload_n 2, 781, [], 0, [], 0, 0, 0),
  (781, .aload_n 0, 782, [], 0, [], 0, 0, 0),
  (782, .iload_n 3, 783, [], 0, [], 0, 0, 0),
  (783, .iconst 1, 784, [], 0, [], 0, 0, 1),
  (784, .iadd, 785, [], 0, [], 0, 0, 0),
  (785, .iaload, 786, [], 0, [], 0, 0, 0),
  (786, .invokevirtual 107, 789, [], 166, [], 1, 358, 0),
  (789, .if_icmp .eq 84, 792, [], 873, [], 0, 0, 0),
  (792, .iconst 0, 793, [], 0, [], 0, 0, 0),
  (793, .ireturn, 794, [], 0, [], 0, 0, 0),
  (794, .aload_n 1, 795, [], 0, [], 0, 0, 0),
  (795, .aload_n 0, 796, [], 0, [], 0, 0, 0),
  (796, .iload_n 3, 797, [], 0, [], 0, 0, 0),
  (797, .iconst 1, 798, [], 0, [], 0, 0, 1),
  (798, .iadd, 799, [], 0, [], 0, 0, 0),
  (799, .iaload, 800, [], 0, [], 0, 0, 0),
  (800, .aload_n 0, 801, [], 0, [], 0, 0, 0),
  (801, .iload_n 3, 802, [], 0, [], 0, 0, 0),
  (802, .iconst 2, 803, [], 0, [], 0, 0, 2),
  (803, .iadd, 804, [], 0, [], 0, 0, 0),
  (804, .iaload, 805, [], 0, [], 0, 0, 0),
  (805, .invokevirtual 108, 808, [], 162, [], 2, 359, 0),
  (808, .aload_n 2, 809, [], 0, [], 0, 0, 0),
  (809, .aload_n 0, 810, [], 0, [], 0, 0, 0),
  (810, .iload_n 3, 811, [], 0, [], 0, 0, 0),
  (811, .iconst 1, 812, [], 0, [], 0, 0, 1),
  (812, .iadd, 813, [], 0, [], 0, 0, 0),
  (813, .iaload, 814, [], 0, [], 0, 0, 0),
  (814, .aload_n 0, 815, [], 0, [], 0, 0, 0),
  (815, .iload_n 3, 816, [], 0, [], 0, 0, 0),
  (816, .iconst 2, 817, [], 0, [], 0, 0, 2),
  (817, .iadd, 818, [], 0, [], 0, 0, 0),
  (818, .iaload, 819, [], 0, [], 0, 0, 0),
  (819, .invokevirtual 111, 822, [], 167, [], 2, 360, 0),
  (822, .if_icmp .eq 51, 825, [], 873, [], 0, 0, 0),
  (825, .iconst 0, 826, [], 0, [], 0, 0, 0),
  (826, .ireturn, 827, [], 0, [], 0, 0, 0),
  (827, .aload_n 1, 828, [], 0, [], 0, 0, 0),
  (828, .aload_n 0, 829, [], 0, [], 0, 0, 0),
  (829, .iload_n 3, 830, [], 0, [], 0, 0, 0),
  (830, .iconst 1, 831, [], 0, [], 0, 0, 1),
  (831, .iadd, 832, [], 0, [], 0, 0, 0),
  (832, .iaload, 833, [], 0, [], 0, 0, 0),
  (833, .invokevirtual 112, 836, [], 135, [], 1, 361, 0),
  (836, .aload_n 2, 837, [], 0, [], 0, 0, 0),
  (837, .aload_n 0, 838, [], 0, [], 0, 0, 0),
  (838, .iload_n 3, 839, [], 0, [], 0, 0, 0),
  (839, .iconst 1, 840, [], 0, [], 0, 0, 1),
  (840, .iadd, 841, [], 0, [], 0, 0, 0),
  (841, .iaload, 842, [], 0, [], 0, 0, 0),
  (842, .invokevirtual 115, 845, [], 154, [], 1, 362, 0),
  (845, .if_icmp .eq 28, 848, [], 873, [], 0, 0, 0),
  (848, .iconst 0, 849, [], 0, [], 0, 0, 0),
  (849, .ireturn, 850, [], 0, [], 0, 0, 0),
  (850, .aload_n 1, 851, [], 0, [], 0, 0, 0),
  (851, .aload_n 0, 852, [], 0, [], 0, 0, 0),
  (852, .iload_n 3, 853, [], 0, [], 0, 0, 0),
  (853, .iconst 1, 854, [], 0, [], 0, 0, 1),
  (854, .iadd, 855, [], 0, [], 0, 0, 0),
  (855, .iaload, 856, [], 0, [], 0, 0, 0),
  (856, .invokevirtual 116, 859, [], 28, [], 1, 363, 0),
  (859, .aload_n 2, 860, [], 0, [], 0, 0, 0),
  (860, .aload_n 0, 861, [], 0, [], 0, 0, 0),
  (861, .iload_n 3, 862, [], 0, [], 0, 0, 0),
  (862, .iconst 1, 863, [], 0, [], 0, 0, 1),
  (863, .iadd, 864, [], 0, [], 0, 0, 0),
  (864, .iaload, 865, [], 0, [], 0, 0, 0),
  (865, .invokevirtual 119, 868, [], 48, [], 1, 364, 0),
  (868, .if_icmp .eq 5, 871, [], 873, [], 0, 0, 0),
  (871, .iconst 0, 872, [], 0, [], 0, 0, 0),
  (872, .ireturn, 873, [], 0, [], 0, 0, 0),
  (873, .iinc 3 4, 876, [], 0, [], 0, 0, 4),
  (876, .goto (-858), 879, [], 18, [], 0, 0, 0),
  (879, .iconst 1, 880, [], 0, [], 0, 0, 1),
  (880, .ireturn, 881, [], 0, [], 0, 0, 0)]
def t_Law_law : List (Nat × TE) := t_Law_law_0 ++ t_Law_law_1 ++ t_Law_law_2 ++ t_Law_law_3
def tabs : List (List (Nat × TE)) := [t_Book_isStop, t_Ladder_init, t_Ladder_addStep, t_Memory_renderingAt, t_Memory_renderingsOf, t_Near_forgetPair, t_Nest_init, t_Patch_forgetServed, t_Patch_inRendering, t_Patch_haveAllServed, t_Row_init, t_Row_addPiece, t_Row_isMark, t_Row_digitPlace, t_Row_hasBytesOf, t_Row_hasLettersOf, t_Scan_isLetter, t_Scan_isDigit, t_Text_init, t_Text_at, t_Text_put, t_Text_take, t_Text_firstBlank, t_Words_init, t_Words_isFull, t_Words_has, t_K_cut, t_K_step, t_K_about, t_K_isSegment, t_K_isPair, t_K_isSomebody, t_M_init, t_M_in, t_M_copy, t_M_at, t_M_isDigit, t_M_isLetter, t_M_small, t_M_pointOf, t_M_digitAt, t_M_same, t_M_word, t_M_wordsOf, t_M_latest, t_M_step, t_M_lay, t_M_reads, t_M_about, t_Arrays_fill, t_Book_init, t_Book_isBlankOrEnd, t_Memory_init, t_Memory_addRendering, t_Memory_takeBack, t_Near_forgetAll, t_Patch_init, t_Patch_copy, t_Patch_readsSame, t_Patch_copyNumber, t_Row_digit, t_Row_isPieceLike, t_Row_changeCost, t_Row_aloneCost, t_Scan_byteAt, t_Scan_lettersEnd, t_Scan_blanksEnd, t_Scan_digitsEnd, t_Words_packed, t_Words_add, t_K_feed, t_K_tape, t_K_piece, t_K_pair, t_K_rendered, t_M_feed, t_M_cut, t_M_tape, t_M_digits, t_M_mark, t_M_isMark, t_M_isTorn, t_M_alike, t_M_isWord, t_M_isThat, t_M_isSegment, t_M_isPair, t_M_comes, t_M_undo, t_M_step2, t_Ladder_leastSum, t_Near_init, t_Nest_isTorn, t_Patch_matchDigits, t_Patch_putMark, t_Patch_putNumber, t_Row_isLike, t_Row_timesOf, t_Scan_kindBehindBracket, t_Scan_numberEnd, t_K_undo, t_K_term, t_K_moveTapeTo, t_K_addTapeTo, t_M_read, t_M_except, t_M_term, t_M_forbid, t_M_ends, t_M_pair, t_M_rendered, t_M_like, t_M_keepCost, t_M_loneCost, t_M_maps, t_M_patches, t_M_often, t_Ladder_tell, t_Near_between, t_Patch_make, t_Scan_kindAt, t_Scan_endOf, t_K_init, t_K_except, t_K_segment, t_K_forbid, t_K_isLikeSource, t_M_readRow, t_M_load, t_M_readSegment, t_M_work, t_Book_findEnds, t_Row_read, t_K_like, t_K_differ, t_K_spread, t_K_scoreOf, t_M_segment, t_M_piece, t_M_keep, t_M_change, t_M_readBoth, t_M_faults, t_Book_become, t_Memory_addPair, t_K_score, t_K_isTapeTorn, t_K_readRenderingOf, t_K_aheadOf, t_K_kindCounted, t_M_like2, t_M_scoreOf, t_M_differ, t_M_patch, t_M_spread, t_K_load, t_K_keep, t_K_change, t_K_found, t_K_patch, t_K_faults, t_K_counted, t_K_count, t_M_score, t_M_found, t_M_countedOf, t_M_counted, t_M_count, t_Law_law]
def tab (X : Nat) : List (Nat × TE) := tabs.getD X []
end
section
/-! the tables are the code's, the links the pool's: by the kernel -/
def gtbl : List Cond := lw_tbl.filter goodWord
theorem mem_gtbl {w : Cond} (h : (decide (w ∈ lw_tbl) && goodWord w) = true) : w ∈ gtbl := by
  simp only [Bool.and_eq_true, decide_eq_true_eq] at h
  exact List.mem_filter.mpr h
def clT (ci : Nat) : u_T := (classes.getD ci ("", fun _ => ("", "", "", false), 0)).2.1
/-- what a method's own words are -/
def moC (a : Nat) : List Cond := [.code (yM a) (cod a) (mxl a) (rtyK (rk a)), .initialized (yM a).cls]
def moB (a b : Nat) : Bool := decide ((yM a).cls = cN (ownC a)) && decide ((yM a).cls ≠ "java/lang/invoke/MethodHandle") && decide ((yM a).cls ≠ "java/lang/invoke/VarHandle") && decide ((parseMethodDescriptor (yM a).desc).map (fun d => d.parameters.length) = some b) && plainName (yM a).cls && decide (mxl a ≤ 19)
def lkC : LK → List Cond
  | (0, o, idx, a, b) => [.fieldLink (cN o) idx (clT a b).1 (clT a b).2.1 (clT a b).2.2.1]
  | (1, o, idx, a, _) => [.methodLink (cN o) idx (yM a), .instanceMethod (yM a), .selects (cN (ownC a)) (yM a) (yM a)] ++ moC a
  | (2, o, idx, a, _) => [.methodLink (cN o) idx (yM a), .static (yM a)] ++ moC a
  | (3, o, idx, a, _) => [.methodLink (cN o) idx (yM a), .instanceMethod (yM a)] ++ moC a
  | (4, o, idx, a, _) => [.classLink (cN o) idx (cN a)]
  | (5, o, idx, a, _) => [.classLink (cN o) idx (cN a)]
  | (6, o, idx, a, _) => [.constant (cN o) idx (Int32.ofNat a)]
  | (7, o, idx, a, _) => [.constantLong (cN o) idx (lN a)]
  | (8, o, idx, _, _) => [.methodLink (cN o) idx objectInit, .instanceMethod objectInit, .code objectInit ⟨#[0xb1]⟩ 1 none]
  | (11, o, idx, _, _) => [.methodLink (cN o) idx Lib.Math.max.name, .static Lib.Math.max.name, .initialized "java/lang/Math", .code Lib.Math.max.name Lib.Math.max.code 2 (some .int)]
  | (12, o, idx, _, _) => [.methodLink (cN o) idx Lib.Math.min.name, .static Lib.Math.min.name, .initialized "java/lang/Math", .code Lib.Math.min.name Lib.Math.min.code 2 (some .int)]
  | (9, o, idx, _, _) => [.methodLink (cN o) idx arraycopyName, .native arraycopyName, .static arraycopyName, .initialized "java/lang/System"]
  | (_, _, _, a, _) => [.instanceMethod (yM a)] ++ moC a
def lkB : LK → Bool
  | (0, _, _, a, b) => decide (a < 11) && decide (b < nF a)
  | (1, _, _, a, b) => moB a b && decide (ownC a < 11)
  | (2, _, _, a, b) => moB a b
  | (3, _, _, a, b) => moB a b && decide ((yM a).name = "<init>") && decide (rk a = 0)
  | (4, _, _, a, b) => decide (a < 11) && decide (b = nF a)
  | (5, _, _, a, b) => decide (a = 6 ∧ b = 104 ∨ a = 7 ∧ b = 105)
  | (10, o, idx, a, b) => moB a b && decide ((yM a).name = "<init>") && decide (rk a = 0) && decide ((o, idx, a) = (9, 34, 1) ∨ (o, idx, a) = (9, 50, 56) ∨ (o, idx, a) = (9, 57, 6))
  | _ => true
def lkAt (j : Nat) (r : LK) : Bool := decide (lks[j]? = some r)
def okI (X pc : Nat) (i : Instr) (nx a b j : Nat) (c : Int32) : Bool := match i with
  | .iconst n => decide (Int32.ofInt n = c)
  | .bipush n => decide ((Int8.ofInt n).toInt32 = c)
  | .sipush n => decide ((Int16.ofInt n).toInt32 = c)
  | .iinc i n => decide (Int32.ofInt n = c) && decide (i < mxl X)
  | .istore i => decide (i < mxl X)
  | .istore_n i => decide (i.val < mxl X)
  | .astore i => decide (i < mxl X)
  | .astore_n i => decide (i.val < mxl X)
  | .lstore i => decide (i + 1 < mxl X)
  | .lstore_n i => decide (i.val + 1 < mxl X)
  | .lconst n => decide (n.val = a)
  | .ldc idx => lkAt j (6, ownC X, idx, a, 0) && decide (Int32.ofNat a = c)
  | .ldc2_w idx => lkAt j (7, ownC X, idx, a, 0)
  | .goto off => decide ((pc : Int) + off = (a : Int))
  | .ifCond _ off => decide ((pc : Int) + off = (a : Int))
  | .if_icmp _ off => decide ((pc : Int) + off = (a : Int))
  | .tableswitch d l u offs => decide ((pc : Int) + d = (a : Int)) && offs.toList.all (fun o => decide (0 ≤ (pc : Int) + o)) && decide (u + 1 - l = (offs.size : Int))
  | .lookupswitch d ps => (ps.toList.zip (ps.toList.drop 1)).all (fun (a, next) => a.1 < next.1) && decide (0 ≤ (pc : Int) + d) && ps.toList.all (fun q => decide (0 ≤ (pc : Int) + q.2))
  | .getfield idx => lkAt j (0, ownC X, idx, a, b)
  | .putfield idx => lkAt j (0, ownC X, idx, a, b) && (!(clT a b).2.2.2 || (decide ((yM X).name = "<init>") && decide (ownC X = a)))
  | .new idx => lkAt j (4, ownC X, idx, a, nF a)
  | .anewarray idx => lkAt j (5, ownC X, idx, a, b)
  | .newarray ty => decide (ty = .int ∧ b = 100 ∨ ty = .byte ∧ b = 101 ∨ ty = .boolean ∧ b = 102 ∨ ty = .long ∧ b = 103)
  | .baload => decide (b = 101 ∨ b = 102)
  | .bastore => decide (b = 101 ∨ b = 102)
  | .invokevirtual idx => lkAt j (1, ownC X, idx, a, b) && decide (dep a + 1 ≤ dep X)
  | .invokestatic idx => (match spc a with
    | 1 => lkAt j (9, ownC X, idx, 0, 0) && decide (1 ≤ dep X)
    | 2 => lkAt j (11, ownC X, idx, 0, 0) && decide (1 ≤ dep X)
    | 3 => lkAt j (12, ownC X, idx, 0, 0) && decide (1 ≤ dep X)
    | _ => lkAt j (2, ownC X, idx, a, b) && decide (dep a + 1 ≤ dep X))
  | .invokespecial idx => if Nat.beq a 1000 then lkAt j (8, ownC X, idx, 0, 0) && decide (1 ≤ dep X) && decide (b = 0) else (lkAt j (3, ownC X, idx, a, b) || lkAt j (10, ownC X, idx, a, b)) && decide (dep a + 1 ≤ dep X)
  | _ => true
/-- how long an instruction is; 0: as it may be -/
def iln : Instr → Nat
  | .tableswitch _ _ _ _ => 0
  | .lookupswitch _ _ => 0
  | .iload _ => 2
  | .lload _ => 2
  | .aload _ => 2
  | .istore _ => 2
  | .lstore _ => 2
  | .astore _ => 2
  | .bipush _ => 2
  | .ldc _ => 2
  | .newarray _ => 2
  | .iinc _ _ => 3
  | .sipush _ => 3
  | .ldc2_w _ => 3
  | .goto _ => 3
  | .ifCond _ _ => 3
  | .if_icmp _ _ => 3
  | .getfield _ => 3
  | .putfield _ => 3
  | .new _ => 3
  | .anewarray _ => 3
  | .invokevirtual _ => 3
  | .invokespecial _ => 3
  | .invokestatic _ => 3
  | _ => 1
def okE (X pc : Nat) (te : TE) : Bool := decide (decode (cod X) pc = .ok (te.1, te.2.1 - pc)) && decide (iln te.1 = 0 ∨ te.2.1 = pc + iln te.1) && okI X pc te.1 te.2.1 te.2.2.2.1 te.2.2.2.2.2.1 te.2.2.2.2.2.2.1 te.2.2.2.2.2.2.2
theorem tk_Book_isStop : t_Book_isStop.all (fun e => okE 0 e.1 e.2) = true := by decide +kernel
theorem tk_Ladder_init : t_Ladder_init.all (fun e => okE 1 e.1 e.2) = true := by decide +kernel
theorem tk_Ladder_addStep : t_Ladder_addStep.all (fun e => okE 2 e.1 e.2) = true := by decide +kernel
theorem tk_Memory_renderingAt : t_Memory_renderingAt.all (fun e => okE 3 e.1 e.2) = true := by decide +kernel
theorem tk_Memory_renderingsOf : t_Memory_renderingsOf.all (fun e => okE 4 e.1 e.2) = true := by decide +kernel
theorem tk_Near_forgetPair : t_Near_forgetPair.all (fun e => okE 5 e.1 e.2) = true := by decide +kernel
theorem tk_Nest_init : t_Nest_init.all (fun e => okE 6 e.1 e.2) = true := by decide +kernel
theorem tk_Patch_forgetServed : t_Patch_forgetServed.all (fun e => okE 7 e.1 e.2) = true := by decide +kernel
theorem tk_Patch_inRendering : t_Patch_inRendering.all (fun e => okE 8 e.1 e.2) = true := by decide +kernel
theorem tk_Patch_haveAllServed : t_Patch_haveAllServed.all (fun e => okE 9 e.1 e.2) = true := by decide +kernel
theorem tk_Row_init : t_Row_init.all (fun e => okE 10 e.1 e.2) = true := by decide +kernel
theorem tk_Row_addPiece : t_Row_addPiece.all (fun e => okE 11 e.1 e.2) = true := by decide +kernel
theorem tk_Row_isMark : t_Row_isMark.all (fun e => okE 12 e.1 e.2) = true := by decide +kernel
theorem tk_Row_digitPlace : t_Row_digitPlace.all (fun e => okE 13 e.1 e.2) = true := by decide +kernel
theorem tk_Row_hasBytesOf : t_Row_hasBytesOf.all (fun e => okE 14 e.1 e.2) = true := by decide +kernel
theorem tk_Row_hasLettersOf : t_Row_hasLettersOf.all (fun e => okE 15 e.1 e.2) = true := by decide +kernel
theorem tk_Scan_isLetter : t_Scan_isLetter.all (fun e => okE 16 e.1 e.2) = true := by decide +kernel
theorem tk_Scan_isDigit : t_Scan_isDigit.all (fun e => okE 17 e.1 e.2) = true := by decide +kernel
theorem tk_Text_init : t_Text_init.all (fun e => okE 18 e.1 e.2) = true := by decide +kernel
theorem tk_Text_at : t_Text_at.all (fun e => okE 19 e.1 e.2) = true := by decide +kernel
theorem tk_Text_put : t_Text_put.all (fun e => okE 20 e.1 e.2) = true := by decide +kernel
theorem tk_Text_take : t_Text_take.all (fun e => okE 21 e.1 e.2) = true := by decide +kernel
theorem tk_Text_firstBlank : t_Text_firstBlank.all (fun e => okE 22 e.1 e.2) = true := by decide +kernel
theorem tk_Words_init : t_Words_init.all (fun e => okE 23 e.1 e.2) = true := by decide +kernel
theorem tk_Words_isFull : t_Words_isFull.all (fun e => okE 24 e.1 e.2) = true := by decide +kernel
theorem tk_Words_has : t_Words_has.all (fun e => okE 25 e.1 e.2) = true := by decide +kernel
theorem tk_K_cut : t_K_cut.all (fun e => okE 26 e.1 e.2) = true := by decide +kernel
theorem tk_K_step : t_K_step.all (fun e => okE 27 e.1 e.2) = true := by decide +kernel
theorem tk_K_about : t_K_about.all (fun e => okE 28 e.1 e.2) = true := by decide +kernel
theorem tk_K_isSegment : t_K_isSegment.all (fun e => okE 29 e.1 e.2) = true := by decide +kernel
theorem tk_K_isPair : t_K_isPair.all (fun e => okE 30 e.1 e.2) = true := by decide +kernel
theorem tk_K_isSomebody : t_K_isSomebody.all (fun e => okE 31 e.1 e.2) = true := by decide +kernel
theorem tk_M_init : t_M_init.all (fun e => okE 32 e.1 e.2) = true := by decide +kernel
theorem tk_M_in : t_M_in.all (fun e => okE 33 e.1 e.2) = true := by decide +kernel
theorem tk_M_copy : t_M_copy.all (fun e => okE 34 e.1 e.2) = true := by decide +kernel
theorem tk_M_at : t_M_at.all (fun e => okE 35 e.1 e.2) = true := by decide +kernel
theorem tk_M_isDigit : t_M_isDigit.all (fun e => okE 36 e.1 e.2) = true := by decide +kernel
theorem tk_M_isLetter : t_M_isLetter.all (fun e => okE 37 e.1 e.2) = true := by decide +kernel
theorem tk_M_small : t_M_small.all (fun e => okE 38 e.1 e.2) = true := by decide +kernel
theorem tk_M_pointOf : t_M_pointOf.all (fun e => okE 39 e.1 e.2) = true := by decide +kernel
theorem tk_M_digitAt : t_M_digitAt.all (fun e => okE 40 e.1 e.2) = true := by decide +kernel
theorem tk_M_same : t_M_same.all (fun e => okE 41 e.1 e.2) = true := by decide +kernel
theorem tk_M_word : t_M_word.all (fun e => okE 42 e.1 e.2) = true := by decide +kernel
theorem tk_M_wordsOf : t_M_wordsOf.all (fun e => okE 43 e.1 e.2) = true := by decide +kernel
theorem tk_M_latest : t_M_latest.all (fun e => okE 44 e.1 e.2) = true := by decide +kernel
theorem tk_M_step : t_M_step.all (fun e => okE 45 e.1 e.2) = true := by decide +kernel
theorem tk_M_lay : t_M_lay.all (fun e => okE 46 e.1 e.2) = true := by decide +kernel
theorem tk_M_reads : t_M_reads.all (fun e => okE 47 e.1 e.2) = true := by decide +kernel
theorem tk_M_about : t_M_about.all (fun e => okE 48 e.1 e.2) = true := by decide +kernel
theorem tk_Arrays_fill : t_Arrays_fill.all (fun e => okE 49 e.1 e.2) = true := by decide +kernel
theorem tk_Book_init : t_Book_init.all (fun e => okE 50 e.1 e.2) = true := by decide +kernel
theorem tk_Book_isBlankOrEnd : t_Book_isBlankOrEnd.all (fun e => okE 51 e.1 e.2) = true := by decide +kernel
theorem tk_Memory_init : t_Memory_init.all (fun e => okE 52 e.1 e.2) = true := by decide +kernel
theorem tk_Memory_addRendering : t_Memory_addRendering.all (fun e => okE 53 e.1 e.2) = true := by decide +kernel
theorem tk_Memory_takeBack : t_Memory_takeBack.all (fun e => okE 54 e.1 e.2) = true := by decide +kernel
theorem tk_Near_forgetAll : t_Near_forgetAll.all (fun e => okE 55 e.1 e.2) = true := by decide +kernel
theorem tk_Patch_init : t_Patch_init.all (fun e => okE 56 e.1 e.2) = true := by decide +kernel
theorem tk_Patch_copy : t_Patch_copy.all (fun e => okE 57 e.1 e.2) = true := by decide +kernel
theorem tk_Patch_readsSame : t_Patch_readsSame.all (fun e => okE 58 e.1 e.2) = true := by decide +kernel
theorem tk_Patch_copyNumber : t_Patch_copyNumber.all (fun e => okE 59 e.1 e.2) = true := by decide +kernel
theorem tk_Row_digit : t_Row_digit.all (fun e => okE 60 e.1 e.2) = true := by decide +kernel
theorem tk_Row_isPieceLike : t_Row_isPieceLike.all (fun e => okE 61 e.1 e.2) = true := by decide +kernel
theorem tk_Row_changeCost : t_Row_changeCost.all (fun e => okE 62 e.1 e.2) = true := by decide +kernel
theorem tk_Row_aloneCost : t_Row_aloneCost.all (fun e => okE 63 e.1 e.2) = true := by decide +kernel
theorem tk_Scan_byteAt : t_Scan_byteAt.all (fun e => okE 64 e.1 e.2) = true := by decide +kernel
theorem tk_Scan_lettersEnd : t_Scan_lettersEnd.all (fun e => okE 65 e.1 e.2) = true := by decide +kernel
theorem tk_Scan_blanksEnd : t_Scan_blanksEnd.all (fun e => okE 66 e.1 e.2) = true := by decide +kernel
theorem tk_Scan_digitsEnd : t_Scan_digitsEnd.all (fun e => okE 67 e.1 e.2) = true := by decide +kernel
theorem tk_Words_packed : t_Words_packed.all (fun e => okE 68 e.1 e.2) = true := by decide +kernel
theorem tk_Words_add : t_Words_add.all (fun e => okE 69 e.1 e.2) = true := by decide +kernel
theorem tk_K_feed : t_K_feed.all (fun e => okE 70 e.1 e.2) = true := by decide +kernel
theorem tk_K_tape : t_K_tape.all (fun e => okE 71 e.1 e.2) = true := by decide +kernel
theorem tk_K_piece : t_K_piece.all (fun e => okE 72 e.1 e.2) = true := by decide +kernel
theorem tk_K_pair : t_K_pair.all (fun e => okE 73 e.1 e.2) = true := by decide +kernel
theorem tk_K_rendered : t_K_rendered.all (fun e => okE 74 e.1 e.2) = true := by decide +kernel
theorem tk_M_feed : t_M_feed.all (fun e => okE 75 e.1 e.2) = true := by decide +kernel
theorem tk_M_cut : t_M_cut.all (fun e => okE 76 e.1 e.2) = true := by decide +kernel
theorem tk_M_tape : t_M_tape.all (fun e => okE 77 e.1 e.2) = true := by decide +kernel
theorem tk_M_digits : t_M_digits.all (fun e => okE 78 e.1 e.2) = true := by decide +kernel
theorem tk_M_mark : t_M_mark.all (fun e => okE 79 e.1 e.2) = true := by decide +kernel
theorem tk_M_isMark : t_M_isMark.all (fun e => okE 80 e.1 e.2) = true := by decide +kernel
theorem tk_M_isTorn : t_M_isTorn.all (fun e => okE 81 e.1 e.2) = true := by decide +kernel
theorem tk_M_alike : t_M_alike.all (fun e => okE 82 e.1 e.2) = true := by decide +kernel
theorem tk_M_isWord : t_M_isWord.all (fun e => okE 83 e.1 e.2) = true := by decide +kernel
theorem tk_M_isThat : t_M_isThat.all (fun e => okE 84 e.1 e.2) = true := by decide +kernel
theorem tk_M_isSegment : t_M_isSegment.all (fun e => okE 85 e.1 e.2) = true := by decide +kernel
theorem tk_M_isPair : t_M_isPair.all (fun e => okE 86 e.1 e.2) = true := by decide +kernel
theorem tk_M_comes : t_M_comes.all (fun e => okE 87 e.1 e.2) = true := by decide +kernel
theorem tk_M_undo : t_M_undo.all (fun e => okE 88 e.1 e.2) = true := by decide +kernel
theorem tk_M_step2 : t_M_step2.all (fun e => okE 89 e.1 e.2) = true := by decide +kernel
theorem tk_Ladder_leastSum : t_Ladder_leastSum.all (fun e => okE 90 e.1 e.2) = true := by decide +kernel
theorem tk_Near_init : t_Near_init.all (fun e => okE 91 e.1 e.2) = true := by decide +kernel
theorem tk_Nest_isTorn : t_Nest_isTorn.all (fun e => okE 92 e.1 e.2) = true := by decide +kernel
theorem tk_Patch_matchDigits : t_Patch_matchDigits.all (fun e => okE 93 e.1 e.2) = true := by decide +kernel
theorem tk_Patch_putMark : t_Patch_putMark.all (fun e => okE 94 e.1 e.2) = true := by decide +kernel
theorem tk_Patch_putNumber : t_Patch_putNumber.all (fun e => okE 95 e.1 e.2) = true := by decide +kernel
theorem tk_Row_isLike : t_Row_isLike.all (fun e => okE 96 e.1 e.2) = true := by decide +kernel
theorem tk_Row_timesOf : t_Row_timesOf.all (fun e => okE 97 e.1 e.2) = true := by decide +kernel
theorem tk_Scan_kindBehindBracket : t_Scan_kindBehindBracket.all (fun e => okE 98 e.1 e.2) = true := by decide +kernel
theorem tk_Scan_numberEnd : t_Scan_numberEnd.all (fun e => okE 99 e.1 e.2) = true := by decide +kernel
theorem tk_K_undo : t_K_undo.all (fun e => okE 100 e.1 e.2) = true := by decide +kernel
theorem tk_K_term : t_K_term.all (fun e => okE 101 e.1 e.2) = true := by decide +kernel
theorem tk_K_moveTapeTo : t_K_moveTapeTo.all (fun e => okE 102 e.1 e.2) = true := by decide +kernel
theorem tk_K_addTapeTo : t_K_addTapeTo.all (fun e => okE 103 e.1 e.2) = true := by decide +kernel
theorem tk_M_read : t_M_read.all (fun e => okE 104 e.1 e.2) = true := by decide +kernel
theorem tk_M_except : t_M_except.all (fun e => okE 105 e.1 e.2) = true := by decide +kernel
theorem tk_M_term : t_M_term.all (fun e => okE 106 e.1 e.2) = true := by decide +kernel
theorem tk_M_forbid : t_M_forbid.all (fun e => okE 107 e.1 e.2) = true := by decide +kernel
theorem tk_M_ends : t_M_ends.all (fun e => okE 108 e.1 e.2) = true := by decide +kernel
theorem tk_M_pair : t_M_pair.all (fun e => okE 109 e.1 e.2) = true := by decide +kernel
theorem tk_M_rendered : t_M_rendered.all (fun e => okE 110 e.1 e.2) = true := by decide +kernel
theorem tk_M_like : t_M_like.all (fun e => okE 111 e.1 e.2) = true := by decide +kernel
theorem tk_M_keepCost : t_M_keepCost.all (fun e => okE 112 e.1 e.2) = true := by decide +kernel
theorem tk_M_loneCost : t_M_loneCost.all (fun e => okE 113 e.1 e.2) = true := by decide +kernel
theorem tk_M_maps : t_M_maps.all (fun e => okE 114 e.1 e.2) = true := by decide +kernel
theorem tk_M_patches : t_M_patches.all (fun e => okE 115 e.1 e.2) = true := by decide +kernel
theorem tk_M_often : t_M_often.all (fun e => okE 116 e.1 e.2) = true := by decide +kernel
theorem tk_Ladder_tell : t_Ladder_tell.all (fun e => okE 117 e.1 e.2) = true := by decide +kernel
theorem tk_Near_between : t_Near_between.all (fun e => okE 118 e.1 e.2) = true := by decide +kernel
theorem tk_Patch_make : t_Patch_make.all (fun e => okE 119 e.1 e.2) = true := by decide +kernel
theorem tk_Scan_kindAt : t_Scan_kindAt.all (fun e => okE 120 e.1 e.2) = true := by decide +kernel
theorem tk_Scan_endOf : t_Scan_endOf.all (fun e => okE 121 e.1 e.2) = true := by decide +kernel
theorem tk_K_init : t_K_init.all (fun e => okE 122 e.1 e.2) = true := by decide +kernel
theorem tk_K_except : t_K_except.all (fun e => okE 123 e.1 e.2) = true := by decide +kernel
theorem tk_K_segment : t_K_segment.all (fun e => okE 124 e.1 e.2) = true := by decide +kernel
theorem tk_K_forbid : t_K_forbid.all (fun e => okE 125 e.1 e.2) = true := by decide +kernel
theorem tk_K_isLikeSource : t_K_isLikeSource.all (fun e => okE 126 e.1 e.2) = true := by decide +kernel
theorem tk_M_readRow : t_M_readRow.all (fun e => okE 127 e.1 e.2) = true := by decide +kernel
theorem tk_M_load : t_M_load.all (fun e => okE 128 e.1 e.2) = true := by decide +kernel
theorem tk_M_readSegment : t_M_readSegment.all (fun e => okE 129 e.1 e.2) = true := by decide +kernel
theorem tk_M_work : t_M_work.all (fun e => okE 130 e.1 e.2) = true := by decide +kernel
theorem tk_Book_findEnds : t_Book_findEnds.all (fun e => okE 131 e.1 e.2) = true := by decide +kernel
theorem tk_Row_read : t_Row_read.all (fun e => okE 132 e.1 e.2) = true := by decide +kernel
theorem tk_K_like : t_K_like.all (fun e => okE 133 e.1 e.2) = true := by decide +kernel
theorem tk_K_differ : t_K_differ.all (fun e => okE 134 e.1 e.2) = true := by decide +kernel
theorem tk_K_spread : t_K_spread.all (fun e => okE 135 e.1 e.2) = true := by decide +kernel
theorem tk_K_scoreOf : t_K_scoreOf.all (fun e => okE 136 e.1 e.2) = true := by decide +kernel
theorem tk_M_segment : t_M_segment.all (fun e => okE 137 e.1 e.2) = true := by decide +kernel
theorem tk_M_piece : t_M_piece.all (fun e => okE 138 e.1 e.2) = true := by decide +kernel
theorem tk_M_keep : t_M_keep.all (fun e => okE 139 e.1 e.2) = true := by decide +kernel
theorem tk_M_change : t_M_change.all (fun e => okE 140 e.1 e.2) = true := by decide +kernel
theorem tk_M_readBoth : t_M_readBoth.all (fun e => okE 141 e.1 e.2) = true := by decide +kernel
theorem tk_M_faults : t_M_faults.all (fun e => okE 142 e.1 e.2) = true := by decide +kernel
theorem tk_Book_become : t_Book_become.all (fun e => okE 143 e.1 e.2) = true := by decide +kernel
theorem tk_Memory_addPair : t_Memory_addPair.all (fun e => okE 144 e.1 e.2) = true := by decide +kernel
theorem tk_K_score : t_K_score.all (fun e => okE 145 e.1 e.2) = true := by decide +kernel
theorem tk_K_isTapeTorn : t_K_isTapeTorn.all (fun e => okE 146 e.1 e.2) = true := by decide +kernel
theorem tk_K_readRenderingOf : t_K_readRenderingOf.all (fun e => okE 147 e.1 e.2) = true := by decide +kernel
theorem tk_K_aheadOf : t_K_aheadOf.all (fun e => okE 148 e.1 e.2) = true := by decide +kernel
theorem tk_K_kindCounted : t_K_kindCounted.all (fun e => okE 149 e.1 e.2) = true := by decide +kernel
theorem tk_M_like2 : t_M_like2.all (fun e => okE 150 e.1 e.2) = true := by decide +kernel
theorem tk_M_scoreOf : t_M_scoreOf.all (fun e => okE 151 e.1 e.2) = true := by decide +kernel
theorem tk_M_differ : t_M_differ.all (fun e => okE 152 e.1 e.2) = true := by decide +kernel
theorem tk_M_patch : t_M_patch.all (fun e => okE 153 e.1 e.2) = true := by decide +kernel
theorem tk_M_spread : t_M_spread.all (fun e => okE 154 e.1 e.2) = true := by decide +kernel
theorem tk_K_load : t_K_load.all (fun e => okE 155 e.1 e.2) = true := by decide +kernel
theorem tk_K_keep : t_K_keep.all (fun e => okE 156 e.1 e.2) = true := by decide +kernel
theorem tk_K_change : t_K_change.all (fun e => okE 157 e.1 e.2) = true := by decide +kernel
theorem tk_K_found : t_K_found.all (fun e => okE 158 e.1 e.2) = true := by decide +kernel
theorem tk_K_patch : t_K_patch.all (fun e => okE 159 e.1 e.2) = true := by decide +kernel
theorem tk_K_faults : t_K_faults.all (fun e => okE 160 e.1 e.2) = true := by decide +kernel
theorem tk_K_counted : t_K_counted.all (fun e => okE 161 e.1 e.2) = true := by decide +kernel
theorem tk_K_count : t_K_count.all (fun e => okE 162 e.1 e.2) = true := by decide +kernel
theorem tk_M_score : t_M_score.all (fun e => okE 163 e.1 e.2) = true := by decide +kernel
theorem tk_M_found : t_M_found.all (fun e => okE 164 e.1 e.2) = true := by decide +kernel
theorem tk_M_countedOf : t_M_countedOf.all (fun e => okE 165 e.1 e.2) = true := by decide +kernel
theorem tk_M_counted : t_M_counted.all (fun e => okE 166 e.1 e.2) = true := by decide +kernel
theorem tk_M_count : t_M_count.all (fun e => okE 167 e.1 e.2) = true := by decide +kernel
theorem tk_Law_law_0 : t_Law_law_0.all (fun e => okE 168 e.1 e.2) = true := by decide +kernel
theorem tk_Law_law_1 : t_Law_law_1.all (fun e => okE 168 e.1 e.2) = true := by decide +kernel
theorem tk_Law_law_2 : t_Law_law_2.all (fun e => okE 168 e.1 e.2) = true := by decide +kernel
theorem tk_Law_law_3 : t_Law_law_3.all (fun e => okE 168 e.1 e.2) = true := by decide +kernel
theorem tk_Law_law : t_Law_law.all (fun e => okE 168 e.1 e.2) = true := by
  unfold t_Law_law
  simp only [List.all_append, Bool.and_eq_true]
  exact ⟨⟨⟨tk_Law_law_0, tk_Law_law_1⟩, tk_Law_law_2⟩, tk_Law_law_3⟩
theorem tab_ok : ∀ X : Nat, (tab X).all (fun e => okE X e.1 e.2) = true
  | 0 => tk_Book_isStop
  | 1 => tk_Ladder_init
  | 2 => tk_Ladder_addStep
  | 3 => tk_Memory_renderingAt
  | 4 => tk_Memory_renderingsOf
  | 5 => tk_Near_forgetPair
  | 6 => tk_Nest_init
  | 7 => tk_Patch_forgetServed
  | 8 => tk_Patch_inRendering
  | 9 => tk_Patch_haveAllServed
  | 10 => tk_Row_init
  | 11 => tk_Row_addPiece
  | 12 => tk_Row_isMark
  | 13 => tk_Row_digitPlace
  | 14 => tk_Row_hasBytesOf
  | 15 => tk_Row_hasLettersOf
  | 16 => tk_Scan_isLetter
  | 17 => tk_Scan_isDigit
  | 18 => tk_Text_init
  | 19 => tk_Text_at
  | 20 => tk_Text_put
  | 21 => tk_Text_take
  | 22 => tk_Text_firstBlank
  | 23 => tk_Words_init
  | 24 => tk_Words_isFull
  | 25 => tk_Words_has
  | 26 => tk_K_cut
  | 27 => tk_K_step
  | 28 => tk_K_about
  | 29 => tk_K_isSegment
  | 30 => tk_K_isPair
  | 31 => tk_K_isSomebody
  | 32 => tk_M_init
  | 33 => tk_M_in
  | 34 => tk_M_copy
  | 35 => tk_M_at
  | 36 => tk_M_isDigit
  | 37 => tk_M_isLetter
  | 38 => tk_M_small
  | 39 => tk_M_pointOf
  | 40 => tk_M_digitAt
  | 41 => tk_M_same
  | 42 => tk_M_word
  | 43 => tk_M_wordsOf
  | 44 => tk_M_latest
  | 45 => tk_M_step
  | 46 => tk_M_lay
  | 47 => tk_M_reads
  | 48 => tk_M_about
  | 49 => tk_Arrays_fill
  | 50 => tk_Book_init
  | 51 => tk_Book_isBlankOrEnd
  | 52 => tk_Memory_init
  | 53 => tk_Memory_addRendering
  | 54 => tk_Memory_takeBack
  | 55 => tk_Near_forgetAll
  | 56 => tk_Patch_init
  | 57 => tk_Patch_copy
  | 58 => tk_Patch_readsSame
  | 59 => tk_Patch_copyNumber
  | 60 => tk_Row_digit
  | 61 => tk_Row_isPieceLike
  | 62 => tk_Row_changeCost
  | 63 => tk_Row_aloneCost
  | 64 => tk_Scan_byteAt
  | 65 => tk_Scan_lettersEnd
  | 66 => tk_Scan_blanksEnd
  | 67 => tk_Scan_digitsEnd
  | 68 => tk_Words_packed
  | 69 => tk_Words_add
  | 70 => tk_K_feed
  | 71 => tk_K_tape
  | 72 => tk_K_piece
  | 73 => tk_K_pair
  | 74 => tk_K_rendered
  | 75 => tk_M_feed
  | 76 => tk_M_cut
  | 77 => tk_M_tape
  | 78 => tk_M_digits
  | 79 => tk_M_mark
  | 80 => tk_M_isMark
  | 81 => tk_M_isTorn
  | 82 => tk_M_alike
  | 83 => tk_M_isWord
  | 84 => tk_M_isThat
  | 85 => tk_M_isSegment
  | 86 => tk_M_isPair
  | 87 => tk_M_comes
  | 88 => tk_M_undo
  | 89 => tk_M_step2
  | 90 => tk_Ladder_leastSum
  | 91 => tk_Near_init
  | 92 => tk_Nest_isTorn
  | 93 => tk_Patch_matchDigits
  | 94 => tk_Patch_putMark
  | 95 => tk_Patch_putNumber
  | 96 => tk_Row_isLike
  | 97 => tk_Row_timesOf
  | 98 => tk_Scan_kindBehindBracket
  | 99 => tk_Scan_numberEnd
  | 100 => tk_K_undo
  | 101 => tk_K_term
  | 102 => tk_K_moveTapeTo
  | 103 => tk_K_addTapeTo
  | 104 => tk_M_read
  | 105 => tk_M_except
  | 106 => tk_M_term
  | 107 => tk_M_forbid
  | 108 => tk_M_ends
  | 109 => tk_M_pair
  | 110 => tk_M_rendered
  | 111 => tk_M_like
  | 112 => tk_M_keepCost
  | 113 => tk_M_loneCost
  | 114 => tk_M_maps
  | 115 => tk_M_patches
  | 116 => tk_M_often
  | 117 => tk_Ladder_tell
  | 118 => tk_Near_between
  | 119 => tk_Patch_make
  | 120 => tk_Scan_kindAt
  | 121 => tk_Scan_endOf
  | 122 => tk_K_init
  | 123 => tk_K_except
  | 124 => tk_K_segment
  | 125 => tk_K_forbid
  | 126 => tk_K_isLikeSource
  | 127 => tk_M_readRow
  | 128 => tk_M_load
  | 129 => tk_M_readSegment
  | 130 => tk_M_work
  | 131 => tk_Book_findEnds
  | 132 => tk_Row_read
  | 133 => tk_K_like
  | 134 => tk_K_differ
  | 135 => tk_K_spread
  | 136 => tk_K_scoreOf
  | 137 => tk_M_segment
  | 138 => tk_M_piece
  | 139 => tk_M_keep
  | 140 => tk_M_change
  | 141 => tk_M_readBoth
  | 142 => tk_M_faults
  | 143 => tk_Book_become
  | 144 => tk_Memory_addPair
  | 145 => tk_K_score
  | 146 => tk_K_isTapeTorn
  | 147 => tk_K_readRenderingOf
  | 148 => tk_K_aheadOf
  | 149 => tk_K_kindCounted
  | 150 => tk_M_like2
  | 151 => tk_M_scoreOf
  | 152 => tk_M_differ
  | 153 => tk_M_patch
  | 154 => tk_M_spread
  | 155 => tk_K_load
  | 156 => tk_K_keep
  | 157 => tk_K_change
  | 158 => tk_K_found
  | 159 => tk_K_patch
  | 160 => tk_K_faults
  | 161 => tk_K_counted
  | 162 => tk_K_count
  | 163 => tk_M_score
  | 164 => tk_M_found
  | 165 => tk_M_countedOf
  | 166 => tk_M_counted
  | 167 => tk_M_count
  | 168 => tk_Law_law
  | n + 169 => by
    have h : tab (n + 169) = [] := rfl
    rw [h]; rfl
theorem lookup_mem {α : Type} {pc : Nat} {e : α} : ∀ {l : List (Nat × α)}, l.lookup pc = some e → (pc, e) ∈ l
  | [], h => by simp at h
  | (k, x) :: l, h => by
    rw [List.lookup_cons] at h
    split at h
    · rename_i q
      have q2 : pc = k := by simpa using q
      cases h
      rw [q2]
      exact List.mem_cons_self
    · exact List.mem_cons_of_mem _ (lookup_mem h)
theorem tab_at {X pc : Nat} {te : TE} (h : (tab X).lookup pc = some te) : decode (cod X) pc = .ok (te.1, te.2.1 - pc) ∧ (iln te.1 = 0 ∨ te.2.1 = pc + iln te.1) ∧ okI X pc te.1 te.2.1 te.2.2.2.1 te.2.2.2.2.2.1 te.2.2.2.2.2.2.1 te.2.2.2.2.2.2.2 = true := by
  have h1 := List.all_eq_true.mp (tab_ok X) _ (lookup_mem h)
  simp only [okE, Bool.and_eq_true, decide_eq_true_eq] at h1
  exact ⟨h1.1.1, h1.1.2, h1.2⟩
end
section
def lkP_0 : List (LK × List Nat) := [((8, 1, 3, 0, 0), [220, 66, 67]), ((0, 1, 11, 1, 0), [221]), ((0, 1, 15, 1, 1), [222]), ((0, 1, 18, 1, 2), [224]), ((0, 1, 21, 1, 3), [226]), ((0, 1, 49, 1, 4), [228]), ((0, 2, 67, 2, 7), [196]), ((12, 2, 74, 0, 0), [541, 542, 47, 543]), ((0, 2, 30, 2, 4), [191]), ((0, 3, 9, 3, 0), [254]), ((8, 4, 3, 0, 0), [286, 66, 67]), ((0, 4, 9, 4, 0), [287])]
theorem lkK_0 : lkP_0.all (fun p => lkB p.1 && decide (p.2.filterMap (fun i => lw_tbl[i]?) = lkC p.1) && (lkC p.1).all goodWord) = true := by decide +kernel
def lkP_1 : List (LK × List Nat) := [((0, 5, 24, 5, 2), [272]), ((0, 5, 44, 6, 7), [132]), ((0, 5, 51, 6, 0), [108]), ((8, 6, 3, 0, 0), [104, 66, 67]), ((0, 6, 9, 6, 3), [116]), ((11, 6, 15, 0, 0), [105, 75, 47, 76]), ((0, 6, 21, 6, 0), [106]), ((0, 6, 25, 6, 1), [110]), ((0, 6, 28, 6, 2), [113]), ((0, 6, 38, 6, 6), [127]), ((0, 6, 41, 6, 7), [131]), ((0, 6, 44, 6, 8), [135])]
theorem lkK_1 : lkP_1.all (fun p => lkB p.1 && decide (p.2.filterMap (fun i => lw_tbl[i]?) = lkC p.1) && (lkC p.1).all goodWord) = true := by decide +kernel
def lkP_2 : List (LK × List Nat) := [((0, 6, 70, 7, 0), [78]), ((8, 7, 3, 0, 0), [73, 66, 67]), ((11, 7, 9, 0, 0), [74, 75, 47, 76]), ((0, 7, 15, 7, 0), [77]), ((0, 7, 21, 7, 1), [80]), ((9, 7, 25, 0, 0), [451, 453, 452, 59]), ((8, 8, 3, 0, 0), [298, 66, 67]), ((11, 8, 9, 0, 0), [299, 75, 47, 76]), ((0, 8, 15, 8, 0), [300]), ((0, 8, 35, 8, 1), [302]), ((0, 9, 14, 9, 0), [310]), ((0, 9, 87, 7, 1), [81])]
theorem lkK_2 : lkP_2.all (fun p => lkB p.1 && decide (p.2.filterMap (fun i => lw_tbl[i]?) = lkC p.1) && (lkC p.1).all goodWord) = true := by decide +kernel
def lkP_3 : List (LK × List Nat) := [((0, 9, 35, 9, 4), [314]), ((0, 9, 214, 1, 4), [229]), ((0, 9, 217, 1, 1), [223]), ((0, 9, 220, 1, 2), [225]), ((0, 9, 223, 1, 3), [227]), ((0, 9, 21, 9, 1), [311]), ((0, 9, 266, 0, 3), [162]), ((0, 9, 28, 9, 2), [312]), ((0, 9, 153, 2, 6), [195]), ((0, 9, 156, 2, 7), [197]), ((0, 9, 74, 9, 8), [318]), ((0, 9, 254, 8, 1), [303])]
theorem lkK_3 : lkP_3.all (fun p => lkB p.1 && decide (p.2.filterMap (fun i => lw_tbl[i]?) = lkC p.1) && (lkC p.1).all goodWord) = true := by decide +kernel
def lkP_4 : List (LK × List Nat) := [((0, 9, 78, 9, 9), [319]), ((0, 9, 84, 9, 11), [321]), ((8, 10, 1, 0, 0), [737, 66, 67]), ((6, 10, 7, 37200, 0), [738]), ((0, 10, 8, 10, 1), [739]), ((0, 10, 14, 10, 2), [740]), ((0, 10, 17, 10, 3), [741]), ((0, 10, 20, 10, 4), [742]), ((0, 10, 23, 10, 5), [743]), ((0, 10, 26, 10, 6), [744]), ((0, 10, 29, 10, 7), [745]), ((0, 10, 32, 10, 9), [747])]
theorem lkK_4 : lkP_4.all (fun p => lkB p.1 && decide (p.2.filterMap (fun i => lw_tbl[i]?) = lkC p.1) && (lkC p.1).all goodWord) = true := by decide +kernel
def lkP_5 : List (LK × List Nat) := [((0, 10, 35, 10, 10), [748]), ((0, 10, 38, 10, 11), [749]), ((0, 10, 41, 10, 16), [754]), ((0, 10, 44, 10, 17), [755]), ((0, 10, 47, 10, 18), [756]), ((0, 10, 50, 10, 21), [759]), ((0, 10, 53, 10, 22), [760]), ((0, 10, 56, 10, 23), [761]), ((0, 10, 59, 10, 24), [762]), ((0, 10, 62, 10, 25), [763]), ((0, 10, 65, 10, 26), [764]), ((0, 10, 68, 10, 27), [765])]
theorem lkK_5 : lkP_5.all (fun p => lkB p.1 && decide (p.2.filterMap (fun i => lw_tbl[i]?) = lkC p.1) && (lkC p.1).all goodWord) = true := by decide +kernel
def lkP_6 : List (LK × List Nat) := [((0, 10, 71, 10, 29), [767]), ((0, 10, 74, 10, 30), [768]), ((0, 10, 78, 10, 31), [769]), ((0, 10, 91, 10, 8), [746]), ((0, 10, 216, 10, 28), [766]), ((0, 10, 222, 10, 32), [770]), ((0, 10, 151, 10, 15), [753]), ((0, 10, 167, 10, 19), [757]), ((0, 10, 170, 10, 20), [758]), ((0, 10, 129, 10, 12), [750]), ((0, 10, 136, 10, 13), [751]), ((0, 10, 139, 10, 14), [752])]
theorem lkK_6 : lkP_6.all (fun p => lkB p.1 && decide (p.2.filterMap (fun i => lw_tbl[i]?) = lkC p.1) && (lkC p.1).all goodWord) = true := by decide +kernel
def lkP_7 : List (LK × List Nat) := [((8, 0, 3, 0, 0), [95, 66, 67]), ((4, 0, 9, 7, 2), [96]), ((3, 0, 11, 18, 1), [97, 71, 72, 46]), ((0, 0, 14, 0, 0), [157]), ((5, 0, 20, 6, 104), [98]), ((0, 0, 22, 0, 1), [158]), ((0, 0, 26, 0, 2), [160]), ((4, 0, 20, 6, 9), [98]), ((3, 0, 30, 10, 2), [101, 102, 103, 49]), ((0, 0, 37, 7, 1), [82]), ((1, 0, 66, 19, 1), [434, 364, 365, 366, 46]), ((8, 2, 3, 0, 0), [177, 66, 67])]
theorem lkK_7 : lkP_7.all (fun p => lkB p.1 && decide (p.2.filterMap (fun i => lw_tbl[i]?) = lkC p.1) && (lkC p.1).all goodWord) = true := by decide +kernel
def lkP_8 : List (LK × List Nat) := [((5, 2, 9, 7, 105), [178]), ((0, 2, 11, 2, 0), [183]), ((5, 2, 17, 6, 104), [180]), ((0, 2, 19, 2, 1), [185]), ((0, 2, 23, 2, 2), [187]), ((0, 2, 27, 2, 3), [189]), ((0, 2, 33, 2, 5), [192]), ((4, 2, 9, 7, 2), [178]), ((3, 2, 36, 18, 1), [181, 71, 72, 46]), ((4, 2, 17, 6, 9), [180]), ((3, 2, 39, 10, 2), [182, 102, 103, 49]), ((0, 2, 60, 7, 1), [83])]
theorem lkK_8 : lkP_8.all (fun p => lkB p.1 && decide (p.2.filterMap (fun i => lw_tbl[i]?) = lkC p.1) && (lkC p.1).all goodWord) = true := by decide +kernel
def lkP_9 : List (LK × List Nat) := [((1, 2, 56, 21, 3), [507, 448, 449, 450, 46]), ((1, 2, 70, 3, 2), [537, 538, 539, 540, 50]), ((0, 2, 42, 2, 6), [194]), ((2, 3, 22, 49, 2), [251, 252, 253, 53]), ((8, 5, 3, 0, 0), [266, 66, 67]), ((4, 5, 9, 7, 2), [267]), ((3, 5, 13, 18, 1), [268, 71, 72, 46]), ((0, 5, 16, 5, 0), [269]), ((0, 5, 20, 5, 1), [271]), ((1, 5, 92, 19, 1), [664, 364, 365, 366, 46]), ((1, 5, 95, 20, 1), [665, 352, 353, 354, 46]), ((0, 5, 64, 6, 2), [114])]
theorem lkK_9 : lkP_9.all (fun p => lkB p.1 && decide (p.2.filterMap (fun i => lw_tbl[i]?) = lkC p.1) && (lkC p.1).all goodWord) = true := by decide +kernel
def lkP_10 : List (LK × List Nat) := [((0, 5, 54, 6, 3), [118]), ((0, 5, 57, 6, 1), [111]), ((2, 5, 109, 8, 1), [678, 679, 680, 54]), ((1, 6, 61, 13, 1), [481, 482, 483, 484, 49]), ((1, 6, 65, 19, 1), [485, 364, 365, 366, 46]), ((1, 6, 78, 15, 3), [573, 574, 575, 576, 49]), ((1, 6, 82, 14, 3), [577, 578, 579, 580, 49]), ((1, 6, 85, 12, 1), [607, 608, 609, 610, 49]), ((1, 11, 9, 19, 1), [410, 364, 365, 366, 46]), ((2, 11, 21, 16, 1), [411, 380, 381, 58]), ((2, 11, 25, 17, 1), [412, 413, 414, 58]), ((1, 8, 21, 19, 1), [378, 364, 365, 366, 46])]
theorem lkK_10 : lkP_10.all (fun p => lkB p.1 && decide (p.2.filterMap (fun i => lw_tbl[i]?) = lkC p.1) && (lkC p.1).all goodWord) = true := by decide +kernel
def lkP_11 : List (LK × List Nat) := [((2, 8, 27, 16, 1), [379, 380, 381, 58]), ((7, 8, 33, 32, 0), [382]), ((1, 8, 39, 24, 0), [391, 384, 385, 386, 56]), ((1, 9, 91, 20, 1), [351, 352, 353, 354, 46]), ((1, 9, 94, 19, 1), [363, 364, 365, 366, 46]), ((1, 9, 109, 29, 1), [469, 471, 1, 472, 45]), ((0, 9, 113, 0, 1), [159]), ((0, 9, 126, 6, 7), [134]), ((0, 9, 136, 6, 0), [109]), ((0, 9, 140, 6, 1), [112]), ((0, 9, 143, 6, 2), [115]), ((1, 9, 170, 30, 1), [525, 527, 5, 528, 45])]
theorem lkK_11 : lkP_11.all (fun p => lkB p.1 && decide (p.2.filterMap (fun i => lw_tbl[i]?) = lkC p.1) && (lkC p.1).all goodWord) = true := by decide +kernel
def lkP_12 : List (LK × List Nat) := [((0, 9, 177, 2, 2), [188]), ((0, 9, 180, 2, 0), [184]), ((0, 9, 184, 2, 3), [190]), ((1, 9, 187, 4, 1), [548, 549, 550, 551, 50]), ((0, 9, 190, 2, 5), [193]), ((1, 9, 193, 3, 2), [556, 538, 539, 540, 50]), ((2, 10, 85, 33, 3), [842, 843, 844, 57]), ((7, 10, 89, 255, 0), [845]), ((1, 10, 94, 35, 1), [889, 891, 15, 892, 57]), ((2, 10, 98, 36, 1), [893, 894, 895, 57]), ((1, 10, 119, 40, 1), [935, 937, 24, 938, 57]), ((2, 10, 122, 38, 1), [908, 909, 910, 57])]
theorem lkK_12 : lkP_12.all (fun p => lkB p.1 && decide (p.2.filterMap (fun i => lw_tbl[i]?) = lkC p.1) && (lkC p.1).all goodWord) = true := by decide +kernel
def lkP_13 : List (LK × List Nat) := [((2, 10, 105, 37, 1), [862, 863, 864, 57]), ((1, 10, 148, 34, 3), [911, 913, 19, 914, 57]), ((1, 10, 182, 44, 2), [970, 972, 28, 973, 57]), ((0, 1, 24, 6, 7), [129]), ((6, 1, 30, 1000000, 0), [598]), ((1, 1, 31, 62, 3), [599, 600, 601, 602, 49]), ((1, 1, 35, 63, 1), [603, 604, 605, 606, 49]), ((12, 1, 39, 0, 0), [611, 542, 47, 543]), ((8, 3, 3, 0, 0), [246, 66, 67]), ((0, 3, 15, 3, 1), [255]), ((1, 3, 19, 55, 0), [247, 248, 249, 250, 52]), ((0, 4, 15, 6, 7), [130])]
theorem lkK_13 : lkP_13.all (fun p => lkB p.1 && decide (p.2.filterMap (fun i => lw_tbl[i]?) = lkC p.1) && (lkC p.1).all goodWord) = true := by decide +kernel
def lkP_14 : List (LK × List Nat) := [((0, 4, 21, 6, 0), [107]), ((1, 4, 24, 60, 1), [477, 478, 479, 480, 49]), ((2, 5, 82, 49, 2), [657, 252, 253, 53]), ((1, 5, 47, 12, 1), [658, 608, 609, 610, 49]), ((1, 5, 88, 60, 1), [659, 478, 479, 480, 49]), ((1, 5, 98, 13, 1), [670, 482, 483, 484, 49]), ((1, 5, 60, 57, 3), [660, 661, 662, 663, 54]), ((2, 5, 101, 58, 4), [675, 676, 677, 54]), ((1, 5, 105, 59, 2), [681, 682, 683, 684, 54]), ((1, 6, 74, 61, 2), [569, 570, 571, 572, 49]), ((2, 6, 89, 68, 3), [710, 376, 377, 56]), ((2, 11, 15, 64, 3), [407, 408, 409, 58])]
theorem lkK_14 : lkP_14.all (fun p => lkB p.1 && decide (p.2.filterMap (fun i => lw_tbl[i]?) = lkC p.1) && (lkC p.1).all goodWord) = true := by decide +kernel
def lkP_15 : List (LK × List Nat) := [((2, 11, 41, 67, 4), [427, 428, 429, 58]), ((1, 9, 173, 54, 0), [533, 534, 535, 536, 50]), ((1, 9, 240, 22, 0), [694, 695, 696, 697, 46]), ((2, 9, 243, 68, 3), [375, 376, 377, 56]), ((1, 9, 247, 24, 0), [383, 384, 385, 386, 56]), ((1, 9, 250, 69, 1), [387, 388, 389, 390, 56]), ((0, 9, 81, 9, 10), [320]), ((1, 9, 271, 53, 3), [517, 518, 519, 520, 50]), ((1, 10, 102, 79, 1), [885, 887, 14, 888, 57]), ((1, 10, 108, 78, 2), [896, 898, 16, 899, 57]), ((1, 10, 125, 83, 2), [858, 860, 11, 861, 57]), ((1, 10, 132, 42, 3), [865, 867, 12, 868, 57])]
theorem lkK_15 : lkP_15.all (fun p => lkB p.1 && decide (p.2.filterMap (fun i => lw_tbl[i]?) = lkC p.1) && (lkC p.1).all goodWord) = true := by decide +kernel
def lkP_16 : List (LK × List Nat) := [((1, 10, 142, 84, 2), [904, 906, 18, 907, 57]), ((1, 10, 179, 86, 1), [962, 964, 27, 965, 57]), ((1, 10, 185, 82, 4), [994, 996, 31, 997, 57]), ((1, 10, 196, 41, 2), [1015, 1017, 35, 1018, 57]), ((2, 10, 199, 80, 1), [1023, 1024, 1025, 57]), ((1, 10, 225, 47, 2), [1054, 1056, 40, 1057, 57]), ((1, 10, 228, 46, 1), [1058, 1060, 41, 1061, 57]), ((1, 1, 45, 90, 2), [628, 595, 596, 597, 51]), ((1, 1, 52, 2, 3), [629, 630, 631, 632, 51]), ((0, 3, 28, 6, 7), [133]), ((11, 3, 34, 0, 0), [593, 75, 47, 76]), ((1, 3, 40, 90, 2), [594, 595, 596, 597, 51])]
theorem lkK_16 : lkP_16.all (fun p => lkB p.1 && decide (p.2.filterMap (fun i => lw_tbl[i]?) = lkC p.1) && (lkC p.1).all goodWord) = true := by decide +kernel
def lkP_17 : List (LK × List Nat) := [((0, 5, 28, 7, 1), [79]), ((1, 5, 32, 7, 0), [649, 650, 651, 652, 54]), ((1, 5, 35, 93, 2), [653, 654, 655, 656, 54]), ((0, 5, 39, 6, 4), [121]), ((1, 5, 67, 94, 2), [666, 667, 668, 669, 54]), ((1, 5, 71, 95, 4), [671, 672, 673, 674, 54]), ((0, 5, 75, 6, 5), [125]), ((1, 5, 78, 9, 1), [685, 686, 687, 688, 54]), ((2, 11, 28, 98, 3), [415, 416, 417, 58]), ((2, 11, 31, 65, 3), [421, 422, 423, 58]), ((2, 11, 34, 99, 4), [424, 425, 426, 58]), ((2, 11, 38, 66, 3), [430, 431, 432, 58])]
theorem lkK_17 : lkP_17.all (fun p => lkB p.1 && decide (p.2.filterMap (fun i => lw_tbl[i]?) = lkC p.1) && (lkC p.1).all goodWord) = true := by decide +kernel
def lkP_18 : List (LK × List Nat) := [((8, 9, 1, 0, 0), [65, 66, 67]), ((4, 9, 7, 7, 2), [68]), ((3, 9, 11, 18, 1), [70, 71, 72, 46]), ((4, 9, 18, 0, 4), [90]), ((3, 9, 20, 50, 0), [92, 93, 94, 48]), ((4, 9, 25, 2, 8), [172]), ((3, 9, 27, 52, 0), [174, 175, 176, 50]), ((4, 9, 32, 1, 5), [215]), ((10, 9, 34, 1, 0), [218, 219, 51]), ((4, 9, 39, 3, 2), [241]), ((3, 9, 41, 91, 1), [243, 244, 245, 52]), ((0, 9, 44, 9, 3), [313])]
theorem lkK_18 : lkP_18.all (fun p => lkB p.1 && decide (p.2.filterMap (fun i => lw_tbl[i]?) = lkC p.1) && (lkC p.1).all goodWord) = true := by decide +kernel
def lkP_19 : List (LK × List Nat) := [((4, 9, 48, 5, 3), [261]), ((10, 9, 50, 56, 0), [264, 265, 54]), ((0, 9, 51, 9, 5), [315]), ((4, 9, 55, 4, 1), [281]), ((10, 9, 57, 6, 0), [284, 285, 55]), ((0, 9, 58, 9, 6), [316]), ((4, 9, 62, 6, 9), [291]), ((3, 9, 64, 10, 2), [292, 102, 103, 49]), ((0, 9, 67, 9, 7), [317]), ((4, 9, 71, 8, 2), [293]), ((3, 9, 73, 23, 1), [295, 296, 297, 56]), ((1, 9, 98, 103, 1), [371, 373, 0, 374, 45])]
theorem lkK_19 : lkP_19.all (fun p => lkB p.1 && decide (p.2.filterMap (fun i => lw_tbl[i]?) = lkC p.1) && (lkC p.1).all goodWord) = true := by decide +kernel
def lkP_20 : List (LK × List Nat) := [((0, 9, 117, 6, 4), [122]), ((0, 9, 120, 6, 5), [126]), ((0, 9, 123, 6, 6), [128]), ((0, 9, 129, 6, 8), [136]), ((1, 9, 132, 92, 1), [473, 474, 475, 476, 55]), ((0, 9, 207, 2, 1), [186]), ((1, 9, 275, 96, 1), [565, 566, 567, 568, 49]), ((2, 10, 112, 39, 1), [951, 952, 953, 57]), ((1, 10, 115, 104, 5), [881, 883, 13, 884, 57]), ((1, 10, 145, 108, 2), [900, 902, 17, 903, 57]), ((6, 10, 202, 1000000, 0), [1010]), ((1, 10, 203, 112, 2), [1011, 1013, 34, 1014, 57])]
theorem lkK_20 : lkP_20.all (fun p => lkB p.1 && decide (p.2.filterMap (fun i => lw_tbl[i]?) = lkC p.1) && (lkC p.1).all goodWord) = true := by decide +kernel
def lkP_21 : List (LK × List Nat) := [((1, 10, 206, 113, 1), [1019, 1021, 36, 1022, 57]), ((2, 0, 50, 120, 3), [404, 405, 406, 58]), ((2, 0, 56, 121, 5), [418, 419, 420, 58]), ((11, 0, 60, 0, 0), [433, 75, 47, 76]), ((1, 0, 70, 25, 1), [435, 436, 437, 438, 56]), ((2, 0, 76, 0, 1), [439, 440, 441, 48]), ((2, 0, 80, 51, 2), [442, 443, 444, 48]), ((2, 0, 84, 66, 3), [445, 431, 432, 58]), ((2, 0, 87, 68, 3), [446, 376, 377, 56]), ((0, 6, 31, 6, 4), [119]), ((0, 6, 35, 6, 5), [123]), ((2, 6, 47, 120, 3), [458, 405, 406, 58])]
theorem lkK_21 : lkP_21.all (fun p => lkB p.1 && decide (p.2.filterMap (fun i => lw_tbl[i]?) = lkC p.1) && (lkC p.1).all goodWord) = true := by decide +kernel
def lkP_22 : List (LK × List Nat) := [((2, 6, 53, 121, 5), [459, 419, 420, 58]), ((1, 6, 57, 11, 3), [460, 461, 462, 463, 49]), ((1, 9, 197, 126, 2), [561, 563, 6, 564, 45]), ((1, 9, 210, 117, 2), [624, 625, 626, 627, 51]), ((1, 9, 278, 118, 4), [589, 590, 591, 592, 52]), ((1, 10, 154, 85, 1), [919, 921, 20, 922, 57]), ((1, 10, 157, 129, 2), [923, 925, 21, 926, 57]), ((1, 10, 161, 43, 1), [927, 929, 22, 930, 57]), ((1, 10, 164, 81, 1), [931, 933, 23, 934, 57]), ((1, 10, 173, 127, 2), [947, 949, 25, 950, 57]), ((1, 10, 176, 87, 2), [954, 956, 26, 957, 57]), ((1, 10, 238, 116, 2), [1066, 1068, 42, 1069, 57])]
theorem lkK_22 : lkP_22.all (fun p => lkB p.1 && decide (p.2.filterMap (fun i => lw_tbl[i]?) = lkC p.1) && (lkC p.1).all goodWord) = true := by decide +kernel
def lkP_23 : List (LK × List Nat) := [((1, 0, 33, 131, 2), [400, 401, 402, 403, 48]), ((1, 0, 41, 21, 3), [447, 448, 449, 450, 46]), ((1, 0, 45, 132, 4), [454, 455, 456, 457, 49]), ((0, 0, 49, 0, 3), [161]), ((0, 2, 46, 6, 3), [117]), ((0, 2, 50, 6, 4), [120]), ((0, 2, 53, 6, 5), [124]), ((1, 2, 63, 132, 4), [508, 455, 456, 457, 49]), ((1, 9, 201, 136, 2), [585, 587, 7, 588, 45]), ((1, 9, 267, 132, 4), [502, 455, 456, 457, 49]), ((11, 9, 282, 0, 0), [719, 75, 47, 76]), ((1, 10, 189, 141, 2), [986, 988, 29, 989, 57])]
theorem lkK_23 : lkP_23.all (fun p => lkB p.1 && decide (p.2.filterMap (fun i => lw_tbl[i]?) = lkC p.1) && (lkC p.1).all goodWord) = true := by decide +kernel
def lkP_24 : List (LK × List Nat) := [((1, 10, 192, 111, 0), [990, 992, 30, 993, 57]), ((1, 10, 209, 130, 0), [1006, 1008, 33, 1009, 57]), ((1, 10, 219, 45, 3), [1034, 1036, 37, 1037, 57]), ((1, 10, 232, 114, 0), [1046, 1048, 38, 1049, 57]), ((1, 10, 235, 115, 1), [1050, 1052, 39, 1053, 57]), ((1, 9, 102, 143, 2), [396, 397, 398, 399, 48]), ((1, 9, 106, 55, 0), [464, 248, 249, 250, 52]), ((1, 9, 146, 31, 1), [494, 496, 2, 497, 45]), ((1, 9, 149, 146, 0), [498, 500, 3, 501, 45]), ((1, 9, 159, 144, 1), [503, 504, 505, 506, 50]), ((1, 9, 163, 5, 1), [509, 510, 511, 512, 52]), ((1, 9, 166, 102, 2), [513, 515, 4, 516, 45])]
theorem lkK_24 : lkP_24.all (fun p => lkB p.1 && decide (p.2.filterMap (fun i => lw_tbl[i]?) = lkC p.1) && (lkC p.1).all goodWord) = true := by decide +kernel
def lkP_25 : List (LK × List Nat) := [((1, 9, 204, 148, 2), [616, 618, 8, 619, 45]), ((1, 9, 226, 147, 1), [641, 643, 9, 644, 45]), ((1, 9, 229, 119, 3), [645, 646, 647, 648, 54]), ((0, 9, 233, 5, 0), [270]), ((1, 9, 236, 21, 3), [689, 448, 449, 450, 46]), ((0, 9, 255, 8, 0), [301]), ((1, 9, 259, 97, 1), [706, 707, 708, 709, 49]), ((1, 9, 263, 149, 1), [715, 717, 10, 718, 45]), ((1, 10, 213, 151, 2), [1002, 1004, 32, 1005, 57]), ((1, 10, 241, 165, 1), [1074, 1076, 43, 1077, 57]), ((4, 12, 7, 9, 12), [60]), ((3, 12, 9, 122, 0), [62, 63, 64, 45])]
theorem lkK_25 : lkP_25.all (fun p => lkB p.1 && decide (p.2.filterMap (fun i => lw_tbl[i]?) = lkC p.1) && (lkC p.1).all goodWord) = true := by decide +kernel
def lkP_26 : List (LK × List Nat) := [((4, 12, 10, 10, 33), [732]), ((3, 12, 12, 32, 0), [734, 735, 736, 57]), ((7, 12, 13, 4294967295, 0), [1090]), ((1, 12, 15, 70, 2), [347, 348, 349, 350, 45]), ((1, 12, 19, 75, 2), [838, 839, 840, 841, 57]), ((1, 12, 20, 26, 1), [355, 356, 357, 358, 45]), ((1, 12, 24, 76, 1), [846, 847, 848, 849, 57]), ((1, 12, 25, 71, 1), [359, 360, 361, 362, 45]), ((1, 12, 28, 77, 1), [850, 851, 852, 853, 57]), ((1, 12, 29, 123, 0), [367, 368, 369, 370, 45]), ((1, 12, 33, 105, 0), [854, 855, 856, 857, 57]), ((1, 12, 34, 155, 0), [392, 393, 394, 395, 45])]
theorem lkK_26 : lkP_26.all (fun p => lkB p.1 && decide (p.2.filterMap (fun i => lw_tbl[i]?) = lkC p.1) && (lkC p.1).all goodWord) = true := by decide +kernel
def lkP_27 : List (LK × List Nat) := [((1, 12, 37, 128, 0), [877, 878, 879, 880, 57]), ((1, 12, 38, 124, 2), [465, 466, 467, 468, 45]), ((1, 12, 42, 137, 2), [915, 916, 917, 918, 57]), ((1, 12, 43, 72, 3), [486, 487, 488, 489, 45]), ((1, 12, 47, 138, 3), [939, 940, 941, 942, 57]), ((1, 12, 48, 156, 2), [490, 491, 492, 493, 45]), ((1, 12, 51, 139, 2), [943, 944, 945, 946, 57]), ((1, 12, 52, 157, 2), [521, 522, 523, 524, 45]), ((1, 12, 55, 140, 2), [958, 959, 960, 961, 57]), ((1, 12, 56, 100, 0), [529, 530, 531, 532, 45]), ((1, 12, 59, 88, 0), [966, 967, 968, 969, 57]), ((1, 12, 60, 73, 2), [544, 545, 546, 547, 45])]
theorem lkK_27 : lkP_27.all (fun p => lkB p.1 && decide (p.2.filterMap (fun i => lw_tbl[i]?) = lkC p.1) && (lkC p.1).all goodWord) = true := by decide +kernel
def lkP_28 : List (LK × List Nat) := [((1, 12, 63, 109, 2), [974, 975, 976, 977, 57]), ((1, 12, 64, 74, 3), [552, 553, 554, 555, 45]), ((1, 12, 67, 110, 3), [978, 979, 980, 981, 57]), ((1, 12, 68, 133, 2), [557, 558, 559, 560, 45]), ((1, 12, 71, 150, 2), [982, 983, 984, 985, 57]), ((1, 12, 72, 145, 2), [581, 582, 583, 584, 45]), ((1, 12, 75, 163, 2), [998, 999, 1000, 1001, 57]), ((1, 12, 76, 158, 3), [612, 613, 614, 615, 45]), ((1, 12, 79, 164, 3), [1026, 1027, 1028, 1029, 57]), ((1, 12, 80, 134, 2), [620, 621, 622, 623, 45]), ((1, 12, 83, 152, 2), [1030, 1031, 1032, 1033, 57]), ((1, 12, 84, 27, 2), [633, 634, 635, 636, 45])]
theorem lkK_28 : lkP_28.all (fun p => lkB p.1 && decide (p.2.filterMap (fun i => lw_tbl[i]?) = lkC p.1) && (lkC p.1).all goodWord) = true := by decide +kernel
def lkP_29 : List (LK × List Nat) := [((1, 12, 87, 89, 2), [1038, 1039, 1040, 1041, 57]), ((1, 12, 88, 159, 2), [637, 638, 639, 640, 45]), ((1, 12, 91, 153, 2), [1042, 1043, 1044, 1045, 57]), ((1, 12, 92, 101, 0), [690, 691, 692, 693, 45]), ((1, 12, 95, 106, 0), [869, 870, 871, 872, 57]), ((1, 12, 96, 125, 0), [698, 699, 700, 701, 45]), ((1, 12, 99, 107, 0), [873, 874, 875, 876, 57]), ((1, 12, 100, 160, 1), [702, 703, 704, 705, 45]), ((1, 12, 103, 142, 1), [1062, 1063, 1064, 1065, 57]), ((1, 12, 104, 161, 1), [711, 712, 713, 714, 45]), ((1, 12, 107, 166, 1), [1070, 1071, 1072, 1073, 57]), ((1, 12, 108, 162, 2), [720, 721, 722, 723, 45])]
theorem lkK_29 : lkP_29.all (fun p => lkB p.1 && decide (p.2.filterMap (fun i => lw_tbl[i]?) = lkC p.1) && (lkC p.1).all goodWord) = true := by decide +kernel
def lkP_30 : List (LK × List Nat) := [((1, 12, 111, 167, 2), [1078, 1079, 1080, 1081, 57]), ((1, 12, 112, 135, 1), [724, 725, 726, 727, 45]), ((1, 12, 115, 154, 1), [1082, 1083, 1084, 1085, 57]), ((1, 12, 116, 28, 1), [728, 729, 730, 731, 45]), ((1, 12, 119, 48, 1), [1086, 1087, 1088, 1089, 57])]
theorem lkK_30 : lkP_30.all (fun p => lkB p.1 && decide (p.2.filterMap (fun i => lw_tbl[i]?) = lkC p.1) && (lkC p.1).all goodWord) = true := by decide +kernel
def lkP : List (LK × List Nat) := lkP_0 ++ (lkP_1 ++ (lkP_2 ++ (lkP_3 ++ (lkP_4 ++ (lkP_5 ++ (lkP_6 ++ (lkP_7 ++ (lkP_8 ++ (lkP_9 ++ (lkP_10 ++ (lkP_11 ++ (lkP_12 ++ (lkP_13 ++ (lkP_14 ++ (lkP_15 ++ (lkP_16 ++ (lkP_17 ++ (lkP_18 ++ (lkP_19 ++ (lkP_20 ++ (lkP_21 ++ (lkP_22 ++ (lkP_23 ++ (lkP_24 ++ (lkP_25 ++ (lkP_26 ++ (lkP_27 ++ (lkP_28 ++ (lkP_29 ++ (lkP_30))))))))))))))))))))))))))))))
theorem lkP_ok : ∀ p ∈ lkP, (lkB p.1 && decide (p.2.filterMap (fun i => lw_tbl[i]?) = lkC p.1) && (lkC p.1).all goodWord) = true := by
  unfold lkP
  intro p hp
  simp only [List.mem_append] at hp
  rcases hp with h | h | h | h | h | h | h | h | h | h | h | h | h | h | h | h | h | h | h | h | h | h | h | h | h | h | h | h | h | h | h
  · exact List.all_eq_true.mp lkK_0 p h
  · exact List.all_eq_true.mp lkK_1 p h
  · exact List.all_eq_true.mp lkK_2 p h
  · exact List.all_eq_true.mp lkK_3 p h
  · exact List.all_eq_true.mp lkK_4 p h
  · exact List.all_eq_true.mp lkK_5 p h
  · exact List.all_eq_true.mp lkK_6 p h
  · exact List.all_eq_true.mp lkK_7 p h
  · exact List.all_eq_true.mp lkK_8 p h
  · exact List.all_eq_true.mp lkK_9 p h
  · exact List.all_eq_true.mp lkK_10 p h
  · exact List.all_eq_true.mp lkK_11 p h
  · exact List.all_eq_true.mp lkK_12 p h
  · exact List.all_eq_true.mp lkK_13 p h
  · exact List.all_eq_true.mp lkK_14 p h
  · exact List.all_eq_true.mp lkK_15 p h
  · exact List.all_eq_true.mp lkK_16 p h
  · exact List.all_eq_true.mp lkK_17 p h
  · exact List.all_eq_true.mp lkK_18 p h
  · exact List.all_eq_true.mp lkK_19 p h
  · exact List.all_eq_true.mp lkK_20 p h
  · exact List.all_eq_true.mp lkK_21 p h
  · exact List.all_eq_true.mp lkK_22 p h
  · exact List.all_eq_true.mp lkK_23 p h
  · exact List.all_eq_true.mp lkK_24 p h
  · exact List.all_eq_true.mp lkK_25 p h
  · exact List.all_eq_true.mp lkK_26 p h
  · exact List.all_eq_true.mp lkK_27 p h
  · exact List.all_eq_true.mp lkK_28 p h
  · exact List.all_eq_true.mp lkK_29 p h
  · exact List.all_eq_true.mp lkK_30 p h
theorem lkP_lks : lks = lkP.map (fun p => p.1) := by decide +kernel
def lkAtP (r : LK) : Prop := lkB r = true ∧ ∀ w ∈ lkC r, w ∈ gtbl
theorem lkAt_B {j : Nat} {r : LK} (h : lkAt j r = true) : lkAtP r := by
  have h1 : lks[j]? = some r := by simpa [lkAt] using h
  have h2 : r ∈ lkP.map (fun p => p.1) := by rw [← lkP_lks]; exact List.mem_of_getElem? h1
  obtain ⟨p, hp, e⟩ := List.mem_map.mp h2
  have h3 := lkP_ok p hp
  subst e
  simp only [Bool.and_eq_true, decide_eq_true_eq] at h3
  refine ⟨h3.1.1, fun w hw => ?_⟩
  refine List.mem_filter.mpr ⟨?_, List.all_eq_true.mp h3.2 w hw⟩
  rw [← h3.1.2] at hw
  obtain ⟨i, -, hi⟩ := List.mem_filterMap.mp hw
  exact List.mem_of_getElem? hi
end
section
/-! A pure picture of the heap: cells by small numbers (0: the script; n + 1: the n-th cell made since the start), contents by kinds; and a pure weakest-precondition semantics of the bytecode over it (Wp), as the least predicate closed under one step (F). -/
abbrev HP : Type := (Nat → Nat → Int32) × (Nat → Nat → Int64) × (Nat → Nat → Nat) × (Nat → Nat) × (Nat → Nat) × Nat
/-- ints: fields, int, byte and boolean arrays -/
def gI (h : HP) : Nat → Nat → Int32 := h.1
/-- longs -/
def gJ (h : HP) : Nat → Nat → Int64 := h.2.1
/-- references: 0 is null -/
def gR (h : HP) : Nat → Nat → Nat := h.2.2.1
/-- kinds: below 100 the class; 100 int[], 101 byte[], 102 boolean[], 103 long[], 104 Row[], 105 Text[] -/
def gK (h : HP) : Nat → Nat := h.2.2.2.1
/-- lengths of arrays -/
def gL (h : HP) : Nat → Nat := h.2.2.2.2.1
/-- how many cells -/
def gS (h : HP) : Nat := h.2.2.2.2.2
def stA (h : HP) (a : Nat) (f : Nat → Int32) : HP := (va_up (gI h) a f, gJ h, gR h, gK h, gL h, gS h)
def stI (h : HP) (a k : Nat) (v : Int32) : HP := stA h a (va_up (gI h a) k v)
def stJ (h : HP) (a k : Nat) (v : Int64) : HP := (gI h, va_up (gJ h) a (va_up (gJ h a) k v), gR h, gK h, gL h, gS h)
def stR (h : HP) (a k r : Nat) : HP := (gI h, gJ h, va_up (gR h) a (va_up (gR h a) k r), gK h, gL h, gS h)
def nwC (h : HP) (kd n : Nat) : HP := (va_up (gI h) (gS h) (fun _ => 0), va_up (gJ h) (gS h) (fun _ => 0), va_up (gR h) (gS h) (fun _ => 0), va_up (gK h) (gS h) kd, va_up (gL h) (gS h) n, gS h + 1)
def isO (h : HP) (a ci : Nat) : Prop := 0 < a ∧ a < gS h ∧ gK h a = ci
def isA (h : HP) (a kd : Nat) (i : Int32) : Prop := 0 < a ∧ a < gS h ∧ gK h a = kd ∧ vp_in i (gL h a)
/-- an array that may be the script -/
def isL (h : HP) (a kd : Nat) (i : Int32) : Prop := a < gS h ∧ gK h a = kd ∧ vp_in i (gL h a)
def narB : Nat → Int32 → Int32
  | 101, x => x.toInt8.toInt32
  | _, x => x &&& 1
abbrev LO : Type := List (Option Value)
def nth : LO → Nat → Option Value
  | [], _ => none
  | x :: _, 0 => x
  | _ :: l, n + 1 => nth l n
def sto : LO → Nat → Option Value → LO
  | [], _, _ => []
  | _ :: l, 0, v => v :: l
  | x :: l, n + 1, v => x :: sto l n v
def kil (ks : List Nat) (lo : LO) : LO := ks.foldl (fun l i => sto l i none) lo
/-- no long stands right ahead of place n -/
def lgb (lo : LO) (n : Nat) : Bool := match n with
  | 0 => true
  | k + 1 => match nth lo k with
    | some v => !(v.category == 2)
    | none => true
def ent : List Value → LO
  | [] => []
  | v :: vs => match v.category with
    | 2 => some v :: none :: ent vs
    | _ => some v :: ent vs
def entM (X : Nat) (vs : List Value) : LO := ent vs ++ List.replicate (mxl X - (ent vs).length) none
def popN : Nat → List Value → List Value → Option (List Value × List Value)
  | 0, acc, st => some (acc, st)
  | n + 1, acc, v :: st => popN n (v :: acc) st
  | _ + 1, _, [] => none
def catS (st : List Value) : Nat := (st.map fun v => v.category).sum
abbrev QT : Type := Option Value → HP → Prop
abbrev PT : Type := Nat → Nat → LO → List Value → HP → Nat × Nat → QT → Prop
def aft (k : Nat) (K : QT) (Q' : QT) : Prop := match k with
  | 0 => ∀ h' : HP, Q' none h' → K none h'
  | 2 => ∀ (v : Int64) (h' : HP), Q' (some (.long v)) h' → K (some (.long v)) h'
  | _ => ∀ (v : Int32) (h' : HP), Q' (some (.int v)) h' → K (some (.int v)) h'
/-- a call of method a -/
def Fcall (P : PT) (X nx : Nat) (a : Nat) (as : List Value) (rest : List Value) (lo : LO) (h : HP) (bd : Nat × Nat) (Q : QT) : Prop :=
  catS rest ≤ 8 ∧ mcM a ≤ bd.1 ∧ msM a ≤ bd.2 ∧ (ent as).length ≤ mxl a ∧ ∃ Q' : QT, P a 0 (entM a as) [] h (mcM a, msM a) Q' ∧ aft (rk a) (fun v h' => P X nx lo (v.toList ++ rest) h' (bd.1 - mcM a, bd.2 - msM a) Q) Q'
def Fcmp (cd : ClassFile.Cond) (x y : Int32) (A B : Prop) : Prop := match cd with
  | .eq => (x = y → A) ∧ (¬ x = y → B)
  | .ne => (¬ x = y → A) ∧ (x = y → B)
  | .lt => (x < y → A) ∧ (¬ x < y → B)
  | .ge => (y ≤ x → A) ∧ (¬ y ≤ x → B)
  | .gt => (y < x → A) ∧ (¬ y < x → B)
  | .le => (x ≤ y → A) ∧ (¬ x ≤ y → B)
def Fld (P : PT) (X nx : Nat) (lo : LO) (st : List Value) (h : HP) (bd : Nat × Nat) (Q : QT) (t n : Nat) (kn : List Nat) : Prop := match t, nth lo n with
  | 0, some (.int x) => P X nx (kil kn lo) (.int x :: st) h bd Q
  | 1, some (.long x) => P X nx (kil kn lo) (.long x :: st) h bd Q
  | 2, some (.ref x) => P X nx (kil kn lo) (.ref x :: st) h bd Q
  | _, _ => False
def Fst (P : PT) (X nx : Nat) (lo : LO) (st : List Value) (h : HP) (bd : Nat × Nat) (Q : QT) (t n : Nat) (kn : List Nat) : Prop := match t, st with
  | 0, .int x :: st => lgb lo n = true ∧ P X nx (kil kn (sto lo n (some (.int x)))) st h bd Q
  | 1, .long x :: st => lgb lo n = true ∧ P X nx (kil kn (sto (sto lo n (some (.long x))) (n + 1) none)) st h bd Q
  | 2, .ref x :: st => lgb lo n = true ∧ P X nx (kil kn (sto lo n (some (.ref x)))) st h bd Q
  | _, _ => False
def Fi (P : PT) (X pc : Nat) (i : Instr) (nx : Nat) (kn : List Nat) (a : Nat) (ka : List Nat) (b : Nat) (c : Int32) (lo : LO) (st : List Value) (h : HP) (bd : Nat × Nat) (Q : QT) : Prop :=
  match i with
  | .iload n => Fld P X nx lo st h bd Q 0 n kn
  | .iload_n n => Fld P X nx lo st h bd Q 0 n.val kn
  | .lload n => Fld P X nx lo st h bd Q 1 n kn
  | .lload_n n => Fld P X nx lo st h bd Q 1 n.val kn
  | .aload n => Fld P X nx lo st h bd Q 2 n kn
  | .aload_n n => Fld P X nx lo st h bd Q 2 n.val kn
  | .istore n => Fst P X nx lo st h bd Q 0 n kn
  | .istore_n n => Fst P X nx lo st h bd Q 0 n.val kn
  | .lstore n => Fst P X nx lo st h bd Q 1 n kn
  | .lstore_n n => Fst P X nx lo st h bd Q 1 n.val kn
  | .astore n => Fst P X nx lo st h bd Q 2 n kn
  | .astore_n n => Fst P X nx lo st h bd Q 2 n.val kn
  | .iinc n _ => match nth lo n with
    | some (.int x) => lgb lo n = true ∧ P X nx (kil kn (sto lo n (some (.int (x + c))))) st h bd Q
    | _ => False
  | .iconst _ => P X nx (kil kn lo) (.int c :: st) h bd Q
  | .bipush _ => P X nx (kil kn lo) (.int c :: st) h bd Q
  | .sipush _ => P X nx (kil kn lo) (.int c :: st) h bd Q
  | .ldc _ => P X nx (kil kn lo) (.int c :: st) h bd Q
  | .lconst _ => P X nx (kil kn lo) (.long (lN a) :: st) h bd Q
  | .ldc2_w _ => P X nx (kil kn lo) (.long (lN a) :: st) h bd Q
  | .iadd => match st with
    | .int y :: .int x :: st => P X nx (kil kn lo) (.int (x + y) :: st) h bd Q
    | _ => False
  | .isub => match st with
    | .int y :: .int x :: st => P X nx (kil kn lo) (.int (x - y) :: st) h bd Q
    | _ => False
  | .imul => match st with
    | .int y :: .int x :: st => P X nx (kil kn lo) (.int (x * y) :: st) h bd Q
    | _ => False
  | .iand => match st with
    | .int y :: .int x :: st => P X nx (kil kn lo) (.int (x &&& y) :: st) h bd Q
    | _ => False
  | .ior => match st with
    | .int y :: .int x :: st => P X nx (kil kn lo) (.int (x ||| y) :: st) h bd Q
    | _ => False
  | .idiv => match st with
    | .int y :: .int x :: st => ¬ y = 0 ∧ P X nx (kil kn lo) (.int (x / y) :: st) h bd Q
    | _ => False
  | .land => match st with
    | .long y :: .long x :: st => P X nx (kil kn lo) (.long (x &&& y) :: st) h bd Q
    | _ => False
  | .lor => match st with
    | .long y :: .long x :: st => P X nx (kil kn lo) (.long (x ||| y) :: st) h bd Q
    | _ => False
  | .lshl => match st with
    | .int y :: .long x :: st => P X nx (kil kn lo) (.long (x <<< (y.toInt64 &&& 63)) :: st) h bd Q
    | _ => False
  | .lshr => match st with
    | .int y :: .long x :: st => P X nx (kil kn lo) (.long (x >>> (y.toInt64 &&& 63)) :: st) h bd Q
    | _ => False
  | .lushr => match st with
    | .int y :: .long x :: st => P X nx (kil kn lo) (.long (x.toUInt64 >>> (y.toInt64.toUInt64 &&& Int64.toUInt64 63)).toInt64 :: st) h bd Q
    | _ => False
  | .i2l => match st with
    | .int x :: st => P X nx (kil kn lo) (.long x.toInt64 :: st) h bd Q
    | _ => False
  | .l2i => match st with
    | .long x :: st => P X nx (kil kn lo) (.int x.toInt32 :: st) h bd Q
    | _ => False
  | .i2b => match st with
    | .int x :: st => P X nx (kil kn lo) (.int x.toInt8.toInt32 :: st) h bd Q
    | _ => False
  | .lcmp => match st with
    | .long y :: .long x :: st => P X nx (kil kn lo) (.int (lg_cmp x y) :: st) h bd Q
    | _ => False
  | .dup => match st with
    | .int x :: st => P X nx (kil kn lo) (.int x :: .int x :: st) h bd Q
    | .ref x :: st => P X nx (kil kn lo) (.ref x :: .ref x :: st) h bd Q
    | _ => False
  | .dup2 => match st with
    | .int y :: .ref x :: st => P X nx (kil kn lo) (.int y :: .ref x :: .int y :: .ref x :: st) h bd Q
    | _ => False
  | .pop => match st with
    | .int _ :: st => P X nx (kil kn lo) st h bd Q
    | _ => False
  | .goto _ => P X a (kil ka lo) st h bd Q
  | .ifCond cd _ => match st with
    | .int x :: st => Fcmp cd x 0 (P X a (kil ka lo) st h bd Q) (P X nx (kil kn lo) st h bd Q)
    | _ => False
  | .if_icmp cd _ => match st with
    | .int y :: .int x :: st => Fcmp cd x y (P X a (kil ka lo) st h bd Q) (P X nx (kil kn lo) st h bd Q)
    | _ => False
  | .tableswitch _ l u offs => match st with
    | .int x :: st => (x.toInt < l ∨ u < x.toInt → P X a (kil ka lo) st h bd Q) ∧ ∀ (j : Nat) (off : Int), offs[j]? = some off → x.toInt = l + j → P X ((pc : Int) + off).toNat (kil ka lo) st h bd Q
    | _ => False
  | .lookupswitch d ps => match st with
    | .int x :: st => P X ((pc : Int) + Op.lookupswitch.offset ps.toList d x.toInt).toNat (kil ka lo) st h bd Q
    | _ => False
  | .getfield _ => match st with
    | .ref r :: st => isO h r a ∧ (match isRf a b with
      | false => P X nx (kil kn lo) (.int (gI h r b) :: st) h bd Q
      | true => 0 < gR h r b ∧ P X nx (kil kn lo) (.ref (gR h r b) :: st) h bd Q)
    | _ => False
  | .putfield _ => match isRf a b, st with
    | false, .int v :: .ref r :: st => isO h r a ∧ P X nx (kil kn lo) st (stI h r b v) bd Q
    | true, .ref v :: .ref r :: st => isO h r a ∧ 0 < v ∧ P X nx (kil kn lo) st (stR h r b v) bd Q
    | _, _ => False
  | .iaload => match st with
    | .int i :: .ref r :: st => isL h r 100 i ∧ P X nx (kil kn lo) (.int (gI h r i.toNatClampNeg) :: st) h bd Q
    | _ => False
  | .baload => match st with
    | .int i :: .ref r :: st => isA h r b i ∧ P X nx (kil kn lo) (.int (gI h r i.toNatClampNeg) :: st) h bd Q
    | _ => False
  | .laload => match st with
    | .int i :: .ref r :: st => isA h r 103 i ∧ P X nx (kil kn lo) (.long (gJ h r i.toNatClampNeg) :: st) h bd Q
    | _ => False
  | .aaload => match st with
    | .int i :: .ref r :: st => 0 < r ∧ r < gS h ∧ (gK h r = 104 ∨ gK h r = 105) ∧ vp_in i (gL h r) ∧ 0 < gR h r i.toNatClampNeg ∧ P X nx (kil kn lo) (.ref (gR h r i.toNatClampNeg) :: st) h bd Q
    | _ => False
  | .iastore => match st with
    | .int v :: .int i :: .ref r :: st => isA h r 100 i ∧ P X nx (kil kn lo) st (stI h r i.toNatClampNeg v) bd Q
    | _ => False
  | .bastore => match st with
    | .int v :: .int i :: .ref r :: st => isA h r b i ∧ P X nx (kil kn lo) st (stI h r i.toNatClampNeg (narB b v)) bd Q
    | _ => False
  | .lastore => match st with
    | .long v :: .int i :: .ref r :: st => isA h r 103 i ∧ P X nx (kil kn lo) st (stJ h r i.toNatClampNeg v) bd Q
    | _ => False
  | .aastore => match st with
    | .ref v :: .int i :: .ref r :: st => ((gK h r = 104 ∧ isO h v 6) ∨ (gK h r = 105 ∧ isO h v 7)) ∧ 0 < r ∧ r < gS h ∧ vp_in i (gL h r) ∧ P X nx (kil kn lo) st (stR h r i.toNatClampNeg v) bd Q
    | _ => False
  | .arraylength => match st with
    | .ref r :: st => (r < gS h ∧ 100 ≤ gK h r ∧ gK h r ≤ 105 ∧ (r = 0 → gK h r = 100)) ∧ P X nx (kil kn lo) (.int (nI (gL h r)) :: st) h bd Q
    | _ => False
  | .newarray _ => match st with
    | .int n :: st => ¬ n < 0 ∧ n.toNatClampNeg ≤ 60000000 ∧ 1 ≤ bd.1 ∧ n.toNatClampNeg ≤ bd.2 ∧ P X nx (kil kn lo) (.ref (gS h) :: st) (nwC h b n.toNatClampNeg) (bd.1 - 1, bd.2 - n.toNatClampNeg) Q
    | _ => False
  | .anewarray _ => match st with
    | .int n :: st => ¬ n < 0 ∧ n.toNatClampNeg ≤ 60000000 ∧ 1 ≤ bd.1 ∧ n.toNatClampNeg ≤ bd.2 ∧ P X nx (kil kn lo) (.ref (gS h) :: st) (nwC h b n.toNatClampNeg) (bd.1 - 1, bd.2 - n.toNatClampNeg) Q
    | _ => False
  | .new _ => 1 ≤ bd.1 ∧ nF a ≤ bd.2 ∧ P X nx (kil kn lo) (.ref (gS h) :: st) (nwC h a 0) (bd.1 - 1, bd.2 - nF a) Q
  | .invokevirtual _ => match popN b [] st with
    | some (as, .ref r :: rest) => isO h r (ownC a) ∧ Fcall P X nx a (.ref r :: as) rest (kil kn lo) h bd Q
    | _ => False
  | .invokespecial _ => match Nat.beq a 1000, popN b [] st with
    | true, some (_, .ref _ :: rest) => catS rest ≤ 8 ∧ P X nx (kil kn lo) rest h bd Q
    | false, some (as, .ref r :: rest) => Fcall P X nx a (.ref r :: as) rest (kil kn lo) h bd Q
    | _, _ => False
  | .invokestatic _ => match spc a, st with
    | 1, .int n :: .int dp :: .ref dst :: .int sp :: .ref src :: rest => (0 < src ∧ src < gS h ∧ gK h src = 101) ∧ (0 < dst ∧ dst < gS h ∧ gK h dst = 101) ∧ (¬ sp < 0 ∧ ¬ dp < 0 ∧ ¬ n < 0) ∧ (sp.toNatClampNeg + n.toNatClampNeg ≤ gL h src ∧ dp.toNatClampNeg + n.toNatClampNeg ≤ gL h dst) ∧ (∀ i, i < n.toNatClampNeg → fits .byte (.int (gI h src (sp.toNatClampNeg + i))) = true) ∧ catS rest ≤ 8 ∧
        P X nx (kil kn lo) rest (stA h dst (va_cpy (gI h src) (gI h dst) sp.toNatClampNeg dp.toNatClampNeg n.toNatClampNeg)) bd Q
    | 2, .int y :: .int x :: rest => catS rest ≤ 8 ∧ P X nx (kil kn lo) (.int (if x < y then y else x) :: rest) h bd Q
    | 3, .int y :: .int x :: rest => catS rest ≤ 8 ∧ P X nx (kil kn lo) (.int (if y < x then y else x) :: rest) h bd Q
    | 0, st => (match popN b [] st with
      | some (as, rest) => Fcall P X nx a as rest (kil kn lo) h bd Q
      | none => False)
    | _, _ => False
  | .ireturn => match st with
    | [.int v] => (match rk X with
      | 1 => Q (some (.int v)) h
      | 3 => (v = 0 ∨ v = 1) ∧ Q (some (.int v)) h
      | _ => False)
    | _ => False
  | .lreturn => match st with
    | [.long v] => rk X = 2 ∧ Q (some (.long v)) h
    | _ => False
  | .return_ => match st with
    | [] => rk X = 0 ∧ Q none h
    | _ => False
  | _ => False
def F (P : PT) (X pc : Nat) (lo : LO) (st : List Value) (h : HP) (bd : Nat × Nat) (Q : QT) : Prop :=
  match (tab X).lookup pc with
  | none => False
  | some te => Fi P X pc te.1 te.2.1 te.2.2.1 te.2.2.2.1 te.2.2.2.2.1 te.2.2.2.2.2.1 te.2.2.2.2.2.2.2 lo st h bd Q
def Wp (X pc : Nat) (lo : LO) (st : List Value) (h : HP) (bd : Nat × Nat) (Q : QT) : Prop :=
  ∀ P : PT, (∀ X pc lo st h bd Q, F P X pc lo st h bd Q → P X pc lo st h bd Q) → P X pc lo st h bd Q
end
section
theorem aft_mono {k : Nat} {K K' Q' : QT} (h : ∀ v h', K v h' → K' v h') (H : aft k K Q') : aft k K' Q' := by
  unfold aft at *
  split
  · exact fun h' q => h _ _ (H h' q)
  · exact fun v h' q => h _ _ (H v h' q)
  · rename_i n0 n2
    split at H
    · exact absurd rfl n0
    · exact absurd rfl n2
    · exact fun v h' q => h _ _ (H v h' q)
theorem Fcmp_mono {cd : ClassFile.Cond} {x y : Int32} {A B A' B' : Prop} (h1 : A → A') (h2 : B → B') (H : Fcmp cd x y A B) : Fcmp cd x y A' B' := by
  cases cd <;> exact ⟨fun q => h1 (H.1 q), fun q => h2 (H.2 q)⟩
theorem Fcall_mono {P P' : PT} (h : ∀ X pc lo st h bd Q, P X pc lo st h bd Q → P' X pc lo st h bd Q) {X nx a : Nat} {as rest : List Value} {lo : LO} {hp : HP} {bd : Nat × Nat} {Q : QT} (H : Fcall P X nx a as rest lo hp bd Q) : Fcall P' X nx a as rest lo hp bd Q := by
  obtain ⟨h1, h2, h3, h0, Q', h4, h5⟩ := H
  exact ⟨h1, h2, h3, h0, Q', h _ _ _ _ _ _ _ h4, aft_mono (fun _ _ q => h _ _ _ _ _ _ _ q) h5⟩
theorem Fld_mono {P P' : PT} (hP : ∀ X pc lo st h bd Q, P X pc lo st h bd Q → P' X pc lo st h bd Q) {X nx : Nat} {lo : LO} {st : List Value} {h : HP} {bd : Nat × Nat} {Q : QT} {t n : Nat} {kn : List Nat} (H : Fld P X nx lo st h bd Q t n kn) : Fld P' X nx lo st h bd Q t n kn := by
  unfold Fld at *
  generalize nth lo n = o at *
  split at H
  · exact hP _ _ _ _ _ _ _ H
  · exact hP _ _ _ _ _ _ _ H
  · exact hP _ _ _ _ _ _ _ H
  · exact H.elim
theorem Fst_mono {P P' : PT} (hP : ∀ X pc lo st h bd Q, P X pc lo st h bd Q → P' X pc lo st h bd Q) {X nx : Nat} {lo : LO} {st : List Value} {h : HP} {bd : Nat × Nat} {Q : QT} {t n : Nat} {kn : List Nat} (H : Fst P X nx lo st h bd Q t n kn) : Fst P' X nx lo st h bd Q t n kn := by
  unfold Fst at *
  split at H
  · exact ⟨H.1, hP _ _ _ _ _ _ _ H.2⟩
  · exact ⟨H.1, hP _ _ _ _ _ _ _ H.2⟩
  · exact ⟨H.1, hP _ _ _ _ _ _ _ H.2⟩
  · exact H.elim
theorem Fi_mono {P P' : PT} (hP : ∀ X pc lo st h bd Q, P X pc lo st h bd Q → P' X pc lo st h bd Q) {X pc : Nat} {i : Instr} {nx : Nat} {kn : List Nat} {a : Nat} {ka : List Nat} {b : Nat} {c : Int32} {lo : LO} {st : List Value} {h : HP} {bd : Nat × Nat} {Q : QT} (H : Fi P X pc i nx kn a ka b c lo st h bd Q) : Fi P' X pc i nx kn a ka b c lo st h bd Q := by
  unfold Fi at *
  generalize isRf a b = rf at *
  generalize Nat.beq a 1000 = z1 at *
  generalize spc a = z2 at *
  split <;> simp only at H ⊢
  all_goals first
      | exact hP _ _ _ _ _ _ _ H
      | exact Fld_mono hP H
      | exact Fst_mono hP H
      | exact H.elim
      | skip
  case h_13 =>
    generalize nth lo _ = o at *
    split at H
    · exact ⟨H.1, hP _ _ _ _ _ _ _ H.2⟩
    · exact H.elim
  all_goals first
    | (split at H <;> first
      | exact H.elim
      | exact hP _ _ _ _ _ _ _ H
      | exact ⟨H.1, hP _ _ _ _ _ _ _ H.2⟩
      | exact Fcmp_mono (hP _ _ _ _ _ _ _) (hP _ _ _ _ _ _ _) H
      | exact ⟨fun q => hP _ _ _ _ _ _ _ (H.1 q), fun j off q r => hP _ _ _ _ _ _ _ (H.2 j off q r)⟩
      | exact ⟨H.1, H.2.1, hP _ _ _ _ _ _ _ H.2.2⟩
      | exact ⟨H.1, H.2.1, H.2.2.1, H.2.2.2.1, hP _ _ _ _ _ _ _ H.2.2.2.2⟩
      | exact ⟨H.1, H.2.1, H.2.2.1, H.2.2.2.1, H.2.2.2.2.1, hP _ _ _ _ _ _ _ H.2.2.2.2.2⟩
      | exact ⟨H.1, H.2.1, H.2.2.1, H.2.2.2.1, H.2.2.2.2.1, H.2.2.2.2.2.1, hP _ _ _ _ _ _ _ H.2.2.2.2.2.2⟩
      | (refine ⟨H.1, ?_⟩; have H := H.2; split at H; exact hP _ _ _ _ _ _ _ H; exact ⟨H.1, hP _ _ _ _ _ _ _ H.2⟩)
      | done)
    | exact ⟨H.1, H.2.1, hP _ _ _ _ _ _ _ H.2.2⟩
    | exact H
    | skip
  · generalize popN _ _ _ = o at *
    split at H
    · exact ⟨H.1, Fcall_mono hP H.2⟩
    · exact H.elim
  · generalize popN _ _ _ = o at *
    split at H
    · exact ⟨H.1, hP _ _ _ _ _ _ _ H.2⟩
    · exact Fcall_mono hP H
    · exact H.elim
  · generalize popN _ _ _ = o at *
    split at H
    · exact ⟨H.1, H.2.1, H.2.2.1, H.2.2.2.1, H.2.2.2.2.1, H.2.2.2.2.2.1, hP _ _ _ _ _ _ _ H.2.2.2.2.2.2⟩
    · exact ⟨H.1, hP _ _ _ _ _ _ _ H.2⟩
    · exact ⟨H.1, hP _ _ _ _ _ _ _ H.2⟩
    · split at H
      · exact Fcall_mono hP H
      · exact H.elim
    · exact H.elim
theorem F_mono {P P' : PT} (hP : ∀ X pc lo st h bd Q, P X pc lo st h bd Q → P' X pc lo st h bd Q) {X pc : Nat} {lo : LO} {st : List Value} {h : HP} {bd : Nat × Nat} {Q : QT} (H : F P X pc lo st h bd Q) : F P' X pc lo st h bd Q := by
  unfold F at *
  split
  · rename_i q; rw [q] at H; exact H
  · rename_i q; rw [q] at H; exact Fi_mono hP H
theorem Wp.step {X pc : Nat} {lo : LO} {st : List Value} {h : HP} {bd : Nat × Nat} {Q : QT} (H : F Wp X pc lo st h bd Q) : Wp X pc lo st h bd Q := fun P hP => hP _ _ _ _ _ _ _ (F_mono (fun _ _ _ _ _ _ _ q => q P hP) H)
theorem Wp.inv {X pc : Nat} {lo : LO} {st : List Value} {h : HP} {bd : Nat × Nat} {Q : QT} (H : Wp X pc lo st h bd Q) : F Wp X pc lo st h bd Q := H (F Wp) (fun _ _ _ _ _ _ _ q => F_mono (fun _ _ _ _ _ _ _ r => Wp.step r) q)
end
section
/-! the picture and the machine's heap -/
def ad (base b a : Nat) : Nat := if a = 0 then b else base + (a - 1)
theorem ad_pos {base b a : Nat} (h : 0 < a) : ad base b a = base + (a - 1) := by simp [ad, Nat.ne_of_gt h]
theorem ad_0 {base b : Nat} : ad base b 0 = b := by simp [ad]
def rq (base r : Nat) : Option Nat := if r = 0 then none else some (base + (r - 1))
theorem rq_pos {base r : Nat} (h : 0 < r) : rq base r = some (base + (r - 1)) := by simp [rq, Nat.ne_of_gt h]
def rv (base b : Nat) (v : Value) : Value := match v with
  | .ref a => .ref (ad base b a)
  | v => v
theorem rv_cat (base b : Nat) (v : Value) : (rv base b v).category = v.category := by cases v <;> rfl
def fV (base : Nat) (h : HP) (a ci k : Nat) : Value := if isRf ci k = true then va_rf (rq base (gR h a k)) else .int (gI h a k)
def aV (base : Nat) (h : HP) (a kd j : Nat) : Value := if kd < 103 then .int (gI h a j) else if kd = 103 then .long (gJ h a j) else va_rf (rq base (gR h a j))
/-- a cell of the picture is there -/
def CeR (D : va_G) (dA : Nat → ClassId) (base : Nat) (h : HP) (a : Nat) (H : Heap) : Prop :=
  (gK h a < 11 ∧ t_OB (base + (a - 1)) (D.1 (gK h a)) (nF (gK h a)) (D.2 (gK h a)) H (fV base h a (gK h a))) ∨
  (100 ≤ gK h a ∧ gK h a ≤ 105 ∧ H[base + (a - 1)]? = some (arrV (dA (gK h a)) (gL h a) (aV base h a (gK h a))))
def Rel (D : va_G) (dA : Nat → ClassId) (base b : Nat) (h : HP) (s : State) (H : Heap) : Prop :=
  (∀ a, 0 < a → a < gS h → CeR D dA base h a H) ∧ H.size + 1 = base + gS h ∧ 1 ≤ gS h ∧ b < base ∧ (gK h 0 = 100 → va_X b (gL h 0) (gI h 0) s H)
theorem Rel.moved {D : va_G} {dA : Nat → ClassId} {base b : Nat} {h : HP} {s u : State} {H : Heap} (hvm : s.vm.Alike u.vm) (R : Rel D dA base b h s H) : Rel D dA base b h u H := ⟨R.1, R.2.1, R.2.2.1, R.2.2.2.1, fun q => (R.2.2.2.2 q).moved hvm⟩
theorem CeR.kept {D : va_G} {dA : Nat → ClassId} {base : Nat} {h h' : HP} {a : Nat} {H H' : Heap} (hK : gK h' a = gK h a) (hL : gL h' a = gL h a) (hI : gI h' a = gI h a) (hJ : gJ h' a = gJ h a) (hR : gR h' a = gR h a) (hH : H'[base + (a - 1)]? = H[base + (a - 1)]?) (c : CeR D dA base h a H) : CeR D dA base h' a H' := by
  unfold CeR at *
  have e1 : fV base h' a (gK h a) = fV base h a (gK h a) := by funext k; simp only [fV, hI, hR]
  have e2 : aV base h' a (gK h a) = aV base h a (gK h a) := by funext k; simp only [aV, hI, hR, hJ]
  rw [hK, hL, e1, e2]
  rcases c with ⟨c1, c2⟩ | ⟨c1, c2, c3⟩
  · exact Or.inl ⟨c1, c2.kept hH⟩
  · exact Or.inr ⟨c1, c2, hH.trans c3⟩
/-- one cell has changed -/
theorem Rel.upd {D : va_G} {dA : Nat → ClassId} {base b : Nat} {h h' : HP} {s : State} {H H' : Heap} {a : Nat} (R : Rel D dA base b h s H) (h0 : 0 < a) (hS : gS h' = gS h) (hK : gK h' = gK h) (hL : gL h' = gL h) (hI : ∀ q, q ≠ a → gI h' q = gI h q) (hJ : ∀ q, q ≠ a → gJ h' q = gJ h q) (hR : ∀ q, q ≠ a → gR h' q = gR h q)
    (hz : H'.size = H.size) (ho : ∀ q, q ≠ base + (a - 1) → H'[q]? = H[q]?) (hc : CeR D dA base h' a H') : Rel D dA base b h' s H' := by
  obtain ⟨r1, r2, r3, r4, r5⟩ := R
  refine ⟨fun x x0 xS => ?_, by rw [hz, hS]; exact r2, by rw [hS]; exact r3, r4, fun q => ?_⟩
  · by_cases e : x = a
    · rw [e]; exact hc
    · rw [hS] at xS
      exact (r1 x x0 xS).kept (by rw [hK]) (by rw [hL]) (hI x e) (hJ x e) (hR x e) (ho _ (by omega))
  · rw [hK] at q
    rw [hL, hI 0 (by omega)]
    exact (r5 q).kept (ho b (by omega))
/-- a cell has come -/
theorem Rel.new {D : va_G} {dA : Nat → ClassId} {base b : Nat} {h : HP} {s : State} {H H' : Heap} {kd n : Nat} (R : Rel D dA base b h s H) (hz : H'.size = H.size + 1) (ho : ∀ q, q < H.size → H'[q]? = H[q]?) (hc : CeR D dA base (nwC h kd n) (gS h) H') : Rel D dA base b (nwC h kd n) s H' := by
  obtain ⟨r1, r2, r3, r4, r5⟩ := R
  have ne : ∀ x, x < gS h → x ≠ gS h := fun x q => Nat.ne_of_lt q
  refine ⟨fun x x0 xS => ?_, by show H'.size + 1 = base + (gS h + 1); omega, by show 1 ≤ gS h + 1; omega, r4, fun q => ?_⟩
  · by_cases e : x = gS h
    · rw [e]; exact hc
    · have xS' : x < gS h := by
        have : x < gS h + 1 := xS
        omega
      exact (r1 x x0 xS').kept (va_up_ne _ _ e) (va_up_ne _ _ e) (va_up_ne _ _ e) (va_up_ne _ _ e) (va_up_ne _ _ e) (ho _ (by omega))
  · have z : (0 : Nat) ≠ gS h := by omega
    have e1 : gK (nwC h kd n) 0 = gK h 0 := va_up_ne _ _ z
    have e2 : gL (nwC h kd n) 0 = gL h 0 := va_up_ne _ _ z
    have e3 : gI (nwC h kd n) 0 = gI h 0 := va_up_ne _ _ z
    rw [e1] at q
    rw [e2, e3]
    exact (r5 q).kept (ho b (by omega))
/-- locals -/
def LV (base b : Nat) (ls : Array Slot) (nL : Nat) (lo : LO) : Prop := ls.size = nL ∧ lv_wf ls ∧ ∀ i v, nth lo i = some v → ls[i]? = some (.val (rv base b v))
def lvO (base b : Nat) (lo : LO) : List (Nat × Value) := (List.range lo.length).filterMap (fun i => (nth lo i).map (fun v => (i, rv base b v)))
theorem nth_lt : ∀ {lo : LO} {i : Nat} {v : Value}, nth lo i = some v → i < lo.length
  | [], _, _, h => by simp [nth] at h
  | _ :: _, 0, _, _ => by simp
  | _ :: l, i + 1, _, h => by
    have := nth_lt (lo := l) h
    simp; omega
theorem lvO_mem {base b : Nat} {lo : LO} {i : Nat} {v : Value} (h : nth lo i = some v) : (i, rv base b v) ∈ lvO base b lo :=
  List.mem_filterMap.mpr ⟨i, List.mem_range.mpr (nth_lt h), by rw [h]; rfl⟩
theorem LV_has {base b : Nat} {ls : Array Slot} {nL : Nat} {lo : LO} (h : LV base b ls nL lo) : lv_has ls nL (lvO base b lo) := by
  refine ⟨h.1, h.2.1, fun q hq => ?_⟩
  obtain ⟨i, -, hi⟩ := List.mem_filterMap.mp hq
  cases e : nth lo i with
  | none => rw [e] at hi; cases hi
  | some v =>
    rw [e] at hi
    cases hi
    exact h.2.2 i v e
theorem nth_sto_ne : ∀ {lo : LO} {i j : Nat} {v : Option Value}, j ≠ i → nth (sto lo i v) j = nth lo j
  | [], _, _, _, _ => rfl
  | _ :: _, 0, 0, _, h => absurd rfl h
  | _ :: _, 0, _ + 1, _, _ => rfl
  | _ :: _, _ + 1, 0, _, _ => rfl
  | _ :: l, i + 1, j + 1, _, h => nth_sto_ne (lo := l) (fun q => h (by rw [q]))
theorem nth_sto_self : ∀ {lo : LO} {i : Nat} {v : Option Value} {w : Value}, nth (sto lo i v) i = some w → v = some w
  | [], _, _, _, h => by simp [sto, nth] at h
  | _ :: _, 0, _, _, h => h
  | _ :: l, i + 1, _, _, h => nth_sto_self (lo := l) h
theorem LV_kil {base b : Nat} {ls : Array Slot} {nL : Nat} : ∀ (ks : List Nat) {lo : LO}, LV base b ls nL lo → LV base b ls nL (kil ks lo)
  | [], _, h => h
  | k :: ks, lo, h => by
    show LV base b ls nL (kil ks (sto lo k none))
    refine LV_kil ks ⟨h.1, h.2.1, fun i v q => ?_⟩
    by_cases e : i = k
    · subst e
      exact absurd (nth_sto_self q) (by simp)
    · rw [nth_sto_ne e] at q
      exact h.2.2 i v q
theorem lgb_ne {lo : LO} {i j : Nat} {v : Value} (h : lgb lo i = true) (e : j + 1 = i) (hv : nth lo j = some v) : ¬ v.category = 2 := by
  subst e
  simp only [lgb, hv] at h
  intro q
  rw [q] at h
  cases h
theorem LV_store1 {base b : Nat} {ls' : Array Slot} {nL i : Nat} {lo : LO} {v : Value} (hl : lgb lo i = true) (h : lv_has ls' nL ((i, rv base b v) :: (lvO base b lo).filter (fun q => !(q.1 == i) && !(q.1 + 1 == i && q.2.category == 2)))) : LV base b ls' nL (sto lo i (some v)) := by
  refine ⟨h.1, h.2.1, fun j w q => ?_⟩
  by_cases e : j = i
  · subst e
    cases nth_sto_self q
    exact h.2.2 (j, rv base b v) List.mem_cons_self
  · rw [nth_sto_ne e] at q
    refine h.2.2 (j, rv base b w) (List.mem_cons_of_mem _ (List.mem_filter.mpr ⟨lvO_mem q, ?_⟩))
    have e1 : (j == i) = false := by simpa using e
    simp only [e1, Bool.not_false, Bool.true_and, Bool.not_eq_true']
    by_cases e2 : j + 1 = i
    · have := lgb_ne hl e2 q
      rw [rv_cat]
      simp [e2, this]
    · simp [e2]
theorem LV_store2 {base b : Nat} {ls' : Array Slot} {nL i : Nat} {lo : LO} {v : Value} (hl : lgb lo i = true) (h : lv_has ls' nL ((i, rv base b v) :: (lvO base b lo).filter (fun q => !(q.1 == i) && (!(q.1 == i + 1) && !(q.1 + 1 == i && q.2.category == 2))))) : LV base b ls' nL (sto (sto lo i (some v)) (i + 1) none) := by
  refine ⟨h.1, h.2.1, fun j w q => ?_⟩
  by_cases e0 : j = i + 1
  · subst e0
    exact absurd (nth_sto_self q) (by simp)
  rw [nth_sto_ne e0] at q
  by_cases e : j = i
  · subst e
    cases nth_sto_self q
    exact h.2.2 (j, rv base b v) List.mem_cons_self
  · rw [nth_sto_ne e] at q
    refine h.2.2 (j, rv base b w) (List.mem_cons_of_mem _ (List.mem_filter.mpr ⟨lvO_mem q, ?_⟩))
    have e1 : (j == i) = false := by simpa using e
    have e3 : (j == i + 1) = false := by simpa using e0
    simp only [e1, e3, Bool.not_false, Bool.true_and, Bool.not_eq_true']
    by_cases e2 : j + 1 = i
    · have := lgb_ne hl e2 q
      rw [rv_cat]
      simp [e2, this]
    · simp [e2]
end
section
/-! soundness: each step of the picture is the machine's -/
def rmM (X : Nat) : Room := { frames := dep X, cells := mcM X, slots := msM X, locals := 38 * dep X }
def tyL (dA : Nat → ClassId) : List (ClassId × FieldType) := [(dA 100, .int), (dA 101, .byte), (dA 102, .boolean), (dA 103, .long), (dA 104, .object "KeptSentences$Row"), (dA 105, .object "KeptSentences$Text")]
def nst1 : Cond := .methodLinkNest "KeptSentences" 34 ⟨"KeptSentences$Ladder", "<init>", "()V"⟩ "KeptSentences"
def nst2 : Cond := .methodLinkNest "KeptSentences" 50 ⟨"KeptSentences$Patcher", "<init>", "()V"⟩ "KeptSentences"
def nst3 : Cond := .methodLinkNest "KeptSentences" 57 ⟨"KeptSentences$Nesting", "<init>", "()V"⟩ "KeptSentences"
def KK (D : va_G) (dA : Nat → ClassId) (s : State) : Prop := va_K D classes (tyL dA) s ∧ va_AO "KeptSentences$Row" s ∧ va_AO "KeptSentences$Text" s ∧ va_Nw nst1 s ∧ va_Nw nst2 s ∧ va_Nw nst3 s
theorem KK_same {D : va_G} {dA : Nat → ClassId} {s u : State} (hvm : s.vm = u.vm) (h : KK D dA s) : KK D dA u := by
  obtain ⟨h1, h2, h3, h4, h5, h6⟩ := h
  have a : s.vm.Alike u.vm := by rw [← hvm]; exact Vm.Alike.refl s.vm
  exact ⟨va_K.moved a h1, h2.moved a, h3.moved a, h4.same rfl hvm, h5.same rfl hvm, h6.same rfl hvm⟩
theorem KK_warm {D : va_G} {dA : Nat → ClassId} {s u : State} (hW : s.WarmedH u.vm) (h : KK D dA s) : KK D dA u := by
  obtain ⟨h1, h2, h3, h4, h5, h6⟩ := h
  exact ⟨va_K.moved hW.alike h1, h2.moved hW.alike, h3.moved hW.alike, va_Nw.warmM hW h4, va_Nw.warmM hW h5, va_Nw.warmM hW h6⟩
def Ctx (p : Program) (X : Nat) (s : State) (m : MethodId) (args : Array Value) (meth : Method) (c : Code) (D : va_G) (dA : Nat → ClassId) (base : Nat) : Prop :=
  p.tables.exec = Jvm.exec ∧ c.code = cod X ∧ meth.sig.returnType = rtyK (rk X) ∧ c.maxLocals = mxl X ∧ s.vm.findClass (cN (ownC X)) = some m.cls ∧ (∀ w ∈ gtbl, w.before args s = true) ∧ meth.locks = false ∧ ((yM X).name = "<init>" → meth.name = "<init>") ∧ KK D dA s ∧ base ≤ s.heap.size
def RetOK (X : Nat) (v : Option Value) (pc : Nat) : Prop :=
  (rk X = 0 ∧ v = none ∧ decode (cod X) pc = .ok (.return_, 1)) ∨ (rk X = 1 ∧ (∃ x : Int32, v = some (.int x)) ∧ decode (cod X) pc = .ok (.ireturn, 1)) ∨ (rk X = 3 ∧ (∃ x : Int32, v = some (.int x) ∧ (x = 0 ∨ x = 1)) ∧ decode (cod X) pc = .ok (.ireturn, 1)) ∨ (rk X = 2 ∧ (∃ x : Int64, v = some (.long x)) ∧ decode (cod X) pc = .ok (.lreturn, 1))
/-- the machine goes as the picture does -/
def PS (l : Launch) (D : va_G) (dA : Nat → ClassId) (base b : Nat) : PT := fun X pc lo st h bd Q =>
  ∀ (p : Program) (e : Env) (s : State) (m : MethodId) (args : Array Value) (below : List Frame) (meth : Method) (c : Code) (H : Heap) (locs : List Loc) (cells slots : Nat) (QQ : State → Prop) (ls : Array Slot),
    Ctx p X s m args meth c D dA base → Rel D dA base b h s H → va_S (fun q => base ≤ q) s.heap H locs → LV base b ls (mxl X) lo → cells + bd.1 ≤ mcM X → slots + bd.2 ≤ msM X →
    (∀ (v : Option Value) (h' : HP) (H' : Heap) (locs' : List Loc) (cells' slots' pc' : Nat) (ls' : Array Slot), Rel D dA base b h' s H' → va_S (fun q => base ≤ q) s.heap H' locs' → cells' ≤ mcM X → slots' ≤ msM X → Q v h' → RetOK X v pc' → W p l e (rmM X) s m args below meth c H' locs' cells' slots' QQ (F0 m pc' ls' ((v.map (rv base b)).toList))) →
    W p l e (rmM X) s m args below meth c H locs cells slots QQ (F0 m pc ls (st.map (rv base b)))
section PSS
variable {l : Launch} {D : va_G} {dA : Nat → ClassId} {base b : Nat} {X pc : Nat} {lo : LO} {st : List Value} {h : HP} {bd : Nat × Nat} {Q : QT} (kn : List Nat)
theorem ps_iconst {n : Int} {v : Int32} (hv : Int32.ofInt n = v) (hd : decode (cod X) pc = .ok (.iconst n, 1)) (K : PS l D dA base b X (pc + 1) (kil kn lo) (.int v :: st) h bd Q) : PS l D dA base b X pc lo (st) h bd Q := by
  intro p e s m args below meth c H locs cells slots QQ ls C R S V hc hs E
  exact lv_iconst C.1 C.2.1 hd hv (K p e s m args below meth c H locs cells slots QQ ls C R S (LV_kil kn V) hc hs E)
theorem ps_bipush {n : Int} {v : Int32} (hv : (Int8.ofInt n).toInt32 = v) (hd : decode (cod X) pc = .ok (.bipush n, 2)) (K : PS l D dA base b X (pc + 2) (kil kn lo) (.int v :: st) h bd Q) : PS l D dA base b X pc lo (st) h bd Q := by
  intro p e s m args below meth c H locs cells slots QQ ls C R S V hc hs E
  exact lv_bipush C.1 C.2.1 hd hv (K p e s m args below meth c H locs cells slots QQ ls C R S (LV_kil kn V) hc hs E)
theorem ps_sipush {n : Int} {v : Int32} (hv : (Int16.ofInt n).toInt32 = v) (hd : decode (cod X) pc = .ok (.sipush n, 3)) (K : PS l D dA base b X (pc + 3) (kil kn lo) (.int v :: st) h bd Q) : PS l D dA base b X pc lo (st) h bd Q := by
  intro p e s m args below meth c H locs cells slots QQ ls C R S V hc hs E
  exact lv_sipush C.1 C.2.1 hd hv (K p e s m args below meth c H locs cells slots QQ ls C R S (LV_kil kn V) hc hs E)
theorem ps_lconst {n : Fin 2} {a : Nat} (hv : n.val = a) (hd : decode (cod X) pc = .ok (.lconst n, 1)) (K : PS l D dA base b X (pc + 1) (kil kn lo) (.long (lN a) :: st) h bd Q) : PS l D dA base b X pc lo (st) h bd Q := by
  intro p e s m args below meth c H locs cells slots QQ ls C R S V hc hs E
  exact lv_lconst C.1 C.2.1 hd (by rw [hv]; rfl) (K p e s m args below meth c H locs cells slots QQ ls C R S (LV_kil kn V) hc hs E)
theorem ps_ldc {idx a : Nat} {v : Int32} (hl : lkAtP (6, ownC X, idx, a, 0)) (hv : Int32.ofNat a = v) (hd : decode (cod X) pc = .ok (.ldc idx, 2)) (K : PS l D dA base b X (pc + 2) (kil kn lo) (.int v :: st) h bd Q) : PS l D dA base b X pc lo (st) h bd Q := by
  intro p e s m args below meth c H locs cells slots QQ ls C R S V hc hs E
  exact lv_ldc C.1 C.2.1 C.2.2.2.2.1 (C.2.2.2.2.2.1 _ (hl.2 (.constant (cN (ownC X)) idx v) (by rw [← hv]; exact List.mem_singleton.mpr rfl))) hd (K p e s m args below meth c H locs cells slots QQ ls C R S (LV_kil kn V) hc hs E)
theorem ps_ldc2 {idx a : Nat} (hl : lkAtP (7, ownC X, idx, a, 0)) (hd : decode (cod X) pc = .ok (.ldc2_w idx, 3)) (K : PS l D dA base b X (pc + 3) (kil kn lo) (.long (lN a) :: st) h bd Q) : PS l D dA base b X pc lo (st) h bd Q := by
  intro p e s m args below meth c H locs cells slots QQ ls C R S V hc hs E
  exact lv_ldc2 C.1 C.2.1 C.2.2.2.2.1 (C.2.2.2.2.2.1 _ (hl.2 _ (List.mem_singleton.mpr rfl))) hd (K p e s m args below meth c H locs cells slots QQ ls C R S (LV_kil kn V) hc hs E)
theorem ps_iload {i : Nat} {x : Int32} (hn : nth lo i = some (.int x)) (hd : decode (cod X) pc = .ok (.iload i, 2)) (K : PS l D dA base b X (pc + 2) (kil kn lo) (.int x :: st) h bd Q) : PS l D dA base b X pc lo (st) h bd Q := by
  intro p e s m args below meth c H locs cells slots QQ ls C R S V hc hs E
  exact lv_iload C.1 C.2.1 hd (V.2.2 i _ hn) (K p e s m args below meth c H locs cells slots QQ ls C R S (LV_kil kn V) hc hs E)
theorem ps_iload_n {i : Fin 4} {x : Int32} (hn : nth lo i.val = some (.int x)) (hd : decode (cod X) pc = .ok (.iload_n i, 1)) (K : PS l D dA base b X (pc + 1) (kil kn lo) (.int x :: st) h bd Q) : PS l D dA base b X pc lo (st) h bd Q := by
  intro p e s m args below meth c H locs cells slots QQ ls C R S V hc hs E
  exact lv_iload_n C.1 C.2.1 hd rfl (V.2.2 i.val _ hn) (K p e s m args below meth c H locs cells slots QQ ls C R S (LV_kil kn V) hc hs E)
theorem ps_lload {i : Nat} {x : Int64} (hn : nth lo i = some (.long x)) (hd : decode (cod X) pc = .ok (.lload i, 2)) (K : PS l D dA base b X (pc + 2) (kil kn lo) (.long x :: st) h bd Q) : PS l D dA base b X pc lo (st) h bd Q := by
  intro p e s m args below meth c H locs cells slots QQ ls C R S V hc hs E
  exact lv_lload C.1 C.2.1 hd (V.2.2 i _ hn) (K p e s m args below meth c H locs cells slots QQ ls C R S (LV_kil kn V) hc hs E)
theorem ps_lload_n {i : Fin 4} {x : Int64} (hn : nth lo i.val = some (.long x)) (hd : decode (cod X) pc = .ok (.lload_n i, 1)) (K : PS l D dA base b X (pc + 1) (kil kn lo) (.long x :: st) h bd Q) : PS l D dA base b X pc lo (st) h bd Q := by
  intro p e s m args below meth c H locs cells slots QQ ls C R S V hc hs E
  exact lv_lload_n C.1 C.2.1 hd rfl (V.2.2 i.val _ hn) (K p e s m args below meth c H locs cells slots QQ ls C R S (LV_kil kn V) hc hs E)
theorem ps_aload {i : Nat} {x : Nat} (hn : nth lo i = some (.ref x)) (hd : decode (cod X) pc = .ok (.aload i, 2)) (K : PS l D dA base b X (pc + 2) (kil kn lo) (.ref x :: st) h bd Q) : PS l D dA base b X pc lo (st) h bd Q := by
  intro p e s m args below meth c H locs cells slots QQ ls C R S V hc hs E
  exact lv_aload C.1 C.2.1 hd (V.2.2 i _ hn) (K p e s m args below meth c H locs cells slots QQ ls C R S (LV_kil kn V) hc hs E)
theorem ps_aload_n {i : Fin 4} {x : Nat} (hn : nth lo i.val = some (.ref x)) (hd : decode (cod X) pc = .ok (.aload_n i, 1)) (K : PS l D dA base b X (pc + 1) (kil kn lo) (.ref x :: st) h bd Q) : PS l D dA base b X pc lo (st) h bd Q := by
  intro p e s m args below meth c H locs cells slots QQ ls C R S V hc hs E
  exact lv_aload_n C.1 C.2.1 hd rfl (V.2.2 i.val _ hn) (K p e s m args below meth c H locs cells slots QQ ls C R S (LV_kil kn V) hc hs E)
theorem ps_iadd {x y : Int32} (hd : decode (cod X) pc = .ok (.iadd, 1)) (K : PS l D dA base b X (pc + 1) (kil kn lo) (.int (x + y) :: st) h bd Q) : PS l D dA base b X pc lo (.int y :: .int x :: st) h bd Q := by
  intro p e s m args below meth c H locs cells slots QQ ls C R S V hc hs E
  exact lv_iadd C.1 C.2.1 hd (K p e s m args below meth c H locs cells slots QQ ls C R S (LV_kil kn V) hc hs E)
theorem ps_isub {x y : Int32} (hd : decode (cod X) pc = .ok (.isub, 1)) (K : PS l D dA base b X (pc + 1) (kil kn lo) (.int (x - y) :: st) h bd Q) : PS l D dA base b X pc lo (.int y :: .int x :: st) h bd Q := by
  intro p e s m args below meth c H locs cells slots QQ ls C R S V hc hs E
  exact lv_isub C.1 C.2.1 hd (K p e s m args below meth c H locs cells slots QQ ls C R S (LV_kil kn V) hc hs E)
theorem ps_imul {x y : Int32} (hd : decode (cod X) pc = .ok (.imul, 1)) (K : PS l D dA base b X (pc + 1) (kil kn lo) (.int (x * y) :: st) h bd Q) : PS l D dA base b X pc lo (.int y :: .int x :: st) h bd Q := by
  intro p e s m args below meth c H locs cells slots QQ ls C R S V hc hs E
  exact lv_imul C.1 C.2.1 hd (K p e s m args below meth c H locs cells slots QQ ls C R S (LV_kil kn V) hc hs E)
theorem ps_iand {x y : Int32} (hd : decode (cod X) pc = .ok (.iand, 1)) (K : PS l D dA base b X (pc + 1) (kil kn lo) (.int (x &&& y) :: st) h bd Q) : PS l D dA base b X pc lo (.int y :: .int x :: st) h bd Q := by
  intro p e s m args below meth c H locs cells slots QQ ls C R S V hc hs E
  exact lv_iand C.1 C.2.1 hd (K p e s m args below meth c H locs cells slots QQ ls C R S (LV_kil kn V) hc hs E)
theorem ps_ior {x y : Int32} (hd : decode (cod X) pc = .ok (.ior, 1)) (K : PS l D dA base b X (pc + 1) (kil kn lo) (.int (x ||| y) :: st) h bd Q) : PS l D dA base b X pc lo (.int y :: .int x :: st) h bd Q := by
  intro p e s m args below meth c H locs cells slots QQ ls C R S V hc hs E
  exact lv_ior C.1 C.2.1 hd (K p e s m args below meth c H locs cells slots QQ ls C R S (LV_kil kn V) hc hs E)
theorem ps_idiv {x y : Int32} (hy : ¬ y = 0) (hd : decode (cod X) pc = .ok (.idiv, 1)) (K : PS l D dA base b X (pc + 1) (kil kn lo) (.int (x / y) :: st) h bd Q) : PS l D dA base b X pc lo (.int y :: .int x :: st) h bd Q := by
  intro p e s m args below meth c H locs cells slots QQ ls C R S V hc hs E
  exact lv_idiv C.1 C.2.1 hd hy (K p e s m args below meth c H locs cells slots QQ ls C R S (LV_kil kn V) hc hs E)
theorem ps_land {x y : Int64} (hd : decode (cod X) pc = .ok (.land, 1)) (K : PS l D dA base b X (pc + 1) (kil kn lo) (.long (x &&& y) :: st) h bd Q) : PS l D dA base b X pc lo (.long y :: .long x :: st) h bd Q := by
  intro p e s m args below meth c H locs cells slots QQ ls C R S V hc hs E
  exact lv_land C.1 C.2.1 hd (K p e s m args below meth c H locs cells slots QQ ls C R S (LV_kil kn V) hc hs E)
theorem ps_lor {x y : Int64} (hd : decode (cod X) pc = .ok (.lor, 1)) (K : PS l D dA base b X (pc + 1) (kil kn lo) (.long (x ||| y) :: st) h bd Q) : PS l D dA base b X pc lo (.long y :: .long x :: st) h bd Q := by
  intro p e s m args below meth c H locs cells slots QQ ls C R S V hc hs E
  exact lv_lor C.1 C.2.1 hd (K p e s m args below meth c H locs cells slots QQ ls C R S (LV_kil kn V) hc hs E)
theorem ps_lshl {x : Int64} {y : Int32} (hd : decode (cod X) pc = .ok (.lshl, 1)) (K : PS l D dA base b X (pc + 1) (kil kn lo) (.long (x <<< (y.toInt64 &&& 63)) :: st) h bd Q) : PS l D dA base b X pc lo (.int y :: .long x :: st) h bd Q := by
  intro p e s m args below meth c H locs cells slots QQ ls C R S V hc hs E
  exact lv_lshl C.1 C.2.1 hd rfl (K p e s m args below meth c H locs cells slots QQ ls C R S (LV_kil kn V) hc hs E)
theorem ps_lshr {x : Int64} {y : Int32} (hd : decode (cod X) pc = .ok (.lshr, 1)) (K : PS l D dA base b X (pc + 1) (kil kn lo) (.long (x >>> (y.toInt64 &&& 63)) :: st) h bd Q) : PS l D dA base b X pc lo (.int y :: .long x :: st) h bd Q := by
  intro p e s m args below meth c H locs cells slots QQ ls C R S V hc hs E
  exact lv_lshr C.1 C.2.1 hd rfl (K p e s m args below meth c H locs cells slots QQ ls C R S (LV_kil kn V) hc hs E)
theorem ps_lushr {x : Int64} {y : Int32} (hd : decode (cod X) pc = .ok (.lushr, 1)) (K : PS l D dA base b X (pc + 1) (kil kn lo) (.long ((x.toUInt64 >>> (y.toInt64.toUInt64 &&& Int64.toUInt64 63)).toInt64) :: st) h bd Q) : PS l D dA base b X pc lo (.int y :: .long x :: st) h bd Q := by
  intro p e s m args below meth c H locs cells slots QQ ls C R S V hc hs E
  exact lv_lushr C.1 C.2.1 hd rfl (K p e s m args below meth c H locs cells slots QQ ls C R S (LV_kil kn V) hc hs E)
theorem ps_i2l {x : Int32} (hd : decode (cod X) pc = .ok (.i2l, 1)) (K : PS l D dA base b X (pc + 1) (kil kn lo) (.long x.toInt64 :: st) h bd Q) : PS l D dA base b X pc lo (.int x :: st) h bd Q := by
  intro p e s m args below meth c H locs cells slots QQ ls C R S V hc hs E
  exact lv_i2l C.1 C.2.1 hd rfl (K p e s m args below meth c H locs cells slots QQ ls C R S (LV_kil kn V) hc hs E)
theorem ps_l2i {x : Int64} (hd : decode (cod X) pc = .ok (.l2i, 1)) (K : PS l D dA base b X (pc + 1) (kil kn lo) (.int x.toInt32 :: st) h bd Q) : PS l D dA base b X pc lo (.long x :: st) h bd Q := by
  intro p e s m args below meth c H locs cells slots QQ ls C R S V hc hs E
  exact lv_l2i C.1 C.2.1 hd rfl (K p e s m args below meth c H locs cells slots QQ ls C R S (LV_kil kn V) hc hs E)
theorem ps_i2b {x : Int32} (hd : decode (cod X) pc = .ok (.i2b, 1)) (K : PS l D dA base b X (pc + 1) (kil kn lo) (.int x.toInt8.toInt32 :: st) h bd Q) : PS l D dA base b X pc lo (.int x :: st) h bd Q := by
  intro p e s m args below meth c H locs cells slots QQ ls C R S V hc hs E
  exact lv_i2b C.1 C.2.1 hd rfl (K p e s m args below meth c H locs cells slots QQ ls C R S (LV_kil kn V) hc hs E)
theorem ps_lcmp {x y : Int64} (hd : decode (cod X) pc = .ok (.lcmp, 1)) (K : PS l D dA base b X (pc + 1) (kil kn lo) (.int (lg_cmp x y) :: st) h bd Q) : PS l D dA base b X pc lo (.long y :: .long x :: st) h bd Q := by
  intro p e s m args below meth c H locs cells slots QQ ls C R S V hc hs E
  exact W.lcmp C.1 C.2.1 hd (K p e s m args below meth c H locs cells slots QQ ls C R S (LV_kil kn V) hc hs E)
theorem ps_dupI {x : Int32} (hd : decode (cod X) pc = .ok (.dup, 1)) (K : PS l D dA base b X (pc + 1) (kil kn lo) (.int x :: .int x :: st) h bd Q) : PS l D dA base b X pc lo (.int x :: st) h bd Q := by
  intro p e s m args below meth c H locs cells slots QQ ls C R S V hc hs E
  exact lv_dup C.1 C.2.1 hd rfl (K p e s m args below meth c H locs cells slots QQ ls C R S (LV_kil kn V) hc hs E)
theorem ps_dupR {x : Nat} (hd : decode (cod X) pc = .ok (.dup, 1)) (K : PS l D dA base b X (pc + 1) (kil kn lo) (.ref x :: .ref x :: st) h bd Q) : PS l D dA base b X pc lo (.ref x :: st) h bd Q := by
  intro p e s m args below meth c H locs cells slots QQ ls C R S V hc hs E
  exact lv_dup C.1 C.2.1 hd rfl (K p e s m args below meth c H locs cells slots QQ ls C R S (LV_kil kn V) hc hs E)
theorem ps_dup2 {y : Int32} {x : Nat} (hd : decode (cod X) pc = .ok (.dup2, 1)) (K : PS l D dA base b X (pc + 1) (kil kn lo) (.int y :: .ref x :: .int y :: .ref x :: st) h bd Q) : PS l D dA base b X pc lo (.int y :: .ref x :: st) h bd Q := by
  intro p e s m args below meth c H locs cells slots QQ ls C R S V hc hs E
  exact lv_dup2_11 C.1 C.2.1 hd rfl rfl (K p e s m args below meth c H locs cells slots QQ ls C R S (LV_kil kn V) hc hs E)
theorem ps_pop {x : Int32} (hd : decode (cod X) pc = .ok (.pop, 1)) (K : PS l D dA base b X (pc + 1) (kil kn lo) (st) h bd Q) : PS l D dA base b X pc lo (.int x :: st) h bd Q := by
  intro p e s m args below meth c H locs cells slots QQ ls C R S V hc hs E
  exact lv_pop C.1 C.2.1 hd rfl (K p e s m args below meth c H locs cells slots QQ ls C R S (LV_kil kn V) hc hs E)
theorem ps_istore {i : Nat} {x : Int32} (hn : i < mxl X) (hg : lgb lo i = true) (hd : decode (cod X) pc = .ok (.istore i, 2)) (K : PS l D dA base b X (pc + 2) (kil kn (sto lo i (some (.int x)))) st h bd Q) : PS l D dA base b X pc lo (.int x :: st) h bd Q := by
  intro p e s m args below meth c H locs cells slots QQ ls C R S V hc hs E
  exact lv_istore C.1 C.2.1 hd (LV_has V) hn rfl (fun ls2 V2 => K p e s m args below meth c H locs cells slots QQ ls2 C R S (LV_kil kn (LV_store1 (v := .int x) hg V2)) hc hs E)
theorem ps_istore_n {i : Fin 4} {x : Int32} (hn : i.val < mxl X) (hg : lgb lo i.val = true) (hd : decode (cod X) pc = .ok (.istore_n i, 1)) (K : PS l D dA base b X (pc + 1) (kil kn (sto lo i.val (some (.int x)))) st h bd Q) : PS l D dA base b X pc lo (.int x :: st) h bd Q := by
  intro p e s m args below meth c H locs cells slots QQ ls C R S V hc hs E
  exact lv_istore_n C.1 C.2.1 hd rfl (LV_has V) hn rfl (fun ls2 V2 => K p e s m args below meth c H locs cells slots QQ ls2 C R S (LV_kil kn (LV_store1 (v := .int x) hg V2)) hc hs E)
theorem ps_lstore {i : Nat} {x : Int64} (hn : i + 1 < mxl X) (hg : lgb lo i = true) (hd : decode (cod X) pc = .ok (.lstore i, 2)) (K : PS l D dA base b X (pc + 2) (kil kn (sto (sto lo i (some (.long x))) (i + 1) none)) st h bd Q) : PS l D dA base b X pc lo (.long x :: st) h bd Q := by
  intro p e s m args below meth c H locs cells slots QQ ls C R S V hc hs E
  exact lv_lstore C.1 C.2.1 hd (LV_has V) hn rfl (fun ls2 V2 => K p e s m args below meth c H locs cells slots QQ ls2 C R S (LV_kil kn (LV_store2 (v := .long x) hg V2)) hc hs E)
theorem ps_lstore_n {i : Fin 4} {x : Int64} (hn : i.val + 1 < mxl X) (hg : lgb lo i.val = true) (hd : decode (cod X) pc = .ok (.lstore_n i, 1)) (K : PS l D dA base b X (pc + 1) (kil kn (sto (sto lo i.val (some (.long x))) (i.val + 1) none)) st h bd Q) : PS l D dA base b X pc lo (.long x :: st) h bd Q := by
  intro p e s m args below meth c H locs cells slots QQ ls C R S V hc hs E
  exact lv_lstore_n C.1 C.2.1 hd rfl (LV_has V) hn rfl (fun ls2 V2 => K p e s m args below meth c H locs cells slots QQ ls2 C R S (LV_kil kn (LV_store2 (v := .long x) hg V2)) hc hs E)
theorem ps_astore {i : Nat} {x : Nat} (hn : i < mxl X) (hg : lgb lo i = true) (hd : decode (cod X) pc = .ok (.astore i, 2)) (K : PS l D dA base b X (pc + 2) (kil kn (sto lo i (some (.ref x)))) st h bd Q) : PS l D dA base b X pc lo (.ref x :: st) h bd Q := by
  intro p e s m args below meth c H locs cells slots QQ ls C R S V hc hs E
  exact lv_astore C.1 C.2.1 hd (LV_has V) hn rfl (fun ls2 V2 => K p e s m args below meth c H locs cells slots QQ ls2 C R S (LV_kil kn (LV_store1 (v := .ref x) hg V2)) hc hs E)
theorem ps_astore_n {i : Fin 4} {x : Nat} (hn : i.val < mxl X) (hg : lgb lo i.val = true) (hd : decode (cod X) pc = .ok (.astore_n i, 1)) (K : PS l D dA base b X (pc + 1) (kil kn (sto lo i.val (some (.ref x)))) st h bd Q) : PS l D dA base b X pc lo (.ref x :: st) h bd Q := by
  intro p e s m args below meth c H locs cells slots QQ ls C R S V hc hs E
  exact lv_astore_n C.1 C.2.1 hd rfl (LV_has V) hn rfl (fun ls2 V2 => K p e s m args below meth c H locs cells slots QQ ls2 C R S (LV_kil kn (LV_store1 (v := .ref x) hg V2)) hc hs E)
theorem ps_iinc {i : Nat} {n : Int} {x v : Int32} (hv : Int32.ofInt n = v) (hx : nth lo i = some (.int x)) (hn : i < mxl X) (hg : lgb lo i = true) (hd : decode (cod X) pc = .ok (.iinc i n, 3)) (K : PS l D dA base b X (pc + 3) (kil kn (sto lo i (some (.int (x + v))))) st h bd Q) : PS l D dA base b X pc lo st h bd Q := by
  intro p e s m args below meth c H locs cells slots QQ ls C R S V hc hs E
  obtain ⟨k, hk⟩ := List.getElem?_of_mem (lvO_mem (base := base) (b := b) hx)
  exact lv_iinc C.1 C.2.1 hd (LV_has V) hk rfl hn rfl (fun ls2 V2 => K p e s m args below meth c H locs cells slots QQ ls2 C R S (LV_kil kn (LV_store1 (v := .int (x + v)) hg (by rw [← hv]; exact V2))) hc hs E)
theorem ps_icmp_eq (ka : List Nat) {x y : Int32} {off : Int} {t : Nat} (ht : (pc : Int) + off = (t : Int)) (hd : decode (cod X) pc = .ok (.if_icmp .eq off, 3)) (K1 : x = y → PS l D dA base b X t (kil ka lo) st h bd Q) (K2 : ¬ x = y → PS l D dA base b X (pc + 3) (kil kn lo) st h bd Q) : PS l D dA base b X pc lo (.int y :: .int x :: st) h bd Q := by
  intro p e s m args below meth c H locs cells slots QQ ls C R S V hc hs E
  exact lv_icmp_eq C.1 C.2.1 hd ht (fun q => K1 q p e s m args below meth c H locs cells slots QQ ls C R S (LV_kil ka V) hc hs E) (fun q => K2 q p e s m args below meth c H locs cells slots QQ ls C R S (LV_kil kn V) hc hs E)
theorem ps_if_eq (ka : List Nat) {x : Int32} {off : Int} {t : Nat} (ht : (pc : Int) + off = (t : Int)) (hd : decode (cod X) pc = .ok (.ifCond .eq off, 3)) (K1 : x = 0 → PS l D dA base b X t (kil ka lo) st h bd Q) (K2 : ¬ x = 0 → PS l D dA base b X (pc + 3) (kil kn lo) st h bd Q) : PS l D dA base b X pc lo (.int x :: st) h bd Q := by
  intro p e s m args below meth c H locs cells slots QQ ls C R S V hc hs E
  exact lv_if_eq C.1 C.2.1 hd ht (fun q => K1 q p e s m args below meth c H locs cells slots QQ ls C R S (LV_kil ka V) hc hs E) (fun q => K2 q p e s m args below meth c H locs cells slots QQ ls C R S (LV_kil kn V) hc hs E)
theorem ps_icmp_ne (ka : List Nat) {x y : Int32} {off : Int} {t : Nat} (ht : (pc : Int) + off = (t : Int)) (hd : decode (cod X) pc = .ok (.if_icmp .ne off, 3)) (K1 : ¬ x = y → PS l D dA base b X t (kil ka lo) st h bd Q) (K2 : x = y → PS l D dA base b X (pc + 3) (kil kn lo) st h bd Q) : PS l D dA base b X pc lo (.int y :: .int x :: st) h bd Q := by
  intro p e s m args below meth c H locs cells slots QQ ls C R S V hc hs E
  exact lv_icmp_ne C.1 C.2.1 hd ht (fun q => K1 q p e s m args below meth c H locs cells slots QQ ls C R S (LV_kil ka V) hc hs E) (fun q => K2 q p e s m args below meth c H locs cells slots QQ ls C R S (LV_kil kn V) hc hs E)
theorem ps_if_ne (ka : List Nat) {x : Int32} {off : Int} {t : Nat} (ht : (pc : Int) + off = (t : Int)) (hd : decode (cod X) pc = .ok (.ifCond .ne off, 3)) (K1 : ¬ x = 0 → PS l D dA base b X t (kil ka lo) st h bd Q) (K2 : x = 0 → PS l D dA base b X (pc + 3) (kil kn lo) st h bd Q) : PS l D dA base b X pc lo (.int x :: st) h bd Q := by
  intro p e s m args below meth c H locs cells slots QQ ls C R S V hc hs E
  exact lv_if_ne C.1 C.2.1 hd ht (fun q => K1 q p e s m args below meth c H locs cells slots QQ ls C R S (LV_kil ka V) hc hs E) (fun q => K2 q p e s m args below meth c H locs cells slots QQ ls C R S (LV_kil kn V) hc hs E)
theorem ps_icmp_lt (ka : List Nat) {x y : Int32} {off : Int} {t : Nat} (ht : (pc : Int) + off = (t : Int)) (hd : decode (cod X) pc = .ok (.if_icmp .lt off, 3)) (K1 : x < y → PS l D dA base b X t (kil ka lo) st h bd Q) (K2 : ¬ x < y → PS l D dA base b X (pc + 3) (kil kn lo) st h bd Q) : PS l D dA base b X pc lo (.int y :: .int x :: st) h bd Q := by
  intro p e s m args below meth c H locs cells slots QQ ls C R S V hc hs E
  exact lv_icmp_lt C.1 C.2.1 hd ht (fun q => K1 q p e s m args below meth c H locs cells slots QQ ls C R S (LV_kil ka V) hc hs E) (fun q => K2 q p e s m args below meth c H locs cells slots QQ ls C R S (LV_kil kn V) hc hs E)
theorem ps_if_lt (ka : List Nat) {x : Int32} {off : Int} {t : Nat} (ht : (pc : Int) + off = (t : Int)) (hd : decode (cod X) pc = .ok (.ifCond .lt off, 3)) (K1 : x < 0 → PS l D dA base b X t (kil ka lo) st h bd Q) (K2 : ¬ x < 0 → PS l D dA base b X (pc + 3) (kil kn lo) st h bd Q) : PS l D dA base b X pc lo (.int x :: st) h bd Q := by
  intro p e s m args below meth c H locs cells slots QQ ls C R S V hc hs E
  exact lv_if_lt C.1 C.2.1 hd ht (fun q => K1 q p e s m args below meth c H locs cells slots QQ ls C R S (LV_kil ka V) hc hs E) (fun q => K2 q p e s m args below meth c H locs cells slots QQ ls C R S (LV_kil kn V) hc hs E)
theorem ps_icmp_ge (ka : List Nat) {x y : Int32} {off : Int} {t : Nat} (ht : (pc : Int) + off = (t : Int)) (hd : decode (cod X) pc = .ok (.if_icmp .ge off, 3)) (K1 : y ≤ x → PS l D dA base b X t (kil ka lo) st h bd Q) (K2 : ¬ y ≤ x → PS l D dA base b X (pc + 3) (kil kn lo) st h bd Q) : PS l D dA base b X pc lo (.int y :: .int x :: st) h bd Q := by
  intro p e s m args below meth c H locs cells slots QQ ls C R S V hc hs E
  exact lv_icmp_ge C.1 C.2.1 hd ht (fun q => K1 q p e s m args below meth c H locs cells slots QQ ls C R S (LV_kil ka V) hc hs E) (fun q => K2 q p e s m args below meth c H locs cells slots QQ ls C R S (LV_kil kn V) hc hs E)
theorem ps_if_ge (ka : List Nat) {x : Int32} {off : Int} {t : Nat} (ht : (pc : Int) + off = (t : Int)) (hd : decode (cod X) pc = .ok (.ifCond .ge off, 3)) (K1 : 0 ≤ x → PS l D dA base b X t (kil ka lo) st h bd Q) (K2 : ¬ 0 ≤ x → PS l D dA base b X (pc + 3) (kil kn lo) st h bd Q) : PS l D dA base b X pc lo (.int x :: st) h bd Q := by
  intro p e s m args below meth c H locs cells slots QQ ls C R S V hc hs E
  exact lv_if_ge C.1 C.2.1 hd ht (fun q => K1 q p e s m args below meth c H locs cells slots QQ ls C R S (LV_kil ka V) hc hs E) (fun q => K2 q p e s m args below meth c H locs cells slots QQ ls C R S (LV_kil kn V) hc hs E)
theorem ps_icmp_gt (ka : List Nat) {x y : Int32} {off : Int} {t : Nat} (ht : (pc : Int) + off = (t : Int)) (hd : decode (cod X) pc = .ok (.if_icmp .gt off, 3)) (K1 : y < x → PS l D dA base b X t (kil ka lo) st h bd Q) (K2 : ¬ y < x → PS l D dA base b X (pc + 3) (kil kn lo) st h bd Q) : PS l D dA base b X pc lo (.int y :: .int x :: st) h bd Q := by
  intro p e s m args below meth c H locs cells slots QQ ls C R S V hc hs E
  exact lv_icmp_gt C.1 C.2.1 hd ht (fun q => K1 q p e s m args below meth c H locs cells slots QQ ls C R S (LV_kil ka V) hc hs E) (fun q => K2 q p e s m args below meth c H locs cells slots QQ ls C R S (LV_kil kn V) hc hs E)
theorem ps_if_gt (ka : List Nat) {x : Int32} {off : Int} {t : Nat} (ht : (pc : Int) + off = (t : Int)) (hd : decode (cod X) pc = .ok (.ifCond .gt off, 3)) (K1 : 0 < x → PS l D dA base b X t (kil ka lo) st h bd Q) (K2 : ¬ 0 < x → PS l D dA base b X (pc + 3) (kil kn lo) st h bd Q) : PS l D dA base b X pc lo (.int x :: st) h bd Q := by
  intro p e s m args below meth c H locs cells slots QQ ls C R S V hc hs E
  exact lv_if_gt C.1 C.2.1 hd ht (fun q => K1 q p e s m args below meth c H locs cells slots QQ ls C R S (LV_kil ka V) hc hs E) (fun q => K2 q p e s m args below meth c H locs cells slots QQ ls C R S (LV_kil kn V) hc hs E)
theorem ps_icmp_le (ka : List Nat) {x y : Int32} {off : Int} {t : Nat} (ht : (pc : Int) + off = (t : Int)) (hd : decode (cod X) pc = .ok (.if_icmp .le off, 3)) (K1 : x ≤ y → PS l D dA base b X t (kil ka lo) st h bd Q) (K2 : ¬ x ≤ y → PS l D dA base b X (pc + 3) (kil kn lo) st h bd Q) : PS l D dA base b X pc lo (.int y :: .int x :: st) h bd Q := by
  intro p e s m args below meth c H locs cells slots QQ ls C R S V hc hs E
  exact lv_icmp_le C.1 C.2.1 hd ht (fun q => K1 q p e s m args below meth c H locs cells slots QQ ls C R S (LV_kil ka V) hc hs E) (fun q => K2 q p e s m args below meth c H locs cells slots QQ ls C R S (LV_kil kn V) hc hs E)
theorem ps_if_le (ka : List Nat) {x : Int32} {off : Int} {t : Nat} (ht : (pc : Int) + off = (t : Int)) (hd : decode (cod X) pc = .ok (.ifCond .le off, 3)) (K1 : x ≤ 0 → PS l D dA base b X t (kil ka lo) st h bd Q) (K2 : ¬ x ≤ 0 → PS l D dA base b X (pc + 3) (kil kn lo) st h bd Q) : PS l D dA base b X pc lo (.int x :: st) h bd Q := by
  intro p e s m args below meth c H locs cells slots QQ ls C R S V hc hs E
  exact lv_if_le C.1 C.2.1 hd ht (fun q => K1 q p e s m args below meth c H locs cells slots QQ ls C R S (LV_kil ka V) hc hs E) (fun q => K2 q p e s m args below meth c H locs cells slots QQ ls C R S (LV_kil kn V) hc hs E)
theorem ps_goto {off : Int} {t : Nat} (ht : (pc : Int) + off = (t : Int)) (hd : decode (cod X) pc = .ok (.goto off, 3)) (K : PS l D dA base b X t (kil kn lo) st h bd Q) : PS l D dA base b X pc lo st h bd Q := by
  intro p e s m args below meth c H locs cells slots QQ ls C R S V hc hs E
  exact lv_goto C.1 C.2.1 hd ht (K p e s m args below meth c H locs cells slots QQ ls C R S (LV_kil kn V) hc hs E)
theorem ps_table {d lw u : Int} {offs : Array Int} {len t : Nat} {x : Int32} (ht : (pc : Int) + d = (t : Int)) (ho : ∀ o ∈ offs.toList, 0 ≤ (pc : Int) + o) (hz : u + 1 - lw = (offs.size : Int)) (hd : decode (cod X) pc = .ok (.tableswitch d lw u offs, len))
    (K1 : x.toInt < lw ∨ u < x.toInt → PS l D dA base b X t (kil kn lo) st h bd Q) (K2 : ∀ (j : Nat) (off : Int), offs[j]? = some off → x.toInt = lw + j → PS l D dA base b X ((pc : Int) + off).toNat (kil kn lo) st h bd Q) : PS l D dA base b X pc lo (.int x :: st) h bd Q := by
  intro p e s m args below meth c H locs cells slots QQ ls C R S V hc hs E
  by_cases q : x.toInt < lw ∨ u < x.toInt
  · exact lv_tableOut C.1 C.2.1 hd q ht (K1 q p e s m args below meth c H locs cells slots QQ ls C R S (LV_kil kn V) hc hs E)
  · have q1 : ¬ x.toInt < lw := fun z => q (Or.inl z)
    have q2 : ¬ u < x.toInt := fun z => q (Or.inr z)
    have hj : (x.toInt - lw).toNat < offs.size := by omega
    have hg : offs[(x.toInt - lw).toNat]? = some offs[(x.toInt - lw).toNat] := Array.getElem?_eq_getElem hj
    have h0 := ho offs[(x.toInt - lw).toNat] (by simp)
    exact lv_tableIn C.1 C.2.1 hd q1 q2 hg (tgt := ((pc : Int) + offs[(x.toInt - lw).toNat]).toNat) (by omega) (K2 _ _ hg (by omega) p e s m args below meth c H locs cells slots QQ ls C R S (LV_kil kn V) hc hs E)
theorem lsw_nonneg {pc : Nat} {x : Int} {d : Int} : ∀ {ps : List (Int × Int)}, 0 ≤ (pc : Int) + d → (∀ q ∈ ps, 0 ≤ (pc : Int) + q.2) → 0 ≤ (pc : Int) + Op.lookupswitch.offset ps d x
  | [], h, _ => h
  | (k, o) :: ps, h, hp => by
    rw [Op.lookupswitch.offset_cons]
    split
    · exact hp (k, o) List.mem_cons_self
    · exact lsw_nonneg h (fun q hq => hp q (List.mem_cons_of_mem _ hq))
theorem ps_lookup {d : Int} {ps : Array (Int × Int)} {len : Nat} {x : Int32} (h1 : (ps.toList.zip (ps.toList.drop 1)).all (fun (a, next) => a.1 < next.1) = true) (h2 : 0 ≤ (pc : Int) + d) (h3 : ∀ q ∈ ps.toList, 0 ≤ (pc : Int) + q.2) (hd : decode (cod X) pc = .ok (.lookupswitch d ps, len))
    (K : PS l D dA base b X ((pc : Int) + Op.lookupswitch.offset ps.toList d x.toInt).toNat (kil kn lo) st h bd Q) : PS l D dA base b X pc lo (.int x :: st) h bd Q := by
  intro p e s m args below meth c H locs cells slots QQ ls C R S V hc hs E
  have h4 := lsw_nonneg (x := x.toInt) h2 h3
  exact lv_lookup C.1 C.2.1 hd h1 rfl (tgt := ((pc : Int) + Op.lookupswitch.offset ps.toList d x.toInt).toNat) (by omega) (K p e s m args below meth c H locs cells slots QQ ls C R S (LV_kil kn V) hc hs E)
theorem ps_ireturn {v : Int32} (hd : decode (cod X) pc = .ok (.ireturn, 1)) (hr : rk X = 1 ∨ rk X = 3 ∧ (v = 0 ∨ v = 1)) (hQ : Q (some (.int v)) h) : PS l D dA base b X pc lo [.int v] h bd Q := by
  intro p e s m args below meth c H locs cells slots QQ ls C R S V hc hs E
  refine E (some (.int v)) h H locs cells slots pc ls R S (by omega) (by omega) hQ ?_
  rcases hr with hr | ⟨hr, hv⟩
  · exact Or.inr (Or.inl ⟨hr, ⟨v, rfl⟩, hd⟩)
  · exact Or.inr (Or.inr (Or.inl ⟨hr, ⟨v, rfl, hv⟩, hd⟩))
theorem ps_lreturn {v : Int64} (hd : decode (cod X) pc = .ok (.lreturn, 1)) (hr : rk X = 2) (hQ : Q (some (.long v)) h) : PS l D dA base b X pc lo [.long v] h bd Q := by
  intro p e s m args below meth c H locs cells slots QQ ls C R S V hc hs E
  exact E (some (.long v)) h H locs cells slots pc ls R S (by omega) (by omega) hQ (Or.inr (Or.inr (Or.inr ⟨hr, ⟨v, rfl⟩, hd⟩)))
theorem ps_return (hd : decode (cod X) pc = .ok (.return_, 1)) (hr : rk X = 0) (hQ : Q none h) : PS l D dA base b X pc lo [] h bd Q := by
  intro p e s m args below meth c H locs cells slots QQ ls C R S V hc hs E
  exact E none h H locs cells slots pc ls R S (by omega) (by omega) hQ (Or.inl ⟨hr, rfl, hd⟩)
end PSS
end
section
/-! classes and their fields -/
def isRefTy : FieldType → Bool
  | .object _ => true
  | .array _ => true
  | _ => false
def ClsF (a : Nat) (C : String) (T : u_T) (N : Nat) (ty : Nat → FieldType) : Prop := classes[a]? = some (C, T, N) ∧ nF a = N ∧ clT a = T ∧ cN a = C ∧ (∀ w ∈ u_ws C T N, w ∈ gtbl) ∧ Cond.instantiable C N ∈ gtbl ∧ Cond.initialized C ∈ gtbl ∧ (∀ x, x < N → ∀ y, y < N → x ≠ y → (T x).2.1 ≠ (T y).2.1) ∧ (∀ k, k < N → parseFieldDescriptor (T k).2.2.1 = some (ty k)) ∧ (∀ k, k < N → isRf a k = isRefTy (ty k) ∧ (isRf a k = false → ty k = .int)) ∧ (∀ k, k < N → (T k).1 = C)
theorem cls_0 : ClsF 0 RX0 TX0 4 tyX0 := ⟨rfl, rfl, rfl, rfl, fun w hw => mem_gtbl (List.all_eq_true.mp (by decide +kernel : (u_ws RX0 TX0 4).all (fun w => decide (w ∈ lw_tbl) && goodWord w) = true) w hw), mem_gtbl (by decide +kernel), mem_gtbl (by decide +kernel), nmX0, tyX0_ok, by decide +kernel, by decide +kernel⟩
theorem cls_1 : ClsF 1 RX1 TX1 5 tyX1 := ⟨rfl, rfl, rfl, rfl, fun w hw => mem_gtbl (List.all_eq_true.mp (by decide +kernel : (u_ws RX1 TX1 5).all (fun w => decide (w ∈ lw_tbl) && goodWord w) = true) w hw), mem_gtbl (by decide +kernel), mem_gtbl (by decide +kernel), nmX1, tyX1_ok, by decide +kernel, by decide +kernel⟩
theorem cls_2 : ClsF 2 RX2 TX2 8 tyX2 := ⟨rfl, rfl, rfl, rfl, fun w hw => mem_gtbl (List.all_eq_true.mp (by decide +kernel : (u_ws RX2 TX2 8).all (fun w => decide (w ∈ lw_tbl) && goodWord w) = true) w hw), mem_gtbl (by decide +kernel), mem_gtbl (by decide +kernel), nmX2, tyX2_ok, by decide +kernel, by decide +kernel⟩
theorem cls_3 : ClsF 3 RX3 TX3 2 tyX3 := ⟨rfl, rfl, rfl, rfl, fun w hw => mem_gtbl (List.all_eq_true.mp (by decide +kernel : (u_ws RX3 TX3 2).all (fun w => decide (w ∈ lw_tbl) && goodWord w) = true) w hw), mem_gtbl (by decide +kernel), mem_gtbl (by decide +kernel), nmX3, tyX3_ok, by decide +kernel, by decide +kernel⟩
theorem cls_4 : ClsF 4 RX4 TX4 1 tyX4 := ⟨rfl, rfl, rfl, rfl, fun w hw => mem_gtbl (List.all_eq_true.mp (by decide +kernel : (u_ws RX4 TX4 1).all (fun w => decide (w ∈ lw_tbl) && goodWord w) = true) w hw), mem_gtbl (by decide +kernel), mem_gtbl (by decide +kernel), nmX4, tyX4_ok, by decide +kernel, by decide +kernel⟩
theorem cls_5 : ClsF 5 RX5 TX5 3 tyX5 := ⟨rfl, rfl, rfl, rfl, fun w hw => mem_gtbl (List.all_eq_true.mp (by decide +kernel : (u_ws RX5 TX5 3).all (fun w => decide (w ∈ lw_tbl) && goodWord w) = true) w hw), mem_gtbl (by decide +kernel), mem_gtbl (by decide +kernel), nmX5, tyX5_ok, by decide +kernel, by decide +kernel⟩
theorem cls_6 : ClsF 6 RX6 TX6 9 tyX6 := ⟨rfl, rfl, rfl, rfl, fun w hw => mem_gtbl (List.all_eq_true.mp (by decide +kernel : (u_ws RX6 TX6 9).all (fun w => decide (w ∈ lw_tbl) && goodWord w) = true) w hw), mem_gtbl (by decide +kernel), mem_gtbl (by decide +kernel), nmX6, tyX6_ok, by decide +kernel, by decide +kernel⟩
theorem cls_7 : ClsF 7 RX8 TX8 2 tyX8 := ⟨rfl, rfl, rfl, rfl, fun w hw => mem_gtbl (List.all_eq_true.mp (by decide +kernel : (u_ws RX8 TX8 2).all (fun w => decide (w ∈ lw_tbl) && goodWord w) = true) w hw), mem_gtbl (by decide +kernel), mem_gtbl (by decide +kernel), nmX8, tyX8_ok, by decide +kernel, by decide +kernel⟩
theorem cls_8 : ClsF 8 RX9 TX9 2 tyX9 := ⟨rfl, rfl, rfl, rfl, fun w hw => mem_gtbl (List.all_eq_true.mp (by decide +kernel : (u_ws RX9 TX9 2).all (fun w => decide (w ∈ lw_tbl) && goodWord w) = true) w hw), mem_gtbl (by decide +kernel), mem_gtbl (by decide +kernel), nmX9, tyX9_ok, by decide +kernel, by decide +kernel⟩
theorem cls_9 : ClsF 9 RX10 TX10 12 tyX10 := ⟨rfl, rfl, rfl, rfl, fun w hw => mem_gtbl (List.all_eq_true.mp (by decide +kernel : (u_ws RX10 TX10 12).all (fun w => decide (w ∈ lw_tbl) && goodWord w) = true) w hw), mem_gtbl (by decide +kernel), mem_gtbl (by decide +kernel), nmX10, tyX10_ok, by decide +kernel, by decide +kernel⟩
theorem cls_10 : ClsF 10 RX11 TX11 33 tyX11 := ⟨rfl, rfl, rfl, rfl, fun w hw => mem_gtbl (List.all_eq_true.mp (by decide +kernel : (u_ws RX11 TX11 33).all (fun w => decide (w ∈ lw_tbl) && goodWord w) = true) w hw), mem_gtbl (by decide +kernel), mem_gtbl (by decide +kernel), nmX11, tyX11_ok, by decide +kernel, by decide +kernel⟩
theorem cls_ok : ∀ a : Nat, a < 11 → ∃ (C : String) (T : u_T) (N : Nat) (ty : Nat → FieldType), ClsF a C T N ty
  | 0, _ => ⟨_, _, _, _, cls_0⟩
  | 1, _ => ⟨_, _, _, _, cls_1⟩
  | 2, _ => ⟨_, _, _, _, cls_2⟩
  | 3, _ => ⟨_, _, _, _, cls_3⟩
  | 4, _ => ⟨_, _, _, _, cls_4⟩
  | 5, _ => ⟨_, _, _, _, cls_5⟩
  | 6, _ => ⟨_, _, _, _, cls_6⟩
  | 7, _ => ⟨_, _, _, _, cls_7⟩
  | 8, _ => ⟨_, _, _, _, cls_8⟩
  | 9, _ => ⟨_, _, _, _, cls_9⟩
  | 10, _ => ⟨_, _, _, _, cls_10⟩
  | n + 11, h => by omega
theorem arrC_I : Cond.arrayClass .int ∈ gtbl := mem_gtbl (by decide +kernel)
theorem arrC_B : Cond.arrayClass .byte ∈ gtbl := mem_gtbl (by decide +kernel)
theorem arrC_Z : Cond.arrayClass .boolean ∈ gtbl := mem_gtbl (by decide +kernel)
theorem arrC_J : Cond.arrayClass .long ∈ gtbl := mem_gtbl (by decide +kernel)
/-! heap instructions -/
section PSH
variable {l : Launch} {D : va_G} {dA : Nat → ClassId} {base b : Nat} {X pc : Nat} {lo : LO} {st : List Value} {h : HP} {bd : Nat × Nat} {Q : QT} {s : State} {H : Heap}
theorem ce_obj {a r : Nat} (R : Rel D dA base b h s H) (ho : isO h r a) (ha : a < 11) : t_OB (base + (r - 1)) (D.1 a) (nF a) (D.2 a) H (fV base h r a) := by
  have c := R.1 r ho.1 ho.2.1
  unfold CeR at c
  rw [ho.2.2] at c
  rcases c with ⟨_, c⟩ | ⟨c, _⟩
  · exact c
  · omega
theorem ce_arr {kd r : Nat} (R : Rel D dA base b h s H) (h0 : 0 < r) (hr : r < gS h) (hk : gK h r = kd) (hkd : 100 ≤ kd) : H[base + (r - 1)]? = some (arrV (dA kd) (gL h r) (aV base h r kd)) := by
  have c := R.1 r h0 hr
  unfold CeR at c
  rw [hk] at c
  rcases c with ⟨c, _⟩ | ⟨_, _, c⟩
  · omega
  · exact c
theorem rv_pos {r : Nat} (h0 : 0 < r) : rv base b (.ref r) = .ref (base + (r - 1)) := by simp [rv, ad_pos h0]
variable (kn : List Nat)
theorem ps_get {idx a k r : Nat} {v : Value} (hl : lkAtP (0, ownC X, idx, a, k)) (ho : isO h r a) (hv : fV base h r a k = rv base b v) (hd : decode (cod X) pc = .ok (.getfield idx, 3)) (K : PS l D dA base b X (pc + 3) (kil kn lo) (v :: st) h bd Q) : PS l D dA base b X pc lo (.ref r :: st) h bd Q := by
  intro p e s m args below meth c H locs cells slots QQ ls C R S V hc hs E
  obtain ⟨hB, hC⟩ := hl
  have hab : a < 11 ∧ k < nF a := by simpa [lkB] using hB
  obtain ⟨CC, T, N, ty, c1, c2, c3, c4, c5, c6, c7, c8, c9, c10, c11⟩ := cls_ok a hab.1
  obtain ⟨cell, q1, q2, q3, q4⟩ := ce_obj R ho hab.1
  obtain ⟨hx, hb, hr, hml, hown, hts, hlk, hnm, hKK, hbs⟩ := id C
  obtain ⟨hS, hfc, kC, hkC, hkind⟩ := hKK.1.1 a _ c1
  have hk : k < N := c2 ▸ hab.2
  obtain ⟨cf, kf, fi, f, hi, hsl⟩ := hS k hk
  have hlink : (Cond.fieldLink (cN (ownC X)) idx (T k).1 (T k).2.1 (T k).2.2.1).before args s = true := hts _ (hC _ (by rw [← c3]; exact List.mem_singleton.mpr rfl))
  rw [List.map_cons, rv_pos ho.1]
  refine W.getf hx hb hown hlink hi (u_facts hfc hkC (u_lays hts c5 hk) hi).1 q1 (by rw [q3]; exact fun h => by cases h) (v := rv base b v) ?_ rfl rfl hd (K p e s m args below meth c H locs cells slots QQ ls C R S (LV_kil kn V) hc hs E)
  rw [hsl, q4 k hab.2, hv]
theorem ps_put {idx a k r : Nat} {v : Value} {h' : HP} (hl : lkAtP (0, ownC X, idx, a, k)) (hfin : (clT a k).2.2.2 = true → (yM X).name = "<init>" ∧ ownC X = a) (ho : isO h r a)
    (hty : ∀ ty : FieldType, isRf a k = isRefTy ty → (isRf a k = false → ty = .int) → narrow ty (rv base b v) = rv base b v ∧ fits ty (rv base b v) = true)
    (hfv : ∀ j, j < nF a → updV (fV base h r a) k (rv base b v) j = fV base h' r a j) (gs : gS h' = gS h) (gk : gK h' = gK h) (gl : gL h' = gL h) (gi : ∀ q, q ≠ r → gI h' q = gI h q) (gj : ∀ q, q ≠ r → gJ h' q = gJ h q) (gr : ∀ q, q ≠ r → gR h' q = gR h q)
    (hd : decode (cod X) pc = .ok (.putfield idx, 3)) (K : PS l D dA base b X (pc + 3) (kil kn lo) st h' bd Q) : PS l D dA base b X pc lo (v :: .ref r :: st) h bd Q := by
  intro p e s m args below meth c H locs cells slots QQ ls C R S V hc hs E
  obtain ⟨hB, hC⟩ := hl
  have hab : a < 11 ∧ k < nF a := by simpa [lkB] using hB
  obtain ⟨CC, T, N, ty, c1, c2, c3, c4, c5, c6, c7, c8, c9, c10, c11⟩ := cls_ok a hab.1
  obtain ⟨cell, q1, q2, q3, q4⟩ := ce_obj R ho hab.1
  obtain ⟨hx, hb, hr, hml, hown, hts, hlk, hnm, hKK, hbs⟩ := id C
  have hap := va_apart (own := cN (ownC X)) hts c5 ty c9 c8 hKK.1 c1
  obtain ⟨hS, hfc, kC, hkC, hkind⟩ := hKK.1.1 a _ c1
  have hk : k < N := c2 ▸ hab.2
  obtain ⟨cf, kf, fi, f, hi, hsl⟩ := hS k hk
  have hlink : (Cond.fieldLink (cN (ownC X)) idx (T k).1 (T k).2.1 (T k).2.2.1).before args s = true := hts _ (hC _ (by rw [← c3]; exact List.mem_singleton.mpr rfl))
  obtain ⟨n1, n2⟩ := hty (ty k) (c10 k hk).1 (c10 k hk).2
  have hst := (u_facts hfc hkC (u_lays hts c5 hk) hi).1
  rw [List.map_cons, List.map_cons, rv_pos ho.1]
  have hbk : ∀ (H' : Heap) (L : List Loc), H'[base + (r - 1)]? = some (cell.setSlot (D.2 a k) (rv base b v)) → H'.size = H.size → (∀ q, q ≠ base + (r - 1) → H'[q]? = H[q]?) → va_S (fun q => base ≤ q) s.heap H' L → W p l e (rmM X) s m args below meth c H' L cells slots QQ (F0 m (pc + 3) ls (st.map (rv base b))) := by
    intro H' L e1 e2 e3 S'
    refine K p e s m args below meth c H' L cells slots QQ ls C (R.upd ho.1 gs gk gl gi gj gr e2 e3 ?_) S' (LV_kil kn V) hc hs E
    unfold CeR
    rw [gk, ho.2.2]
    refine Or.inl ⟨hab.1, cell.setSlot (D.2 a k) (rv base b v), e1, q2, q3, fun j hj => ?_⟩
    rw [← hfv j hj]
    exact t_set q4 (fun x y hx hy => hap x y (c2 ▸ hx) (c2 ▸ hy)) hab.2 _ j hj
  cases hfn : (T k).2.2.2
  · have hlay := hts _ (c5 _ (u_in_lay hk))
    unfold u_lay at hlay
    rw [if_neg (by rw [hfn]; decide)] at hlay
    have h6 := u_store hfc hkC hkind hlay hi (c9 k hk) n1 n2
    refine W.putK hx hb (f := f) ⟨hown, hlink, ⟨_, _, _, hi⟩, hst⟩ (by rw [q2]; exact h6) q1 q3 (by rw [hsl]; exact k2_hasslot (q4 k hab.2)) rfl rfl hd fun H' e1 e2 e3 => ?_
    rw [hsl] at e1 ⊢
    exact hbk H' _ e1 e2 e3 (S.put e2 e3 (Nat.le_add_right _ _))
  · obtain ⟨f1, f2⟩ := hfin (by rw [c3]; exact hfn)
    have hlay := hts _ (c5 _ (u_in_lay hk))
    unfold u_lay at hlay
    rw [if_pos hfn] at hlay
    have hdecl : s.vm.findClass (T k).1 = some m.cls := by rw [c11 k hk, ← c4, ← f2]; exact hown
    have hcf : m.cls = cf := by
      obtain ⟨_, _, c', _, _, _, -, -, hf', -, -, -, hown2, -⟩ := Cond.laysFinal_spec hlay
      have e1 : c' = cf := by have := hi.symm.trans hf'; simp at this; exact this.1.symm
      rw [← e1]; exact Option.some.inj (hdecl.symm.trans hown2)
    have h6 := u_fits hfc hkC hkind (Or.inr hlay) hi (c9 k hk) n1 n2
    refine W.putFinK hx hb hown hlink hi hst hcf (hnm f1) (by rw [q2]; exact h6) q1 q3 (by rw [hsl]; exact k2_hasslot (q4 k hab.2)) rfl rfl hd fun H' e1 e2 e3 => ?_
    rw [hsl] at e1 ⊢
    exact hbk H' _ e1 e2 e3 (S.put e2 e3 (Nat.le_add_right _ _))
end PSH
end
section
section PSA
variable {l : Launch} {D : va_G} {dA : Nat → ClassId} {base b : Nat} {X pc : Nat} {lo : LO} {st : List Value} {h : HP} {bd : Nat × Nat} {Q : QT} {s : State} {H : Heap}
theorem aV_i {r kd j : Nat} (hk : kd < 103) : aV base h r kd j = .int (gI h r j) := by simp [aV, hk]
theorem aV_j {r j : Nat} : aV base h r 103 j = .long (gJ h r j) := by simp [aV]
theorem aV_r {r kd j : Nat} (hk : 103 < kd) : aV base h r kd j = va_rf (rq base (gR h r j)) := by
  have h1 : ¬ kd < 103 := by omega
  have h2 : ¬ kd = 103 := by omega
  simp [aV, h1, h2]
theorem KK_arr (hK : KK D dA s) : ArrOfT s (dA 100) .int ∧ ArrOfT s (dA 101) .byte ∧ ArrOfT s (dA 102) .boolean ∧ ArrOfT s (dA 103) .long ∧ ArrOfT s (dA 104) (.object "KeptSentences$Row") ∧ ArrOfT s (dA 105) (.object "KeptSentences$Text") :=
  ⟨(hK.1.2 0 _ rfl).1, (hK.1.2 1 _ rfl).1, (hK.1.2 2 _ rfl).1, (hK.1.2 3 _ rfl).1, (hK.1.2 4 _ rfl).1, (hK.1.2 5 _ rfl).1⟩
theorem KK_arrT {kd : Nat} (hK : KK D dA s) (h1 : 100 ≤ kd) (h2 : kd ≤ 105) : ∃ ty, ArrOfT s (dA kd) ty := by
  obtain ⟨a0, a1, a2, a3, a4, a5⟩ := KK_arr hK
  rcases (show kd = 100 ∨ kd = 101 ∨ kd = 102 ∨ kd = 103 ∨ kd = 104 ∨ kd = 105 by omega) with rfl | rfl | rfl | rfl | rfl | rfl
  · exact ⟨_, a0⟩
  · exact ⟨_, a1⟩
  · exact ⟨_, a2⟩
  · exact ⟨_, a3⟩
  · exact ⟨_, a4⟩
  · exact ⟨_, a5⟩
theorem in_arr {cA : ClassId} {n : Nat} {f : Nat → Value} {i : Int32} (hin : vp_in i n) : ¬ (i < 0 ∨ (arrV cA n f).slots.size ≤ i.toNatClampNeg) := by rw [arrV_size]; exact hin
theorem in_lt {n : Nat} {i : Int32} (hin : vp_in i n) : i.toNatClampNeg < n := Nat.not_le.mp fun q => hin (Or.inr q)
variable (kn : List Nat)
theorem ps_iald {r : Nat} {i : Int32} (hi : isL h r 100 i) (hd : decode (cod X) pc = .ok (.iaload, 1)) (K : PS l D dA base b X (pc + 1) (kil kn lo) (.int (gI h r i.toNatClampNeg) :: st) h bd Q) : PS l D dA base b X pc lo (.int i :: .ref r :: st) h bd Q := by
  intro p e s m args below meth c H locs cells slots QQ ls C R S V hc hs E
  obtain ⟨hx, hb, hr, hml, hown, hts, hlk, hnm, hKK, hbs⟩ := id C
  obtain ⟨h1, h2, h3⟩ := hi
  have KW := K p e s m args below meth c H locs cells slots QQ ls C R S (LV_kil kn V) hc hs E
  rcases Nat.eq_zero_or_pos r with rfl | h0
  · obtain ⟨scr, g1, g2, g3, g4, g5⟩ := R.2.2.2.2 h2
    have e0 : rv base b (.ref 0) = .ref b := by simp [rv, ad_0]
    rw [List.map_cons, List.map_cons, e0]
    exact W.iald hx hb g1 g2 g3 (by rw [g4]; exact h3) (g5 _ (in_lt h3)) rfl rfl hd KW
  · rw [List.map_cons, List.map_cons, rv_pos h0]
    exact W.iald hx hb (ce_arr R h0 h1 h2 (by omega)) ((KK_arr hKK).1 _ _) (fun q => by cases q) (in_arr h3) (by rw [arrV_read _ _ (in_lt h3), aV_i (by omega)]; rfl) rfl rfl hd KW
theorem ps_bald {r k : Nat} {i : Int32} (hk : k = 101 ∨ k = 102) (hi : isA h r k i) (hd : decode (cod X) pc = .ok (.baload, 1)) (K : PS l D dA base b X (pc + 1) (kil kn lo) (.int (gI h r i.toNatClampNeg) :: st) h bd Q) : PS l D dA base b X pc lo (.int i :: .ref r :: st) h bd Q := by
  intro p e s m args below meth c H locs cells slots QQ ls C R S V hc hs E
  obtain ⟨hx, hb, hr, hml, hown, hts, hlk, hnm, hKK, hbs⟩ := id C
  obtain ⟨h0, h1, h2, h3⟩ := hi
  have KW := K p e s m args below meth c H locs cells slots QQ ls C R S (LV_kil kn V) hc hs E
  rw [List.map_cons, List.map_cons, rv_pos h0]
  rcases hk with rfl | rfl
  · exact W.bald hx hb (ce_arr R h0 h1 h2 (by omega)) ((KK_arr hKK).2.1 _ _) (fun q => by cases q) (in_arr h3) (by rw [arrV_read _ _ (in_lt h3), aV_i (by omega)]; rfl) rfl rfl hd KW
  · exact W.zald hx hb (ce_arr R h0 h1 h2 (by omega)) ((KK_arr hKK).2.2.1 _ _) (fun q => by cases q) (in_arr h3) (by rw [arrV_read _ _ (in_lt h3), aV_i (by omega)]; rfl) rfl rfl hd KW
theorem ps_lald {r : Nat} {i : Int32} (hi : isA h r 103 i) (hd : decode (cod X) pc = .ok (.laload, 1)) (K : PS l D dA base b X (pc + 1) (kil kn lo) (.long (gJ h r i.toNatClampNeg) :: st) h bd Q) : PS l D dA base b X pc lo (.int i :: .ref r :: st) h bd Q := by
  intro p e s m args below meth c H locs cells slots QQ ls C R S V hc hs E
  obtain ⟨hx, hb, hr, hml, hown, hts, hlk, hnm, hKK, hbs⟩ := id C
  obtain ⟨h0, h1, h2, h3⟩ := hi
  have KW := K p e s m args below meth c H locs cells slots QQ ls C R S (LV_kil kn V) hc hs E
  rw [List.map_cons, List.map_cons, rv_pos h0]
  exact W.lald hx hb (ce_arr R h0 h1 h2 (by omega)) ((KK_arr hKK).2.2.2.1 _ _) (fun q => by cases q) (in_arr h3) (by rw [arrV_read _ _ (in_lt h3), aV_j]; rfl) rfl rfl hd KW
theorem ps_aald {r : Nat} {i : Int32} (h0 : 0 < r) (h1 : r < gS h) (h2 : gK h r = 104 ∨ gK h r = 105) (h3 : vp_in i (gL h r)) (h4 : 0 < gR h r i.toNatClampNeg) (hd : decode (cod X) pc = .ok (.aaload, 1)) (K : PS l D dA base b X (pc + 1) (kil kn lo) (.ref (gR h r i.toNatClampNeg) :: st) h bd Q) : PS l D dA base b X pc lo (.int i :: .ref r :: st) h bd Q := by
  intro p e s m args below meth c H locs cells slots QQ ls C R S V hc hs E
  obtain ⟨hx, hb, hr, hml, hown, hts, hlk, hnm, hKK, hbs⟩ := id C
  have KW := K p e s m args below meth c H locs cells slots QQ ls C R S (LV_kil kn V) hc hs E
  rw [List.map_cons, rv_pos h4] at KW
  rw [List.map_cons, List.map_cons, rv_pos h0]
  rcases h2 with h2 | h2
  · exact W.aald hx hb (ce_arr R h0 h1 h2 (by omega)) ((KK_arr hKK).2.2.2.2.1 _ _) rfl (fun q => by cases q) (in_arr h3) (by rw [arrV_read _ _ (in_lt h3), aV_r (by omega), rq_pos h4]; rfl) rfl rfl hd KW
  · exact W.aald hx hb (ce_arr R h0 h1 h2 (by omega)) ((KK_arr hKK).2.2.2.2.2 _ _) rfl (fun q => by cases q) (in_arr h3) (by rw [arrV_read _ _ (in_lt h3), aV_r (by omega), rq_pos h4]; rfl) rfl rfl hd KW
theorem ps_alen {r : Nat} (h1 : r < gS h) (h2 : 100 ≤ gK h r) (h3 : gK h r ≤ 105) (h4 : r = 0 → gK h r = 100) (hd : decode (cod X) pc = .ok (.arraylength, 1)) (K : PS l D dA base b X (pc + 1) (kil kn lo) (.int (nI (gL h r)) :: st) h bd Q) : PS l D dA base b X pc lo (.ref r :: st) h bd Q := by
  intro p e s m args below meth c H locs cells slots QQ ls C R S V hc hs E
  obtain ⟨hx, hb, hr, hml, hown, hts, hlk, hnm, hKK, hbs⟩ := id C
  have KW := K p e s m args below meth c H locs cells slots QQ ls C R S (LV_kil kn V) hc hs E
  rcases Nat.eq_zero_or_pos r with rfl | h0
  · obtain ⟨scr, g1, g2, g3, g4, g5⟩ := R.2.2.2.2 (h4 rfl)
    have e0 : rv base b (.ref 0) = .ref b := by simp [rv, ad_0]
    rw [List.map_cons, e0]
    exact W.alen (n := nI (gL h 0)) hx hb g1 g2 (by rw [g4]; rfl) rfl rfl hd KW
  · obtain ⟨ty, ht⟩ := KK_arrT (kd := gK h r) hKK h2 h3
    rw [List.map_cons, rv_pos h0]
    exact W.alen (n := nI (gL h r)) hx hb (ce_arr R h0 h1 rfl h2) (ht _ _) (by rw [arrV_size]; rfl) rfl rfl hd KW
/-- what lies behind a store into an array -/
theorem rel_arr {h' : HP} {kd r k : Nat} {x : Value} {H' : Heap} (R : Rel D dA base b h s H) (h0 : 0 < r) (h2 : gK h r = kd) (h3 : 100 ≤ kd) (h4 : kd ≤ 105) (gs : gS h' = gS h) (gk : gK h' = gK h) (gl : gL h' = gL h) (gi : ∀ q, q ≠ r → gI h' q = gI h q) (gj : ∀ q, q ≠ r → gJ h' q = gJ h q) (gr : ∀ q, q ≠ r → gR h' q = gR h q)
    (hv : ∀ j, updV (aV base h r kd) k x j = aV base h' r kd j) (e1 : H'[base + (r - 1)]? = some ((arrV (dA kd) (gL h r) (aV base h r kd)).setSlot k x)) (e2 : H'.size = H.size) (e3 : ∀ q, q ≠ base + (r - 1) → H'[q]? = H[q]?) : Rel D dA base b h' s H' := by
  refine R.upd h0 gs gk gl gi gj gr e2 e3 ?_
  unfold CeR
  rw [gk, gl, h2]
  refine Or.inr ⟨h3, h4, ?_⟩
  rw [e1, arrV_store, show updV (aV base h r kd) k x = aV base h' r kd from funext hv]
theorem up_i {r k kd : Nat} {v : Int32} (hk : kd < 103) (j : Nat) : updV (aV base h r kd) k (.int v) j = aV base (stI h r k v) r kd j := by
  rw [aV_i hk]
  have e : gI (stI h r k v) r = va_up (gI h r) k v := va_up_self _ _ _
  rw [e]
  unfold updV va_up
  split
  · rfl
  · rw [aV_i hk]
theorem ps_iast {r : Nat} {i v : Int32} (hi : isA h r 100 i) (hd : decode (cod X) pc = .ok (.iastore, 1)) (K : PS l D dA base b X (pc + 1) (kil kn lo) st (stI h r i.toNatClampNeg v) bd Q) : PS l D dA base b X pc lo (.int v :: .int i :: .ref r :: st) h bd Q := by
  intro p e s m args below meth c H locs cells slots QQ ls C R S V hc hs E
  obtain ⟨hx, hb, hr, hml, hown, hts, hlk, hnm, hKK, hbs⟩ := id C
  obtain ⟨h0, h1, h2, h3⟩ := hi
  rw [List.map_cons, List.map_cons, List.map_cons, rv_pos h0]
  refine W.iast hx hb (ce_arr R h0 h1 h2 (by omega)) ((KK_arr hKK).1 _ _) (fun q => by cases q) (in_arr h3) rfl rfl hd fun H' e1 e2 e3 => ?_
  exact K p e s m args below meth c H' _ cells slots QQ ls C (rel_arr R h0 h2 (by omega) (by omega) rfl rfl rfl (fun q hq => va_up_ne _ _ hq) (fun _ _ => rfl) (fun _ _ => rfl) (up_i (by omega)) e1 e2 e3) (S.put e2 e3 (Nat.le_add_right _ _)) (LV_kil kn V) hc hs E
theorem ps_bast {r k : Nat} {i v : Int32} (hk : k = 101 ∨ k = 102) (hi : isA h r k i) (hd : decode (cod X) pc = .ok (.bastore, 1)) (K : PS l D dA base b X (pc + 1) (kil kn lo) st (stI h r i.toNatClampNeg (narB k v)) bd Q) : PS l D dA base b X pc lo (.int v :: .int i :: .ref r :: st) h bd Q := by
  intro p e s m args below meth c H locs cells slots QQ ls C R S V hc hs E
  obtain ⟨hx, hb, hr, hml, hown, hts, hlk, hnm, hKK, hbs⟩ := id C
  obtain ⟨h0, h1, h2, h3⟩ := hi
  rw [List.map_cons, List.map_cons, List.map_cons, rv_pos h0]
  rcases hk with rfl | rfl
  · refine W.bast hx hb (ce_arr R h0 h1 h2 (by omega)) ((KK_arr hKK).2.1 _ _) (fun q => by cases q) (in_arr h3) rfl rfl hd fun H' e1 e2 e3 => ?_
    exact K p e s m args below meth c H' _ cells slots QQ ls C (rel_arr R h0 h2 (by omega) (by omega) rfl rfl rfl (fun q hq => va_up_ne _ _ hq) (fun _ _ => rfl) (fun _ _ => rfl) (up_i (by omega)) e1 e2 e3) (S.put e2 e3 (Nat.le_add_right _ _)) (LV_kil kn V) hc hs E
  · refine W.zast hx hb (ce_arr R h0 h1 h2 (by omega)) ((KK_arr hKK).2.2.1 _ _) (fun q => by cases q) (in_arr h3) rfl rfl hd fun H' e1 e2 e3 => ?_
    exact K p e s m args below meth c H' _ cells slots QQ ls C (rel_arr R h0 h2 (by omega) (by omega) rfl rfl rfl (fun q hq => va_up_ne _ _ hq) (fun _ _ => rfl) (fun _ _ => rfl) (up_i (by omega)) e1 e2 e3) (S.put e2 e3 (Nat.le_add_right _ _)) (LV_kil kn V) hc hs E
theorem ps_last {r : Nat} {i : Int32} {v : Int64} (hi : isA h r 103 i) (hd : decode (cod X) pc = .ok (.lastore, 1)) (K : PS l D dA base b X (pc + 1) (kil kn lo) st (stJ h r i.toNatClampNeg v) bd Q) : PS l D dA base b X pc lo (.long v :: .int i :: .ref r :: st) h bd Q := by
  intro p e s m args below meth c H locs cells slots QQ ls C R S V hc hs E
  obtain ⟨hx, hb, hr, hml, hown, hts, hlk, hnm, hKK, hbs⟩ := id C
  obtain ⟨h0, h1, h2, h3⟩ := hi
  rw [List.map_cons, List.map_cons, List.map_cons, rv_pos h0]
  refine W.last hx hb (ce_arr R h0 h1 h2 (by omega)) ((KK_arr hKK).2.2.2.1 _ _) (fun q => by cases q) (in_arr h3) rfl rfl hd fun H' e1 e2 e3 => ?_
  refine K p e s m args below meth c H' _ cells slots QQ ls C (rel_arr R h0 h2 (by omega) (by omega) rfl rfl rfl (fun _ _ => rfl) (fun q hq => va_up_ne _ _ hq) (fun _ _ => rfl) (fun j => ?_) e1 e2 e3) (S.put e2 e3 (Nat.le_add_right _ _)) (LV_kil kn V) hc hs E
  rw [aV_j]
  have e : gJ (stJ h r i.toNatClampNeg v) r = va_up (gJ h r) i.toNatClampNeg v := va_up_self _ _ _
  rw [e]
  unfold updV va_up
  split
  · rfl
  · rw [aV_j]
theorem ps_aast {r v : Nat} {i : Int32} (hk : (gK h r = 104 ∧ isO h v 6) ∨ (gK h r = 105 ∧ isO h v 7)) (h0 : 0 < r) (h1 : r < gS h) (h3 : vp_in i (gL h r)) (hd : decode (cod X) pc = .ok (.aastore, 1)) (K : PS l D dA base b X (pc + 1) (kil kn lo) st (stR h r i.toNatClampNeg v) bd Q) : PS l D dA base b X pc lo (.ref v :: .int i :: .ref r :: st) h bd Q := by
  intro p e s m args below meth c H locs cells slots QQ ls C R S V hc hs E
  obtain ⟨hx, hb, hr, hml, hown, hts, hlk, hnm, hKK, hbs⟩ := id C
  have h30 : ¬ i < 0 := fun q => h3 (Or.inl q)
  have up : ∀ kd, 103 < kd → 0 < v → ∀ j, updV (aV base h r kd) i.toNatClampNeg (.ref (base + (v - 1))) j = aV base (stR h r i.toNatClampNeg v) r kd j := by
    intro kd hkd hv j
    rw [aV_r hkd]
    have e : gR (stR h r i.toNatClampNeg v) r = va_up (gR h r) i.toNatClampNeg v := va_up_self _ _ _
    rw [e]
    unfold updV va_up
    split
    · rw [rq_pos hv]; rfl
    · rw [aV_r hkd]
  rcases hk with ⟨h2, hv⟩ | ⟨h2, hv⟩
  · rw [List.map_cons, List.map_cons, List.map_cons, rv_pos h0, rv_pos hv.1]
    obtain ⟨cv, g1, g2, g3, -⟩ := ce_obj R hv (by omega)
    have hcl := (hKK.1.1 6 _ rfl).2
    obtain ⟨kA, comp, k1, k2, k3, -⟩ := (hKK.1.2 4 _ rfl).2
    have hcomp : comp = D.1 6 := Option.some.inj (k3.symm.trans hcl.1)
    subst hcomp
    have hcl2 := hcl
    obtain ⟨-, kC, hkC, -⟩ := hcl2
    refine W.aast hx hb (ce_arr R h0 h1 h2 (by omega)) (fun q h => by cases h) (fun h => by cases h) k1 k2 rfl hkC ⟨h30, by rw [arrV_size]; exact in_lt h3⟩ g1 (fun q h => by rw [g3] at h; cases h) (by rw [g2]; exact hkC) (by rw [g2]; exact va_assign hcl) rfl rfl hd fun H' e1 e2 e3 => ?_
    exact K p e s m args below meth c H' _ cells slots QQ ls C (rel_arr R h0 h2 (by omega) (by omega) rfl rfl rfl (fun _ _ => rfl) (fun _ _ => rfl) (fun q hq => va_up_ne _ _ hq) (up 104 (by omega) hv.1) e1 e2 e3) (S.put e2 e3 (Nat.le_add_right _ _)) (LV_kil kn V) hc hs E
  · rw [List.map_cons, List.map_cons, List.map_cons, rv_pos h0, rv_pos hv.1]
    obtain ⟨cv, g1, g2, g3, -⟩ := ce_obj R hv (by omega)
    have hcl := (hKK.1.1 7 _ rfl).2
    obtain ⟨kA, comp, k1, k2, k3, -⟩ := (hKK.1.2 5 _ rfl).2
    have hcomp : comp = D.1 7 := Option.some.inj (k3.symm.trans hcl.1)
    subst hcomp
    have hcl2 := hcl
    obtain ⟨-, kC, hkC, -⟩ := hcl2
    refine W.aast hx hb (ce_arr R h0 h1 h2 (by omega)) (fun q h => by cases h) (fun h => by cases h) k1 k2 rfl hkC ⟨h30, by rw [arrV_size]; exact in_lt h3⟩ g1 (fun q h => by rw [g3] at h; cases h) (by rw [g2]; exact hkC) (by rw [g2]; exact va_assign hcl) rfl rfl hd fun H' e1 e2 e3 => ?_
    exact K p e s m args below meth c H' _ cells slots QQ ls C (rel_arr R h0 h2 (by omega) (by omega) rfl rfl rfl (fun _ _ => rfl) (fun _ _ => rfl) (fun q hq => va_up_ne _ _ hq) (up 105 (by omega) hv.1) e1 e2 e3) (S.put e2 e3 (Nat.le_add_right _ _)) (LV_kil kn V) hc hs E
end PSA
end
section
section PSN
variable {l : Launch} {D : va_G} {dA : Nat → ClassId} {base b : Nat} {X pc : Nat} {lo : LO} {st : List Value} {h : HP} {bd : Nat × Nat} {Q : QT} {s : State} {H : Heap}
theorem cat_map (base b : Nat) (st : List Value) : ((st.map (rv base b)).map fun v => v.category).sum = catS st := by
  rw [List.map_map]
  unfold catS
  congr 1
  exact List.map_congr_left (fun v _ => rv_cat base b v)
theorem S_new {A : Nat → Prop} {H0 H H1 : Heap} {locs : List Loc} (S : va_S A H0 H locs) (z : H1.size = H.size + 1) (o : ∀ q, q < H.size → H1[q]? = H[q]?) : va_S A H0 H1 locs :=
  ⟨Nat.le_trans S.1 (by omega), fun q h1 h2 => (o q (Nat.lt_of_lt_of_le h1 S.1)).trans (S.2.1 q h1 h2), S.2.2⟩
theorem nw_K {kd n : Nat} : gK (nwC h kd n) (gS h) = kd := va_up_self _ _ _
theorem nw_L {kd n : Nat} : gL (nwC h kd n) (gS h) = n := va_up_self _ _ _
theorem nw_I {kd n : Nat} : gI (nwC h kd n) (gS h) = fun _ => 0 := va_up_self _ _ _
theorem nw_J {kd n : Nat} : gJ (nwC h kd n) (gS h) = fun _ => 0 := va_up_self _ _ _
theorem nw_R {kd n : Nat} : gR (nwC h kd n) (gS h) = fun _ => 0 := va_up_self _ _ _
variable (kn : List Nat)
theorem ps_new {idx a : Nat} (hl : lkAtP (4, ownC X, idx, a, nF a)) (b1 : 1 ≤ bd.1) (b2 : nF a ≤ bd.2) (hd : decode (cod X) pc = .ok (.new idx, 3)) (K : PS l D dA base b X (pc + 3) (kil kn lo) (.ref (gS h) :: st) (nwC h a 0) (bd.1 - 1, bd.2 - nF a) Q) : PS l D dA base b X pc lo st h bd Q := by
  intro p e s m args below meth c H locs cells slots QQ ls C R S V hc hs E
  obtain ⟨hB, hC⟩ := hl
  have hab : a < 11 := by
    have : a < 11 ∧ nF a = nF a := by simpa [lkB] using hB
    exact this.1
  obtain ⟨CC, T, N, ty, c1, c2, c3, c4, c5, c6, c7, c8, c9, c10, c11⟩ := cls_ok a hab
  obtain ⟨hx, hb, hr, hml, hown, hts, hlk, hnm, hKK, hbs⟩ := id C
  have hKn := hKK.1.1 a _ c1
  have hcl : (Cond.classLink (cN (ownC X)) idx CC).before args s = true := hts _ (hC _ (by rw [← c4]; exact List.mem_singleton.mpr rfl))
  have hsz : H.size = base + (gS h - 1) := by have := R.2.1; have := R.2.2.1; omega
  have g0 : 0 < gS h := R.2.2.1
  subst c2
  refine W.newcK hx hb hown hcl (hts _ c6) (hts _ c7) rfl hd (show cells + 1 ≤ mcM X by omega) (show slots + nF a ≤ msM X by omega) hKn.2.1 rfl fun H1 kC hkC e1 z1 o1 => ?_
  have KW := K p e s m args below meth c H1 locs (cells + 1) (slots + nF a) QQ ls C (R.new z1 o1 ?_) (S_new S z1 o1) (LV_kil kn V) (show cells + 1 + (bd.1 - 1) ≤ mcM X by omega) (show slots + nF a + (bd.2 - nF a) ≤ msM X by omega) E
  · rw [List.map_cons, rv_pos g0, ← hsz] at KW
    exact KW
  · unfold CeR
    rw [nw_K, ← hsz]
    refine Or.inl ⟨hab, (u_born ty hts c5 hKn hkC e1 c9).to (fun k hk => ?_)⟩
    unfold fV
    rw [nw_R, nw_I]
    obtain ⟨t1, t2⟩ := c10 k hk
    cases hrf : isRf a k
    · rw [t2 hrf]; rfl
    · rw [hrf] at t1
      revert t1
      generalize ty k = z
      cases z <;> simp [isRefTy, defaultValue, rq, va_rf]
theorem ps_newa {t : ArrayType} {kd : Nat} {n : Int32} (hty : t = .int ∧ kd = 100 ∨ t = .byte ∧ kd = 101 ∨ t = .boolean ∧ kd = 102 ∨ t = .long ∧ kd = 103) (h1 : ¬ n < 0) (h2 : n.toNatClampNeg ≤ 60000000) (b1 : 1 ≤ bd.1) (b2 : n.toNatClampNeg ≤ bd.2) (hd : decode (cod X) pc = .ok (.newarray t, 2)) (K : PS l D dA base b X (pc + 2) (kil kn lo) (.ref (gS h) :: st) (nwC h kd n.toNatClampNeg) (bd.1 - 1, bd.2 - n.toNatClampNeg) Q) : PS l D dA base b X pc lo (.int n :: st) h bd Q := by
  intro p e s m args below meth c H locs cells slots QQ ls C R S V hc hs E
  obtain ⟨hx, hb, hr, hml, hown, hts, hlk, hnm, hKK, hbs⟩ := id C
  have hsz : H.size = base + (gS h - 1) := by have := R.2.1; have := R.2.2.1; omega
  have g0 : 0 < gS h := R.2.2.1
  have key : (Cond.arrayClass (newarray.typeOf t)).before args s = true ∧ n.toNatClampNeg * componentBytes (newarray.typeOf t) ≤ 536870912 ∧ (100 ≤ kd ∧ kd ≤ 105) ∧ s.vm.findClass ("[" ++ (newarray.typeOf t).toString) = some (dA kd) ∧ ∀ j, defaultValue (newarray.typeOf t) = aV base (nwC h kd n.toNatClampNeg) (gS h) kd j := by
    rcases hty with ⟨rfl, rfl⟩ | ⟨rfl, rfl⟩ | ⟨rfl, rfl⟩ | ⟨rfl, rfl⟩
    · exact ⟨hts _ arrC_I, by show _ * 4 ≤ _; omega, by omega, (hKK.1.2 0 _ rfl).2, fun j => by rw [aV_i (by omega), nw_I]; rfl⟩
    · exact ⟨hts _ arrC_B, by show _ * 1 ≤ _; omega, by omega, (hKK.1.2 1 _ rfl).2, fun j => by rw [aV_i (by omega), nw_I]; rfl⟩
    · exact ⟨hts _ arrC_Z, by show _ * 1 ≤ _; omega, by omega, (hKK.1.2 2 _ rfl).2, fun j => by rw [aV_i (by omega), nw_I]; rfl⟩
    · exact ⟨hts _ arrC_J, by show _ * 8 ≤ _; omega, by omega, (hKK.1.2 3 _ rfl).2, fun j => by rw [aV_j, nw_J]; rfl⟩
  obtain ⟨k1, k2, k3, k4, k5⟩ := key
  rw [List.map_cons]
  refine va_newaK hx hb k1 rfl hd rfl h1 rfl k2 (show cells + 1 ≤ mcM X by omega) (show slots + n.toNatClampNeg ≤ msM X by omega) rfl fun H1 cA e1 z1 o1 hAr hNm => ?_
  have hcA : cA = dA kd := Option.some.inj (hNm.symm.trans k4)
  subst hcA
  have KW := K p e s m args below meth c H1 locs (cells + 1) (slots + n.toNatClampNeg) QQ ls C (R.new z1 o1 ?_) (S_new S z1 o1) (LV_kil kn V) (show cells + 1 + (bd.1 - 1) ≤ mcM X by omega) (show slots + n.toNatClampNeg + (bd.2 - n.toNatClampNeg) ≤ msM X by omega) E
  · rw [List.map_cons, rv_pos g0, ← hsz] at KW
    exact KW
  · unfold CeR
    rw [nw_K, nw_L, ← hsz]
    refine Or.inr ⟨k3.1, k3.2, ?_⟩
    rw [e1, show (fun _ => defaultValue (newarray.typeOf t)) = aV base (nwC h kd n.toNatClampNeg) (gS h) kd from funext k5]
theorem ps_anew {idx a kd : Nat} {n : Int32} (hl : lkAtP (5, ownC X, idx, a, kd)) (h1 : ¬ n < 0) (h2 : n.toNatClampNeg ≤ 60000000) (b1 : 1 ≤ bd.1) (b2 : n.toNatClampNeg ≤ bd.2) (hd : decode (cod X) pc = .ok (.anewarray idx, 3)) (K : PS l D dA base b X (pc + 3) (kil kn lo) (.ref (gS h) :: st) (nwC h kd n.toNatClampNeg) (bd.1 - 1, bd.2 - n.toNatClampNeg) Q) : PS l D dA base b X pc lo (.int n :: st) h bd Q := by
  intro p e s m args below meth c H locs cells slots QQ ls C R S V hc hs E
  obtain ⟨hB, hC⟩ := hl
  have hab : a = 6 ∧ kd = 104 ∨ a = 7 ∧ kd = 105 := by simpa [lkB] using hB
  obtain ⟨hx, hb, hr, hml, hown, hts, hlk, hnm, hKK, hbs⟩ := id C
  have hsz : H.size = base + (gS h - 1) := by have := R.2.1; have := R.2.2.1; omega
  have g0 : 0 < gS h := R.2.2.1
  have hcl0 : (Cond.classLink (cN (ownC X)) idx (cN a)).before args s = true := hts _ (hC _ (List.mem_singleton.mpr rfl))
  obtain ⟨CC, hcl, hov, hnmA, k3⟩ : ∃ CC : String, (Cond.classLink (cN (ownC X)) idx CC).before args s = true ∧ va_AO CC s ∧ s.vm.findClass ("[" ++ (FieldType.object CC).toString) = some (dA kd) ∧ (103 < kd ∧ kd ≤ 105) := by
    rcases hab with ⟨rfl, rfl⟩ | ⟨rfl, rfl⟩
    · obtain ⟨kA, comp, q1, q2, q3, q4⟩ := (hKK.1.2 4 _ rfl).2
      exact ⟨"KeptSentences$Row", hcl0, hKK.2.1, q4, by omega⟩
    · obtain ⟨kA, comp, q1, q2, q3, q4⟩ := (hKK.1.2 5 _ rfl).2
      exact ⟨"KeptSentences$Text", hcl0, hKK.2.2.1, q4, by omega⟩
  rw [List.map_cons]
  refine W.anew hx hb hown hcl (va_AO.use hov) rfl hd rfl h1 (by omega) (show cells + 1 ≤ mcM X by omega) (show slots + n.toNatClampNeg ≤ msM X by omega) fun cA kA comp f1 f2 f3 f4 => ?_
  have hcA : cA = dA kd := Option.some.inj (f1.symm.trans hnmA)
  subst hcA
  generalize hH1 : H.push ({ cls := dA kd, slots := Array.replicate n.toNatClampNeg .null, vm := .none } : Cell) = H1
  have z1 : H1.size = H.size + 1 := by rw [← hH1, Array.size_push]
  have e1 : H1[H.size]? = some (arrV (dA kd) n.toNatClampNeg (fun _ => .null)) := by rw [← hH1, Array.getElem?_push_size, ← arrV_new]
  have o1 : ∀ q : Nat, q < H.size → H1[q]? = H[q]? := fun q hq => by rw [← hH1, Array.getElem?_push, if_neg (Nat.ne_of_lt hq)]
  have KW := K p e s m args below meth c H1 locs (cells + 1) (slots + n.toNatClampNeg) QQ ls C (R.new z1 o1 ?_) (S_new S z1 o1) (LV_kil kn V) (show cells + 1 + (bd.1 - 1) ≤ mcM X by omega) (show slots + n.toNatClampNeg + (bd.2 - n.toNatClampNeg) ≤ msM X by omega) E
  · rw [List.map_cons, rv_pos g0, ← hsz] at KW
    exact KW
  · unfold CeR
    rw [nw_K, nw_L, ← hsz]
    refine Or.inr ⟨by omega, k3.2, ?_⟩
    rw [e1]
    congr 2
    funext j
    rw [aV_r k3.1, nw_R]
    rfl
theorem ps_max {idx : Nat} {x y : Int32} (hl : lkAtP (11, ownC X, idx, 0, 0)) (hdp : 1 ≤ dep X) (hst : catS st ≤ 8) (hd : decode (cod X) pc = .ok (.invokestatic idx, 3)) (K : PS l D dA base b X (pc + 3) (kil kn lo) (.int (if x < y then y else x) :: st) h bd Q) : PS l D dA base b X pc lo (.int y :: .int x :: st) h bd Q := by
  intro p e s m args below meth c H locs cells slots QQ ls C R S V hc hs E
  obtain ⟨hx, hb, hr, hml, hown, hts, hlk, hnm, hKK, hbs⟩ := id C
  exact va_mmax hx hb (hml.trans V.1.symm) hown (hts _ (hl.2 _ (List.mem_of_getElem? (i := 0) rfl))) (hts _ (hl.2 _ (List.mem_of_getElem? (i := 1) rfl))) (hts _ (hl.2 _ (List.mem_of_getElem? (i := 2) rfl))) (hts _ (hl.2 _ (List.mem_of_getElem? (i := 3) rfl))) hdp (by rw [cat_map]; show _ ≤ 38 * dep X; omega) (show cells ≤ mcM X by omega) (show slots ≤ msM X by omega) hd (K p e s m args below meth c H locs cells slots QQ ls C R S (LV_kil kn V) hc hs E)
theorem ps_min {idx : Nat} {x y : Int32} (hl : lkAtP (12, ownC X, idx, 0, 0)) (hdp : 1 ≤ dep X) (hst : catS st ≤ 8) (hd : decode (cod X) pc = .ok (.invokestatic idx, 3)) (K : PS l D dA base b X (pc + 3) (kil kn lo) (.int (if y < x then y else x) :: st) h bd Q) : PS l D dA base b X pc lo (.int y :: .int x :: st) h bd Q := by
  intro p e s m args below meth c H locs cells slots QQ ls C R S V hc hs E
  obtain ⟨hx, hb, hr, hml, hown, hts, hlk, hnm, hKK, hbs⟩ := id C
  exact va_mmin hx hb (hml.trans V.1.symm) hown (hts _ (hl.2 _ (List.mem_of_getElem? (i := 0) rfl))) (hts _ (hl.2 _ (List.mem_of_getElem? (i := 1) rfl))) (hts _ (hl.2 _ (List.mem_of_getElem? (i := 2) rfl))) (hts _ (hl.2 _ (List.mem_of_getElem? (i := 3) rfl))) hdp (by rw [cat_map]; show _ ≤ 38 * dep X; omega) (show cells ≤ mcM X by omega) (show slots ≤ msM X by omega) hd (K p e s m args below meth c H locs cells slots QQ ls C R S (LV_kil kn V) hc hs E)
theorem ps_objI {idx r : Nat} (hl : lkAtP (8, ownC X, idx, 0, 0)) (hdp : 1 ≤ dep X) (hst : catS st ≤ 8) (hd : decode (cod X) pc = .ok (.invokespecial idx, 3)) (K : PS l D dA base b X (pc + 3) (kil kn lo) st h bd Q) : PS l D dA base b X pc lo (.ref r :: st) h bd Q := by
  intro p e s m args below meth c H locs cells slots QQ ls C R S V hc hs E
  obtain ⟨hx, hb, hr, hml, hown, hts, hlk, hnm, hKK, hbs⟩ := id C
  have KW := K p e s m args below meth c H locs cells slots QQ ls C R S (LV_kil kn V) hc hs E
  rw [List.map_cons]
  exact W.objInit hx hb hown (hts _ (hl.2 _ (List.mem_of_getElem? (i := 0) rfl))) (hts _ (hl.2 _ (List.mem_of_getElem? (i := 1) rfl))) (hts _ (hl.2 _ (List.mem_of_getElem? (i := 2) rfl))) rfl (by rw [hml]; exact V.1) rfl hd hdp (by rw [cat_map]; show 2 * 0 + _ + 12 ≤ 38 * dep X; omega) KW
theorem nat_words : nativeFrameWords "java/lang/System" "arraycopy" 5 + 11 ≤ 30 := by decide +kernel
theorem nn_toInt {z : Int32} (hz : ¬ z < 0) : z.toInt = (z.toNatClampNeg : Int) := by
  have h0 : (0 : Int) ≤ z.toInt := by
    have := Int32.not_lt.mp hz
    simpa using Int32.le_iff_toInt_le.mp this
  show z.toInt = ((z.toInt.toNat : Nat) : Int)
  omega
theorem ps_copy {idx src dst : Nat} {sp dp n : Int32} (hl : lkAtP (9, ownC X, idx, 0, 0)) (hdp : 1 ≤ dep X) (s0 : 0 < src) (s1 : src < gS h) (s2 : gK h src = 101) (d0 : 0 < dst) (d1 : dst < gS h) (d2 : gK h dst = 101) (n1 : ¬ sp < 0) (n2 : ¬ dp < 0) (n3 : ¬ n < 0) (z1 : sp.toNatClampNeg + n.toNatClampNeg ≤ gL h src) (z2 : dp.toNatClampNeg + n.toNatClampNeg ≤ gL h dst) (hf : ∀ i, i < n.toNatClampNeg → fits .byte (.int (gI h src (sp.toNatClampNeg + i))) = true) (hst : catS st ≤ 8)
    (hd : decode (cod X) pc = .ok (.invokestatic idx, 3)) (K : PS l D dA base b X (pc + 3) (kil kn lo) st (stA h dst (va_cpy (gI h src) (gI h dst) sp.toNatClampNeg dp.toNatClampNeg n.toNatClampNeg)) bd Q) : PS l D dA base b X pc lo (.int n :: .int dp :: .ref dst :: .int sp :: .ref src :: st) h bd Q := by
  intro p e s m args below meth c H locs cells slots QQ ls C R S V hc hs E
  obtain ⟨hx, hb, hr, hml, hown, hts, hlk, hnm, hKK, hbs⟩ := id C
  have f0 : aV base h src 101 = fun j => .int (gI h src j) := funext fun j => aV_i (by omega)
  have f1 : aV base h dst 101 = fun j => .int (gI h dst j) := funext fun j => aV_i (by omega)
  have c0 := ce_arr R s0 s1 s2 (by omega)
  have c1 := ce_arr R d0 d1 d2 (by omega)
  rw [f0] at c0
  rw [f1] at c1
  have A1 := (KK_arr hKK).2.1
  obtain ⟨-, k0, hk0, cm0, hkk0⟩ := A1 (gL h src) (fun j => .int (gI h src j))
  obtain ⟨-, k1, hk1, cm1, hkk1⟩ := A1 (gL h dst) (fun j => .int (gI h dst j))
  simp only [List.map_cons]
  rw [rv_pos d0, rv_pos s0]
  intro T hT XX
  obtain ⟨vm', X', step⟩ := XX.arraycopy hx hown (hts _ (hl.2 _ (List.mem_of_getElem? (i := 0) rfl))) (hts _ (hl.2 _ (List.mem_of_getElem? (i := 1) rfl))) (hts _ (hl.2 _ (List.mem_of_getElem? (i := 2) rfl))) (hts _ (hl.2 _ (List.mem_of_getElem? (i := 3) rfl))) (src := base + (src - 1)) (dst := base + (dst - 1)) (srcPos := sp) (destPos := dp) (n := n) (by rw [hT]; exact c0) (by rw [hT]; exact c1)
    (fun _ h => by cases h) (fun _ h => by cases h) (fun h => by cases h) (fun h => by cases h) hk0 hk1 hkk0 hkk1 (by rfl) n1 n2 n3 (by rw [nn_toInt n1, nn_toInt n3, arrV_size]; omega) (by rw [nn_toInt n2, nn_toInt n3, arrV_size]; omega)
    (fun vm₁ _ i hi => by
      have e : (arrV (dA 101) (gL h src) (fun j => Value.int (gI h src j))).slots.getD (sp.toNatClampNeg + i) .null = .int (gI h src (sp.toNatClampNeg + i)) := by
        rw [Array.getD_eq_getD_getElem?, arrV_read _ _ (by omega)]
        rfl
      rw [e]
      exact ⟨hf i hi, trivial⟩)
    (g := F0 m pc ls (.int n :: .int dp :: .ref (base + (dst - 1)) :: .int sp :: .ref (base + (src - 1)) :: st.map (rv base b))) rfl (V.1.trans hml.symm) (rest := st.map (rv base b)) rfl (by rw [hb]; exact hd) hdp (by rw [cat_map]; show 2 * 0 + _ + _ ≤ 38 * dep X; have hnw := nat_words; omega)
  have e1 : copied (arrV (dA 101) (gL h src) (fun j => Value.int (gI h src j))) (arrV (dA 101) (gL h dst) (fun j => Value.int (gI h dst j))) sp dp n = arrV (dA 101) (gL h dst) (fun j => Value.int (va_cpy (gI h src) (gI h dst) sp.toNatClampNeg dp.toNatClampNeg n.toNatClampNeg j)) := va_copied (fun z => .int z) _ _ _ _ z1
  rw [e1] at X' step
  have hlt : base + (dst - 1) < H.size := (Array.getElem?_eq_some_iff.mp c1).1
  generalize hce : arrV (dA 101) (gL h dst) (fun j => Value.int (va_cpy (gI h src) (gI h dst) sp.toNatClampNeg dp.toNatClampNeg n.toNatClampNeg j)) = ce at X' step
  have hheap : ((T.setVm vm').setCell (base + (dst - 1)) ce).heap = H.setIfInBounds (base + (dst - 1)) ce := by rw [← hT]; rfl
  have oq : ∀ q : Nat, q ≠ base + (dst - 1) → (H.setIfInBounds (base + (dst - 1)) ce)[q]? = H[q]? := fun q hq => by simp [Array.getElem?_setIfInBounds, Ne.symm hq]
  have gi : gI (stA h dst (va_cpy (gI h src) (gI h dst) sp.toNatClampNeg dp.toNatClampNeg n.toNatClampNeg)) dst = va_cpy (gI h src) (gI h dst) sp.toNatClampNeg dp.toNatClampNeg n.toNatClampNeg := va_up_self _ _ _
  have R' : Rel D dA base b (stA h dst (va_cpy (gI h src) (gI h dst) sp.toNatClampNeg dp.toNatClampNeg n.toNatClampNeg)) s (H.setIfInBounds (base + (dst - 1)) ce) := by
    refine R.upd d0 rfl rfl rfl (fun q hq => va_up_ne _ _ hq) (fun _ _ => rfl) (fun _ _ => rfl) (by simp) oq ?_
    unfold CeR
    have gk : gK (stA h dst (va_cpy (gI h src) (gI h dst) sp.toNatClampNeg dp.toNatClampNeg n.toNatClampNeg)) dst = 101 := d2
    rw [gk]
    refine Or.inr ⟨by omega, by omega, ?_⟩
    rw [show (H.setIfInBounds (base + (dst - 1)) ce)[base + (dst - 1)]? = some ce by simp [Array.getElem?_setIfInBounds, hlt], ← hce]
    congr 2
    funext j
    rw [aV_i (by omega), gi]
  obtain ⟨t, a1, b1⟩ := K p e s m args below meth c _ _ cells slots QQ ls C R' ⟨by simp; exact S.1, fun q g1 g2 => by
      rw [oq q (fun e => g2 (by rw [e]; exact Nat.le_add_right _ _))]
      exact S.2.1 q g1 g2, fun q hq => by
      rcases List.mem_append.mp hq with h | h
      · exact S.2.2 q h
      · obtain ⟨z, -, hz⟩ := List.mem_map.mp h
        rw [← hz]
        exact Nat.le_add_right _ _⟩ (LV_kil kn V) hc hs E _ hheap X'
  exact ⟨t, step t a1, b1⟩
end PSN
end
section
def wsM (a : Nat) : List Cond := Cond.code (yM a) (cod a) (mxl a) (rtyK (rk a)) :: gtbl
def VOK (a : Nat) (v : Option Value) : Prop := (rk a = 0 ∧ v = none) ∨ (rk a = 2 ∧ ∃ x : Int64, v = some (.long x)) ∨ ((rk a = 1 ∨ rk a = 3) ∧ ∃ x : Int32, v = some (.int x))
def Pcx (D : va_G) (dA : Nat → ClassId) (base b : Nat) (vs : List Value) (h : HP) : Array Value → State → Prop := va_Pc (vs.map (rv base b)) (fun U => Rel D dA base b h U U.heap ∧ KK D dA U ∧ base ≤ U.heap.size)
def Qcx (D : va_G) (dA : Nat → ClassId) (base b a : Nat) (Q' : QT) : Array Value → State → Outcome → State → Prop := fun _ st oc t => ∃ (v : Option Value) (h' : HP), oc = .returned (v.map (rv base b)) ∧ Rel D dA base b h' t t.heap ∧ Q' v h' ∧ VOK a v ∧ va_F (fun q => base ≤ q) st t
theorem aft_at {a : Nat} {K Q' : QT} {v : Option Value} {h' : HP} (H : aft (rk a) K Q') (hv : VOK a v) (hq : Q' v h') : K v h' := by
  unfold aft at H
  rcases hv with ⟨r, rfl⟩ | ⟨r, x, rfl⟩ | ⟨r | r, x, rfl⟩
  · rw [r] at H; exact H h' hq
  · rw [r] at H; exact H x h' hq
  · rw [r] at H; exact H x h' hq
  · rw [r] at H; exact H x h' hq
theorem nth_nil (i : Nat) : nth [] i = none := by cases i <;> rfl
theorem nth_rep : ∀ (n i : Nat), nth (List.replicate n none) i = none
  | 0, i => nth_nil i
  | n + 1, 0 => rfl
  | n + 1, i + 1 => nth_rep n i
theorem ent_mem (base b n : Nat) : ∀ (vs : List Value) (k i : Nat) (v : Value), nth (ent vs ++ List.replicate n none) i = some v → (k + i, rv base b v) ∈ lv_args k (vs.map (rv base b))
  | [], k, i, v, h => by
    have h2 : nth (List.replicate n none) i = some v := h
    rw [nth_rep] at h2
    cases h2
  | w :: vs, k, i, v, h => by
    rw [List.map_cons]
    unfold lv_args
    rw [rv_cat]
    rcases lv_cat w with hw | hw
    · have e : ent (w :: vs) = some w :: ent vs := by simp [ent, hw]
      rw [e] at h
      rw [if_neg (by omega)]
      cases i with
      | zero =>
        have h2 : some w = some v := h
        cases h2
        exact List.mem_cons_self
      | succ i =>
        have := ent_mem base b n vs (k + 1) i v h
        rw [show k + 1 + i = k + (i + 1) by omega] at this
        exact List.mem_cons_of_mem _ this
    · have e : ent (w :: vs) = some w :: none :: ent vs := by simp [ent, hw]
      rw [e] at h
      rw [if_pos hw]
      match i, h with
      | 0, h =>
        have h2 : some w = some v := h
        cases h2
        exact List.mem_cons_self
      | 1, h =>
        have h2 : (none : Option Value) = some v := h
        cases h2
      | i + 2, h =>
        have := ent_mem base b n vs (k + 2) i v h
        rw [show k + 2 + i = k + (i + 2) by omega] at this
        exact List.mem_cons_of_mem _ this
theorem ent_len (base b : Nat) : ∀ vs : List Value, (lg_sl (vs.map (rv base b))).length = (ent vs).length
  | [] => rfl
  | w :: vs => by
    have ih := ent_len base b vs
    unfold lg_sl at ih ⊢
    rw [List.map_cons, List.flatMap_cons, List.length_append, ih, rv_cat]
    rcases lv_cat w with hw | hw
    · have e : ent (w :: vs) = some w :: ent vs := by simp [ent, hw]
      rw [e, hw]; simp; omega
    · have e : ent (w :: vs) = some w :: none :: ent vs := by simp [ent, hw]
      rw [e, hw]; simp; omega
section PSC
variable {l : Launch} {D : va_G} {dA : Nat → ClassId} {base b : Nat}
theorem LV_entry {a : Nat} {vs : List Value} (hlen : (ent vs).length ≤ mxl a) : LV base b ((lg_sl (vs.map (rv base b)) ++ List.replicate (mxl a - (lg_sl (vs.map (rv base b))).length) Slot.unset).toArray) (mxl a) (entM a vs) := by
  have h := lv_entry (vs.map (rv base b)) (n := mxl a) (by rw [ent_len]; exact hlen)
  refine ⟨h.1, h.2.1, fun i v q => ?_⟩
  have := ent_mem base b _ vs 0 i v q
  rw [Nat.zero_add] at this
  exact h.2.2 _ this
theorem met_of {a : Nat} {vs : List Value} {h : HP} {Q' : QT} (hpl : plainName (yM a).cls = true) (hcl : (yM a).cls = cN (ownC a)) (hlen : (ent vs).length ≤ mxl a) (K : PS l D dA base b a 0 (entM a vs) [] h (mcM a, msM a) Q') :
    Met l (yM a) (wsM a) (rmM a) (Pcx D dA base b vs h) (Qcx D dA base b a Q') (mcM a) (msM a) (fun q => base ≤ q) := by
  refine Met.ofW (cc := cod a) (maxL := mxl a) (ret := rtyK (rk a)) hpl rfl ?_
  intro p e s m args below meth c s₁ B hml hv
  obtain ⟨rfl, hR, hKK, hbs⟩ := hv
  have hts := atoms_spec (ws := wsM a) B.pre
  rw [lg_entry_eq]
  refine K p e s m _ below meth c s.heap [] 0 0 _ _ ⟨B.exec, B.bytes, B.returns, hml, by rw [← hcl]; exact findClass_of_methodNamed B.named, fun w hw => hts w (List.mem_cons_of_mem _ hw), B.notSynchronized, fun q => (name_of_methodNamed B.named B.method).1.trans q, hKK, hbs⟩ hR va_S.rf (LV_entry hlen) (show 0 + mcM a ≤ mcM a by omega) (show 0 + msM a ≤ msM a by omega) ?_
  intro v h' H' locs' cells' slots' pc' ls' R' S' hc' hs' hQ hret
  have hlk := B.notSynchronized
  refine W.widen hc' hs' ?_
  have hRt : ∀ t : State, t.heap = H' → s.WarmedH t.vm → Rel D dA base b h' t t.heap := fun t ht hW => by rw [ht]; exact R'.moved hW.alike
  rcases hret with ⟨r0, rfl, hd⟩ | ⟨r0, ⟨x, rfl⟩, hd⟩ | ⟨r0, ⟨x, rfl, hx⟩, hd⟩ | ⟨r0, ⟨x, rfl⟩, hd⟩
  · exact W.vret B.exec B.bytes (by rw [B.returns, r0]; rfl) (fun t ht hW => ⟨none, h', rfl, hRt t ht hW, hQ, Or.inl ⟨r0, rfl⟩, S'.F ht⟩) S'.2.2 hd
  · exact W.iret B.exec B.bytes (by rw [B.returns, r0]; rfl) (fun t ht hW => ⟨some (.int x), h', rfl, hRt t ht hW, hQ, Or.inr (Or.inr ⟨Or.inl r0, x, rfl⟩), S'.F ht⟩) S'.2.2 hd
  · exact W.zret (ty := .boolean) B.exec B.bytes (by rw [B.returns, r0]; rfl) (by rcases hx with rfl | rfl <;> decide) (fun t ht hW => ⟨some (.int x), h', rfl, hRt t ht hW, hQ, Or.inr (Or.inr ⟨Or.inr r0, x, rfl⟩), S'.F ht⟩) S'.2.2 hd
  · exact W.lret B.exec B.bytes (by rw [B.returns, r0]; rfl) (fun t ht hW => ⟨some (.long x), h', rfl, hRt t ht hW, hQ, Or.inr (Or.inl ⟨r0, x, rfl⟩), S'.F ht⟩) S'.2.2 hd
theorem run_W {p : Program} {e : Env} {R : Room} {s : State} {m : MethodId} {args : Array Value} {below : List Frame} {meth : Method} {c : Code} {H : Heap} {locs : List Loc} {cells slots mc ms pc : Nat} {ls : Array Slot} {st0 rest : List Value} {Qa : State → Outcome → State → Prop} {free : Addr → Prop} {QQ : State → Prop}
    (hr : va_Run p l e R s m args below meth c H locs cells slots mc ms (F0 m pc ls st0) rest Qa free) (kk : ∀ (v : Option Value) (st₀ t : State) (H1 : Heap) (L : List Loc), st₀.heap = H → t.heap = H1 → s.vm.Alike t.vm → Qa st₀ (.returned v) t → (∀ q ∈ L, free q.base) → W p l e R s m args below meth c H1 (locs ++ L) (cells + mc) (slots + ms) QQ (F0 m (pc + 3) ls (v.toList ++ rest))) :
    W p l e R s m args below meth c H locs cells slots QQ (F0 m pc ls st0) := by
  intro T hT XX
  obtain ⟨v, st₀, t, T', L, h0, X', hL, e1, e2, hq, st⟩ := hr T hT XX
  obtain ⟨t2, a1, b1⟩ := kk v st₀ t T'.heap L h0 e1.symm (by rw [← e2]; exact X'.warmed.alike) hq hL T' rfl X'
  exact ⟨t2, st t2 a1, b1⟩
theorem good_gtbl {a : Nat} (hc : Cond.code (yM a) (cod a) (mxl a) (rtyK (rk a)) ∈ gtbl) : GoodIn gtbl (wsM a) := by
  intro w hw
  have hg : w ∈ gtbl := by
    rcases List.mem_cons.mp hw with rfl | h
    · exact hc
    · exact h
  exact ⟨hg, good_of_word (List.mem_filter.mp hg).2⟩
theorem popN_spec : ∀ (n : Nat) (acc st : List Value) {as rest : List Value}, popN n acc st = some (as, rest) → ∃ xs, as = xs ++ acc ∧ st = xs.reverse ++ rest ∧ xs.length = n
  | 0, acc, st, as, rest, h => by
    cases h
    exact ⟨[], rfl, rfl, rfl⟩
  | n + 1, acc, v :: st, as, rest, h => by
    obtain ⟨xs, h1, h2, h3⟩ := popN_spec n (v :: acc) st h
    exact ⟨xs ++ [v], by rw [h1]; simp, by rw [h2]; simp, by simp [h3]⟩
  | n + 1, acc, [], as, rest, h => by cases h
theorem moB_spec {a n : Nat} (h : moB a n = true) : (yM a).cls = cN (ownC a) ∧ (yM a).cls ≠ "java/lang/invoke/MethodHandle" ∧ (yM a).cls ≠ "java/lang/invoke/VarHandle" ∧ (parseMethodDescriptor (yM a).desc).map (fun d => d.parameters.length) = some n ∧ plainName (yM a).cls = true ∧ mxl a ≤ 19 := by
  simp only [moB, Bool.and_eq_true, decide_eq_true_eq] at h
  exact ⟨h.1.1.1.1.1, h.1.1.1.1.2, h.1.1.1.2, h.1.1.2, h.1.2, h.2⟩
variable {X pc : Nat} {lo : LO} {st : List Value} {h : HP} {bd : Nat × Nat} {Q : QT} {s : State} {H : Heap} (kn : List Nat)
theorem blind_Pcx {vs : List Value} : FrameBlind (Pcx D dA base b vs h) := by
  intro a U g mk q
  obtain ⟨q0, qR, qK, qb⟩ := q
  exact ⟨q0, qR.moved (u := U.calling g mk a) (Vm.Alike.refl U.vm), KK_same (u := U.calling g mk a) rfl qK, qb⟩
theorem pre_Pcx {vs : List Value} {A : Nat → Prop} {H0 : Heap} {locs : List Loc} (R : Rel D dA base b h s H) (hKK : KK D dA s) (hbs : base ≤ H0.size) (S : va_S A H0 H locs) : ∀ U : State, U.heap = H → s.WarmedH U.vm → Pcx D dA base b vs h (vs.map (rv base b)).toArray U := fun U hU hW => ⟨rfl, by rw [hU]; exact R.moved hW.alike, KK_warm hW hKK, by rw [hU]; exact Nat.le_trans hbs S.1⟩
/-- behind a call -/
theorem after_call {p : Program} {e : Env} {m : MethodId} {args : Array Value} {below : List Frame} {meth : Method} {c : Code} {locs : List Loc} {cells slots a : Nat} {ls : Array Slot} {rest st0 : List Value} {QQ : State → Prop} {Q' : QT} {vs : Array Value}
    (C : Ctx p X s m args meth c D dA base) (S : va_S (fun q => base ≤ q) s.heap H locs) (V : LV base b ls (mxl X) lo) (hc : cells + bd.1 ≤ mcM X) (hs : slots + bd.2 ≤ msM X)
    (E : ∀ (v : Option Value) (h' : HP) (H' : Heap) (locs' : List Loc) (cells' slots' pc' : Nat) (ls' : Array Slot), Rel D dA base b h' s H' → va_S (fun q => base ≤ q) s.heap H' locs' → cells' ≤ mcM X → slots' ≤ msM X → Q v h' → RetOK X v pc' → W p l e (rmM X) s m args below meth c H' locs' cells' slots' QQ (F0 m pc' ls' ((v.map (rv base b)).toList)))
    (b1 : mcM a ≤ bd.1) (b2 : msM a ≤ bd.2) (K2 : aft (rk a) (fun v h' => PS l D dA base b X (pc + 3) (kil kn lo) (v.toList ++ rest) h' (bd.1 - mcM a, bd.2 - msM a) Q) Q')
    (hr : va_Run p l e (rmM X) s m args below meth c H locs cells slots (mcM a) (msM a) (F0 m pc ls st0) (rest.map (rv base b)) (Qcx D dA base b a Q' vs) (fun q => base ≤ q)) :
    W p l e (rmM X) s m args below meth c H locs cells slots QQ (F0 m pc ls st0) := by
  refine run_W hr fun v st₀ t H1 L h0 e1 hvm hq hL => ?_
  obtain ⟨w, h', ev, R', hQ', hV, F'⟩ := hq
  have ev : v = w.map (rv base b) := Outcome.returned.inj ev
  subst ev
  rw [e1] at R'
  have KW := aft_at K2 hV hQ' p e s m args below meth c H1 (locs ++ L) (cells + mcM a) (slots + msM a) QQ ls C (R'.moved hvm.symm) ⟨Nat.le_trans S.1 (by have := F'.1; rw [h0, e1] at this; exact this), fun q g1 g2 => by
      have h3 := F'.2 q (by rw [h0]; exact Nat.lt_of_lt_of_le g1 S.1) g2
      rw [h0, e1] at h3
      rw [h3]
      exact S.2.1 q g1 g2, fun q hq => by
      rcases List.mem_append.mp hq with h | h
      · exact S.2.2 q h
      · exact hL q h⟩ (LV_kil kn V) (show cells + mcM a + (bd.1 - mcM a) ≤ mcM X by omega) (show slots + msM a + (bd.2 - msM a) ≤ msM X by omega) E
  rw [List.map_append] at KW
  have e2 : (w.toList.map (rv base b)) = (w.map (rv base b)).toList := by cases w <;> rfl
  rw [e2] at KW
  exact KW
theorem ps_virt {idx a n r : Nat} {as rest : List Value} (hl : lkAtP (1, ownC X, idx, a, n)) (hdp : dep a + 1 ≤ dep X) (hp : popN n [] st = some (as, .ref r :: rest)) (ho : isO h r (ownC a)) (hd : decode (cod X) pc = .ok (.invokevirtual idx, 3)) (K : Fcall (PS l D dA base b) X (pc + 3) a (.ref r :: as) rest (kil kn lo) h bd Q) : PS l D dA base b X pc lo st h bd Q := by
  intro p e s m args below meth c H locs cells slots QQ ls C R S V hc hs E
  obtain ⟨k1, b1, b2, hlen, Q', K1, K2⟩ := K
  obtain ⟨hB, hC⟩ := hl
  have hB2 : moB a n = true ∧ ownC a < 11 := by simpa [lkB] using hB
  obtain ⟨m1, m2, m3, m4, m5, m6⟩ := moB_spec hB2.1
  obtain ⟨hx, hb, hr, hml, hown, hts, hlk, hnm, hKK, hbs⟩ := id C
  obtain ⟨xs, x1, x2, x3⟩ := popN_spec n [] st hp
  rw [List.append_nil] at x1
  subst x1
  subst x2
  have hM := met_of m5 m1 hlen K1
  have hcode : Cond.code (yM a) (cod a) (mxl a) (rtyK (rk a)) ∈ gtbl := hC _ (List.mem_of_getElem? (i := 3) rfl)
  have hini := hts _ (hC _ (List.mem_of_getElem? (i := 4) rfl))
  obtain ⟨CC, T, N, ty, c1, c2, c3, c4, -⟩ := cls_ok (ownC a) hB2.2
  obtain ⟨cell, q1, q2, q3, q4⟩ := ce_obj R ho hB2.2
  have hfc : s.vm.findClass (cN (ownC a)) = some cell.cls := by rw [q2, c4]; exact (hKK.1.1 _ _ c1).2.1
  have cw : CallW (rmM X) s args (cN (ownC X)) (cN (ownC a)) idx (yM a) (cod a) (mxl a) (rtyK (rk a)) (wsM a) (rmM a) (mcM a) (msM a) n :=
    ⟨callB_of (own := cN (ownC X)) (index := idx) (ws' := gtbl) n hts (good_gtbl hcode) rfl rfl rfl hini (hts _ (hC _ (List.mem_of_getElem? (i := 0) rfl))) ⟨m2, m3, m4⟩ ⟨hdp, by show 8 + (mxl a + 11) + 38 * dep a ≤ 38 * dep X; omega⟩, hts _ (hC _ (List.mem_of_getElem? (i := 1) rfl)), hts _ (hC _ (List.mem_of_getElem? (i := 2) rfl))⟩
  refine after_call kn C S V hc hs E b1 b2 K2 (vs := (Value.ref (base + (r - 1)) :: as.map (rv base b)).toArray) ?_
  have hpre := pre_Pcx (vs := .ref r :: as) R hKK hbs S
  rw [List.map_cons, rv_pos ho.1] at hpre
  exact va_runV (As := as.map (rv base b)) (rest := rest.map (rv base b)) ⟨hx, hb, hml, hown, hts⟩ hM cw ⟨blind_Pcx, ⟨cell, q1, by rw [q3]; rfl, hfc⟩, hpre⟩ rfl (by rw [List.length_map]; exact x3) V.1 (by rw [List.map_append, List.map_reverse, List.map_cons, rv_pos ho.1]) (lv_room (by rw [cat_map]; exact k1)) hd ⟨show cells + mcM a ≤ mcM X by omega, show slots + msM a ≤ msM X by omega⟩
theorem ps_stat {idx a n : Nat} {as rest : List Value} (hl : lkAtP (2, ownC X, idx, a, n)) (hdp : dep a + 1 ≤ dep X) (hp : popN n [] st = some (as, rest)) (hd : decode (cod X) pc = .ok (.invokestatic idx, 3)) (K : Fcall (PS l D dA base b) X (pc + 3) a as rest (kil kn lo) h bd Q) : PS l D dA base b X pc lo st h bd Q := by
  intro p e s m args below meth c H locs cells slots QQ ls C R S V hc hs E
  obtain ⟨k1, b1, b2, hlen, Q', K1, K2⟩ := K
  obtain ⟨hB, hC⟩ := hl
  have hB2 : moB a n = true := by simpa [lkB] using hB
  obtain ⟨m1, m2, m3, m4, m5, m6⟩ := moB_spec hB2
  obtain ⟨hx, hb, hr, hml, hown, hts, hlk, hnm, hKK, hbs⟩ := id C
  obtain ⟨xs, x1, x2, x3⟩ := popN_spec n [] st hp
  rw [List.append_nil] at x1
  subst x1
  subst x2
  have hM := met_of m5 m1 hlen K1
  have hcode : Cond.code (yM a) (cod a) (mxl a) (rtyK (rk a)) ∈ gtbl := hC _ (List.mem_of_getElem? (i := 2) rfl)
  have hini := hts _ (hC _ (List.mem_of_getElem? (i := 3) rfl))
  have cb : CallB (rmM X) s args (cN (ownC X)) idx (yM a) (cod a) (mxl a) (rtyK (rk a)) (wsM a) (rmM a) (mcM a) (msM a) n :=
    callB_of (own := cN (ownC X)) (index := idx) (ws' := gtbl) n hts (good_gtbl hcode) rfl rfl rfl hini (hts _ (hC _ (List.mem_of_getElem? (i := 0) rfl))) ⟨m2, m3, m4⟩ ⟨hdp, by show 8 + (mxl a + 11) + 38 * dep a ≤ 38 * dep X; omega⟩
  refine after_call kn C S V hc hs E b1 b2 K2 (vs := (as.map (rv base b)).toArray) ?_
  exact va_runS (As := as.map (rv base b)) (rest := rest.map (rv base b)) ⟨hx, hb, hml, hown, hts⟩ hM ⟨cb, hts _ (hC _ (List.mem_of_getElem? (i := 1) rfl))⟩ ⟨blind_Pcx, pre_Pcx R hKK hbs S⟩ rfl (by rw [List.length_map]; exact x3) V.1 (by rw [List.map_append, List.map_reverse]) (lv_room (by rw [cat_map]; exact k1)) hd ⟨show cells + mcM a ≤ mcM X by omega, show slots + msM a ≤ msM X by omega⟩
theorem ps_spec {idx a n r : Nat} {as rest : List Value} (hl : lkAtP (3, ownC X, idx, a, n) ∨ lkAtP (10, ownC X, idx, a, n)) (hdp : dep a + 1 ≤ dep X) (hp : popN n [] st = some (as, .ref r :: rest)) (hd : decode (cod X) pc = .ok (.invokespecial idx, 3)) (K : Fcall (PS l D dA base b) X (pc + 3) a (.ref r :: as) rest (kil kn lo) h bd Q) : PS l D dA base b X pc lo st h bd Q := by
  intro p e s m args below meth c H locs cells slots QQ ls C R S V hc hs E
  obtain ⟨k1, b1, b2, hlen, Q', K1, K2⟩ := K
  obtain ⟨hx, hb, hr, hml, hown, hts, hlk, hnm, hKK, hbs⟩ := id C
  obtain ⟨xs, x1, x2, x3⟩ := popN_spec n [] st hp
  rw [List.append_nil] at x1
  subst x1
  subst x2
  have hpre := pre_Pcx (vs := .ref r :: as) R hKK hbs S
  rw [List.map_cons] at hpre
  have er : rv base b (.ref r) = .ref (ad base b r) := rfl
  rw [er] at hpre
  refine after_call kn C S V hc hs E b1 b2 K2 (vs := (Value.ref (ad base b r) :: as.map (rv base b)).toArray) ?_
  rcases hl with ⟨hB, hC⟩ | ⟨hB, hC⟩
  · have hB2 : (moB a n = true ∧ (yM a).name = "<init>") ∧ rk a = 0 := by simpa [lkB] using hB
    obtain ⟨m1, m2, m3, m4, m5, m6⟩ := moB_spec hB2.1.1
    have hM := met_of m5 m1 hlen K1
    have hcode : Cond.code (yM a) (cod a) (mxl a) (rtyK (rk a)) ∈ gtbl := hC _ (List.mem_of_getElem? (i := 2) rfl)
    have hini := hts _ (hC _ (List.mem_of_getElem? (i := 3) rfl))
    have cb : CallB (rmM X) s args (cN (ownC X)) idx (yM a) (cod a) (mxl a) (rtyK (rk a)) (wsM a) (rmM a) (mcM a) (msM a) n :=
      callB_of (own := cN (ownC X)) (index := idx) (ws' := gtbl) n hts (good_gtbl hcode) rfl rfl rfl hini (hts _ (hC _ (List.mem_of_getElem? (i := 0) rfl))) ⟨m2, m3, m4⟩ ⟨hdp, by show 8 + (mxl a + 11) + 38 * dep a ≤ 38 * dep X; omega⟩
    rw [show rtyK (rk a) = none by rw [hB2.2]; rfl] at cb
    exact va_runI (As := as.map (rv base b)) (rest := rest.map (rv base b)) ⟨hx, hb, hml, hown, hts⟩ hM ⟨cb, hB2.1.2, hts _ (hC _ (List.mem_of_getElem? (i := 1) rfl))⟩ ⟨blind_Pcx, hpre⟩ rfl (by rw [List.length_map]; exact x3) V.1 (by rw [List.map_append, List.map_reverse, List.map_cons, er]) (lv_room (by rw [cat_map]; exact k1)) hd ⟨show cells + mcM a ≤ mcM X by omega, show slots + msM a ≤ msM X by omega⟩
  · have hB2 : ((moB a n = true ∧ (yM a).name = "<init>") ∧ rk a = 0) ∧ ((ownC X, idx, a) = (9, 34, 1) ∨ (ownC X, idx, a) = (9, 50, 56) ∨ (ownC X, idx, a) = (9, 57, 6)) := by
      simp only [lkB, Bool.and_eq_true, decide_eq_true_eq] at hB
      exact hB
    obtain ⟨m1, m2, m3, m4, m5, m6⟩ := moB_spec hB2.1.1.1
    have hM := met_of m5 m1 hlen K1
    have hcode : Cond.code (yM a) (cod a) (mxl a) (rtyK (rk a)) ∈ gtbl := hC _ (List.mem_of_getElem? (i := 1) rfl)
    have hini := hts _ (hC _ (List.mem_of_getElem? (i := 2) rfl))
    have hnst : va_Nw (.methodLinkNest (cN (ownC X)) idx (yM a) "KeptSentences") s := by
      rcases hB2.2 with q | q | q
      · simp only [Prod.mk.injEq] at q
        rw [q.1, q.2.1, q.2.2]; exact hKK.2.2.2.1
      · simp only [Prod.mk.injEq] at q
        rw [q.1, q.2.1, q.2.2]; exact hKK.2.2.2.2.1
      · simp only [Prod.mk.injEq] at q
        rw [q.1, q.2.1, q.2.2]; exact hKK.2.2.2.2.2
    have cw : va_CN (rmM X) s args (cN (ownC X)) idx (yM a) "KeptSentences" (cod a) (mxl a) (rtyK (rk a)) (wsM a) (rmM a) (mcM a) (msM a) n :=
      va_cnB (ws' := gtbl) n hts (good_gtbl hcode) rfl rfl rfl hnst hini ⟨m2, m3, m4⟩ ⟨hdp, by show 8 + (mxl a + 11) + 38 * dep a ≤ 38 * dep X; omega⟩
    rw [show rtyK (rk a) = none by rw [hB2.1.2]; rfl] at cw
    exact va_runIN (As := as.map (rv base b)) (rest := rest.map (rv base b)) ⟨hx, hb, hml, hown, hts⟩ hM ⟨cw, hB2.1.1.2, hts _ (hC _ (List.mem_of_getElem? (i := 0) rfl))⟩ ⟨blind_Pcx, hpre⟩ rfl (by rw [List.length_map]; exact x3) V.1 (by rw [List.map_append, List.map_reverse, List.map_cons, er]) (lv_room (by rw [cat_map]; exact k1)) hd ⟨show cells + mcM a ≤ mcM X by omega, show slots + msM a ≤ msM X by omega⟩
end PSC
end
section
section PSF
variable {l : Launch} {D : va_G} {dA : Nat → ClassId} {base b : Nat} {X pc : Nat} {lo : LO} {st : List Value} {h : HP} {bd : Nat × Nat} {Q : QT}
theorem len_of {i : Instr} {nx k : Nat} (hd : decode (cod X) pc = .ok (i, nx - pc)) (hln : iln i = 0 ∨ nx = pc + iln i) (hk : iln i = k) (h0 : 0 < k) : nx = pc + k ∧ decode (cod X) pc = .ok (i, k) := by
  have e : nx = pc + k := by
    rcases hln with q | q
    · omega
    · omega
  refine ⟨e, ?_⟩
  rw [e, Nat.add_sub_cancel_left] at hd
  exact hd
theorem Fld_sound {t n nx k : Nat} {kn : List Nat} (e : nx = pc + k) (h0 : t = 0 → ∀ x : Int32, nth lo n = some (.int x) → PS l D dA base b X (pc + k) (kil kn lo) (.int x :: st) h bd Q → PS l D dA base b X pc lo st h bd Q) (h1 : t = 1 → ∀ x : Int64, nth lo n = some (.long x) → PS l D dA base b X (pc + k) (kil kn lo) (.long x :: st) h bd Q → PS l D dA base b X pc lo st h bd Q) (h2 : t = 2 → ∀ x : Nat, nth lo n = some (.ref x) → PS l D dA base b X (pc + k) (kil kn lo) (.ref x :: st) h bd Q → PS l D dA base b X pc lo st h bd Q) (H : Fld (PS l D dA base b) X nx lo st h bd Q t n kn) : PS l D dA base b X pc lo st h bd Q := by
  subst e
  unfold Fld at H
  cases hn : nth lo n with
  | none => rw [hn] at H; split at H <;> first | exact H.elim | (rename_i q; cases q)
  | some v =>
    rw [hn] at H
    split at H
    · rename_i q; cases q; exact h0 rfl _ hn H
    · rename_i q; cases q; exact h1 rfl _ hn H
    · rename_i q; cases q; exact h2 rfl _ hn H
    · exact H.elim
theorem Fcmp_at {cd : ClassFile.Cond} {x y : Int32} {A B G : Prop} (H : Fcmp cd x y A B) (heq : cd = .eq → (x = y → A) → (¬ x = y → B) → G) (hne : cd = .ne → (¬ x = y → A) → (x = y → B) → G) (hlt : cd = .lt → (x < y → A) → (¬ x < y → B) → G) (hge : cd = .ge → (y ≤ x → A) → (¬ y ≤ x → B) → G) (hgt : cd = .gt → (y < x → A) → (¬ y < x → B) → G) (hle : cd = .le → (x ≤ y → A) → (¬ x ≤ y → B) → G) : G := by
  cases cd
  · exact heq rfl H.1 H.2
  · exact hne rfl H.1 H.2
  · exact hlt rfl H.1 H.2
  · exact hge rfl H.1 H.2
  · exact hgt rfl H.1 H.2
  · exact hle rfl H.1 H.2
set_option maxHeartbeats 4000000 in
theorem Fi_sound {i : Instr} {nx : Nat} {kn : List Nat} {a : Nat} {ka : List Nat} {bb j : Nat} {c : Int32} (hd : decode (cod X) pc = .ok (i, nx - pc)) (hln : iln i = 0 ∨ nx = pc + iln i) (hok : okI X pc i nx a bb j c = true) (H : Fi (PS l D dA base b) X pc i nx kn a ka bb c lo st h bd Q) : PS l D dA base b X pc lo st h bd Q := by
  cases i
  case iload n => obtain ⟨e, hd⟩ := len_of (k := 2) hd hln rfl (by decide); exact Fld_sound e (fun _ x q K => ps_iload kn q hd K) (fun q => by cases q) (fun q => by cases q) H
  case lload n => obtain ⟨e, hd⟩ := len_of (k := 2) hd hln rfl (by decide); exact Fld_sound e (fun q => by cases q) (fun _ x q K => ps_lload kn q hd K) (fun q => by cases q) H
  case aload n => obtain ⟨e, hd⟩ := len_of (k := 2) hd hln rfl (by decide); exact Fld_sound e (fun q => by cases q) (fun q => by cases q) (fun _ x q K => ps_aload kn q hd K) H
  case iload_n n => obtain ⟨e, hd⟩ := len_of (k := 1) hd hln rfl (by decide); exact Fld_sound e (fun _ x q K => ps_iload_n kn q hd K) (fun q => by cases q) (fun q => by cases q) H
  case lload_n n => obtain ⟨e, hd⟩ := len_of (k := 1) hd hln rfl (by decide); exact Fld_sound e (fun q => by cases q) (fun _ x q K => ps_lload_n kn q hd K) (fun q => by cases q) H
  case aload_n n => obtain ⟨e, hd⟩ := len_of (k := 1) hd hln rfl (by decide); exact Fld_sound e (fun q => by cases q) (fun q => by cases q) (fun _ x q K => ps_aload_n kn q hd K) H
  case istore n => obtain ⟨rfl, hd2⟩ := len_of (k := 2) hd hln rfl (by decide); have hn : n < mxl X := by simpa [okI] using hok
                   simp only [Fi, Fst] at H; split at H <;> first | exact H.elim | (rename_i q; cases q; done) | exact ps_istore kn hn H.1 hd2 H.2
  case astore n => obtain ⟨rfl, hd2⟩ := len_of (k := 2) hd hln rfl (by decide); have hn : n < mxl X := by simpa [okI] using hok
                   simp only [Fi, Fst] at H; split at H <;> first | exact H.elim | (rename_i q; cases q; done) | exact ps_astore kn hn H.1 hd2 H.2
  case lstore n => obtain ⟨rfl, hd2⟩ := len_of (k := 2) hd hln rfl (by decide); have hn : n + 1 < mxl X := by simpa [okI] using hok
                   simp only [Fi, Fst] at H; split at H <;> first | exact H.elim | (rename_i q; cases q; done) | exact ps_lstore kn hn H.1 hd2 H.2
  case istore_n n => obtain ⟨rfl, hd2⟩ := len_of (k := 1) hd hln rfl (by decide); have hn : n.val < mxl X := by simpa [okI] using hok
                     simp only [Fi, Fst] at H; split at H <;> first | exact H.elim | (rename_i q; cases q; done) | exact ps_istore_n kn hn H.1 hd2 H.2
  case astore_n n => obtain ⟨rfl, hd2⟩ := len_of (k := 1) hd hln rfl (by decide); have hn : n.val < mxl X := by simpa [okI] using hok
                     simp only [Fi, Fst] at H; split at H <;> first | exact H.elim | (rename_i q; cases q; done) | exact ps_astore_n kn hn H.1 hd2 H.2
  case lstore_n n => obtain ⟨rfl, hd2⟩ := len_of (k := 1) hd hln rfl (by decide); have hn : n.val + 1 < mxl X := by simpa [okI] using hok
                     simp only [Fi, Fst] at H; split at H <;> first | exact H.elim | (rename_i q; cases q; done) | exact ps_lstore_n kn hn H.1 hd2 H.2
  case iinc n k => obtain ⟨rfl, hd2⟩ := len_of (k := 3) hd hln rfl (by decide); have hv : Int32.ofInt k = c ∧ n < mxl X := by simpa [okI] using hok
                   simp only [Fi] at H; split at H
                   · rename_i q; exact ps_iinc kn hv.1 q hv.2 H.1 hd2 H.2
                   · exact H.elim
  case iconst n => obtain ⟨rfl, hd2⟩ := len_of (k := 1) hd hln rfl (by decide); exact ps_iconst kn (by simpa [okI] using hok) hd2 H
  case bipush n => obtain ⟨rfl, hd2⟩ := len_of (k := 2) hd hln rfl (by decide); exact ps_bipush kn (by simpa [okI] using hok) hd2 H
  case sipush n => obtain ⟨rfl, hd2⟩ := len_of (k := 3) hd hln rfl (by decide); exact ps_sipush kn (by simpa [okI] using hok) hd2 H
  case lconst n => obtain ⟨rfl, hd2⟩ := len_of (k := 1) hd hln rfl (by decide); exact ps_lconst kn (by simpa [okI] using hok) hd2 H
  case ldc idx =>
    obtain ⟨rfl, hd2⟩ := len_of (k := 2) hd hln rfl (by decide)
    simp only [okI, Bool.and_eq_true, decide_eq_true_eq] at hok
    exact ps_ldc kn (lkAt_B hok.1) hok.2 hd2 H
  case ldc2_w idx => obtain ⟨rfl, hd2⟩ := len_of (k := 3) hd hln rfl (by decide); exact ps_ldc2 kn (lkAt_B hok) hd2 H
  case iadd => obtain ⟨rfl, hd2⟩ := len_of (k := 1) hd hln rfl (by decide); simp only [Fi] at H; split at H <;> first | exact H.elim | exact ps_iadd kn hd2 H
  case isub => obtain ⟨rfl, hd2⟩ := len_of (k := 1) hd hln rfl (by decide); simp only [Fi] at H; split at H <;> first | exact H.elim | exact ps_isub kn hd2 H
  case imul => obtain ⟨rfl, hd2⟩ := len_of (k := 1) hd hln rfl (by decide); simp only [Fi] at H; split at H <;> first | exact H.elim | exact ps_imul kn hd2 H
  case iand => obtain ⟨rfl, hd2⟩ := len_of (k := 1) hd hln rfl (by decide); simp only [Fi] at H; split at H <;> first | exact H.elim | exact ps_iand kn hd2 H
  case ior => obtain ⟨rfl, hd2⟩ := len_of (k := 1) hd hln rfl (by decide); simp only [Fi] at H; split at H <;> first | exact H.elim | exact ps_ior kn hd2 H
  case idiv => obtain ⟨rfl, hd2⟩ := len_of (k := 1) hd hln rfl (by decide); simp only [Fi] at H; split at H <;> first | exact H.elim | exact ps_idiv kn H.1 hd2 H.2
  case land => obtain ⟨rfl, hd2⟩ := len_of (k := 1) hd hln rfl (by decide); simp only [Fi] at H; split at H <;> first | exact H.elim | exact ps_land kn hd2 H
  case lor => obtain ⟨rfl, hd2⟩ := len_of (k := 1) hd hln rfl (by decide); simp only [Fi] at H; split at H <;> first | exact H.elim | exact ps_lor kn hd2 H
  case lshl => obtain ⟨rfl, hd2⟩ := len_of (k := 1) hd hln rfl (by decide); simp only [Fi] at H; split at H <;> first | exact H.elim | exact ps_lshl kn hd2 H
  case lshr => obtain ⟨rfl, hd2⟩ := len_of (k := 1) hd hln rfl (by decide); simp only [Fi] at H; split at H <;> first | exact H.elim | exact ps_lshr kn hd2 H
  case lushr => obtain ⟨rfl, hd2⟩ := len_of (k := 1) hd hln rfl (by decide); simp only [Fi] at H; split at H <;> first | exact H.elim | exact ps_lushr kn hd2 H
  case i2l => obtain ⟨rfl, hd2⟩ := len_of (k := 1) hd hln rfl (by decide); simp only [Fi] at H; split at H <;> first | exact H.elim | exact ps_i2l kn hd2 H
  case l2i => obtain ⟨rfl, hd2⟩ := len_of (k := 1) hd hln rfl (by decide); simp only [Fi] at H; split at H <;> first | exact H.elim | exact ps_l2i kn hd2 H
  case i2b => obtain ⟨rfl, hd2⟩ := len_of (k := 1) hd hln rfl (by decide); simp only [Fi] at H; split at H <;> first | exact H.elim | exact ps_i2b kn hd2 H
  case lcmp => obtain ⟨rfl, hd2⟩ := len_of (k := 1) hd hln rfl (by decide); simp only [Fi] at H; split at H <;> first | exact H.elim | exact ps_lcmp kn hd2 H
  case dup => obtain ⟨rfl, hd2⟩ := len_of (k := 1) hd hln rfl (by decide); simp only [Fi] at H; split at H <;> first | exact H.elim | exact ps_dupI kn hd2 H | exact ps_dupR kn hd2 H
  case dup2 => obtain ⟨rfl, hd2⟩ := len_of (k := 1) hd hln rfl (by decide); simp only [Fi] at H; split at H <;> first | exact H.elim | exact ps_dup2 kn hd2 H
  case pop => obtain ⟨rfl, hd2⟩ := len_of (k := 1) hd hln rfl (by decide); simp only [Fi] at H; split at H <;> first | exact H.elim | exact ps_pop kn hd2 H
  case goto off => obtain ⟨rfl, hd2⟩ := len_of (k := 3) hd hln rfl (by decide); exact ps_goto ka (by simpa [okI] using hok) hd2 H
  case ifCond cd off =>
    obtain ⟨rfl, hd2⟩ := len_of (k := 3) hd hln rfl (by decide)
    have ht : (pc : Int) + off = (a : Int) := by simpa [okI] using hok
    simp only [Fi] at H
    split at H
    · exact Fcmp_at H (fun e k1 k2 => ps_if_eq kn ka ht (e ▸ hd2) k1 k2) (fun e k1 k2 => ps_if_ne kn ka ht (e ▸ hd2) k1 k2) (fun e k1 k2 => ps_if_lt kn ka ht (e ▸ hd2) k1 k2) (fun e k1 k2 => ps_if_ge kn ka ht (e ▸ hd2) k1 k2) (fun e k1 k2 => ps_if_gt kn ka ht (e ▸ hd2) k1 k2) (fun e k1 k2 => ps_if_le kn ka ht (e ▸ hd2) k1 k2)
    · exact H.elim
  case if_icmp cd off =>
    obtain ⟨rfl, hd2⟩ := len_of (k := 3) hd hln rfl (by decide)
    have ht : (pc : Int) + off = (a : Int) := by simpa [okI] using hok
    simp only [Fi] at H
    split at H
    · exact Fcmp_at H (fun e k1 k2 => ps_icmp_eq kn ka ht (e ▸ hd2) k1 k2) (fun e k1 k2 => ps_icmp_ne kn ka ht (e ▸ hd2) k1 k2) (fun e k1 k2 => ps_icmp_lt kn ka ht (e ▸ hd2) k1 k2) (fun e k1 k2 => ps_icmp_ge kn ka ht (e ▸ hd2) k1 k2) (fun e k1 k2 => ps_icmp_gt kn ka ht (e ▸ hd2) k1 k2) (fun e k1 k2 => ps_icmp_le kn ka ht (e ▸ hd2) k1 k2)
    · exact H.elim
  case tableswitch d lw u offs =>
    simp only [okI, Bool.and_eq_true, decide_eq_true_eq, List.all_eq_true] at hok
    simp only [Fi] at H
    split at H
    · exact ps_table ka hok.1.1 (fun o ho => by simpa using hok.1.2 o ho) hok.2 hd H.1 H.2
    · exact H.elim
  case lookupswitch d ps =>
    simp only [okI, Bool.and_eq_true, decide_eq_true_eq] at hok
    simp only [Fi] at H
    split at H
    · exact ps_lookup ka hok.1.1 hok.1.2 (fun q hq => by simpa using List.all_eq_true.mp hok.2 q hq) hd H
    · exact H.elim
  case getfield idx =>
    obtain ⟨rfl, hd2⟩ := len_of (k := 3) hd hln rfl (by decide)
    simp only [Fi] at H
    split at H
    · obtain ⟨ho, H⟩ := H
      split at H
      · rename_i q
        exact ps_get kn (lkAt_B hok) ho (by unfold fV; rw [q]; rfl) hd2 H
      · rename_i q
        exact ps_get kn (lkAt_B hok) ho (by unfold fV; rw [q, rq_pos H.1, rv_pos H.1]; rfl) hd2 H.2
    · exact H.elim
  case putfield idx =>
    obtain ⟨rfl, hd2⟩ := len_of (k := 3) hd hln rfl (by decide)
    simp only [okI, Bool.and_eq_true, Bool.or_eq_true, Bool.not_eq_true', decide_eq_true_eq] at hok
    have hfin : (clT a bb).2.2.2 = true → (yM X).name = "<init>" ∧ ownC X = a := by
      intro q
      rcases hok.2 with z | z
      · rw [q] at z; cases z
      · exact z
    simp only [Fi] at H
    split at H
    · rename_i v r st' q
      refine ps_put (h' := stI h r bb v) kn (lkAt_B hok.1) hfin H.1 (fun ty t1 t2 => ?_) (fun k hk => ?_) rfl rfl rfl (fun z hz => va_up_ne _ _ hz) (fun _ _ => rfl) (fun _ _ => rfl) hd2 H.2
      · rw [t2 q]; exact ⟨rfl, rfl⟩
      · have e : gI (stI h r bb v) r = va_up (gI h r) bb v := va_up_self _ _ _
        unfold updV fV
        rw [e]
        by_cases z : k = bb
        · subst z; rw [if_pos rfl, q]; simp [va_up, rv]
        · rw [if_neg z, va_up_ne _ _ z]; rfl
    · rename_i v r st' q
      refine ps_put (h' := stR h r bb v) kn (lkAt_B hok.1) hfin H.1 (fun ty t1 t2 => ?_) (fun k hk => ?_) rfl rfl rfl (fun _ _ => rfl) (fun _ _ => rfl) (fun z hz => va_up_ne _ _ hz) hd2 H.2.2
      · rw [q] at t1
        cases ty <;> first | (cases t1; done) | exact ⟨rfl, rfl⟩
      · have e : gR (stR h r bb v) r = va_up (gR h r) bb v := va_up_self _ _ _
        unfold updV fV
        rw [e]
        by_cases z : k = bb
        · subst z; rw [if_pos rfl, q, rv_pos H.2.1]; simp [va_up, rq_pos H.2.1, va_rf]
        · rw [if_neg z, va_up_ne _ _ z]; rfl
    · exact H.elim
  case iaload => obtain ⟨rfl, hd2⟩ := len_of (k := 1) hd hln rfl (by decide); simp only [Fi] at H; split at H <;> first | exact H.elim | exact ps_iald kn H.1 hd2 H.2
  case baload => obtain ⟨rfl, hd2⟩ := len_of (k := 1) hd hln rfl (by decide); simp only [Fi] at H; split at H <;> first | exact H.elim | exact ps_bald kn (by simpa [okI] using hok) H.1 hd2 H.2
  case laload => obtain ⟨rfl, hd2⟩ := len_of (k := 1) hd hln rfl (by decide); simp only [Fi] at H; split at H <;> first | exact H.elim | exact ps_lald kn H.1 hd2 H.2
  case aaload => obtain ⟨rfl, hd2⟩ := len_of (k := 1) hd hln rfl (by decide); simp only [Fi] at H; split at H <;> first | exact H.elim | exact ps_aald kn H.1 H.2.1 H.2.2.1 H.2.2.2.1 H.2.2.2.2.1 hd2 H.2.2.2.2.2
  case iastore => obtain ⟨rfl, hd2⟩ := len_of (k := 1) hd hln rfl (by decide); simp only [Fi] at H; split at H <;> first | exact H.elim | exact ps_iast kn H.1 hd2 H.2
  case bastore => obtain ⟨rfl, hd2⟩ := len_of (k := 1) hd hln rfl (by decide); simp only [Fi] at H; split at H <;> first | exact H.elim | exact ps_bast kn (by simpa [okI] using hok) H.1 hd2 H.2
  case lastore => obtain ⟨rfl, hd2⟩ := len_of (k := 1) hd hln rfl (by decide); simp only [Fi] at H; split at H <;> first | exact H.elim | exact ps_last kn H.1 hd2 H.2
  case aastore => obtain ⟨rfl, hd2⟩ := len_of (k := 1) hd hln rfl (by decide); simp only [Fi] at H; split at H <;> first | exact H.elim | exact ps_aast kn H.1 H.2.1 H.2.2.1 H.2.2.2.1 hd2 H.2.2.2.2
  case arraylength => obtain ⟨rfl, hd2⟩ := len_of (k := 1) hd hln rfl (by decide); simp only [Fi] at H; split at H <;> first | exact H.elim | exact ps_alen kn H.1.1 H.1.2.1 H.1.2.2.1 H.1.2.2.2 hd2 H.2
  case newarray t => obtain ⟨rfl, hd2⟩ := len_of (k := 2) hd hln rfl (by decide); simp only [Fi] at H; split at H <;> first | exact H.elim | exact ps_newa kn (by simpa [okI] using hok) H.1 H.2.1 H.2.2.1 H.2.2.2.1 hd2 H.2.2.2.2
  case anewarray idx => obtain ⟨rfl, hd2⟩ := len_of (k := 3) hd hln rfl (by decide); simp only [Fi] at H; split at H <;> first | exact H.elim | exact ps_anew kn (lkAt_B hok) H.1 H.2.1 H.2.2.1 H.2.2.2.1 hd2 H.2.2.2.2
  case new idx => obtain ⟨rfl, hd2⟩ := len_of (k := 3) hd hln rfl (by decide); exact ps_new kn (lkAt_B hok) H.1 H.2.1 hd2 H.2.2
  case invokevirtual idx =>
    obtain ⟨rfl, hd2⟩ := len_of (k := 3) hd hln rfl (by decide)
    simp only [okI, Bool.and_eq_true, decide_eq_true_eq] at hok
    simp only [Fi] at H
    split at H
    · rename_i q; exact ps_virt kn (lkAt_B hok.1) hok.2 q H.1 hd2 H.2
    · exact H.elim
  case invokespecial idx =>
    obtain ⟨rfl, hd2⟩ := len_of (k := 3) hd hln rfl (by decide)
    simp only [okI] at hok
    simp only [Fi] at H
    cases hz : Nat.beq a 1000
    · rw [hz] at H hok
      simp only [Bool.false_eq_true, if_false, Bool.and_eq_true, Bool.or_eq_true, decide_eq_true_eq] at hok
      cases hp : popN bb [] st with
      | none => rw [hp] at H; exact H.elim
      | some x =>
        obtain ⟨as, rr⟩ := x
        rw [hp] at H
        match rr, H, hp with
        | .ref r :: rest, H, hp => exact ps_spec kn (hok.1.imp lkAt_B lkAt_B) hok.2 hp hd2 H
        | [], H, _ => exact H.elim
        | .int _ :: _, H, _ => exact H.elim
        | .long _ :: _, H, _ => exact H.elim
        | .float _ :: _, H, _ => exact H.elim
        | .double _ :: _, H, _ => exact H.elim
        | .null :: _, H, _ => exact H.elim
        | .retAddr _ :: _, H, _ => exact H.elim
    · rw [hz] at H hok
      simp only [if_true, Bool.and_eq_true, decide_eq_true_eq] at hok
      rw [hok.2] at H
      cases st with
      | nil => exact H.elim
      | cons v rest =>
        match v, H with
        | .ref r, H => exact ps_objI kn (lkAt_B hok.1.1) hok.1.2 H.1 hd2 H.2
        | .int _, H => exact H.elim
        | .long _, H => exact H.elim
        | .float _, H => exact H.elim
        | .double _, H => exact H.elim
        | .null, H => exact H.elim
        | .retAddr _, H => exact H.elim
  case invokestatic idx =>
    obtain ⟨rfl, hd2⟩ := len_of (k := 3) hd hln rfl (by decide)
    simp only [okI] at hok
    simp only [Fi] at H
    generalize spc a = z at H hok
    split at H
    · simp only [Bool.and_eq_true, decide_eq_true_eq] at hok
      exact ps_copy kn (lkAt_B hok.1) hok.2 H.1.1 H.1.2.1 H.1.2.2 H.2.1.1 H.2.1.2.1 H.2.1.2.2 H.2.2.1.1 H.2.2.1.2.1 H.2.2.1.2.2 H.2.2.2.1.1 H.2.2.2.1.2 H.2.2.2.2.1 H.2.2.2.2.2.1 hd2 H.2.2.2.2.2.2
    · simp only [Bool.and_eq_true, decide_eq_true_eq] at hok
      exact ps_max kn (lkAt_B hok.1) hok.2 H.1 hd2 H.2
    · simp only [Bool.and_eq_true, decide_eq_true_eq] at hok
      exact ps_min kn (lkAt_B hok.1) hok.2 H.1 hd2 H.2
    · simp only [Bool.and_eq_true, decide_eq_true_eq] at hok
      split at H
      · rename_i q; exact ps_stat kn (lkAt_B hok.1) hok.2 q hd2 H
      · exact H.elim
    · exact H.elim
  case ireturn =>
    obtain ⟨rfl, hd2⟩ := len_of (k := 1) hd hln rfl (by decide)
    simp only [Fi] at H
    split at H
    · split at H
      · rename_i q; exact ps_ireturn hd2 (Or.inl q) H
      · rename_i q; exact ps_ireturn hd2 (Or.inr ⟨q, H.1⟩) H.2
      · exact H.elim
    · exact H.elim
  case lreturn =>
    obtain ⟨rfl, hd2⟩ := len_of (k := 1) hd hln rfl (by decide)
    simp only [Fi] at H
    split at H
    · exact ps_lreturn hd2 H.1 H.2
    · exact H.elim
  case return_ =>
    obtain ⟨rfl, hd2⟩ := len_of (k := 1) hd hln rfl (by decide)
    simp only [Fi] at H
    split at H
    · exact ps_return hd2 H.1 H.2
    · exact H.elim
  all_goals exact H.elim
theorem PS_of_Wp (H : Wp X pc lo st h bd Q) : PS l D dA base b X pc lo st h bd Q := by
  refine H (PS l D dA base b) fun X pc lo st h bd Q H => ?_
  unfold F at H
  cases hte : (tab X).lookup pc with
  | none => rw [hte] at H; exact H.elim
  | some te =>
    rw [hte] at H
    obtain ⟨hd, hln, hok⟩ := tab_at hte
    exact Fi_sound hd hln hok H
end PSF
end
section
/-! THE CLAIM OUT OF ONE WALK OF THE LAW'S BODY. Your part is whole_start (and what it stands on); all else here is the same for every law, but numbers. -/
def R_law : String := "KeptSentencesLaw"
def lw_P (b : Addr) (xs : List Int32) (args : Array Value) (s : State) : Prop := args = #[.ref b] ∧ s.IntsAt b xs ∧ xs.length ≤ 2048 ∧ (Jvm.Cond.and given_1 narrow_1).before args s = true
def lw_Q (_ : Array Value) (s : State) (o : Outcome) (t : State) : Prop := o = .returned (some (.int 1)) ∧ Framed s o t [] 600000 7302250
def lw_Z (below : List Frame) (a : Array Value) (s : State) : State → Prop := fun t => ∃ o, t.status = .running ∧ Ended t below o ∧ lw_Q a s o t
/-- the law's own end, with 1 on the stack, nothing written that was there before, its room as the claim has it -/
theorem lw_ret {p : Program} {l : Launch} {e : Env} {s : State} {m : MethodId} {below : List Frame} {meth : Method} {c : Code} {b : Nat} (hx : p.tables.exec = Jvm.exec) (hb : c.code = code) (hr : meth.sig.returnType = ret) (hlocks : meth.locks = false) {pc : Nat} {H : Heap} {ls : Array Slot} (hdg : decode code pc = .ok (.ireturn, 1)) : W p l e room_1 s m #[Value.ref b] below meth c H [] 600000 7302250 (lw_Z below #[Value.ref b] s) (F0 m pc ls [.int 1]) := by
  intro T hT X
  obtain ⟨fs, hret, hrun, hended, hW, hframe⟩ := X.leave (v := some (.int 1)) (hlocks := hlocks) (fun h => by rw [hr] at h; cases h)
  have hmeth' : T.vm.method? m = some meth := X.method'
  refine ⟨T.setFrames fs, ?_, .returned (some (.int 1)), hrun, hended, rfl, ⟨_, rfl⟩, hW, hframe⟩
  jvm_step X.here [X.here.top, hx, hb, hdg, hmeth', hr, ret, narrow_b1]
  (try refine ⟨rfl, ?_⟩); (try refine ⟨rfl, ?_⟩)
  first | (intro acts; rw [hret _ acts rfl rfl rfl]) | rw [hret _ _ rfl rfl rfl]
  exact Steps.refl _
/-- what holds at the law's entry: the machine, the code, the tables' words (any of lw_tbl by 'hts w (by decide +kernel)'), the script of L ints xs at the cell b, what the Statement gives of the start (any of its parts by flat_of_before) -/
def lw_At (p : Program) (s : State) (m : MethodId) (meth : Method) (c : Code) (b L : Nat) (xs : Nat → Int32) : Prop :=
  p.tables.exec = Jvm.exec ∧ c.code = code ∧ meth.sig.returnType = ret ∧ c.maxLocals = 4 ∧ s.vm.findClass R_law = some m.cls ∧ (∀ w ∈ lw_tbl, w.before #[Value.ref b] s = true) ∧ va_X b L xs s s.heap ∧ b < s.heap.size ∧ meth.locks = false ∧ (Jvm.Cond.and given_1 narrow_1).before #[Value.ref b] s = true
/-- the picture at the law's entry -/
def hp0 (L : Nat) (xs : Nat → Int32) : HP := (fun a i => if a = 0 then xs i else 0, fun _ _ => 0, fun _ _ => 0, fun a => if a = 0 then 100 else 0, fun a => if a = 0 then L else 0, 1)
def LawWp : Prop := ∀ (L : Nat) (xs : Nat → Int32), L ≤ 2048 → Wp k_Law_law 0 [some (.ref 0), none, none, none] [] (hp0 L xs) (600000, 7302250) (fun v _ => v = some (.int 1))
theorem arr_of {s : State} {args : Array Value} {t : FieldType} (h : (Cond.arrayClass t).before args s = true) (ht : isRefTy t = false) : ∃ cA : ClassId, ArrOfT s cA t ∧ va_RA s cA t := by
  obtain ⟨cA, kA, comp, h1, h2, h3⟩ := Cond.arrayClass_spec h
  refine ⟨cA, fun n z => ⟨fun k q => (by cases q), kA, h2, comp, h3⟩, ?_⟩
  cases t <;> first | exact h1 | (cases ht; done)
theorem arr_over {s : State} {C : String} (h : va_AO C s) : ∃ cA : ClassId, ArrOfT s cA (.object C) ∧ va_RA s cA (.object C) := by
  obtain ⟨comp, cA, kA, h1, h2, h3, h4, h5⟩ := Cond.arrayOver_spec h
  exact ⟨cA, fun n z => ⟨fun k q => (by cases q), kA, h3, comp, h4⟩, kA, comp, h3, h4, h1, h5⟩
theorem cls_kn {s : State} {args : Array Value} (hts : ∀ w ∈ gtbl, w.before args s = true) : ∀ a : Nat, ∃ (cC : ClassId) (iS : Nat → Nat), ∀ q : vw_C, classes[a]? = some q → u_Kn s q.1 q.2.1 q.2.2 cC iS := by
  intro a
  by_cases ha : a < 11
  · obtain ⟨C, T, N, ty, c1, c2, c3, c4, c5, c6, c7, -⟩ := cls_ok a ha
    obtain ⟨cC, iS, hk⟩ := u_known (C := C) (T := T) (N := N) (n := N) hts c5 (hts _ c6)
    exact ⟨cC, iS, fun q hq => by rw [c1] at hq; cases hq; exact hk⟩
  · refine ⟨0, fun _ => 0, fun q hq => ?_⟩
    have := (List.getElem?_eq_some_iff.mp hq).1
    exact absurd this ha
theorem KK_start {s : State} {args : Array Value} (hts : ∀ w ∈ lw_tbl, w.before args s = true) : ∃ (D : va_G) (dA : Nat → ClassId), KK D dA s := by
  have htg : ∀ w ∈ gtbl, w.before args s = true := fun w hw => hts w (List.mem_filter.mp hw).1
  have hk := cls_kn htg
  obtain ⟨a0, x0⟩ := arr_of (htg _ arrC_I) rfl
  obtain ⟨a1, x1⟩ := arr_of (htg _ arrC_B) rfl
  obtain ⟨a2, x2⟩ := arr_of (htg _ arrC_Z) rfl
  obtain ⟨a3, x3⟩ := arr_of (htg _ arrC_J) rfl
  have o1 : va_AO "KeptSentences$Row" s := va_AO.of (hts (.arrayOver (.object "KeptSentences$Row")) (by decide +kernel))
  have o2 : va_AO "KeptSentences$Text" s := va_AO.of (hts (.arrayOver (.object "KeptSentences$Text")) (by decide +kernel))
  obtain ⟨a4, x4⟩ := arr_over o1
  obtain ⟨a5, x5⟩ := arr_over o2
  refine ⟨(fun a => Classical.choose (hk a), fun a => Classical.choose (Classical.choose_spec (hk a))), fun k => if k = 100 then a0 else if k = 101 then a1 else if k = 102 then a2 else if k = 103 then a3 else if k = 104 then a4 else a5, ⟨fun c q hq => Classical.choose_spec (Classical.choose_spec (hk c)) q hq, fun k q hq => ?_⟩, o1, o2, va_Nw.of rfl (hts nst1 (by decide +kernel)), va_Nw.of rfl (hts nst2 (by decide +kernel)), va_Nw.of rfl (hts nst3 (by decide +kernel))⟩
  match k, hq with
  | 0, hq => cases hq; exact x0
  | 1, hq => cases hq; exact x1
  | 2, hq => cases hq; exact x2
  | 3, hq => cases hq; exact x3
  | 4, hq => cases hq; exact x4
  | 5, hq => cases hq; exact x5
  | k + 6, hq => simp [tyL] at hq
set_option maxHeartbeats 4000000 in
theorem whole_of (HL : LawWp) {p : Program} {e : Env} {s : State} {m : MethodId} {below : List Frame} {meth : Method} {c : Code} (l : Launch) {b L : Nat} {xs : Nat → Int32} (hL : L ≤ 2048) (C0 : lw_At p s m meth c b L xs) : W p l e room_1 s m #[Value.ref b] below meth c s.heap [] 0 0 (lw_Z below #[Value.ref b] s) (entryFrame m ([Value.ref b] : List Value).toArray 4) := by
  obtain ⟨hx, hb, hr, hml, hown, hts, hX, hbl, hlocks, hgv⟩ := id C0
  obtain ⟨D, dA, hKK⟩ := KK_start hts
  have P := PS_of_Wp (l := l) (D := D) (dA := dA) (base := s.heap.size) (b := b) (HL L xs hL)
  rw [lg_entry_eq]
  have hlv := lv_entry ([Value.ref b]) (n := 4) (Nat.le_of_ble_eq_true rfl)
  refine P p e s m #[Value.ref b] below meth c s.heap [] 0 0 (lw_Z below #[Value.ref b] s) _ ⟨hx, hb, hr, hml, hown, fun w hw => hts w (List.mem_filter.mp hw).1, hlocks, fun q => ?_, hKK, Nat.le_refl _⟩ ⟨fun a h1 h2 => ?_, rfl, Nat.le_refl 1, hbl, fun _ => ?_⟩ va_S.rf ⟨hlv.1, hlv.2.1, fun i v q => ?_⟩ (show 0 + 600000 ≤ 600000 by omega) (show 0 + 7302250 ≤ 7302250 by omega) ?_
  · exact absurd q (by decide +kernel)
  · have : a < 1 := h2
    omega
  · have e1 : gI (hp0 L xs) 0 = xs := funext fun i => by simp [gI, hp0]
    have e2 : gL (hp0 L xs) 0 = L := by simp [gL, hp0]
    rw [e1, e2]
    exact hX
  · match i, q with
    | 0, q =>
      cases q
      exact hlv.2.2 (0, .ref b) (List.mem_cons_self)
    | 1, q => cases q
    | 2, q => cases q
    | 3, q => cases q
    | i + 4, q => cases q
  · intro v h' H' locs' cells' slots' pc' ls' R' S' hc' hs' hQ hret
    subst hQ
    rcases hret with ⟨r0, -⟩ | ⟨r0, -⟩ | ⟨r0, -, hd⟩ | ⟨r0, -⟩
    · exact absurd r0 (by decide +kernel)
    · exact absurd r0 (by decide +kernel)
    · refine W.widen (show cells' ≤ 600000 from hc') (show slots' ≤ 7302250 from hs') ?_
      refine va_forget (fun q hq => S'.2.2 q hq) ?_
      exact lw_ret hx hb hr hlocks hd
    · exact absurd r0 (by decide +kernel)
end
section
theorem Fcall_map {P P' : PT} {Q Q2 : QT} (hP : ∀ X pc lo st h bd, P X pc lo st h bd Q → P' X pc lo st h bd Q2) (hC : ∀ X pc lo st h bd Q', P X pc lo st h bd Q' → P' X pc lo st h bd Q') {X nx a : Nat} {as rest : List Value} {lo : LO} {hp : HP} {bd : Nat × Nat} (H : Fcall P X nx a as rest lo hp bd Q) : Fcall P' X nx a as rest lo hp bd Q2 := by
  obtain ⟨h1, h2, h3, h0, Q', h4, h5⟩ := H
  exact ⟨h1, h2, h3, h0, Q', hC _ _ _ _ _ _ _ h4, aft_mono (fun _ _ q => hP _ _ _ _ _ _ q) h5⟩
theorem Fld_map {P P' : PT} {Q Q2 : QT} (hP : ∀ X pc lo st h bd, P X pc lo st h bd Q → P' X pc lo st h bd Q2) {X nx : Nat} {lo : LO} {st : List Value} {h : HP} {bd : Nat × Nat} {t n : Nat} {kn : List Nat} (H : Fld P X nx lo st h bd Q t n kn) : Fld P' X nx lo st h bd Q2 t n kn := by
  unfold Fld at *
  generalize nth lo n = o at *
  split at H
  · exact hP _ _ _ _ _ _ H
  · exact hP _ _ _ _ _ _ H
  · exact hP _ _ _ _ _ _ H
  · exact H.elim
theorem Fst_map {P P' : PT} {Q Q2 : QT} (hP : ∀ X pc lo st h bd, P X pc lo st h bd Q → P' X pc lo st h bd Q2) {X nx : Nat} {lo : LO} {st : List Value} {h : HP} {bd : Nat × Nat} {t n : Nat} {kn : List Nat} (H : Fst P X nx lo st h bd Q t n kn) : Fst P' X nx lo st h bd Q2 t n kn := by
  unfold Fst at *
  split at H
  · exact ⟨H.1, hP _ _ _ _ _ _ H.2⟩
  · exact ⟨H.1, hP _ _ _ _ _ _ H.2⟩
  · exact ⟨H.1, hP _ _ _ _ _ _ H.2⟩
  · exact H.elim
theorem Fi_map {P P' : PT} {Q Q2 : QT} (hP : ∀ X pc lo st h bd, P X pc lo st h bd Q → P' X pc lo st h bd Q2) (hC : ∀ X pc lo st h bd Q', P X pc lo st h bd Q' → P' X pc lo st h bd Q') (hQ : ∀ r h, Q r h → Q2 r h) {X pc : Nat} {i : Instr} {nx : Nat} {kn : List Nat} {a : Nat} {ka : List Nat} {b : Nat} {c : Int32} {lo : LO} {st : List Value} {h : HP} {bd : Nat × Nat} (H : Fi P X pc i nx kn a ka b c lo st h bd Q) : Fi P' X pc i nx kn a ka b c lo st h bd Q2 := by
  unfold Fi at *
  generalize isRf a b = rf at *
  generalize Nat.beq a 1000 = z1 at *
  generalize spc a = z2 at *
  split <;> simp only at H ⊢
  all_goals first
      | exact hP _ _ _ _ _ _ H
      | exact Fld_map hP H
      | exact Fst_map hP H
      | exact H.elim
      | skip
  case h_13 =>
    generalize nth lo _ = o at *
    split at H
    · exact ⟨H.1, hP _ _ _ _ _ _ H.2⟩
    · exact H.elim
  all_goals first
    | (split at H <;> first
      | exact H.elim
      | exact hP _ _ _ _ _ _ H
      | exact ⟨H.1, hP _ _ _ _ _ _ H.2⟩
      | exact Fcmp_mono (hP _ _ _ _ _ _) (hP _ _ _ _ _ _) H
      | exact ⟨fun q => hP _ _ _ _ _ _ (H.1 q), fun j off q r => hP _ _ _ _ _ _ (H.2 j off q r)⟩
      | exact ⟨H.1, H.2.1, hP _ _ _ _ _ _ H.2.2⟩
      | exact ⟨H.1, H.2.1, H.2.2.1, H.2.2.2.1, hP _ _ _ _ _ _ H.2.2.2.2⟩
      | exact ⟨H.1, H.2.1, H.2.2.1, H.2.2.2.1, H.2.2.2.2.1, hP _ _ _ _ _ _ H.2.2.2.2.2⟩
      | exact ⟨H.1, H.2.1, H.2.2.1, H.2.2.2.1, H.2.2.2.2.1, H.2.2.2.2.2.1, hP _ _ _ _ _ _ H.2.2.2.2.2.2⟩
      | (refine ⟨H.1, ?_⟩; have H := H.2; split at H; exact hP _ _ _ _ _ _ H; exact ⟨H.1, hP _ _ _ _ _ _ H.2⟩)
      | done)
    | exact ⟨H.1, H.2.1, hP _ _ _ _ _ _ H.2.2⟩
    | (split at H <;> first
      | exact H.elim
      | exact ⟨H.1, hQ _ _ H.2⟩
      | (split at H; exact hQ _ _ H; exact ⟨H.1, hQ _ _ H.2⟩; exact H.elim))
    | skip
  · generalize popN _ _ _ = o at *
    split at H
    · exact ⟨H.1, Fcall_map hP hC H.2⟩
    · exact H.elim
  · generalize popN _ _ _ = o at *
    split at H
    · exact ⟨H.1, hP _ _ _ _ _ _ H.2⟩
    · exact Fcall_map hP hC H
    · exact H.elim
  · generalize popN _ _ _ = o at *
    split at H
    · exact ⟨H.1, H.2.1, H.2.2.1, H.2.2.2.1, H.2.2.2.2.1, H.2.2.2.2.2.1, hP _ _ _ _ _ _ H.2.2.2.2.2.2⟩
    · exact ⟨H.1, hP _ _ _ _ _ _ H.2⟩
    · exact ⟨H.1, hP _ _ _ _ _ _ H.2⟩
    · split at H
      · exact Fcall_map hP hC H
      · exact H.elim
    · exact H.elim
def PCq : PT := fun X pc lo st h bd Q => ∀ Q2 : QT, (∀ r h, Q r h → Q2 r h) → Wp X pc lo st h bd Q2
theorem Wp.conseq {X pc : Nat} {lo : LO} {st : List Value} {h : HP} {bd : Nat × Nat} {Q Q2 : QT} (H : Wp X pc lo st h bd Q) (hQ : ∀ r h, Q r h → Q2 r h) : Wp X pc lo st h bd Q2 := by
  have K : PCq X pc lo st h bd Q := by
    refine H PCq ?_
    intro X pc lo st h bd Q HF Q2 hQ
    refine Wp.step ?_
    unfold F at *
    split at HF
    · exact HF.elim
    · exact Fi_map (P := PCq) (fun _ _ _ _ _ _ k => k Q2 hQ) (fun _ _ _ _ _ _ Q' k => k Q' (fun _ _ z => z)) hQ HF
  exact K Q2 hQ
def QI (K : Int32 → HP → Prop) : QT := fun r h => ∃ v : Int32, r = some (.int v) ∧ K v h
def QJ (K : Int64 → HP → Prop) : QT := fun r h => ∃ v : Int64, r = some (.long v) ∧ K v h
def QV (K : HP → Prop) : QT := fun r h => r = none ∧ K h
theorem Wp.conI {X pc : Nat} {lo : LO} {st : List Value} {h : HP} {bd : Nat × Nat} {K K2 : Int32 → HP → Prop} (H : Wp X pc lo st h bd (QI K)) (hK : ∀ v h, K v h → K2 v h) : Wp X pc lo st h bd (QI K2) := H.conseq (fun _ _ ⟨v, e, k⟩ => ⟨v, e, hK v _ k⟩)
theorem Wp.conJ {X pc : Nat} {lo : LO} {st : List Value} {h : HP} {bd : Nat × Nat} {K K2 : Int64 → HP → Prop} (H : Wp X pc lo st h bd (QJ K)) (hK : ∀ v h, K v h → K2 v h) : Wp X pc lo st h bd (QJ K2) := H.conseq (fun _ _ ⟨v, e, k⟩ => ⟨v, e, hK v _ k⟩)
theorem Wp.conV {X pc : Nat} {lo : LO} {st : List Value} {h : HP} {bd : Nat × Nat} {K K2 : HP → Prop} (H : Wp X pc lo st h bd (QV K)) (hK : ∀ h, K h → K2 h) : Wp X pc lo st h bd (QV K2) := H.conseq (fun _ _ ⟨e, k⟩ => ⟨e, hK _ k⟩)
end
section
/-! rules: a row an instruction, over the pure machine -/
section WR
variable {X pc nx a b j : Nat} {kn ka : List Nat} {c : Int32} {lo : LO} {st : List Value} {h : HP} {bd : Nat × Nat} {Q : QT}
theorem wp_at {te : TE} (hi : (tab X).lookup pc = some te) (H : Fi Wp X pc te.1 te.2.1 te.2.2.1 te.2.2.2.1 te.2.2.2.2.1 te.2.2.2.2.2.1 te.2.2.2.2.2.2.2 lo st h bd Q) : Wp X pc lo st h bd Q := Wp.step (by unfold F; rw [hi]; exact H)
theorem wp_iload {n : Nat} {x : Int32} (hi : (tab X).lookup pc = some (.iload n, nx, [], a, ka, b, j, c)) (hn : nth lo n = some (.int x)) (K : Wp X nx (lo) (.int x :: st) (h) (bd) Q) : Wp X pc lo (st) h bd Q := by
  refine wp_at hi ?_
  show Fld Wp X nx lo st h bd Q 0 n _
  unfold Fld
  rw [hn]
  exact K
theorem wp_iloadk {n : Nat} {x : Int32} {lo' : LO} (hk : kil kn (lo) = lo') (hi : (tab X).lookup pc = some (.iload n, nx, kn, a, ka, b, j, c)) (hn : nth lo n = some (.int x)) (K : Wp X nx (lo') (.int x :: st) (h) (bd) Q) : Wp X pc lo (st) h bd Q := by
  subst hk
  refine wp_at hi ?_
  show Fld Wp X nx lo st h bd Q 0 n _
  unfold Fld
  rw [hn]
  exact K
theorem wp_iload_n {n : Fin 4} {x : Int32} (hi : (tab X).lookup pc = some (.iload_n n, nx, [], a, ka, b, j, c)) (hn : nth lo n.val = some (.int x)) (K : Wp X nx (lo) (.int x :: st) (h) (bd) Q) : Wp X pc lo (st) h bd Q := by
  refine wp_at hi ?_
  show Fld Wp X nx lo st h bd Q 0 n.val _
  unfold Fld
  rw [hn]
  exact K
theorem wp_iload_nk {n : Fin 4} {x : Int32} {lo' : LO} (hk : kil kn (lo) = lo') (hi : (tab X).lookup pc = some (.iload_n n, nx, kn, a, ka, b, j, c)) (hn : nth lo n.val = some (.int x)) (K : Wp X nx (lo') (.int x :: st) (h) (bd) Q) : Wp X pc lo (st) h bd Q := by
  subst hk
  refine wp_at hi ?_
  show Fld Wp X nx lo st h bd Q 0 n.val _
  unfold Fld
  rw [hn]
  exact K
theorem wp_istore {n : Nat} {x : Int32} {lo' : LO} (hi : (tab X).lookup pc = some (.istore n, nx, kn, a, ka, b, j, c)) (hg : lgb lo n = true) (hk : kil kn (sto lo n (some (.int x))) = lo') (K : Wp X nx lo' st h bd Q) : Wp X pc lo (.int x :: st) h bd Q := by
  subst hk
  exact wp_at hi ⟨hg, K⟩
theorem wp_istore_n {n : Fin 4} {x : Int32} {lo' : LO} (hi : (tab X).lookup pc = some (.istore_n n, nx, kn, a, ka, b, j, c)) (hg : lgb lo n.val = true) (hk : kil kn (sto lo n.val (some (.int x))) = lo') (K : Wp X nx lo' st h bd Q) : Wp X pc lo (.int x :: st) h bd Q := by
  subst hk
  exact wp_at hi ⟨hg, K⟩
theorem wp_lload {n : Nat} {x : Int64} (hi : (tab X).lookup pc = some (.lload n, nx, [], a, ka, b, j, c)) (hn : nth lo n = some (.long x)) (K : Wp X nx (lo) (.long x :: st) (h) (bd) Q) : Wp X pc lo (st) h bd Q := by
  refine wp_at hi ?_
  show Fld Wp X nx lo st h bd Q 1 n _
  unfold Fld
  rw [hn]
  exact K
theorem wp_lloadk {n : Nat} {x : Int64} {lo' : LO} (hk : kil kn (lo) = lo') (hi : (tab X).lookup pc = some (.lload n, nx, kn, a, ka, b, j, c)) (hn : nth lo n = some (.long x)) (K : Wp X nx (lo') (.long x :: st) (h) (bd) Q) : Wp X pc lo (st) h bd Q := by
  subst hk
  refine wp_at hi ?_
  show Fld Wp X nx lo st h bd Q 1 n _
  unfold Fld
  rw [hn]
  exact K
theorem wp_lload_n {n : Fin 4} {x : Int64} (hi : (tab X).lookup pc = some (.lload_n n, nx, [], a, ka, b, j, c)) (hn : nth lo n.val = some (.long x)) (K : Wp X nx (lo) (.long x :: st) (h) (bd) Q) : Wp X pc lo (st) h bd Q := by
  refine wp_at hi ?_
  show Fld Wp X nx lo st h bd Q 1 n.val _
  unfold Fld
  rw [hn]
  exact K
theorem wp_lload_nk {n : Fin 4} {x : Int64} {lo' : LO} (hk : kil kn (lo) = lo') (hi : (tab X).lookup pc = some (.lload_n n, nx, kn, a, ka, b, j, c)) (hn : nth lo n.val = some (.long x)) (K : Wp X nx (lo') (.long x :: st) (h) (bd) Q) : Wp X pc lo (st) h bd Q := by
  subst hk
  refine wp_at hi ?_
  show Fld Wp X nx lo st h bd Q 1 n.val _
  unfold Fld
  rw [hn]
  exact K
theorem wp_lstore {n : Nat} {x : Int64} {lo' : LO} (hi : (tab X).lookup pc = some (.lstore n, nx, kn, a, ka, b, j, c)) (hg : lgb lo n = true) (hk : kil kn (sto (sto lo n (some (.long x))) (n + 1) none) = lo') (K : Wp X nx lo' st h bd Q) : Wp X pc lo (.long x :: st) h bd Q := by
  subst hk
  exact wp_at hi ⟨hg, K⟩
theorem wp_lstore_n {n : Fin 4} {x : Int64} {lo' : LO} (hi : (tab X).lookup pc = some (.lstore_n n, nx, kn, a, ka, b, j, c)) (hg : lgb lo n.val = true) (hk : kil kn (sto (sto lo n.val (some (.long x))) (n.val + 1) none) = lo') (K : Wp X nx lo' st h bd Q) : Wp X pc lo (.long x :: st) h bd Q := by
  subst hk
  exact wp_at hi ⟨hg, K⟩
theorem wp_aload {n : Nat} {x : Nat} (hi : (tab X).lookup pc = some (.aload n, nx, [], a, ka, b, j, c)) (hn : nth lo n = some (.ref x)) (K : Wp X nx (lo) (.ref x :: st) (h) (bd) Q) : Wp X pc lo (st) h bd Q := by
  refine wp_at hi ?_
  show Fld Wp X nx lo st h bd Q 2 n _
  unfold Fld
  rw [hn]
  exact K
theorem wp_aloadk {n : Nat} {x : Nat} {lo' : LO} (hk : kil kn (lo) = lo') (hi : (tab X).lookup pc = some (.aload n, nx, kn, a, ka, b, j, c)) (hn : nth lo n = some (.ref x)) (K : Wp X nx (lo') (.ref x :: st) (h) (bd) Q) : Wp X pc lo (st) h bd Q := by
  subst hk
  refine wp_at hi ?_
  show Fld Wp X nx lo st h bd Q 2 n _
  unfold Fld
  rw [hn]
  exact K
theorem wp_aload_n {n : Fin 4} {x : Nat} (hi : (tab X).lookup pc = some (.aload_n n, nx, [], a, ka, b, j, c)) (hn : nth lo n.val = some (.ref x)) (K : Wp X nx (lo) (.ref x :: st) (h) (bd) Q) : Wp X pc lo (st) h bd Q := by
  refine wp_at hi ?_
  show Fld Wp X nx lo st h bd Q 2 n.val _
  unfold Fld
  rw [hn]
  exact K
theorem wp_aload_nk {n : Fin 4} {x : Nat} {lo' : LO} (hk : kil kn (lo) = lo') (hi : (tab X).lookup pc = some (.aload_n n, nx, kn, a, ka, b, j, c)) (hn : nth lo n.val = some (.ref x)) (K : Wp X nx (lo') (.ref x :: st) (h) (bd) Q) : Wp X pc lo (st) h bd Q := by
  subst hk
  refine wp_at hi ?_
  show Fld Wp X nx lo st h bd Q 2 n.val _
  unfold Fld
  rw [hn]
  exact K
theorem wp_astore {n : Nat} {x : Nat} {lo' : LO} (hi : (tab X).lookup pc = some (.astore n, nx, kn, a, ka, b, j, c)) (hg : lgb lo n = true) (hk : kil kn (sto lo n (some (.ref x))) = lo') (K : Wp X nx lo' st h bd Q) : Wp X pc lo (.ref x :: st) h bd Q := by
  subst hk
  exact wp_at hi ⟨hg, K⟩
theorem wp_astore_n {n : Fin 4} {x : Nat} {lo' : LO} (hi : (tab X).lookup pc = some (.astore_n n, nx, kn, a, ka, b, j, c)) (hg : lgb lo n.val = true) (hk : kil kn (sto lo n.val (some (.ref x))) = lo') (K : Wp X nx lo' st h bd Q) : Wp X pc lo (.ref x :: st) h bd Q := by
  subst hk
  exact wp_at hi ⟨hg, K⟩
theorem wp_iinc {n : Nat} {k : Int} {x : Int32} {lo' : LO} (hi : (tab X).lookup pc = some (.iinc n k, nx, kn, a, ka, b, j, c)) (hn : nth lo n = some (.int x)) (hg : lgb lo n = true) (hk : kil kn (sto lo n (some (.int (x + c)))) = lo') (K : Wp X nx lo' st h bd Q) : Wp X pc lo st h bd Q := by
  subst hk
  refine wp_at hi ?_
  unfold Fi
  simp only
  rw [hn]
  exact ⟨hg, K⟩
theorem wp_iconst {k : Int} (hi : (tab X).lookup pc = some (.iconst k, nx, [], a, ka, b, j, c)) (K : Wp X nx (lo) (.int c :: st) (h) (bd) Q) : Wp X pc lo (st) h bd Q := by
  exact wp_at hi K
theorem wp_iconstk {k : Int} {lo' : LO} (hk : kil kn (lo) = lo') (hi : (tab X).lookup pc = some (.iconst k, nx, kn, a, ka, b, j, c)) (K : Wp X nx (lo') (.int c :: st) (h) (bd) Q) : Wp X pc lo (st) h bd Q := by
  subst hk
  exact wp_at hi K
theorem wp_bipush {k : Int} (hi : (tab X).lookup pc = some (.bipush k, nx, [], a, ka, b, j, c)) (K : Wp X nx (lo) (.int c :: st) (h) (bd) Q) : Wp X pc lo (st) h bd Q := by
  exact wp_at hi K
theorem wp_bipushk {k : Int} {lo' : LO} (hk : kil kn (lo) = lo') (hi : (tab X).lookup pc = some (.bipush k, nx, kn, a, ka, b, j, c)) (K : Wp X nx (lo') (.int c :: st) (h) (bd) Q) : Wp X pc lo (st) h bd Q := by
  subst hk
  exact wp_at hi K
theorem wp_sipush {k : Int} (hi : (tab X).lookup pc = some (.sipush k, nx, [], a, ka, b, j, c)) (K : Wp X nx (lo) (.int c :: st) (h) (bd) Q) : Wp X pc lo (st) h bd Q := by
  exact wp_at hi K
theorem wp_sipushk {k : Int} {lo' : LO} (hk : kil kn (lo) = lo') (hi : (tab X).lookup pc = some (.sipush k, nx, kn, a, ka, b, j, c)) (K : Wp X nx (lo') (.int c :: st) (h) (bd) Q) : Wp X pc lo (st) h bd Q := by
  subst hk
  exact wp_at hi K
theorem wp_ldc {k : Nat} (hi : (tab X).lookup pc = some (.ldc k, nx, [], a, ka, b, j, c)) (K : Wp X nx (lo) (.int c :: st) (h) (bd) Q) : Wp X pc lo (st) h bd Q := by
  exact wp_at hi K
theorem wp_ldck {k : Nat} {lo' : LO} (hk : kil kn (lo) = lo') (hi : (tab X).lookup pc = some (.ldc k, nx, kn, a, ka, b, j, c)) (K : Wp X nx (lo') (.int c :: st) (h) (bd) Q) : Wp X pc lo (st) h bd Q := by
  subst hk
  exact wp_at hi K
theorem wp_lconst {k : Fin 2} (hi : (tab X).lookup pc = some (.lconst k, nx, [], a, ka, b, j, c)) (K : Wp X nx (lo) (.long (lN a) :: st) (h) (bd) Q) : Wp X pc lo (st) h bd Q := by
  exact wp_at hi K
theorem wp_lconstk {k : Fin 2} {lo' : LO} (hk : kil kn (lo) = lo') (hi : (tab X).lookup pc = some (.lconst k, nx, kn, a, ka, b, j, c)) (K : Wp X nx (lo') (.long (lN a) :: st) (h) (bd) Q) : Wp X pc lo (st) h bd Q := by
  subst hk
  exact wp_at hi K
theorem wp_ldc2 {k : Nat} (hi : (tab X).lookup pc = some (.ldc2_w k, nx, [], a, ka, b, j, c)) (K : Wp X nx (lo) (.long (lN a) :: st) (h) (bd) Q) : Wp X pc lo (st) h bd Q := by
  exact wp_at hi K
theorem wp_ldc2k {k : Nat} {lo' : LO} (hk : kil kn (lo) = lo') (hi : (tab X).lookup pc = some (.ldc2_w k, nx, kn, a, ka, b, j, c)) (K : Wp X nx (lo') (.long (lN a) :: st) (h) (bd) Q) : Wp X pc lo (st) h bd Q := by
  subst hk
  exact wp_at hi K
theorem wp_iadd {x y : Int32} (hi : (tab X).lookup pc = some (.iadd, nx, [], a, ka, b, j, c)) (K : Wp X nx (lo) (.int (x + y) :: st) (h) (bd) Q) : Wp X pc lo (.int y :: .int x :: st) h bd Q := by
  exact wp_at hi K
theorem wp_iaddk {x y : Int32} {lo' : LO} (hk : kil kn (lo) = lo') (hi : (tab X).lookup pc = some (.iadd, nx, kn, a, ka, b, j, c)) (K : Wp X nx (lo') (.int (x + y) :: st) (h) (bd) Q) : Wp X pc lo (.int y :: .int x :: st) h bd Q := by
  subst hk
  exact wp_at hi K
theorem wp_isub {x y : Int32} (hi : (tab X).lookup pc = some (.isub, nx, [], a, ka, b, j, c)) (K : Wp X nx (lo) (.int (x - y) :: st) (h) (bd) Q) : Wp X pc lo (.int y :: .int x :: st) h bd Q := by
  exact wp_at hi K
theorem wp_isubk {x y : Int32} {lo' : LO} (hk : kil kn (lo) = lo') (hi : (tab X).lookup pc = some (.isub, nx, kn, a, ka, b, j, c)) (K : Wp X nx (lo') (.int (x - y) :: st) (h) (bd) Q) : Wp X pc lo (.int y :: .int x :: st) h bd Q := by
  subst hk
  exact wp_at hi K
theorem wp_imul {x y : Int32} (hi : (tab X).lookup pc = some (.imul, nx, [], a, ka, b, j, c)) (K : Wp X nx (lo) (.int (x * y) :: st) (h) (bd) Q) : Wp X pc lo (.int y :: .int x :: st) h bd Q := by
  exact wp_at hi K
theorem wp_imulk {x y : Int32} {lo' : LO} (hk : kil kn (lo) = lo') (hi : (tab X).lookup pc = some (.imul, nx, kn, a, ka, b, j, c)) (K : Wp X nx (lo') (.int (x * y) :: st) (h) (bd) Q) : Wp X pc lo (.int y :: .int x :: st) h bd Q := by
  subst hk
  exact wp_at hi K
theorem wp_iand {x y : Int32} (hi : (tab X).lookup pc = some (.iand, nx, [], a, ka, b, j, c)) (K : Wp X nx (lo) (.int (x &&& y) :: st) (h) (bd) Q) : Wp X pc lo (.int y :: .int x :: st) h bd Q := by
  exact wp_at hi K
theorem wp_iandk {x y : Int32} {lo' : LO} (hk : kil kn (lo) = lo') (hi : (tab X).lookup pc = some (.iand, nx, kn, a, ka, b, j, c)) (K : Wp X nx (lo') (.int (x &&& y) :: st) (h) (bd) Q) : Wp X pc lo (.int y :: .int x :: st) h bd Q := by
  subst hk
  exact wp_at hi K
theorem wp_ior {x y : Int32} (hi : (tab X).lookup pc = some (.ior, nx, [], a, ka, b, j, c)) (K : Wp X nx (lo) (.int (x ||| y) :: st) (h) (bd) Q) : Wp X pc lo (.int y :: .int x :: st) h bd Q := by
  exact wp_at hi K
theorem wp_iork {x y : Int32} {lo' : LO} (hk : kil kn (lo) = lo') (hi : (tab X).lookup pc = some (.ior, nx, kn, a, ka, b, j, c)) (K : Wp X nx (lo') (.int (x ||| y) :: st) (h) (bd) Q) : Wp X pc lo (.int y :: .int x :: st) h bd Q := by
  subst hk
  exact wp_at hi K
theorem wp_idiv {x y : Int32} (hi : (tab X).lookup pc = some (.idiv, nx, [], a, ka, b, j, c)) (g0 : ¬ y = 0) (K : Wp X nx (lo) (.int (x / y) :: st) (h) (bd) Q) : Wp X pc lo (.int y :: .int x :: st) h bd Q := by
  exact wp_at hi ⟨g0, K⟩
theorem wp_idivk {x y : Int32} {lo' : LO} (hk : kil kn (lo) = lo') (hi : (tab X).lookup pc = some (.idiv, nx, kn, a, ka, b, j, c)) (g0 : ¬ y = 0) (K : Wp X nx (lo') (.int (x / y) :: st) (h) (bd) Q) : Wp X pc lo (.int y :: .int x :: st) h bd Q := by
  subst hk
  exact wp_at hi ⟨g0, K⟩
theorem wp_land {x y : Int64} (hi : (tab X).lookup pc = some (.land, nx, [], a, ka, b, j, c)) (K : Wp X nx (lo) (.long (x &&& y) :: st) (h) (bd) Q) : Wp X pc lo (.long y :: .long x :: st) h bd Q := by
  exact wp_at hi K
theorem wp_landk {x y : Int64} {lo' : LO} (hk : kil kn (lo) = lo') (hi : (tab X).lookup pc = some (.land, nx, kn, a, ka, b, j, c)) (K : Wp X nx (lo') (.long (x &&& y) :: st) (h) (bd) Q) : Wp X pc lo (.long y :: .long x :: st) h bd Q := by
  subst hk
  exact wp_at hi K
theorem wp_lor {x y : Int64} (hi : (tab X).lookup pc = some (.lor, nx, [], a, ka, b, j, c)) (K : Wp X nx (lo) (.long (x ||| y) :: st) (h) (bd) Q) : Wp X pc lo (.long y :: .long x :: st) h bd Q := by
  exact wp_at hi K
theorem wp_lork {x y : Int64} {lo' : LO} (hk : kil kn (lo) = lo') (hi : (tab X).lookup pc = some (.lor, nx, kn, a, ka, b, j, c)) (K : Wp X nx (lo') (.long (x ||| y) :: st) (h) (bd) Q) : Wp X pc lo (.long y :: .long x :: st) h bd Q := by
  subst hk
  exact wp_at hi K
theorem wp_lshl {x : Int64} {y : Int32} (hi : (tab X).lookup pc = some (.lshl, nx, [], a, ka, b, j, c)) (K : Wp X nx (lo) (.long (x <<< (y.toInt64 &&& 63)) :: st) (h) (bd) Q) : Wp X pc lo (.int y :: .long x :: st) h bd Q := by
  exact wp_at hi K
theorem wp_lshlk {x : Int64} {y : Int32} {lo' : LO} (hk : kil kn (lo) = lo') (hi : (tab X).lookup pc = some (.lshl, nx, kn, a, ka, b, j, c)) (K : Wp X nx (lo') (.long (x <<< (y.toInt64 &&& 63)) :: st) (h) (bd) Q) : Wp X pc lo (.int y :: .long x :: st) h bd Q := by
  subst hk
  exact wp_at hi K
theorem wp_lshr {x : Int64} {y : Int32} (hi : (tab X).lookup pc = some (.lshr, nx, [], a, ka, b, j, c)) (K : Wp X nx (lo) (.long (x >>> (y.toInt64 &&& 63)) :: st) (h) (bd) Q) : Wp X pc lo (.int y :: .long x :: st) h bd Q := by
  exact wp_at hi K
theorem wp_lshrk {x : Int64} {y : Int32} {lo' : LO} (hk : kil kn (lo) = lo') (hi : (tab X).lookup pc = some (.lshr, nx, kn, a, ka, b, j, c)) (K : Wp X nx (lo') (.long (x >>> (y.toInt64 &&& 63)) :: st) (h) (bd) Q) : Wp X pc lo (.int y :: .long x :: st) h bd Q := by
  subst hk
  exact wp_at hi K
theorem wp_lushr {x : Int64} {y : Int32} (hi : (tab X).lookup pc = some (.lushr, nx, [], a, ka, b, j, c)) (K : Wp X nx (lo) (.long ((x.toUInt64 >>> (y.toInt64.toUInt64 &&& Int64.toUInt64 63)).toInt64) :: st) (h) (bd) Q) : Wp X pc lo (.int y :: .long x :: st) h bd Q := by
  exact wp_at hi K
theorem wp_lushrk {x : Int64} {y : Int32} {lo' : LO} (hk : kil kn (lo) = lo') (hi : (tab X).lookup pc = some (.lushr, nx, kn, a, ka, b, j, c)) (K : Wp X nx (lo') (.long ((x.toUInt64 >>> (y.toInt64.toUInt64 &&& Int64.toUInt64 63)).toInt64) :: st) (h) (bd) Q) : Wp X pc lo (.int y :: .long x :: st) h bd Q := by
  subst hk
  exact wp_at hi K
theorem wp_i2l {x : Int32} (hi : (tab X).lookup pc = some (.i2l, nx, [], a, ka, b, j, c)) (K : Wp X nx (lo) (.long x.toInt64 :: st) (h) (bd) Q) : Wp X pc lo (.int x :: st) h bd Q := by
  exact wp_at hi K
theorem wp_i2lk {x : Int32} {lo' : LO} (hk : kil kn (lo) = lo') (hi : (tab X).lookup pc = some (.i2l, nx, kn, a, ka, b, j, c)) (K : Wp X nx (lo') (.long x.toInt64 :: st) (h) (bd) Q) : Wp X pc lo (.int x :: st) h bd Q := by
  subst hk
  exact wp_at hi K
theorem wp_l2i {x : Int64} (hi : (tab X).lookup pc = some (.l2i, nx, [], a, ka, b, j, c)) (K : Wp X nx (lo) (.int x.toInt32 :: st) (h) (bd) Q) : Wp X pc lo (.long x :: st) h bd Q := by
  exact wp_at hi K
theorem wp_l2ik {x : Int64} {lo' : LO} (hk : kil kn (lo) = lo') (hi : (tab X).lookup pc = some (.l2i, nx, kn, a, ka, b, j, c)) (K : Wp X nx (lo') (.int x.toInt32 :: st) (h) (bd) Q) : Wp X pc lo (.long x :: st) h bd Q := by
  subst hk
  exact wp_at hi K
theorem wp_i2b {x : Int32} (hi : (tab X).lookup pc = some (.i2b, nx, [], a, ka, b, j, c)) (K : Wp X nx (lo) (.int x.toInt8.toInt32 :: st) (h) (bd) Q) : Wp X pc lo (.int x :: st) h bd Q := by
  exact wp_at hi K
theorem wp_i2bk {x : Int32} {lo' : LO} (hk : kil kn (lo) = lo') (hi : (tab X).lookup pc = some (.i2b, nx, kn, a, ka, b, j, c)) (K : Wp X nx (lo') (.int x.toInt8.toInt32 :: st) (h) (bd) Q) : Wp X pc lo (.int x :: st) h bd Q := by
  subst hk
  exact wp_at hi K
theorem wp_lcmp {x y : Int64} (hi : (tab X).lookup pc = some (.lcmp, nx, [], a, ka, b, j, c)) (K : Wp X nx (lo) (.int (lg_cmp x y) :: st) (h) (bd) Q) : Wp X pc lo (.long y :: .long x :: st) h bd Q := by
  exact wp_at hi K
theorem wp_lcmpk {x y : Int64} {lo' : LO} (hk : kil kn (lo) = lo') (hi : (tab X).lookup pc = some (.lcmp, nx, kn, a, ka, b, j, c)) (K : Wp X nx (lo') (.int (lg_cmp x y) :: st) (h) (bd) Q) : Wp X pc lo (.long y :: .long x :: st) h bd Q := by
  subst hk
  exact wp_at hi K
theorem wp_dupI {x : Int32} (hi : (tab X).lookup pc = some (.dup, nx, [], a, ka, b, j, c)) (K : Wp X nx (lo) (.int x :: .int x :: st) (h) (bd) Q) : Wp X pc lo (.int x :: st) h bd Q := by
  exact wp_at hi K
theorem wp_dupIk {x : Int32} {lo' : LO} (hk : kil kn (lo) = lo') (hi : (tab X).lookup pc = some (.dup, nx, kn, a, ka, b, j, c)) (K : Wp X nx (lo') (.int x :: .int x :: st) (h) (bd) Q) : Wp X pc lo (.int x :: st) h bd Q := by
  subst hk
  exact wp_at hi K
theorem wp_dupR {x : Nat} (hi : (tab X).lookup pc = some (.dup, nx, [], a, ka, b, j, c)) (K : Wp X nx (lo) (.ref x :: .ref x :: st) (h) (bd) Q) : Wp X pc lo (.ref x :: st) h bd Q := by
  exact wp_at hi K
theorem wp_dupRk {x : Nat} {lo' : LO} (hk : kil kn (lo) = lo') (hi : (tab X).lookup pc = some (.dup, nx, kn, a, ka, b, j, c)) (K : Wp X nx (lo') (.ref x :: .ref x :: st) (h) (bd) Q) : Wp X pc lo (.ref x :: st) h bd Q := by
  subst hk
  exact wp_at hi K
theorem wp_dup2 {y : Int32} {x : Nat} (hi : (tab X).lookup pc = some (.dup2, nx, [], a, ka, b, j, c)) (K : Wp X nx (lo) (.int y :: .ref x :: .int y :: .ref x :: st) (h) (bd) Q) : Wp X pc lo (.int y :: .ref x :: st) h bd Q := by
  exact wp_at hi K
theorem wp_dup2k {y : Int32} {x : Nat} {lo' : LO} (hk : kil kn (lo) = lo') (hi : (tab X).lookup pc = some (.dup2, nx, kn, a, ka, b, j, c)) (K : Wp X nx (lo') (.int y :: .ref x :: .int y :: .ref x :: st) (h) (bd) Q) : Wp X pc lo (.int y :: .ref x :: st) h bd Q := by
  subst hk
  exact wp_at hi K
theorem wp_pop {x : Int32} (hi : (tab X).lookup pc = some (.pop, nx, [], a, ka, b, j, c)) (K : Wp X nx (lo) (st) (h) (bd) Q) : Wp X pc lo (.int x :: st) h bd Q := by
  exact wp_at hi K
theorem wp_popk {x : Int32} {lo' : LO} (hk : kil kn (lo) = lo') (hi : (tab X).lookup pc = some (.pop, nx, kn, a, ka, b, j, c)) (K : Wp X nx (lo') (st) (h) (bd) Q) : Wp X pc lo (.int x :: st) h bd Q := by
  subst hk
  exact wp_at hi K
theorem wp_goto {k : Int} {lo' : LO} (hi : (tab X).lookup pc = some (.goto k, nx, kn, a, ka, b, j, c)) (hk : kil ka lo = lo') (K : Wp X a lo' st h bd Q) : Wp X pc lo st h bd Q := by
  subst hk
  exact wp_at hi K
theorem wp_icmp_eq {k : Int} {x y : Int32} {lo1 lo2 : LO} (hi : (tab X).lookup pc = some (.if_icmp .eq k, nx, kn, a, ka, b, j, c)) (h1 : kil ka lo = lo1) (h2 : kil kn lo = lo2) (K1 : x = y → Wp X a lo1 st h bd Q) (K2 : ¬ x = y → Wp X nx lo2 st h bd Q) : Wp X pc lo (.int y :: .int x :: st) h bd Q := by
  subst h1; subst h2
  exact wp_at hi ⟨K1, K2⟩
theorem wp_if_eq {k : Int} {x : Int32} {lo1 lo2 : LO} (hi : (tab X).lookup pc = some (.ifCond .eq k, nx, kn, a, ka, b, j, c)) (h1 : kil ka lo = lo1) (h2 : kil kn lo = lo2) (K1 : x = 0 → Wp X a lo1 st h bd Q) (K2 : ¬ x = 0 → Wp X nx lo2 st h bd Q) : Wp X pc lo (.int x :: st) h bd Q := by
  subst h1; subst h2
  exact wp_at hi ⟨K1, K2⟩
theorem wp_icmp_ne {k : Int} {x y : Int32} {lo1 lo2 : LO} (hi : (tab X).lookup pc = some (.if_icmp .ne k, nx, kn, a, ka, b, j, c)) (h1 : kil ka lo = lo1) (h2 : kil kn lo = lo2) (K1 : ¬ x = y → Wp X a lo1 st h bd Q) (K2 : x = y → Wp X nx lo2 st h bd Q) : Wp X pc lo (.int y :: .int x :: st) h bd Q := by
  subst h1; subst h2
  exact wp_at hi ⟨K1, K2⟩
theorem wp_if_ne {k : Int} {x : Int32} {lo1 lo2 : LO} (hi : (tab X).lookup pc = some (.ifCond .ne k, nx, kn, a, ka, b, j, c)) (h1 : kil ka lo = lo1) (h2 : kil kn lo = lo2) (K1 : ¬ x = 0 → Wp X a lo1 st h bd Q) (K2 : x = 0 → Wp X nx lo2 st h bd Q) : Wp X pc lo (.int x :: st) h bd Q := by
  subst h1; subst h2
  exact wp_at hi ⟨K1, K2⟩
theorem wp_icmp_lt {k : Int} {x y : Int32} {lo1 lo2 : LO} (hi : (tab X).lookup pc = some (.if_icmp .lt k, nx, kn, a, ka, b, j, c)) (h1 : kil ka lo = lo1) (h2 : kil kn lo = lo2) (K1 : x < y → Wp X a lo1 st h bd Q) (K2 : ¬ x < y → Wp X nx lo2 st h bd Q) : Wp X pc lo (.int y :: .int x :: st) h bd Q := by
  subst h1; subst h2
  exact wp_at hi ⟨K1, K2⟩
theorem wp_if_lt {k : Int} {x : Int32} {lo1 lo2 : LO} (hi : (tab X).lookup pc = some (.ifCond .lt k, nx, kn, a, ka, b, j, c)) (h1 : kil ka lo = lo1) (h2 : kil kn lo = lo2) (K1 : x < 0 → Wp X a lo1 st h bd Q) (K2 : ¬ x < 0 → Wp X nx lo2 st h bd Q) : Wp X pc lo (.int x :: st) h bd Q := by
  subst h1; subst h2
  exact wp_at hi ⟨K1, K2⟩
theorem wp_icmp_ge {k : Int} {x y : Int32} {lo1 lo2 : LO} (hi : (tab X).lookup pc = some (.if_icmp .ge k, nx, kn, a, ka, b, j, c)) (h1 : kil ka lo = lo1) (h2 : kil kn lo = lo2) (K1 : y ≤ x → Wp X a lo1 st h bd Q) (K2 : ¬ y ≤ x → Wp X nx lo2 st h bd Q) : Wp X pc lo (.int y :: .int x :: st) h bd Q := by
  subst h1; subst h2
  exact wp_at hi ⟨K1, K2⟩
theorem wp_if_ge {k : Int} {x : Int32} {lo1 lo2 : LO} (hi : (tab X).lookup pc = some (.ifCond .ge k, nx, kn, a, ka, b, j, c)) (h1 : kil ka lo = lo1) (h2 : kil kn lo = lo2) (K1 : 0 ≤ x → Wp X a lo1 st h bd Q) (K2 : ¬ 0 ≤ x → Wp X nx lo2 st h bd Q) : Wp X pc lo (.int x :: st) h bd Q := by
  subst h1; subst h2
  exact wp_at hi ⟨K1, K2⟩
theorem wp_icmp_gt {k : Int} {x y : Int32} {lo1 lo2 : LO} (hi : (tab X).lookup pc = some (.if_icmp .gt k, nx, kn, a, ka, b, j, c)) (h1 : kil ka lo = lo1) (h2 : kil kn lo = lo2) (K1 : y < x → Wp X a lo1 st h bd Q) (K2 : ¬ y < x → Wp X nx lo2 st h bd Q) : Wp X pc lo (.int y :: .int x :: st) h bd Q := by
  subst h1; subst h2
  exact wp_at hi ⟨K1, K2⟩
theorem wp_if_gt {k : Int} {x : Int32} {lo1 lo2 : LO} (hi : (tab X).lookup pc = some (.ifCond .gt k, nx, kn, a, ka, b, j, c)) (h1 : kil ka lo = lo1) (h2 : kil kn lo = lo2) (K1 : 0 < x → Wp X a lo1 st h bd Q) (K2 : ¬ 0 < x → Wp X nx lo2 st h bd Q) : Wp X pc lo (.int x :: st) h bd Q := by
  subst h1; subst h2
  exact wp_at hi ⟨K1, K2⟩
theorem wp_icmp_le {k : Int} {x y : Int32} {lo1 lo2 : LO} (hi : (tab X).lookup pc = some (.if_icmp .le k, nx, kn, a, ka, b, j, c)) (h1 : kil ka lo = lo1) (h2 : kil kn lo = lo2) (K1 : x ≤ y → Wp X a lo1 st h bd Q) (K2 : ¬ x ≤ y → Wp X nx lo2 st h bd Q) : Wp X pc lo (.int y :: .int x :: st) h bd Q := by
  subst h1; subst h2
  exact wp_at hi ⟨K1, K2⟩
theorem wp_if_le {k : Int} {x : Int32} {lo1 lo2 : LO} (hi : (tab X).lookup pc = some (.ifCond .le k, nx, kn, a, ka, b, j, c)) (h1 : kil ka lo = lo1) (h2 : kil kn lo = lo2) (K1 : x ≤ 0 → Wp X a lo1 st h bd Q) (K2 : ¬ x ≤ 0 → Wp X nx lo2 st h bd Q) : Wp X pc lo (.int x :: st) h bd Q := by
  subst h1; subst h2
  exact wp_at hi ⟨K1, K2⟩
theorem wp_table {d l u : Int} {offs : Array Int} {x : Int32} {lo' : LO} (hi : (tab X).lookup pc = some (.tableswitch d l u offs, nx, kn, a, ka, b, j, c)) (hk : kil ka lo = lo') (K1 : x.toInt < l ∨ u < x.toInt → Wp X a lo' st h bd Q) (K2 : ∀ (i : Nat) (off : Int), offs[i]? = some off → x.toInt = l + i → Wp X ((pc : Int) + off).toNat lo' st h bd Q) : Wp X pc lo (.int x :: st) h bd Q := by
  subst hk
  exact wp_at hi ⟨K1, K2⟩
theorem wp_lookup {d : Int} {ps : Array (Int × Int)} {x : Int32} {lo' : LO} (hi : (tab X).lookup pc = some (.lookupswitch d ps, nx, kn, a, ka, b, j, c)) (hk : kil ka lo = lo') (K : Wp X ((pc : Int) + Op.lookupswitch.offset ps.toList d x.toInt).toNat lo' st h bd Q) : Wp X pc lo (.int x :: st) h bd Q := by
  subst hk
  exact wp_at hi K
theorem wp_getI {k r : Nat} (hi : (tab X).lookup pc = some (.getfield k, nx, [], a, ka, b, j, c)) (hf : isRf a b = false) (g0 : isO h r a) (K : Wp X nx (lo) (.int (gI h r b) :: st) (h) (bd) Q) : Wp X pc lo (.ref r :: st) h bd Q := by
  refine wp_at hi ⟨g0, ?_⟩
  show (match isRf a b with | false => _ | true => _)
  rw [hf]
  exact K
theorem wp_getIk {k r : Nat} {lo' : LO} (hk : kil kn (lo) = lo') (hi : (tab X).lookup pc = some (.getfield k, nx, kn, a, ka, b, j, c)) (hf : isRf a b = false) (g0 : isO h r a) (K : Wp X nx (lo') (.int (gI h r b) :: st) (h) (bd) Q) : Wp X pc lo (.ref r :: st) h bd Q := by
  subst hk
  refine wp_at hi ⟨g0, ?_⟩
  show (match isRf a b with | false => _ | true => _)
  rw [hf]
  exact K
theorem wp_getR {k r : Nat} (hi : (tab X).lookup pc = some (.getfield k, nx, [], a, ka, b, j, c)) (hf : isRf a b = true) (g0 : isO h r a) (g1 : 0 < gR h r b) (K : Wp X nx (lo) (.ref (gR h r b) :: st) (h) (bd) Q) : Wp X pc lo (.ref r :: st) h bd Q := by
  refine wp_at hi ⟨g0, ?_⟩
  show (match isRf a b with | false => _ | true => _)
  rw [hf]
  exact ⟨g1, K⟩
theorem wp_getRk {k r : Nat} {lo' : LO} (hk : kil kn (lo) = lo') (hi : (tab X).lookup pc = some (.getfield k, nx, kn, a, ka, b, j, c)) (hf : isRf a b = true) (g0 : isO h r a) (g1 : 0 < gR h r b) (K : Wp X nx (lo') (.ref (gR h r b) :: st) (h) (bd) Q) : Wp X pc lo (.ref r :: st) h bd Q := by
  subst hk
  refine wp_at hi ⟨g0, ?_⟩
  show (match isRf a b with | false => _ | true => _)
  rw [hf]
  exact ⟨g1, K⟩
theorem wp_putI {k r : Nat} {v : Int32} (hi : (tab X).lookup pc = some (.putfield k, nx, [], a, ka, b, j, c)) (hf : isRf a b = false) (g0 : isO h r a) (K : Wp X nx (lo) (st) (stI h r b v) (bd) Q) : Wp X pc lo (.int v :: .ref r :: st) h bd Q := by
  refine wp_at hi ?_
  unfold Fi
  simp only
  rw [hf]
  exact ⟨g0, K⟩
theorem wp_putIk {k r : Nat} {v : Int32} {lo' : LO} (hk : kil kn (lo) = lo') (hi : (tab X).lookup pc = some (.putfield k, nx, kn, a, ka, b, j, c)) (hf : isRf a b = false) (g0 : isO h r a) (K : Wp X nx (lo') (st) (stI h r b v) (bd) Q) : Wp X pc lo (.int v :: .ref r :: st) h bd Q := by
  subst hk
  refine wp_at hi ?_
  unfold Fi
  simp only
  rw [hf]
  exact ⟨g0, K⟩
theorem wp_putR {k r v : Nat} (hi : (tab X).lookup pc = some (.putfield k, nx, [], a, ka, b, j, c)) (hf : isRf a b = true) (g0 : isO h r a) (g1 : 0 < v) (K : Wp X nx (lo) (st) (stR h r b v) (bd) Q) : Wp X pc lo (.ref v :: .ref r :: st) h bd Q := by
  refine wp_at hi ?_
  unfold Fi
  simp only
  rw [hf]
  exact ⟨g0, g1, K⟩
theorem wp_putRk {k r v : Nat} {lo' : LO} (hk : kil kn (lo) = lo') (hi : (tab X).lookup pc = some (.putfield k, nx, kn, a, ka, b, j, c)) (hf : isRf a b = true) (g0 : isO h r a) (g1 : 0 < v) (K : Wp X nx (lo') (st) (stR h r b v) (bd) Q) : Wp X pc lo (.ref v :: .ref r :: st) h bd Q := by
  subst hk
  refine wp_at hi ?_
  unfold Fi
  simp only
  rw [hf]
  exact ⟨g0, g1, K⟩
theorem wp_iald {r : Nat} {i : Int32} (hi : (tab X).lookup pc = some (.iaload, nx, [], a, ka, b, j, c)) (g0 : isL h r 100 i) (K : Wp X nx (lo) (.int (gI h r i.toNatClampNeg) :: st) (h) (bd) Q) : Wp X pc lo (.int i :: .ref r :: st) h bd Q := by
  exact wp_at hi ⟨g0, K⟩
theorem wp_ialdk {r : Nat} {i : Int32} {lo' : LO} (hk : kil kn (lo) = lo') (hi : (tab X).lookup pc = some (.iaload, nx, kn, a, ka, b, j, c)) (g0 : isL h r 100 i) (K : Wp X nx (lo') (.int (gI h r i.toNatClampNeg) :: st) (h) (bd) Q) : Wp X pc lo (.int i :: .ref r :: st) h bd Q := by
  subst hk
  exact wp_at hi ⟨g0, K⟩
theorem wp_bald {r : Nat} {i : Int32} (hi : (tab X).lookup pc = some (.baload, nx, [], a, ka, b, j, c)) (g0 : isA h r b i) (K : Wp X nx (lo) (.int (gI h r i.toNatClampNeg) :: st) (h) (bd) Q) : Wp X pc lo (.int i :: .ref r :: st) h bd Q := by
  exact wp_at hi ⟨g0, K⟩
theorem wp_baldk {r : Nat} {i : Int32} {lo' : LO} (hk : kil kn (lo) = lo') (hi : (tab X).lookup pc = some (.baload, nx, kn, a, ka, b, j, c)) (g0 : isA h r b i) (K : Wp X nx (lo') (.int (gI h r i.toNatClampNeg) :: st) (h) (bd) Q) : Wp X pc lo (.int i :: .ref r :: st) h bd Q := by
  subst hk
  exact wp_at hi ⟨g0, K⟩
theorem wp_lald {r : Nat} {i : Int32} (hi : (tab X).lookup pc = some (.laload, nx, [], a, ka, b, j, c)) (g0 : isA h r 103 i) (K : Wp X nx (lo) (.long (gJ h r i.toNatClampNeg) :: st) (h) (bd) Q) : Wp X pc lo (.int i :: .ref r :: st) h bd Q := by
  exact wp_at hi ⟨g0, K⟩
theorem wp_laldk {r : Nat} {i : Int32} {lo' : LO} (hk : kil kn (lo) = lo') (hi : (tab X).lookup pc = some (.laload, nx, kn, a, ka, b, j, c)) (g0 : isA h r 103 i) (K : Wp X nx (lo') (.long (gJ h r i.toNatClampNeg) :: st) (h) (bd) Q) : Wp X pc lo (.int i :: .ref r :: st) h bd Q := by
  subst hk
  exact wp_at hi ⟨g0, K⟩
theorem wp_aald {r : Nat} {i : Int32} (hi : (tab X).lookup pc = some (.aaload, nx, [], a, ka, b, j, c)) (g0 : 0 < r) (g1 : r < gS h) (g2 : gK h r = 104 ∨ gK h r = 105) (g3 : vp_in i (gL h r)) (g4 : 0 < gR h r i.toNatClampNeg) (K : Wp X nx (lo) (.ref (gR h r i.toNatClampNeg) :: st) (h) (bd) Q) : Wp X pc lo (.int i :: .ref r :: st) h bd Q := by
  exact wp_at hi ⟨g0, g1, g2, g3, g4, K⟩
theorem wp_aaldk {r : Nat} {i : Int32} {lo' : LO} (hk : kil kn (lo) = lo') (hi : (tab X).lookup pc = some (.aaload, nx, kn, a, ka, b, j, c)) (g0 : 0 < r) (g1 : r < gS h) (g2 : gK h r = 104 ∨ gK h r = 105) (g3 : vp_in i (gL h r)) (g4 : 0 < gR h r i.toNatClampNeg) (K : Wp X nx (lo') (.ref (gR h r i.toNatClampNeg) :: st) (h) (bd) Q) : Wp X pc lo (.int i :: .ref r :: st) h bd Q := by
  subst hk
  exact wp_at hi ⟨g0, g1, g2, g3, g4, K⟩
theorem wp_iast {r : Nat} {i v : Int32} (hi : (tab X).lookup pc = some (.iastore, nx, [], a, ka, b, j, c)) (g0 : isA h r 100 i) (K : Wp X nx (lo) (st) (stI h r i.toNatClampNeg v) (bd) Q) : Wp X pc lo (.int v :: .int i :: .ref r :: st) h bd Q := by
  exact wp_at hi ⟨g0, K⟩
theorem wp_iastk {r : Nat} {i v : Int32} {lo' : LO} (hk : kil kn (lo) = lo') (hi : (tab X).lookup pc = some (.iastore, nx, kn, a, ka, b, j, c)) (g0 : isA h r 100 i) (K : Wp X nx (lo') (st) (stI h r i.toNatClampNeg v) (bd) Q) : Wp X pc lo (.int v :: .int i :: .ref r :: st) h bd Q := by
  subst hk
  exact wp_at hi ⟨g0, K⟩
theorem wp_bast {r : Nat} {i v : Int32} (hi : (tab X).lookup pc = some (.bastore, nx, [], a, ka, b, j, c)) (g0 : isA h r b i) (K : Wp X nx (lo) (st) (stI h r i.toNatClampNeg (narB b v)) (bd) Q) : Wp X pc lo (.int v :: .int i :: .ref r :: st) h bd Q := by
  exact wp_at hi ⟨g0, K⟩
theorem wp_bastk {r : Nat} {i v : Int32} {lo' : LO} (hk : kil kn (lo) = lo') (hi : (tab X).lookup pc = some (.bastore, nx, kn, a, ka, b, j, c)) (g0 : isA h r b i) (K : Wp X nx (lo') (st) (stI h r i.toNatClampNeg (narB b v)) (bd) Q) : Wp X pc lo (.int v :: .int i :: .ref r :: st) h bd Q := by
  subst hk
  exact wp_at hi ⟨g0, K⟩
theorem wp_last {r : Nat} {i : Int32} {v : Int64} (hi : (tab X).lookup pc = some (.lastore, nx, [], a, ka, b, j, c)) (g0 : isA h r 103 i) (K : Wp X nx (lo) (st) (stJ h r i.toNatClampNeg v) (bd) Q) : Wp X pc lo (.long v :: .int i :: .ref r :: st) h bd Q := by
  exact wp_at hi ⟨g0, K⟩
theorem wp_lastk {r : Nat} {i : Int32} {v : Int64} {lo' : LO} (hk : kil kn (lo) = lo') (hi : (tab X).lookup pc = some (.lastore, nx, kn, a, ka, b, j, c)) (g0 : isA h r 103 i) (K : Wp X nx (lo') (st) (stJ h r i.toNatClampNeg v) (bd) Q) : Wp X pc lo (.long v :: .int i :: .ref r :: st) h bd Q := by
  subst hk
  exact wp_at hi ⟨g0, K⟩
theorem wp_aast {r v : Nat} {i : Int32} (hi : (tab X).lookup pc = some (.aastore, nx, [], a, ka, b, j, c)) (g0 : (gK h r = 104 ∧ isO h v 6) ∨ (gK h r = 105 ∧ isO h v 7)) (g1 : 0 < r) (g2 : r < gS h) (g3 : vp_in i (gL h r)) (K : Wp X nx (lo) (st) (stR h r i.toNatClampNeg v) (bd) Q) : Wp X pc lo (.ref v :: .int i :: .ref r :: st) h bd Q := by
  exact wp_at hi ⟨g0, g1, g2, g3, K⟩
theorem wp_aastk {r v : Nat} {i : Int32} {lo' : LO} (hk : kil kn (lo) = lo') (hi : (tab X).lookup pc = some (.aastore, nx, kn, a, ka, b, j, c)) (g0 : (gK h r = 104 ∧ isO h v 6) ∨ (gK h r = 105 ∧ isO h v 7)) (g1 : 0 < r) (g2 : r < gS h) (g3 : vp_in i (gL h r)) (K : Wp X nx (lo') (st) (stR h r i.toNatClampNeg v) (bd) Q) : Wp X pc lo (.ref v :: .int i :: .ref r :: st) h bd Q := by
  subst hk
  exact wp_at hi ⟨g0, g1, g2, g3, K⟩
theorem wp_alen {r : Nat} (hi : (tab X).lookup pc = some (.arraylength, nx, [], a, ka, b, j, c)) (g0 : r < gS h ∧ 100 ≤ gK h r ∧ gK h r ≤ 105 ∧ (r = 0 → gK h r = 100)) (K : Wp X nx (lo) (.int (nI (gL h r)) :: st) (h) (bd) Q) : Wp X pc lo (.ref r :: st) h bd Q := by
  exact wp_at hi ⟨g0, K⟩
theorem wp_alenk {r : Nat} {lo' : LO} (hk : kil kn (lo) = lo') (hi : (tab X).lookup pc = some (.arraylength, nx, kn, a, ka, b, j, c)) (g0 : r < gS h ∧ 100 ≤ gK h r ∧ gK h r ≤ 105 ∧ (r = 0 → gK h r = 100)) (K : Wp X nx (lo') (.int (nI (gL h r)) :: st) (h) (bd) Q) : Wp X pc lo (.ref r :: st) h bd Q := by
  subst hk
  exact wp_at hi ⟨g0, K⟩
theorem wp_newa {t : ArrayType} {n : Int32} (hi : (tab X).lookup pc = some (.newarray t, nx, [], a, ka, b, j, c)) (g0 : ¬ n < 0) (g1 : n.toNatClampNeg ≤ 60000000) (g2 : 1 ≤ bd.1) (g3 : n.toNatClampNeg ≤ bd.2) (K : Wp X nx (lo) (.ref (gS h) :: st) (nwC h b n.toNatClampNeg) (bd.1 - 1, bd.2 - n.toNatClampNeg) Q) : Wp X pc lo (.int n :: st) h bd Q := by
  exact wp_at hi ⟨g0, g1, g2, g3, K⟩
theorem wp_newak {t : ArrayType} {n : Int32} {lo' : LO} (hk : kil kn (lo) = lo') (hi : (tab X).lookup pc = some (.newarray t, nx, kn, a, ka, b, j, c)) (g0 : ¬ n < 0) (g1 : n.toNatClampNeg ≤ 60000000) (g2 : 1 ≤ bd.1) (g3 : n.toNatClampNeg ≤ bd.2) (K : Wp X nx (lo') (.ref (gS h) :: st) (nwC h b n.toNatClampNeg) (bd.1 - 1, bd.2 - n.toNatClampNeg) Q) : Wp X pc lo (.int n :: st) h bd Q := by
  subst hk
  exact wp_at hi ⟨g0, g1, g2, g3, K⟩
theorem wp_anew {t : Nat} {n : Int32} (hi : (tab X).lookup pc = some (.anewarray t, nx, [], a, ka, b, j, c)) (g0 : ¬ n < 0) (g1 : n.toNatClampNeg ≤ 60000000) (g2 : 1 ≤ bd.1) (g3 : n.toNatClampNeg ≤ bd.2) (K : Wp X nx (lo) (.ref (gS h) :: st) (nwC h b n.toNatClampNeg) (bd.1 - 1, bd.2 - n.toNatClampNeg) Q) : Wp X pc lo (.int n :: st) h bd Q := by
  exact wp_at hi ⟨g0, g1, g2, g3, K⟩
theorem wp_anewk {t : Nat} {n : Int32} {lo' : LO} (hk : kil kn (lo) = lo') (hi : (tab X).lookup pc = some (.anewarray t, nx, kn, a, ka, b, j, c)) (g0 : ¬ n < 0) (g1 : n.toNatClampNeg ≤ 60000000) (g2 : 1 ≤ bd.1) (g3 : n.toNatClampNeg ≤ bd.2) (K : Wp X nx (lo') (.ref (gS h) :: st) (nwC h b n.toNatClampNeg) (bd.1 - 1, bd.2 - n.toNatClampNeg) Q) : Wp X pc lo (.int n :: st) h bd Q := by
  subst hk
  exact wp_at hi ⟨g0, g1, g2, g3, K⟩
theorem wp_new {t : Nat} (hi : (tab X).lookup pc = some (.new t, nx, [], a, ka, b, j, c)) (g0 : 1 ≤ bd.1) (g1 : nF a ≤ bd.2) (K : Wp X nx (lo) (.ref (gS h) :: st) (nwC h a 0) (bd.1 - 1, bd.2 - nF a) Q) : Wp X pc lo (st) h bd Q := by
  exact wp_at hi ⟨g0, g1, K⟩
theorem wp_newk {t : Nat} {lo' : LO} (hk : kil kn (lo) = lo') (hi : (tab X).lookup pc = some (.new t, nx, kn, a, ka, b, j, c)) (g0 : 1 ≤ bd.1) (g1 : nF a ≤ bd.2) (K : Wp X nx (lo') (.ref (gS h) :: st) (nwC h a 0) (bd.1 - 1, bd.2 - nF a) Q) : Wp X pc lo (st) h bd Q := by
  subst hk
  exact wp_at hi ⟨g0, g1, K⟩
theorem wp_callvI {k r : Nat} {as rest : List Value} {lo' : LO} (hi : (tab X).lookup pc = some (.invokevirtual k, nx, kn, a, ka, b, j, c)) (hp : popN b [] st = some (as, .ref r :: rest)) (hr : rk a = 1 ∨ rk a = 3) (hk : kil kn lo = lo') (ho : isO h r (ownC a)) (hs : catS rest ≤ 8 ∧ mcM a ≤ bd.1 ∧ msM a ≤ bd.2 ∧ (ent (.ref r :: as)).length ≤ mxl a) (K : Wp a 0 (entM a (.ref r :: as)) [] h (mcM a, msM a) (QI (fun v h' => Wp X nx lo' (.int v :: rest) h' (bd.1 - mcM a, bd.2 - msM a) Q))) : Wp X pc lo st h bd Q := by
  subst hk
  have hF : Fcall Wp X nx a (.ref r :: as) rest (kil kn lo) h bd Q := ⟨hs.1, hs.2.1, hs.2.2.1, hs.2.2.2, _, K, by
    unfold aft
    rcases hr with hr | hr <;> rw [hr] <;> exact fun v h' ⟨w, e, q⟩ => by cases e; exact q⟩
  refine wp_at hi ?_
  unfold Fi
  simp only
  rw [hp]
  exact ⟨ho, hF⟩
theorem wp_callxI {k r : Nat} {as rest : List Value} {lo' : LO} (hi : (tab X).lookup pc = some (.invokespecial k, nx, kn, a, ka, b, j, c)) (hz : Nat.beq a 1000 = false) (hp : popN b [] st = some (as, .ref r :: rest)) (hr : rk a = 1 ∨ rk a = 3) (hk : kil kn lo = lo') (hs : catS rest ≤ 8 ∧ mcM a ≤ bd.1 ∧ msM a ≤ bd.2 ∧ (ent (.ref r :: as)).length ≤ mxl a) (K : Wp a 0 (entM a (.ref r :: as)) [] h (mcM a, msM a) (QI (fun v h' => Wp X nx lo' (.int v :: rest) h' (bd.1 - mcM a, bd.2 - msM a) Q))) : Wp X pc lo st h bd Q := by
  subst hk
  have hF : Fcall Wp X nx a (.ref r :: as) rest (kil kn lo) h bd Q := ⟨hs.1, hs.2.1, hs.2.2.1, hs.2.2.2, _, K, by
    unfold aft
    rcases hr with hr | hr <;> rw [hr] <;> exact fun v h' ⟨w, e, q⟩ => by cases e; exact q⟩
  refine wp_at hi ?_
  unfold Fi
  simp only
  rw [hz, hp]
  exact hF
theorem wp_callsI {k r : Nat} {as rest : List Value} {lo' : LO} (hi : (tab X).lookup pc = some (.invokestatic k, nx, kn, a, ka, b, j, c)) (hz : spc a = 0) (hp : popN b [] st = some (as, rest)) (hr : rk a = 1 ∨ rk a = 3) (hk : kil kn lo = lo') (hs : catS rest ≤ 8 ∧ mcM a ≤ bd.1 ∧ msM a ≤ bd.2 ∧ (ent as).length ≤ mxl a) (K : Wp a 0 (entM a as) [] h (mcM a, msM a) (QI (fun v h' => Wp X nx lo' (.int v :: rest) h' (bd.1 - mcM a, bd.2 - msM a) Q))) : Wp X pc lo st h bd Q := by
  subst hk
  have hF : Fcall Wp X nx a as rest (kil kn lo) h bd Q := ⟨hs.1, hs.2.1, hs.2.2.1, hs.2.2.2, _, K, by
    unfold aft
    rcases hr with hr | hr <;> rw [hr] <;> exact fun v h' ⟨w, e, q⟩ => by cases e; exact q⟩
  refine wp_at hi ?_
  unfold Fi
  simp only
  rw [hz]
  simp only
  rw [hp]
  exact hF
theorem wp_callvJ {k r : Nat} {as rest : List Value} {lo' : LO} (hi : (tab X).lookup pc = some (.invokevirtual k, nx, kn, a, ka, b, j, c)) (hp : popN b [] st = some (as, .ref r :: rest)) (hr : rk a = 2) (hk : kil kn lo = lo') (ho : isO h r (ownC a)) (hs : catS rest ≤ 8 ∧ mcM a ≤ bd.1 ∧ msM a ≤ bd.2 ∧ (ent (.ref r :: as)).length ≤ mxl a) (K : Wp a 0 (entM a (.ref r :: as)) [] h (mcM a, msM a) (QJ (fun v h' => Wp X nx lo' (.long v :: rest) h' (bd.1 - mcM a, bd.2 - msM a) Q))) : Wp X pc lo st h bd Q := by
  subst hk
  have hF : Fcall Wp X nx a (.ref r :: as) rest (kil kn lo) h bd Q := ⟨hs.1, hs.2.1, hs.2.2.1, hs.2.2.2, _, K, by
    unfold aft
    rw [hr]; exact fun v h' ⟨w, e, q⟩ => by cases e; exact q⟩
  refine wp_at hi ?_
  unfold Fi
  simp only
  rw [hp]
  exact ⟨ho, hF⟩
theorem wp_callxJ {k r : Nat} {as rest : List Value} {lo' : LO} (hi : (tab X).lookup pc = some (.invokespecial k, nx, kn, a, ka, b, j, c)) (hz : Nat.beq a 1000 = false) (hp : popN b [] st = some (as, .ref r :: rest)) (hr : rk a = 2) (hk : kil kn lo = lo') (hs : catS rest ≤ 8 ∧ mcM a ≤ bd.1 ∧ msM a ≤ bd.2 ∧ (ent (.ref r :: as)).length ≤ mxl a) (K : Wp a 0 (entM a (.ref r :: as)) [] h (mcM a, msM a) (QJ (fun v h' => Wp X nx lo' (.long v :: rest) h' (bd.1 - mcM a, bd.2 - msM a) Q))) : Wp X pc lo st h bd Q := by
  subst hk
  have hF : Fcall Wp X nx a (.ref r :: as) rest (kil kn lo) h bd Q := ⟨hs.1, hs.2.1, hs.2.2.1, hs.2.2.2, _, K, by
    unfold aft
    rw [hr]; exact fun v h' ⟨w, e, q⟩ => by cases e; exact q⟩
  refine wp_at hi ?_
  unfold Fi
  simp only
  rw [hz, hp]
  exact hF
theorem wp_callsJ {k r : Nat} {as rest : List Value} {lo' : LO} (hi : (tab X).lookup pc = some (.invokestatic k, nx, kn, a, ka, b, j, c)) (hz : spc a = 0) (hp : popN b [] st = some (as, rest)) (hr : rk a = 2) (hk : kil kn lo = lo') (hs : catS rest ≤ 8 ∧ mcM a ≤ bd.1 ∧ msM a ≤ bd.2 ∧ (ent as).length ≤ mxl a) (K : Wp a 0 (entM a as) [] h (mcM a, msM a) (QJ (fun v h' => Wp X nx lo' (.long v :: rest) h' (bd.1 - mcM a, bd.2 - msM a) Q))) : Wp X pc lo st h bd Q := by
  subst hk
  have hF : Fcall Wp X nx a as rest (kil kn lo) h bd Q := ⟨hs.1, hs.2.1, hs.2.2.1, hs.2.2.2, _, K, by
    unfold aft
    rw [hr]; exact fun v h' ⟨w, e, q⟩ => by cases e; exact q⟩
  refine wp_at hi ?_
  unfold Fi
  simp only
  rw [hz]
  simp only
  rw [hp]
  exact hF
theorem wp_callvV {k r : Nat} {as rest : List Value} {lo' : LO} (hi : (tab X).lookup pc = some (.invokevirtual k, nx, kn, a, ka, b, j, c)) (hp : popN b [] st = some (as, .ref r :: rest)) (hr : rk a = 0) (hk : kil kn lo = lo') (ho : isO h r (ownC a)) (hs : catS rest ≤ 8 ∧ mcM a ≤ bd.1 ∧ msM a ≤ bd.2 ∧ (ent (.ref r :: as)).length ≤ mxl a) (K : Wp a 0 (entM a (.ref r :: as)) [] h (mcM a, msM a) (QV (fun h' => Wp X nx lo' (rest) h' (bd.1 - mcM a, bd.2 - msM a) Q))) : Wp X pc lo st h bd Q := by
  subst hk
  have hF : Fcall Wp X nx a (.ref r :: as) rest (kil kn lo) h bd Q := ⟨hs.1, hs.2.1, hs.2.2.1, hs.2.2.2, _, K, by
    unfold aft
    rw [hr]; exact fun h' ⟨e, q⟩ => q⟩
  refine wp_at hi ?_
  unfold Fi
  simp only
  rw [hp]
  exact ⟨ho, hF⟩
theorem wp_callxV {k r : Nat} {as rest : List Value} {lo' : LO} (hi : (tab X).lookup pc = some (.invokespecial k, nx, kn, a, ka, b, j, c)) (hz : Nat.beq a 1000 = false) (hp : popN b [] st = some (as, .ref r :: rest)) (hr : rk a = 0) (hk : kil kn lo = lo') (hs : catS rest ≤ 8 ∧ mcM a ≤ bd.1 ∧ msM a ≤ bd.2 ∧ (ent (.ref r :: as)).length ≤ mxl a) (K : Wp a 0 (entM a (.ref r :: as)) [] h (mcM a, msM a) (QV (fun h' => Wp X nx lo' (rest) h' (bd.1 - mcM a, bd.2 - msM a) Q))) : Wp X pc lo st h bd Q := by
  subst hk
  have hF : Fcall Wp X nx a (.ref r :: as) rest (kil kn lo) h bd Q := ⟨hs.1, hs.2.1, hs.2.2.1, hs.2.2.2, _, K, by
    unfold aft
    rw [hr]; exact fun h' ⟨e, q⟩ => q⟩
  refine wp_at hi ?_
  unfold Fi
  simp only
  rw [hz, hp]
  exact hF
theorem wp_callsV {k r : Nat} {as rest : List Value} {lo' : LO} (hi : (tab X).lookup pc = some (.invokestatic k, nx, kn, a, ka, b, j, c)) (hz : spc a = 0) (hp : popN b [] st = some (as, rest)) (hr : rk a = 0) (hk : kil kn lo = lo') (hs : catS rest ≤ 8 ∧ mcM a ≤ bd.1 ∧ msM a ≤ bd.2 ∧ (ent as).length ≤ mxl a) (K : Wp a 0 (entM a as) [] h (mcM a, msM a) (QV (fun h' => Wp X nx lo' (rest) h' (bd.1 - mcM a, bd.2 - msM a) Q))) : Wp X pc lo st h bd Q := by
  subst hk
  have hF : Fcall Wp X nx a as rest (kil kn lo) h bd Q := ⟨hs.1, hs.2.1, hs.2.2.1, hs.2.2.2, _, K, by
    unfold aft
    rw [hr]; exact fun h' ⟨e, q⟩ => q⟩
  refine wp_at hi ?_
  unfold Fi
  simp only
  rw [hz]
  simp only
  rw [hp]
  exact hF
theorem wp_objI {k r : Nat} {lo' : LO} (hi : (tab X).lookup pc = some (.invokespecial k, nx, kn, 1000, ka, 0, j, c)) (hs : catS st ≤ 8) (hk : kil kn lo = lo') (K : Wp X nx lo' st h bd Q) : Wp X pc lo (.ref r :: st) h bd Q := by
  subst hk
  exact wp_at hi ⟨hs, K⟩
theorem wp_max {k : Nat} {x y : Int32} {lo' : LO} (hi : (tab X).lookup pc = some (.invokestatic k, nx, kn, 1002, ka, b, j, c)) (hs : catS st ≤ 8) (hk : kil kn lo = lo') (K : Wp X nx lo' (.int (if x < y then y else x) :: st) h bd Q) : Wp X pc lo (.int y :: .int x :: st) h bd Q := by
  subst hk
  exact wp_at hi ⟨hs, K⟩
theorem wp_min {k : Nat} {x y : Int32} {lo' : LO} (hi : (tab X).lookup pc = some (.invokestatic k, nx, kn, 1003, ka, b, j, c)) (hs : catS st ≤ 8) (hk : kil kn lo = lo') (K : Wp X nx lo' (.int (if y < x then y else x) :: st) h bd Q) : Wp X pc lo (.int y :: .int x :: st) h bd Q := by
  subst hk
  exact wp_at hi ⟨hs, K⟩
theorem wp_copy {k src dst : Nat} {sp dp n : Int32} {lo' : LO} (hi : (tab X).lookup pc = some (.invokestatic k, nx, kn, 1001, ka, b, j, c)) (g0 : 0 < src ∧ src < gS h ∧ gK h src = 101) (g1 : 0 < dst ∧ dst < gS h ∧ gK h dst = 101) (g2 : ¬ sp < 0 ∧ ¬ dp < 0 ∧ ¬ n < 0) (g3 : sp.toNatClampNeg + n.toNatClampNeg ≤ gL h src ∧ dp.toNatClampNeg + n.toNatClampNeg ≤ gL h dst) (g4 : ∀ i, i < n.toNatClampNeg → fits .byte (.int (gI h src (sp.toNatClampNeg + i))) = true) (hs : catS st ≤ 8) (hk : kil kn lo = lo') (K : Wp X nx lo' st (stA h dst (va_cpy (gI h src) (gI h dst) sp.toNatClampNeg dp.toNatClampNeg n.toNatClampNeg)) bd Q) : Wp X pc lo (.int n :: .int dp :: .ref dst :: .int sp :: .ref src :: st) h bd Q := by
  subst hk
  exact wp_at hi ⟨g0, g1, g2, g3, g4, hs, K⟩
theorem wp_iret {K : Int32 → HP → Prop} {v : Int32} (hi : (tab X).lookup pc = some (.ireturn, nx, kn, a, ka, b, j, c)) (hr : rk X = 1) (H : K v h) : Wp X pc lo [.int v] h bd (QI K) := by
  refine wp_at hi ?_
  show (match rk X with | 1 => _ | 3 => _ | _ => _)
  rw [hr]
  exact ⟨v, rfl, H⟩
theorem wp_zret {K : Int32 → HP → Prop} {v : Int32} (hi : (tab X).lookup pc = some (.ireturn, nx, kn, a, ka, b, j, c)) (hr : rk X = 3) (hv : v = 0 ∨ v = 1) (H : K v h) : Wp X pc lo [.int v] h bd (QI K) := by
  refine wp_at hi ?_
  show (match rk X with | 1 => _ | 3 => _ | _ => _)
  rw [hr]
  exact ⟨hv, v, rfl, H⟩
theorem wp_jret {K : Int64 → HP → Prop} {v : Int64} (hi : (tab X).lookup pc = some (.lreturn, nx, kn, a, ka, b, j, c)) (hr : rk X = 2) (H : K v h) : Wp X pc lo [.long v] h bd (QJ K) := wp_at hi ⟨hr, v, rfl, H⟩
theorem wp_vret {K : HP → Prop} (hi : (tab X).lookup pc = some (.return_, nx, kn, a, ka, b, j, c)) (hr : rk X = 0) (H : K h) : Wp X pc lo [] h bd (QV K) := wp_at hi ⟨hr, rfl, H⟩
end WR
end
