section
-- ===== PART A: goes FIRST, ahead of the names: the tables' words, and 'selects' of the private methods out of them =====
/-- a private method of a class that the tables say can be made, by its rows of tables_1 -/
def lw_okq (q : MethodName × Nat) : Prop := (q.1.cls ≠ "java/lang/invoke/MethodHandle" ∧ q.1.cls ≠ "java/lang/invoke/VarHandle") ∧ Cond.instantiable q.1.cls q.2 ∈ tables_1 ∧ Cond.privateMethod q.1 ∈ tables_1 ∧ Cond.instanceMethod q.1 ∈ tables_1
theorem lw_p0 : lw_okq (⟨"ItalicsLean$Reader", "advance", "()V"⟩, 11) := ⟨⟨by decide +kernel, by decide +kernel⟩, List.mem_of_getElem? (i := 167) (by decide +kernel), List.mem_of_getElem? (i := 392) (by decide +kernel), List.mem_of_getElem? (i := 393) (by decide +kernel)⟩
theorem lw_p1 : lw_okq (⟨"ItalicsLean$Reader", "scanNumber", "()V"⟩, 11) := ⟨⟨by decide +kernel, by decide +kernel⟩, List.mem_of_getElem? (i := 167) (by decide +kernel), List.mem_of_getElem? (i := 402) (by decide +kernel), List.mem_of_getElem? (i := 403) (by decide +kernel)⟩
theorem lw_p2 : lw_okq (⟨"ItalicsLean$Reader", "scanSign", "()V"⟩, 11) := ⟨⟨by decide +kernel, by decide +kernel⟩, List.mem_of_getElem? (i := 167) (by decide +kernel), List.mem_of_getElem? (i := 409) (by decide +kernel), List.mem_of_getElem? (i := 410) (by decide +kernel)⟩
theorem lw_p3 : lw_okq (⟨"ItalicsLean$Reader", "readClause", "(I)Z"⟩, 11) := ⟨⟨by decide +kernel, by decide +kernel⟩, List.mem_of_getElem? (i := 167) (by decide +kernel), List.mem_of_getElem? (i := 413) (by decide +kernel), List.mem_of_getElem? (i := 414) (by decide +kernel)⟩
theorem lw_p4 : lw_okq (⟨"ItalicsLean$Reader", "clauseKind", "()I"⟩, 11) := ⟨⟨by decide +kernel, by decide +kernel⟩, List.mem_of_getElem? (i := 167) (by decide +kernel), List.mem_of_getElem? (i := 417) (by decide +kernel), List.mem_of_getElem? (i := 418) (by decide +kernel)⟩
theorem lw_p5 : lw_okq (⟨"ItalicsLean$Reader", "isWord", "(Ljava/lang/String;)Z"⟩, 11) := ⟨⟨by decide +kernel, by decide +kernel⟩, List.mem_of_getElem? (i := 167) (by decide +kernel), List.mem_of_getElem? (i := 422) (by decide +kernel), List.mem_of_getElem? (i := 423) (by decide +kernel)⟩
theorem lw_p6 : lw_okq (⟨"ItalicsLean$Reader", "fail", "(I)Z"⟩, 11) := ⟨⟨by decide +kernel, by decide +kernel⟩, List.mem_of_getElem? (i := 167) (by decide +kernel), List.mem_of_getElem? (i := 482) (by decide +kernel), List.mem_of_getElem? (i := 483) (by decide +kernel)⟩
theorem lw_p7 : lw_okq (⟨"ItalicsLean$Reader", "readLaw", "(I)Z"⟩, 11) := ⟨⟨by decide +kernel, by decide +kernel⟩, List.mem_of_getElem? (i := 167) (by decide +kernel), List.mem_of_getElem? (i := 486) (by decide +kernel), List.mem_of_getElem? (i := 487) (by decide +kernel)⟩
theorem lw_p8 : lw_okq (⟨"ItalicsLean$Reader", "readSum", "(I)Z"⟩, 11) := ⟨⟨by decide +kernel, by decide +kernel⟩, List.mem_of_getElem? (i := 167) (by decide +kernel), List.mem_of_getElem? (i := 494) (by decide +kernel), List.mem_of_getElem? (i := 495) (by decide +kernel)⟩
theorem lw_p9 : lw_okq (⟨"ItalicsLean$Reader", "readProduct", "(I)Z"⟩, 11) := ⟨⟨by decide +kernel, by decide +kernel⟩, List.mem_of_getElem? (i := 167) (by decide +kernel), List.mem_of_getElem? (i := 498) (by decide +kernel), List.mem_of_getElem? (i := 499) (by decide +kernel)⟩
theorem lw_p10 : lw_okq (⟨"ItalicsLean$Reader", "readOne", "(I)Z"⟩, 11) := ⟨⟨by decide +kernel, by decide +kernel⟩, List.mem_of_getElem? (i := 167) (by decide +kernel), List.mem_of_getElem? (i := 502) (by decide +kernel), List.mem_of_getElem? (i := 503) (by decide +kernel)⟩
theorem lw_p11 : lw_okq (⟨"ItalicsLean$Reader", "takeNumber", "(II)Z"⟩, 11) := ⟨⟨by decide +kernel, by decide +kernel⟩, List.mem_of_getElem? (i := 167) (by decide +kernel), List.mem_of_getElem? (i := 510) (by decide +kernel), List.mem_of_getElem? (i := 511) (by decide +kernel)⟩
theorem lw_p12 : lw_okq (⟨"ItalicsLean$Reader", "takeOpening", "(I)Z"⟩, 11) := ⟨⟨by decide +kernel, by decide +kernel⟩, List.mem_of_getElem? (i := 167) (by decide +kernel), List.mem_of_getElem? (i := 515) (by decide +kernel), List.mem_of_getElem? (i := 516) (by decide +kernel)⟩
theorem lw_p13 : lw_okq (⟨"ItalicsLean$Reader", "takeSign", "(C)Z"⟩, 11) := ⟨⟨by decide +kernel, by decide +kernel⟩, List.mem_of_getElem? (i := 167) (by decide +kernel), List.mem_of_getElem? (i := 519) (by decide +kernel), List.mem_of_getElem? (i := 520) (by decide +kernel)⟩
theorem lw_p14 : lw_okq (⟨"ItalicsLean$Reader", "put", "(I)Z"⟩, 11) := ⟨⟨by decide +kernel, by decide +kernel⟩, List.mem_of_getElem? (i := 167) (by decide +kernel), List.mem_of_getElem? (i := 523) (by decide +kernel), List.mem_of_getElem? (i := 524) (by decide +kernel)⟩
theorem lw_p15 : lw_okq (⟨"ItalicsLean$Reader", "takeWord", "(Ljava/lang/String;)Z"⟩, 11) := ⟨⟨by decide +kernel, by decide +kernel⟩, List.mem_of_getElem? (i := 167) (by decide +kernel), List.mem_of_getElem? (i := 529) (by decide +kernel), List.mem_of_getElem? (i := 530) (by decide +kernel)⟩
def lw_privs_1 : List (MethodName × Nat) := [(⟨"ItalicsLean$Reader", "advance", "()V"⟩, 11), (⟨"ItalicsLean$Reader", "scanNumber", "()V"⟩, 11), (⟨"ItalicsLean$Reader", "scanSign", "()V"⟩, 11), (⟨"ItalicsLean$Reader", "readClause", "(I)Z"⟩, 11), (⟨"ItalicsLean$Reader", "clauseKind", "()I"⟩, 11), (⟨"ItalicsLean$Reader", "isWord", "(Ljava/lang/String;)Z"⟩, 11), (⟨"ItalicsLean$Reader", "fail", "(I)Z"⟩, 11), (⟨"ItalicsLean$Reader", "readLaw", "(I)Z"⟩, 11), (⟨"ItalicsLean$Reader", "readSum", "(I)Z"⟩, 11), (⟨"ItalicsLean$Reader", "readProduct", "(I)Z"⟩, 11), (⟨"ItalicsLean$Reader", "readOne", "(I)Z"⟩, 11), (⟨"ItalicsLean$Reader", "takeNumber", "(II)Z"⟩, 11), (⟨"ItalicsLean$Reader", "takeOpening", "(I)Z"⟩, 11), (⟨"ItalicsLean$Reader", "takeSign", "(C)Z"⟩, 11), (⟨"ItalicsLean$Reader", "put", "(I)Z"⟩, 11), (⟨"ItalicsLean$Reader", "takeWord", "(Ljava/lang/String;)Z"⟩, 11)]
theorem lw_r1 : ∀ q ∈ lw_privs_1, lw_okq q := List.forall_mem_cons.mpr ⟨lw_p0, List.forall_mem_cons.mpr ⟨lw_p1, List.forall_mem_cons.mpr ⟨lw_p2, List.forall_mem_cons.mpr ⟨lw_p3, List.forall_mem_cons.mpr ⟨lw_p4, List.forall_mem_cons.mpr ⟨lw_p5, List.forall_mem_cons.mpr ⟨lw_p6, List.forall_mem_cons.mpr ⟨lw_p7, List.forall_mem_cons.mpr ⟨lw_p8, List.forall_mem_cons.mpr ⟨lw_p9, List.forall_mem_cons.mpr ⟨lw_p10, List.forall_mem_cons.mpr ⟨lw_p11, List.forall_mem_cons.mpr ⟨lw_p12, List.forall_mem_cons.mpr ⟨lw_p13, List.forall_mem_cons.mpr ⟨lw_p14, List.forall_mem_cons.mpr ⟨lw_p15, fun _ h => absurd h List.not_mem_nil⟩⟩⟩⟩⟩⟩⟩⟩⟩⟩⟩⟩⟩⟩⟩⟩
theorem lw_p16 : lw_okq (⟨"ItalicsLean$Reader", "readChoice", "(I)Z"⟩, 11) := ⟨⟨by decide +kernel, by decide +kernel⟩, List.mem_of_getElem? (i := 167) (by decide +kernel), List.mem_of_getElem? (i := 535) (by decide +kernel), List.mem_of_getElem? (i := 536) (by decide +kernel)⟩
theorem lw_p17 : lw_okq (⟨"ItalicsLean$Reader", "readEither", "(I)Z"⟩, 11) := ⟨⟨by decide +kernel, by decide +kernel⟩, List.mem_of_getElem? (i := 167) (by decide +kernel), List.mem_of_getElem? (i := 539) (by decide +kernel), List.mem_of_getElem? (i := 540) (by decide +kernel)⟩
theorem lw_p18 : lw_okq (⟨"ItalicsLean$Reader", "readBoth", "(I)Z"⟩, 11) := ⟨⟨by decide +kernel, by decide +kernel⟩, List.mem_of_getElem? (i := 167) (by decide +kernel), List.mem_of_getElem? (i := 543) (by decide +kernel), List.mem_of_getElem? (i := 544) (by decide +kernel)⟩
theorem lw_p19 : lw_okq (⟨"ItalicsLean$Reader", "readAsk", "(I)Z"⟩, 11) := ⟨⟨by decide +kernel, by decide +kernel⟩, List.mem_of_getElem? (i := 167) (by decide +kernel), List.mem_of_getElem? (i := 547) (by decide +kernel), List.mem_of_getElem? (i := 548) (by decide +kernel)⟩
theorem lw_p20 : lw_okq (⟨"ItalicsLean$Reader", "comparison", "()I"⟩, 11) := ⟨⟨by decide +kernel, by decide +kernel⟩, List.mem_of_getElem? (i := 167) (by decide +kernel), List.mem_of_getElem? (i := 552) (by decide +kernel), List.mem_of_getElem? (i := 553) (by decide +kernel)⟩
theorem lw_p21 : lw_okq (⟨"ItalicsLean$Reader", "readName", "()Z"⟩, 11) := ⟨⟨by decide +kernel, by decide +kernel⟩, List.mem_of_getElem? (i := 167) (by decide +kernel), List.mem_of_getElem? (i := 570) (by decide +kernel), List.mem_of_getElem? (i := 571) (by decide +kernel)⟩
theorem lw_p22 : lw_okq (⟨"ItalicsLean$Reader", "nameOfToken", "()I"⟩, 11) := ⟨⟨by decide +kernel, by decide +kernel⟩, List.mem_of_getElem? (i := 167) (by decide +kernel), List.mem_of_getElem? (i := 574) (by decide +kernel), List.mem_of_getElem? (i := 575) (by decide +kernel)⟩
theorem lw_p23 : lw_okq (⟨"ItalicsLean$Reader", "readDeed", "(I)Z"⟩, 11) := ⟨⟨by decide +kernel, by decide +kernel⟩, List.mem_of_getElem? (i := 167) (by decide +kernel), List.mem_of_getElem? (i := 586) (by decide +kernel), List.mem_of_getElem? (i := 587) (by decide +kernel)⟩
theorem lw_p24 : lw_okq (⟨"ItalicsLean", "isText", "(I)Z"⟩, 16) := ⟨⟨by decide +kernel, by decide +kernel⟩, List.mem_of_getElem? (i := 21) (by decide +kernel), List.mem_of_getElem? (i := 607) (by decide +kernel), List.mem_of_getElem? (i := 608) (by decide +kernel)⟩
theorem lw_p25 : lw_okq (⟨"ItalicsLean$Steps", "placeOf", "(I)I"⟩, 3) := ⟨⟨by decide +kernel, by decide +kernel⟩, List.mem_of_getElem? (i := 88) (by decide +kernel), List.mem_of_getElem? (i := 627) (by decide +kernel), List.mem_of_getElem? (i := 628) (by decide +kernel)⟩
theorem lw_p26 : lw_okq (⟨"ItalicsLean", "passYears", "(I)I"⟩, 16) := ⟨⟨by decide +kernel, by decide +kernel⟩, List.mem_of_getElem? (i := 21) (by decide +kernel), List.mem_of_getElem? (i := 674) (by decide +kernel), List.mem_of_getElem? (i := 675) (by decide +kernel)⟩
theorem lw_p27 : lw_okq (⟨"ItalicsLean", "ruling", "()LItalicsLean$Text;"⟩, 16) := ⟨⟨by decide +kernel, by decide +kernel⟩, List.mem_of_getElem? (i := 21) (by decide +kernel), List.mem_of_getElem? (i := 678) (by decide +kernel), List.mem_of_getElem? (i := 679) (by decide +kernel)⟩
theorem lw_p28 : lw_okq (⟨"ItalicsLean$Laws", "setNames", "(LItalicsLean$Row;I)V"⟩, 3) := ⟨⟨by decide +kernel, by decide +kernel⟩, List.mem_of_getElem? (i := 211) (by decide +kernel), List.mem_of_getElem? (i := 706) (by decide +kernel), List.mem_of_getElem? (i := 707) (by decide +kernel)⟩
theorem lw_p29 : lw_okq (⟨"ItalicsLean$Laws", "reckon", "(LItalicsLean$Row;LItalicsLean$Text;I)I"⟩, 3) := ⟨⟨by decide +kernel, by decide +kernel⟩, List.mem_of_getElem? (i := 211) (by decide +kernel), List.mem_of_getElem? (i := 714) (by decide +kernel), List.mem_of_getElem? (i := 715) (by decide +kernel)⟩
theorem lw_p30 : lw_okq (⟨"ItalicsLean$Laws", "push", "(I)V"⟩, 3) := ⟨⟨by decide +kernel, by decide +kernel⟩, List.mem_of_getElem? (i := 211) (by decide +kernel), List.mem_of_getElem? (i := 722) (by decide +kernel), List.mem_of_getElem? (i := 723) (by decide +kernel)⟩
theorem lw_p31 : lw_okq (⟨"ItalicsLean$Laws", "pop", "()I"⟩, 3) := ⟨⟨by decide +kernel, by decide +kernel⟩, List.mem_of_getElem? (i := 211) (by decide +kernel), List.mem_of_getElem? (i := 726) (by decide +kernel), List.mem_of_getElem? (i := 727) (by decide +kernel)⟩
def lw_privs_2 : List (MethodName × Nat) := [(⟨"ItalicsLean$Reader", "readChoice", "(I)Z"⟩, 11), (⟨"ItalicsLean$Reader", "readEither", "(I)Z"⟩, 11), (⟨"ItalicsLean$Reader", "readBoth", "(I)Z"⟩, 11), (⟨"ItalicsLean$Reader", "readAsk", "(I)Z"⟩, 11), (⟨"ItalicsLean$Reader", "comparison", "()I"⟩, 11), (⟨"ItalicsLean$Reader", "readName", "()Z"⟩, 11), (⟨"ItalicsLean$Reader", "nameOfToken", "()I"⟩, 11), (⟨"ItalicsLean$Reader", "readDeed", "(I)Z"⟩, 11), (⟨"ItalicsLean", "isText", "(I)Z"⟩, 16), (⟨"ItalicsLean$Steps", "placeOf", "(I)I"⟩, 3), (⟨"ItalicsLean", "passYears", "(I)I"⟩, 16), (⟨"ItalicsLean", "ruling", "()LItalicsLean$Text;"⟩, 16), (⟨"ItalicsLean$Laws", "setNames", "(LItalicsLean$Row;I)V"⟩, 3), (⟨"ItalicsLean$Laws", "reckon", "(LItalicsLean$Row;LItalicsLean$Text;I)I"⟩, 3), (⟨"ItalicsLean$Laws", "push", "(I)V"⟩, 3), (⟨"ItalicsLean$Laws", "pop", "()I"⟩, 3)]
theorem lw_r2 : ∀ q ∈ lw_privs_2, lw_okq q := List.forall_mem_cons.mpr ⟨lw_p16, List.forall_mem_cons.mpr ⟨lw_p17, List.forall_mem_cons.mpr ⟨lw_p18, List.forall_mem_cons.mpr ⟨lw_p19, List.forall_mem_cons.mpr ⟨lw_p20, List.forall_mem_cons.mpr ⟨lw_p21, List.forall_mem_cons.mpr ⟨lw_p22, List.forall_mem_cons.mpr ⟨lw_p23, List.forall_mem_cons.mpr ⟨lw_p24, List.forall_mem_cons.mpr ⟨lw_p25, List.forall_mem_cons.mpr ⟨lw_p26, List.forall_mem_cons.mpr ⟨lw_p27, List.forall_mem_cons.mpr ⟨lw_p28, List.forall_mem_cons.mpr ⟨lw_p29, List.forall_mem_cons.mpr ⟨lw_p30, List.forall_mem_cons.mpr ⟨lw_p31, fun _ h => absurd h List.not_mem_nil⟩⟩⟩⟩⟩⟩⟩⟩⟩⟩⟩⟩⟩⟩⟩⟩
theorem lw_p32 : lw_okq (⟨"ItalicsLean", "perform", "(III)Z"⟩, 16) := ⟨⟨by decide +kernel, by decide +kernel⟩, List.mem_of_getElem? (i := 21) (by decide +kernel), List.mem_of_getElem? (i := 753) (by decide +kernel), List.mem_of_getElem? (i := 754) (by decide +kernel)⟩
theorem lw_p33 : lw_okq (⟨"ItalicsLean", "moveInAges", "(I)V"⟩, 16) := ⟨⟨by decide +kernel, by decide +kernel⟩, List.mem_of_getElem? (i := 21) (by decide +kernel), List.mem_of_getElem? (i := 768) (by decide +kernel), List.mem_of_getElem? (i := 769) (by decide +kernel)⟩
theorem lw_p34 : lw_okq (⟨"ItalicsLean$Turns", "prepareOrder", "(I)V"⟩, 5) := ⟨⟨by decide +kernel, by decide +kernel⟩, List.mem_of_getElem? (i := 848) (by decide +kernel), List.mem_of_getElem? (i := 877) (by decide +kernel), List.mem_of_getElem? (i := 878) (by decide +kernel)⟩
theorem lw_p35 : lw_okq (⟨"ItalicsLean$Turns", "goFarther", "(I)Z"⟩, 5) := ⟨⟨by decide +kernel, by decide +kernel⟩, List.mem_of_getElem? (i := 848) (by decide +kernel), List.mem_of_getElem? (i := 888) (by decide +kernel), List.mem_of_getElem? (i := 889) (by decide +kernel)⟩
theorem lw_p36 : lw_okq (⟨"ItalicsLean$Turns", "behind", "(II)I"⟩, 5) := ⟨⟨by decide +kernel, by decide +kernel⟩, List.mem_of_getElem? (i := 848) (by decide +kernel), List.mem_of_getElem? (i := 892) (by decide +kernel), List.mem_of_getElem? (i := 893) (by decide +kernel)⟩
theorem lw_p37 : lw_okq (⟨"ItalicsLean$Turns", "lowestNearer", "(I)I"⟩, 5) := ⟨⟨by decide +kernel, by decide +kernel⟩, List.mem_of_getElem? (i := 848) (by decide +kernel), List.mem_of_getElem? (i := 900) (by decide +kernel), List.mem_of_getElem? (i := 901) (by decide +kernel)⟩
theorem lw_p38 : lw_okq (⟨"ItalicsLean", "costOfOrder", "()I"⟩, 16) := ⟨⟨by decide +kernel, by decide +kernel⟩, List.mem_of_getElem? (i := 21) (by decide +kernel), List.mem_of_getElem? (i := 909) (by decide +kernel), List.mem_of_getElem? (i := 910) (by decide +kernel)⟩
theorem lw_p39 : lw_okq (⟨"ItalicsLean$Page", "chooseLine", "(LItalicsLean$Told;II)V"⟩, 4) := ⟨⟨by decide +kernel, by decide +kernel⟩, List.mem_of_getElem? (i := 227) (by decide +kernel), List.mem_of_getElem? (i := 933) (by decide +kernel), List.mem_of_getElem? (i := 934) (by decide +kernel)⟩
theorem lw_p40 : lw_okq (⟨"ItalicsLean", "gatherPairs", "(I)V"⟩, 16) := ⟨⟨by decide +kernel, by decide +kernel⟩, List.mem_of_getElem? (i := 21) (by decide +kernel), List.mem_of_getElem? (i := 968) (by decide +kernel), List.mem_of_getElem? (i := 969) (by decide +kernel)⟩
theorem lw_p41 : lw_okq (⟨"ItalicsLean$Guess", "fits", "(LItalicsLean$Row;LItalicsLean$Told;LItalicsLean$Text;II)Z"⟩, 4) := ⟨⟨by decide +kernel, by decide +kernel⟩, List.mem_of_getElem? (i := 972) (by decide +kernel), List.mem_of_getElem? (i := 997) (by decide +kernel), List.mem_of_getElem? (i := 998) (by decide +kernel)⟩
theorem lw_p42 : lw_okq (⟨"ItalicsLean$Guess", "hearingOf", "(LItalicsLean$Row;ILItalicsLean$Text;I)I"⟩, 4) := ⟨⟨by decide +kernel, by decide +kernel⟩, List.mem_of_getElem? (i := 972) (by decide +kernel), List.mem_of_getElem? (i := 1001) (by decide +kernel), List.mem_of_getElem? (i := 1002) (by decide +kernel)⟩
theorem lw_p43 : lw_okq (⟨"ItalicsLean", "agrees", "(LItalicsLean$Text;)Z"⟩, 16) := ⟨⟨by decide +kernel, by decide +kernel⟩, List.mem_of_getElem? (i := 21) (by decide +kernel), List.mem_of_getElem? (i := 1077) (by decide +kernel), List.mem_of_getElem? (i := 1078) (by decide +kernel)⟩
theorem lw_p44 : lw_okq (⟨"ItalicsLeanModel", "begin", "(I)V"⟩, 39) := ⟨⟨by decide +kernel, by decide +kernel⟩, List.mem_of_getElem? (i := 1115) (by decide +kernel), List.mem_of_getElem? (i := 1254) (by decide +kernel), List.mem_of_getElem? (i := 1255) (by decide +kernel)⟩
theorem lw_p45 : lw_okq (⟨"ItalicsLeanModel", "four", "(I)V"⟩, 39) := ⟨⟨by decide +kernel, by decide +kernel⟩, List.mem_of_getElem? (i := 1115) (by decide +kernel), List.mem_of_getElem? (i := 1273) (by decide +kernel), List.mem_of_getElem? (i := 1274) (by decide +kernel)⟩
theorem lw_p46 : lw_okq (⟨"ItalicsLeanModel", "readText", "()I"⟩, 39) := ⟨⟨by decide +kernel, by decide +kernel⟩, List.mem_of_getElem? (i := 1115) (by decide +kernel), List.mem_of_getElem? (i := 1285) (by decide +kernel), List.mem_of_getElem? (i := 1286) (by decide +kernel)⟩
theorem lw_p47 : lw_okq (⟨"ItalicsLeanModel", "nextToken", "()V"⟩, 39) := ⟨⟨by decide +kernel, by decide +kernel⟩, List.mem_of_getElem? (i := 1115) (by decide +kernel), List.mem_of_getElem? (i := 1289) (by decide +kernel), List.mem_of_getElem? (i := 1290) (by decide +kernel)⟩
def lw_privs_3 : List (MethodName × Nat) := [(⟨"ItalicsLean", "perform", "(III)Z"⟩, 16), (⟨"ItalicsLean", "moveInAges", "(I)V"⟩, 16), (⟨"ItalicsLean$Turns", "prepareOrder", "(I)V"⟩, 5), (⟨"ItalicsLean$Turns", "goFarther", "(I)Z"⟩, 5), (⟨"ItalicsLean$Turns", "behind", "(II)I"⟩, 5), (⟨"ItalicsLean$Turns", "lowestNearer", "(I)I"⟩, 5), (⟨"ItalicsLean", "costOfOrder", "()I"⟩, 16), (⟨"ItalicsLean$Page", "chooseLine", "(LItalicsLean$Told;II)V"⟩, 4), (⟨"ItalicsLean", "gatherPairs", "(I)V"⟩, 16), (⟨"ItalicsLean$Guess", "fits", "(LItalicsLean$Row;LItalicsLean$Told;LItalicsLean$Text;II)Z"⟩, 4), (⟨"ItalicsLean$Guess", "hearingOf", "(LItalicsLean$Row;ILItalicsLean$Text;I)I"⟩, 4), (⟨"ItalicsLean", "agrees", "(LItalicsLean$Text;)Z"⟩, 16), (⟨"ItalicsLeanModel", "begin", "(I)V"⟩, 39), (⟨"ItalicsLeanModel", "four", "(I)V"⟩, 39), (⟨"ItalicsLeanModel", "readText", "()I"⟩, 39), (⟨"ItalicsLeanModel", "nextToken", "()V"⟩, 39)]
theorem lw_r3 : ∀ q ∈ lw_privs_3, lw_okq q := List.forall_mem_cons.mpr ⟨lw_p32, List.forall_mem_cons.mpr ⟨lw_p33, List.forall_mem_cons.mpr ⟨lw_p34, List.forall_mem_cons.mpr ⟨lw_p35, List.forall_mem_cons.mpr ⟨lw_p36, List.forall_mem_cons.mpr ⟨lw_p37, List.forall_mem_cons.mpr ⟨lw_p38, List.forall_mem_cons.mpr ⟨lw_p39, List.forall_mem_cons.mpr ⟨lw_p40, List.forall_mem_cons.mpr ⟨lw_p41, List.forall_mem_cons.mpr ⟨lw_p42, List.forall_mem_cons.mpr ⟨lw_p43, List.forall_mem_cons.mpr ⟨lw_p44, List.forall_mem_cons.mpr ⟨lw_p45, List.forall_mem_cons.mpr ⟨lw_p46, List.forall_mem_cons.mpr ⟨lw_p47, fun _ h => absurd h List.not_mem_nil⟩⟩⟩⟩⟩⟩⟩⟩⟩⟩⟩⟩⟩⟩⟩⟩
theorem lw_p48 : lw_okq (⟨"ItalicsLeanModel", "byteAt", "(I)I"⟩, 39) := ⟨⟨by decide +kernel, by decide +kernel⟩, List.mem_of_getElem? (i := 1115) (by decide +kernel), List.mem_of_getElem? (i := 1293) (by decide +kernel), List.mem_of_getElem? (i := 1294) (by decide +kernel)⟩
theorem lw_p49 : lw_okq (⟨"ItalicsLeanModel", "clause", "()I"⟩, 39) := ⟨⟨by decide +kernel, by decide +kernel⟩, List.mem_of_getElem? (i := 1115) (by decide +kernel), List.mem_of_getElem? (i := 1308) (by decide +kernel), List.mem_of_getElem? (i := 1309) (by decide +kernel)⟩
theorem lw_p50 : lw_okq (⟨"ItalicsLeanModel", "sortOf", "()I"⟩, 39) := ⟨⟨by decide +kernel, by decide +kernel⟩, List.mem_of_getElem? (i := 1115) (by decide +kernel), List.mem_of_getElem? (i := 1312) (by decide +kernel), List.mem_of_getElem? (i := 1313) (by decide +kernel)⟩
theorem lw_p51 : lw_okq (⟨"ItalicsLeanModel", "isWord", "(J)Z"⟩, 39) := ⟨⟨by decide +kernel, by decide +kernel⟩, List.mem_of_getElem? (i := 1115) (by decide +kernel), List.mem_of_getElem? (i := 1328) (by decide +kernel), List.mem_of_getElem? (i := 1329) (by decide +kernel)⟩
theorem lw_p52 : lw_okq (⟨"ItalicsLeanModel", "body", "(II)I"⟩, 39) := ⟨⟨by decide +kernel, by decide +kernel⟩, List.mem_of_getElem? (i := 1115) (by decide +kernel), List.mem_of_getElem? (i := 1338) (by decide +kernel), List.mem_of_getElem? (i := 1339) (by decide +kernel)⟩
theorem lw_p53 : lw_okq (⟨"ItalicsLeanModel", "pair", "(IIJII)I"⟩, 39) := ⟨⟨by decide +kernel, by decide +kernel⟩, List.mem_of_getElem? (i := 1115) (by decide +kernel), List.mem_of_getElem? (i := 1342) (by decide +kernel), List.mem_of_getElem? (i := 1343) (by decide +kernel)⟩
theorem lw_p54 : lw_okq (⟨"ItalicsLeanModel", "figure", "(III)I"⟩, 39) := ⟨⟨by decide +kernel, by decide +kernel⟩, List.mem_of_getElem? (i := 1115) (by decide +kernel), List.mem_of_getElem? (i := 1346) (by decide +kernel), List.mem_of_getElem? (i := 1347) (by decide +kernel)⟩
theorem lw_p55 : lw_okq (⟨"ItalicsLeanModel", "lawClause", "(I)I"⟩, 39) := ⟨⟨by decide +kernel, by decide +kernel⟩, List.mem_of_getElem? (i := 1115) (by decide +kernel), List.mem_of_getElem? (i := 1350) (by decide +kernel), List.mem_of_getElem? (i := 1351) (by decide +kernel)⟩
theorem lw_p56 : lw_okq (⟨"ItalicsLeanModel", "summed", "()I"⟩, 39) := ⟨⟨by decide +kernel, by decide +kernel⟩, List.mem_of_getElem? (i := 1115) (by decide +kernel), List.mem_of_getElem? (i := 1354) (by decide +kernel), List.mem_of_getElem? (i := 1355) (by decide +kernel)⟩
theorem lw_p57 : lw_okq (⟨"ItalicsLeanModel", "behindOne", "()I"⟩, 39) := ⟨⟨by decide +kernel, by decide +kernel⟩, List.mem_of_getElem? (i := 1115) (by decide +kernel), List.mem_of_getElem? (i := 1358) (by decide +kernel), List.mem_of_getElem? (i := 1359) (by decide +kernel)⟩
theorem lw_p58 : lw_okq (⟨"ItalicsLeanModel", "betweenOf", "()I"⟩, 39) := ⟨⟨by decide +kernel, by decide +kernel⟩, List.mem_of_getElem? (i := 1115) (by decide +kernel), List.mem_of_getElem? (i := 1362) (by decide +kernel), List.mem_of_getElem? (i := 1363) (by decide +kernel)⟩
theorem lw_p59 : lw_okq (⟨"ItalicsLeanModel", "openNow", "()I"⟩, 39) := ⟨⟨by decide +kernel, by decide +kernel⟩, List.mem_of_getElem? (i := 1115) (by decide +kernel), List.mem_of_getElem? (i := 1366) (by decide +kernel), List.mem_of_getElem? (i := 1367) (by decide +kernel)⟩
theorem lw_p60 : lw_okq (⟨"ItalicsLeanModel", "openAt", "()I"⟩, 39) := ⟨⟨by decide +kernel, by decide +kernel⟩, List.mem_of_getElem? (i := 1115) (by decide +kernel), List.mem_of_getElem? (i := 1370) (by decide +kernel), List.mem_of_getElem? (i := 1371) (by decide +kernel)⟩
theorem lw_p61 : lw_okq (⟨"ItalicsLeanModel", "isCompared", "()Z"⟩, 39) := ⟨⟨by decide +kernel, by decide +kernel⟩, List.mem_of_getElem? (i := 1115) (by decide +kernel), List.mem_of_getElem? (i := 1374) (by decide +kernel), List.mem_of_getElem? (i := 1375) (by decide +kernel)⟩
theorem lw_p62 : lw_okq (⟨"ItalicsLeanModel", "compareOf", "()I"⟩, 39) := ⟨⟨by decide +kernel, by decide +kernel⟩, List.mem_of_getElem? (i := 1115) (by decide +kernel), List.mem_of_getElem? (i := 1381) (by decide +kernel), List.mem_of_getElem? (i := 1382) (by decide +kernel)⟩
theorem lw_p63 : lw_okq (⟨"ItalicsLeanModel", "settle", "(I)V"⟩, 39) := ⟨⟨by decide +kernel, by decide +kernel⟩, List.mem_of_getElem? (i := 1115) (by decide +kernel), List.mem_of_getElem? (i := 1385) (by decide +kernel), List.mem_of_getElem? (i := 1386) (by decide +kernel)⟩
def lw_privs_4 : List (MethodName × Nat) := [(⟨"ItalicsLeanModel", "byteAt", "(I)I"⟩, 39), (⟨"ItalicsLeanModel", "clause", "()I"⟩, 39), (⟨"ItalicsLeanModel", "sortOf", "()I"⟩, 39), (⟨"ItalicsLeanModel", "isWord", "(J)Z"⟩, 39), (⟨"ItalicsLeanModel", "body", "(II)I"⟩, 39), (⟨"ItalicsLeanModel", "pair", "(IIJII)I"⟩, 39), (⟨"ItalicsLeanModel", "figure", "(III)I"⟩, 39), (⟨"ItalicsLeanModel", "lawClause", "(I)I"⟩, 39), (⟨"ItalicsLeanModel", "summed", "()I"⟩, 39), (⟨"ItalicsLeanModel", "behindOne", "()I"⟩, 39), (⟨"ItalicsLeanModel", "betweenOf", "()I"⟩, 39), (⟨"ItalicsLeanModel", "openNow", "()I"⟩, 39), (⟨"ItalicsLeanModel", "openAt", "()I"⟩, 39), (⟨"ItalicsLeanModel", "isCompared", "()Z"⟩, 39), (⟨"ItalicsLeanModel", "compareOf", "()I"⟩, 39), (⟨"ItalicsLeanModel", "settle", "(I)V"⟩, 39)]
theorem lw_r4 : ∀ q ∈ lw_privs_4, lw_okq q := List.forall_mem_cons.mpr ⟨lw_p48, List.forall_mem_cons.mpr ⟨lw_p49, List.forall_mem_cons.mpr ⟨lw_p50, List.forall_mem_cons.mpr ⟨lw_p51, List.forall_mem_cons.mpr ⟨lw_p52, List.forall_mem_cons.mpr ⟨lw_p53, List.forall_mem_cons.mpr ⟨lw_p54, List.forall_mem_cons.mpr ⟨lw_p55, List.forall_mem_cons.mpr ⟨lw_p56, List.forall_mem_cons.mpr ⟨lw_p57, List.forall_mem_cons.mpr ⟨lw_p58, List.forall_mem_cons.mpr ⟨lw_p59, List.forall_mem_cons.mpr ⟨lw_p60, List.forall_mem_cons.mpr ⟨lw_p61, List.forall_mem_cons.mpr ⟨lw_p62, List.forall_mem_cons.mpr ⟨lw_p63, fun _ h => absurd h List.not_mem_nil⟩⟩⟩⟩⟩⟩⟩⟩⟩⟩⟩⟩⟩⟩⟩⟩
theorem lw_p64 : lw_okq (⟨"ItalicsLeanModel", "emit", "(II)V"⟩, 39) := ⟨⟨by decide +kernel, by decide +kernel⟩, List.mem_of_getElem? (i := 1115) (by decide +kernel), List.mem_of_getElem? (i := 1389) (by decide +kernel), List.mem_of_getElem? (i := 1390) (by decide +kernel)⟩
theorem lw_p65 : lw_okq (⟨"ItalicsLeanModel", "partOf", "(I)I"⟩, 39) := ⟨⟨by decide +kernel, by decide +kernel⟩, List.mem_of_getElem? (i := 1115) (by decide +kernel), List.mem_of_getElem? (i := 1393) (by decide +kernel), List.mem_of_getElem? (i := 1394) (by decide +kernel)⟩
theorem lw_p66 : lw_okq (⟨"ItalicsLeanModel", "endOne", "()I"⟩, 39) := ⟨⟨by decide +kernel, by decide +kernel⟩, List.mem_of_getElem? (i := 1115) (by decide +kernel), List.mem_of_getElem? (i := 1397) (by decide +kernel), List.mem_of_getElem? (i := 1398) (by decide +kernel)⟩
theorem lw_p67 : lw_okq (⟨"ItalicsLeanModel", "beginOne", "()I"⟩, 39) := ⟨⟨by decide +kernel, by decide +kernel⟩, List.mem_of_getElem? (i := 1115) (by decide +kernel), List.mem_of_getElem? (i := 1401) (by decide +kernel), List.mem_of_getElem? (i := 1402) (by decide +kernel)⟩
theorem lw_p68 : lw_okq (⟨"ItalicsLeanModel", "nameOf", "()I"⟩, 39) := ⟨⟨by decide +kernel, by decide +kernel⟩, List.mem_of_getElem? (i := 1115) (by decide +kernel), List.mem_of_getElem? (i := 1405) (by decide +kernel), List.mem_of_getElem? (i := 1406) (by decide +kernel)⟩
theorem lw_p69 : lw_okq (⟨"ItalicsLeanModel", "isOf", "(I)Z"⟩, 39) := ⟨⟨by decide +kernel, by decide +kernel⟩, List.mem_of_getElem? (i := 1115) (by decide +kernel), List.mem_of_getElem? (i := 1409) (by decide +kernel), List.mem_of_getElem? (i := 1410) (by decide +kernel)⟩
theorem lw_p70 : lw_okq (⟨"ItalicsLeanModel", "opened", "(I)I"⟩, 39) := ⟨⟨by decide +kernel, by decide +kernel⟩, List.mem_of_getElem? (i := 1115) (by decide +kernel), List.mem_of_getElem? (i := 1413) (by decide +kernel), List.mem_of_getElem? (i := 1414) (by decide +kernel)⟩
theorem lw_p71 : lw_okq (⟨"ItalicsLeanModel", "isAskAhead", "()Z"⟩, 39) := ⟨⟨by decide +kernel, by decide +kernel⟩, List.mem_of_getElem? (i := 1115) (by decide +kernel), List.mem_of_getElem? (i := 1417) (by decide +kernel), List.mem_of_getElem? (i := 1418) (by decide +kernel)⟩
theorem lw_p72 : lw_okq (⟨"ItalicsLeanModel", "canSwap", "(II)Z"⟩, 39) := ⟨⟨by decide +kernel, by decide +kernel⟩, List.mem_of_getElem? (i := 1115) (by decide +kernel), List.mem_of_getElem? (i := 1437) (by decide +kernel), List.mem_of_getElem? (i := 1438) (by decide +kernel)⟩
theorem lw_p73 : lw_okq (⟨"ItalicsLeanModel", "isPerson", "(I)Z"⟩, 39) := ⟨⟨by decide +kernel, by decide +kernel⟩, List.mem_of_getElem? (i := 1115) (by decide +kernel), List.mem_of_getElem? (i := 1441) (by decide +kernel), List.mem_of_getElem? (i := 1442) (by decide +kernel)⟩
theorem lw_p74 : lw_okq (⟨"ItalicsLeanModel", "keep", "()V"⟩, 39) := ⟨⟨by decide +kernel, by decide +kernel⟩, List.mem_of_getElem? (i := 1115) (by decide +kernel), List.mem_of_getElem? (i := 1445) (by decide +kernel), List.mem_of_getElem? (i := 1446) (by decide +kernel)⟩
theorem lw_p75 : lw_okq (⟨"ItalicsLeanModel", "swapNow", "(II)V"⟩, 39) := ⟨⟨by decide +kernel, by decide +kernel⟩, List.mem_of_getElem? (i := 1115) (by decide +kernel), List.mem_of_getElem? (i := 1449) (by decide +kernel), List.mem_of_getElem? (i := 1450) (by decide +kernel)⟩
theorem lw_p76 : lw_okq (⟨"ItalicsLeanModel", "turnNow", "(I)V"⟩, 39) := ⟨⟨by decide +kernel, by decide +kernel⟩, List.mem_of_getElem? (i := 1115) (by decide +kernel), List.mem_of_getElem? (i := 1457) (by decide +kernel), List.mem_of_getElem? (i := 1458) (by decide +kernel)⟩
theorem lw_p77 : lw_okq (⟨"ItalicsLeanModel", "canProp", "(IZ)Z"⟩, 39) := ⟨⟨by decide +kernel, by decide +kernel⟩, List.mem_of_getElem? (i := 1115) (by decide +kernel), List.mem_of_getElem? (i := 1465) (by decide +kernel), List.mem_of_getElem? (i := 1466) (by decide +kernel)⟩
theorem lw_p78 : lw_okq (⟨"ItalicsLeanModel", "arePassed", "(I)Z"⟩, 39) := ⟨⟨by decide +kernel, by decide +kernel⟩, List.mem_of_getElem? (i := 1115) (by decide +kernel), List.mem_of_getElem? (i := 1473) (by decide +kernel), List.mem_of_getElem? (i := 1474) (by decide +kernel)⟩
theorem lw_p79 : lw_okq (⟨"ItalicsLeanModel", "pass", "()V"⟩, 39) := ⟨⟨by decide +kernel, by decide +kernel⟩, List.mem_of_getElem? (i := 1115) (by decide +kernel), List.mem_of_getElem? (i := 1477) (by decide +kernel), List.mem_of_getElem? (i := 1478) (by decide +kernel)⟩
def lw_privs_5 : List (MethodName × Nat) := [(⟨"ItalicsLeanModel", "emit", "(II)V"⟩, 39), (⟨"ItalicsLeanModel", "partOf", "(I)I"⟩, 39), (⟨"ItalicsLeanModel", "endOne", "()I"⟩, 39), (⟨"ItalicsLeanModel", "beginOne", "()I"⟩, 39), (⟨"ItalicsLeanModel", "nameOf", "()I"⟩, 39), (⟨"ItalicsLeanModel", "isOf", "(I)Z"⟩, 39), (⟨"ItalicsLeanModel", "opened", "(I)I"⟩, 39), (⟨"ItalicsLeanModel", "isAskAhead", "()Z"⟩, 39), (⟨"ItalicsLeanModel", "canSwap", "(II)Z"⟩, 39), (⟨"ItalicsLeanModel", "isPerson", "(I)Z"⟩, 39), (⟨"ItalicsLeanModel", "keep", "()V"⟩, 39), (⟨"ItalicsLeanModel", "swapNow", "(II)V"⟩, 39), (⟨"ItalicsLeanModel", "turnNow", "(I)V"⟩, 39), (⟨"ItalicsLeanModel", "canProp", "(IZ)Z"⟩, 39), (⟨"ItalicsLeanModel", "arePassed", "(I)Z"⟩, 39), (⟨"ItalicsLeanModel", "pass", "()V"⟩, 39)]
theorem lw_r5 : ∀ q ∈ lw_privs_5, lw_okq q := List.forall_mem_cons.mpr ⟨lw_p64, List.forall_mem_cons.mpr ⟨lw_p65, List.forall_mem_cons.mpr ⟨lw_p66, List.forall_mem_cons.mpr ⟨lw_p67, List.forall_mem_cons.mpr ⟨lw_p68, List.forall_mem_cons.mpr ⟨lw_p69, List.forall_mem_cons.mpr ⟨lw_p70, List.forall_mem_cons.mpr ⟨lw_p71, List.forall_mem_cons.mpr ⟨lw_p72, List.forall_mem_cons.mpr ⟨lw_p73, List.forall_mem_cons.mpr ⟨lw_p74, List.forall_mem_cons.mpr ⟨lw_p75, List.forall_mem_cons.mpr ⟨lw_p76, List.forall_mem_cons.mpr ⟨lw_p77, List.forall_mem_cons.mpr ⟨lw_p78, List.forall_mem_cons.mpr ⟨lw_p79, fun _ h => absurd h List.not_mem_nil⟩⟩⟩⟩⟩⟩⟩⟩⟩⟩⟩⟩⟩⟩⟩⟩
theorem lw_p80 : lw_okq (⟨"ItalicsLeanModel", "anew", "()V"⟩, 39) := ⟨⟨by decide +kernel, by decide +kernel⟩, List.mem_of_getElem? (i := 1115) (by decide +kernel), List.mem_of_getElem? (i := 1481) (by decide +kernel), List.mem_of_getElem? (i := 1482) (by decide +kernel)⟩
theorem lw_p81 : lw_okq (⟨"ItalicsLeanModel", "leanAll", "()V"⟩, 39) := ⟨⟨by decide +kernel, by decide +kernel⟩, List.mem_of_getElem? (i := 1115) (by decide +kernel), List.mem_of_getElem? (i := 1488) (by decide +kernel), List.mem_of_getElem? (i := 1489) (by decide +kernel)⟩
theorem lw_p82 : lw_okq (⟨"ItalicsLeanModel", "leansOf", "(II)I"⟩, 39) := ⟨⟨by decide +kernel, by decide +kernel⟩, List.mem_of_getElem? (i := 1115) (by decide +kernel), List.mem_of_getElem? (i := 1492) (by decide +kernel), List.mem_of_getElem? (i := 1493) (by decide +kernel)⟩
theorem lw_p83 : lw_okq (⟨"ItalicsLeanModel", "seatOf", "(I)I"⟩, 39) := ⟨⟨by decide +kernel, by decide +kernel⟩, List.mem_of_getElem? (i := 1115) (by decide +kernel), List.mem_of_getElem? (i := 1496) (by decide +kernel), List.mem_of_getElem? (i := 1497) (by decide +kernel)⟩
theorem lw_p84 : lw_okq (⟨"ItalicsLeanModel", "name", "(I)V"⟩, 39) := ⟨⟨by decide +kernel, by decide +kernel⟩, List.mem_of_getElem? (i := 1115) (by decide +kernel), List.mem_of_getElem? (i := 1500) (by decide +kernel), List.mem_of_getElem? (i := 1501) (by decide +kernel)⟩
theorem lw_p85 : lw_okq (⟨"ItalicsLeanModel", "slantIn", "(I)I"⟩, 39) := ⟨⟨by decide +kernel, by decide +kernel⟩, List.mem_of_getElem? (i := 1115) (by decide +kernel), List.mem_of_getElem? (i := 1504) (by decide +kernel), List.mem_of_getElem? (i := 1505) (by decide +kernel)⟩
theorem lw_p86 : lw_okq (⟨"ItalicsLeanModel", "says", "(IIII)I"⟩, 39) := ⟨⟨by decide +kernel, by decide +kernel⟩, List.mem_of_getElem? (i := 1115) (by decide +kernel), List.mem_of_getElem? (i := 1511) (by decide +kernel), List.mem_of_getElem? (i := 1512) (by decide +kernel)⟩
theorem lw_p87 : lw_okq (⟨"ItalicsLeanModel", "summedUp", "(II)J"⟩, 39) := ⟨⟨by decide +kernel, by decide +kernel⟩, List.mem_of_getElem? (i := 1115) (by decide +kernel), List.mem_of_getElem? (i := 1515) (by decide +kernel), List.mem_of_getElem? (i := 1516) (by decide +kernel)⟩
theorem lw_p88 : lw_okq (⟨"ItalicsLeanModel", "seatSlant", "(J)J"⟩, 39) := ⟨⟨by decide +kernel, by decide +kernel⟩, List.mem_of_getElem? (i := 1115) (by decide +kernel), List.mem_of_getElem? (i := 1519) (by decide +kernel), List.mem_of_getElem? (i := 1520) (by decide +kernel)⟩
theorem lw_p89 : lw_okq (⟨"ItalicsLeanModel", "write", "(I)V"⟩, 39) := ⟨⟨by decide +kernel, by decide +kernel⟩, List.mem_of_getElem? (i := 1115) (by decide +kernel), List.mem_of_getElem? (i := 1540) (by decide +kernel), List.mem_of_getElem? (i := 1541) (by decide +kernel)⟩
theorem lw_p90 : lw_okq (⟨"ItalicsLeanModel", "isPlayed", "(I)Z"⟩, 39) := ⟨⟨by decide +kernel, by decide +kernel⟩, List.mem_of_getElem? (i := 1115) (by decide +kernel), List.mem_of_getElem? (i := 1548) (by decide +kernel), List.mem_of_getElem? (i := 1549) (by decide +kernel)⟩
theorem lw_p91 : lw_okq (⟨"ItalicsLeanModel", "happens", "(I)V"⟩, 39) := ⟨⟨by decide +kernel, by decide +kernel⟩, List.mem_of_getElem? (i := 1115) (by decide +kernel), List.mem_of_getElem? (i := 1561) (by decide +kernel), List.mem_of_getElem? (i := 1562) (by decide +kernel)⟩
theorem lw_p92 : lw_okq (⟨"ItalicsLeanModel", "hearsOf", "(III)I"⟩, 39) := ⟨⟨by decide +kernel, by decide +kernel⟩, List.mem_of_getElem? (i := 1115) (by decide +kernel), List.mem_of_getElem? (i := 1577) (by decide +kernel), List.mem_of_getElem? (i := 1578) (by decide +kernel)⟩
theorem lw_p93 : lw_okq (⟨"ItalicsLeanModel", "entry", "(II)I"⟩, 39) := ⟨⟨by decide +kernel, by decide +kernel⟩, List.mem_of_getElem? (i := 1115) (by decide +kernel), List.mem_of_getElem? (i := 1589) (by decide +kernel), List.mem_of_getElem? (i := 1590) (by decide +kernel)⟩
theorem lw_p94 : lw_okq (⟨"ItalicsLeanModel", "setAside", "()V"⟩, 39) := ⟨⟨by decide +kernel, by decide +kernel⟩, List.mem_of_getElem? (i := 1115) (by decide +kernel), List.mem_of_getElem? (i := 1612) (by decide +kernel), List.mem_of_getElem? (i := 1613) (by decide +kernel)⟩
theorem lw_p95 : lw_okq (⟨"ItalicsLeanModel", "putBack", "()V"⟩, 39) := ⟨⟨by decide +kernel, by decide +kernel⟩, List.mem_of_getElem? (i := 1115) (by decide +kernel), List.mem_of_getElem? (i := 1616) (by decide +kernel), List.mem_of_getElem? (i := 1617) (by decide +kernel)⟩
def lw_privs_6 : List (MethodName × Nat) := [(⟨"ItalicsLeanModel", "anew", "()V"⟩, 39), (⟨"ItalicsLeanModel", "leanAll", "()V"⟩, 39), (⟨"ItalicsLeanModel", "leansOf", "(II)I"⟩, 39), (⟨"ItalicsLeanModel", "seatOf", "(I)I"⟩, 39), (⟨"ItalicsLeanModel", "name", "(I)V"⟩, 39), (⟨"ItalicsLeanModel", "slantIn", "(I)I"⟩, 39), (⟨"ItalicsLeanModel", "says", "(IIII)I"⟩, 39), (⟨"ItalicsLeanModel", "summedUp", "(II)J"⟩, 39), (⟨"ItalicsLeanModel", "seatSlant", "(J)J"⟩, 39), (⟨"ItalicsLeanModel", "write", "(I)V"⟩, 39), (⟨"ItalicsLeanModel", "isPlayed", "(I)Z"⟩, 39), (⟨"ItalicsLeanModel", "happens", "(I)V"⟩, 39), (⟨"ItalicsLeanModel", "hearsOf", "(III)I"⟩, 39), (⟨"ItalicsLeanModel", "entry", "(II)I"⟩, 39), (⟨"ItalicsLeanModel", "setAside", "()V"⟩, 39), (⟨"ItalicsLeanModel", "putBack", "()V"⟩, 39)]
theorem lw_r6 : ∀ q ∈ lw_privs_6, lw_okq q := List.forall_mem_cons.mpr ⟨lw_p80, List.forall_mem_cons.mpr ⟨lw_p81, List.forall_mem_cons.mpr ⟨lw_p82, List.forall_mem_cons.mpr ⟨lw_p83, List.forall_mem_cons.mpr ⟨lw_p84, List.forall_mem_cons.mpr ⟨lw_p85, List.forall_mem_cons.mpr ⟨lw_p86, List.forall_mem_cons.mpr ⟨lw_p87, List.forall_mem_cons.mpr ⟨lw_p88, List.forall_mem_cons.mpr ⟨lw_p89, List.forall_mem_cons.mpr ⟨lw_p90, List.forall_mem_cons.mpr ⟨lw_p91, List.forall_mem_cons.mpr ⟨lw_p92, List.forall_mem_cons.mpr ⟨lw_p93, List.forall_mem_cons.mpr ⟨lw_p94, List.forall_mem_cons.mpr ⟨lw_p95, fun _ h => absurd h List.not_mem_nil⟩⟩⟩⟩⟩⟩⟩⟩⟩⟩⟩⟩⟩⟩⟩⟩
theorem lw_p96 : lw_okq (⟨"ItalicsLeanModel", "slantCode", "()I"⟩, 39) := ⟨⟨by decide +kernel, by decide +kernel⟩, List.mem_of_getElem? (i := 1115) (by decide +kernel), List.mem_of_getElem? (i := 1624) (by decide +kernel), List.mem_of_getElem? (i := 1625) (by decide +kernel)⟩
theorem lw_p97 : lw_okq (⟨"ItalicsLeanModel", "layFars", "()V"⟩, 39) := ⟨⟨by decide +kernel, by decide +kernel⟩, List.mem_of_getElem? (i := 1115) (by decide +kernel), List.mem_of_getElem? (i := 1636) (by decide +kernel), List.mem_of_getElem? (i := 1637) (by decide +kernel)⟩
theorem lw_p98 : lw_okq (⟨"ItalicsLeanModel", "orderOf", "(Z)I"⟩, 39) := ⟨⟨by decide +kernel, by decide +kernel⟩, List.mem_of_getElem? (i := 1115) (by decide +kernel), List.mem_of_getElem? (i := 1640) (by decide +kernel), List.mem_of_getElem? (i := 1641) (by decide +kernel)⟩
theorem lw_p99 : lw_okq (⟨"ItalicsLeanModel", "turned", "(II)I"⟩, 39) := ⟨⟨by decide +kernel, by decide +kernel⟩, List.mem_of_getElem? (i := 1115) (by decide +kernel), List.mem_of_getElem? (i := 1644) (by decide +kernel), List.mem_of_getElem? (i := 1645) (by decide +kernel)⟩
theorem lw_p100 : lw_okq (⟨"ItalicsLeanModel", "rackedSum", "()I"⟩, 39) := ⟨⟨by decide +kernel, by decide +kernel⟩, List.mem_of_getElem? (i := 1115) (by decide +kernel), List.mem_of_getElem? (i := 1653) (by decide +kernel), List.mem_of_getElem? (i := 1654) (by decide +kernel)⟩
theorem lw_p101 : lw_okq (⟨"ItalicsLeanModel", "isNextRow", "(I)Z"⟩, 39) := ⟨⟨by decide +kernel, by decide +kernel⟩, List.mem_of_getElem? (i := 1115) (by decide +kernel), List.mem_of_getElem? (i := 1657) (by decide +kernel), List.mem_of_getElem? (i := 1658) (by decide +kernel)⟩
theorem lw_p102 : lw_okq (⟨"ItalicsLeanModel", "exchange", "(II)V"⟩, 39) := ⟨⟨by decide +kernel, by decide +kernel⟩, List.mem_of_getElem? (i := 1115) (by decide +kernel), List.mem_of_getElem? (i := 1661) (by decide +kernel), List.mem_of_getElem? (i := 1662) (by decide +kernel)⟩
theorem lw_p103 : lw_okq (⟨"ItalicsLeanModel", "layPage", "(I)V"⟩, 39) := ⟨⟨by decide +kernel, by decide +kernel⟩, List.mem_of_getElem? (i := 1115) (by decide +kernel), List.mem_of_getElem? (i := 1677) (by decide +kernel), List.mem_of_getElem? (i := 1678) (by decide +kernel)⟩
theorem lw_p104 : lw_okq (⟨"ItalicsLeanModel", "widthOf", "(II)I"⟩, 39) := ⟨⟨by decide +kernel, by decide +kernel⟩, List.mem_of_getElem? (i := 1115) (by decide +kernel), List.mem_of_getElem? (i := 1681) (by decide +kernel), List.mem_of_getElem? (i := 1682) (by decide +kernel)⟩
theorem lw_p105 : lw_okq (⟨"ItalicsLeanModel", "linesBy", "(I)I"⟩, 39) := ⟨⟨by decide +kernel, by decide +kernel⟩, List.mem_of_getElem? (i := 1115) (by decide +kernel), List.mem_of_getElem? (i := 1694) (by decide +kernel), List.mem_of_getElem? (i := 1695) (by decide +kernel)⟩
theorem lw_p106 : lw_okq (⟨"ItalicsLeanModel", "isMeant", "(III)Z"⟩, 39) := ⟨⟨by decide +kernel, by decide +kernel⟩, List.mem_of_getElem? (i := 1115) (by decide +kernel), List.mem_of_getElem? (i := 1706) (by decide +kernel), List.mem_of_getElem? (i := 1707) (by decide +kernel)⟩
theorem lw_p107 : lw_okq (⟨"ItalicsLeanModel", "mostLeft", "(II)I"⟩, 39) := ⟨⟨by decide +kernel, by decide +kernel⟩, List.mem_of_getElem? (i := 1115) (by decide +kernel), List.mem_of_getElem? (i := 1715) (by decide +kernel), List.mem_of_getElem? (i := 1716) (by decide +kernel)⟩
theorem lw_p108 : lw_okq (⟨"ItalicsLeanModel", "areHeld", "(I)Z"⟩, 39) := ⟨⟨by decide +kernel, by decide +kernel⟩, List.mem_of_getElem? (i := 1115) (by decide +kernel), List.mem_of_getElem? (i := 1723) (by decide +kernel), List.mem_of_getElem? (i := 1724) (by decide +kernel)⟩
theorem lw_p109 : lw_okq (⟨"ItalicsLeanModel", "goOne", "()V"⟩, 39) := ⟨⟨by decide +kernel, by decide +kernel⟩, List.mem_of_getElem? (i := 1115) (by decide +kernel), List.mem_of_getElem? (i := 1735) (by decide +kernel), List.mem_of_getElem? (i := 1736) (by decide +kernel)⟩
theorem lw_p110 : lw_okq (⟨"ItalicsLeanModel", "isWon", "(II)Z"⟩, 39) := ⟨⟨by decide +kernel, by decide +kernel⟩, List.mem_of_getElem? (i := 1115) (by decide +kernel), List.mem_of_getElem? (i := 1765) (by decide +kernel), List.mem_of_getElem? (i := 1766) (by decide +kernel)⟩
def lw_privs_7 : List (MethodName × Nat) := [(⟨"ItalicsLeanModel", "slantCode", "()I"⟩, 39), (⟨"ItalicsLeanModel", "layFars", "()V"⟩, 39), (⟨"ItalicsLeanModel", "orderOf", "(Z)I"⟩, 39), (⟨"ItalicsLeanModel", "turned", "(II)I"⟩, 39), (⟨"ItalicsLeanModel", "rackedSum", "()I"⟩, 39), (⟨"ItalicsLeanModel", "isNextRow", "(I)Z"⟩, 39), (⟨"ItalicsLeanModel", "exchange", "(II)V"⟩, 39), (⟨"ItalicsLeanModel", "layPage", "(I)V"⟩, 39), (⟨"ItalicsLeanModel", "widthOf", "(II)I"⟩, 39), (⟨"ItalicsLeanModel", "linesBy", "(I)I"⟩, 39), (⟨"ItalicsLeanModel", "isMeant", "(III)Z"⟩, 39), (⟨"ItalicsLeanModel", "mostLeft", "(II)I"⟩, 39), (⟨"ItalicsLeanModel", "areHeld", "(I)Z"⟩, 39), (⟨"ItalicsLeanModel", "goOne", "()V"⟩, 39), (⟨"ItalicsLeanModel", "isWon", "(II)Z"⟩, 39)]
theorem lw_r7 : ∀ q ∈ lw_privs_7, lw_okq q := List.forall_mem_cons.mpr ⟨lw_p96, List.forall_mem_cons.mpr ⟨lw_p97, List.forall_mem_cons.mpr ⟨lw_p98, List.forall_mem_cons.mpr ⟨lw_p99, List.forall_mem_cons.mpr ⟨lw_p100, List.forall_mem_cons.mpr ⟨lw_p101, List.forall_mem_cons.mpr ⟨lw_p102, List.forall_mem_cons.mpr ⟨lw_p103, List.forall_mem_cons.mpr ⟨lw_p104, List.forall_mem_cons.mpr ⟨lw_p105, List.forall_mem_cons.mpr ⟨lw_p106, List.forall_mem_cons.mpr ⟨lw_p107, List.forall_mem_cons.mpr ⟨lw_p108, List.forall_mem_cons.mpr ⟨lw_p109, List.forall_mem_cons.mpr ⟨lw_p110, fun _ h => absurd h List.not_mem_nil⟩⟩⟩⟩⟩⟩⟩⟩⟩⟩⟩⟩⟩⟩⟩
def lw_privs : List (MethodName × Nat) := lw_privs_1 ++ (lw_privs_2 ++ (lw_privs_3 ++ (lw_privs_4 ++ (lw_privs_5 ++ (lw_privs_6 ++ (lw_privs_7))))))
def lw_tbl : List Cond := k2_sels lw_privs ++ tables_1
theorem lw_privs_ok : ∀ q ∈ lw_privs, lw_okq q := by
  show ∀ q ∈ lw_privs_1 ++ (lw_privs_2 ++ (lw_privs_3 ++ (lw_privs_4 ++ (lw_privs_5 ++ (lw_privs_6 ++ (lw_privs_7)))))), lw_okq q
  exact List.forall_mem_append.mpr ⟨lw_r1, List.forall_mem_append.mpr ⟨lw_r2, List.forall_mem_append.mpr ⟨lw_r3, List.forall_mem_append.mpr ⟨lw_r4, List.forall_mem_append.mpr ⟨lw_r5, List.forall_mem_append.mpr ⟨lw_r6, lw_r7⟩⟩⟩⟩⟩⟩
end
section
/-! THE SMALL MACHINE: the bytecode of this claim over a heap of numbered cells. A cell is an object (class, its references by field), a row of numbers (kind 0 int, 1 boolean, 2 long; length) or a row of references. Numbers lie apart, in four functions. -/
abbrev AV : Type := Int32 ⊕ Int64 ⊕ Option Nat ⊕ Nat
abbrev vI (x : Int32) : AV := Sum.inl x
abbrev vL (x : Int64) : AV := Sum.inr (Sum.inl x)
abbrev vP (o : Option Nat) : AV := Sum.inr (Sum.inr (Sum.inl o))
abbrev vE (i : Nat) : AV := Sum.inr (Sum.inr (Sum.inr i))
abbrev SC : Type := (Nat × List (Option Nat)) ⊕ (Nat × Nat) ⊕ List (Option Nat)
abbrev cO (c : Nat) (r : List (Option Nat)) : SC := Sum.inl (c, r)
abbrev cN (t n : Nat) : SC := Sum.inr (Sum.inl (t, n))
abbrev cR (r : List (Option Nat)) : SC := Sum.inr (Sum.inr r)
abbrev DT : Type := (Nat → Nat → Int32) × (Nat → Nat → Int64) × (Nat → Nat → Int32) × (Nat → Nat → Int64)
abbrev HP : Type := List SC × DT
abbrev RR : Type := Option (Option AV × HP)
abbrev LL : Type := List (Nat × AV)
abbrev ST : Type := List AV
abbrev XS : Type := Nat × (Nat → Int32)
/-- an instruction: place, live locals where a run is cut, the instruction, its length, what its operands stand for, its constants -/
abbrev EN : Type := Nat × Option (List Nat) × Instr × Nat × List Nat × Int32 × Int64
def up2 {α : Type} (f : Nat → Nat → α) (n k : Nat) (v : α) : Nat → Nat → α := fun a b => if a = n then (if b = k then v else f a b) else f a b
def up1 {α : Type} (f : Nat → Nat → α) (n : Nat) (g : Nat → α) : Nat → Nat → α := fun a b => if a = n then g b else f a b
def gF (h : DT) (n k : Nat) : Int32 := h.1 n k
def gG (h : DT) (n k : Nat) : Int64 := h.2.1 n k
def gA (h : DT) (n k : Nat) : Int32 := h.2.2.1 n k
def gB (h : DT) (n k : Nat) : Int64 := h.2.2.2 n k
def sF (h : DT) (n k : Nat) (v : Int32) : DT := (up2 h.1 n k v, h.2)
def sG (h : DT) (n k : Nat) (v : Int64) : DT := (h.1, up2 h.2.1 n k v, h.2.2)
def sA (h : DT) (n k : Nat) (v : Int32) : DT := (h.1, h.2.1, up2 h.2.2.1 n k v, h.2.2.2)
def sB (h : DT) (n k : Nat) (v : Int64) : DT := (h.1, h.2.1, h.2.2.1, up2 h.2.2.2 n k v)
def zF (h : DT) (n : Nat) : DT := (up1 h.1 n (fun _ => 0), up1 h.2.1 n (fun _ => 0), h.2.2)
def zA (h : DT) (n : Nat) : DT := (h.1, h.2.1, up1 h.2.2.1 n (fun _ => 0), up1 h.2.2.2 n (fun _ => 0))
def yA (h : DT) (a b sp dp n : Nat) : DT := (h.1, h.2.1, up1 h.2.2.1 b (va_cpy (h.2.2.1 a) (h.2.2.1 b) sp dp n), h.2.2.2)
def yB (h : DT) (a b sp dp n : Nat) : DT := (h.1, h.2.1, h.2.2.1, up1 h.2.2.2 b (va_cpy (h.2.2.2 a) (h.2.2.2 b) sp dp n))
def nth {α : Type} : List α → Nat → Option α
  | [], _ => none
  | a :: _, 0 => some a
  | _ :: l, n + 1 => nth l n
def lk (i : Nat) : LL → Option AV
  | [] => none
  | q :: t => bif Nat.beq q.1 i then some q.2 else lk i t
def isL : AV → Bool
  | .inr (.inl _) => true
  | _ => false
/-- a local is stored; what lay there goes -/
def sl (w : Bool) (i : Nat) (v : AV) (L : LL) : LL := (i, v) :: L.filter (fun q => !(Nat.beq q.1 i) && (!(Nat.beq (q.1 + 1) i && isL q.2) && !(w && Nat.beq q.1 (i + 1))))
def rs : List Nat → LL → LL
  | [], _ => []
  | i :: t, L => match lk i L with
    | some v => (i, v) :: rs t L
    | none => rs t L
def jt (t : Nat) : List EN → List EN
  | [] => []
  | e :: r => bif Nat.beq e.1 t then e :: r else jt t r
-- values of a stack
def tI (S : ST) (k : Int32 → ST → RR) : RR := match S with
  | .inl x :: S => k x S
  | _ => none
def tL (S : ST) (k : Int64 → ST → RR) : RR := match S with
  | .inr (.inl x) :: S => k x S
  | _ => none
def tP (S : ST) (k : Option Nat → ST → RR) : RR := match S with
  | .inr (.inr (.inl x)) :: S => k x S
  | _ => none
def tN (S : ST) (k : Nat → ST → RR) : RR := match S with
  | .inr (.inr (.inl (some x))) :: S => k x S
  | _ => none
def t1 (S : ST) (k : AV → ST → RR) : RR := match S with
  | v :: S => bif isL v then none else k v S
  | _ => none
-- answers of calls
def bI (r : RR) (k : Int32 → HP → RR) : RR := match r with
  | some (some (.inl x), H) => k x H
  | _ => none
def bL (r : RR) (k : Int64 → HP → RR) : RR := match r with
  | some (some (.inr (.inl x)), H) => k x H
  | _ => none
def bP (r : RR) (k : Option Nat → HP → RR) : RR := match r with
  | some (some (.inr (.inr (.inl x))), H) => k x H
  | _ => none
def bV (r : RR) (k : HP → RR) : RR := match r with
  | some (none, H) => k H
  | _ => none
def i2 (S : ST) (f : Int32 → Int32 → Int32) (k : ST → RR) : RR := tI S fun y S => tI S fun x S => k (vI (f x y) :: S)
def l2 (S : ST) (f : Int64 → Int64 → Int64) (k : ST → RR) : RR := tL S fun y S => tL S fun x S => k (vL (f x y) :: S)
def ls2 (S : ST) (f : Int64 → Int32 → Int64) (k : ST → RR) : RR := tI S fun y S => tL S fun x S => k (vL (f x y) :: S)
/-- what changes the stack alone -/
def opS (i : Instr) (ax : List Nat) (cI : Int32) (cL : Int64) (S : ST) (k : ST → RR) : RR := match i with
  | .iconst _ => k (vI cI :: S)
  | .bipush _ => k (vI cI :: S)
  | .sipush _ => k (vI cI :: S)
  | .ldc _ => match ax with
    | [] => k (vI cI :: S)
    | j :: _ => k (vE j :: S)
  | .ldc_w _ => k (vI cI :: S)
  | .lconst _ => k (vL cL :: S)
  | .ldc2_w _ => k (vL cL :: S)
  | .aconst_null => k (vP none :: S)
  | .iadd => i2 S (fun x y => x + y) k
  | .isub => i2 S (fun x y => x - y) k
  | .imul => i2 S (fun x y => x * y) k
  | .iand => i2 S (fun x y => x &&& y) k
  | .ior => i2 S (fun x y => x ||| y) k
  | .ixor => i2 S (fun x y => x ^^^ y) k
  | .ishl => i2 S (fun x y => x <<< (y &&& 31)) k
  | .ishr => i2 S (fun x y => x >>> (y &&& 31)) k
  | .iushr => i2 S (fun x y => (x.toUInt32 >>> (y.toUInt32 &&& Int32.toUInt32 31)).toInt32) k
  | .ineg => tI S fun x S => k (vI (-x) :: S)
  | .idiv => tI S fun y S => tI S fun x S => if y = 0 then none else k (vI (x / y) :: S)
  | .irem => tI S fun y S => tI S fun x S => if y = 0 then none else k (vI (x - x / y * y) :: S)
  | .ladd => l2 S (fun x y => x + y) k
  | .lsub => l2 S (fun x y => x - y) k
  | .lmul => l2 S (fun x y => x * y) k
  | .lor => l2 S (fun x y => x ||| y) k
  | .land => l2 S (fun x y => x &&& y) k
  | .lshl => ls2 S (fun x y => x <<< (y.toInt64 &&& 63)) k
  | .lshr => ls2 S (fun x y => x >>> (y.toInt64 &&& 63)) k
  | .lneg => tL S fun x S => k (vL (-x) :: S)
  | .ldiv => tL S fun y S => tL S fun x S => if y = 0 then none else k (vL (x / y) :: S)
  | .lrem => tL S fun y S => tL S fun x S => if y = 0 then none else k (vL (x - x / y * y) :: S)
  | .i2l => tI S fun x S => k (vL x.toInt64 :: S)
  | .l2i => tL S fun x S => k (vI x.toInt32 :: S)
  | .lcmp => tL S fun y S => tL S fun x S => k (vI (lg_cmp x y) :: S)
  | .dup => t1 S fun v S => k (v :: v :: S)
  | .pop => t1 S fun _ S => k S
  | .dup2 => t1 S fun v S => t1 S fun w S => k (v :: w :: v :: w :: S)
  | _ => none
def ldI (i : Nat) (L : LL) (S : ST) (k : LL → ST → RR) : RR := match lk i L with
  | some (.inl x) => k L (vI x :: S)
  | _ => none
def ldL (i : Nat) (L : LL) (S : ST) (k : LL → ST → RR) : RR := match lk i L with
  | some (.inr (.inl x)) => k L (vL x :: S)
  | _ => none
def ldP (i : Nat) (L : LL) (S : ST) (k : LL → ST → RR) : RR := match lk i L with
  | some (.inr (.inr x)) => k L (.inr (.inr x) :: S)
  | _ => none
def stP (i : Nat) (L : LL) (S : ST) (k : LL → ST → RR) : RR := match S with
  | .inr (.inr x) :: S => k (sl false i (.inr (.inr x)) L) S
  | _ => none
/-- locals; n: how many there are -/
def opL (n : Nat) (i : Instr) (cI : Int32) (L : LL) (S : ST) (k : LL → ST → RR) : RR := match i with
  | .iload i => ldI i L S k
  | .iload_n i => ldI i.val L S k
  | .lload i => ldL i L S k
  | .lload_n i => ldL i.val L S k
  | .aload i => ldP i L S k
  | .aload_n i => ldP i.val L S k
  | .istore i => tI S fun x S => bif Nat.blt i n then k (sl false i (vI x) L) S else none
  | .istore_n i => tI S fun x S => bif Nat.blt i.val n then k (sl false i.val (vI x) L) S else none
  | .lstore i => tL S fun x S => bif Nat.blt (i + 1) n then k (sl true i (vL x) L) S else none
  | .lstore_n i => tL S fun x S => bif Nat.blt (i.val + 1) n then k (sl true i.val (vL x) L) S else none
  | .astore_n i => bif Nat.blt i.val n then stP i.val L S k else none
  | .iinc i _ => match lk i L with
    | some (.inl x) => bif Nat.blt i n then k (sl false i (vI (x + cI)) L) S else none
    | _ => none
  | _ => none
def oneC (n : Nat) (H : HP) (ci : Nat) (k : List (Option Nat) → RR) : RR := match nth H.1 n with
  | some (.inl (c, r)) => bif Nat.beq c ci then k r else none
  | _ => none
def oneN (n : Nat) (H : HP) (t : Nat) (k : Nat → RR) : RR := match nth H.1 n with
  | some (.inr (.inl (t', m))) => bif Nat.beq t' t then k m else none
  | _ => none
def oneR (n : Nat) (H : HP) (k : List (Option Nat) → RR) : RR := match nth H.1 n with
  | some (.inr (.inr r)) => k r
  | _ => none
/-- an index is in its row -/
def inb (i : Int32) (n : Nat) (k : Nat → RR) : RR := if i < 0 ∨ n ≤ i.toNatClampNeg then none else k i.toNatClampNeg
def putL {α : Type} : List α → Nat → α → List α
  | [], _, _ => []
  | _ :: l, 0, v => v :: l
  | a :: l, n + 1, v => a :: putL l n v
/-- a reference is of a cell that is there -/
def okP (o : Option Nat) (H : HP) : Bool := match o with
  | none => true
  | some n => match nth H.1 n with
    | some _ => true
    | none => false
def facN : List Int32 := [1, 1, 2, 6, 24, 120]
/-- the heap -/
def opH (X : XS) (i : Instr) (ax : List Nat) (S : ST) (H : HP) (k : ST → HP → RR) : RR := match i with
  | .getfield _ => match ax with
    | ci :: j :: kd :: _ => tN S fun n S => oneC n H ci fun r => match kd with
      | 0 => k (vI (gF H.2 n j) :: S) H
      | 1 => k (vL (gG H.2 n j) :: S) H
      | 2 => k (vP (r.getD j none) :: S) H
      | _ => k (vI (gF H.2 n j) :: S) H
    | _ => none
  | .putfield _ => match ax with
    | ci :: j :: kd :: _ => match kd with
      | 0 => tI S fun x S => tN S fun n S => oneC n H ci fun _ => k S (H.1, sF H.2 n j x)
      | 1 => tL S fun x S => tN S fun n S => oneC n H ci fun _ => k S (H.1, sG H.2 n j x)
      | 2 => tP S fun x S => tN S fun n S => oneC n H ci fun r => bif Nat.blt j r.length then k S (putL H.1 n (cO ci (putL r j x)), H.2) else none
      | _ => tI S fun x S => tN S fun n S => oneC n H ci fun _ => if x = 0 ∨ x = 1 then k S (H.1, sF H.2 n j x) else none
    | _ => none
  | .getstatic _ => match ax with
    | j :: _ => k (vE j :: S) H
    | _ => none
  | .iaload => match S with
    | .inl i :: .inr (.inr (.inr e)) :: S => bif Nat.beq e 100 then inb i 6 fun j => k (vI (facN.getD j 0) :: S) H else bif Nat.beq e 101 then inb i X.1 fun j => k (vI (X.2 j) :: S) H else none
    | S => tI S fun i S => tN S fun n S => oneN n H 0 fun m => inb i m fun j => k (vI (gA H.2 n j) :: S) H
  | .baload => tI S fun i S => tN S fun n S => oneN n H 1 fun m => inb i m fun j => k (vI (gA H.2 n j) :: S) H
  | .laload => tI S fun i S => tN S fun n S => oneN n H 2 fun m => inb i m fun j => k (vL (gB H.2 n j) :: S) H
  | .aaload => tI S fun i S => tN S fun n S => oneR n H fun r => inb i r.length fun j => k (vP (r.getD j none) :: S) H
  | .iastore => tI S fun x S => tI S fun i S => tN S fun n S => oneN n H 0 fun m => inb i m fun j => k S (H.1, sA H.2 n j x)
  | .bastore => tI S fun x S => tI S fun i S => tN S fun n S => oneN n H 1 fun m => inb i m fun j => k S (H.1, sA H.2 n j (vp_nar .boolean x))
  | .lastore => tL S fun x S => tI S fun i S => tN S fun n S => oneN n H 2 fun m => inb i m fun j => k S (H.1, sB H.2 n j x)
  | .aastore => tN S fun v S => tI S fun i S => tN S fun n S => oneR n H fun r => oneC v H 7 fun _ => inb i r.length fun j => k S (putL H.1 n (cR (putL r j (some v))), H.2)
  | .arraylength => match S with
    | .inr (.inr (.inr e)) :: S => bif Nat.beq e 101 then k (vI (Int32.ofNat X.1) :: S) H else none
    | _ => none
  | .new _ => match ax with
    | ci :: nf :: _ => k (vP (some H.1.length) :: S) (H.1 ++ [cO ci (List.replicate nf none)], zF H.2 H.1.length)
    | _ => none
  | .newarray _ => match ax with
    | t :: _ => tI S fun x S => if x < 0 ∨ 200000 < x then none else k (vP (some H.1.length) :: S) (H.1 ++ [cN t x.toNatClampNeg], zA H.2 H.1.length)
    | _ => none
  | .anewarray _ => tI S fun x S => if x < 0 ∨ 200000 < x then none else k (vP (some H.1.length) :: S) (H.1 ++ [cR (List.replicate x.toNatClampNeg none)], H.2)
  | _ => none
def texts0 : List (List Int32) := [[108, 101, 97, 110, 115], [104, 101, 97, 114, 115], [112, 101, 114, 115, 111, 110], [114, 97, 99, 107], [115, 119, 97, 112], [116, 117, 114, 110], [112, 114, 111, 112], [102, 114, 101, 101], [121, 101, 97, 114], [115, 116, 101, 112], [116, 111], [115, 101, 97, 116], [105, 102], [110, 111, 116], [97, 110, 100], [111, 114], [116, 104, 101, 110], [101, 108, 115, 101], [101, 110, 100], [119, 105, 110, 100], [119, 101, 105, 103, 104, 116], [119, 104, 111], [115, 108, 97, 110, 116], [108, 101, 102, 116], [114, 105, 103, 104, 116], [119, 111, 114, 100], [102, 114, 111, 109], [97, 116], [119, 105, 116, 104]]
def bitC (x0 : Int32) : Int32 :=
  let u : Int32 → Int32 → Int32 := fun x y => (x.toUInt32 >>> (y.toUInt32 &&& Int32.toUInt32 31)).toInt32
  let a := x0 - (u x0 1 &&& 1431655765)
  let b := (a &&& 858993459) + (u a 2 &&& 858993459)
  let c := (b + u b 4) &&& 252645135
  let d := c + u c 8
  let e := d + u d 16
  e &&& 63
def cpy (S : ST) (H : HP) (t : Nat) (f : DT → Nat → Nat → Nat → Nat → Nat → DT) (k : ST → HP → RR) : RR :=
  tI S fun n S => tI S fun dp S => tN S fun b S => tI S fun sp S => tN S fun a S => oneN a H t fun m0 => oneN b H t fun m1 =>
    if sp < 0 ∨ dp < 0 ∨ n < 0 ∨ m0 < sp.toNatClampNeg + n.toNatClampNeg ∨ m1 < dp.toNatClampNeg + n.toNatClampNeg then none
    else k S (H.1, f H.2 a b sp.toNatClampNeg dp.toNatClampNeg n.toNatClampNeg)
/-- methods of the library -/
def opJ (b : Nat) (S : ST) (H : HP) (k : ST → HP → RR) : RR := match b with
  | 0 => i2 S (fun x y => if x < y then y else x) fun S => k S H
  | 1 => i2 S (fun x y => if y < x then y else x) fun S => k S H
  | 2 => tI S fun x S => k (vI (if 0 ≤ x then x else 0 - x) :: S) H
  | 3 => tI S fun x S => k (vI (bitC x) :: S) H
  | 4 => cpy S H 0 yA k
  | 5 => cpy S H 2 yB k
  | 6 => match S with
    | .inr (.inr (.inr e)) :: S => bif Nat.blt e 29 then k (vI (Int32.ofNat (texts0.getD e []).length) :: S) H else none
    | _ => none
  | 7 => tI S fun i S => match S with
    | .inr (.inr (.inr e)) :: S => bif Nat.blt e 29 then inb i (texts0.getD e []).length fun j => k (vI ((texts0.getD e []).getD j 0) :: S) H else none
    | _ => none
  | 8 => tN S fun _ S => k S H
  | 9 => l2 S (fun x y => if y < x then x else y) fun S => k S H
  | 10 => l2 S (fun x y => if y < x then y else x) fun S => k S H
  | _ => none
def cat1 : AV → Nat
  | .inr (.inl _) => 2
  | _ => 1
def words : ST → Nat
  | [] => 0
  | v :: S => cat1 v + words S
/-- the n upper ones of a stack, the lowest first -/
def popN : Nat → ST → List AV → (List AV → ST → RR) → RR
  | 0, S, acc, k => k acc S
  | n + 1, S, acc, k => match S with
    | v :: S => popN n S (v :: acc) k
    | [] => none
/-- a call of an own method: ax = [0, y, number of arguments, kind of answer] (static) or [1, y, arguments, kind, class of the receiver] -/
def opC (call : Nat → List AV → HP → RR) (ax : List Nat) (S : ST) (H : HP) (k : ST → HP → RR) : RR := match ax with
  | kd :: y :: n :: rt :: r => popN n S [] fun as S =>
      let go : List AV → ST → RR := fun as S => bif Nat.ble (words S) 8 then (match rt with
        | 0 => bV (call y as H) fun H => k S H
        | 1 => bI (call y as H) fun x H => k (vI x :: S) H
        | 2 => bL (call y as H) fun x H => k (vL x :: S) H
        | _ => bP (call y as H) fun x H => k (vP x :: S) H) else none
      match kd, r with
      | 0, _ => go as S
      | 1, ci :: _ => tN S fun q S => oneC q H ci fun _ => go (vP (some q) :: as) S
      | _, _ => none
  | _ => none
/-- a method's answer: rt 0 none, 1 int, 2 long, 3 reference, 4 boolean -/
def opR (rt : Nat) (i : Instr) (S : ST) (H : HP) : RR := match i with
  | .return_ => match rt, S with
    | 0, [] => some (none, H)
    | _, _ => none
  | .ireturn => match rt, S with
    | 1, [.inl x] => some (some (vI x), H)
    | 4, [.inl x] => if x = 0 ∨ x = 1 then some (some (vI x), H) else none
    | _, _ => none
  | .lreturn => match rt, S with
    | 2, [.inr (.inl x)] => some (some (vL x), H)
    | _, _ => none
  | .areturn => match rt, S with
    | 3, [.inr (.inr (.inl x))] => some (some (vP x), H)
    | _, _ => none
  | _ => none
/-- where a switch goes -/
def swT (x : Int32) (k : Nat → RR) (d : RR) : Nat → List Nat → RR
  | _, [] => d
  | lo, t :: r => if x = Int32.ofNat lo then k t else swT x k d (lo + 1) r
def lkT (x : Int32) (k : Nat → RR) (d : RR) : List Nat → RR
  | a :: t :: r => if x = Int32.ofNat a then k t else lkT x k d r
  | _ => d
/-- one instruction; go: how the rest goes on -/
def stp (X : XS) (call : Nat → List AV → HP → RR) (n rt : Nat) (go : List EN → LL → ST → HP → RR) (code is : List EN) (i : Instr) (ax : List Nat) (cI : Int32) (cL : Int64) (L : LL) (S : ST) (H : HP) : RR :=
  let jump : ST → RR := fun S => match ax with
    | t :: _ => go (jt t code) L S H
    | [] => none
  let next : ST → RR := fun S => go is L S H
  match i with
  | .goto _ => jump S
  | .ifCond .eq _ => tI S fun x S => if x = 0 then jump S else next S
  | .ifCond .ne _ => tI S fun x S => if x = 0 then next S else jump S
  | .ifCond .lt _ => tI S fun x S => if x < 0 then jump S else next S
  | .ifCond .ge _ => tI S fun x S => if 0 ≤ x then jump S else next S
  | .ifCond .gt _ => tI S fun x S => if 0 < x then jump S else next S
  | .ifCond .le _ => tI S fun x S => if x ≤ 0 then jump S else next S
  | .if_icmp .eq _ => tI S fun y S => tI S fun x S => if x = y then jump S else next S
  | .if_icmp .ne _ => tI S fun y S => tI S fun x S => if x = y then next S else jump S
  | .if_icmp .lt _ => tI S fun y S => tI S fun x S => if x < y then jump S else next S
  | .if_icmp .ge _ => tI S fun y S => tI S fun x S => if y ≤ x then jump S else next S
  | .if_icmp .gt _ => tI S fun y S => tI S fun x S => if y < x then jump S else next S
  | .if_icmp .le _ => tI S fun y S => tI S fun x S => if x ≤ y then jump S else next S
  | .ifnull _ => tP S fun o S => match o with
    | none => jump S
    | some _ => next S
  | .ifnonnull _ => tP S fun o S => match o with
    | none => next S
    | some _ => jump S
  | .tableswitch _ _ _ _ => match ax with
    | d :: lo :: ts => tI S fun x S => swT x (fun t => go (jt t code) L S H) (go (jt d code) L S H) lo ts
    | _ => none
  | .lookupswitch _ _ => match ax with
    | d :: ts => tI S fun x S => lkT x (fun t => go (jt t code) L S H) (go (jt d code) L S H) ts
    | _ => none
  | .invokestatic _ => match ax with
    | 2 :: b :: _ => bif Nat.ble (words S) 8 then opJ b S H (fun S H => go is L S H) else none
    | _ => opC call ax S H fun S H => go is L S H
  | .invokevirtual _ => match ax with
    | 2 :: b :: _ => bif Nat.ble (words S) 8 then opJ b S H (fun S H => go is L S H) else none
    | _ => opC call ax S H fun S H => go is L S H
  | .invokespecial _ => match ax with
    | 2 :: b :: _ => bif Nat.ble (words S) 8 then opJ b S H (fun S H => go is L S H) else none
    | _ => opC call ax S H fun S H => go is L S H
  | .ireturn => opR rt i S H
  | .lreturn => opR rt i S H
  | .areturn => opR rt i S H
  | .return_ => opR rt i S H
  | .iload _ => opL n i cI L S fun L S => go is L S H
  | .iload_n _ => opL n i cI L S fun L S => go is L S H
  | .lload _ => opL n i cI L S fun L S => go is L S H
  | .lload_n _ => opL n i cI L S fun L S => go is L S H
  | .aload _ => opL n i cI L S fun L S => go is L S H
  | .aload_n _ => opL n i cI L S fun L S => go is L S H
  | .istore _ => opL n i cI L S fun L S => go is L S H
  | .istore_n _ => opL n i cI L S fun L S => go is L S H
  | .lstore _ => opL n i cI L S fun L S => go is L S H
  | .lstore_n _ => opL n i cI L S fun L S => go is L S H
  | .astore_n _ => opL n i cI L S fun L S => go is L S H
  | .iinc _ _ => opL n i cI L S fun L S => go is L S H
  | .getfield _ => opH X i ax S H fun S H => go is L S H
  | .putfield _ => opH X i ax S H fun S H => go is L S H
  | .getstatic _ => opH X i ax S H fun S H => go is L S H
  | .iaload => opH X i ax S H fun S H => go is L S H
  | .baload => opH X i ax S H fun S H => go is L S H
  | .laload => opH X i ax S H fun S H => go is L S H
  | .aaload => opH X i ax S H fun S H => go is L S H
  | .iastore => opH X i ax S H fun S H => go is L S H
  | .bastore => opH X i ax S H fun S H => go is L S H
  | .lastore => opH X i ax S H fun S H => go is L S H
  | .aastore => opH X i ax S H fun S H => go is L S H
  | .arraylength => opH X i ax S H fun S H => go is L S H
  | .new _ => opH X i ax S H fun S H => go is L S H
  | .newarray _ => opH X i ax S H fun S H => go is L S H
  | .anewarray _ => opH X i ax S H fun S H => go is L S H
  | i => opS i ax cI cL S fun S => go is L S H
/-- n: locals; code: all of the method; then the fuel, whether a cut here is passed over, what is left of the code -/
def exm (X : XS) (call : Nat → List AV → HP → RR) (n rt : Nat) (code : List EN) : Nat → Bool → List EN → LL → ST → HP → (Nat → LL → ST → HP → RR) → RR
  | 0, _, _, _, _, _, _ => none
  | _ + 1, _, [], _, _, _, _ => none
  | f + 1, b, (pc, cut, i, _, ax, cI, cL) :: is, L, S, H, K =>
    match (bif b then none else cut) with
    | some live => K pc (rs live L) S H
    | none => stp X call n rt (fun is L S H => exm X call n rt code f false is L S H K) code is i ax cI cL L S H
/-- a method from a cut on -/
def rcm (X : XS) (call : Nat → List AV → HP → RR) (n rt : Nat) (code : List EN) : Nat → Nat → LL → ST → HP → RR
  | 0, _, _, _, _ => none
  | f + 1, pc, L, S, H => exm X call n rt code 5000 true (jt pc code) L S H (fun pc L S H => rcm X call n rt code f pc L S H)
def iniL : Nat → List AV → LL
  | _, [] => []
  | i, v :: t => (i, v) :: iniL (i + cat1 v) t
end
section
/-! the methods, their code with its operands resolved -/
def k_X0_init : List EN := [(0, none, .aload_n 0, 1, [], 0, 0), (1, none, .invokespecial 3, 3, [2, 8], 0, 0), (4, none, .aload_n 0, 1, [], 0, 0), (5, none, .iconst 0, 1, [], 0, 0), (6, none, .putfield 9, 3, [0, 0, 0], 0, 0), (9, none, .aload_n 0, 1, [], 0, 0), (10, none, .sipush 500, 3, [], 500, 0), (13, none, .newarray .int, 2, [0], 0, 0), (15, none, .putfield 15, 3, [0, 1, 2], 0, 0), (18, none, .aload_n 0, 1, [], 0, 0), (19, none, .sipush 1999, 3, [], 1999, 0), (22, none, .newarray .int, 2, [0], 0, 0), (24, none, .putfield 19, 3, [0, 2, 2], 0, 0), (27, none, .aload_n 0, 1, [], 0, 0), (28, none, .aload_n 1, 1, [], 0, 0), (29, none, .putfield 22, 3, [0, 3, 2], 0, 0), (32, none, .return_, 1, [], 0, 0)]
def k_X0_gather : List EN := [(0, none, .aload_n 0, 1, [], 0, 0), (1, none, .iconst 0, 1, [], 0, 0), (2, none, .putfield 9, 3, [0, 0, 0], 0, 0), (5, none, .iconst 0, 1, [], 0, 0), (6, none, .istore 5, 2, [], 0, 0), (8, some [0, 1, 2, 3, 4, 5], .iload 5, 2, [], 0, 0), (10, none, .aload_n 1, 1, [], 0, 0), (11, none, .getfield 26, 3, [5, 0, 0], 0, 0), (14, none, .if_icmp .ge 70, 3, [84], 0, 0), (17, none, .iconst 0, 1, [], 0, 0), (18, none, .istore 6, 2, [], 0, 0), (20, some [0, 1, 2, 3, 4, 5, 6], .iload 6, 2, [], 0, 0), (22, none, .bipush 100, 2, [], 100, 0), (24, none, .if_icmp .ge 54, 3, [78], 0, 0), (27, none, .iload 5, 2, [], 0, 0), (29, none, .bipush 100, 2, [], 100, 0), (31, none, .imul, 1, [], 0, 0), (32, none, .iload 6, 2, [], 0, 0), (34, none, .iadd, 1, [], 0, 0), (35, none, .istore 7, 2, [], 0, 0), (37, none, .aload_n 0, 1, [], 0, 0), (38, none, .aload_n 1, 1, [], 0, 0), (39, none, .aload_n 2, 1, [], 0, 0), (40, none, .aload_n 3, 1, [], 0, 0), (41, none, .iload 4, 2, [], 0, 0), (43, none, .iload 7, 2, [], 0, 0), (45, none, .invokevirtual 31, 3, [1, 2, 5, 1, 0], 0, 0), (48, some [0, 1, 2, 3, 4, 5, 6, 7], .ifCond .eq 24, 3, [72], 0, 0), (51, none, .aload_n 0, 1, [], 0, 0), (52, none, .getfield 15, 3, [0, 1, 2], 0, 0), (55, none, .aload_n 0, 1, [], 0, 0), (56, none, .getfield 9, 3, [0, 0, 0], 0, 0), (59, none, .iload 7, 2, [], 0, 0), (61, none, .iastore, 1, [], 0, 0), (62, none, .aload_n 0, 1, [], 0, 0), (63, none, .dup, 1, [], 0, 0), (64, none, .getfield 9, 3, [0, 0, 0], 0, 0), (67, none, .iconst 1, 1, [], 1, 0), (68, none, .iadd, 1, [], 0, 0), (69, none, .putfield 9, 3, [0, 0, 0], 0, 0), (72, none, .iinc 6 1, 3, [], 1, 0), (75, none, .goto (-55), 3, [20], 0, 0), (78, none, .iinc 5 1, 3, [], 1, 0), (81, none, .goto (-73), 3, [8], 0, 0), (84, none, .return_, 1, [], 0, 0)]
def k_X0_fits : List EN := [(0, none, .iconst 0, 1, [], 0, 0), (1, none, .istore 6, 2, [], 0, 0), (3, some [0, 1, 2, 3, 4, 5, 6], .iload 6, 2, [], 0, 0), (5, none, .aload_n 2, 1, [], 0, 0), (6, none, .getfield 35, 3, [8, 4, 0], 0, 0), (9, none, .if_icmp .ge 46, 3, [55], 0, 0), (12, none, .aload_n 0, 1, [], 0, 0), (13, none, .aload_n 1, 1, [], 0, 0), (14, none, .aload_n 2, 1, [], 0, 0), (15, none, .getfield 40, 3, [8, 8, 2], 0, 0), (18, none, .iload 6, 2, [], 0, 0), (20, none, .iaload, 1, [], 0, 0), (21, none, .aload_n 3, 1, [], 0, 0), (22, none, .iload 5, 2, [], 0, 0), (24, none, .invokevirtual 43, 3, [1, 3, 4, 1, 0], 0, 0), (27, some [0, 1, 2, 3, 4, 5, 6], .istore 7, 2, [], 0, 0), (29, none, .iload 7, 2, [], 0, 0), (31, none, .aload_n 2, 1, [], 0, 0), (32, none, .getfield 47, 3, [8, 9, 2], 0, 0), (35, none, .iload 6, 2, [], 0, 0), (37, none, .iaload, 1, [], 0, 0), (38, none, .isub, 1, [], 0, 0), (39, none, .invokestatic 50, 3, [2, 2], 0, 0), (42, none, .iload 4, 2, [], 0, 0), (44, none, .if_icmp .le 5, 3, [49], 0, 0), (47, none, .iconst 0, 1, [], 0, 0), (48, none, .ireturn, 1, [], 0, 0), (49, none, .iinc 6 1, 3, [], 1, 0), (52, none, .goto (-49), 3, [3], 0, 0), (55, none, .iconst 1, 1, [], 1, 0), (56, none, .ireturn, 1, [], 0, 0)]
def k_X0_hearingOf : List EN := [(0, none, .aload_n 0, 1, [], 0, 0), (1, none, .getfield 22, 3, [0, 3, 2], 0, 0), (4, none, .aload_n 1, 1, [], 0, 0), (5, none, .iload_n 2, 1, [], 0, 0), (6, none, .iload 4, 2, [], 0, 0), (8, none, .bipush 100, 2, [], 100, 0), (10, none, .idiv, 1, [], 0, 0), (11, none, .iload 4, 2, [], 0, 0), (13, none, .bipush 100, 2, [], 100, 0), (15, none, .irem, 1, [], 0, 0), (16, none, .aload_n 3, 1, [], 0, 0), (17, none, .invokevirtual 56, 3, [1, 8, 5, 1, 1], 0, 0), (20, none, .ireturn, 1, [], 0, 0)]
def k_X0_mostLeft : List EN := [(0, none, .iconst 0, 1, [], 0, 0), (1, none, .istore 4, 2, [], 0, 0), (3, some [0, 1, 2, 3, 4], .iload 4, 2, [], 0, 0), (5, none, .sipush 1998, 3, [], 1998, 0), (8, none, .if_icmp .gt 17, 3, [25], 0, 0), (11, none, .aload_n 0, 1, [], 0, 0), (12, none, .getfield 19, 3, [0, 2, 2], 0, 0), (15, none, .iload 4, 2, [], 0, 0), (17, none, .iconst 0, 1, [], 0, 0), (18, none, .iastore, 1, [], 0, 0), (19, none, .iinc 4 1, 3, [], 1, 0), (22, none, .goto (-19), 3, [3], 0, 0), (25, none, .iconst 0, 1, [], 0, 0), (26, none, .istore 4, 2, [], 0, 0), (28, none, .iconst 0, 1, [], 0, 0), (29, none, .istore 5, 2, [], 0, 0), (31, some [0, 1, 2, 3, 4, 5], .iload 5, 2, [], 0, 0), (33, none, .aload_n 0, 1, [], 0, 0), (34, none, .getfield 9, 3, [0, 0, 0], 0, 0), (37, none, .if_icmp .ge 54, 3, [91], 0, 0), (40, none, .aload_n 0, 1, [], 0, 0), (41, none, .aload_n 1, 1, [], 0, 0), (42, none, .iload_n 2, 1, [], 0, 0), (43, none, .aload_n 3, 1, [], 0, 0), (44, none, .aload_n 0, 1, [], 0, 0), (45, none, .getfield 15, 3, [0, 1, 2], 0, 0), (48, none, .iload 5, 2, [], 0, 0), (50, none, .iaload, 1, [], 0, 0), (51, none, .invokevirtual 43, 3, [1, 3, 4, 1, 0], 0, 0), (54, some [0, 1, 2, 3, 4, 5], .sipush 999, 3, [], 999, 0), (57, none, .iadd, 1, [], 0, 0), (58, none, .istore 6, 2, [], 0, 0), (60, none, .aload_n 0, 1, [], 0, 0), (61, none, .getfield 19, 3, [0, 2, 2], 0, 0), (64, none, .iload 6, 2, [], 0, 0), (66, none, .dup2, 1, [], 0, 0), (67, none, .iaload, 1, [], 0, 0), (68, none, .iconst 1, 1, [], 1, 0), (69, none, .iadd, 1, [], 0, 0), (70, none, .iastore, 1, [], 0, 0), (71, none, .iload 4, 2, [], 0, 0), (73, none, .aload_n 0, 1, [], 0, 0), (74, none, .getfield 19, 3, [0, 2, 2], 0, 0), (77, none, .iload 6, 2, [], 0, 0), (79, none, .iaload, 1, [], 0, 0), (80, none, .invokestatic 62, 3, [2, 0], 0, 0), (83, none, .istore 4, 2, [], 0, 0), (85, none, .iinc 5 1, 3, [], 1, 0), (88, none, .goto (-57), 3, [31], 0, 0), (91, none, .iload 4, 2, [], 0, 0), (93, none, .ireturn, 1, [], 0, 0)]
def k_X1_init : List EN := [(0, none, .aload_n 0, 1, [], 0, 0), (1, none, .invokespecial 3, 3, [2, 8], 0, 0), (4, none, .aload_n 0, 1, [], 0, 0), (5, none, .bipush 9, 2, [], 9, 0), (7, none, .newarray .int, 2, [0], 0, 0), (9, none, .putfield 9, 3, [1, 0, 2], 0, 0), (12, none, .aload_n 0, 1, [], 0, 0), (13, none, .bipush 64, 2, [], 64, 0), (15, none, .newarray .int, 2, [0], 0, 0), (17, none, .putfield 15, 3, [1, 1, 2], 0, 0), (20, none, .aload_n 0, 1, [], 0, 0), (21, none, .iconst 0, 1, [], 0, 0), (22, none, .putfield 18, 3, [1, 2, 0], 0, 0), (25, none, .return_, 1, [], 0, 0)]
def k_X1_pass : List EN := [(0, none, .iload_n 3, 1, [], 0, 0), (1, none, .ifCond .eq 7, 3, [8], 0, 0), (4, none, .aload_n 1, 1, [], 0, 0), (5, none, .invokevirtual 22, 3, [1, 67, 0, 0, 5], 0, 0), (8, none, .iconst 0, 1, [], 0, 0), (9, none, .istore 4, 2, [], 0, 0), (11, none, .iconst 0, 1, [], 0, 0), (12, none, .istore 5, 2, [], 0, 0), (14, some [0, 1, 2, 3, 4, 5], .iload 5, 2, [], 0, 0), (16, none, .aload_n 1, 1, [], 0, 0), (17, none, .getfield 27, 3, [5, 0, 0], 0, 0), (20, none, .if_icmp .ge 77, 3, [97], 0, 0), (23, none, .aload_n 1, 1, [], 0, 0), (24, none, .iload 5, 2, [], 0, 0), (26, none, .invokevirtual 30, 3, [1, 60, 1, 1, 5], 0, 0), (29, some [0, 1, 2, 3, 4, 5], .ifCond .eq 6, 3, [35], 0, 0), (32, none, .goto 59, 3, [91], 0, 0), (35, none, .aload_n 1, 1, [], 0, 0), (36, none, .getfield 34, 3, [5, 9, 2], 0, 0), (39, none, .iload 5, 2, [], 0, 0), (41, none, .iaload, 1, [], 0, 0), (42, none, .istore 6, 2, [], 0, 0), (44, none, .aload_n 1, 1, [], 0, 0), (45, none, .getfield 37, 3, [5, 6, 2], 0, 0), (48, none, .iload 6, 2, [], 0, 0), (50, none, .iaload, 1, [], 0, 0), (51, none, .istore 7, 2, [], 0, 0), (53, none, .aload_n 0, 1, [], 0, 0), (54, none, .aload_n 1, 1, [], 0, 0), (55, none, .iload 6, 2, [], 0, 0), (57, none, .aload_n 2, 1, [], 0, 0), (58, none, .invokevirtual 40, 3, [1, 7, 3, 1, 1], 0, 0), (61, some [0, 1, 2, 3, 4, 5, 6, 7], .istore 8, 2, [], 0, 0), (63, none, .aload_n 1, 1, [], 0, 0), (64, none, .getfield 37, 3, [5, 6, 2], 0, 0), (67, none, .iload 6, 2, [], 0, 0), (69, none, .iload 8, 2, [], 0, 0), (71, none, .iastore, 1, [], 0, 0), (72, none, .iload 8, 2, [], 0, 0), (74, none, .ifCond .ne 17, 3, [91], 0, 0), (77, none, .iload 7, 2, [], 0, 0), (79, none, .ifCond .eq 12, 3, [91], 0, 0), (82, none, .aload_n 1, 1, [], 0, 0), (83, none, .iload 6, 2, [], 0, 0), (85, none, .invokevirtual 44, 3, [1, 68, 1, 0, 5], 0, 0), (88, none, .iinc 4 1, 3, [], 1, 0), (91, none, .iinc 5 1, 3, [], 1, 0), (94, none, .goto (-80), 3, [14], 0, 0), (97, none, .iload_n 3, 1, [], 0, 0), (98, none, .ifCond .eq 13, 3, [111], 0, 0), (101, none, .aload_n 1, 1, [], 0, 0), (102, none, .dup, 1, [], 0, 0), (103, none, .getfield 48, 3, [5, 3, 0], 0, 0), (106, none, .iconst 1, 1, [], 1, 0), (107, none, .iadd, 1, [], 0, 0), (108, none, .putfield 48, 3, [5, 3, 0], 0, 0), (111, none, .iload 4, 2, [], 0, 0), (113, none, .ireturn, 1, [], 0, 0)]
def k_X1_leaning : List EN := [(0, none, .aload_n 3, 1, [], 0, 0), (1, none, .ifnull 11, 3, [12], 0, 0), (4, none, .aload_n 3, 1, [], 0, 0), (5, none, .getfield 51, 3, [7, 2, 0], 0, 0), (8, none, .iconst (-1), 1, [], (-1), 0), (9, none, .if_icmp .ne 17, 3, [26], 0, 0), (12, none, .aload_n 1, 1, [], 0, 0), (13, none, .getfield 37, 3, [5, 6, 2], 0, 0), (16, none, .iload_n 2, 1, [], 0, 0), (17, none, .iaload, 1, [], 0, 0), (18, none, .aload_n 1, 1, [], 0, 0), (19, none, .getfield 56, 3, [5, 2, 0], 0, 0), (22, none, .invokestatic 59, 3, [0, 14, 2, 1], 0, 0), (25, none, .ireturn, 1, [], 0, 0), (26, none, .aload_n 1, 1, [], 0, 0), (27, none, .iload_n 2, 1, [], 0, 0), (28, none, .invokevirtual 63, 3, [1, 59, 1, 1, 5], 0, 0), (31, some [0, 1, 2, 3], .istore 4, 2, [], 0, 0), (33, none, .aload_n 0, 1, [], 0, 0), (34, none, .aload_n 1, 1, [], 0, 0), (35, none, .iload_n 2, 1, [], 0, 0), (36, none, .invokevirtual 67, 3, [1, 9, 2, 0, 1], 0, 0), (39, some [0, 1, 3, 4], .aload_n 0, 1, [], 0, 0), (40, none, .getfield 9, 3, [1, 0, 2], 0, 0), (43, none, .iconst 5, 1, [], 5, 0), (44, none, .aload_n 1, 1, [], 0, 0), (45, none, .iload 4, 2, [], 0, 0), (47, none, .iconst 1, 1, [], 1, 0), (48, none, .isub, 1, [], 0, 0), (49, none, .invokevirtual 71, 3, [1, 58, 1, 1, 5], 0, 0), (52, some [0, 1, 3, 4], .iastore, 1, [], 0, 0), (53, none, .aload_n 0, 1, [], 0, 0), (54, none, .getfield 9, 3, [1, 0, 2], 0, 0), (57, none, .bipush 6, 2, [], 6, 0), (59, none, .aload_n 1, 1, [], 0, 0), (60, none, .iload 4, 2, [], 0, 0), (62, none, .iconst 1, 1, [], 1, 0), (63, none, .iadd, 1, [], 0, 0), (64, none, .invokevirtual 71, 3, [1, 58, 1, 1, 5], 0, 0), (67, some [0, 1, 3], .iastore, 1, [], 0, 0), (68, none, .aload_n 0, 1, [], 0, 0), (69, none, .aload_n 1, 1, [], 0, 0), (70, none, .aload_n 3, 1, [], 0, 0), (71, none, .aload_n 3, 1, [], 0, 0), (72, none, .getfield 51, 3, [7, 2, 0], 0, 0), (75, none, .invokevirtual 74, 3, [1, 10, 3, 1, 1], 0, 0), (78, none, .bipush 9, 2, [], 9, 0), (80, none, .invokestatic 78, 3, [0, 148, 2, 1], 0, 0), (83, none, .ireturn, 1, [], 0, 0)]
def k_X1_hearing : List EN := [(0, none, .aload 5, 2, [], 0, 0), (2, none, .ifnull 12, 3, [14], 0, 0), (5, none, .aload 5, 2, [], 0, 0), (7, none, .getfield 81, 3, [7, 3, 0], 0, 0), (10, none, .iconst (-1), 1, [], (-1), 0), (11, none, .if_icmp .ne 20, 3, [31], 0, 0), (14, none, .iload 4, 2, [], 0, 0), (16, none, .aload_n 1, 1, [], 0, 0), (17, none, .getfield 37, 3, [5, 6, 2], 0, 0), (20, none, .iload_n 3, 1, [], 0, 0), (21, none, .iaload, 1, [], 0, 0), (22, none, .iadd, 1, [], 0, 0), (23, none, .aload_n 1, 1, [], 0, 0), (24, none, .getfield 37, 3, [5, 6, 2], 0, 0), (27, none, .iload_n 2, 1, [], 0, 0), (28, none, .iaload, 1, [], 0, 0), (29, none, .isub, 1, [], 0, 0), (30, none, .ireturn, 1, [], 0, 0), (31, none, .aload_n 0, 1, [], 0, 0), (32, none, .aload_n 1, 1, [], 0, 0), (33, none, .iload_n 2, 1, [], 0, 0), (34, none, .invokevirtual 67, 3, [1, 9, 2, 0, 1], 0, 0), (37, some [0, 1, 3, 4, 5], .aload_n 0, 1, [], 0, 0), (38, none, .getfield 9, 3, [1, 0, 2], 0, 0), (41, none, .bipush 7, 2, [], 7, 0), (43, none, .iload 4, 2, [], 0, 0), (45, none, .iastore, 1, [], 0, 0), (46, none, .aload_n 0, 1, [], 0, 0), (47, none, .getfield 9, 3, [1, 0, 2], 0, 0), (50, none, .bipush 8, 2, [], 8, 0), (52, none, .aload_n 1, 1, [], 0, 0), (53, none, .getfield 37, 3, [5, 6, 2], 0, 0), (56, none, .iload_n 3, 1, [], 0, 0), (57, none, .iaload, 1, [], 0, 0), (58, none, .iastore, 1, [], 0, 0), (59, none, .aload_n 0, 1, [], 0, 0), (60, none, .aload_n 1, 1, [], 0, 0), (61, none, .aload 5, 2, [], 0, 0), (63, none, .aload 5, 2, [], 0, 0), (65, none, .getfield 81, 3, [7, 3, 0], 0, 0), (68, none, .invokevirtual 74, 3, [1, 10, 3, 1, 1], 0, 0), (71, none, .sipush 999, 3, [], 999, 0), (74, none, .invokestatic 78, 3, [0, 148, 2, 1], 0, 0), (77, none, .ireturn, 1, [], 0, 0)]
def k_X1_setNames : List EN := [(0, none, .aload_n 0, 1, [], 0, 0), (1, none, .getfield 9, 3, [1, 0, 2], 0, 0), (4, none, .iconst 0, 1, [], 0, 0), (5, none, .aload_n 1, 1, [], 0, 0), (6, none, .getfield 48, 3, [5, 3, 0], 0, 0), (9, none, .iastore, 1, [], 0, 0), (10, none, .aload_n 0, 1, [], 0, 0), (11, none, .getfield 9, 3, [1, 0, 2], 0, 0), (14, none, .iconst 1, 1, [], 1, 0), (15, none, .aload_n 1, 1, [], 0, 0), (16, none, .getfield 56, 3, [5, 2, 0], 0, 0), (19, none, .iastore, 1, [], 0, 0), (20, none, .aload_n 0, 1, [], 0, 0), (21, none, .getfield 9, 3, [1, 0, 2], 0, 0), (24, none, .iconst 2, 1, [], 2, 0), (25, none, .aload_n 1, 1, [], 0, 0), (26, none, .getfield 84, 3, [5, 7, 2], 0, 0), (29, none, .iload_n 2, 1, [], 0, 0), (30, none, .iaload, 1, [], 0, 0), (31, none, .iastore, 1, [], 0, 0), (32, none, .aload_n 0, 1, [], 0, 0), (33, none, .getfield 9, 3, [1, 0, 2], 0, 0), (36, none, .iconst 3, 1, [], 3, 0), (37, none, .iload_n 2, 1, [], 0, 0), (38, none, .iastore, 1, [], 0, 0), (39, none, .aload_n 0, 1, [], 0, 0), (40, none, .getfield 9, 3, [1, 0, 2], 0, 0), (43, none, .iconst 4, 1, [], 4, 0), (44, none, .aload_n 1, 1, [], 0, 0), (45, none, .getfield 37, 3, [5, 6, 2], 0, 0), (48, none, .iload_n 2, 1, [], 0, 0), (49, none, .iaload, 1, [], 0, 0), (50, none, .iastore, 1, [], 0, 0), (51, none, .return_, 1, [], 0, 0)]
def k_X1_reckon : List EN := [(0, none, .aload_n 0, 1, [], 0, 0), (1, none, .iconst 0, 1, [], 0, 0), (2, none, .putfield 18, 3, [1, 2, 0], 0, 0), (5, none, .iload_n 3, 1, [], 0, 0), (6, none, .istore 4, 2, [], 0, 0), (8, none, .iconst 0, 1, [], 0, 0), (9, none, .istore 5, 2, [], 0, 0), (11, some [0, 1, 2, 4, 5], .iload 5, 2, [], 0, 0), (13, none, .sipush 300, 3, [], 300, 0), (16, none, .if_icmp .ge 199, 3, [215], 0, 0), (19, none, .aload_n 2, 1, [], 0, 0), (20, none, .iload 4, 2, [], 0, 0), (22, none, .invokevirtual 87, 3, [1, 88, 1, 1, 7], 0, 0), (25, some [0, 1, 2, 4, 5], .istore 6, 2, [], 0, 0), (27, none, .iinc 4 1, 3, [], 1, 0), (30, none, .iload 6, 2, [], 0, 0), (32, none, .ifCond .ne 6, 3, [38], 0, 0), (35, none, .goto 180, 3, [215], 0, 0), (38, none, .iload 6, 2, [], 0, 0), (40, none, .bipush 64, 2, [], 64, 0), (42, none, .if_icmp .lt 15, 3, [57], 0, 0), (45, none, .aload_n 0, 1, [], 0, 0), (46, none, .iload 6, 2, [], 0, 0), (48, none, .bipush 64, 2, [], 64, 0), (50, none, .isub, 1, [], 0, 0), (51, none, .invokevirtual 90, 3, [1, 11, 1, 0, 1], 0, 0), (54, none, .goto 155, 3, [209], 0, 0), (57, none, .iload 6, 2, [], 0, 0), (59, none, .bipush 32, 2, [], 32, 0), (61, none, .if_icmp .lt 34, 3, [95], 0, 0), (64, none, .aload_n 0, 1, [], 0, 0), (65, none, .iload 6, 2, [], 0, 0), (67, none, .bipush 32, 2, [], 32, 0), (69, none, .isub, 1, [], 0, 0), (70, none, .bipush 9, 2, [], 9, 0), (72, none, .if_icmp .ge 16, 3, [88], 0, 0), (75, none, .aload_n 0, 1, [], 0, 0), (76, none, .getfield 9, 3, [1, 0, 2], 0, 0), (79, none, .iload 6, 2, [], 0, 0), (81, none, .bipush 32, 2, [], 32, 0), (83, none, .isub, 1, [], 0, 0), (84, none, .iaload, 1, [], 0, 0), (85, none, .goto 4, 3, [89], 0, 0), (88, none, .iconst 0, 1, [], 0, 0), (89, none, .invokevirtual 90, 3, [1, 11, 1, 0, 1], 0, 0), (92, none, .goto 117, 3, [209], 0, 0), (95, none, .iload 6, 2, [], 0, 0), (97, none, .bipush 17, 2, [], 17, 0), (99, none, .if_icmp .ne 14, 3, [113], 0, 0), (102, none, .aload_n 2, 1, [], 0, 0), (103, none, .iload 4, 2, [], 0, 0), (105, none, .invokevirtual 87, 3, [1, 88, 1, 1, 7], 0, 0), (108, none, .istore 4, 2, [], 0, 0), (110, none, .goto 99, 3, [209], 0, 0), (113, none, .iload 6, 2, [], 0, 0), (115, none, .bipush 18, 2, [], 18, 0), (117, none, .if_icmp .ne 28, 3, [145], 0, 0), (120, none, .aload_n 0, 1, [], 0, 0), (121, none, .invokevirtual 93, 3, [1, 12, 0, 1, 1], 0, 0), (124, some [0, 1, 2, 4, 5], .ifCond .ne 12, 3, [136], 0, 0), (127, none, .aload_n 2, 1, [], 0, 0), (128, none, .iload 4, 2, [], 0, 0), (130, none, .invokevirtual 87, 3, [1, 88, 1, 1, 7], 0, 0), (133, none, .goto 7, 3, [140], 0, 0), (136, none, .iload 4, 2, [], 0, 0), (138, none, .iconst 1, 1, [], 1, 0), (139, none, .iadd, 1, [], 0, 0), (140, none, .istore 4, 2, [], 0, 0), (142, none, .goto 67, 3, [209], 0, 0), (145, none, .iload 6, 2, [], 0, 0), (147, none, .bipush 7, 2, [], 7, 0), (149, none, .if_icmp .ne 18, 3, [167], 0, 0), (152, none, .aload_n 0, 1, [], 0, 0), (153, none, .aload_n 1, 1, [], 0, 0), (154, none, .aload_n 0, 1, [], 0, 0), (155, none, .invokevirtual 93, 3, [1, 12, 0, 1, 1], 0, 0), (158, some [0, 1, 2, 4, 5], .invokevirtual 71, 3, [1, 58, 1, 1, 5], 0, 0), (161, some [0, 1, 2, 4, 5], .invokevirtual 90, 3, [1, 11, 1, 0, 1], 0, 0), (164, none, .goto 45, 3, [209], 0, 0), (167, none, .aload_n 0, 1, [], 0, 0), (168, none, .invokevirtual 93, 3, [1, 12, 0, 1, 1], 0, 0), (171, some [0, 1, 2, 4, 5, 6], .istore 7, 2, [], 0, 0), (173, none, .iload 6, 2, [], 0, 0), (175, none, .iconst 5, 1, [], 5, 0), (176, none, .if_icmp .eq 10, 3, [186], 0, 0), (179, none, .iload 6, 2, [], 0, 0), (181, none, .bipush 14, 2, [], 14, 0), (183, none, .if_icmp .ne 7, 3, [190], 0, 0), (186, none, .iconst 0, 1, [], 0, 0), (187, none, .goto 7, 3, [194], 0, 0), (190, none, .aload_n 0, 1, [], 0, 0), (191, none, .invokevirtual 93, 3, [1, 12, 0, 1, 1], 0, 0), (194, none, .istore 8, 2, [], 0, 0), (196, none, .aload_n 0, 1, [], 0, 0), (197, none, .iload 6, 2, [], 0, 0), (199, none, .iload 8, 2, [], 0, 0), (201, none, .iload 7, 2, [], 0, 0), (203, none, .invokestatic 97, 3, [0, 13, 3, 1], 0, 0), (206, some [0, 1, 2, 4, 5], .invokevirtual 90, 3, [1, 11, 1, 0, 1], 0, 0), (209, none, .iinc 5 1, 3, [], 1, 0), (212, none, .goto (-201), 3, [11], 0, 0), (215, none, .aload_n 0, 1, [], 0, 0), (216, none, .invokevirtual 93, 3, [1, 12, 0, 1, 1], 0, 0), (219, none, .ireturn, 1, [], 0, 0)]
def k_X1_push : List EN := [(0, none, .aload_n 0, 1, [], 0, 0), (1, none, .getfield 18, 3, [1, 2, 0], 0, 0), (4, none, .bipush 64, 2, [], 64, 0), (6, none, .if_icmp .ge 23, 3, [29], 0, 0), (9, none, .aload_n 0, 1, [], 0, 0), (10, none, .getfield 15, 3, [1, 1, 2], 0, 0), (13, none, .aload_n 0, 1, [], 0, 0), (14, none, .getfield 18, 3, [1, 2, 0], 0, 0), (17, none, .iload_n 1, 1, [], 0, 0), (18, none, .iastore, 1, [], 0, 0), (19, none, .aload_n 0, 1, [], 0, 0), (20, none, .dup, 1, [], 0, 0), (21, none, .getfield 18, 3, [1, 2, 0], 0, 0), (24, none, .iconst 1, 1, [], 1, 0), (25, none, .iadd, 1, [], 0, 0), (26, none, .putfield 18, 3, [1, 2, 0], 0, 0), (29, none, .return_, 1, [], 0, 0)]
def k_X1_pop : List EN := [(0, none, .aload_n 0, 1, [], 0, 0), (1, none, .getfield 18, 3, [1, 2, 0], 0, 0), (4, none, .ifCond .ne 5, 3, [9], 0, 0), (7, none, .iconst 0, 1, [], 0, 0), (8, none, .ireturn, 1, [], 0, 0), (9, none, .aload_n 0, 1, [], 0, 0), (10, none, .dup, 1, [], 0, 0), (11, none, .getfield 18, 3, [1, 2, 0], 0, 0), (14, none, .iconst 1, 1, [], 1, 0), (15, none, .isub, 1, [], 0, 0), (16, none, .putfield 18, 3, [1, 2, 0], 0, 0), (19, none, .aload_n 0, 1, [], 0, 0), (20, none, .getfield 15, 3, [1, 1, 2], 0, 0), (23, none, .aload_n 0, 1, [], 0, 0), (24, none, .getfield 18, 3, [1, 2, 0], 0, 0), (27, none, .iaload, 1, [], 0, 0), (28, none, .ireturn, 1, [], 0, 0)]
def k_X1_joined : List EN := [(0, none, .iload_n 0, 1, [], 0, 0), (1, none, .tableswitch 217 1 16 #[79, 88, 97, 118, 130, 133, 217, 139, 150, 161, 172, 183, 194, 205, 209, 213], 79, [218, 1, 80, 89, 98, 119, 131, 134, 218, 140, 151, 162, 173, 184, 195, 206, 210, 214], 0, 0), (80, none, .iload_n 1, 1, [], 0, 0), (81, none, .iload_n 2, 1, [], 0, 0), (82, none, .iadd, 1, [], 0, 0), (83, none, .ldc 101, 2, [], 1000000, 0), (85, none, .invokestatic 78, 3, [0, 148, 2, 1], 0, 0), (88, none, .ireturn, 1, [], 0, 0), (89, none, .iload_n 1, 1, [], 0, 0), (90, none, .iload_n 2, 1, [], 0, 0), (91, none, .isub, 1, [], 0, 0), (92, none, .ldc 101, 2, [], 1000000, 0), (94, none, .invokestatic 78, 3, [0, 148, 2, 1], 0, 0), (97, none, .ireturn, 1, [], 0, 0), (98, none, .iload_n 1, 1, [], 0, 0), (99, none, .i2l, 1, [], 0, 0), (100, none, .iload_n 2, 1, [], 0, 0), (101, none, .i2l, 1, [], 0, 0), (102, none, .lmul, 1, [], 0, 0), (103, none, .lstore_n 3, 1, [], 0, 0), (104, none, .ldc2_w 102, 3, [], 0, (-1000000)), (107, none, .ldc2_w 104, 3, [], 0, 1000000), (110, none, .lload_n 3, 1, [], 0, 0), (111, none, .invokestatic 106, 3, [2, 10], 0, 0), (114, none, .invokestatic 112, 3, [2, 9], 0, 0), (117, none, .l2i, 1, [], 0, 0), (118, none, .ireturn, 1, [], 0, 0), (119, none, .iload_n 2, 1, [], 0, 0), (120, none, .ifCond .ne 7, 3, [127], 0, 0), (123, none, .iconst 0, 1, [], 0, 0), (124, none, .goto 6, 3, [130], 0, 0), (127, none, .iload_n 1, 1, [], 0, 0), (128, none, .iload_n 2, 1, [], 0, 0), (129, none, .idiv, 1, [], 0, 0), (130, none, .ireturn, 1, [], 0, 0), (131, none, .iload_n 2, 1, [], 0, 0), (132, none, .ineg, 1, [], 0, 0), (133, none, .ireturn, 1, [], 0, 0), (134, none, .iload_n 1, 1, [], 0, 0), (135, none, .iload_n 2, 1, [], 0, 0), (136, none, .invokestatic 59, 3, [0, 14, 2, 1], 0, 0), (139, none, .ireturn, 1, [], 0, 0), (140, none, .iload_n 1, 1, [], 0, 0), (141, none, .iload_n 2, 1, [], 0, 0), (142, none, .if_icmp .ge 7, 3, [149], 0, 0), (145, none, .iconst 1, 1, [], 1, 0), (146, none, .goto 4, 3, [150], 0, 0), (149, none, .iconst 0, 1, [], 0, 0), (150, none, .ireturn, 1, [], 0, 0), (151, none, .iload_n 1, 1, [], 0, 0), (152, none, .iload_n 2, 1, [], 0, 0), (153, none, .if_icmp .gt 7, 3, [160], 0, 0), (156, none, .iconst 1, 1, [], 1, 0), (157, none, .goto 4, 3, [161], 0, 0), (160, none, .iconst 0, 1, [], 0, 0), (161, none, .ireturn, 1, [], 0, 0), (162, none, .iload_n 1, 1, [], 0, 0), (163, none, .iload_n 2, 1, [], 0, 0), (164, none, .if_icmp .le 7, 3, [171], 0, 0), (167, none, .iconst 1, 1, [], 1, 0), (168, none, .goto 4, 3, [172], 0, 0), (171, none, .iconst 0, 1, [], 0, 0), (172, none, .ireturn, 1, [], 0, 0), (173, none, .iload_n 1, 1, [], 0, 0), (174, none, .iload_n 2, 1, [], 0, 0), (175, none, .if_icmp .lt 7, 3, [182], 0, 0), (178, none, .iconst 1, 1, [], 1, 0), (179, none, .goto 4, 3, [183], 0, 0), (182, none, .iconst 0, 1, [], 0, 0), (183, none, .ireturn, 1, [], 0, 0), (184, none, .iload_n 1, 1, [], 0, 0), (185, none, .iload_n 2, 1, [], 0, 0), (186, none, .if_icmp .ne 7, 3, [193], 0, 0), (189, none, .iconst 1, 1, [], 1, 0), (190, none, .goto 4, 3, [194], 0, 0), (193, none, .iconst 0, 1, [], 0, 0), (194, none, .ireturn, 1, [], 0, 0), (195, none, .iload_n 1, 1, [], 0, 0), (196, none, .iload_n 2, 1, [], 0, 0), (197, none, .if_icmp .eq 7, 3, [204], 0, 0), (200, none, .iconst 1, 1, [], 1, 0), (201, none, .goto 4, 3, [205], 0, 0), (204, none, .iconst 0, 1, [], 0, 0), (205, none, .ireturn, 1, [], 0, 0), (206, none, .iconst 1, 1, [], 1, 0), (207, none, .iload_n 2, 1, [], 0, 0), (208, none, .isub, 1, [], 0, 0), (209, none, .ireturn, 1, [], 0, 0), (210, none, .iload_n 1, 1, [], 0, 0), (211, none, .iload_n 2, 1, [], 0, 0), (212, none, .iand, 1, [], 0, 0), (213, none, .ireturn, 1, [], 0, 0), (214, none, .iload_n 1, 1, [], 0, 0), (215, none, .iload_n 2, 1, [], 0, 0), (216, none, .ior, 1, [], 0, 0), (217, none, .ireturn, 1, [], 0, 0), (218, none, .iconst 0, 1, [], 0, 0), (219, none, .ireturn, 1, [], 0, 0)]
def k_X1_stepTo : List EN := [(0, none, .iload_n 0, 1, [], 0, 0), (1, none, .iload_n 1, 1, [], 0, 0), (2, none, .if_icmp .ge 7, 3, [9], 0, 0), (5, none, .iload_n 0, 1, [], 0, 0), (6, none, .iconst 1, 1, [], 1, 0), (7, none, .iadd, 1, [], 0, 0), (8, none, .ireturn, 1, [], 0, 0), (9, none, .iload_n 0, 1, [], 0, 0), (10, none, .iload_n 1, 1, [], 0, 0), (11, none, .if_icmp .le 9, 3, [20], 0, 0), (14, none, .iload_n 0, 1, [], 0, 0), (15, none, .iconst 1, 1, [], 1, 0), (16, none, .isub, 1, [], 0, 0), (17, none, .goto 4, 3, [21], 0, 0), (20, none, .iload_n 0, 1, [], 0, 0), (21, none, .ireturn, 1, [], 0, 0)]
def k_X2_init : List EN := [(0, none, .aload_n 0, 1, [], 0, 0), (1, none, .invokespecial 3, 3, [2, 8], 0, 0), (4, none, .aload_n 0, 1, [], 0, 0), (5, none, .bipush 19, 2, [], 19, 0), (7, none, .newarray .long, 2, [2], 0, 0), (9, none, .putfield 9, 3, [2, 0, 2], 0, 0), (12, none, .aload_n 0, 1, [], 0, 0), (13, none, .bipush 19, 2, [], 19, 0), (15, none, .newarray .long, 2, [2], 0, 0), (17, none, .putfield 15, 3, [2, 1, 2], 0, 0), (20, none, .return_, 1, [], 0, 0)]
def k_X2_spreadOut : List EN := [(0, none, .iconst 0, 1, [], 0, 0), (1, none, .istore 4, 2, [], 0, 0), (3, some [0, 1, 2, 3, 4], .iload 4, 2, [], 0, 0), (5, none, .bipush 19, 2, [], 19, 0), (7, none, .if_icmp .ge 30, 3, [37], 0, 0), (10, none, .aload_n 0, 1, [], 0, 0), (11, none, .getfield 9, 3, [2, 0, 2], 0, 0), (14, none, .iload 4, 2, [], 0, 0), (16, none, .iload 4, 2, [], 0, 0), (18, none, .iload_n 1, 1, [], 0, 0), (19, none, .bipush 9, 2, [], 9, 0), (21, none, .iadd, 1, [], 0, 0), (22, none, .if_icmp .ne 7, 3, [29], 0, 0), (25, none, .lconst 1, 1, [], 0, 1), (26, none, .goto 4, 3, [30], 0, 0), (29, none, .lconst 0, 1, [], 0, 0), (30, none, .lastore, 1, [], 0, 0), (31, none, .iinc 4 1, 3, [], 1, 0), (34, none, .goto (-31), 3, [3], 0, 0), (37, none, .iconst 0, 1, [], 0, 0), (38, none, .istore 4, 2, [], 0, 0), (40, some [0, 2, 3, 4], .iload 4, 2, [], 0, 0), (42, none, .iload_n 2, 1, [], 0, 0), (43, none, .if_icmp .ge 95, 3, [138], 0, 0), (46, none, .iload_n 3, 1, [], 0, 0), (47, none, .ifCond .eq 11, 3, [58], 0, 0), (50, none, .aload_n 0, 1, [], 0, 0), (51, none, .getfield 9, 3, [2, 0, 2], 0, 0), (54, none, .bipush 9, 2, [], 9, 0), (56, none, .lconst 0, 1, [], 0, 0), (57, none, .lastore, 1, [], 0, 0), (58, none, .aload_n 0, 1, [], 0, 0), (59, none, .getfield 9, 3, [2, 0, 2], 0, 0), (62, none, .iconst 0, 1, [], 0, 0), (63, none, .aload_n 0, 1, [], 0, 0), (64, none, .getfield 15, 3, [2, 1, 2], 0, 0), (67, none, .iconst 0, 1, [], 0, 0), (68, none, .bipush 19, 2, [], 19, 0), (70, none, .invokestatic 18, 3, [2, 5], 0, 0), (73, none, .iconst 0, 1, [], 0, 0), (74, none, .istore 5, 2, [], 0, 0), (76, some [0, 2, 3, 4, 5], .iload 5, 2, [], 0, 0), (78, none, .bipush 19, 2, [], 19, 0), (80, none, .if_icmp .ge 52, 3, [132], 0, 0), (83, none, .aload_n 0, 1, [], 0, 0), (84, none, .getfield 9, 3, [2, 0, 2], 0, 0), (87, none, .iload 5, 2, [], 0, 0), (89, none, .aload_n 0, 1, [], 0, 0), (90, none, .getfield 15, 3, [2, 1, 2], 0, 0), (93, none, .iconst 0, 1, [], 0, 0), (94, none, .iload 5, 2, [], 0, 0), (96, none, .iconst 1, 1, [], 1, 0), (97, none, .isub, 1, [], 0, 0), (98, none, .invokestatic 24, 3, [2, 0], 0, 0), (101, none, .laload, 1, [], 0, 0), (102, none, .aload_n 0, 1, [], 0, 0), (103, none, .getfield 15, 3, [2, 1, 2], 0, 0), (106, none, .iload 5, 2, [], 0, 0), (108, none, .laload, 1, [], 0, 0), (109, none, .ladd, 1, [], 0, 0), (110, none, .aload_n 0, 1, [], 0, 0), (111, none, .getfield 15, 3, [2, 1, 2], 0, 0), (114, none, .bipush 18, 2, [], 18, 0), (116, none, .iload 5, 2, [], 0, 0), (118, none, .iconst 1, 1, [], 1, 0), (119, none, .iadd, 1, [], 0, 0), (120, none, .invokestatic 30, 3, [2, 1], 0, 0), (123, none, .laload, 1, [], 0, 0), (124, none, .ladd, 1, [], 0, 0), (125, none, .lastore, 1, [], 0, 0), (126, none, .iinc 5 1, 3, [], 1, 0), (129, none, .goto (-53), 3, [76], 0, 0), (132, none, .iinc 4 1, 3, [], 1, 0), (135, none, .goto (-95), 3, [40], 0, 0), (138, none, .return_, 1, [], 0, 0)]
def k_X2_share : List EN := [(0, none, .aload_n 0, 1, [], 0, 0), (1, none, .getfield 9, 3, [2, 0, 2], 0, 0), (4, none, .iload_n 2, 1, [], 0, 0), (5, none, .bipush 9, 2, [], 9, 0), (7, none, .iadd, 1, [], 0, 0), (8, none, .laload, 1, [], 0, 0), (9, none, .lstore 4, 2, [], 0, 0), (11, none, .lconst 1, 1, [], 0, 1), (12, none, .lstore 6, 2, [], 0, 0), (14, none, .iconst 0, 1, [], 0, 0), (15, none, .istore 8, 2, [], 0, 0), (17, some [1, 3, 4, 6, 8], .iload 8, 2, [], 0, 0), (19, none, .iload_n 1, 1, [], 0, 0), (20, none, .if_icmp .ge 17, 3, [37], 0, 0), (23, none, .lload 6, 2, [], 0, 0), (25, none, .ldc2_w 33, 3, [], 0, 3), (28, none, .lmul, 1, [], 0, 0), (29, none, .lstore 6, 2, [], 0, 0), (31, none, .iinc 8 1, 3, [], 1, 0), (34, none, .goto (-17), 3, [17], 0, 0), (37, none, .iconst 0, 1, [], 0, 0), (38, none, .istore 8, 2, [], 0, 0), (40, some [1, 3, 4, 6, 8], .iload 8, 2, [], 0, 0), (42, none, .iload_n 1, 1, [], 0, 0), (43, none, .if_icmp .ge 36, 3, [79], 0, 0), (46, none, .lload 4, 2, [], 0, 0), (48, none, .ldc2_w 33, 3, [], 0, 3), (51, none, .lrem, 1, [], 0, 0), (52, none, .lconst 0, 1, [], 0, 0), (53, none, .lcmp, 1, [], 0, 0), (54, none, .ifCond .ne 25, 3, [79], 0, 0), (57, none, .lload 4, 2, [], 0, 0), (59, none, .ldc2_w 33, 3, [], 0, 3), (62, none, .ldiv, 1, [], 0, 0), (63, none, .lstore 4, 2, [], 0, 0), (65, none, .lload 6, 2, [], 0, 0), (67, none, .ldc2_w 33, 3, [], 0, 3), (70, none, .ldiv, 1, [], 0, 0), (71, none, .lstore 6, 2, [], 0, 0), (73, none, .iinc 8 1, 3, [], 1, 0), (76, none, .goto (-36), 3, [40], 0, 0), (79, none, .iload_n 3, 1, [], 0, 0), (80, none, .ifCond .eq 8, 3, [88], 0, 0), (83, none, .lload 6, 2, [], 0, 0), (85, none, .goto 5, 3, [90], 0, 0), (88, none, .lload 4, 2, [], 0, 0), (90, none, .lreturn, 1, [], 0, 0)]
def k_X3_init : List EN := [(0, none, .aload_n 0, 1, [], 0, 0), (1, none, .invokespecial 3, 3, [2, 8], 0, 0), (4, none, .aload_n 0, 1, [], 0, 0), (5, none, .bipush 11, 2, [], 11, 0), (7, none, .newarray .int, 2, [0], 0, 0), (9, none, .putfield 9, 3, [3, 0, 2], 0, 0), (12, none, .aload_n 0, 1, [], 0, 0), (13, none, .bipush 11, 2, [], 11, 0), (15, none, .newarray .int, 2, [0], 0, 0), (17, none, .putfield 15, 3, [3, 1, 2], 0, 0), (20, none, .aload_n 0, 1, [], 0, 0), (21, none, .bipush 11, 2, [], 11, 0), (23, none, .newarray .int, 2, [0], 0, 0), (25, none, .putfield 18, 3, [3, 2, 2], 0, 0), (28, none, .aload_n 0, 1, [], 0, 0), (29, none, .iconst 0, 1, [], 0, 0), (30, none, .putfield 21, 3, [3, 3, 0], 0, 0), (33, none, .return_, 1, [], 0, 0)]
def k_X3_breakLines : List EN := [(0, none, .aload_n 0, 1, [], 0, 0), (1, none, .aload_n 1, 1, [], 0, 0), (2, none, .getfield 25, 3, [8, 3, 0], 0, 0), (5, none, .putfield 21, 3, [3, 3, 0], 0, 0), (8, none, .iconst 0, 1, [], 0, 0), (9, none, .istore_n 3, 1, [], 0, 0), (10, some [0, 1, 2, 3], .iload_n 3, 1, [], 0, 0), (11, none, .aload_n 0, 1, [], 0, 0), (12, none, .getfield 21, 3, [3, 3, 0], 0, 0), (15, none, .if_icmp .ge 21, 3, [36], 0, 0), (18, none, .aload_n 1, 1, [], 0, 0), (19, none, .getfield 28, 3, [8, 7, 2], 0, 0), (22, none, .iload_n 3, 1, [], 0, 0), (23, none, .iaload, 1, [], 0, 0), (24, none, .iload_n 2, 1, [], 0, 0), (25, none, .if_icmp .le 5, 3, [30], 0, 0), (28, none, .iconst 0, 1, [], 0, 0), (29, none, .ireturn, 1, [], 0, 0), (30, none, .iinc 3 1, 3, [], 1, 0), (33, none, .goto (-23), 3, [10], 0, 0), (36, none, .aload_n 0, 1, [], 0, 0), (37, none, .getfield 9, 3, [3, 0, 2], 0, 0), (40, none, .aload_n 0, 1, [], 0, 0), (41, none, .getfield 21, 3, [3, 3, 0], 0, 0), (44, none, .iconst 0, 1, [], 0, 0), (45, none, .iastore, 1, [], 0, 0), (46, none, .aload_n 0, 1, [], 0, 0), (47, none, .getfield 15, 3, [3, 1, 2], 0, 0), (50, none, .aload_n 0, 1, [], 0, 0), (51, none, .getfield 21, 3, [3, 3, 0], 0, 0), (54, none, .iconst 0, 1, [], 0, 0), (55, none, .iastore, 1, [], 0, 0), (56, none, .aload_n 0, 1, [], 0, 0), (57, none, .getfield 21, 3, [3, 3, 0], 0, 0), (60, none, .iconst 1, 1, [], 1, 0), (61, none, .isub, 1, [], 0, 0), (62, none, .istore_n 3, 1, [], 0, 0), (63, some [0, 1, 2, 3], .iload_n 3, 1, [], 0, 0), (64, none, .ifCond .lt 16, 3, [80], 0, 0), (67, none, .aload_n 0, 1, [], 0, 0), (68, none, .aload_n 1, 1, [], 0, 0), (69, none, .iload_n 2, 1, [], 0, 0), (70, none, .iload_n 3, 1, [], 0, 0), (71, none, .invokevirtual 31, 3, [1, 20, 3, 0, 3], 0, 0), (74, none, .iinc 3 (-1), 3, [], (-1), 0), (77, none, .goto (-14), 3, [63], 0, 0), (80, none, .iconst 1, 1, [], 1, 0), (81, none, .ireturn, 1, [], 0, 0)]
def k_X3_chooseLine : List EN := [(0, none, .iload_n 2, 1, [], 0, 0), (1, none, .iconst 1, 1, [], 1, 0), (2, none, .iadd, 1, [], 0, 0), (3, none, .istore 4, 2, [], 0, 0), (5, none, .iload_n 3, 1, [], 0, 0), (6, none, .iconst 1, 1, [], 1, 0), (7, none, .iadd, 1, [], 0, 0), (8, none, .istore 5, 2, [], 0, 0), (10, some [0, 1, 3, 4, 5], .iload 5, 2, [], 0, 0), (12, none, .aload_n 0, 1, [], 0, 0), (13, none, .getfield 21, 3, [3, 3, 0], 0, 0), (16, none, .if_icmp .gt 137, 3, [153], 0, 0), (19, none, .iload 4, 2, [], 0, 0), (21, none, .aload_n 1, 1, [], 0, 0), (22, none, .getfield 28, 3, [8, 7, 2], 0, 0), (25, none, .iload 5, 2, [], 0, 0), (27, none, .iconst 1, 1, [], 1, 0), (28, none, .isub, 1, [], 0, 0), (29, none, .iaload, 1, [], 0, 0), (30, none, .iconst 1, 1, [], 1, 0), (31, none, .iadd, 1, [], 0, 0), (32, none, .isub, 1, [], 0, 0), (33, none, .istore 4, 2, [], 0, 0), (35, none, .iload 4, 2, [], 0, 0), (37, none, .ifCond .ge 6, 3, [43], 0, 0), (40, none, .goto 113, 3, [153], 0, 0), (43, none, .aload_n 0, 1, [], 0, 0), (44, none, .getfield 9, 3, [3, 0, 2], 0, 0), (47, none, .iload 5, 2, [], 0, 0), (49, none, .iaload, 1, [], 0, 0), (50, none, .iload 5, 2, [], 0, 0), (52, none, .aload_n 0, 1, [], 0, 0), (53, none, .getfield 21, 3, [3, 3, 0], 0, 0), (56, none, .if_icmp .ne 7, 3, [63], 0, 0), (59, none, .iconst 0, 1, [], 0, 0), (60, none, .goto 8, 3, [68], 0, 0), (63, none, .iload 4, 2, [], 0, 0), (65, none, .iload 4, 2, [], 0, 0), (67, none, .imul, 1, [], 0, 0), (68, some [0, 1, 3, 4, 5], .iadd, 1, [], 0, 0), (69, none, .istore 6, 2, [], 0, 0), (71, none, .aload_n 0, 1, [], 0, 0), (72, none, .getfield 15, 3, [3, 1, 2], 0, 0), (75, none, .iload 5, 2, [], 0, 0), (77, none, .iaload, 1, [], 0, 0), (78, none, .iconst 1, 1, [], 1, 0), (79, none, .iadd, 1, [], 0, 0), (80, none, .istore 7, 2, [], 0, 0), (82, none, .iload 5, 2, [], 0, 0), (84, none, .iload_n 3, 1, [], 0, 0), (85, none, .iconst 1, 1, [], 1, 0), (86, none, .iadd, 1, [], 0, 0), (87, none, .if_icmp .eq 36, 3, [123], 0, 0), (90, none, .iload 6, 2, [], 0, 0), (92, none, .aload_n 0, 1, [], 0, 0), (93, none, .getfield 9, 3, [3, 0, 2], 0, 0), (96, none, .iload_n 3, 1, [], 0, 0), (97, none, .iaload, 1, [], 0, 0), (98, none, .if_icmp .lt 25, 3, [123], 0, 0), (101, none, .iload 6, 2, [], 0, 0), (103, none, .aload_n 0, 1, [], 0, 0), (104, none, .getfield 9, 3, [3, 0, 2], 0, 0), (107, none, .iload_n 3, 1, [], 0, 0), (108, none, .iaload, 1, [], 0, 0), (109, none, .if_icmp .ne 38, 3, [147], 0, 0), (112, none, .iload 7, 2, [], 0, 0), (114, none, .aload_n 0, 1, [], 0, 0), (115, none, .getfield 15, 3, [3, 1, 2], 0, 0), (118, none, .iload_n 3, 1, [], 0, 0), (119, none, .iaload, 1, [], 0, 0), (120, none, .if_icmp .ge 27, 3, [147], 0, 0), (123, some [0, 1, 3, 4, 5, 6, 7], .aload_n 0, 1, [], 0, 0), (124, none, .getfield 9, 3, [3, 0, 2], 0, 0), (127, none, .iload_n 3, 1, [], 0, 0), (128, none, .iload 6, 2, [], 0, 0), (130, none, .iastore, 1, [], 0, 0), (131, none, .aload_n 0, 1, [], 0, 0), (132, none, .getfield 15, 3, [3, 1, 2], 0, 0), (135, none, .iload_n 3, 1, [], 0, 0), (136, none, .iload 7, 2, [], 0, 0), (138, none, .iastore, 1, [], 0, 0), (139, none, .aload_n 0, 1, [], 0, 0), (140, none, .getfield 18, 3, [3, 2, 2], 0, 0), (143, none, .iload_n 3, 1, [], 0, 0), (144, none, .iload 5, 2, [], 0, 0), (146, none, .iastore, 1, [], 0, 0), (147, none, .iinc 5 1, 3, [], 1, 0), (150, none, .goto (-140), 3, [10], 0, 0), (153, none, .return_, 1, [], 0, 0)]
def k_X3_beginning : List EN := [(0, none, .iload_n 1, 1, [], 0, 0), (1, none, .iconst 0, 1, [], 0, 0), (2, none, .aload_n 0, 1, [], 0, 0), (3, none, .getfield 15, 3, [3, 1, 2], 0, 0), (6, none, .iconst 0, 1, [], 0, 0), (7, none, .iaload, 1, [], 0, 0), (8, none, .iconst 1, 1, [], 1, 0), (9, none, .isub, 1, [], 0, 0), (10, none, .invokestatic 35, 3, [0, 146, 3, 1], 0, 0), (13, none, .ifCond .ne 5, 3, [18], 0, 0), (16, none, .iconst (-1), 1, [], (-1), 0), (17, none, .ireturn, 1, [], 0, 0), (18, none, .iconst 0, 1, [], 0, 0), (19, none, .istore_n 2, 1, [], 0, 0), (20, none, .iconst 0, 1, [], 0, 0), (21, none, .istore_n 3, 1, [], 0, 0), (22, some [0, 1, 2, 3], .iload_n 3, 1, [], 0, 0), (23, none, .iload_n 1, 1, [], 0, 0), (24, none, .if_icmp .ge 16, 3, [40], 0, 0), (27, none, .aload_n 0, 1, [], 0, 0), (28, none, .getfield 18, 3, [3, 2, 2], 0, 0), (31, none, .iload_n 2, 1, [], 0, 0), (32, none, .iaload, 1, [], 0, 0), (33, none, .istore_n 2, 1, [], 0, 0), (34, none, .iinc 3 1, 3, [], 1, 0), (37, none, .goto (-15), 3, [22], 0, 0), (40, none, .iload_n 2, 1, [], 0, 0), (41, none, .ireturn, 1, [], 0, 0)]
def k_X3_leastWidth : List EN := [(0, none, .iconst 0, 1, [], 0, 0), (1, none, .istore_n 3, 1, [], 0, 0), (2, none, .iconst (-1), 1, [], (-1), 0), (3, none, .istore 4, 2, [], 0, 0), (5, none, .iconst 0, 1, [], 0, 0), (6, none, .istore 5, 2, [], 0, 0), (8, some [1, 2, 3, 4, 5], .iload 5, 2, [], 0, 0), (10, none, .aload_n 1, 1, [], 0, 0), (11, none, .getfield 25, 3, [8, 3, 0], 0, 0), (14, none, .if_icmp .ge 35, 3, [49], 0, 0), (17, none, .iload_n 3, 1, [], 0, 0), (18, none, .aload_n 1, 1, [], 0, 0), (19, none, .getfield 28, 3, [8, 7, 2], 0, 0), (22, none, .iload 5, 2, [], 0, 0), (24, none, .iaload, 1, [], 0, 0), (25, none, .invokestatic 39, 3, [2, 0], 0, 0), (28, none, .istore_n 3, 1, [], 0, 0), (29, none, .iload 4, 2, [], 0, 0), (31, none, .aload_n 1, 1, [], 0, 0), (32, none, .getfield 28, 3, [8, 7, 2], 0, 0), (35, none, .iload 5, 2, [], 0, 0), (37, none, .iaload, 1, [], 0, 0), (38, none, .iconst 1, 1, [], 1, 0), (39, none, .iadd, 1, [], 0, 0), (40, none, .iadd, 1, [], 0, 0), (41, none, .istore 4, 2, [], 0, 0), (43, none, .iinc 5 1, 3, [], 1, 0), (46, none, .goto (-38), 3, [8], 0, 0), (49, none, .iload_n 3, 1, [], 0, 0), (50, none, .istore 5, 2, [], 0, 0), (52, some [1, 2, 4, 5], .iload 5, 2, [], 0, 0), (54, none, .iload 4, 2, [], 0, 0), (56, none, .if_icmp .ge 22, 3, [78], 0, 0), (59, none, .aload_n 1, 1, [], 0, 0), (60, none, .iload 5, 2, [], 0, 0), (62, none, .invokestatic 45, 3, [0, 23, 2, 1], 0, 0), (65, none, .iload_n 2, 1, [], 0, 0), (66, none, .if_icmp .gt 6, 3, [72], 0, 0), (69, none, .iload 5, 2, [], 0, 0), (71, none, .ireturn, 1, [], 0, 0), (72, none, .iinc 5 1, 3, [], 1, 0), (75, none, .goto (-23), 3, [52], 0, 0), (78, none, .iload 4, 2, [], 0, 0), (80, none, .ireturn, 1, [], 0, 0)]
def k_X3_fewestLines : List EN := [(0, none, .iconst 0, 1, [], 0, 0), (1, none, .istore_n 2, 1, [], 0, 0), (2, none, .iconst (-1), 1, [], (-1), 0), (3, none, .istore_n 3, 1, [], 0, 0), (4, none, .iconst 0, 1, [], 0, 0), (5, none, .istore 4, 2, [], 0, 0), (7, some [0, 1, 2, 3, 4], .iload 4, 2, [], 0, 0), (9, none, .aload_n 0, 1, [], 0, 0), (10, none, .getfield 25, 3, [8, 3, 0], 0, 0), (13, none, .if_icmp .ge 42, 3, [55], 0, 0), (16, none, .iload_n 3, 1, [], 0, 0), (17, none, .aload_n 0, 1, [], 0, 0), (18, none, .getfield 28, 3, [8, 7, 2], 0, 0), (21, none, .iload 4, 2, [], 0, 0), (23, none, .iaload, 1, [], 0, 0), (24, none, .iconst 1, 1, [], 1, 0), (25, none, .iadd, 1, [], 0, 0), (26, none, .isub, 1, [], 0, 0), (27, none, .istore_n 3, 1, [], 0, 0), (28, none, .iload_n 2, 1, [], 0, 0), (29, none, .ifCond .eq 7, 3, [36], 0, 0), (32, none, .iload_n 3, 1, [], 0, 0), (33, none, .ifCond .ge 16, 3, [49], 0, 0), (36, none, .iinc 2 1, 3, [], 1, 0), (39, none, .iload_n 1, 1, [], 0, 0), (40, none, .aload_n 0, 1, [], 0, 0), (41, none, .getfield 28, 3, [8, 7, 2], 0, 0), (44, none, .iload 4, 2, [], 0, 0), (46, none, .iaload, 1, [], 0, 0), (47, none, .isub, 1, [], 0, 0), (48, none, .istore_n 3, 1, [], 0, 0), (49, none, .iinc 4 1, 3, [], 1, 0), (52, none, .goto (-45), 3, [7], 0, 0), (55, none, .iload_n 2, 1, [], 0, 0), (56, none, .ireturn, 1, [], 0, 0)]
def k_X4_init : List EN := [(0, none, .aload_n 0, 1, [], 0, 0), (1, none, .invokespecial 3, 3, [2, 8], 0, 0), (4, none, .aload_n 0, 1, [], 0, 0), (5, none, .iconst 0, 1, [], 0, 0), (6, none, .putfield 9, 3, [4, 0, 0], 0, 0), (9, none, .aload_n 0, 1, [], 0, 0), (10, none, .iconst 0, 1, [], 0, 0), (11, none, .putfield 15, 3, [4, 1, 3], 0, 0), (14, none, .aload_n 0, 1, [], 0, 0), (15, none, .iconst 0, 1, [], 0, 0), (16, none, .putfield 19, 3, [4, 2, 0], 0, 0), (19, none, .aload_n 0, 1, [], 0, 0), (20, none, .iconst (-1), 1, [], (-1), 0), (21, none, .putfield 22, 3, [4, 3, 0], 0, 0), (24, none, .aload_n 0, 1, [], 0, 0), (25, none, .sipush 300, 3, [], 300, 0), (28, none, .newarray .int, 2, [0], 0, 0), (30, none, .putfield 25, 3, [4, 4, 2], 0, 0), (33, none, .aload_n 0, 1, [], 0, 0), (34, none, .aconst_null, 1, [], 0, 0), (35, none, .putfield 29, 3, [4, 5, 2], 0, 0), (38, none, .aload_n 0, 1, [], 0, 0), (39, none, .iconst 0, 1, [], 0, 0), (40, none, .putfield 33, 3, [4, 6, 3], 0, 0), (43, none, .aload_n 0, 1, [], 0, 0), (44, none, .iconst 0, 1, [], 0, 0), (45, none, .putfield 36, 3, [4, 7, 0], 0, 0), (48, none, .aload_n 0, 1, [], 0, 0), (49, none, .iconst 0, 1, [], 0, 0), (50, none, .putfield 39, 3, [4, 8, 0], 0, 0), (53, none, .aload_n 0, 1, [], 0, 0), (54, none, .iconst 0, 1, [], 0, 0), (55, none, .putfield 42, 3, [4, 9, 0], 0, 0), (58, none, .aload_n 0, 1, [], 0, 0), (59, none, .iconst 0, 1, [], 0, 0), (60, none, .putfield 45, 3, [4, 10, 0], 0, 0), (63, none, .return_, 1, [], 0, 0)]
def k_X4_append : List EN := [(0, none, .aload_n 0, 1, [], 0, 0), (1, none, .getfield 9, 3, [4, 0, 0], 0, 0), (4, none, .iconst 4, 1, [], 4, 0), (5, none, .iadd, 1, [], 0, 0), (6, none, .sipush 300, 3, [], 300, 0), (9, none, .if_icmp .le 4, 3, [13], 0, 0), (12, none, .return_, 1, [], 0, 0), (13, none, .aload_n 0, 1, [], 0, 0), (14, none, .getfield 25, 3, [4, 4, 2], 0, 0), (17, none, .aload_n 0, 1, [], 0, 0), (18, none, .getfield 9, 3, [4, 0, 0], 0, 0), (21, none, .iload_n 1, 1, [], 0, 0), (22, none, .bipush 24, 2, [], 24, 0), (24, none, .iushr, 1, [], 0, 0), (25, none, .iastore, 1, [], 0, 0), (26, none, .aload_n 0, 1, [], 0, 0), (27, none, .getfield 25, 3, [4, 4, 2], 0, 0), (30, none, .aload_n 0, 1, [], 0, 0), (31, none, .getfield 9, 3, [4, 0, 0], 0, 0), (34, none, .iconst 1, 1, [], 1, 0), (35, none, .iadd, 1, [], 0, 0), (36, none, .iload_n 1, 1, [], 0, 0), (37, none, .bipush 16, 2, [], 16, 0), (39, none, .iushr, 1, [], 0, 0), (40, none, .sipush 255, 3, [], 255, 0), (43, none, .iand, 1, [], 0, 0), (44, none, .iastore, 1, [], 0, 0), (45, none, .aload_n 0, 1, [], 0, 0), (46, none, .getfield 25, 3, [4, 4, 2], 0, 0), (49, none, .aload_n 0, 1, [], 0, 0), (50, none, .getfield 9, 3, [4, 0, 0], 0, 0), (53, none, .iconst 2, 1, [], 2, 0), (54, none, .iadd, 1, [], 0, 0), (55, none, .iload_n 1, 1, [], 0, 0), (56, none, .bipush 8, 2, [], 8, 0), (58, none, .iushr, 1, [], 0, 0), (59, none, .sipush 255, 3, [], 255, 0), (62, none, .iand, 1, [], 0, 0), (63, none, .iastore, 1, [], 0, 0), (64, none, .aload_n 0, 1, [], 0, 0), (65, none, .getfield 25, 3, [4, 4, 2], 0, 0), (68, none, .aload_n 0, 1, [], 0, 0), (69, none, .getfield 9, 3, [4, 0, 0], 0, 0), (72, none, .iconst 3, 1, [], 3, 0), (73, none, .iadd, 1, [], 0, 0), (74, none, .iload_n 1, 1, [], 0, 0), (75, none, .sipush 255, 3, [], 255, 0), (78, none, .iand, 1, [], 0, 0), (79, none, .iastore, 1, [], 0, 0), (80, none, .aload_n 0, 1, [], 0, 0), (81, none, .dup, 1, [], 0, 0), (82, none, .getfield 9, 3, [4, 0, 0], 0, 0), (85, none, .iconst 4, 1, [], 4, 0), (86, none, .iadd, 1, [], 0, 0), (87, none, .putfield 9, 3, [4, 0, 0], 0, 0), (90, none, .return_, 1, [], 0, 0)]
def k_X4_readInto : List EN := [(0, none, .aload_n 0, 1, [], 0, 0), (1, none, .aload_n 1, 1, [], 0, 0), (2, none, .putfield 29, 3, [4, 5, 2], 0, 0), (5, none, .aload_n 0, 1, [], 0, 0), (6, none, .getfield 29, 3, [4, 5, 2], 0, 0), (9, none, .invokevirtual 48, 3, [1, 83, 0, 0, 7], 0, 0), (12, some [0], .aload_n 0, 1, [], 0, 0), (13, none, .iconst 1, 1, [], 1, 0), (14, none, .putfield 15, 3, [4, 1, 3], 0, 0), (17, none, .aload_n 0, 1, [], 0, 0), (18, none, .iconst 0, 1, [], 0, 0), (19, none, .putfield 19, 3, [4, 2, 0], 0, 0), (22, none, .aload_n 0, 1, [], 0, 0), (23, none, .iconst (-1), 1, [], (-1), 0), (24, none, .putfield 22, 3, [4, 3, 0], 0, 0), (27, none, .aload_n 0, 1, [], 0, 0), (28, none, .iconst 0, 1, [], 0, 0), (29, none, .putfield 42, 3, [4, 9, 0], 0, 0), (32, none, .aload_n 0, 1, [], 0, 0), (33, none, .invokevirtual 53, 3, [1, 50, 0, 0, 4], 0, 0), (36, none, .iconst 0, 1, [], 0, 0), (37, none, .istore_n 2, 1, [], 0, 0), (38, some [0, 2], .iload_n 2, 1, [], 0, 0), (39, none, .bipush 24, 2, [], 24, 0), (41, none, .if_icmp .gt 26, 3, [67], 0, 0), (44, none, .aload_n 0, 1, [], 0, 0), (45, none, .getfield 36, 3, [4, 7, 0], 0, 0), (48, none, .ifCond .eq 19, 3, [67], 0, 0), (51, none, .aload_n 0, 1, [], 0, 0), (52, none, .iload_n 2, 1, [], 0, 0), (53, none, .invokevirtual 56, 3, [1, 28, 1, 1, 4], 0, 0), (56, none, .ifCond .ne 5, 3, [61], 0, 0), (59, none, .iconst 0, 1, [], 0, 0), (60, none, .ireturn, 1, [], 0, 0), (61, none, .iinc 2 1, 3, [], 1, 0), (64, none, .goto (-26), 3, [38], 0, 0), (67, none, .iconst 1, 1, [], 1, 0), (68, none, .ireturn, 1, [], 0, 0)]
def k_X4_fail : List EN := [(0, none, .aload_n 0, 1, [], 0, 0), (1, none, .iload_n 1, 1, [], 0, 0), (2, none, .putfield 19, 3, [4, 2, 0], 0, 0), (5, none, .aload_n 0, 1, [], 0, 0), (6, none, .aload_n 0, 1, [], 0, 0), (7, none, .getfield 39, 3, [4, 8, 0], 0, 0), (10, none, .putfield 22, 3, [4, 3, 0], 0, 0), (13, none, .iconst 0, 1, [], 0, 0), (14, none, .ireturn, 1, [], 0, 0)]
def k_X4_readClause : List EN := [(0, none, .aload_n 0, 1, [], 0, 0), (1, none, .invokevirtual 60, 3, [1, 29, 0, 1, 4], 0, 0), (4, some [0, 1], .istore_n 2, 1, [], 0, 0), (5, none, .iload_n 2, 1, [], 0, 0), (6, none, .ifCond .ne 9, 3, [15], 0, 0), (9, none, .aload_n 0, 1, [], 0, 0), (10, none, .iconst 1, 1, [], 1, 0), (11, none, .invokevirtual 64, 3, [1, 27, 1, 1, 4], 0, 0), (14, none, .ireturn, 1, [], 0, 0), (15, none, .iload_n 2, 1, [], 0, 0), (16, none, .iconst 1, 1, [], 1, 0), (17, none, .if_icmp .ne 14, 3, [31], 0, 0), (20, none, .aload_n 0, 1, [], 0, 0), (21, none, .getfield 29, 3, [4, 5, 2], 0, 0), (24, none, .getfield 67, 3, [7, 2, 0], 0, 0), (27, none, .iconst (-1), 1, [], (-1), 0), (28, none, .if_icmp .ne 19, 3, [47], 0, 0), (31, some [0, 1, 2], .iload_n 2, 1, [], 0, 0), (32, none, .iconst 2, 1, [], 2, 0), (33, none, .if_icmp .ne 20, 3, [53], 0, 0), (36, none, .aload_n 0, 1, [], 0, 0), (37, none, .getfield 29, 3, [4, 5, 2], 0, 0), (40, none, .getfield 70, 3, [7, 3, 0], 0, 0), (43, none, .iconst (-1), 1, [], (-1), 0), (44, none, .if_icmp .eq 9, 3, [53], 0, 0), (47, none, .aload_n 0, 1, [], 0, 0), (48, none, .iconst 4, 1, [], 4, 0), (49, none, .invokevirtual 64, 3, [1, 27, 1, 1, 4], 0, 0), (52, none, .ireturn, 1, [], 0, 0), (53, none, .iload_n 1, 1, [], 0, 0), (54, none, .bipush 24, 2, [], 24, 0), (56, none, .if_icmp .lt 10, 3, [66], 0, 0), (59, none, .aload_n 0, 1, [], 0, 0), (60, none, .bipush 6, 2, [], 6, 0), (62, none, .invokevirtual 64, 3, [1, 27, 1, 1, 4], 0, 0), (65, none, .ireturn, 1, [], 0, 0), (66, none, .aload_n 0, 1, [], 0, 0), (67, none, .invokevirtual 53, 3, [1, 50, 0, 0, 4], 0, 0), (70, some [0, 2], .iload_n 2, 1, [], 0, 0), (71, none, .iconst 1, 1, [], 1, 0), (72, none, .if_icmp .eq 8, 3, [80], 0, 0), (75, none, .iload_n 2, 1, [], 0, 0), (76, none, .iconst 2, 1, [], 2, 0), (77, none, .if_icmp .ne 9, 3, [86], 0, 0), (80, none, .aload_n 0, 1, [], 0, 0), (81, none, .iload_n 2, 1, [], 0, 0), (82, none, .invokevirtual 73, 3, [1, 30, 1, 1, 4], 0, 0), (85, none, .ireturn, 1, [], 0, 0), (86, none, .aload_n 0, 1, [], 0, 0), (87, none, .iload_n 2, 1, [], 0, 0), (88, none, .invokevirtual 76, 3, [1, 31, 1, 1, 4], 0, 0), (91, none, .ireturn, 1, [], 0, 0)]
def k_X4_clauseKind : List EN := [(0, none, .aload_n 0, 1, [], 0, 0), (1, none, .ldc 79, 2, [0], 0, 0), (3, none, .invokevirtual 81, 3, [1, 49, 1, 1, 4], 0, 0), (6, some [0], .ifCond .eq 5, 3, [11], 0, 0), (9, none, .iconst 1, 1, [], 1, 0), (10, none, .ireturn, 1, [], 0, 0), (11, none, .aload_n 0, 1, [], 0, 0), (12, none, .ldc 85, 2, [1], 0, 0), (14, none, .invokevirtual 81, 3, [1, 49, 1, 1, 4], 0, 0), (17, some [0], .ifCond .eq 5, 3, [22], 0, 0), (20, none, .iconst 2, 1, [], 2, 0), (21, none, .ireturn, 1, [], 0, 0), (22, none, .aload_n 0, 1, [], 0, 0), (23, none, .ldc 87, 2, [2], 0, 0), (25, none, .invokevirtual 81, 3, [1, 49, 1, 1, 4], 0, 0), (28, some [0], .ifCond .eq 5, 3, [33], 0, 0), (31, none, .iconst 3, 1, [], 3, 0), (32, none, .ireturn, 1, [], 0, 0), (33, none, .aload_n 0, 1, [], 0, 0), (34, none, .ldc 89, 2, [3], 0, 0), (36, none, .invokevirtual 81, 3, [1, 49, 1, 1, 4], 0, 0), (39, some [0], .ifCond .eq 5, 3, [44], 0, 0), (42, none, .iconst 4, 1, [], 4, 0), (43, none, .ireturn, 1, [], 0, 0), (44, none, .aload_n 0, 1, [], 0, 0), (45, none, .ldc 91, 2, [4], 0, 0), (47, none, .invokevirtual 81, 3, [1, 49, 1, 1, 4], 0, 0), (50, some [0], .ifCond .eq 5, 3, [55], 0, 0), (53, none, .iconst 5, 1, [], 5, 0), (54, none, .ireturn, 1, [], 0, 0), (55, none, .aload_n 0, 1, [], 0, 0), (56, none, .ldc 93, 2, [5], 0, 0), (58, none, .invokevirtual 81, 3, [1, 49, 1, 1, 4], 0, 0), (61, some [0], .ifCond .eq 6, 3, [67], 0, 0), (64, none, .bipush 6, 2, [], 6, 0), (66, none, .ireturn, 1, [], 0, 0), (67, none, .aload_n 0, 1, [], 0, 0), (68, none, .ldc 95, 2, [6], 0, 0), (70, none, .invokevirtual 81, 3, [1, 49, 1, 1, 4], 0, 0), (73, some [0], .ifCond .eq 6, 3, [79], 0, 0), (76, none, .bipush 7, 2, [], 7, 0), (78, none, .ireturn, 1, [], 0, 0), (79, none, .aload_n 0, 1, [], 0, 0), (80, none, .ldc 97, 2, [7], 0, 0), (82, none, .invokevirtual 81, 3, [1, 49, 1, 1, 4], 0, 0), (85, some [0], .ifCond .eq 6, 3, [91], 0, 0), (88, none, .bipush 8, 2, [], 8, 0), (90, none, .ireturn, 1, [], 0, 0), (91, none, .aload_n 0, 1, [], 0, 0), (92, none, .ldc 99, 2, [8], 0, 0), (94, none, .invokevirtual 81, 3, [1, 49, 1, 1, 4], 0, 0), (97, none, .ifCond .eq 8, 3, [105], 0, 0), (100, none, .bipush 9, 2, [], 9, 0), (102, none, .goto 4, 3, [106], 0, 0), (105, none, .iconst 0, 1, [], 0, 0), (106, none, .ireturn, 1, [], 0, 0)]
def k_X4_readLaw : List EN := [(0, none, .aload_n 0, 1, [], 0, 0), (1, none, .iload_n 1, 1, [], 0, 0), (2, none, .iconst 1, 1, [], 1, 0), (3, none, .if_icmp .ne 7, 3, [10], 0, 0), (6, none, .iconst 1, 1, [], 1, 0), (7, none, .goto 4, 3, [11], 0, 0), (10, none, .iconst 0, 1, [], 0, 0), (11, some [0, 1], .putfield 33, 3, [4, 6, 3], 0, 0), (14, none, .aload_n 0, 1, [], 0, 0), (15, none, .getfield 33, 3, [4, 6, 3], 0, 0), (18, none, .ifCond .eq 20, 3, [38], 0, 0), (21, none, .aload_n 0, 1, [], 0, 0), (22, none, .getfield 29, 3, [4, 5, 2], 0, 0), (25, none, .aload_n 0, 1, [], 0, 0), (26, none, .getfield 29, 3, [4, 5, 2], 0, 0), (29, none, .getfield 101, 3, [7, 1, 0], 0, 0), (32, none, .putfield 67, 3, [7, 2, 0], 0, 0), (35, none, .goto 17, 3, [52], 0, 0), (38, none, .aload_n 0, 1, [], 0, 0), (39, none, .getfield 29, 3, [4, 5, 2], 0, 0), (42, none, .aload_n 0, 1, [], 0, 0), (43, none, .getfield 29, 3, [4, 5, 2], 0, 0), (46, none, .getfield 101, 3, [7, 1, 0], 0, 0), (49, none, .putfield 70, 3, [7, 3, 0], 0, 0), (52, none, .aload_n 0, 1, [], 0, 0), (53, none, .getfield 29, 3, [4, 5, 2], 0, 0), (56, none, .iload_n 1, 1, [], 0, 0), (57, none, .iconst 0, 1, [], 0, 0), (58, none, .iconst 0, 1, [], 0, 0), (59, none, .invokevirtual 104, 3, [1, 84, 3, 0, 7], 0, 0), (62, some [0], .aload_n 0, 1, [], 0, 0), (63, none, .iconst 0, 1, [], 0, 0), (64, none, .invokevirtual 108, 3, [1, 34, 1, 1, 4], 0, 0), (67, some [0], .ifCond .eq 24, 3, [91], 0, 0), (70, none, .aload_n 0, 1, [], 0, 0), (71, none, .bipush 59, 2, [], 59, 0), (73, none, .invokevirtual 111, 3, [1, 48, 1, 1, 4], 0, 0), (76, some [0], .ifCond .eq 15, 3, [91], 0, 0), (79, none, .aload_n 0, 1, [], 0, 0), (80, none, .iconst 0, 1, [], 0, 0), (81, none, .invokevirtual 115, 3, [1, 44, 1, 1, 4], 0, 0), (84, none, .ifCond .eq 7, 3, [91], 0, 0), (87, none, .iconst 1, 1, [], 1, 0), (88, none, .goto 4, 3, [92], 0, 0), (91, none, .iconst 0, 1, [], 0, 0), (92, none, .ireturn, 1, [], 0, 0)]
def k_X4_readDeed : List EN := [(0, none, .aload_n 0, 1, [], 0, 0), (1, none, .getfield 45, 3, [4, 10, 0], 0, 0), (4, none, .istore_n 2, 1, [], 0, 0), (5, none, .aload_n 0, 1, [], 0, 0), (6, none, .iload_n 1, 1, [], 0, 0), (7, none, .invokestatic 118, 3, [0, 32, 1, 1], 0, 0), (10, none, .iload_n 1, 1, [], 0, 0), (11, none, .invokestatic 122, 3, [0, 33, 1, 1], 0, 0), (14, some [0, 1, 2], .invokevirtual 125, 3, [1, 46, 2, 1, 4], 0, 0), (17, some [0, 1, 2], .ifCond .ne 5, 3, [22], 0, 0), (20, none, .iconst 0, 1, [], 0, 0), (21, none, .ireturn, 1, [], 0, 0), (22, none, .iconst 0, 1, [], 0, 0), (23, none, .istore_n 3, 1, [], 0, 0), (24, none, .iload_n 1, 1, [], 0, 0), (25, none, .iconst 3, 1, [], 3, 0), (26, none, .if_icmp .eq 13, 3, [39], 0, 0), (29, none, .iload_n 1, 1, [], 0, 0), (30, none, .iconst 4, 1, [], 4, 0), (31, none, .if_icmp .eq 8, 3, [39], 0, 0), (34, none, .iload_n 1, 1, [], 0, 0), (35, none, .iconst 5, 1, [], 5, 0), (36, none, .if_icmp .ne 69, 3, [105], 0, 0), (39, some [0, 1, 2], .aload_n 0, 1, [], 0, 0), (40, none, .iload_n 1, 1, [], 0, 0), (41, none, .iconst 3, 1, [], 3, 0), (42, none, .if_icmp .ne 8, 3, [50], 0, 0), (45, none, .ldc 129, 2, [20], 0, 0), (47, none, .goto 15, 3, [62], 0, 0), (50, none, .iload_n 1, 1, [], 0, 0), (51, none, .iconst 4, 1, [], 4, 0), (52, none, .if_icmp .ne 8, 3, [60], 0, 0), (55, none, .ldc 131, 2, [27], 0, 0), (57, none, .goto 5, 3, [62], 0, 0), (60, none, .ldc 133, 2, [28], 0, 0), (62, none, .invokevirtual 135, 3, [1, 47, 1, 1, 4], 0, 0), (65, some [0, 1, 2], .ifCond .ne 5, 3, [70], 0, 0), (68, none, .iconst 0, 1, [], 0, 0), (69, none, .ireturn, 1, [], 0, 0), (70, none, .aload_n 0, 1, [], 0, 0), (71, none, .getfield 45, 3, [4, 10, 0], 0, 0), (74, none, .istore_n 3, 1, [], 0, 0), (75, none, .iload_n 1, 1, [], 0, 0), (76, none, .iconst 3, 1, [], 3, 0), (77, none, .if_icmp .ne 13, 3, [90], 0, 0), (80, none, .aload_n 0, 1, [], 0, 0), (81, none, .iconst 1, 1, [], 1, 0), (82, none, .bipush 9, 2, [], 9, 0), (84, none, .invokevirtual 125, 3, [1, 46, 2, 1, 4], 0, 0), (87, some [0, 1, 2, 3], .goto 9, 3, [96], 0, 0), (90, none, .aload_n 0, 1, [], 0, 0), (91, none, .iconst 0, 1, [], 0, 0), (92, none, .iconst 4, 1, [], 4, 0), (93, none, .invokevirtual 125, 3, [1, 46, 2, 1, 4], 0, 0), (96, some [0, 1, 2, 3], .istore 4, 2, [], 0, 0), (98, none, .iload 4, 2, [], 0, 0), (100, none, .ifCond .ne 5, 3, [105], 0, 0), (103, none, .iconst 0, 1, [], 0, 0), (104, none, .ireturn, 1, [], 0, 0), (105, none, .aload_n 0, 1, [], 0, 0), (106, none, .getfield 29, 3, [4, 5, 2], 0, 0), (109, none, .iload_n 1, 1, [], 0, 0), (110, none, .iload_n 2, 1, [], 0, 0), (111, none, .iload_n 3, 1, [], 0, 0), (112, none, .invokevirtual 104, 3, [1, 84, 3, 0, 7], 0, 0), (115, some [0], .aload_n 0, 1, [], 0, 0), (116, none, .bipush 59, 2, [], 59, 0), (118, none, .invokevirtual 111, 3, [1, 48, 1, 1, 4], 0, 0), (121, none, .ireturn, 1, [], 0, 0)]
def k_X4_leastOf : List EN := [(0, none, .iload_n 0, 1, [], 0, 0), (1, none, .bipush 6, 2, [], 6, 0), (3, none, .if_icmp .eq 9, 3, [12], 0, 0), (6, none, .iload_n 0, 1, [], 0, 0), (7, none, .bipush 9, 2, [], 9, 0), (9, none, .if_icmp .ne 7, 3, [16], 0, 0), (12, none, .iconst 1, 1, [], 1, 0), (13, none, .goto 4, 3, [17], 0, 0), (16, none, .iconst 0, 1, [], 0, 0), (17, none, .ireturn, 1, [], 0, 0)]
def k_X4_mostOf : List EN := [(0, none, .iload_n 0, 1, [], 0, 0), (1, none, .tableswitch 51 3 9 #[43, 43, 51, 46, 51, 51, 48], 43, [52, 3, 44, 44, 52, 47, 52, 52, 49], 0, 0), (44, none, .bipush 18, 2, [], 18, 0), (46, none, .ireturn, 1, [], 0, 0), (47, none, .iconst 5, 1, [], 5, 0), (48, none, .ireturn, 1, [], 0, 0), (49, none, .bipush 60, 2, [], 60, 0), (51, none, .ireturn, 1, [], 0, 0), (52, none, .iconst 4, 1, [], 4, 0), (53, none, .ireturn, 1, [], 0, 0)]
def k_X4_readSum : List EN := [(0, none, .aload_n 0, 1, [], 0, 0), (1, none, .iload_n 1, 1, [], 0, 0), (2, none, .invokevirtual 138, 3, [1, 35, 1, 1, 4], 0, 0), (5, none, .ifCond .ne 5, 3, [10], 0, 0), (8, none, .iconst 0, 1, [], 0, 0), (9, none, .ireturn, 1, [], 0, 0), (10, none, .iconst 0, 1, [], 0, 0), (11, none, .istore_n 2, 1, [], 0, 0), (12, some [0, 1, 2], .iload_n 2, 1, [], 0, 0), (13, none, .sipush 300, 3, [], 300, 0), (16, none, .if_icmp .ge 64, 3, [80], 0, 0), (19, none, .aload_n 0, 1, [], 0, 0), (20, none, .getfield 36, 3, [4, 7, 0], 0, 0), (23, none, .bipush 43, 2, [], 43, 0), (25, none, .if_icmp .eq 12, 3, [37], 0, 0), (28, none, .aload_n 0, 1, [], 0, 0), (29, none, .getfield 36, 3, [4, 7, 0], 0, 0), (32, none, .bipush 45, 2, [], 45, 0), (34, none, .if_icmp .ne 46, 3, [80], 0, 0), (37, some [0, 1, 2], .aload_n 0, 1, [], 0, 0), (38, none, .getfield 36, 3, [4, 7, 0], 0, 0), (41, none, .bipush 43, 2, [], 43, 0), (43, none, .if_icmp .ne 7, 3, [50], 0, 0), (46, none, .iconst 1, 1, [], 1, 0), (47, none, .goto 4, 3, [51], 0, 0), (50, none, .iconst 2, 1, [], 2, 0), (51, none, .istore_n 3, 1, [], 0, 0), (52, none, .aload_n 0, 1, [], 0, 0), (53, none, .invokevirtual 53, 3, [1, 50, 0, 0, 4], 0, 0), (56, some [0, 1, 2, 3], .aload_n 0, 1, [], 0, 0), (57, none, .iload_n 1, 1, [], 0, 0), (58, none, .invokevirtual 138, 3, [1, 35, 1, 1, 4], 0, 0), (61, some [0, 1, 2, 3], .ifCond .ne 5, 3, [66], 0, 0), (64, none, .iconst 0, 1, [], 0, 0), (65, none, .ireturn, 1, [], 0, 0), (66, none, .aload_n 0, 1, [], 0, 0), (67, none, .getfield 29, 3, [4, 5, 2], 0, 0), (70, none, .iload_n 3, 1, [], 0, 0), (71, none, .invokevirtual 141, 3, [1, 85, 1, 0, 7], 0, 0), (74, none, .iinc 2 1, 3, [], 1, 0), (77, none, .goto (-65), 3, [12], 0, 0), (80, none, .iconst 1, 1, [], 1, 0), (81, none, .ireturn, 1, [], 0, 0)]
def k_X4_readProduct : List EN := [(0, none, .aload_n 0, 1, [], 0, 0), (1, none, .iload_n 1, 1, [], 0, 0), (2, none, .invokevirtual 145, 3, [1, 36, 1, 1, 4], 0, 0), (5, none, .ifCond .ne 5, 3, [10], 0, 0), (8, none, .iconst 0, 1, [], 0, 0), (9, none, .ireturn, 1, [], 0, 0), (10, none, .iconst 0, 1, [], 0, 0), (11, none, .istore_n 2, 1, [], 0, 0), (12, some [0, 1, 2], .iload_n 2, 1, [], 0, 0), (13, none, .sipush 300, 3, [], 300, 0), (16, none, .if_icmp .ge 64, 3, [80], 0, 0), (19, none, .aload_n 0, 1, [], 0, 0), (20, none, .getfield 36, 3, [4, 7, 0], 0, 0), (23, none, .bipush 42, 2, [], 42, 0), (25, none, .if_icmp .eq 12, 3, [37], 0, 0), (28, none, .aload_n 0, 1, [], 0, 0), (29, none, .getfield 36, 3, [4, 7, 0], 0, 0), (32, none, .bipush 47, 2, [], 47, 0), (34, none, .if_icmp .ne 46, 3, [80], 0, 0), (37, some [0, 1, 2], .aload_n 0, 1, [], 0, 0), (38, none, .getfield 36, 3, [4, 7, 0], 0, 0), (41, none, .bipush 42, 2, [], 42, 0), (43, none, .if_icmp .ne 7, 3, [50], 0, 0), (46, none, .iconst 3, 1, [], 3, 0), (47, none, .goto 4, 3, [51], 0, 0), (50, none, .iconst 4, 1, [], 4, 0), (51, none, .istore_n 3, 1, [], 0, 0), (52, none, .aload_n 0, 1, [], 0, 0), (53, none, .invokevirtual 53, 3, [1, 50, 0, 0, 4], 0, 0), (56, some [0, 1, 2, 3], .aload_n 0, 1, [], 0, 0), (57, none, .iload_n 1, 1, [], 0, 0), (58, none, .invokevirtual 145, 3, [1, 36, 1, 1, 4], 0, 0), (61, some [0, 1, 2, 3], .ifCond .ne 5, 3, [66], 0, 0), (64, none, .iconst 0, 1, [], 0, 0), (65, none, .ireturn, 1, [], 0, 0), (66, none, .aload_n 0, 1, [], 0, 0), (67, none, .getfield 29, 3, [4, 5, 2], 0, 0), (70, none, .iload_n 3, 1, [], 0, 0), (71, none, .invokevirtual 141, 3, [1, 85, 1, 0, 7], 0, 0), (74, none, .iinc 2 1, 3, [], 1, 0), (77, none, .goto (-65), 3, [12], 0, 0), (80, none, .iconst 1, 1, [], 1, 0), (81, none, .ireturn, 1, [], 0, 0)]
def k_X4_readOne_0 : List EN := [(0, none, .aload_n 0, 1, [], 0, 0), (1, none, .getfield 36, 3, [4, 7, 0], 0, 0), (4, none, .iconst 1, 1, [], 1, 0), (5, none, .if_icmp .ne 26, 3, [31], 0, 0), (8, none, .aload_n 0, 1, [], 0, 0), (9, none, .getfield 29, 3, [4, 5, 2], 0, 0), (12, none, .bipush 64, 2, [], 64, 0), (14, none, .aload_n 0, 1, [], 0, 0), (15, none, .getfield 45, 3, [4, 10, 0], 0, 0), (18, none, .iadd, 1, [], 0, 0), (19, none, .invokevirtual 141, 3, [1, 85, 1, 0, 7], 0, 0), (22, some [0], .aload_n 0, 1, [], 0, 0), (23, none, .iconst 0, 1, [], 0, 0), (24, none, .sipush 9999, 3, [], 9999, 0), (27, none, .invokevirtual 125, 3, [1, 46, 2, 1, 4], 0, 0), (30, none, .ireturn, 1, [], 0, 0), (31, none, .aload_n 0, 1, [], 0, 0), (32, none, .getfield 36, 3, [4, 7, 0], 0, 0), (35, none, .bipush 40, 2, [], 40, 0), (37, none, .if_icmp .ne 36, 3, [73], 0, 0), (40, none, .aload_n 0, 1, [], 0, 0), (41, none, .iload_n 1, 1, [], 0, 0), (42, none, .invokevirtual 148, 3, [1, 45, 1, 1, 4], 0, 0), (45, some [0, 1], .ifCond .eq 26, 3, [71], 0, 0), (48, none, .aload_n 0, 1, [], 0, 0), (49, none, .iload_n 1, 1, [], 0, 0), (50, none, .iconst 1, 1, [], 1, 0), (51, none, .iadd, 1, [], 0, 0), (52, none, .invokevirtual 108, 3, [1, 34, 1, 1, 4], 0, 0), (55, some [0], .ifCond .eq 16, 3, [71], 0, 0), (58, none, .aload_n 0, 1, [], 0, 0), (59, none, .bipush 41, 2, [], 41, 0), (61, none, .invokevirtual 111, 3, [1, 48, 1, 1, 4], 0, 0), (64, none, .ifCond .eq 7, 3, [71], 0, 0), (67, none, .iconst 1, 1, [], 1, 0), (68, none, .goto 4, 3, [72], 0, 0), (71, none, .iconst 0, 1, [], 0, 0), (72, none, .ireturn, 1, [], 0, 0), (73, none, .aload_n 0, 1, [], 0, 0), (74, none, .getfield 36, 3, [4, 7, 0], 0, 0), (77, none, .bipush 45, 2, [], 45, 0), (79, none, .if_icmp .ne 35, 3, [114], 0, 0), (82, none, .aload_n 0, 1, [], 0, 0), (83, none, .iload_n 1, 1, [], 0, 0), (84, none, .invokevirtual 148, 3, [1, 45, 1, 1, 4], 0, 0), (87, some [0, 1], .ifCond .eq 25, 3, [112], 0, 0), (90, none, .aload_n 0, 1, [], 0, 0), (91, none, .iload_n 1, 1, [], 0, 0), (92, none, .iconst 1, 1, [], 1, 0), (93, none, .iadd, 1, [], 0, 0), (94, none, .invokevirtual 145, 3, [1, 36, 1, 1, 4], 0, 0), (97, some [0], .ifCond .eq 15, 3, [112], 0, 0), (100, none, .aload_n 0, 1, [], 0, 0), (101, none, .iconst 5, 1, [], 5, 0), (102, none, .invokevirtual 115, 3, [1, 44, 1, 1, 4], 0, 0), (105, none, .ifCond .eq 7, 3, [112], 0, 0), (108, none, .iconst 1, 1, [], 1, 0), (109, none, .goto 4, 3, [113], 0, 0), (112, none, .iconst 0, 1, [], 0, 0), (113, none, .ireturn, 1, [], 0, 0), (114, none, .aload_n 0, 1, [], 0, 0), (115, none, .ldc 151, 2, [9], 0, 0), (117, none, .invokevirtual 81, 3, [1, 49, 1, 1, 4], 0, 0), (120, some [0, 1], .ifCond .eq 55, 3, [175], 0, 0), (123, none, .aload_n 0, 1, [], 0, 0), (124, none, .iload_n 1, 1, [], 0, 0), (125, none, .invokevirtual 148, 3, [1, 45, 1, 1, 4], 0, 0), (128, some [0, 1], .ifCond .eq 45, 3, [173], 0, 0), (131, none, .aload_n 0, 1, [], 0, 0), (132, none, .iload_n 1, 1, [], 0, 0), (133, none, .iconst 1, 1, [], 1, 0), (134, none, .iadd, 1, [], 0, 0), (135, none, .invokevirtual 145, 3, [1, 36, 1, 1, 4], 0, 0), (138, some [0, 1], .ifCond .eq 35, 3, [173], 0, 0), (141, none, .aload_n 0, 1, [], 0, 0), (142, none, .ldc 153, 2, [10], 0, 0), (144, none, .invokevirtual 135, 3, [1, 47, 1, 1, 4], 0, 0), (147, some [0, 1], .ifCond .eq 26, 3, [173], 0, 0), (150, none, .aload_n 0, 1, [], 0, 0), (151, none, .iload_n 1, 1, [], 0, 0), (152, none, .iconst 1, 1, [], 1, 0), (153, none, .iadd, 1, [], 0, 0), (154, none, .invokevirtual 145, 3, [1, 36, 1, 1, 4], 0, 0), (157, some [0], .ifCond .eq 16, 3, [173], 0, 0), (160, none, .aload_n 0, 1, [], 0, 0), (161, none, .bipush 6, 2, [], 6, 0), (163, none, .invokevirtual 115, 3, [1, 44, 1, 1, 4], 0, 0), (166, none, .ifCond .eq 7, 3, [173], 0, 0), (169, none, .iconst 1, 1, [], 1, 0), (170, none, .goto 4, 3, [174], 0, 0), (173, none, .iconst 0, 1, [], 0, 0), (174, none, .ireturn, 1, [], 0, 0), (175, none, .aload_n 0, 1, [], 0, 0), (176, none, .ldc 155, 2, [11], 0, 0), (178, none, .invokevirtual 81, 3, [1, 49, 1, 1, 4], 0, 0), (181, some [0, 1], .ifCond .eq 36, 3, [217], 0, 0), (184, none, .aload_n 0, 1, [], 0, 0), (185, none, .iload_n 1, 1, [], 0, 0), (186, none, .invokevirtual 148, 3, [1, 45, 1, 1, 4], 0, 0), (189, some [0, 1], .ifCond .eq 26, 3, [215], 0, 0)]
def k_X4_readOne_1 : List EN := [(192, none, .aload_n 0, 1, [], 0, 0), (193, none, .iload_n 1, 1, [], 0, 0), (194, none, .iconst 1, 1, [], 1, 0), (195, none, .iadd, 1, [], 0, 0), (196, none, .invokevirtual 145, 3, [1, 36, 1, 1, 4], 0, 0), (199, some [0], .ifCond .eq 16, 3, [215], 0, 0), (202, none, .aload_n 0, 1, [], 0, 0), (203, none, .bipush 7, 2, [], 7, 0), (205, none, .invokevirtual 115, 3, [1, 44, 1, 1, 4], 0, 0), (208, none, .ifCond .eq 7, 3, [215], 0, 0), (211, none, .iconst 1, 1, [], 1, 0), (212, none, .goto 4, 3, [216], 0, 0), (215, none, .iconst 0, 1, [], 0, 0), (216, none, .ireturn, 1, [], 0, 0), (217, none, .aload_n 0, 1, [], 0, 0), (218, none, .ldc 157, 2, [12], 0, 0), (220, none, .invokevirtual 81, 3, [1, 49, 1, 1, 4], 0, 0), (223, some [0, 1], .ifCond .eq 27, 3, [250], 0, 0), (226, none, .aload_n 0, 1, [], 0, 0), (227, none, .iload_n 1, 1, [], 0, 0), (228, none, .invokevirtual 148, 3, [1, 45, 1, 1, 4], 0, 0), (231, some [0, 1], .ifCond .eq 17, 3, [248], 0, 0), (234, none, .aload_n 0, 1, [], 0, 0), (235, none, .iload_n 1, 1, [], 0, 0), (236, none, .iconst 1, 1, [], 1, 0), (237, none, .iadd, 1, [], 0, 0), (238, none, .invokevirtual 159, 3, [1, 37, 1, 1, 4], 0, 0), (241, none, .ifCond .eq 7, 3, [248], 0, 0), (244, none, .iconst 1, 1, [], 1, 0), (245, none, .goto 4, 3, [249], 0, 0), (248, none, .iconst 0, 1, [], 0, 0), (249, none, .ireturn, 1, [], 0, 0), (250, none, .aload_n 0, 1, [], 0, 0), (251, none, .invokevirtual 162, 3, [1, 42, 0, 1, 4], 0, 0), (254, none, .ireturn, 1, [], 0, 0)]
def k_X4_readOne : List EN := k_X4_readOne_0 ++ (k_X4_readOne_1)
def k_X4_readChoice : List EN := [(0, none, .aload_n 0, 1, [], 0, 0), (1, none, .iload_n 1, 1, [], 0, 0), (2, none, .invokevirtual 166, 3, [1, 38, 1, 1, 4], 0, 0), (5, some [0, 1], .ifCond .eq 12, 3, [17], 0, 0), (8, none, .aload_n 0, 1, [], 0, 0), (9, none, .ldc 169, 2, [16], 0, 0), (11, none, .invokevirtual 135, 3, [1, 47, 1, 1, 4], 0, 0), (14, some [0, 1], .ifCond .ne 5, 3, [19], 0, 0), (17, none, .iconst 0, 1, [], 0, 0), (18, none, .ireturn, 1, [], 0, 0), (19, none, .aload_n 0, 1, [], 0, 0), (20, none, .getfield 29, 3, [4, 5, 2], 0, 0), (23, none, .bipush 18, 2, [], 18, 0), (25, none, .invokevirtual 171, 3, [1, 86, 1, 1, 7], 0, 0), (28, some [0, 1], .istore_n 2, 1, [], 0, 0), (29, none, .aload_n 0, 1, [], 0, 0), (30, none, .iload_n 1, 1, [], 0, 0), (31, none, .invokevirtual 108, 3, [1, 34, 1, 1, 4], 0, 0), (34, some [0, 1, 2], .ifCond .eq 12, 3, [46], 0, 0), (37, none, .aload_n 0, 1, [], 0, 0), (38, none, .ldc 174, 2, [17], 0, 0), (40, none, .invokevirtual 135, 3, [1, 47, 1, 1, 4], 0, 0), (43, some [0, 1, 2], .ifCond .ne 5, 3, [48], 0, 0), (46, none, .iconst 0, 1, [], 0, 0), (47, none, .ireturn, 1, [], 0, 0), (48, none, .aload_n 0, 1, [], 0, 0), (49, none, .getfield 29, 3, [4, 5, 2], 0, 0), (52, none, .bipush 17, 2, [], 17, 0), (54, none, .invokevirtual 171, 3, [1, 86, 1, 1, 7], 0, 0), (57, some [0, 1, 2], .istore_n 3, 1, [], 0, 0), (58, none, .aload_n 0, 1, [], 0, 0), (59, none, .getfield 29, 3, [4, 5, 2], 0, 0), (62, none, .iload_n 2, 1, [], 0, 0), (63, none, .invokevirtual 176, 3, [1, 87, 1, 0, 7], 0, 0), (66, some [0, 1, 3], .aload_n 0, 1, [], 0, 0), (67, none, .iload_n 1, 1, [], 0, 0), (68, none, .invokevirtual 108, 3, [1, 34, 1, 1, 4], 0, 0), (71, some [0, 3], .ifCond .eq 12, 3, [83], 0, 0), (74, none, .aload_n 0, 1, [], 0, 0), (75, none, .ldc 179, 2, [18], 0, 0), (77, none, .invokevirtual 135, 3, [1, 47, 1, 1, 4], 0, 0), (80, some [0, 3], .ifCond .ne 5, 3, [85], 0, 0), (83, none, .iconst 0, 1, [], 0, 0), (84, none, .ireturn, 1, [], 0, 0), (85, none, .aload_n 0, 1, [], 0, 0), (86, none, .getfield 29, 3, [4, 5, 2], 0, 0), (89, none, .iload_n 3, 1, [], 0, 0), (90, none, .invokevirtual 176, 3, [1, 87, 1, 0, 7], 0, 0), (93, none, .iconst 1, 1, [], 1, 0), (94, none, .ireturn, 1, [], 0, 0)]
def k_X4_readEither : List EN := [(0, none, .aload_n 0, 1, [], 0, 0), (1, none, .iload_n 1, 1, [], 0, 0), (2, none, .invokevirtual 181, 3, [1, 39, 1, 1, 4], 0, 0), (5, none, .ifCond .ne 5, 3, [10], 0, 0), (8, none, .iconst 0, 1, [], 0, 0), (9, none, .ireturn, 1, [], 0, 0), (10, none, .iconst 0, 1, [], 0, 0), (11, none, .istore_n 2, 1, [], 0, 0), (12, some [0, 1, 2], .iload_n 2, 1, [], 0, 0), (13, none, .sipush 300, 3, [], 300, 0), (16, none, .if_icmp .ge 41, 3, [57], 0, 0), (19, none, .aload_n 0, 1, [], 0, 0), (20, none, .ldc 184, 2, [15], 0, 0), (22, none, .invokevirtual 81, 3, [1, 49, 1, 1, 4], 0, 0), (25, some [0, 1, 2], .ifCond .eq 32, 3, [57], 0, 0), (28, none, .aload_n 0, 1, [], 0, 0), (29, none, .invokevirtual 53, 3, [1, 50, 0, 0, 4], 0, 0), (32, some [0, 1, 2], .aload_n 0, 1, [], 0, 0), (33, none, .iload_n 1, 1, [], 0, 0), (34, none, .invokevirtual 181, 3, [1, 39, 1, 1, 4], 0, 0), (37, some [0, 1, 2], .ifCond .ne 5, 3, [42], 0, 0), (40, none, .iconst 0, 1, [], 0, 0), (41, none, .ireturn, 1, [], 0, 0), (42, none, .aload_n 0, 1, [], 0, 0), (43, none, .getfield 29, 3, [4, 5, 2], 0, 0), (46, none, .bipush 16, 2, [], 16, 0), (48, none, .invokevirtual 141, 3, [1, 85, 1, 0, 7], 0, 0), (51, none, .iinc 2 1, 3, [], 1, 0), (54, none, .goto (-42), 3, [12], 0, 0), (57, none, .iconst 1, 1, [], 1, 0), (58, none, .ireturn, 1, [], 0, 0)]
def k_X4_readBoth : List EN := [(0, none, .aload_n 0, 1, [], 0, 0), (1, none, .iload_n 1, 1, [], 0, 0), (2, none, .invokevirtual 186, 3, [1, 40, 1, 1, 4], 0, 0), (5, none, .ifCond .ne 5, 3, [10], 0, 0), (8, none, .iconst 0, 1, [], 0, 0), (9, none, .ireturn, 1, [], 0, 0), (10, none, .iconst 0, 1, [], 0, 0), (11, none, .istore_n 2, 1, [], 0, 0), (12, some [0, 1, 2], .iload_n 2, 1, [], 0, 0), (13, none, .sipush 300, 3, [], 300, 0), (16, none, .if_icmp .ge 41, 3, [57], 0, 0), (19, none, .aload_n 0, 1, [], 0, 0), (20, none, .ldc 189, 2, [14], 0, 0), (22, none, .invokevirtual 81, 3, [1, 49, 1, 1, 4], 0, 0), (25, some [0, 1, 2], .ifCond .eq 32, 3, [57], 0, 0), (28, none, .aload_n 0, 1, [], 0, 0), (29, none, .invokevirtual 53, 3, [1, 50, 0, 0, 4], 0, 0), (32, some [0, 1, 2], .aload_n 0, 1, [], 0, 0), (33, none, .iload_n 1, 1, [], 0, 0), (34, none, .invokevirtual 186, 3, [1, 40, 1, 1, 4], 0, 0), (37, some [0, 1, 2], .ifCond .ne 5, 3, [42], 0, 0), (40, none, .iconst 0, 1, [], 0, 0), (41, none, .ireturn, 1, [], 0, 0), (42, none, .aload_n 0, 1, [], 0, 0), (43, none, .getfield 29, 3, [4, 5, 2], 0, 0), (46, none, .bipush 15, 2, [], 15, 0), (48, none, .invokevirtual 141, 3, [1, 85, 1, 0, 7], 0, 0), (51, none, .iinc 2 1, 3, [], 1, 0), (54, none, .goto (-42), 3, [12], 0, 0), (57, none, .iconst 1, 1, [], 1, 0), (58, none, .ireturn, 1, [], 0, 0)]
def k_X4_readAsk : List EN := [(0, none, .aload_n 0, 1, [], 0, 0), (1, none, .ldc 191, 2, [13], 0, 0), (3, none, .invokevirtual 81, 3, [1, 49, 1, 1, 4], 0, 0), (6, some [0, 1], .ifCond .eq 36, 3, [42], 0, 0), (9, none, .aload_n 0, 1, [], 0, 0), (10, none, .iload_n 1, 1, [], 0, 0), (11, none, .invokevirtual 148, 3, [1, 45, 1, 1, 4], 0, 0), (14, some [0, 1], .ifCond .eq 26, 3, [40], 0, 0), (17, none, .aload_n 0, 1, [], 0, 0), (18, none, .iload_n 1, 1, [], 0, 0), (19, none, .iconst 1, 1, [], 1, 0), (20, none, .iadd, 1, [], 0, 0), (21, none, .invokevirtual 186, 3, [1, 40, 1, 1, 4], 0, 0), (24, some [0], .ifCond .eq 16, 3, [40], 0, 0), (27, none, .aload_n 0, 1, [], 0, 0), (28, none, .bipush 14, 2, [], 14, 0), (30, none, .invokevirtual 115, 3, [1, 44, 1, 1, 4], 0, 0), (33, none, .ifCond .eq 7, 3, [40], 0, 0), (36, none, .iconst 1, 1, [], 1, 0), (37, none, .goto 4, 3, [41], 0, 0), (40, none, .iconst 0, 1, [], 0, 0), (41, none, .ireturn, 1, [], 0, 0), (42, none, .aload_n 0, 1, [], 0, 0), (43, none, .iload_n 1, 1, [], 0, 0), (44, none, .invokevirtual 108, 3, [1, 34, 1, 1, 4], 0, 0), (47, some [0, 1], .ifCond .ne 5, 3, [52], 0, 0), (50, none, .iconst 0, 1, [], 0, 0), (51, none, .ireturn, 1, [], 0, 0), (52, none, .aload_n 0, 1, [], 0, 0), (53, none, .invokevirtual 193, 3, [1, 41, 0, 1, 4], 0, 0), (56, some [0, 1], .istore_n 2, 1, [], 0, 0), (57, none, .iload_n 2, 1, [], 0, 0), (58, none, .ifCond .ne 9, 3, [67], 0, 0), (61, none, .aload_n 0, 1, [], 0, 0), (62, none, .iconst 1, 1, [], 1, 0), (63, none, .invokevirtual 64, 3, [1, 27, 1, 1, 4], 0, 0), (66, none, .ireturn, 1, [], 0, 0), (67, none, .aload_n 0, 1, [], 0, 0), (68, none, .invokevirtual 53, 3, [1, 50, 0, 0, 4], 0, 0), (71, some [0, 1, 2], .aload_n 0, 1, [], 0, 0), (72, none, .iload_n 1, 1, [], 0, 0), (73, none, .invokevirtual 108, 3, [1, 34, 1, 1, 4], 0, 0), (76, some [0, 2], .ifCond .eq 15, 3, [91], 0, 0), (79, none, .aload_n 0, 1, [], 0, 0), (80, none, .iload_n 2, 1, [], 0, 0), (81, none, .invokevirtual 115, 3, [1, 44, 1, 1, 4], 0, 0), (84, none, .ifCond .eq 7, 3, [91], 0, 0), (87, none, .iconst 1, 1, [], 1, 0), (88, none, .goto 4, 3, [92], 0, 0), (91, none, .iconst 0, 1, [], 0, 0), (92, none, .ireturn, 1, [], 0, 0)]
def k_X4_comparison : List EN := [(0, none, .aload_n 0, 1, [], 0, 0), (1, none, .getfield 36, 3, [4, 7, 0], 0, 0), (4, none, .lookupswitch 78 #[(35, 75), (60, 60), (61, 72), (62, 66), (316, 63), (318, 69)], 60, [82, 35, 79, 60, 64, 61, 76, 62, 70, 316, 67, 318, 73], 0, 0), (64, none, .bipush 8, 2, [], 8, 0), (66, none, .ireturn, 1, [], 0, 0), (67, none, .bipush 9, 2, [], 9, 0), (69, none, .ireturn, 1, [], 0, 0), (70, none, .bipush 10, 2, [], 10, 0), (72, none, .ireturn, 1, [], 0, 0), (73, none, .bipush 11, 2, [], 11, 0), (75, none, .ireturn, 1, [], 0, 0), (76, none, .bipush 12, 2, [], 12, 0), (78, none, .ireturn, 1, [], 0, 0), (79, none, .bipush 13, 2, [], 13, 0), (81, none, .ireturn, 1, [], 0, 0), (82, none, .iconst 0, 1, [], 0, 0), (83, none, .ireturn, 1, [], 0, 0)]
def k_X4_readName : List EN := [(0, none, .aload_n 0, 1, [], 0, 0), (1, none, .invokevirtual 196, 3, [1, 43, 0, 1, 4], 0, 0), (4, some [0], .istore_n 1, 1, [], 0, 0), (5, none, .iload_n 1, 1, [], 0, 0), (6, none, .iconst (-1), 1, [], (-1), 0), (7, none, .if_icmp .ne 9, 3, [16], 0, 0), (10, none, .aload_n 0, 1, [], 0, 0), (11, none, .iconst 1, 1, [], 1, 0), (12, none, .invokevirtual 64, 3, [1, 27, 1, 1, 4], 0, 0), (15, none, .ireturn, 1, [], 0, 0), (16, none, .iload_n 1, 1, [], 0, 0), (17, none, .iconst 5, 1, [], 5, 0), (18, none, .if_icmp .eq 9, 3, [27], 0, 0), (21, none, .iload_n 1, 1, [], 0, 0), (22, none, .bipush 6, 2, [], 6, 0), (24, none, .if_icmp .ne 7, 3, [31], 0, 0), (27, none, .iconst 1, 1, [], 1, 0), (28, none, .goto 4, 3, [32], 0, 0), (31, none, .iconst 0, 1, [], 0, 0), (32, some [0, 1], .istore_n 2, 1, [], 0, 0), (33, none, .iload_n 1, 1, [], 0, 0), (34, none, .bipush 7, 2, [], 7, 0), (36, none, .if_icmp .eq 9, 3, [45], 0, 0), (39, none, .iload_n 1, 1, [], 0, 0), (40, none, .bipush 8, 2, [], 8, 0), (42, none, .if_icmp .ne 7, 3, [49], 0, 0), (45, none, .iconst 1, 1, [], 1, 0), (46, none, .goto 4, 3, [50], 0, 0), (49, none, .iconst 0, 1, [], 0, 0), (50, some [0, 1, 2], .istore_n 3, 1, [], 0, 0), (51, none, .aload_n 0, 1, [], 0, 0), (52, none, .getfield 33, 3, [4, 6, 3], 0, 0), (55, none, .ifCond .eq 10, 3, [65], 0, 0), (58, none, .iload_n 3, 1, [], 0, 0), (59, none, .ifCond .eq 16, 3, [75], 0, 0), (62, none, .goto 7, 3, [69], 0, 0), (65, none, .iload_n 2, 1, [], 0, 0), (66, none, .ifCond .eq 9, 3, [75], 0, 0), (69, none, .aload_n 0, 1, [], 0, 0), (70, none, .iconst 5, 1, [], 5, 0), (71, none, .invokevirtual 64, 3, [1, 27, 1, 1, 4], 0, 0), (74, none, .ireturn, 1, [], 0, 0), (75, none, .aload_n 0, 1, [], 0, 0), (76, none, .getfield 29, 3, [4, 5, 2], 0, 0), (79, none, .bipush 32, 2, [], 32, 0), (81, none, .iload_n 1, 1, [], 0, 0), (82, none, .iadd, 1, [], 0, 0), (83, none, .invokevirtual 141, 3, [1, 85, 1, 0, 7], 0, 0), (86, some [0], .aload_n 0, 1, [], 0, 0), (87, none, .invokevirtual 53, 3, [1, 50, 0, 0, 4], 0, 0), (90, none, .iconst 1, 1, [], 1, 0), (91, none, .ireturn, 1, [], 0, 0)]
def k_X4_nameOfToken : List EN := [(0, none, .aload_n 0, 1, [], 0, 0), (1, none, .ldc 99, 2, [8], 0, 0), (3, none, .invokevirtual 81, 3, [1, 49, 1, 1, 4], 0, 0), (6, some [0], .ifCond .eq 5, 3, [11], 0, 0), (9, none, .iconst 0, 1, [], 0, 0), (10, none, .ireturn, 1, [], 0, 0), (11, none, .aload_n 0, 1, [], 0, 0), (12, none, .ldc 199, 2, [19], 0, 0), (14, none, .invokevirtual 81, 3, [1, 49, 1, 1, 4], 0, 0), (17, some [0], .ifCond .eq 5, 3, [22], 0, 0), (20, none, .iconst 1, 1, [], 1, 0), (21, none, .ireturn, 1, [], 0, 0), (22, none, .aload_n 0, 1, [], 0, 0), (23, none, .ldc 129, 2, [20], 0, 0), (25, none, .invokevirtual 81, 3, [1, 49, 1, 1, 4], 0, 0), (28, some [0], .ifCond .eq 5, 3, [33], 0, 0), (31, none, .iconst 2, 1, [], 2, 0), (32, none, .ireturn, 1, [], 0, 0), (33, none, .aload_n 0, 1, [], 0, 0), (34, none, .ldc 201, 2, [21], 0, 0), (36, none, .invokevirtual 81, 3, [1, 49, 1, 1, 4], 0, 0), (39, some [0], .ifCond .eq 5, 3, [44], 0, 0), (42, none, .iconst 3, 1, [], 3, 0), (43, none, .ireturn, 1, [], 0, 0), (44, none, .aload_n 0, 1, [], 0, 0), (45, none, .ldc 203, 2, [22], 0, 0), (47, none, .invokevirtual 81, 3, [1, 49, 1, 1, 4], 0, 0), (50, some [0], .ifCond .eq 5, 3, [55], 0, 0), (53, none, .iconst 4, 1, [], 4, 0), (54, none, .ireturn, 1, [], 0, 0), (55, none, .aload_n 0, 1, [], 0, 0), (56, none, .ldc 205, 2, [23], 0, 0), (58, none, .invokevirtual 81, 3, [1, 49, 1, 1, 4], 0, 0), (61, some [0], .ifCond .eq 5, 3, [66], 0, 0), (64, none, .iconst 5, 1, [], 5, 0), (65, none, .ireturn, 1, [], 0, 0), (66, none, .aload_n 0, 1, [], 0, 0), (67, none, .ldc 207, 2, [24], 0, 0), (69, none, .invokevirtual 81, 3, [1, 49, 1, 1, 4], 0, 0), (72, some [0], .ifCond .eq 6, 3, [78], 0, 0), (75, none, .bipush 6, 2, [], 6, 0), (77, none, .ireturn, 1, [], 0, 0), (78, none, .aload_n 0, 1, [], 0, 0), (79, none, .ldc 209, 2, [25], 0, 0), (81, none, .invokevirtual 81, 3, [1, 49, 1, 1, 4], 0, 0), (84, some [0], .ifCond .eq 6, 3, [90], 0, 0), (87, none, .bipush 7, 2, [], 7, 0), (89, none, .ireturn, 1, [], 0, 0), (90, none, .aload_n 0, 1, [], 0, 0), (91, none, .ldc 211, 2, [26], 0, 0), (93, none, .invokevirtual 81, 3, [1, 49, 1, 1, 4], 0, 0), (96, none, .ifCond .eq 8, 3, [104], 0, 0), (99, none, .bipush 8, 2, [], 8, 0), (101, none, .goto 4, 3, [105], 0, 0), (104, none, .iconst (-1), 1, [], (-1), 0), (105, none, .ireturn, 1, [], 0, 0)]
def k_X4_put : List EN := [(0, none, .aload_n 0, 1, [], 0, 0), (1, none, .getfield 29, 3, [4, 5, 2], 0, 0), (4, none, .iload_n 1, 1, [], 0, 0), (5, none, .invokevirtual 141, 3, [1, 85, 1, 0, 7], 0, 0), (8, none, .iconst 1, 1, [], 1, 0), (9, none, .ireturn, 1, [], 0, 0)]
def k_X4_takeOpening : List EN := [(0, none, .iload_n 1, 1, [], 0, 0), (1, none, .bipush 8, 2, [], 8, 0), (3, none, .if_icmp .lt 9, 3, [12], 0, 0), (6, none, .aload_n 0, 1, [], 0, 0), (7, none, .iconst 3, 1, [], 3, 0), (8, none, .invokevirtual 64, 3, [1, 27, 1, 1, 4], 0, 0), (11, none, .ireturn, 1, [], 0, 0), (12, none, .aload_n 0, 1, [], 0, 0), (13, none, .invokevirtual 53, 3, [1, 50, 0, 0, 4], 0, 0), (16, none, .iconst 1, 1, [], 1, 0), (17, none, .ireturn, 1, [], 0, 0)]
def k_X4_takeNumber : List EN := [(0, none, .aload_n 0, 1, [], 0, 0), (1, none, .getfield 36, 3, [4, 7, 0], 0, 0), (4, none, .iconst 1, 1, [], 1, 0), (5, none, .if_icmp .eq 9, 3, [14], 0, 0), (8, none, .aload_n 0, 1, [], 0, 0), (9, none, .iconst 1, 1, [], 1, 0), (10, none, .invokevirtual 64, 3, [1, 27, 1, 1, 4], 0, 0), (13, none, .ireturn, 1, [], 0, 0), (14, none, .aload_n 0, 1, [], 0, 0), (15, none, .getfield 45, 3, [4, 10, 0], 0, 0), (18, none, .iload_n 1, 1, [], 0, 0), (19, none, .iload_n 2, 1, [], 0, 0), (20, none, .invokestatic 213, 3, [0, 146, 3, 1], 0, 0), (23, some [0], .ifCond .ne 9, 3, [32], 0, 0), (26, none, .aload_n 0, 1, [], 0, 0), (27, none, .iconst 2, 1, [], 2, 0), (28, none, .invokevirtual 64, 3, [1, 27, 1, 1, 4], 0, 0), (31, none, .ireturn, 1, [], 0, 0), (32, none, .aload_n 0, 1, [], 0, 0), (33, none, .invokevirtual 53, 3, [1, 50, 0, 0, 4], 0, 0), (36, none, .iconst 1, 1, [], 1, 0), (37, none, .ireturn, 1, [], 0, 0)]
def k_X4_takeWord : List EN := [(0, none, .aload_n 0, 1, [], 0, 0), (1, none, .aload_n 1, 1, [], 0, 0), (2, none, .invokevirtual 81, 3, [1, 49, 1, 1, 4], 0, 0), (5, some [0], .ifCond .ne 9, 3, [14], 0, 0), (8, none, .aload_n 0, 1, [], 0, 0), (9, none, .iconst 1, 1, [], 1, 0), (10, none, .invokevirtual 64, 3, [1, 27, 1, 1, 4], 0, 0), (13, none, .ireturn, 1, [], 0, 0), (14, none, .aload_n 0, 1, [], 0, 0), (15, none, .invokevirtual 53, 3, [1, 50, 0, 0, 4], 0, 0), (18, none, .iconst 1, 1, [], 1, 0), (19, none, .ireturn, 1, [], 0, 0)]
def k_X4_takeSign : List EN := [(0, none, .aload_n 0, 1, [], 0, 0), (1, none, .getfield 36, 3, [4, 7, 0], 0, 0), (4, none, .iload_n 1, 1, [], 0, 0), (5, none, .if_icmp .eq 9, 3, [14], 0, 0), (8, none, .aload_n 0, 1, [], 0, 0), (9, none, .iconst 1, 1, [], 1, 0), (10, none, .invokevirtual 64, 3, [1, 27, 1, 1, 4], 0, 0), (13, none, .ireturn, 1, [], 0, 0), (14, none, .aload_n 0, 1, [], 0, 0), (15, none, .invokevirtual 53, 3, [1, 50, 0, 0, 4], 0, 0), (18, none, .iconst 1, 1, [], 1, 0), (19, none, .ireturn, 1, [], 0, 0)]
def k_X4_isWord : List EN := [(0, none, .aload_n 0, 1, [], 0, 0), (1, none, .getfield 36, 3, [4, 7, 0], 0, 0), (4, none, .iconst 2, 1, [], 2, 0), (5, none, .if_icmp .ne 19, 3, [24], 0, 0), (8, none, .aload_n 0, 1, [], 0, 0), (9, none, .getfield 42, 3, [4, 9, 0], 0, 0), (12, none, .aload_n 0, 1, [], 0, 0), (13, none, .getfield 39, 3, [4, 8, 0], 0, 0), (16, none, .isub, 1, [], 0, 0), (17, none, .aload_n 1, 1, [], 0, 0), (18, none, .invokevirtual 217, 3, [2, 6], 0, 0), (21, none, .if_icmp .eq 5, 3, [26], 0, 0), (24, none, .iconst 0, 1, [], 0, 0), (25, none, .ireturn, 1, [], 0, 0), (26, none, .iconst 0, 1, [], 0, 0), (27, none, .istore_n 2, 1, [], 0, 0), (28, some [0, 1, 2], .aload_n 0, 1, [], 0, 0), (29, none, .getfield 39, 3, [4, 8, 0], 0, 0), (32, none, .iload_n 2, 1, [], 0, 0), (33, none, .iadd, 1, [], 0, 0), (34, none, .aload_n 0, 1, [], 0, 0), (35, none, .getfield 42, 3, [4, 9, 0], 0, 0), (38, none, .if_icmp .ge 30, 3, [68], 0, 0), (41, none, .aload_n 0, 1, [], 0, 0), (42, none, .getfield 25, 3, [4, 4, 2], 0, 0), (45, none, .aload_n 0, 1, [], 0, 0), (46, none, .getfield 39, 3, [4, 8, 0], 0, 0), (49, none, .iload_n 2, 1, [], 0, 0), (50, none, .iadd, 1, [], 0, 0), (51, none, .iaload, 1, [], 0, 0), (52, none, .aload_n 1, 1, [], 0, 0), (53, none, .iload_n 2, 1, [], 0, 0), (54, none, .invokevirtual 221, 3, [2, 7], 0, 0), (57, none, .if_icmp .eq 5, 3, [62], 0, 0), (60, none, .iconst 0, 1, [], 0, 0), (61, none, .ireturn, 1, [], 0, 0), (62, none, .iinc 2 1, 3, [], 1, 0), (65, none, .goto (-37), 3, [28], 0, 0), (68, none, .iconst 1, 1, [], 1, 0), (69, none, .ireturn, 1, [], 0, 0)]
def k_X4_advance : List EN := [(0, none, .aload_n 0, 1, [], 0, 0), (1, none, .aload_n 0, 1, [], 0, 0), (2, none, .getfield 42, 3, [4, 9, 0], 0, 0), (5, none, .putfield 39, 3, [4, 8, 0], 0, 0), (8, some [0], .aload_n 0, 1, [], 0, 0), (9, none, .getfield 39, 3, [4, 8, 0], 0, 0), (12, none, .aload_n 0, 1, [], 0, 0), (13, none, .getfield 9, 3, [4, 0, 0], 0, 0), (16, none, .if_icmp .ge 44, 3, [60], 0, 0), (19, none, .aload_n 0, 1, [], 0, 0), (20, none, .getfield 25, 3, [4, 4, 2], 0, 0), (23, none, .aload_n 0, 1, [], 0, 0), (24, none, .getfield 39, 3, [4, 8, 0], 0, 0), (27, none, .iaload, 1, [], 0, 0), (28, none, .bipush 32, 2, [], 32, 0), (30, none, .if_icmp .eq 17, 3, [47], 0, 0), (33, none, .aload_n 0, 1, [], 0, 0), (34, none, .getfield 25, 3, [4, 4, 2], 0, 0), (37, none, .aload_n 0, 1, [], 0, 0), (38, none, .getfield 39, 3, [4, 8, 0], 0, 0), (41, none, .iaload, 1, [], 0, 0), (42, none, .bipush 10, 2, [], 10, 0), (44, none, .if_icmp .ne 16, 3, [60], 0, 0), (47, none, .aload_n 0, 1, [], 0, 0), (48, none, .dup, 1, [], 0, 0), (49, none, .getfield 39, 3, [4, 8, 0], 0, 0), (52, none, .iconst 1, 1, [], 1, 0), (53, none, .iadd, 1, [], 0, 0), (54, none, .putfield 39, 3, [4, 8, 0], 0, 0), (57, none, .goto (-49), 3, [8], 0, 0), (60, some [0], .aload_n 0, 1, [], 0, 0), (61, none, .aload_n 0, 1, [], 0, 0), (62, none, .getfield 39, 3, [4, 8, 0], 0, 0), (65, none, .putfield 42, 3, [4, 9, 0], 0, 0), (68, none, .aload_n 0, 1, [], 0, 0), (69, none, .getfield 39, 3, [4, 8, 0], 0, 0), (72, none, .aload_n 0, 1, [], 0, 0), (73, none, .getfield 9, 3, [4, 0, 0], 0, 0), (76, none, .if_icmp .lt 11, 3, [87], 0, 0), (79, none, .aload_n 0, 1, [], 0, 0), (80, none, .iconst 0, 1, [], 0, 0), (81, none, .putfield 36, 3, [4, 7, 0], 0, 0), (84, none, .goto 88, 3, [172], 0, 0), (87, none, .aload_n 0, 1, [], 0, 0), (88, none, .getfield 25, 3, [4, 4, 2], 0, 0), (91, none, .aload_n 0, 1, [], 0, 0), (92, none, .getfield 39, 3, [4, 8, 0], 0, 0), (95, none, .iaload, 1, [], 0, 0), (96, none, .invokestatic 225, 3, [0, 53, 1, 1], 0, 0), (99, some [0], .ifCond .eq 47, 3, [146], 0, 0), (102, none, .aload_n 0, 1, [], 0, 0), (103, none, .iconst 2, 1, [], 2, 0), (104, none, .putfield 36, 3, [4, 7, 0], 0, 0), (107, some [0], .aload_n 0, 1, [], 0, 0), (108, none, .getfield 42, 3, [4, 9, 0], 0, 0), (111, none, .aload_n 0, 1, [], 0, 0), (112, none, .getfield 9, 3, [4, 0, 0], 0, 0), (115, none, .if_icmp .ge 57, 3, [172], 0, 0), (118, none, .aload_n 0, 1, [], 0, 0), (119, none, .getfield 25, 3, [4, 4, 2], 0, 0), (122, none, .aload_n 0, 1, [], 0, 0), (123, none, .getfield 42, 3, [4, 9, 0], 0, 0), (126, none, .iaload, 1, [], 0, 0), (127, none, .invokestatic 225, 3, [0, 53, 1, 1], 0, 0), (130, some [0], .ifCond .eq 42, 3, [172], 0, 0), (133, none, .aload_n 0, 1, [], 0, 0), (134, none, .dup, 1, [], 0, 0), (135, none, .getfield 42, 3, [4, 9, 0], 0, 0), (138, none, .iconst 1, 1, [], 1, 0), (139, none, .iadd, 1, [], 0, 0), (140, none, .putfield 42, 3, [4, 9, 0], 0, 0), (143, none, .goto (-36), 3, [107], 0, 0), (146, none, .aload_n 0, 1, [], 0, 0), (147, none, .getfield 25, 3, [4, 4, 2], 0, 0), (150, none, .aload_n 0, 1, [], 0, 0), (151, none, .getfield 39, 3, [4, 8, 0], 0, 0), (154, none, .iaload, 1, [], 0, 0), (155, none, .invokestatic 228, 3, [0, 54, 1, 1], 0, 0), (158, some [0], .ifCond .eq 10, 3, [168], 0, 0), (161, none, .aload_n 0, 1, [], 0, 0), (162, none, .invokevirtual 231, 3, [1, 51, 0, 0, 4], 0, 0), (165, none, .goto 7, 3, [172], 0, 0), (168, none, .aload_n 0, 1, [], 0, 0), (169, none, .invokevirtual 234, 3, [1, 52, 0, 0, 4], 0, 0), (172, none, .return_, 1, [], 0, 0)]
def k_X4_scanNumber : List EN := [(0, none, .aload_n 0, 1, [], 0, 0), (1, none, .iconst 1, 1, [], 1, 0), (2, none, .putfield 36, 3, [4, 7, 0], 0, 0), (5, none, .aload_n 0, 1, [], 0, 0), (6, none, .iconst 0, 1, [], 0, 0), (7, none, .putfield 45, 3, [4, 10, 0], 0, 0), (10, some [0], .aload_n 0, 1, [], 0, 0), (11, none, .getfield 42, 3, [4, 9, 0], 0, 0), (14, none, .aload_n 0, 1, [], 0, 0), (15, none, .getfield 9, 3, [4, 0, 0], 0, 0), (18, none, .if_icmp .ge 61, 3, [79], 0, 0), (21, none, .aload_n 0, 1, [], 0, 0), (22, none, .getfield 25, 3, [4, 4, 2], 0, 0), (25, none, .aload_n 0, 1, [], 0, 0), (26, none, .getfield 42, 3, [4, 9, 0], 0, 0), (29, none, .iaload, 1, [], 0, 0), (30, none, .invokestatic 228, 3, [0, 54, 1, 1], 0, 0), (33, some [0], .ifCond .eq 46, 3, [79], 0, 0), (36, none, .aload_n 0, 1, [], 0, 0), (37, none, .sipush 10000, 3, [], 10000, 0), (40, none, .aload_n 0, 1, [], 0, 0), (41, none, .getfield 45, 3, [4, 10, 0], 0, 0), (44, none, .bipush 10, 2, [], 10, 0), (46, none, .imul, 1, [], 0, 0), (47, none, .aload_n 0, 1, [], 0, 0), (48, none, .getfield 25, 3, [4, 4, 2], 0, 0), (51, none, .aload_n 0, 1, [], 0, 0), (52, none, .getfield 42, 3, [4, 9, 0], 0, 0), (55, none, .iaload, 1, [], 0, 0), (56, none, .iadd, 1, [], 0, 0), (57, none, .bipush 48, 2, [], 48, 0), (59, none, .isub, 1, [], 0, 0), (60, none, .invokestatic 237, 3, [2, 1], 0, 0), (63, none, .putfield 45, 3, [4, 10, 0], 0, 0), (66, none, .aload_n 0, 1, [], 0, 0), (67, none, .dup, 1, [], 0, 0), (68, none, .getfield 42, 3, [4, 9, 0], 0, 0), (71, none, .iconst 1, 1, [], 1, 0), (72, none, .iadd, 1, [], 0, 0), (73, none, .putfield 42, 3, [4, 9, 0], 0, 0), (76, none, .goto (-66), 3, [10], 0, 0), (79, none, .return_, 1, [], 0, 0)]
def k_X4_scanSign : List EN := [(0, none, .aload_n 0, 1, [], 0, 0), (1, none, .getfield 25, 3, [4, 4, 2], 0, 0), (4, none, .aload_n 0, 1, [], 0, 0), (5, none, .getfield 39, 3, [4, 8, 0], 0, 0), (8, none, .iaload, 1, [], 0, 0), (9, none, .istore_n 1, 1, [], 0, 0), (10, none, .aload_n 0, 1, [], 0, 0), (11, none, .aload_n 0, 1, [], 0, 0), (12, none, .getfield 39, 3, [4, 8, 0], 0, 0), (15, none, .iconst 1, 1, [], 1, 0), (16, none, .iadd, 1, [], 0, 0), (17, none, .putfield 42, 3, [4, 9, 0], 0, 0), (20, none, .iload_n 1, 1, [], 0, 0), (21, none, .tableswitch 187 35 62 #[179, 187, 187, 187, 187, 179, 179, 179, 179, 187, 179, 187, 179, 187, 187, 187, 187, 187, 187, 187, 187, 187, 187, 187, 179, 127, 179, 127], 127, [208, 35, 200, 208, 208, 208, 208, 200, 200, 200, 200, 208, 200, 208, 200, 208, 208, 208, 208, 208, 208, 208, 208, 208, 208, 208, 200, 148, 200, 148], 0, 0), (148, none, .aload_n 0, 1, [], 0, 0), (149, none, .iload_n 1, 1, [], 0, 0), (150, none, .putfield 36, 3, [4, 7, 0], 0, 0), (153, none, .aload_n 0, 1, [], 0, 0), (154, none, .getfield 42, 3, [4, 9, 0], 0, 0), (157, none, .aload_n 0, 1, [], 0, 0), (158, none, .getfield 9, 3, [4, 0, 0], 0, 0), (161, none, .if_icmp .ge 52, 3, [213], 0, 0), (164, none, .aload_n 0, 1, [], 0, 0), (165, none, .getfield 25, 3, [4, 4, 2], 0, 0), (168, none, .aload_n 0, 1, [], 0, 0), (169, none, .getfield 42, 3, [4, 9, 0], 0, 0), (172, none, .iaload, 1, [], 0, 0), (173, none, .bipush 61, 2, [], 61, 0), (175, none, .if_icmp .ne 38, 3, [213], 0, 0), (178, none, .aload_n 0, 1, [], 0, 0), (179, none, .iload_n 1, 1, [], 0, 0), (180, none, .sipush 256, 3, [], 256, 0), (183, none, .iadd, 1, [], 0, 0), (184, none, .putfield 36, 3, [4, 7, 0], 0, 0), (187, none, .aload_n 0, 1, [], 0, 0), (188, none, .dup, 1, [], 0, 0), (189, none, .getfield 42, 3, [4, 9, 0], 0, 0), (192, none, .iconst 1, 1, [], 1, 0), (193, none, .iadd, 1, [], 0, 0), (194, none, .putfield 42, 3, [4, 9, 0], 0, 0), (197, none, .goto 16, 3, [213], 0, 0), (200, none, .aload_n 0, 1, [], 0, 0), (201, none, .iload_n 1, 1, [], 0, 0), (202, none, .putfield 36, 3, [4, 7, 0], 0, 0), (205, none, .goto 8, 3, [213], 0, 0), (208, none, .aload_n 0, 1, [], 0, 0), (209, none, .iconst 3, 1, [], 3, 0), (210, none, .putfield 36, 3, [4, 7, 0], 0, 0), (213, none, .return_, 1, [], 0, 0)]
def k_X4_isLetter : List EN := [(0, none, .iload_n 0, 1, [], 0, 0), (1, none, .bipush 97, 2, [], 97, 0), (3, none, .if_icmp .lt 9, 3, [12], 0, 0), (6, none, .iload_n 0, 1, [], 0, 0), (7, none, .bipush 122, 2, [], 122, 0), (9, none, .if_icmp .le 15, 3, [24], 0, 0), (12, none, .iload_n 0, 1, [], 0, 0), (13, none, .bipush 65, 2, [], 65, 0), (15, none, .if_icmp .lt 13, 3, [28], 0, 0), (18, none, .iload_n 0, 1, [], 0, 0), (19, none, .bipush 90, 2, [], 90, 0), (21, none, .if_icmp .gt 7, 3, [28], 0, 0), (24, none, .iconst 1, 1, [], 1, 0), (25, none, .goto 4, 3, [29], 0, 0), (28, none, .iconst 0, 1, [], 0, 0), (29, none, .ireturn, 1, [], 0, 0)]
def k_X4_isDigit : List EN := [(0, none, .iload_n 0, 1, [], 0, 0), (1, none, .bipush 48, 2, [], 48, 0), (3, none, .if_icmp .lt 13, 3, [16], 0, 0), (6, none, .iload_n 0, 1, [], 0, 0), (7, none, .bipush 57, 2, [], 57, 0), (9, none, .if_icmp .gt 7, 3, [16], 0, 0), (12, none, .iconst 1, 1, [], 1, 0), (13, none, .goto 4, 3, [17], 0, 0), (16, none, .iconst 0, 1, [], 0, 0), (17, none, .ireturn, 1, [], 0, 0)]
def k_X5_init : List EN := [(0, none, .aload_n 0, 1, [], 0, 0), (1, none, .invokespecial 3, 3, [2, 8], 0, 0), (4, none, .aload_n 0, 1, [], 0, 0), (5, none, .iconst 0, 1, [], 0, 0), (6, none, .putfield 9, 3, [5, 0, 0], 0, 0), (9, none, .aload_n 0, 1, [], 0, 0), (10, none, .iconst 0, 1, [], 0, 0), (11, none, .putfield 15, 3, [5, 1, 0], 0, 0), (14, none, .aload_n 0, 1, [], 0, 0), (15, none, .iconst 0, 1, [], 0, 0), (16, none, .putfield 18, 3, [5, 2, 0], 0, 0), (19, none, .aload_n 0, 1, [], 0, 0), (20, none, .iconst 0, 1, [], 0, 0), (21, none, .putfield 21, 3, [5, 3, 0], 0, 0), (24, none, .aload_n 0, 1, [], 0, 0), (25, none, .sipush 317, 3, [], 317, 0), (28, none, .putfield 24, 3, [5, 4, 0], 0, 0), (31, none, .aload_n 0, 1, [], 0, 0), (32, none, .iconst 0, 1, [], 0, 0), (33, none, .putfield 27, 3, [5, 5, 0], 0, 0), (36, none, .aload_n 0, 1, [], 0, 0), (37, none, .iconst 5, 1, [], 5, 0), (38, none, .newarray .int, 2, [0], 0, 0), (40, none, .putfield 30, 3, [5, 6, 2], 0, 0), (43, none, .aload_n 0, 1, [], 0, 0), (44, none, .iconst 5, 1, [], 5, 0), (45, none, .newarray .int, 2, [0], 0, 0), (47, none, .putfield 34, 3, [5, 7, 2], 0, 0), (50, none, .aload_n 0, 1, [], 0, 0), (51, none, .iconst 5, 1, [], 5, 0), (52, none, .newarray .int, 2, [0], 0, 0), (54, none, .putfield 37, 3, [5, 8, 2], 0, 0), (57, none, .aload_n 0, 1, [], 0, 0), (58, none, .iconst 5, 1, [], 5, 0), (59, none, .newarray .int, 2, [0], 0, 0), (61, none, .putfield 40, 3, [5, 9, 2], 0, 0), (64, none, .aload_n 0, 1, [], 0, 0), (65, none, .bipush 30, 2, [], 30, 0), (67, none, .newarray .int, 2, [0], 0, 0), (69, none, .putfield 43, 3, [5, 10, 2], 0, 0), (72, none, .return_, 1, [], 0, 0)]
def k_X5_has : List EN := [(0, none, .iload_n 1, 1, [], 0, 0), (1, none, .ifCond .lt 15, 3, [16], 0, 0), (4, none, .iload_n 1, 1, [], 0, 0), (5, none, .aload_n 0, 1, [], 0, 0), (6, none, .getfield 9, 3, [5, 0, 0], 0, 0), (9, none, .if_icmp .ge 7, 3, [16], 0, 0), (12, none, .iconst 1, 1, [], 1, 0), (13, none, .goto 4, 3, [17], 0, 0), (16, none, .iconst 0, 1, [], 0, 0), (17, none, .ireturn, 1, [], 0, 0)]
def k_X5_add : List EN := [(0, none, .aload_n 0, 1, [], 0, 0), (1, none, .getfield 9, 3, [5, 0, 0], 0, 0), (4, none, .iconst 5, 1, [], 5, 0), (5, none, .if_icmp .lt 4, 3, [9], 0, 0), (8, none, .return_, 1, [], 0, 0), (9, none, .aload_n 0, 1, [], 0, 0), (10, none, .getfield 30, 3, [5, 6, 2], 0, 0), (13, none, .aload_n 0, 1, [], 0, 0), (14, none, .getfield 9, 3, [5, 0, 0], 0, 0), (17, none, .iload_n 1, 1, [], 0, 0), (18, none, .iastore, 1, [], 0, 0), (19, none, .aload_n 0, 1, [], 0, 0), (20, none, .getfield 37, 3, [5, 8, 2], 0, 0), (23, none, .aload_n 0, 1, [], 0, 0), (24, none, .getfield 9, 3, [5, 0, 0], 0, 0), (27, none, .iload_n 1, 1, [], 0, 0), (28, none, .iastore, 1, [], 0, 0), (29, none, .aload_n 0, 1, [], 0, 0), (30, none, .getfield 34, 3, [5, 7, 2], 0, 0), (33, none, .aload_n 0, 1, [], 0, 0), (34, none, .getfield 9, 3, [5, 0, 0], 0, 0), (37, none, .iload_n 2, 1, [], 0, 0), (38, none, .iastore, 1, [], 0, 0), (39, none, .aload_n 0, 1, [], 0, 0), (40, none, .getfield 40, 3, [5, 9, 2], 0, 0), (43, none, .aload_n 0, 1, [], 0, 0), (44, none, .getfield 9, 3, [5, 0, 0], 0, 0), (47, none, .aload_n 0, 1, [], 0, 0), (48, none, .getfield 9, 3, [5, 0, 0], 0, 0), (51, none, .iastore, 1, [], 0, 0), (52, none, .aload_n 0, 1, [], 0, 0), (53, none, .dup, 1, [], 0, 0), (54, none, .getfield 9, 3, [5, 0, 0], 0, 0), (57, none, .iconst 1, 1, [], 1, 0), (58, none, .iadd, 1, [], 0, 0), (59, none, .putfield 9, 3, [5, 0, 0], 0, 0), (62, none, .return_, 1, [], 0, 0)]
def k_X5_slantIn : List EN := [(0, none, .iload_n 1, 1, [], 0, 0), (1, none, .ifCond .lt 25, 3, [26], 0, 0), (4, none, .iload_n 1, 1, [], 0, 0), (5, none, .aload_n 0, 1, [], 0, 0), (6, none, .getfield 9, 3, [5, 0, 0], 0, 0), (9, none, .if_icmp .ge 17, 3, [26], 0, 0), (12, none, .aload_n 0, 1, [], 0, 0), (13, none, .getfield 30, 3, [5, 6, 2], 0, 0), (16, none, .aload_n 0, 1, [], 0, 0), (17, none, .getfield 40, 3, [5, 9, 2], 0, 0), (20, none, .iload_n 1, 1, [], 0, 0), (21, none, .iaload, 1, [], 0, 0), (22, none, .iaload, 1, [], 0, 0), (23, none, .goto 4, 3, [27], 0, 0), (26, none, .iconst 0, 1, [], 0, 0), (27, none, .ireturn, 1, [], 0, 0)]
def k_X5_seatOf : List EN := [(0, none, .iconst 0, 1, [], 0, 0), (1, none, .istore_n 2, 1, [], 0, 0), (2, some [0, 1, 2], .iload_n 2, 1, [], 0, 0), (3, none, .aload_n 0, 1, [], 0, 0), (4, none, .getfield 9, 3, [5, 0, 0], 0, 0), (7, none, .if_icmp .ge 21, 3, [28], 0, 0), (10, none, .aload_n 0, 1, [], 0, 0), (11, none, .getfield 40, 3, [5, 9, 2], 0, 0), (14, none, .iload_n 2, 1, [], 0, 0), (15, none, .iaload, 1, [], 0, 0), (16, none, .iload_n 1, 1, [], 0, 0), (17, none, .if_icmp .ne 5, 3, [22], 0, 0), (20, none, .iload_n 2, 1, [], 0, 0), (21, none, .ireturn, 1, [], 0, 0), (22, none, .iinc 2 1, 3, [], 1, 0), (25, none, .goto (-23), 3, [2], 0, 0), (28, none, .iconst (-1), 1, [], (-1), 0), (29, none, .ireturn, 1, [], 0, 0)]
def k_X5_isPropped : List EN := [(0, none, .aload_n 0, 1, [], 0, 0), (1, none, .getfield 15, 3, [5, 1, 0], 0, 0), (4, none, .iload_n 1, 1, [], 0, 0), (5, none, .ishr, 1, [], 0, 0), (6, none, .iconst 1, 1, [], 1, 0), (7, none, .iand, 1, [], 0, 0), (8, none, .ifCond .eq 7, 3, [15], 0, 0), (11, none, .iconst 1, 1, [], 1, 0), (12, none, .goto 4, 3, [16], 0, 0), (15, none, .iconst 0, 1, [], 0, 0), (16, none, .ireturn, 1, [], 0, 0)]
def k_X5_canChange : List EN := [(0, none, .iload_n 1, 1, [], 0, 0), (1, none, .iload_n 2, 1, [], 0, 0), (2, none, .if_icmp .eq 23, 3, [25], 0, 0), (5, none, .aload_n 0, 1, [], 0, 0), (6, none, .iload_n 1, 1, [], 0, 0), (7, none, .invokevirtual 46, 3, [1, 56, 1, 1, 5], 0, 0), (10, some [0, 2], .ifCond .eq 15, 3, [25], 0, 0), (13, none, .aload_n 0, 1, [], 0, 0), (14, none, .iload_n 2, 1, [], 0, 0), (15, none, .invokevirtual 46, 3, [1, 56, 1, 1, 5], 0, 0), (18, none, .ifCond .eq 7, 3, [25], 0, 0), (21, none, .iconst 1, 1, [], 1, 0), (22, none, .goto 4, 3, [26], 0, 0), (25, none, .iconst 0, 1, [], 0, 0), (26, none, .ireturn, 1, [], 0, 0)]
def k_X5_change : List EN := [(0, none, .aload_n 0, 1, [], 0, 0), (1, none, .getfield 40, 3, [5, 9, 2], 0, 0), (4, none, .iload_n 1, 1, [], 0, 0), (5, none, .iaload, 1, [], 0, 0), (6, none, .istore_n 3, 1, [], 0, 0), (7, none, .aload_n 0, 1, [], 0, 0), (8, none, .getfield 40, 3, [5, 9, 2], 0, 0), (11, none, .iload_n 1, 1, [], 0, 0), (12, none, .aload_n 0, 1, [], 0, 0), (13, none, .getfield 40, 3, [5, 9, 2], 0, 0), (16, none, .iload_n 2, 1, [], 0, 0), (17, none, .iaload, 1, [], 0, 0), (18, none, .iastore, 1, [], 0, 0), (19, none, .aload_n 0, 1, [], 0, 0), (20, none, .getfield 40, 3, [5, 9, 2], 0, 0), (23, none, .iload_n 2, 1, [], 0, 0), (24, none, .iload_n 3, 1, [], 0, 0), (25, none, .iastore, 1, [], 0, 0), (26, none, .return_, 1, [], 0, 0)]
def k_X5_turnAbout : List EN := [(0, none, .iconst 0, 1, [], 0, 0), (1, none, .istore_n 2, 1, [], 0, 0), (2, none, .iload_n 1, 1, [], 0, 0), (3, none, .iconst 1, 1, [], 1, 0), (4, none, .isub, 1, [], 0, 0), (5, none, .istore_n 3, 1, [], 0, 0), (6, some [0, 1, 2, 3], .iload_n 2, 1, [], 0, 0), (7, none, .iload_n 3, 1, [], 0, 0), (8, none, .if_icmp .ge 18, 3, [26], 0, 0), (11, none, .aload_n 0, 1, [], 0, 0), (12, none, .iload_n 2, 1, [], 0, 0), (13, none, .iload_n 3, 1, [], 0, 0), (14, none, .invokevirtual 50, 3, [1, 62, 2, 0, 5], 0, 0), (17, none, .iinc 2 1, 3, [], 1, 0), (20, none, .iinc 3 (-1), 3, [], (-1), 0), (23, none, .goto (-17), 3, [6], 0, 0), (26, none, .iconst 0, 1, [], 0, 0), (27, none, .istore_n 2, 1, [], 0, 0), (28, some [0, 1, 2], .iload_n 2, 1, [], 0, 0), (29, none, .iload_n 1, 1, [], 0, 0), (30, none, .if_icmp .ge 29, 3, [59], 0, 0), (33, none, .aload_n 0, 1, [], 0, 0), (34, none, .getfield 40, 3, [5, 9, 2], 0, 0), (37, none, .iload_n 2, 1, [], 0, 0), (38, none, .iaload, 1, [], 0, 0), (39, none, .istore_n 3, 1, [], 0, 0), (40, none, .aload_n 0, 1, [], 0, 0), (41, none, .getfield 30, 3, [5, 6, 2], 0, 0), (44, none, .iload_n 3, 1, [], 0, 0), (45, none, .aload_n 0, 1, [], 0, 0), (46, none, .getfield 30, 3, [5, 6, 2], 0, 0), (49, none, .iload_n 3, 1, [], 0, 0), (50, none, .iaload, 1, [], 0, 0), (51, none, .ineg, 1, [], 0, 0), (52, none, .iastore, 1, [], 0, 0), (53, none, .iinc 2 1, 3, [], 1, 0), (56, none, .goto (-28), 3, [28], 0, 0), (59, none, .return_, 1, [], 0, 0)]
def k_X5_canSetProp : List EN := [(0, none, .aload_n 0, 1, [], 0, 0), (1, none, .iload_n 1, 1, [], 0, 0), (2, none, .invokevirtual 46, 3, [1, 56, 1, 1, 5], 0, 0), (5, some [0, 1, 2], .ifCond .eq 16, 3, [21], 0, 0), (8, none, .aload_n 0, 1, [], 0, 0), (9, none, .iload_n 1, 1, [], 0, 0), (10, none, .invokevirtual 54, 3, [1, 60, 1, 1, 5], 0, 0), (13, none, .iload_n 2, 1, [], 0, 0), (14, none, .if_icmp .eq 7, 3, [21], 0, 0), (17, none, .iconst 1, 1, [], 1, 0), (18, none, .goto 4, 3, [22], 0, 0), (21, none, .iconst 0, 1, [], 0, 0), (22, none, .ireturn, 1, [], 0, 0)]
def k_X5_setProp : List EN := [(0, none, .aload_n 0, 1, [], 0, 0), (1, none, .aload_n 0, 1, [], 0, 0), (2, none, .getfield 15, 3, [5, 1, 0], 0, 0), (5, none, .iload_n 1, 1, [], 0, 0), (6, none, .iload_n 2, 1, [], 0, 0), (7, none, .invokestatic 57, 3, [0, 149, 3, 1], 0, 0), (10, some [], .putfield 15, 3, [5, 1, 0], 0, 0), (13, none, .return_, 1, [], 0, 0)]
def k_X5_renewX : List EN := [(0, none, .aload_n 0, 1, [], 0, 0), (1, none, .aload_n 0, 1, [], 0, 0), (2, none, .getfield 24, 3, [5, 4, 0], 0, 0), (5, none, .sipush 577, 3, [], 577, 0), (8, none, .imul, 1, [], 0, 0), (9, none, .sipush 449, 3, [], 449, 0), (12, none, .iadd, 1, [], 0, 0), (13, none, .sipush 30809, 3, [], 30809, 0), (16, none, .irem, 1, [], 0, 0), (17, none, .putfield 24, 3, [5, 4, 0], 0, 0), (20, none, .return_, 1, [], 0, 0)]
def k_X5_drawWind : List EN := [(0, none, .aload_n 0, 1, [], 0, 0), (1, none, .aload_n 0, 1, [], 0, 0), (2, none, .getfield 24, 3, [5, 4, 0], 0, 0), (5, none, .bipush 19, 2, [], 19, 0), (7, none, .irem, 1, [], 0, 0), (8, none, .bipush 9, 2, [], 9, 0), (10, none, .isub, 1, [], 0, 0), (11, none, .putfield 18, 3, [5, 2, 0], 0, 0), (14, none, .aload_n 0, 1, [], 0, 0), (15, none, .invokevirtual 61, 3, [1, 66, 0, 0, 5], 0, 0), (18, none, .return_, 1, [], 0, 0)]
def k_X5_write : List EN := [(0, none, .aload_n 0, 1, [], 0, 0), (1, none, .getfield 27, 3, [5, 5, 0], 0, 0), (4, none, .bipush 30, 2, [], 30, 0), (6, none, .if_icmp .ne 28, 3, [34], 0, 0), (9, none, .aload_n 0, 1, [], 0, 0), (10, none, .getfield 43, 3, [5, 10, 2], 0, 0), (13, none, .iconst 1, 1, [], 1, 0), (14, none, .aload_n 0, 1, [], 0, 0), (15, none, .getfield 43, 3, [5, 10, 2], 0, 0), (18, none, .iconst 0, 1, [], 0, 0), (19, none, .bipush 29, 2, [], 29, 0), (21, none, .invokestatic 64, 3, [2, 4], 0, 0), (24, none, .aload_n 0, 1, [], 0, 0), (25, none, .dup, 1, [], 0, 0), (26, none, .getfield 27, 3, [5, 5, 0], 0, 0), (29, none, .iconst 1, 1, [], 1, 0), (30, none, .isub, 1, [], 0, 0), (31, none, .putfield 27, 3, [5, 5, 0], 0, 0), (34, some [0, 1], .aload_n 0, 1, [], 0, 0), (35, none, .getfield 43, 3, [5, 10, 2], 0, 0), (38, none, .aload_n 0, 1, [], 0, 0), (39, none, .getfield 27, 3, [5, 5, 0], 0, 0), (42, none, .aload_n 0, 1, [], 0, 0), (43, none, .getfield 21, 3, [5, 3, 0], 0, 0), (46, none, .iconst 5, 1, [], 5, 0), (47, none, .imul, 1, [], 0, 0), (48, none, .iload_n 1, 1, [], 0, 0), (49, none, .iadd, 1, [], 0, 0), (50, none, .bipush 19, 2, [], 19, 0), (52, none, .imul, 1, [], 0, 0), (53, none, .aload_n 0, 1, [], 0, 0), (54, none, .getfield 18, 3, [5, 2, 0], 0, 0), (57, none, .iadd, 1, [], 0, 0), (58, none, .bipush 9, 2, [], 9, 0), (60, none, .iadd, 1, [], 0, 0), (61, none, .iastore, 1, [], 0, 0), (62, none, .aload_n 0, 1, [], 0, 0), (63, none, .dup, 1, [], 0, 0), (64, none, .getfield 27, 3, [5, 5, 0], 0, 0), (67, none, .iconst 1, 1, [], 1, 0), (68, none, .iadd, 1, [], 0, 0), (69, none, .putfield 27, 3, [5, 5, 0], 0, 0), (72, none, .return_, 1, [], 0, 0)]
def k_X5_bookedYear : List EN := [(0, none, .aload_n 0, 1, [], 0, 0), (1, none, .getfield 43, 3, [5, 10, 2], 0, 0), (4, none, .iload_n 1, 1, [], 0, 0), (5, none, .iaload, 1, [], 0, 0), (6, none, .bipush 95, 2, [], 95, 0), (8, none, .idiv, 1, [], 0, 0), (9, none, .ireturn, 1, [], 0, 0)]
def k_X5_bookedPerson : List EN := [(0, none, .aload_n 0, 1, [], 0, 0), (1, none, .getfield 43, 3, [5, 10, 2], 0, 0), (4, none, .iload_n 1, 1, [], 0, 0), (5, none, .iaload, 1, [], 0, 0), (6, none, .bipush 19, 2, [], 19, 0), (8, none, .idiv, 1, [], 0, 0), (9, none, .iconst 5, 1, [], 5, 0), (10, none, .irem, 1, [], 0, 0), (11, none, .ireturn, 1, [], 0, 0)]
def k_X5_bookedWind : List EN := [(0, none, .aload_n 0, 1, [], 0, 0), (1, none, .getfield 43, 3, [5, 10, 2], 0, 0), (4, none, .iload_n 1, 1, [], 0, 0), (5, none, .iaload, 1, [], 0, 0), (6, none, .bipush 19, 2, [], 19, 0), (8, none, .irem, 1, [], 0, 0), (9, none, .bipush 9, 2, [], 9, 0), (11, none, .isub, 1, [], 0, 0), (12, none, .ireturn, 1, [], 0, 0)]
def k_X5_packedSlants : List EN := [(0, none, .iconst 0, 1, [], 0, 0), (1, none, .istore_n 1, 1, [], 0, 0), (2, none, .iconst 0, 1, [], 0, 0), (3, none, .istore_n 2, 1, [], 0, 0), (4, some [0, 1, 2], .iload_n 2, 1, [], 0, 0), (5, none, .aload_n 0, 1, [], 0, 0), (6, none, .getfield 9, 3, [5, 0, 0], 0, 0), (9, none, .if_icmp .ge 24, 3, [33], 0, 0), (12, none, .iload_n 1, 1, [], 0, 0), (13, none, .bipush 19, 2, [], 19, 0), (15, none, .imul, 1, [], 0, 0), (16, none, .aload_n 0, 1, [], 0, 0), (17, none, .getfield 30, 3, [5, 6, 2], 0, 0), (20, none, .iload_n 2, 1, [], 0, 0), (21, none, .iaload, 1, [], 0, 0), (22, none, .iadd, 1, [], 0, 0), (23, none, .bipush 9, 2, [], 9, 0), (25, none, .iadd, 1, [], 0, 0), (26, none, .istore_n 1, 1, [], 0, 0), (27, none, .iinc 2 1, 3, [], 1, 0), (30, none, .goto (-26), 3, [4], 0, 0), (33, none, .iload_n 1, 1, [], 0, 0), (34, none, .ireturn, 1, [], 0, 0)]
def k_X5_howManyLean : List EN := [(0, none, .iconst 0, 1, [], 0, 0), (1, none, .istore_n 2, 1, [], 0, 0), (2, none, .iconst 0, 1, [], 0, 0), (3, none, .istore_n 3, 1, [], 0, 0), (4, some [0, 1, 2, 3], .iload_n 3, 1, [], 0, 0), (5, none, .aload_n 0, 1, [], 0, 0), (6, none, .getfield 9, 3, [5, 0, 0], 0, 0), (9, none, .if_icmp .ge 22, 3, [31], 0, 0), (12, none, .aload_n 0, 1, [], 0, 0), (13, none, .getfield 30, 3, [5, 6, 2], 0, 0), (16, none, .iload_n 3, 1, [], 0, 0), (17, none, .iaload, 1, [], 0, 0), (18, none, .iload_n 1, 1, [], 0, 0), (19, none, .if_icmp .ne 6, 3, [25], 0, 0), (22, none, .iinc 2 1, 3, [], 1, 0), (25, none, .iinc 3 1, 3, [], 1, 0), (28, none, .goto (-24), 3, [4], 0, 0), (31, none, .iload_n 2, 1, [], 0, 0), (32, none, .ireturn, 1, [], 0, 0)]
def k_X5_copy : List EN := [(0, none, .aload_n 0, 1, [], 0, 0), (1, none, .aload_n 1, 1, [], 0, 0), (2, none, .getfield 9, 3, [5, 0, 0], 0, 0), (5, none, .putfield 9, 3, [5, 0, 0], 0, 0), (8, none, .aload_n 0, 1, [], 0, 0), (9, none, .aload_n 1, 1, [], 0, 0), (10, none, .getfield 15, 3, [5, 1, 0], 0, 0), (13, none, .putfield 15, 3, [5, 1, 0], 0, 0), (16, none, .aload_n 0, 1, [], 0, 0), (17, none, .aload_n 1, 1, [], 0, 0), (18, none, .getfield 18, 3, [5, 2, 0], 0, 0), (21, none, .putfield 18, 3, [5, 2, 0], 0, 0), (24, none, .aload_n 0, 1, [], 0, 0), (25, none, .aload_n 1, 1, [], 0, 0), (26, none, .getfield 21, 3, [5, 3, 0], 0, 0), (29, none, .putfield 21, 3, [5, 3, 0], 0, 0), (32, none, .aload_n 0, 1, [], 0, 0), (33, none, .aload_n 1, 1, [], 0, 0), (34, none, .getfield 24, 3, [5, 4, 0], 0, 0), (37, none, .putfield 24, 3, [5, 4, 0], 0, 0), (40, none, .aload_n 0, 1, [], 0, 0), (41, none, .aload_n 1, 1, [], 0, 0), (42, none, .getfield 27, 3, [5, 5, 0], 0, 0), (45, none, .putfield 27, 3, [5, 5, 0], 0, 0), (48, none, .aload_n 1, 1, [], 0, 0), (49, none, .getfield 30, 3, [5, 6, 2], 0, 0), (52, none, .iconst 0, 1, [], 0, 0), (53, none, .aload_n 0, 1, [], 0, 0), (54, none, .getfield 30, 3, [5, 6, 2], 0, 0), (57, none, .iconst 0, 1, [], 0, 0), (58, none, .iconst 5, 1, [], 5, 0), (59, none, .invokestatic 64, 3, [2, 4], 0, 0), (62, none, .aload_n 1, 1, [], 0, 0), (63, none, .getfield 34, 3, [5, 7, 2], 0, 0), (66, none, .iconst 0, 1, [], 0, 0), (67, none, .aload_n 0, 1, [], 0, 0), (68, none, .getfield 34, 3, [5, 7, 2], 0, 0), (71, none, .iconst 0, 1, [], 0, 0), (72, none, .iconst 5, 1, [], 5, 0), (73, none, .invokestatic 64, 3, [2, 4], 0, 0), (76, none, .aload_n 1, 1, [], 0, 0), (77, none, .getfield 37, 3, [5, 8, 2], 0, 0), (80, none, .iconst 0, 1, [], 0, 0), (81, none, .aload_n 0, 1, [], 0, 0), (82, none, .getfield 37, 3, [5, 8, 2], 0, 0), (85, none, .iconst 0, 1, [], 0, 0), (86, none, .iconst 5, 1, [], 5, 0), (87, none, .invokestatic 64, 3, [2, 4], 0, 0), (90, none, .aload_n 1, 1, [], 0, 0), (91, none, .getfield 40, 3, [5, 9, 2], 0, 0), (94, none, .iconst 0, 1, [], 0, 0), (95, none, .aload_n 0, 1, [], 0, 0), (96, none, .getfield 40, 3, [5, 9, 2], 0, 0), (99, none, .iconst 0, 1, [], 0, 0), (100, none, .iconst 5, 1, [], 5, 0), (101, none, .invokestatic 64, 3, [2, 4], 0, 0), (104, none, .aload_n 1, 1, [], 0, 0), (105, none, .getfield 43, 3, [5, 10, 2], 0, 0), (108, none, .iconst 0, 1, [], 0, 0), (109, none, .aload_n 0, 1, [], 0, 0), (110, none, .getfield 43, 3, [5, 10, 2], 0, 0), (113, none, .iconst 0, 1, [], 0, 0), (114, none, .bipush 30, 2, [], 30, 0), (116, none, .invokestatic 64, 3, [2, 4], 0, 0), (119, none, .return_, 1, [], 0, 0)]
def k_X5_save : List EN := [(0, none, .aload_n 1, 1, [], 0, 0), (1, none, .iload_n 2, 1, [], 0, 0), (2, none, .aload_n 0, 1, [], 0, 0), (3, none, .getfield 9, 3, [5, 0, 0], 0, 0), (6, none, .iastore, 1, [], 0, 0), (7, none, .aload_n 1, 1, [], 0, 0), (8, none, .iload_n 2, 1, [], 0, 0), (9, none, .iconst 1, 1, [], 1, 0), (10, none, .iadd, 1, [], 0, 0), (11, none, .aload_n 0, 1, [], 0, 0), (12, none, .getfield 15, 3, [5, 1, 0], 0, 0), (15, none, .iastore, 1, [], 0, 0), (16, none, .aload_n 1, 1, [], 0, 0), (17, none, .iload_n 2, 1, [], 0, 0), (18, none, .iconst 2, 1, [], 2, 0), (19, none, .iadd, 1, [], 0, 0), (20, none, .aload_n 0, 1, [], 0, 0), (21, none, .getfield 18, 3, [5, 2, 0], 0, 0), (24, none, .iastore, 1, [], 0, 0), (25, none, .aload_n 1, 1, [], 0, 0), (26, none, .iload_n 2, 1, [], 0, 0), (27, none, .iconst 3, 1, [], 3, 0), (28, none, .iadd, 1, [], 0, 0), (29, none, .aload_n 0, 1, [], 0, 0), (30, none, .getfield 21, 3, [5, 3, 0], 0, 0), (33, none, .iastore, 1, [], 0, 0), (34, none, .aload_n 1, 1, [], 0, 0), (35, none, .iload_n 2, 1, [], 0, 0), (36, none, .iconst 4, 1, [], 4, 0), (37, none, .iadd, 1, [], 0, 0), (38, none, .aload_n 0, 1, [], 0, 0), (39, none, .getfield 24, 3, [5, 4, 0], 0, 0), (42, none, .iastore, 1, [], 0, 0), (43, none, .aload_n 1, 1, [], 0, 0), (44, none, .iload_n 2, 1, [], 0, 0), (45, none, .iconst 5, 1, [], 5, 0), (46, none, .iadd, 1, [], 0, 0), (47, none, .aload_n 0, 1, [], 0, 0), (48, none, .getfield 27, 3, [5, 5, 0], 0, 0), (51, none, .iastore, 1, [], 0, 0), (52, none, .aload_n 0, 1, [], 0, 0), (53, none, .getfield 30, 3, [5, 6, 2], 0, 0), (56, none, .iconst 0, 1, [], 0, 0), (57, none, .aload_n 1, 1, [], 0, 0), (58, none, .iload_n 2, 1, [], 0, 0), (59, none, .bipush 6, 2, [], 6, 0), (61, none, .iadd, 1, [], 0, 0), (62, none, .iconst 5, 1, [], 5, 0), (63, none, .invokestatic 64, 3, [2, 4], 0, 0), (66, none, .aload_n 0, 1, [], 0, 0), (67, none, .getfield 40, 3, [5, 9, 2], 0, 0), (70, none, .iconst 0, 1, [], 0, 0), (71, none, .aload_n 1, 1, [], 0, 0), (72, none, .iload_n 2, 1, [], 0, 0), (73, none, .bipush 6, 2, [], 6, 0), (75, none, .iadd, 1, [], 0, 0), (76, none, .iconst 5, 1, [], 5, 0), (77, none, .iadd, 1, [], 0, 0), (78, none, .iconst 5, 1, [], 5, 0), (79, none, .invokestatic 64, 3, [2, 4], 0, 0), (82, none, .aload_n 0, 1, [], 0, 0), (83, none, .getfield 43, 3, [5, 10, 2], 0, 0), (86, none, .iconst 0, 1, [], 0, 0), (87, none, .aload_n 1, 1, [], 0, 0), (88, none, .iload_n 2, 1, [], 0, 0), (89, none, .bipush 6, 2, [], 6, 0), (91, none, .iadd, 1, [], 0, 0), (92, none, .bipush 10, 2, [], 10, 0), (94, none, .iadd, 1, [], 0, 0), (95, none, .bipush 30, 2, [], 30, 0), (97, none, .invokestatic 64, 3, [2, 4], 0, 0), (100, none, .return_, 1, [], 0, 0)]
def k_X5_restore : List EN := [(0, none, .aload_n 1, 1, [], 0, 0), (1, none, .iload_n 2, 1, [], 0, 0), (2, none, .iaload, 1, [], 0, 0), (3, none, .istore_n 3, 1, [], 0, 0), (4, none, .aload_n 0, 1, [], 0, 0), (5, none, .aload_n 1, 1, [], 0, 0), (6, none, .iload_n 2, 1, [], 0, 0), (7, none, .iconst 1, 1, [], 1, 0), (8, none, .iadd, 1, [], 0, 0), (9, none, .iaload, 1, [], 0, 0), (10, none, .putfield 15, 3, [5, 1, 0], 0, 0), (13, none, .aload_n 0, 1, [], 0, 0), (14, none, .aload_n 1, 1, [], 0, 0), (15, none, .iload_n 2, 1, [], 0, 0), (16, none, .iconst 2, 1, [], 2, 0), (17, none, .iadd, 1, [], 0, 0), (18, none, .iaload, 1, [], 0, 0), (19, none, .putfield 18, 3, [5, 2, 0], 0, 0), (22, none, .aload_n 0, 1, [], 0, 0), (23, none, .aload_n 1, 1, [], 0, 0), (24, none, .iload_n 2, 1, [], 0, 0), (25, none, .iconst 3, 1, [], 3, 0), (26, none, .iadd, 1, [], 0, 0), (27, none, .iaload, 1, [], 0, 0), (28, none, .putfield 21, 3, [5, 3, 0], 0, 0), (31, none, .aload_n 0, 1, [], 0, 0), (32, none, .aload_n 1, 1, [], 0, 0), (33, none, .iload_n 2, 1, [], 0, 0), (34, none, .iconst 4, 1, [], 4, 0), (35, none, .iadd, 1, [], 0, 0), (36, none, .iaload, 1, [], 0, 0), (37, none, .putfield 24, 3, [5, 4, 0], 0, 0), (40, none, .aload_n 0, 1, [], 0, 0), (41, none, .aload_n 1, 1, [], 0, 0), (42, none, .iload_n 2, 1, [], 0, 0), (43, none, .iconst 5, 1, [], 5, 0), (44, none, .iadd, 1, [], 0, 0), (45, none, .iaload, 1, [], 0, 0), (46, none, .putfield 27, 3, [5, 5, 0], 0, 0), (49, none, .iconst 0, 1, [], 0, 0), (50, none, .istore 4, 2, [], 0, 0), (52, some [0, 1, 2, 3, 4], .iload 4, 2, [], 0, 0), (54, none, .aload_n 0, 1, [], 0, 0), (55, none, .getfield 9, 3, [5, 0, 0], 0, 0), (58, none, .if_icmp .ge 70, 3, [128], 0, 0), (61, none, .aload_n 0, 1, [], 0, 0), (62, none, .getfield 30, 3, [5, 6, 2], 0, 0), (65, none, .iload 4, 2, [], 0, 0), (67, none, .iload 4, 2, [], 0, 0), (69, none, .iload_n 3, 1, [], 0, 0), (70, none, .if_icmp .ge 15, 3, [85], 0, 0), (73, none, .aload_n 1, 1, [], 0, 0), (74, none, .iload_n 2, 1, [], 0, 0), (75, none, .bipush 6, 2, [], 6, 0), (77, none, .iadd, 1, [], 0, 0), (78, none, .iload 4, 2, [], 0, 0), (80, none, .iadd, 1, [], 0, 0), (81, none, .iaload, 1, [], 0, 0), (82, none, .goto 10, 3, [92], 0, 0), (85, none, .aload_n 0, 1, [], 0, 0), (86, none, .getfield 37, 3, [5, 8, 2], 0, 0), (89, none, .iload 4, 2, [], 0, 0), (91, none, .iaload, 1, [], 0, 0), (92, some [0, 1, 2, 3, 4], .iastore, 1, [], 0, 0), (93, none, .aload_n 0, 1, [], 0, 0), (94, none, .getfield 40, 3, [5, 9, 2], 0, 0), (97, none, .iload 4, 2, [], 0, 0), (99, none, .iload 4, 2, [], 0, 0), (101, none, .iload_n 3, 1, [], 0, 0), (102, none, .if_icmp .ge 17, 3, [119], 0, 0), (105, none, .aload_n 1, 1, [], 0, 0), (106, none, .iload_n 2, 1, [], 0, 0), (107, none, .bipush 6, 2, [], 6, 0), (109, none, .iadd, 1, [], 0, 0), (110, none, .iconst 5, 1, [], 5, 0), (111, none, .iadd, 1, [], 0, 0), (112, none, .iload 4, 2, [], 0, 0), (114, none, .iadd, 1, [], 0, 0), (115, none, .iaload, 1, [], 0, 0), (116, none, .goto 5, 3, [121], 0, 0), (119, none, .iload 4, 2, [], 0, 0), (121, none, .iastore, 1, [], 0, 0), (122, none, .iinc 4 1, 3, [], 1, 0), (125, none, .goto (-73), 3, [52], 0, 0), (128, none, .aload_n 1, 1, [], 0, 0), (129, none, .iload_n 2, 1, [], 0, 0), (130, none, .bipush 6, 2, [], 6, 0), (132, none, .iadd, 1, [], 0, 0), (133, none, .bipush 10, 2, [], 10, 0), (135, none, .iadd, 1, [], 0, 0), (136, none, .aload_n 0, 1, [], 0, 0), (137, none, .getfield 43, 3, [5, 10, 2], 0, 0), (140, none, .iconst 0, 1, [], 0, 0), (141, none, .bipush 30, 2, [], 30, 0), (143, none, .invokestatic 64, 3, [2, 4], 0, 0), (146, none, .return_, 1, [], 0, 0)]
def k_X6_init : List EN := [(0, none, .aload_n 0, 1, [], 0, 0), (1, none, .invokespecial 3, 3, [2, 8], 0, 0), (4, none, .aload_n 0, 1, [], 0, 0), (5, none, .iconst 0, 1, [], 0, 0), (6, none, .putfield 9, 3, [6, 0, 0], 0, 0), (9, none, .aload_n 0, 1, [], 0, 0), (10, none, .iconst 0, 1, [], 0, 0), (11, none, .putfield 15, 3, [6, 1, 0], 0, 0), (14, none, .aload_n 0, 1, [], 0, 0), (15, none, .sipush 1380, 3, [], 1380, 0), (18, none, .newarray .int, 2, [0], 0, 0), (20, none, .putfield 18, 3, [6, 2, 2], 0, 0), (23, none, .return_, 1, [], 0, 0)]
def k_X6_keep : List EN := [(0, none, .aload_n 0, 1, [], 0, 0), (1, none, .getfield 9, 3, [6, 0, 0], 0, 0), (4, none, .bipush 30, 2, [], 30, 0), (6, none, .if_icmp .ne 26, 3, [32], 0, 0), (9, none, .aload_n 0, 1, [], 0, 0), (10, none, .aload_n 0, 1, [], 0, 0), (11, none, .getfield 15, 3, [6, 1, 0], 0, 0), (14, none, .iconst 1, 1, [], 1, 0), (15, none, .iadd, 1, [], 0, 0), (16, none, .bipush 30, 2, [], 30, 0), (18, none, .irem, 1, [], 0, 0), (19, none, .putfield 15, 3, [6, 1, 0], 0, 0), (22, none, .aload_n 0, 1, [], 0, 0), (23, none, .dup, 1, [], 0, 0), (24, none, .getfield 9, 3, [6, 0, 0], 0, 0), (27, none, .iconst 1, 1, [], 1, 0), (28, none, .isub, 1, [], 0, 0), (29, none, .putfield 9, 3, [6, 0, 0], 0, 0), (32, none, .aload_n 1, 1, [], 0, 0), (33, none, .aload_n 0, 1, [], 0, 0), (34, none, .getfield 18, 3, [6, 2, 2], 0, 0), (37, none, .aload_n 0, 1, [], 0, 0), (38, none, .aload_n 0, 1, [], 0, 0), (39, none, .getfield 9, 3, [6, 0, 0], 0, 0), (42, none, .invokevirtual 22, 3, [1, 81, 1, 1, 6], 0, 0), (45, some [0], .invokevirtual 26, 3, [1, 75, 2, 0, 5], 0, 0), (48, some [0], .aload_n 0, 1, [], 0, 0), (49, none, .dup, 1, [], 0, 0), (50, none, .getfield 9, 3, [6, 0, 0], 0, 0), (53, none, .iconst 1, 1, [], 1, 0), (54, none, .iadd, 1, [], 0, 0), (55, none, .putfield 9, 3, [6, 0, 0], 0, 0), (58, none, .return_, 1, [], 0, 0)]
def k_X6_takeBack : List EN := [(0, none, .aload_n 0, 1, [], 0, 0), (1, none, .getfield 9, 3, [6, 0, 0], 0, 0), (4, none, .ifCond .ne 4, 3, [8], 0, 0), (7, none, .return_, 1, [], 0, 0), (8, none, .aload_n 0, 1, [], 0, 0), (9, none, .dup, 1, [], 0, 0), (10, none, .getfield 9, 3, [6, 0, 0], 0, 0), (13, none, .iconst 1, 1, [], 1, 0), (14, none, .isub, 1, [], 0, 0), (15, none, .putfield 9, 3, [6, 0, 0], 0, 0), (18, none, .aload_n 1, 1, [], 0, 0), (19, none, .aload_n 0, 1, [], 0, 0), (20, none, .getfield 18, 3, [6, 2, 2], 0, 0), (23, none, .aload_n 0, 1, [], 0, 0), (24, none, .aload_n 0, 1, [], 0, 0), (25, none, .getfield 9, 3, [6, 0, 0], 0, 0), (28, none, .invokevirtual 22, 3, [1, 81, 1, 1, 6], 0, 0), (31, some [], .invokevirtual 32, 3, [1, 76, 2, 0, 5], 0, 0), (34, none, .return_, 1, [], 0, 0)]
def k_X6_copy : List EN := [(0, none, .aload_n 0, 1, [], 0, 0), (1, none, .aload_n 1, 1, [], 0, 0), (2, none, .getfield 9, 3, [6, 0, 0], 0, 0), (5, none, .putfield 9, 3, [6, 0, 0], 0, 0), (8, none, .aload_n 0, 1, [], 0, 0), (9, none, .aload_n 1, 1, [], 0, 0), (10, none, .getfield 15, 3, [6, 1, 0], 0, 0), (13, none, .putfield 15, 3, [6, 1, 0], 0, 0), (16, none, .aload_n 1, 1, [], 0, 0), (17, none, .getfield 18, 3, [6, 2, 2], 0, 0), (20, none, .iconst 0, 1, [], 0, 0), (21, none, .aload_n 0, 1, [], 0, 0), (22, none, .getfield 18, 3, [6, 2, 2], 0, 0), (25, none, .iconst 0, 1, [], 0, 0), (26, none, .sipush 1380, 3, [], 1380, 0), (29, none, .invokestatic 35, 3, [2, 4], 0, 0), (32, none, .return_, 1, [], 0, 0)]
def k_X6_placeOf : List EN := [(0, none, .aload_n 0, 1, [], 0, 0), (1, none, .getfield 15, 3, [6, 1, 0], 0, 0), (4, none, .iload_n 1, 1, [], 0, 0), (5, none, .iadd, 1, [], 0, 0), (6, none, .bipush 30, 2, [], 30, 0), (8, none, .irem, 1, [], 0, 0), (9, none, .bipush 46, 2, [], 46, 0), (11, none, .imul, 1, [], 0, 0), (12, none, .ireturn, 1, [], 0, 0)]
def k_X7_init : List EN := [(0, none, .aload_n 0, 1, [], 0, 0), (1, none, .invokespecial 3, 3, [2, 8], 0, 0), (4, none, .aload_n 0, 1, [], 0, 0), (5, none, .iconst 0, 1, [], 0, 0), (6, none, .putfield 9, 3, [7, 0, 0], 0, 0), (9, none, .aload_n 0, 1, [], 0, 0), (10, none, .iconst 0, 1, [], 0, 0), (11, none, .putfield 15, 3, [7, 1, 0], 0, 0), (14, none, .aload_n 0, 1, [], 0, 0), (15, none, .iconst (-1), 1, [], (-1), 0), (16, none, .putfield 18, 3, [7, 2, 0], 0, 0), (19, none, .aload_n 0, 1, [], 0, 0), (20, none, .iconst (-1), 1, [], (-1), 0), (21, none, .putfield 21, 3, [7, 3, 0], 0, 0), (24, none, .aload_n 0, 1, [], 0, 0), (25, none, .bipush 24, 2, [], 24, 0), (27, none, .newarray .int, 2, [0], 0, 0), (29, none, .putfield 24, 3, [7, 4, 2], 0, 0), (32, none, .aload_n 0, 1, [], 0, 0), (33, none, .bipush 24, 2, [], 24, 0), (35, none, .newarray .int, 2, [0], 0, 0), (37, none, .putfield 28, 3, [7, 5, 2], 0, 0), (40, none, .aload_n 0, 1, [], 0, 0), (41, none, .bipush 24, 2, [], 24, 0), (43, none, .newarray .int, 2, [0], 0, 0), (45, none, .putfield 31, 3, [7, 6, 2], 0, 0), (48, none, .aload_n 0, 1, [], 0, 0), (49, none, .sipush 300, 3, [], 300, 0), (52, none, .newarray .int, 2, [0], 0, 0), (54, none, .putfield 34, 3, [7, 7, 2], 0, 0), (57, none, .return_, 1, [], 0, 0)]
def k_X7_clear : List EN := [(0, none, .aload_n 0, 1, [], 0, 0), (1, none, .iconst 0, 1, [], 0, 0), (2, none, .putfield 9, 3, [7, 0, 0], 0, 0), (5, none, .aload_n 0, 1, [], 0, 0), (6, none, .iconst 0, 1, [], 0, 0), (7, none, .putfield 15, 3, [7, 1, 0], 0, 0), (10, none, .aload_n 0, 1, [], 0, 0), (11, none, .iconst (-1), 1, [], (-1), 0), (12, none, .putfield 18, 3, [7, 2, 0], 0, 0), (15, none, .aload_n 0, 1, [], 0, 0), (16, none, .iconst (-1), 1, [], (-1), 0), (17, none, .putfield 21, 3, [7, 3, 0], 0, 0), (20, none, .return_, 1, [], 0, 0)]
def k_X7_addClause : List EN := [(0, none, .aload_n 0, 1, [], 0, 0), (1, none, .getfield 9, 3, [7, 0, 0], 0, 0), (4, none, .bipush 24, 2, [], 24, 0), (6, none, .if_icmp .lt 4, 3, [10], 0, 0), (9, none, .return_, 1, [], 0, 0), (10, none, .aload_n 0, 1, [], 0, 0), (11, none, .getfield 24, 3, [7, 4, 2], 0, 0), (14, none, .aload_n 0, 1, [], 0, 0), (15, none, .getfield 9, 3, [7, 0, 0], 0, 0), (18, none, .iload_n 1, 1, [], 0, 0), (19, none, .iastore, 1, [], 0, 0), (20, none, .aload_n 0, 1, [], 0, 0), (21, none, .getfield 28, 3, [7, 5, 2], 0, 0), (24, none, .aload_n 0, 1, [], 0, 0), (25, none, .getfield 9, 3, [7, 0, 0], 0, 0), (28, none, .iload_n 2, 1, [], 0, 0), (29, none, .iastore, 1, [], 0, 0), (30, none, .aload_n 0, 1, [], 0, 0), (31, none, .getfield 31, 3, [7, 6, 2], 0, 0), (34, none, .aload_n 0, 1, [], 0, 0), (35, none, .getfield 9, 3, [7, 0, 0], 0, 0), (38, none, .iload_n 3, 1, [], 0, 0), (39, none, .iastore, 1, [], 0, 0), (40, none, .aload_n 0, 1, [], 0, 0), (41, none, .dup, 1, [], 0, 0), (42, none, .getfield 9, 3, [7, 0, 0], 0, 0), (45, none, .iconst 1, 1, [], 1, 0), (46, none, .iadd, 1, [], 0, 0), (47, none, .putfield 9, 3, [7, 0, 0], 0, 0), (50, none, .return_, 1, [], 0, 0)]
def k_X7_emit : List EN := [(0, none, .aload_n 0, 1, [], 0, 0), (1, none, .getfield 15, 3, [7, 1, 0], 0, 0), (4, none, .sipush 300, 3, [], 300, 0), (7, none, .if_icmp .ge 23, 3, [30], 0, 0), (10, none, .aload_n 0, 1, [], 0, 0), (11, none, .getfield 34, 3, [7, 7, 2], 0, 0), (14, none, .aload_n 0, 1, [], 0, 0), (15, none, .getfield 15, 3, [7, 1, 0], 0, 0), (18, none, .iload_n 1, 1, [], 0, 0), (19, none, .iastore, 1, [], 0, 0), (20, none, .aload_n 0, 1, [], 0, 0), (21, none, .dup, 1, [], 0, 0), (22, none, .getfield 15, 3, [7, 1, 0], 0, 0), (25, none, .iconst 1, 1, [], 1, 0), (26, none, .iadd, 1, [], 0, 0), (27, none, .putfield 15, 3, [7, 1, 0], 0, 0), (30, none, .return_, 1, [], 0, 0)]
def k_X7_emitJump : List EN := [(0, none, .aload_n 0, 1, [], 0, 0), (1, none, .iload_n 1, 1, [], 0, 0), (2, none, .invokevirtual 37, 3, [1, 85, 1, 0, 7], 0, 0), (5, some [0], .aload_n 0, 1, [], 0, 0), (6, none, .iconst 0, 1, [], 0, 0), (7, none, .invokevirtual 37, 3, [1, 85, 1, 0, 7], 0, 0), (10, some [0], .aload_n 0, 1, [], 0, 0), (11, none, .getfield 15, 3, [7, 1, 0], 0, 0), (14, none, .iconst 1, 1, [], 1, 0), (15, none, .isub, 1, [], 0, 0), (16, none, .ireturn, 1, [], 0, 0)]
def k_X7_aimHere : List EN := [(0, none, .iload_n 1, 1, [], 0, 0), (1, none, .ifCond .lt 20, 3, [21], 0, 0), (4, none, .iload_n 1, 1, [], 0, 0), (5, none, .sipush 300, 3, [], 300, 0), (8, none, .if_icmp .ge 13, 3, [21], 0, 0), (11, none, .aload_n 0, 1, [], 0, 0), (12, none, .getfield 34, 3, [7, 7, 2], 0, 0), (15, none, .iload_n 1, 1, [], 0, 0), (16, none, .aload_n 0, 1, [], 0, 0), (17, none, .getfield 15, 3, [7, 1, 0], 0, 0), (20, none, .iastore, 1, [], 0, 0), (21, none, .return_, 1, [], 0, 0)]
def k_X7_codeAt : List EN := [(0, none, .iload_n 1, 1, [], 0, 0), (1, none, .ifCond .lt 20, 3, [21], 0, 0), (4, none, .iload_n 1, 1, [], 0, 0), (5, none, .aload_n 0, 1, [], 0, 0), (6, none, .getfield 15, 3, [7, 1, 0], 0, 0), (9, none, .if_icmp .ge 12, 3, [21], 0, 0), (12, none, .aload_n 0, 1, [], 0, 0), (13, none, .getfield 34, 3, [7, 7, 2], 0, 0), (16, none, .iload_n 1, 1, [], 0, 0), (17, none, .iaload, 1, [], 0, 0), (18, none, .goto 4, 3, [22], 0, 0), (21, none, .iconst 0, 1, [], 0, 0), (22, none, .ireturn, 1, [], 0, 0)]
def k_X8_init : List EN := [(0, none, .aload_n 0, 1, [], 0, 0), (1, none, .invokespecial 3, 3, [2, 8], 0, 0), (4, none, .aload_n 0, 1, [], 0, 0), (5, none, .iconst 0, 1, [], 0, 0), (6, none, .putfield 9, 3, [8, 0, 0], 0, 0), (9, none, .aload_n 0, 1, [], 0, 0), (10, none, .iconst (-1), 1, [], (-1), 0), (11, none, .putfield 15, 3, [8, 1, 0], 0, 0), (14, none, .aload_n 0, 1, [], 0, 0), (15, none, .iconst 0, 1, [], 0, 0), (16, none, .putfield 18, 3, [8, 2, 0], 0, 0), (19, none, .aload_n 0, 1, [], 0, 0), (20, none, .iconst 0, 1, [], 0, 0), (21, none, .putfield 21, 3, [8, 3, 0], 0, 0), (24, none, .aload_n 0, 1, [], 0, 0), (25, none, .iconst 0, 1, [], 0, 0), (26, none, .putfield 24, 3, [8, 4, 0], 0, 0), (29, none, .aload_n 0, 1, [], 0, 0), (30, none, .iconst 0, 1, [], 0, 0), (31, none, .putfield 27, 3, [8, 5, 0], 0, 0), (34, none, .aload_n 0, 1, [], 0, 0), (35, none, .iconst 5, 1, [], 5, 0), (36, none, .newarray .int, 2, [0], 0, 0), (38, none, .putfield 30, 3, [8, 6, 2], 0, 0), (41, none, .aload_n 0, 1, [], 0, 0), (42, none, .bipush 10, 2, [], 10, 0), (44, none, .newarray .int, 2, [0], 0, 0), (46, none, .putfield 34, 3, [8, 7, 2], 0, 0), (49, none, .aload_n 0, 1, [], 0, 0), (50, none, .bipush 6, 2, [], 6, 0), (52, none, .newarray .int, 2, [0], 0, 0), (54, none, .putfield 37, 3, [8, 8, 2], 0, 0), (57, none, .aload_n 0, 1, [], 0, 0), (58, none, .bipush 6, 2, [], 6, 0), (60, none, .newarray .int, 2, [0], 0, 0), (62, none, .putfield 40, 3, [8, 9, 2], 0, 0), (65, none, .aload_n 0, 1, [], 0, 0), (66, none, .bipush 8, 2, [], 8, 0), (68, none, .newarray .int, 2, [0], 0, 0), (70, none, .putfield 43, 3, [8, 10, 2], 0, 0), (73, none, .aload_n 0, 1, [], 0, 0), (74, none, .bipush 8, 2, [], 8, 0), (76, none, .newarray .int, 2, [0], 0, 0), (78, none, .putfield 46, 3, [8, 11, 2], 0, 0), (81, none, .return_, 1, [], 0, 0)]
def k_X8_copy : List EN := [(0, none, .aload_n 0, 1, [], 0, 0), (1, none, .aload_n 1, 1, [], 0, 0), (2, none, .getfield 9, 3, [8, 0, 0], 0, 0), (5, none, .putfield 9, 3, [8, 0, 0], 0, 0), (8, none, .aload_n 0, 1, [], 0, 0), (9, none, .aload_n 1, 1, [], 0, 0), (10, none, .getfield 15, 3, [8, 1, 0], 0, 0), (13, none, .putfield 15, 3, [8, 1, 0], 0, 0), (16, none, .aload_n 0, 1, [], 0, 0), (17, none, .aload_n 1, 1, [], 0, 0), (18, none, .getfield 18, 3, [8, 2, 0], 0, 0), (21, none, .putfield 18, 3, [8, 2, 0], 0, 0), (24, none, .aload_n 0, 1, [], 0, 0), (25, none, .aload_n 1, 1, [], 0, 0), (26, none, .getfield 21, 3, [8, 3, 0], 0, 0), (29, none, .putfield 21, 3, [8, 3, 0], 0, 0), (32, none, .aload_n 0, 1, [], 0, 0), (33, none, .aload_n 1, 1, [], 0, 0), (34, none, .getfield 24, 3, [8, 4, 0], 0, 0), (37, none, .putfield 24, 3, [8, 4, 0], 0, 0), (40, none, .aload_n 0, 1, [], 0, 0), (41, none, .aload_n 1, 1, [], 0, 0), (42, none, .getfield 27, 3, [8, 5, 0], 0, 0), (45, none, .putfield 27, 3, [8, 5, 0], 0, 0), (48, none, .aload_n 1, 1, [], 0, 0), (49, none, .getfield 30, 3, [8, 6, 2], 0, 0), (52, none, .iconst 0, 1, [], 0, 0), (53, none, .aload_n 0, 1, [], 0, 0), (54, none, .getfield 30, 3, [8, 6, 2], 0, 0), (57, none, .iconst 0, 1, [], 0, 0), (58, none, .iconst 5, 1, [], 5, 0), (59, none, .invokestatic 49, 3, [2, 4], 0, 0), (62, none, .aload_n 1, 1, [], 0, 0), (63, none, .getfield 34, 3, [8, 7, 2], 0, 0), (66, none, .iconst 0, 1, [], 0, 0), (67, none, .aload_n 0, 1, [], 0, 0), (68, none, .getfield 34, 3, [8, 7, 2], 0, 0), (71, none, .iconst 0, 1, [], 0, 0), (72, none, .bipush 10, 2, [], 10, 0), (74, none, .invokestatic 49, 3, [2, 4], 0, 0), (77, none, .aload_n 1, 1, [], 0, 0), (78, none, .getfield 37, 3, [8, 8, 2], 0, 0), (81, none, .iconst 0, 1, [], 0, 0), (82, none, .aload_n 0, 1, [], 0, 0), (83, none, .getfield 37, 3, [8, 8, 2], 0, 0), (86, none, .iconst 0, 1, [], 0, 0), (87, none, .bipush 6, 2, [], 6, 0), (89, none, .invokestatic 49, 3, [2, 4], 0, 0), (92, none, .aload_n 1, 1, [], 0, 0), (93, none, .getfield 40, 3, [8, 9, 2], 0, 0), (96, none, .iconst 0, 1, [], 0, 0), (97, none, .aload_n 0, 1, [], 0, 0), (98, none, .getfield 40, 3, [8, 9, 2], 0, 0), (101, none, .iconst 0, 1, [], 0, 0), (102, none, .bipush 6, 2, [], 6, 0), (104, none, .invokestatic 49, 3, [2, 4], 0, 0), (107, none, .aload_n 1, 1, [], 0, 0), (108, none, .getfield 43, 3, [8, 10, 2], 0, 0), (111, none, .iconst 0, 1, [], 0, 0), (112, none, .aload_n 0, 1, [], 0, 0), (113, none, .getfield 43, 3, [8, 10, 2], 0, 0), (116, none, .iconst 0, 1, [], 0, 0), (117, none, .bipush 8, 2, [], 8, 0), (119, none, .invokestatic 49, 3, [2, 4], 0, 0), (122, none, .aload_n 1, 1, [], 0, 0), (123, none, .getfield 46, 3, [8, 11, 2], 0, 0), (126, none, .iconst 0, 1, [], 0, 0), (127, none, .aload_n 0, 1, [], 0, 0), (128, none, .getfield 46, 3, [8, 11, 2], 0, 0), (131, none, .iconst 0, 1, [], 0, 0), (132, none, .bipush 8, 2, [], 8, 0), (134, none, .invokestatic 49, 3, [2, 4], 0, 0), (137, none, .return_, 1, [], 0, 0)]
def k_X9_init : List EN := [(0, none, .aload_n 0, 1, [], 0, 0), (1, none, .invokespecial 3, 3, [2, 8], 0, 0), (4, none, .aload_n 0, 1, [], 0, 0), (5, none, .iconst (-1), 1, [], (-1), 0), (6, none, .putfield 9, 3, [9, 0, 0], 0, 0), (9, none, .aload_n 0, 1, [], 0, 0), (10, none, .iconst 5, 1, [], 5, 0), (11, none, .newarray .int, 2, [0], 0, 0), (13, none, .putfield 15, 3, [9, 1, 2], 0, 0), (16, none, .aload_n 0, 1, [], 0, 0), (17, none, .sipush 600, 3, [], 600, 0), (20, none, .newarray .int, 2, [0], 0, 0), (22, none, .putfield 19, 3, [9, 2, 2], 0, 0), (25, none, .aload_n 0, 1, [], 0, 0), (26, none, .sipush 600, 3, [], 600, 0), (29, none, .newarray .int, 2, [0], 0, 0), (31, none, .putfield 22, 3, [9, 3, 2], 0, 0), (34, none, .aload_n 0, 1, [], 0, 0), (35, none, .sipush 3840, 3, [], 3840, 0), (38, none, .newarray .int, 2, [0], 0, 0), (40, none, .putfield 25, 3, [9, 4, 2], 0, 0), (43, none, .return_, 1, [], 0, 0)]
def k_X9_prepare : List EN := [(0, none, .aload_n 0, 1, [], 0, 0), (1, none, .getfield 9, 3, [9, 0, 0], 0, 0), (4, none, .iload_n 1, 1, [], 0, 0), (5, none, .if_icmp .eq 12, 3, [17], 0, 0), (8, none, .iload_n 1, 1, [], 0, 0), (9, none, .iconst 0, 1, [], 0, 0), (10, none, .iconst 5, 1, [], 5, 0), (11, none, .invokestatic 28, 3, [0, 146, 3, 1], 0, 0), (14, some [0, 1], .ifCond .ne 4, 3, [18], 0, 0), (17, none, .return_, 1, [], 0, 0), (18, none, .aload_n 0, 1, [], 0, 0), (19, none, .iload_n 1, 1, [], 0, 0), (20, none, .putfield 9, 3, [9, 0, 0], 0, 0), (23, none, .iconst 0, 1, [], 0, 0), (24, none, .istore_n 2, 1, [], 0, 0), (25, some [0, 2], .iload_n 2, 1, [], 0, 0), (26, none, .getstatic 32, 3, [100], 0, 0), (29, none, .aload_n 0, 1, [], 0, 0), (30, none, .getfield 9, 3, [9, 0, 0], 0, 0), (33, none, .iaload, 1, [], 0, 0), (34, none, .if_icmp .ge 14, 3, [48], 0, 0), (37, none, .aload_n 0, 1, [], 0, 0), (38, none, .iload_n 2, 1, [], 0, 0), (39, none, .invokevirtual 35, 3, [1, 93, 1, 0, 9], 0, 0), (42, none, .iinc 2 1, 3, [], 1, 0), (45, none, .goto (-20), 3, [25], 0, 0), (48, none, .iconst 0, 1, [], 0, 0), (49, none, .istore_n 2, 1, [], 0, 0), (50, some [0, 2], .iload_n 2, 1, [], 0, 0), (51, none, .sipush 3840, 3, [], 3840, 0), (54, none, .if_icmp .ge 16, 3, [70], 0, 0), (57, none, .aload_n 0, 1, [], 0, 0), (58, none, .getfield 25, 3, [9, 4, 2], 0, 0), (61, none, .iload_n 2, 1, [], 0, 0), (62, none, .iconst (-1), 1, [], (-1), 0), (63, none, .iastore, 1, [], 0, 0), (64, none, .iinc 2 1, 3, [], 1, 0), (67, none, .goto (-17), 3, [50], 0, 0), (70, none, .aload_n 0, 1, [], 0, 0), (71, none, .getfield 25, 3, [9, 4, 2], 0, 0), (74, none, .iconst 0, 1, [], 0, 0), (75, none, .iconst 0, 1, [], 0, 0), (76, none, .iastore, 1, [], 0, 0), (77, none, .iconst 1, 1, [], 1, 0), (78, none, .istore_n 2, 1, [], 0, 0), (79, none, .iconst 0, 1, [], 0, 0), (80, none, .istore_n 3, 1, [], 0, 0), (81, some [0, 2, 3], .iload_n 2, 1, [], 0, 0), (82, none, .ifCond .eq 22, 3, [104], 0, 0), (85, none, .iload_n 3, 1, [], 0, 0), (86, none, .sipush 3840, 3, [], 3840, 0), (89, none, .if_icmp .ge 15, 3, [104], 0, 0), (92, none, .aload_n 0, 1, [], 0, 0), (93, none, .iload_n 3, 1, [], 0, 0), (94, none, .invokevirtual 39, 3, [1, 94, 1, 1, 9], 0, 0), (97, none, .istore_n 2, 1, [], 0, 0), (98, none, .iinc 3 1, 3, [], 1, 0), (101, none, .goto (-20), 3, [81], 0, 0), (104, none, .return_, 1, [], 0, 0)]
def k_X9_prepareOrder : List EN := [(0, none, .iconst 1, 1, [], 1, 0), (1, none, .istore_n 2, 1, [], 0, 0), (2, some [0, 1, 2], .iload_n 2, 1, [], 0, 0), (3, none, .aload_n 0, 1, [], 0, 0), (4, none, .getfield 9, 3, [9, 0, 0], 0, 0), (7, none, .if_icmp .gt 142, 3, [149], 0, 0), (10, none, .iload_n 1, 1, [], 0, 0), (11, none, .aload_n 0, 1, [], 0, 0), (12, none, .getfield 9, 3, [9, 0, 0], 0, 0), (15, none, .aload_n 0, 1, [], 0, 0), (16, none, .getfield 15, 3, [9, 1, 2], 0, 0), (19, none, .invokestatic 43, 3, [0, 159, 3, 0], 0, 0), (22, none, .iconst 0, 1, [], 0, 0), (23, none, .istore_n 3, 1, [], 0, 0), (24, none, .iconst 0, 1, [], 0, 0), (25, none, .istore 4, 2, [], 0, 0), (27, some [0, 1, 2, 3, 4], .iload 4, 2, [], 0, 0), (29, none, .iload_n 2, 1, [], 0, 0), (30, none, .if_icmp .ge 21, 3, [51], 0, 0), (33, none, .iload_n 3, 1, [], 0, 0), (34, none, .iconst 1, 1, [], 1, 0), (35, none, .aload_n 0, 1, [], 0, 0), (36, none, .getfield 15, 3, [9, 1, 2], 0, 0), (39, none, .iload 4, 2, [], 0, 0), (41, none, .iaload, 1, [], 0, 0), (42, none, .ishl, 1, [], 0, 0), (43, none, .ior, 1, [], 0, 0), (44, none, .istore_n 3, 1, [], 0, 0), (45, none, .iinc 4 1, 3, [], 1, 0), (48, none, .goto (-21), 3, [27], 0, 0), (51, none, .iconst 0, 1, [], 0, 0), (52, none, .istore 4, 2, [], 0, 0), (54, none, .iload_n 2, 1, [], 0, 0), (55, none, .iconst 1, 1, [], 1, 0), (56, none, .isub, 1, [], 0, 0), (57, none, .istore 5, 2, [], 0, 0), (59, some [0, 1, 2, 3, 4, 5], .iload 4, 2, [], 0, 0), (61, none, .iload 5, 2, [], 0, 0), (63, none, .if_icmp .ge 44, 3, [107], 0, 0), (66, none, .aload_n 0, 1, [], 0, 0), (67, none, .getfield 15, 3, [9, 1, 2], 0, 0), (70, none, .iload 4, 2, [], 0, 0), (72, none, .iaload, 1, [], 0, 0), (73, none, .istore 6, 2, [], 0, 0), (75, none, .aload_n 0, 1, [], 0, 0), (76, none, .getfield 15, 3, [9, 1, 2], 0, 0), (79, none, .iload 4, 2, [], 0, 0), (81, none, .aload_n 0, 1, [], 0, 0), (82, none, .getfield 15, 3, [9, 1, 2], 0, 0), (85, none, .iload 5, 2, [], 0, 0), (87, none, .iaload, 1, [], 0, 0), (88, none, .iastore, 1, [], 0, 0), (89, none, .aload_n 0, 1, [], 0, 0), (90, none, .getfield 15, 3, [9, 1, 2], 0, 0), (93, none, .iload 5, 2, [], 0, 0), (95, none, .iload 6, 2, [], 0, 0), (97, none, .iastore, 1, [], 0, 0), (98, none, .iinc 4 1, 3, [], 1, 0), (101, none, .iinc 5 (-1), 3, [], (-1), 0), (104, none, .goto (-45), 3, [59], 0, 0), (107, none, .aload_n 0, 1, [], 0, 0), (108, none, .getfield 19, 3, [9, 2, 2], 0, 0), (111, none, .iload_n 1, 1, [], 0, 0), (112, none, .iconst 5, 1, [], 5, 0), (113, none, .imul, 1, [], 0, 0), (114, none, .iload_n 2, 1, [], 0, 0), (115, none, .iadd, 1, [], 0, 0), (116, none, .iconst 1, 1, [], 1, 0), (117, none, .isub, 1, [], 0, 0), (118, none, .aload_n 0, 1, [], 0, 0), (119, none, .getfield 15, 3, [9, 1, 2], 0, 0), (122, none, .aload_n 0, 1, [], 0, 0), (123, none, .getfield 9, 3, [9, 0, 0], 0, 0), (126, none, .invokestatic 47, 3, [0, 158, 2, 1], 0, 0), (129, some [0, 1, 2, 3], .iastore, 1, [], 0, 0), (130, none, .aload_n 0, 1, [], 0, 0), (131, none, .getfield 22, 3, [9, 3, 2], 0, 0), (134, none, .iload_n 1, 1, [], 0, 0), (135, none, .iconst 5, 1, [], 5, 0), (136, none, .imul, 1, [], 0, 0), (137, none, .iload_n 2, 1, [], 0, 0), (138, none, .iadd, 1, [], 0, 0), (139, none, .iconst 1, 1, [], 1, 0), (140, none, .isub, 1, [], 0, 0), (141, none, .iload_n 3, 1, [], 0, 0), (142, none, .iastore, 1, [], 0, 0), (143, none, .iinc 2 1, 3, [], 1, 0), (146, none, .goto (-144), 3, [2], 0, 0), (149, none, .return_, 1, [], 0, 0)]
def k_X9_goFarther : List EN := [(0, none, .iconst 0, 1, [], 0, 0), (1, none, .istore_n 2, 1, [], 0, 0), (2, none, .getstatic 32, 3, [100], 0, 0), (5, none, .aload_n 0, 1, [], 0, 0), (6, none, .getfield 9, 3, [9, 0, 0], 0, 0), (9, none, .iaload, 1, [], 0, 0), (10, none, .bipush 32, 2, [], 32, 0), (12, none, .imul, 1, [], 0, 0), (13, none, .istore_n 3, 1, [], 0, 0), (14, none, .iconst 0, 1, [], 0, 0), (15, none, .istore 4, 2, [], 0, 0), (17, some [0, 1, 2, 3, 4], .iload 4, 2, [], 0, 0), (19, none, .iload_n 3, 1, [], 0, 0), (20, none, .if_icmp .ge 74, 3, [94], 0, 0), (23, none, .aload_n 0, 1, [], 0, 0), (24, none, .getfield 25, 3, [9, 4, 2], 0, 0), (27, none, .iload 4, 2, [], 0, 0), (29, none, .iaload, 1, [], 0, 0), (30, none, .iload_n 1, 1, [], 0, 0), (31, none, .if_icmp .eq 6, 3, [37], 0, 0), (34, none, .goto 54, 3, [88], 0, 0), (37, none, .iconst 1, 1, [], 1, 0), (38, none, .istore 5, 2, [], 0, 0), (40, some [0, 1, 2, 3, 4, 5], .iload 5, 2, [], 0, 0), (42, none, .aload_n 0, 1, [], 0, 0), (43, none, .getfield 9, 3, [9, 0, 0], 0, 0), (46, none, .if_icmp .gt 42, 3, [88], 0, 0), (49, none, .aload_n 0, 1, [], 0, 0), (50, none, .iload 4, 2, [], 0, 0), (52, none, .iload 5, 2, [], 0, 0), (54, none, .invokevirtual 51, 3, [1, 95, 2, 1, 9], 0, 0), (57, some [0, 1, 2, 3, 4, 5], .istore 6, 2, [], 0, 0), (59, none, .aload_n 0, 1, [], 0, 0), (60, none, .getfield 25, 3, [9, 4, 2], 0, 0), (63, none, .iload 6, 2, [], 0, 0), (65, none, .iaload, 1, [], 0, 0), (66, none, .iconst (-1), 1, [], (-1), 0), (67, none, .if_icmp .ne 15, 3, [82], 0, 0), (70, none, .aload_n 0, 1, [], 0, 0), (71, none, .getfield 25, 3, [9, 4, 2], 0, 0), (74, none, .iload 6, 2, [], 0, 0), (76, none, .iload_n 1, 1, [], 0, 0), (77, none, .iconst 1, 1, [], 1, 0), (78, none, .iadd, 1, [], 0, 0), (79, none, .iastore, 1, [], 0, 0), (80, none, .iconst 1, 1, [], 1, 0), (81, none, .istore_n 2, 1, [], 0, 0), (82, none, .iinc 5 1, 3, [], 1, 0), (85, none, .goto (-45), 3, [40], 0, 0), (88, none, .iinc 4 1, 3, [], 1, 0), (91, none, .goto (-74), 3, [17], 0, 0), (94, none, .iload_n 2, 1, [], 0, 0), (95, none, .ireturn, 1, [], 0, 0)]
def k_X9_behind : List EN := [(0, none, .iload_n 1, 1, [], 0, 0), (1, none, .bipush 32, 2, [], 32, 0), (3, none, .idiv, 1, [], 0, 0), (4, none, .iconst 5, 1, [], 5, 0), (5, none, .imul, 1, [], 0, 0), (6, none, .iload_n 2, 1, [], 0, 0), (7, none, .iadd, 1, [], 0, 0), (8, none, .iconst 1, 1, [], 1, 0), (9, none, .isub, 1, [], 0, 0), (10, none, .istore_n 3, 1, [], 0, 0), (11, none, .aload_n 0, 1, [], 0, 0), (12, none, .getfield 19, 3, [9, 2, 2], 0, 0), (15, none, .iload_n 3, 1, [], 0, 0), (16, none, .iaload, 1, [], 0, 0), (17, none, .bipush 32, 2, [], 32, 0), (19, none, .imul, 1, [], 0, 0), (20, none, .iload_n 1, 1, [], 0, 0), (21, none, .bipush 32, 2, [], 32, 0), (23, none, .irem, 1, [], 0, 0), (24, none, .aload_n 0, 1, [], 0, 0), (25, none, .getfield 22, 3, [9, 3, 2], 0, 0), (28, none, .iload_n 3, 1, [], 0, 0), (29, none, .iaload, 1, [], 0, 0), (30, none, .ixor, 1, [], 0, 0), (31, none, .iadd, 1, [], 0, 0), (32, none, .ireturn, 1, [], 0, 0)]
def k_X9_answer : List EN := [(0, none, .aload_n 1, 1, [], 0, 0), (1, none, .getfield 55, 3, [5, 9, 2], 0, 0), (4, none, .aload_n 1, 1, [], 0, 0), (5, none, .getfield 60, 3, [5, 0, 0], 0, 0), (8, none, .invokestatic 47, 3, [0, 158, 2, 1], 0, 0), (11, some [0, 2], .bipush 32, 2, [], 32, 0), (13, none, .imul, 1, [], 0, 0), (14, none, .istore_n 3, 1, [], 0, 0), (15, none, .aload_n 0, 1, [], 0, 0), (16, none, .getfield 25, 3, [9, 4, 2], 0, 0), (19, none, .iload_n 3, 1, [], 0, 0), (20, none, .iaload, 1, [], 0, 0), (21, none, .istore 4, 2, [], 0, 0), (23, none, .iload_n 2, 1, [], 0, 0), (24, none, .iconst (-1), 1, [], (-1), 0), (25, none, .if_icmp .ne 6, 3, [31], 0, 0), (28, none, .iload 4, 2, [], 0, 0), (30, none, .ireturn, 1, [], 0, 0), (31, none, .iload_n 2, 1, [], 0, 0), (32, none, .ifCond .lt 9, 3, [41], 0, 0), (35, none, .iload_n 2, 1, [], 0, 0), (36, none, .iload 4, 2, [], 0, 0), (38, none, .if_icmp .lt 6, 3, [44], 0, 0), (41, none, .bipush (-2), 2, [], (-2), 0), (43, none, .ireturn, 1, [], 0, 0), (44, none, .iconst 0, 1, [], 0, 0), (45, none, .istore 5, 2, [], 0, 0), (47, none, .iconst 0, 1, [], 0, 0), (48, none, .istore 6, 2, [], 0, 0), (50, some [0, 2, 3, 5, 6], .iload 6, 2, [], 0, 0), (52, none, .iload_n 2, 1, [], 0, 0), (53, none, .if_icmp .gt 24, 3, [77], 0, 0), (56, none, .aload_n 0, 1, [], 0, 0), (57, none, .iload_n 3, 1, [], 0, 0), (58, none, .invokevirtual 61, 3, [1, 97, 1, 1, 9], 0, 0), (61, some [0, 2, 3, 6], .istore 5, 2, [], 0, 0), (63, none, .aload_n 0, 1, [], 0, 0), (64, none, .iload_n 3, 1, [], 0, 0), (65, none, .iload 5, 2, [], 0, 0), (67, none, .invokevirtual 51, 3, [1, 95, 2, 1, 9], 0, 0), (70, none, .istore_n 3, 1, [], 0, 0), (71, none, .iinc 6 1, 3, [], 1, 0), (74, none, .goto (-24), 3, [50], 0, 0), (77, none, .iload 5, 2, [], 0, 0), (79, none, .ireturn, 1, [], 0, 0)]
def k_X9_lowestNearer : List EN := [(0, none, .iconst 1, 1, [], 1, 0), (1, none, .istore_n 2, 1, [], 0, 0), (2, some [0, 1, 2], .iload_n 2, 1, [], 0, 0), (3, none, .aload_n 0, 1, [], 0, 0), (4, none, .getfield 9, 3, [9, 0, 0], 0, 0), (7, none, .if_icmp .ge 33, 3, [40], 0, 0), (10, none, .aload_n 0, 1, [], 0, 0), (11, none, .getfield 25, 3, [9, 4, 2], 0, 0), (14, none, .aload_n 0, 1, [], 0, 0), (15, none, .iload_n 1, 1, [], 0, 0), (16, none, .iload_n 2, 1, [], 0, 0), (17, none, .invokevirtual 51, 3, [1, 95, 2, 1, 9], 0, 0), (20, some [0, 1, 2], .iaload, 1, [], 0, 0), (21, none, .aload_n 0, 1, [], 0, 0), (22, none, .getfield 25, 3, [9, 4, 2], 0, 0), (25, none, .iload_n 1, 1, [], 0, 0), (26, none, .iaload, 1, [], 0, 0), (27, none, .iconst 1, 1, [], 1, 0), (28, none, .isub, 1, [], 0, 0), (29, none, .if_icmp .ne 5, 3, [34], 0, 0), (32, none, .iload_n 2, 1, [], 0, 0), (33, none, .ireturn, 1, [], 0, 0), (34, none, .iinc 2 1, 3, [], 1, 0), (37, none, .goto (-35), 3, [2], 0, 0), (40, none, .aload_n 0, 1, [], 0, 0), (41, none, .getfield 9, 3, [9, 0, 0], 0, 0), (44, none, .ireturn, 1, [], 0, 0)]
def k_X10_init : List EN := [(0, none, .aload_n 0, 1, [], 0, 0), (1, none, .invokespecial 3, 3, [2, 8], 0, 0), (4, none, .aload_n 0, 1, [], 0, 0), (5, none, .new 9, 3, [5, 11], 0, 0), (8, none, .dup, 1, [], 0, 0), (9, none, .invokespecial 11, 3, [1, 55, 0, 0, 5], 0, 0), (12, some [0], .putfield 12, 3, [10, 0, 2], 0, 0), (15, none, .aload_n 0, 1, [], 0, 0), (16, none, .new 16, 3, [6, 3], 0, 0), (19, none, .dup, 1, [], 0, 0), (20, none, .invokespecial 18, 3, [1, 77, 0, 0, 6], 0, 0), (23, some [0], .putfield 19, 3, [10, 1, 2], 0, 0), (26, none, .aload_n 0, 1, [], 0, 0), (27, none, .new 23, 3, [8, 12], 0, 0), (30, none, .dup, 1, [], 0, 0), (31, none, .invokespecial 25, 3, [1, 89, 0, 0, 8], 0, 0), (34, some [0], .putfield 26, 3, [10, 2, 2], 0, 0), (37, none, .aload_n 0, 1, [], 0, 0), (38, none, .new 9, 3, [5, 11], 0, 0), (41, none, .dup, 1, [], 0, 0), (42, none, .invokespecial 11, 3, [1, 55, 0, 0, 5], 0, 0), (45, some [0], .putfield 30, 3, [10, 3, 2], 0, 0), (48, none, .aload_n 0, 1, [], 0, 0), (49, none, .new 16, 3, [6, 3], 0, 0), (52, none, .dup, 1, [], 0, 0), (53, none, .invokespecial 18, 3, [1, 77, 0, 0, 6], 0, 0), (56, some [0], .putfield 33, 3, [10, 4, 2], 0, 0), (59, none, .aload_n 0, 1, [], 0, 0), (60, none, .new 23, 3, [8, 12], 0, 0), (63, none, .dup, 1, [], 0, 0), (64, none, .invokespecial 25, 3, [1, 89, 0, 0, 8], 0, 0), (67, some [0], .putfield 36, 3, [10, 5, 2], 0, 0), (70, none, .aload_n 0, 1, [], 0, 0), (71, none, .new 9, 3, [5, 11], 0, 0), (74, none, .dup, 1, [], 0, 0), (75, none, .invokespecial 11, 3, [1, 55, 0, 0, 5], 0, 0), (78, some [0], .putfield 39, 3, [10, 6, 2], 0, 0), (81, none, .aload_n 0, 1, [], 0, 0), (82, none, .iconst 4, 1, [], 4, 0), (83, none, .anewarray 42, 3, [], 0, 0), (86, none, .putfield 44, 3, [10, 7, 2], 0, 0), (89, none, .aload_n 0, 1, [], 0, 0), (90, none, .new 48, 3, [4, 11], 0, 0), (93, none, .dup, 1, [], 0, 0), (94, none, .invokespecial 50, 3, [1, 24, 0, 0, 4], 0, 0), (97, some [0], .putfield 51, 3, [10, 8, 2], 0, 0), (100, none, .aload_n 0, 1, [], 0, 0), (101, none, .new 55, 3, [1, 3], 0, 0), (104, none, .dup, 1, [], 0, 0), (105, none, .invokespecial 57, 3, [1, 5, 0, 0, 1], 0, 0), (108, some [0], .putfield 58, 3, [10, 9, 2], 0, 0), (111, none, .aload_n 0, 1, [], 0, 0), (112, none, .new 62, 3, [3, 4], 0, 0), (115, none, .dup, 1, [], 0, 0), (116, none, .invokespecial 64, 3, [1, 18, 0, 0, 3], 0, 0), (119, some [0], .putfield 65, 3, [10, 10, 2], 0, 0), (122, none, .aload_n 0, 1, [], 0, 0), (123, none, .new 69, 3, [2, 2], 0, 0), (126, none, .dup, 1, [], 0, 0), (127, none, .invokespecial 71, 3, [1, 15, 0, 0, 2], 0, 0), (130, some [0], .putfield 72, 3, [10, 11, 2], 0, 0), (133, none, .aload_n 0, 1, [], 0, 0), (134, none, .sipush 201, 3, [], 201, 0), (137, none, .newarray .int, 2, [0], 0, 0), (139, none, .putfield 76, 3, [10, 12, 2], 0, 0), (142, none, .aload_n 0, 1, [], 0, 0), (143, none, .iconst 5, 1, [], 5, 0), (144, none, .newarray .int, 2, [0], 0, 0), (146, none, .putfield 80, 3, [10, 13, 2], 0, 0), (149, none, .aload_n 0, 1, [], 0, 0), (150, none, .aconst_null, 1, [], 0, 0), (151, none, .putfield 83, 3, [10, 14, 2], 0, 0), (154, none, .aload_n 0, 1, [], 0, 0), (155, none, .aconst_null, 1, [], 0, 0), (156, none, .putfield 87, 3, [10, 15, 2], 0, 0), (159, none, .iconst 0, 1, [], 0, 0), (160, none, .istore_n 1, 1, [], 0, 0), (161, some [0, 1], .iload_n 1, 1, [], 0, 0), (162, none, .iconst 4, 1, [], 4, 0), (163, none, .if_icmp .ge 22, 3, [185], 0, 0), (166, none, .aload_n 0, 1, [], 0, 0), (167, none, .getfield 44, 3, [10, 7, 2], 0, 0), (170, none, .iload_n 1, 1, [], 0, 0), (171, none, .new 42, 3, [7, 8], 0, 0), (174, none, .dup, 1, [], 0, 0), (175, none, .invokespecial 91, 3, [1, 82, 0, 0, 7], 0, 0), (178, some [0, 1], .aastore, 1, [], 0, 0), (179, none, .iinc 1 1, 3, [], 1, 0), (182, none, .goto (-21), 3, [161], 0, 0), (185, none, .return_, 1, [], 0, 0)]
def k_X10_person : List EN := [(0, none, .iload_n 1, 1, [], 0, 0), (1, none, .invokestatic 92, 3, [0, 147, 1, 1], 0, 0), (4, none, .ifCond .eq 24, 3, [28], 0, 0), (7, none, .iload_n 2, 1, [], 0, 0), (8, none, .iconst 1, 1, [], 1, 0), (9, none, .bipush 9, 2, [], 9, 0), (11, none, .invokestatic 96, 3, [0, 146, 3, 1], 0, 0), (14, some [0, 1, 2], .ifCond .eq 14, 3, [28], 0, 0), (17, none, .aload_n 0, 1, [], 0, 0), (18, none, .getfield 12, 3, [10, 0, 2], 0, 0), (21, none, .getfield 100, 3, [5, 0, 0], 0, 0), (24, none, .iconst 5, 1, [], 5, 0), (25, none, .if_icmp .lt 5, 3, [30], 0, 0), (28, none, .iconst (-1), 1, [], (-1), 0), (29, none, .ireturn, 1, [], 0, 0), (30, none, .aload_n 0, 1, [], 0, 0), (31, none, .getfield 12, 3, [10, 0, 2], 0, 0), (34, none, .iload_n 1, 1, [], 0, 0), (35, none, .iload_n 2, 1, [], 0, 0), (36, none, .invokevirtual 104, 3, [1, 57, 2, 0, 5], 0, 0), (39, some [0], .aload_n 0, 1, [], 0, 0), (40, none, .getfield 12, 3, [10, 0, 2], 0, 0), (43, none, .getfield 100, 3, [5, 0, 0], 0, 0), (46, none, .iconst 1, 1, [], 1, 0), (47, none, .isub, 1, [], 0, 0), (48, none, .ireturn, 1, [], 0, 0)]
def k_X10_rack : List EN := [(0, none, .iload_n 1, 1, [], 0, 0), (1, none, .iconst 0, 1, [], 0, 0), (2, none, .iconst 4, 1, [], 4, 0), (3, none, .invokestatic 96, 3, [0, 146, 3, 1], 0, 0), (6, none, .ifCond .eq 10, 3, [16], 0, 0), (9, none, .iload_n 2, 1, [], 0, 0), (10, none, .invokestatic 92, 3, [0, 147, 1, 1], 0, 0), (13, some [0, 1, 2], .ifCond .ne 5, 3, [18], 0, 0), (16, none, .iconst 0, 1, [], 0, 0), (17, none, .ireturn, 1, [], 0, 0), (18, none, .aload_n 0, 1, [], 0, 0), (19, none, .getfield 26, 3, [10, 2, 2], 0, 0), (22, none, .getfield 108, 3, [8, 6, 2], 0, 0), (25, none, .iload_n 1, 1, [], 0, 0), (26, none, .iload_n 2, 1, [], 0, 0), (27, none, .iastore, 1, [], 0, 0), (28, none, .iconst 1, 1, [], 1, 0), (29, none, .ireturn, 1, [], 0, 0)]
def k_X10_feed : List EN := [(0, none, .aload_n 0, 1, [], 0, 0), (1, none, .getfield 51, 3, [10, 8, 2], 0, 0), (4, none, .getfield 111, 3, [4, 0, 0], 0, 0), (7, none, .bipush 20, 2, [], 20, 0), (9, none, .iadd, 1, [], 0, 0), (10, none, .sipush 300, 3, [], 300, 0), (13, none, .if_icmp .le 5, 3, [18], 0, 0), (16, none, .iconst (-1), 1, [], (-1), 0), (17, none, .ireturn, 1, [], 0, 0), (18, none, .aload_n 0, 1, [], 0, 0), (19, none, .getfield 51, 3, [10, 8, 2], 0, 0), (22, none, .iload_n 1, 1, [], 0, 0), (23, none, .invokevirtual 114, 3, [1, 25, 1, 0, 4], 0, 0), (26, some [0, 2, 3, 4, 5], .aload_n 0, 1, [], 0, 0), (27, none, .getfield 51, 3, [10, 8, 2], 0, 0), (30, none, .iload_n 2, 1, [], 0, 0), (31, none, .invokevirtual 114, 3, [1, 25, 1, 0, 4], 0, 0), (34, some [0, 3, 4, 5], .aload_n 0, 1, [], 0, 0), (35, none, .getfield 51, 3, [10, 8, 2], 0, 0), (38, none, .iload_n 3, 1, [], 0, 0), (39, none, .invokevirtual 114, 3, [1, 25, 1, 0, 4], 0, 0), (42, some [0, 4, 5], .aload_n 0, 1, [], 0, 0), (43, none, .getfield 51, 3, [10, 8, 2], 0, 0), (46, none, .iload 4, 2, [], 0, 0), (48, none, .invokevirtual 114, 3, [1, 25, 1, 0, 4], 0, 0), (51, some [0, 5], .aload_n 0, 1, [], 0, 0), (52, none, .getfield 51, 3, [10, 8, 2], 0, 0), (55, none, .iload 5, 2, [], 0, 0), (57, none, .invokevirtual 114, 3, [1, 25, 1, 0, 4], 0, 0), (60, some [0], .aload_n 0, 1, [], 0, 0), (61, none, .getfield 51, 3, [10, 8, 2], 0, 0), (64, none, .getfield 111, 3, [4, 0, 0], 0, 0), (67, none, .ireturn, 1, [], 0, 0)]
def k_X10_end : List EN := [(0, none, .iload_n 1, 1, [], 0, 0), (1, none, .iconst 0, 1, [], 0, 0), (2, none, .aload_n 0, 1, [], 0, 0), (3, none, .getfield 51, 3, [10, 8, 2], 0, 0), (6, none, .getfield 111, 3, [4, 0, 0], 0, 0), (9, none, .invokestatic 96, 3, [0, 146, 3, 1], 0, 0), (12, some [0, 1], .ifCond .ne 5, 3, [17], 0, 0), (15, none, .iconst (-1), 1, [], (-1), 0), (16, none, .ireturn, 1, [], 0, 0), (17, none, .aload_n 0, 1, [], 0, 0), (18, none, .getfield 51, 3, [10, 8, 2], 0, 0), (21, none, .iload_n 1, 1, [], 0, 0), (22, none, .putfield 111, 3, [4, 0, 0], 0, 0), (25, none, .iload_n 1, 1, [], 0, 0), (26, none, .ireturn, 1, [], 0, 0)]
def k_X10_text : List EN := [(0, none, .aload_n 0, 1, [], 0, 0), (1, none, .getfield 26, 3, [10, 2, 2], 0, 0), (4, none, .getfield 118, 3, [8, 0, 0], 0, 0), (7, none, .iconst 4, 1, [], 4, 0), (8, none, .if_icmp .lt 5, 3, [13], 0, 0), (11, none, .iconst (-1), 1, [], (-1), 0), (12, none, .ireturn, 1, [], 0, 0), (13, none, .aload_n 0, 1, [], 0, 0), (14, none, .getfield 51, 3, [10, 8, 2], 0, 0), (17, none, .aload_n 0, 1, [], 0, 0), (18, none, .getfield 44, 3, [10, 7, 2], 0, 0), (21, none, .aload_n 0, 1, [], 0, 0), (22, none, .getfield 26, 3, [10, 2, 2], 0, 0), (25, none, .getfield 118, 3, [8, 0, 0], 0, 0), (28, none, .aaload, 1, [], 0, 0), (29, none, .invokevirtual 120, 3, [1, 26, 1, 1, 4], 0, 0), (32, some [0], .istore_n 1, 1, [], 0, 0), (33, none, .aload_n 0, 1, [], 0, 0), (34, none, .getfield 51, 3, [10, 8, 2], 0, 0), (37, none, .iconst 0, 1, [], 0, 0), (38, none, .putfield 111, 3, [4, 0, 0], 0, 0), (41, none, .iload_n 1, 1, [], 0, 0), (42, none, .ifCond .ne 5, 3, [47], 0, 0), (45, none, .iconst (-1), 1, [], (-1), 0), (46, none, .ireturn, 1, [], 0, 0), (47, none, .aload_n 0, 1, [], 0, 0), (48, none, .getfield 26, 3, [10, 2, 2], 0, 0), (51, none, .dup, 1, [], 0, 0), (52, none, .getfield 118, 3, [8, 0, 0], 0, 0), (55, none, .iconst 1, 1, [], 1, 0), (56, none, .iadd, 1, [], 0, 0), (57, none, .putfield 118, 3, [8, 0, 0], 0, 0), (60, none, .aload_n 0, 1, [], 0, 0), (61, none, .getfield 26, 3, [10, 2, 2], 0, 0), (64, none, .getfield 118, 3, [8, 0, 0], 0, 0), (67, none, .iconst 1, 1, [], 1, 0), (68, none, .isub, 1, [], 0, 0), (69, none, .ireturn, 1, [], 0, 0)]
def k_X10_fault : List EN := [(0, none, .aload_n 0, 1, [], 0, 0), (1, none, .getfield 51, 3, [10, 8, 2], 0, 0), (4, none, .getfield 124, 3, [4, 1, 3], 0, 0), (7, none, .ifCond .ne 5, 3, [12], 0, 0), (10, none, .iconst (-1), 1, [], (-1), 0), (11, none, .ireturn, 1, [], 0, 0), (12, none, .iload_n 1, 1, [], 0, 0), (13, none, .lookupswitch 43 #[(0, 27), (1, 35)], 27, [56, 0, 40, 1, 48], 0, 0), (40, none, .aload_n 0, 1, [], 0, 0), (41, none, .getfield 51, 3, [10, 8, 2], 0, 0), (44, none, .getfield 128, 3, [4, 2, 0], 0, 0), (47, none, .ireturn, 1, [], 0, 0), (48, none, .aload_n 0, 1, [], 0, 0), (49, none, .getfield 51, 3, [10, 8, 2], 0, 0), (52, none, .getfield 131, 3, [4, 3, 0], 0, 0), (55, none, .ireturn, 1, [], 0, 0), (56, none, .iconst (-1), 1, [], (-1), 0), (57, none, .ireturn, 1, [], 0, 0)]
def k_X10_by : List EN := [(0, none, .iload_n 1, 1, [], 0, 0), (1, none, .iconst (-1), 1, [], (-1), 0), (2, none, .if_icmp .eq 13, 3, [15], 0, 0), (5, none, .aload_n 0, 1, [], 0, 0), (6, none, .iload_n 1, 1, [], 0, 0), (7, none, .invokevirtual 134, 3, [1, 150, 1, 1, 10], 0, 0), (10, some [0, 1], .ifCond .ne 5, 3, [15], 0, 0), (13, none, .iconst 0, 1, [], 0, 0), (14, none, .ireturn, 1, [], 0, 0), (15, none, .aload_n 0, 1, [], 0, 0), (16, none, .getfield 26, 3, [10, 2, 2], 0, 0), (19, none, .iload_n 1, 1, [], 0, 0), (20, none, .putfield 137, 3, [8, 1, 0], 0, 0), (23, none, .iconst 1, 1, [], 1, 0), (24, none, .ireturn, 1, [], 0, 0)]
def k_X10_swap : List EN := [(0, none, .aload_n 0, 1, [], 0, 0), (1, none, .getfield 12, 3, [10, 0, 2], 0, 0), (4, none, .iload_n 1, 1, [], 0, 0), (5, none, .iload_n 2, 1, [], 0, 0), (6, none, .invokevirtual 140, 3, [1, 61, 2, 1, 5], 0, 0), (9, some [0, 1, 2], .ifCond .ne 5, 3, [14], 0, 0), (12, none, .iconst 0, 1, [], 0, 0), (13, none, .ireturn, 1, [], 0, 0), (14, none, .aload_n 0, 1, [], 0, 0), (15, none, .getfield 19, 3, [10, 1, 2], 0, 0), (18, none, .aload_n 0, 1, [], 0, 0), (19, none, .getfield 12, 3, [10, 0, 2], 0, 0), (22, none, .invokevirtual 144, 3, [1, 78, 1, 0, 6], 0, 0), (25, some [0, 1, 2], .aload_n 0, 1, [], 0, 0), (26, none, .getfield 12, 3, [10, 0, 2], 0, 0), (29, none, .iload_n 1, 1, [], 0, 0), (30, none, .iload_n 2, 1, [], 0, 0), (31, none, .invokevirtual 148, 3, [1, 62, 2, 0, 5], 0, 0), (34, none, .iconst 1, 1, [], 1, 0), (35, none, .ireturn, 1, [], 0, 0)]
def k_X10_turn : List EN := [(0, none, .iload_n 1, 1, [], 0, 0), (1, none, .iconst 1, 1, [], 1, 0), (2, none, .aload_n 0, 1, [], 0, 0), (3, none, .getfield 12, 3, [10, 0, 2], 0, 0), (6, none, .getfield 100, 3, [5, 0, 0], 0, 0), (9, none, .invokestatic 96, 3, [0, 146, 3, 1], 0, 0), (12, some [0, 1], .ifCond .ne 5, 3, [17], 0, 0), (15, none, .iconst 0, 1, [], 0, 0), (16, none, .ireturn, 1, [], 0, 0), (17, none, .aload_n 0, 1, [], 0, 0), (18, none, .getfield 19, 3, [10, 1, 2], 0, 0), (21, none, .aload_n 0, 1, [], 0, 0), (22, none, .getfield 12, 3, [10, 0, 2], 0, 0), (25, none, .invokevirtual 144, 3, [1, 78, 1, 0, 6], 0, 0), (28, some [0, 1], .aload_n 0, 1, [], 0, 0), (29, none, .getfield 12, 3, [10, 0, 2], 0, 0), (32, none, .iload_n 1, 1, [], 0, 0), (33, none, .invokevirtual 151, 3, [1, 63, 1, 0, 5], 0, 0), (36, none, .iconst 1, 1, [], 1, 0), (37, none, .ireturn, 1, [], 0, 0)]
def k_X10_prop : List EN := [(0, none, .aload_n 0, 1, [], 0, 0), (1, none, .getfield 12, 3, [10, 0, 2], 0, 0), (4, none, .iload_n 1, 1, [], 0, 0), (5, none, .iload_n 2, 1, [], 0, 0), (6, none, .invokevirtual 154, 3, [1, 64, 2, 1, 5], 0, 0), (9, some [0, 1, 2], .ifCond .ne 5, 3, [14], 0, 0), (12, none, .iconst 0, 1, [], 0, 0), (13, none, .ireturn, 1, [], 0, 0), (14, none, .aload_n 0, 1, [], 0, 0), (15, none, .getfield 19, 3, [10, 1, 2], 0, 0), (18, none, .aload_n 0, 1, [], 0, 0), (19, none, .getfield 12, 3, [10, 0, 2], 0, 0), (22, none, .invokevirtual 144, 3, [1, 78, 1, 0, 6], 0, 0), (25, some [0, 1, 2], .aload_n 0, 1, [], 0, 0), (26, none, .getfield 12, 3, [10, 0, 2], 0, 0), (29, none, .iload_n 1, 1, [], 0, 0), (30, none, .iload_n 2, 1, [], 0, 0), (31, none, .invokevirtual 158, 3, [1, 65, 2, 0, 5], 0, 0), (34, none, .iconst 1, 1, [], 1, 0), (35, none, .ireturn, 1, [], 0, 0)]
def k_X10_year : List EN := [(0, none, .iload_n 1, 1, [], 0, 0), (1, none, .iconst 1, 1, [], 1, 0), (2, none, .bipush 60, 2, [], 60, 0), (4, none, .invokestatic 96, 3, [0, 146, 3, 1], 0, 0), (7, some [0, 1], .ifCond .eq 18, 3, [25], 0, 0), (10, none, .aload_n 0, 1, [], 0, 0), (11, none, .getfield 12, 3, [10, 0, 2], 0, 0), (14, none, .getfield 162, 3, [5, 3, 0], 0, 0), (17, none, .iload_n 1, 1, [], 0, 0), (18, none, .iadd, 1, [], 0, 0), (19, none, .sipush 9999, 3, [], 9999, 0), (22, none, .if_icmp .le 5, 3, [27], 0, 0), (25, none, .iconst (-1), 1, [], (-1), 0), (26, none, .ireturn, 1, [], 0, 0), (27, none, .aload_n 0, 1, [], 0, 0), (28, none, .iload_n 1, 1, [], 0, 0), (29, none, .invokevirtual 165, 3, [1, 152, 1, 1, 10], 0, 0), (32, none, .ireturn, 1, [], 0, 0)]
def k_X10_played : List EN := [(0, none, .aload_n 0, 1, [], 0, 0), (1, none, .iload_n 1, 1, [], 0, 0), (2, none, .invokevirtual 134, 3, [1, 150, 1, 1, 10], 0, 0), (5, some [0, 1], .ifCond .ne 6, 3, [11], 0, 0), (8, none, .bipush (-2), 2, [], (-2), 0), (10, none, .ireturn, 1, [], 0, 0), (11, none, .aload_n 0, 1, [], 0, 0), (12, none, .getfield 44, 3, [10, 7, 2], 0, 0), (15, none, .iload_n 1, 1, [], 0, 0), (16, none, .aaload, 1, [], 0, 0), (17, none, .astore_n 2, 1, [], 0, 0), (18, none, .iconst 0, 1, [], 0, 0), (19, none, .istore_n 3, 1, [], 0, 0), (20, some [0, 2, 3], .iload_n 3, 1, [], 0, 0), (21, none, .aload_n 2, 1, [], 0, 0), (22, none, .getfield 169, 3, [7, 0, 0], 0, 0), (25, none, .if_icmp .ge 36, 3, [61], 0, 0), (28, none, .aload_n 0, 1, [], 0, 0), (29, none, .aload_n 2, 1, [], 0, 0), (30, none, .getfield 172, 3, [7, 4, 2], 0, 0), (33, none, .iload_n 3, 1, [], 0, 0), (34, none, .iaload, 1, [], 0, 0), (35, none, .aload_n 2, 1, [], 0, 0), (36, none, .getfield 175, 3, [7, 5, 2], 0, 0), (39, none, .iload_n 3, 1, [], 0, 0), (40, none, .iaload, 1, [], 0, 0), (41, none, .aload_n 2, 1, [], 0, 0), (42, none, .getfield 178, 3, [7, 6, 2], 0, 0), (45, none, .iload_n 3, 1, [], 0, 0), (46, none, .iaload, 1, [], 0, 0), (47, none, .invokevirtual 181, 3, [1, 153, 3, 1, 10], 0, 0), (50, none, .ifCond .ne 5, 3, [55], 0, 0), (53, none, .iload_n 3, 1, [], 0, 0), (54, none, .ireturn, 1, [], 0, 0), (55, none, .iinc 3 1, 3, [], 1, 0), (58, none, .goto (-38), 3, [20], 0, 0), (61, none, .iconst (-1), 1, [], (-1), 0), (62, none, .ireturn, 1, [], 0, 0)]
def k_X10_ages : List EN := [(0, none, .iload_n 1, 1, [], 0, 0), (1, none, .iconst 0, 1, [], 0, 0), (2, none, .sipush 9999, 3, [], 9999, 0), (5, none, .invokestatic 96, 3, [0, 146, 3, 1], 0, 0), (8, none, .ifCond .eq 13, 3, [21], 0, 0), (11, none, .iload_n 2, 1, [], 0, 0), (12, none, .iconst 1, 1, [], 1, 0), (13, none, .bipush 40, 2, [], 40, 0), (15, none, .invokestatic 96, 3, [0, 146, 3, 1], 0, 0), (18, some [0, 1, 2], .ifCond .ne 5, 3, [23], 0, 0), (21, none, .iconst (-1), 1, [], (-1), 0), (22, none, .ireturn, 1, [], 0, 0), (23, none, .aload_n 0, 1, [], 0, 0), (24, none, .getfield 19, 3, [10, 1, 2], 0, 0), (27, none, .aload_n 0, 1, [], 0, 0), (28, none, .getfield 12, 3, [10, 0, 2], 0, 0), (31, none, .invokevirtual 144, 3, [1, 78, 1, 0, 6], 0, 0), (34, some [0, 1, 2], .aload_n 0, 1, [], 0, 0), (35, none, .getfield 12, 3, [10, 0, 2], 0, 0), (38, none, .iload_n 1, 1, [], 0, 0), (39, none, .iconst 2, 1, [], 2, 0), (40, none, .imul, 1, [], 0, 0), (41, none, .sipush 317, 3, [], 317, 0), (44, none, .iadd, 1, [], 0, 0), (45, none, .putfield 184, 3, [5, 4, 0], 0, 0), (48, none, .iconst 0, 1, [], 0, 0), (49, none, .istore_n 3, 1, [], 0, 0), (50, some [0, 2, 3], .iload_n 3, 1, [], 0, 0), (51, none, .iload_n 2, 1, [], 0, 0), (52, none, .if_icmp .ge 83, 3, [135], 0, 0), (55, none, .aload_n 0, 1, [], 0, 0), (56, none, .getfield 12, 3, [10, 0, 2], 0, 0), (59, none, .getfield 184, 3, [5, 4, 0], 0, 0), (62, none, .istore 4, 2, [], 0, 0), (64, none, .aload_n 0, 1, [], 0, 0), (65, none, .getfield 12, 3, [10, 0, 2], 0, 0), (68, none, .invokevirtual 187, 3, [1, 66, 0, 0, 5], 0, 0), (71, some [0, 2, 3, 4], .iload 4, 2, [], 0, 0), (73, none, .bipush 7, 2, [], 7, 0), (75, none, .irem, 1, [], 0, 0), (76, none, .iconst 4, 1, [], 4, 0), (77, none, .if_icmp .lt 36, 3, [113], 0, 0), (80, none, .aload_n 0, 1, [], 0, 0), (81, none, .getfield 12, 3, [10, 0, 2], 0, 0), (84, none, .getfield 162, 3, [5, 3, 0], 0, 0), (87, none, .sipush 9999, 3, [], 9999, 0), (90, none, .if_icmp .ge 39, 3, [129], 0, 0), (93, none, .aload_n 0, 1, [], 0, 0), (94, none, .getfield 58, 3, [10, 9, 2], 0, 0), (97, none, .aload_n 0, 1, [], 0, 0), (98, none, .getfield 12, 3, [10, 0, 2], 0, 0), (101, none, .aload_n 0, 1, [], 0, 0), (102, none, .invokevirtual 190, 3, [1, 151, 0, 3, 10], 0, 0), (105, some [0, 2, 3], .iconst 1, 1, [], 1, 0), (106, none, .invokevirtual 193, 3, [1, 6, 3, 1, 1], 0, 0), (109, none, .pop, 1, [], 0, 0), (110, none, .goto 19, 3, [129], 0, 0), (113, none, .aload_n 0, 1, [], 0, 0), (114, none, .getfield 12, 3, [10, 0, 2], 0, 0), (117, none, .getfield 100, 3, [5, 0, 0], 0, 0), (120, none, .ifCond .le 9, 3, [129], 0, 0), (123, none, .aload_n 0, 1, [], 0, 0), (124, none, .iload 4, 2, [], 0, 0), (126, none, .invokevirtual 197, 3, [1, 154, 1, 0, 10], 0, 0), (129, none, .iinc 3 1, 3, [], 1, 0), (132, none, .goto (-82), 3, [50], 0, 0), (135, none, .aload_n 0, 1, [], 0, 0), (136, none, .getfield 12, 3, [10, 0, 2], 0, 0), (139, none, .getfield 162, 3, [5, 3, 0], 0, 0), (142, none, .ireturn, 1, [], 0, 0)]
def k_X10_undo : List EN := [(0, none, .aload_n 0, 1, [], 0, 0), (1, none, .getfield 19, 3, [10, 1, 2], 0, 0), (4, none, .getfield 200, 3, [6, 0, 0], 0, 0), (7, none, .ifCond .ne 5, 3, [12], 0, 0), (10, none, .iconst (-1), 1, [], (-1), 0), (11, none, .ireturn, 1, [], 0, 0), (12, none, .aload_n 0, 1, [], 0, 0), (13, none, .getfield 19, 3, [10, 1, 2], 0, 0), (16, none, .aload_n 0, 1, [], 0, 0), (17, none, .getfield 12, 3, [10, 0, 2], 0, 0), (20, none, .invokevirtual 203, 3, [1, 79, 1, 0, 6], 0, 0), (23, some [0], .aload_n 0, 1, [], 0, 0), (24, none, .getfield 19, 3, [10, 1, 2], 0, 0), (27, none, .getfield 200, 3, [6, 0, 0], 0, 0), (30, none, .ireturn, 1, [], 0, 0)]
def k_X10_of : List EN := [(0, none, .aload_n 0, 1, [], 0, 0), (1, none, .getfield 12, 3, [10, 0, 2], 0, 0), (4, none, .iload_n 1, 1, [], 0, 0), (5, none, .invokevirtual 206, 3, [1, 56, 1, 1, 5], 0, 0), (8, some [0, 1, 2], .ifCond .ne 6, 3, [14], 0, 0), (11, none, .bipush (-100), 2, [], (-100), 0), (13, none, .ireturn, 1, [], 0, 0), (14, none, .iload_n 2, 1, [], 0, 0), (15, none, .tableswitch 75 0 3 #[29, 39, 49, 58], 29, [90, 0, 44, 54, 64, 73], 0, 0), (44, none, .aload_n 0, 1, [], 0, 0), (45, none, .getfield 12, 3, [10, 0, 2], 0, 0), (48, none, .getfield 209, 3, [5, 6, 2], 0, 0), (51, none, .iload_n 1, 1, [], 0, 0), (52, none, .iaload, 1, [], 0, 0), (53, none, .ireturn, 1, [], 0, 0), (54, none, .aload_n 0, 1, [], 0, 0), (55, none, .getfield 12, 3, [10, 0, 2], 0, 0), (58, none, .getfield 212, 3, [5, 7, 2], 0, 0), (61, none, .iload_n 1, 1, [], 0, 0), (62, none, .iaload, 1, [], 0, 0), (63, none, .ireturn, 1, [], 0, 0), (64, none, .aload_n 0, 1, [], 0, 0), (65, none, .getfield 12, 3, [10, 0, 2], 0, 0), (68, none, .iload_n 1, 1, [], 0, 0), (69, none, .invokevirtual 215, 3, [1, 59, 1, 1, 5], 0, 0), (72, none, .ireturn, 1, [], 0, 0), (73, none, .aload_n 0, 1, [], 0, 0), (74, none, .getfield 58, 3, [10, 9, 2], 0, 0), (77, none, .aload_n 0, 1, [], 0, 0), (78, none, .getfield 12, 3, [10, 0, 2], 0, 0), (81, none, .iload_n 1, 1, [], 0, 0), (82, none, .aload_n 0, 1, [], 0, 0), (83, none, .invokevirtual 190, 3, [1, 151, 0, 3, 10], 0, 0), (86, some [], .invokevirtual 218, 3, [1, 7, 3, 1, 1], 0, 0), (89, none, .ireturn, 1, [], 0, 0), (90, none, .bipush (-100), 2, [], (-100), 0), (92, none, .ireturn, 1, [], 0, 0)]
def k_X10_seat : List EN := [(0, none, .aload_n 0, 1, [], 0, 0), (1, none, .getfield 12, 3, [10, 0, 2], 0, 0), (4, none, .iload_n 1, 1, [], 0, 0), (5, none, .invokevirtual 206, 3, [1, 56, 1, 1, 5], 0, 0), (8, some [0, 1, 2], .ifCond .ne 6, 3, [14], 0, 0), (11, none, .bipush (-100), 2, [], (-100), 0), (13, none, .ireturn, 1, [], 0, 0), (14, none, .iload_n 2, 1, [], 0, 0), (15, none, .tableswitch 62 0 2 #[25, 35, 45], 25, [77, 0, 40, 50, 60], 0, 0), (40, none, .aload_n 0, 1, [], 0, 0), (41, none, .getfield 12, 3, [10, 0, 2], 0, 0), (44, none, .getfield 222, 3, [5, 9, 2], 0, 0), (47, none, .iload_n 1, 1, [], 0, 0), (48, none, .iaload, 1, [], 0, 0), (49, none, .ireturn, 1, [], 0, 0), (50, none, .aload_n 0, 1, [], 0, 0), (51, none, .getfield 26, 3, [10, 2, 2], 0, 0), (54, none, .getfield 108, 3, [8, 6, 2], 0, 0), (57, none, .iload_n 1, 1, [], 0, 0), (58, none, .iaload, 1, [], 0, 0), (59, none, .ireturn, 1, [], 0, 0), (60, none, .aload_n 0, 1, [], 0, 0), (61, none, .getfield 12, 3, [10, 0, 2], 0, 0), (64, none, .iload_n 1, 1, [], 0, 0), (65, none, .invokevirtual 225, 3, [1, 60, 1, 1, 5], 0, 0), (68, none, .ifCond .eq 7, 3, [75], 0, 0), (71, none, .iconst 1, 1, [], 1, 0), (72, none, .goto 4, 3, [76], 0, 0), (75, none, .iconst 0, 1, [], 0, 0), (76, none, .ireturn, 1, [], 0, 0), (77, none, .bipush (-100), 2, [], (-100), 0), (79, none, .ireturn, 1, [], 0, 0)]
def k_X10_hears : List EN := [(0, none, .aload_n 0, 1, [], 0, 0), (1, none, .getfield 12, 3, [10, 0, 2], 0, 0), (4, none, .iload_n 1, 1, [], 0, 0), (5, none, .invokevirtual 206, 3, [1, 56, 1, 1, 5], 0, 0), (8, some [0, 1, 2, 3], .ifCond .eq 24, 3, [32], 0, 0), (11, none, .aload_n 0, 1, [], 0, 0), (12, none, .getfield 12, 3, [10, 0, 2], 0, 0), (15, none, .iload_n 2, 1, [], 0, 0), (16, none, .invokevirtual 206, 3, [1, 56, 1, 1, 5], 0, 0), (19, none, .ifCond .eq 13, 3, [32], 0, 0), (22, none, .iload_n 3, 1, [], 0, 0), (23, none, .iconst 0, 1, [], 0, 0), (24, none, .bipush 99, 2, [], 99, 0), (26, none, .invokestatic 96, 3, [0, 146, 3, 1], 0, 0), (29, some [0, 1, 2, 3], .ifCond .ne 7, 3, [36], 0, 0), (32, none, .sipush (-10000), 3, [], (-10000), 0), (35, none, .ireturn, 1, [], 0, 0), (36, none, .aload_n 0, 1, [], 0, 0), (37, none, .getfield 58, 3, [10, 9, 2], 0, 0), (40, none, .aload_n 0, 1, [], 0, 0), (41, none, .getfield 12, 3, [10, 0, 2], 0, 0), (44, none, .iload_n 1, 1, [], 0, 0), (45, none, .iload_n 2, 1, [], 0, 0), (46, none, .iload_n 3, 1, [], 0, 0), (47, none, .aload_n 0, 1, [], 0, 0), (48, none, .invokevirtual 190, 3, [1, 151, 0, 3, 10], 0, 0), (51, some [], .invokevirtual 228, 3, [1, 8, 5, 1, 1], 0, 0), (54, none, .ireturn, 1, [], 0, 0)]
def k_X10_is : List EN := [(0, none, .iload_n 1, 1, [], 0, 0), (1, none, .tableswitch 63 0 3 #[31, 39, 47, 55], 31, [64, 0, 32, 40, 48, 56], 0, 0), (32, none, .aload_n 0, 1, [], 0, 0), (33, none, .getfield 12, 3, [10, 0, 2], 0, 0), (36, none, .getfield 162, 3, [5, 3, 0], 0, 0), (39, none, .ireturn, 1, [], 0, 0), (40, none, .aload_n 0, 1, [], 0, 0), (41, none, .getfield 12, 3, [10, 0, 2], 0, 0), (44, none, .getfield 184, 3, [5, 4, 0], 0, 0), (47, none, .ireturn, 1, [], 0, 0), (48, none, .aload_n 0, 1, [], 0, 0), (49, none, .getfield 12, 3, [10, 0, 2], 0, 0), (52, none, .getfield 232, 3, [5, 2, 0], 0, 0), (55, none, .ireturn, 1, [], 0, 0), (56, none, .aload_n 0, 1, [], 0, 0), (57, none, .getfield 12, 3, [10, 0, 2], 0, 0), (60, none, .getfield 235, 3, [5, 1, 0], 0, 0), (63, none, .ireturn, 1, [], 0, 0), (64, none, .bipush (-100), 2, [], (-100), 0), (66, none, .ireturn, 1, [], 0, 0)]
def k_X10_book : List EN := [(0, none, .iload_n 1, 1, [], 0, 0), (1, none, .iconst (-1), 1, [], (-1), 0), (2, none, .if_icmp .ne 11, 3, [13], 0, 0), (5, none, .aload_n 0, 1, [], 0, 0), (6, none, .getfield 12, 3, [10, 0, 2], 0, 0), (9, none, .getfield 238, 3, [5, 5, 0], 0, 0), (12, none, .ireturn, 1, [], 0, 0), (13, none, .iload_n 1, 1, [], 0, 0), (14, none, .iconst 0, 1, [], 0, 0), (15, none, .aload_n 0, 1, [], 0, 0), (16, none, .getfield 12, 3, [10, 0, 2], 0, 0), (19, none, .getfield 238, 3, [5, 5, 0], 0, 0), (22, none, .iconst 1, 1, [], 1, 0), (23, none, .isub, 1, [], 0, 0), (24, none, .invokestatic 96, 3, [0, 146, 3, 1], 0, 0), (27, some [0, 1, 2], .ifCond .ne 6, 3, [33], 0, 0), (30, none, .bipush (-100), 2, [], (-100), 0), (32, none, .ireturn, 1, [], 0, 0), (33, none, .iload_n 2, 1, [], 0, 0), (34, none, .tableswitch 53 0 2 #[26, 35, 44], 26, [87, 0, 60, 69, 78], 0, 0), (60, none, .aload_n 0, 1, [], 0, 0), (61, none, .getfield 12, 3, [10, 0, 2], 0, 0), (64, none, .iload_n 1, 1, [], 0, 0), (65, none, .invokevirtual 241, 3, [1, 69, 1, 1, 5], 0, 0), (68, none, .ireturn, 1, [], 0, 0), (69, none, .aload_n 0, 1, [], 0, 0), (70, none, .getfield 12, 3, [10, 0, 2], 0, 0), (73, none, .iload_n 1, 1, [], 0, 0), (74, none, .invokevirtual 244, 3, [1, 70, 1, 1, 5], 0, 0), (77, none, .ireturn, 1, [], 0, 0), (78, none, .aload_n 0, 1, [], 0, 0), (79, none, .getfield 12, 3, [10, 0, 2], 0, 0), (82, none, .iload_n 1, 1, [], 0, 0), (83, none, .invokevirtual 247, 3, [1, 71, 1, 1, 5], 0, 0), (86, none, .ireturn, 1, [], 0, 0), (87, none, .bipush (-100), 2, [], (-100), 0), (89, none, .ireturn, 1, [], 0, 0)]
def k_X10_foretold : List EN := [(0, none, .iload_n 1, 1, [], 0, 0), (1, none, .iconst 1, 1, [], 1, 0), (2, none, .bipush 60, 2, [], 60, 0), (4, none, .invokestatic 96, 3, [0, 146, 3, 1], 0, 0), (7, some [0, 1, 2], .ifCond .eq 14, 3, [21], 0, 0), (10, none, .aload_n 0, 1, [], 0, 0), (11, none, .getfield 12, 3, [10, 0, 2], 0, 0), (14, none, .iload_n 2, 1, [], 0, 0), (15, none, .invokevirtual 206, 3, [1, 56, 1, 1, 5], 0, 0), (18, some [0, 1, 2], .ifCond .ne 6, 3, [24], 0, 0), (21, none, .bipush (-100), 2, [], (-100), 0), (23, none, .ireturn, 1, [], 0, 0), (24, none, .aload_n 0, 1, [], 0, 0), (25, none, .getfield 39, 3, [10, 6, 2], 0, 0), (28, none, .aload_n 0, 1, [], 0, 0), (29, none, .getfield 12, 3, [10, 0, 2], 0, 0), (32, none, .invokevirtual 250, 3, [1, 74, 1, 0, 5], 0, 0), (35, none, .iconst 0, 1, [], 0, 0), (36, none, .istore_n 3, 1, [], 0, 0), (37, some [0, 1, 2, 3], .iload_n 3, 1, [], 0, 0), (38, none, .iload_n 1, 1, [], 0, 0), (39, none, .if_icmp .ge 39, 3, [78], 0, 0), (42, none, .aload_n 0, 1, [], 0, 0), (43, none, .getfield 39, 3, [10, 6, 2], 0, 0), (46, none, .getfield 162, 3, [5, 3, 0], 0, 0), (49, none, .sipush 9999, 3, [], 9999, 0), (52, none, .if_icmp .ge 26, 3, [78], 0, 0), (55, none, .aload_n 0, 1, [], 0, 0), (56, none, .getfield 58, 3, [10, 9, 2], 0, 0), (59, none, .aload_n 0, 1, [], 0, 0), (60, none, .getfield 39, 3, [10, 6, 2], 0, 0), (63, none, .aload_n 0, 1, [], 0, 0), (64, none, .invokevirtual 190, 3, [1, 151, 0, 3, 10], 0, 0), (67, some [0, 1, 2, 3], .iconst 1, 1, [], 1, 0), (68, none, .invokevirtual 193, 3, [1, 6, 3, 1, 1], 0, 0), (71, none, .pop, 1, [], 0, 0), (72, none, .iinc 3 1, 3, [], 1, 0), (75, none, .goto (-38), 3, [37], 0, 0), (78, none, .aload_n 0, 1, [], 0, 0), (79, none, .getfield 39, 3, [10, 6, 2], 0, 0), (82, none, .getfield 209, 3, [5, 6, 2], 0, 0), (85, none, .iload_n 2, 1, [], 0, 0), (86, none, .iaload, 1, [], 0, 0), (87, none, .ireturn, 1, [], 0, 0)]
def k_X10_still : List EN := [(0, none, .iload_n 1, 1, [], 0, 0), (1, none, .invokestatic 92, 3, [0, 147, 1, 1], 0, 0), (4, some [0, 1, 2], .ifCond .ne 5, 3, [9], 0, 0), (7, none, .iconst (-1), 1, [], (-1), 0), (8, none, .ireturn, 1, [], 0, 0), (9, none, .aload_n 0, 1, [], 0, 0), (10, none, .getfield 39, 3, [10, 6, 2], 0, 0), (13, none, .aload_n 0, 1, [], 0, 0), (14, none, .getfield 12, 3, [10, 0, 2], 0, 0), (17, none, .invokevirtual 250, 3, [1, 74, 1, 0, 5], 0, 0), (20, some [0, 1, 2], .aload_n 0, 1, [], 0, 0), (21, none, .getfield 39, 3, [10, 6, 2], 0, 0), (24, none, .iload_n 1, 1, [], 0, 0), (25, none, .putfield 232, 3, [5, 2, 0], 0, 0), (28, none, .iconst 0, 1, [], 0, 0), (29, none, .istore_n 3, 1, [], 0, 0), (30, some [0, 2, 3], .iload_n 3, 1, [], 0, 0), (31, none, .sipush 200, 3, [], 200, 0), (34, none, .if_icmp .gt 84, 3, [118], 0, 0), (37, none, .aload_n 0, 1, [], 0, 0), (38, none, .getfield 39, 3, [10, 6, 2], 0, 0), (41, none, .invokevirtual 253, 3, [1, 72, 0, 1, 5], 0, 0), (44, none, .istore 4, 2, [], 0, 0), (46, none, .iconst 0, 1, [], 0, 0), (47, none, .istore 5, 2, [], 0, 0), (49, some [0, 2, 3, 4, 5], .iload 5, 2, [], 0, 0), (51, none, .iload_n 3, 1, [], 0, 0), (52, none, .if_icmp .ge 35, 3, [87], 0, 0), (55, none, .aload_n 0, 1, [], 0, 0), (56, none, .getfield 76, 3, [10, 12, 2], 0, 0), (59, none, .iload 5, 2, [], 0, 0), (61, none, .iaload, 1, [], 0, 0), (62, none, .iload 4, 2, [], 0, 0), (64, none, .if_icmp .ne 17, 3, [81], 0, 0), (67, none, .iload_n 2, 1, [], 0, 0), (68, none, .ifCond .eq 10, 3, [78], 0, 0), (71, none, .iload_n 3, 1, [], 0, 0), (72, none, .iload 5, 2, [], 0, 0), (74, none, .isub, 1, [], 0, 0), (75, none, .goto 5, 3, [80], 0, 0), (78, none, .iload 5, 2, [], 0, 0), (80, none, .ireturn, 1, [], 0, 0), (81, none, .iinc 5 1, 3, [], 1, 0), (84, none, .goto (-35), 3, [49], 0, 0), (87, none, .aload_n 0, 1, [], 0, 0), (88, none, .getfield 76, 3, [10, 12, 2], 0, 0), (91, none, .iload_n 3, 1, [], 0, 0), (92, none, .iload 4, 2, [], 0, 0), (94, none, .iastore, 1, [], 0, 0), (95, none, .aload_n 0, 1, [], 0, 0), (96, none, .getfield 58, 3, [10, 9, 2], 0, 0), (99, none, .aload_n 0, 1, [], 0, 0), (100, none, .getfield 39, 3, [10, 6, 2], 0, 0), (103, none, .aload_n 0, 1, [], 0, 0), (104, none, .invokevirtual 190, 3, [1, 151, 0, 3, 10], 0, 0), (107, some [0, 2, 3], .iconst 0, 1, [], 0, 0), (108, none, .invokevirtual 193, 3, [1, 6, 3, 1, 1], 0, 0), (111, none, .pop, 1, [], 0, 0), (112, none, .iinc 3 1, 3, [], 1, 0), (115, none, .goto (-85), 3, [30], 0, 0), (118, none, .iconst (-1), 1, [], (-1), 0), (119, none, .ireturn, 1, [], 0, 0)]
def k_X10_upright : List EN := [(0, none, .aload_n 0, 1, [], 0, 0), (1, none, .getfield 12, 3, [10, 0, 2], 0, 0), (4, none, .iload_n 1, 1, [], 0, 0), (5, none, .invokevirtual 206, 3, [1, 56, 1, 1, 5], 0, 0), (8, none, .ifCond .eq 10, 3, [18], 0, 0), (11, none, .iload_n 2, 1, [], 0, 0), (12, none, .invokestatic 92, 3, [0, 147, 1, 1], 0, 0), (15, some [0, 1, 2], .ifCond .ne 5, 3, [20], 0, 0), (18, none, .iconst (-1), 1, [], (-1), 0), (19, none, .ireturn, 1, [], 0, 0), (20, none, .aload_n 0, 1, [], 0, 0), (21, none, .getfield 39, 3, [10, 6, 2], 0, 0), (24, none, .aload_n 0, 1, [], 0, 0), (25, none, .getfield 12, 3, [10, 0, 2], 0, 0), (28, none, .invokevirtual 250, 3, [1, 74, 1, 0, 5], 0, 0), (31, some [0, 1, 2], .aload_n 0, 1, [], 0, 0), (32, none, .getfield 39, 3, [10, 6, 2], 0, 0), (35, none, .iload_n 2, 1, [], 0, 0), (36, none, .putfield 232, 3, [5, 2, 0], 0, 0), (39, none, .iconst 0, 1, [], 0, 0), (40, none, .istore_n 3, 1, [], 0, 0), (41, some [0, 1, 3], .iload_n 3, 1, [], 0, 0), (42, none, .bipush 60, 2, [], 60, 0), (44, none, .if_icmp .gt 40, 3, [84], 0, 0), (47, none, .aload_n 0, 1, [], 0, 0), (48, none, .getfield 39, 3, [10, 6, 2], 0, 0), (51, none, .getfield 209, 3, [5, 6, 2], 0, 0), (54, none, .iload_n 1, 1, [], 0, 0), (55, none, .iaload, 1, [], 0, 0), (56, none, .ifCond .ne 5, 3, [61], 0, 0), (59, none, .iload_n 3, 1, [], 0, 0), (60, none, .ireturn, 1, [], 0, 0), (61, none, .aload_n 0, 1, [], 0, 0), (62, none, .getfield 58, 3, [10, 9, 2], 0, 0), (65, none, .aload_n 0, 1, [], 0, 0), (66, none, .getfield 39, 3, [10, 6, 2], 0, 0), (69, none, .aload_n 0, 1, [], 0, 0), (70, none, .invokevirtual 190, 3, [1, 151, 0, 3, 10], 0, 0), (73, some [0, 1, 3], .iconst 0, 1, [], 0, 0), (74, none, .invokevirtual 193, 3, [1, 6, 3, 1, 1], 0, 0), (77, none, .pop, 1, [], 0, 0), (78, none, .iinc 3 1, 3, [], 1, 0), (81, none, .goto (-40), 3, [41], 0, 0), (84, none, .iconst (-1), 1, [], (-1), 0), (85, none, .ireturn, 1, [], 0, 0)]
def k_X10_byTurns : List EN := [(0, none, .aload_n 0, 1, [], 0, 0), (1, none, .getfield 83, 3, [10, 14, 2], 0, 0), (4, none, .ifnonnull 14, 3, [18], 0, 0), (7, none, .aload_n 0, 1, [], 0, 0), (8, none, .new 257, 3, [9, 5], 0, 0), (11, none, .dup, 1, [], 0, 0), (12, none, .invokespecial 259, 3, [1, 91, 0, 0, 9], 0, 0), (15, some [0, 1], .putfield 83, 3, [10, 14, 2], 0, 0), (18, none, .aload_n 0, 1, [], 0, 0), (19, none, .getfield 83, 3, [10, 14, 2], 0, 0), (22, none, .aload_n 0, 1, [], 0, 0), (23, none, .getfield 12, 3, [10, 0, 2], 0, 0), (26, none, .getfield 100, 3, [5, 0, 0], 0, 0), (29, none, .invokevirtual 260, 3, [1, 92, 1, 0, 9], 0, 0), (32, some [0, 1], .aload_n 0, 1, [], 0, 0), (33, none, .getfield 83, 3, [10, 14, 2], 0, 0), (36, none, .aload_n 0, 1, [], 0, 0), (37, none, .getfield 12, 3, [10, 0, 2], 0, 0), (40, none, .iload_n 1, 1, [], 0, 0), (41, none, .invokevirtual 263, 3, [1, 96, 2, 1, 9], 0, 0), (44, none, .ireturn, 1, [], 0, 0)]
def k_X10_seats : List EN := [(0, none, .aload_n 0, 1, [], 0, 0), (1, none, .getfield 12, 3, [10, 0, 2], 0, 0), (4, none, .getfield 100, 3, [5, 0, 0], 0, 0), (7, none, .ifCond .eq 18, 3, [25], 0, 0), (10, none, .iload_n 1, 1, [], 0, 0), (11, none, .ifCond .ne 17, 3, [28], 0, 0), (14, none, .aload_n 0, 1, [], 0, 0), (15, none, .getfield 12, 3, [10, 0, 2], 0, 0), (18, none, .iload_n 2, 1, [], 0, 0), (19, none, .invokevirtual 206, 3, [1, 56, 1, 1, 5], 0, 0), (22, none, .ifCond .ne 6, 3, [28], 0, 0), (25, none, .bipush (-2), 2, [], (-2), 0), (27, none, .ireturn, 1, [], 0, 0), (28, none, .iconst 0, 1, [], 0, 0), (29, none, .istore_n 3, 1, [], 0, 0), (30, none, .iconst 0, 1, [], 0, 0), (31, none, .istore 4, 2, [], 0, 0), (33, none, .iconst 0, 1, [], 0, 0), (34, none, .istore 5, 2, [], 0, 0), (36, some [0, 1, 2, 3, 4, 5], .iload 5, 2, [], 0, 0), (38, none, .getstatic 267, 3, [100], 0, 0), (41, none, .aload_n 0, 1, [], 0, 0), (42, none, .getfield 12, 3, [10, 0, 2], 0, 0), (45, none, .getfield 100, 3, [5, 0, 0], 0, 0), (48, none, .iaload, 1, [], 0, 0), (49, none, .if_icmp .ge 50, 3, [99], 0, 0), (52, none, .iload 5, 2, [], 0, 0), (54, none, .aload_n 0, 1, [], 0, 0), (55, none, .getfield 12, 3, [10, 0, 2], 0, 0), (58, none, .getfield 100, 3, [5, 0, 0], 0, 0), (61, none, .aload_n 0, 1, [], 0, 0), (62, none, .getfield 80, 3, [10, 13, 2], 0, 0), (65, none, .invokestatic 270, 3, [0, 159, 3, 0], 0, 0), (68, some [0, 1, 2, 3, 4, 5], .aload_n 0, 1, [], 0, 0), (69, none, .invokevirtual 274, 3, [1, 155, 0, 1, 10], 0, 0), (72, none, .istore 6, 2, [], 0, 0), (74, none, .iload 5, 2, [], 0, 0), (76, none, .ifCond .eq 10, 3, [86], 0, 0), (79, none, .iload 6, 2, [], 0, 0), (81, none, .iload 4, 2, [], 0, 0), (83, none, .if_icmp .ge 10, 3, [93], 0, 0), (86, none, .iload 5, 2, [], 0, 0), (88, none, .istore_n 3, 1, [], 0, 0), (89, none, .iload 6, 2, [], 0, 0), (91, none, .istore 4, 2, [], 0, 0), (93, none, .iinc 5 1, 3, [], 1, 0), (96, none, .goto (-60), 3, [36], 0, 0), (99, none, .iload_n 1, 1, [], 0, 0), (100, none, .ifCond .eq 6, 3, [106], 0, 0), (103, none, .iload 4, 2, [], 0, 0), (105, none, .ireturn, 1, [], 0, 0), (106, none, .iload_n 3, 1, [], 0, 0), (107, none, .aload_n 0, 1, [], 0, 0), (108, none, .getfield 12, 3, [10, 0, 2], 0, 0), (111, none, .getfield 100, 3, [5, 0, 0], 0, 0), (114, none, .aload_n 0, 1, [], 0, 0), (115, none, .getfield 80, 3, [10, 13, 2], 0, 0), (118, none, .invokestatic 270, 3, [0, 159, 3, 0], 0, 0), (121, some [0, 2], .aload_n 0, 1, [], 0, 0), (122, none, .getfield 80, 3, [10, 13, 2], 0, 0), (125, none, .iload_n 2, 1, [], 0, 0), (126, none, .iaload, 1, [], 0, 0), (127, none, .ireturn, 1, [], 0, 0)]
def k_X10_ragged : List EN := [(0, none, .iconst 0, 1, [], 0, 0), (1, none, .istore_n 2, 1, [], 0, 0), (2, none, .iconst 0, 1, [], 0, 0), (3, none, .istore_n 3, 1, [], 0, 0), (4, some [0, 1, 2, 3], .iload_n 3, 1, [], 0, 0), (5, none, .iconst 1, 1, [], 1, 0), (6, none, .iadd, 1, [], 0, 0), (7, none, .aload_n 0, 1, [], 0, 0), (8, none, .getfield 12, 3, [10, 0, 2], 0, 0), (11, none, .getfield 100, 3, [5, 0, 0], 0, 0), (14, none, .if_icmp .ge 43, 3, [57], 0, 0), (17, none, .aload_n 0, 1, [], 0, 0), (18, none, .getfield 12, 3, [10, 0, 2], 0, 0), (21, none, .iload_n 3, 1, [], 0, 0), (22, none, .invokevirtual 277, 3, [1, 58, 1, 1, 5], 0, 0), (25, some [0, 1, 2, 3], .ifCond .le 26, 3, [51], 0, 0), (28, none, .aload_n 0, 1, [], 0, 0), (29, none, .getfield 12, 3, [10, 0, 2], 0, 0), (32, none, .iload_n 3, 1, [], 0, 0), (33, none, .iconst 1, 1, [], 1, 0), (34, none, .iadd, 1, [], 0, 0), (35, none, .invokevirtual 277, 3, [1, 58, 1, 1, 5], 0, 0), (38, none, .ifCond .ge 13, 3, [51], 0, 0), (41, none, .iload_n 2, 1, [], 0, 0), (42, none, .iload_n 1, 1, [], 0, 0), (43, none, .if_icmp .ne 5, 3, [48], 0, 0), (46, none, .iload_n 3, 1, [], 0, 0), (47, none, .ireturn, 1, [], 0, 0), (48, none, .iinc 2 1, 3, [], 1, 0), (51, none, .iinc 3 1, 3, [], 1, 0), (54, none, .goto (-50), 3, [4], 0, 0), (57, none, .iload_n 1, 1, [], 0, 0), (58, none, .iconst (-1), 1, [], (-1), 0), (59, none, .if_icmp .ne 7, 3, [66], 0, 0), (62, none, .iload_n 2, 1, [], 0, 0), (63, none, .goto 5, 3, [68], 0, 0), (66, none, .bipush (-2), 2, [], (-2), 0), (68, none, .ireturn, 1, [], 0, 0)]
def k_X10_word : List EN := [(0, none, .iload_n 1, 1, [], 0, 0), (1, none, .iconst (-1), 1, [], (-1), 0), (2, none, .if_icmp .ne 13, 3, [15], 0, 0), (5, none, .aload_n 0, 1, [], 0, 0), (6, none, .getfield 26, 3, [10, 2, 2], 0, 0), (9, none, .iconst 0, 1, [], 0, 0), (10, none, .putfield 280, 3, [8, 3, 0], 0, 0), (13, none, .iconst 0, 1, [], 0, 0), (14, none, .ireturn, 1, [], 0, 0), (15, none, .iload_n 1, 1, [], 0, 0), (16, none, .iconst 1, 1, [], 1, 0), (17, none, .bipush 20, 2, [], 20, 0), (19, none, .invokestatic 96, 3, [0, 146, 3, 1], 0, 0), (22, some [0, 1], .ifCond .eq 15, 3, [37], 0, 0), (25, none, .aload_n 0, 1, [], 0, 0), (26, none, .getfield 26, 3, [10, 2, 2], 0, 0), (29, none, .getfield 280, 3, [8, 3, 0], 0, 0), (32, none, .bipush 10, 2, [], 10, 0), (34, none, .if_icmp .lt 6, 3, [40], 0, 0), (37, none, .bipush (-2), 2, [], (-2), 0), (39, none, .ireturn, 1, [], 0, 0), (40, none, .aload_n 0, 1, [], 0, 0), (41, none, .getfield 26, 3, [10, 2, 2], 0, 0), (44, none, .getfield 283, 3, [8, 7, 2], 0, 0), (47, none, .aload_n 0, 1, [], 0, 0), (48, none, .getfield 26, 3, [10, 2, 2], 0, 0), (51, none, .getfield 280, 3, [8, 3, 0], 0, 0), (54, none, .iload_n 1, 1, [], 0, 0), (55, none, .iastore, 1, [], 0, 0), (56, none, .aload_n 0, 1, [], 0, 0), (57, none, .getfield 26, 3, [10, 2, 2], 0, 0), (60, none, .dup, 1, [], 0, 0), (61, none, .getfield 280, 3, [8, 3, 0], 0, 0), (64, none, .iconst 1, 1, [], 1, 0), (65, none, .iadd, 1, [], 0, 0), (66, none, .putfield 280, 3, [8, 3, 0], 0, 0), (69, none, .aload_n 0, 1, [], 0, 0), (70, none, .getfield 26, 3, [10, 2, 2], 0, 0), (73, none, .getfield 280, 3, [8, 3, 0], 0, 0), (76, none, .ireturn, 1, [], 0, 0)]
def k_X10_page : List EN := [(0, none, .iload_n 1, 1, [], 0, 0), (1, none, .iconst 1, 1, [], 1, 0), (2, none, .bipush 60, 2, [], 60, 0), (4, none, .invokestatic 96, 3, [0, 146, 3, 1], 0, 0), (7, some [0, 1, 2], .ifCond .eq 18, 3, [25], 0, 0), (10, none, .aload_n 0, 1, [], 0, 0), (11, none, .getfield 65, 3, [10, 10, 2], 0, 0), (14, none, .aload_n 0, 1, [], 0, 0), (15, none, .getfield 26, 3, [10, 2, 2], 0, 0), (18, none, .iload_n 1, 1, [], 0, 0), (19, none, .invokevirtual 286, 3, [1, 19, 2, 1, 3], 0, 0), (22, some [0, 2], .ifCond .ne 5, 3, [27], 0, 0), (25, none, .iconst (-1), 1, [], (-1), 0), (26, none, .ireturn, 1, [], 0, 0), (27, none, .iload_n 2, 1, [], 0, 0), (28, none, .lookupswitch 48 #[(0, 28), (1, 38)], 28, [76, 0, 56, 1, 66], 0, 0), (56, none, .aload_n 0, 1, [], 0, 0), (57, none, .getfield 65, 3, [10, 10, 2], 0, 0), (60, none, .getfield 290, 3, [3, 0, 2], 0, 0), (63, none, .iconst 0, 1, [], 0, 0), (64, none, .iaload, 1, [], 0, 0), (65, none, .ireturn, 1, [], 0, 0), (66, none, .aload_n 0, 1, [], 0, 0), (67, none, .getfield 65, 3, [10, 10, 2], 0, 0), (70, none, .getfield 293, 3, [3, 1, 2], 0, 0), (73, none, .iconst 0, 1, [], 0, 0), (74, none, .iaload, 1, [], 0, 0), (75, none, .ireturn, 1, [], 0, 0), (76, none, .iconst (-1), 1, [], (-1), 0), (77, none, .ireturn, 1, [], 0, 0)]
def k_X10_line : List EN := [(0, none, .iload_n 1, 1, [], 0, 0), (1, none, .iconst 1, 1, [], 1, 0), (2, none, .bipush 60, 2, [], 60, 0), (4, none, .invokestatic 96, 3, [0, 146, 3, 1], 0, 0), (7, some [0, 1, 2], .ifCond .eq 18, 3, [25], 0, 0), (10, none, .aload_n 0, 1, [], 0, 0), (11, none, .getfield 65, 3, [10, 10, 2], 0, 0), (14, none, .aload_n 0, 1, [], 0, 0), (15, none, .getfield 26, 3, [10, 2, 2], 0, 0), (18, none, .iload_n 1, 1, [], 0, 0), (19, none, .invokevirtual 286, 3, [1, 19, 2, 1, 3], 0, 0), (22, some [0, 2], .ifCond .ne 5, 3, [27], 0, 0), (25, none, .iconst (-1), 1, [], (-1), 0), (26, none, .ireturn, 1, [], 0, 0), (27, none, .aload_n 0, 1, [], 0, 0), (28, none, .getfield 65, 3, [10, 10, 2], 0, 0), (31, none, .iload_n 2, 1, [], 0, 0), (32, none, .invokevirtual 296, 3, [1, 21, 1, 1, 3], 0, 0), (35, none, .ireturn, 1, [], 0, 0)]
def k_X10_narrowest : List EN := [(0, none, .iload_n 1, 1, [], 0, 0), (1, none, .iconst 1, 1, [], 1, 0), (2, none, .bipush 10, 2, [], 10, 0), (4, none, .invokestatic 96, 3, [0, 146, 3, 1], 0, 0), (7, some [0, 1], .ifCond .eq 13, 3, [20], 0, 0), (10, none, .aload_n 0, 1, [], 0, 0), (11, none, .getfield 26, 3, [10, 2, 2], 0, 0), (14, none, .getfield 280, 3, [8, 3, 0], 0, 0), (17, none, .ifCond .ne 5, 3, [22], 0, 0), (20, none, .iconst (-1), 1, [], (-1), 0), (21, none, .ireturn, 1, [], 0, 0), (22, none, .aload_n 0, 1, [], 0, 0), (23, none, .getfield 65, 3, [10, 10, 2], 0, 0), (26, none, .aload_n 0, 1, [], 0, 0), (27, none, .getfield 26, 3, [10, 2, 2], 0, 0), (30, none, .iload_n 1, 1, [], 0, 0), (31, none, .invokevirtual 299, 3, [1, 22, 2, 1, 3], 0, 0), (34, none, .ireturn, 1, [], 0, 0)]
def k_X10_heard : List EN := [(0, none, .iload_n 1, 1, [], 0, 0), (1, none, .iconst (-1), 1, [], (-1), 0), (2, none, .if_icmp .ne 13, 3, [15], 0, 0), (5, none, .aload_n 0, 1, [], 0, 0), (6, none, .getfield 26, 3, [10, 2, 2], 0, 0), (9, none, .iconst 0, 1, [], 0, 0), (10, none, .putfield 303, 3, [8, 4, 0], 0, 0), (13, none, .iconst 0, 1, [], 0, 0), (14, none, .ireturn, 1, [], 0, 0), (15, none, .aload_n 0, 1, [], 0, 0), (16, none, .getfield 12, 3, [10, 0, 2], 0, 0), (19, none, .iload_n 1, 1, [], 0, 0), (20, none, .invokevirtual 206, 3, [1, 56, 1, 1, 5], 0, 0), (23, none, .ifCond .eq 28, 3, [51], 0, 0), (26, none, .iload_n 2, 1, [], 0, 0), (27, none, .sipush (-999), 3, [], (-999), 0), (30, none, .sipush 999, 3, [], 999, 0), (33, none, .invokestatic 96, 3, [0, 146, 3, 1], 0, 0), (36, some [0, 1, 2], .ifCond .eq 15, 3, [51], 0, 0), (39, none, .aload_n 0, 1, [], 0, 0), (40, none, .getfield 26, 3, [10, 2, 2], 0, 0), (43, none, .getfield 303, 3, [8, 4, 0], 0, 0), (46, none, .bipush 6, 2, [], 6, 0), (48, none, .if_icmp .lt 6, 3, [54], 0, 0), (51, none, .bipush (-2), 2, [], (-2), 0), (53, none, .ireturn, 1, [], 0, 0), (54, none, .aload_n 0, 1, [], 0, 0), (55, none, .getfield 26, 3, [10, 2, 2], 0, 0), (58, none, .getfield 306, 3, [8, 8, 2], 0, 0), (61, none, .aload_n 0, 1, [], 0, 0), (62, none, .getfield 26, 3, [10, 2, 2], 0, 0), (65, none, .getfield 303, 3, [8, 4, 0], 0, 0), (68, none, .iload_n 1, 1, [], 0, 0), (69, none, .iastore, 1, [], 0, 0), (70, none, .aload_n 0, 1, [], 0, 0), (71, none, .getfield 26, 3, [10, 2, 2], 0, 0), (74, none, .getfield 309, 3, [8, 9, 2], 0, 0), (77, none, .aload_n 0, 1, [], 0, 0), (78, none, .getfield 26, 3, [10, 2, 2], 0, 0), (81, none, .getfield 303, 3, [8, 4, 0], 0, 0), (84, none, .iload_n 2, 1, [], 0, 0), (85, none, .iastore, 1, [], 0, 0), (86, none, .aload_n 0, 1, [], 0, 0), (87, none, .getfield 26, 3, [10, 2, 2], 0, 0), (90, none, .dup, 1, [], 0, 0), (91, none, .getfield 303, 3, [8, 4, 0], 0, 0), (94, none, .iconst 1, 1, [], 1, 0), (95, none, .iadd, 1, [], 0, 0), (96, none, .putfield 303, 3, [8, 4, 0], 0, 0), (99, none, .aload_n 0, 1, [], 0, 0), (100, none, .getfield 26, 3, [10, 2, 2], 0, 0), (103, none, .getfield 303, 3, [8, 4, 0], 0, 0), (106, none, .ireturn, 1, [], 0, 0)]
def k_X10_meant : List EN := [(0, none, .iload_n 1, 1, [], 0, 0), (1, none, .iconst 0, 1, [], 0, 0), (2, none, .bipush 9, 2, [], 9, 0), (4, none, .invokestatic 96, 3, [0, 146, 3, 1], 0, 0), (7, some [0, 1, 2], .ifCond .ne 5, 3, [12], 0, 0), (10, none, .iconst (-1), 1, [], (-1), 0), (11, none, .ireturn, 1, [], 0, 0), (12, none, .aload_n 0, 1, [], 0, 0), (13, none, .iload_n 1, 1, [], 0, 0), (14, none, .invokevirtual 312, 3, [1, 156, 1, 0, 10], 0, 0), (17, some [0, 2], .iload_n 2, 1, [], 0, 0), (18, none, .lookupswitch 58 #[(0, 26), (1, 34)], 26, [76, 0, 44, 1, 52], 0, 0), (44, none, .aload_n 0, 1, [], 0, 0), (45, none, .getfield 87, 3, [10, 15, 2], 0, 0), (48, none, .getfield 315, 3, [0, 0, 0], 0, 0), (51, none, .ireturn, 1, [], 0, 0), (52, none, .aload_n 0, 1, [], 0, 0), (53, none, .getfield 87, 3, [10, 15, 2], 0, 0), (56, none, .getfield 315, 3, [0, 0, 0], 0, 0), (59, none, .ifCond .ne 7, 3, [66], 0, 0), (62, none, .iconst (-1), 1, [], (-1), 0), (63, none, .goto 12, 3, [75], 0, 0), (66, none, .aload_n 0, 1, [], 0, 0), (67, none, .getfield 87, 3, [10, 15, 2], 0, 0), (70, none, .getfield 320, 3, [0, 1, 2], 0, 0), (73, none, .iconst 0, 1, [], 0, 0), (74, none, .iaload, 1, [], 0, 0), (75, none, .ireturn, 1, [], 0, 0), (76, none, .iconst (-1), 1, [], (-1), 0), (77, none, .ireturn, 1, [], 0, 0)]
def k_X10_listen : List EN := [(0, none, .iload_n 1, 1, [], 0, 0), (1, none, .iconst 0, 1, [], 0, 0), (2, none, .bipush 9, 2, [], 9, 0), (4, none, .invokestatic 96, 3, [0, 146, 3, 1], 0, 0), (7, some [0, 1], .ifCond .ne 5, 3, [12], 0, 0), (10, none, .iconst (-1), 1, [], (-1), 0), (11, none, .ireturn, 1, [], 0, 0), (12, none, .aload_n 0, 1, [], 0, 0), (13, none, .iload_n 1, 1, [], 0, 0), (14, none, .invokevirtual 312, 3, [1, 156, 1, 0, 10], 0, 0), (17, some [0], .aload_n 0, 1, [], 0, 0), (18, none, .getfield 87, 3, [10, 15, 2], 0, 0), (21, none, .getfield 315, 3, [0, 0, 0], 0, 0), (24, none, .iconst 2, 1, [], 2, 0), (25, none, .if_icmp .ge 5, 3, [30], 0, 0), (28, none, .iconst (-1), 1, [], (-1), 0), (29, none, .ireturn, 1, [], 0, 0), (30, none, .iconst (-1), 1, [], (-1), 0), (31, none, .istore_n 2, 1, [], 0, 0), (32, none, .iconst 0, 1, [], 0, 0), (33, none, .istore_n 3, 1, [], 0, 0), (34, none, .iconst 0, 1, [], 0, 0), (35, none, .istore 4, 2, [], 0, 0), (37, some [0, 2, 3, 4], .iload 4, 2, [], 0, 0), (39, none, .aload_n 0, 1, [], 0, 0), (40, none, .getfield 12, 3, [10, 0, 2], 0, 0), (43, none, .getfield 100, 3, [5, 0, 0], 0, 0), (46, none, .if_icmp .ge 45, 3, [91], 0, 0), (49, none, .aload_n 0, 1, [], 0, 0), (50, none, .getfield 87, 3, [10, 15, 2], 0, 0), (53, none, .aload_n 0, 1, [], 0, 0), (54, none, .getfield 12, 3, [10, 0, 2], 0, 0), (57, none, .iload 4, 2, [], 0, 0), (59, none, .aload_n 0, 1, [], 0, 0), (60, none, .invokevirtual 190, 3, [1, 151, 0, 3, 10], 0, 0), (63, some [0, 2, 3, 4], .invokevirtual 323, 3, [1, 4, 3, 1, 0], 0, 0), (66, none, .istore 5, 2, [], 0, 0), (68, none, .iload_n 2, 1, [], 0, 0), (69, none, .iconst (-1), 1, [], (-1), 0), (70, none, .if_icmp .eq 9, 3, [79], 0, 0), (73, none, .iload 5, 2, [], 0, 0), (75, none, .iload_n 3, 1, [], 0, 0), (76, none, .if_icmp .ge 9, 3, [85], 0, 0), (79, none, .iload 4, 2, [], 0, 0), (81, none, .istore_n 2, 1, [], 0, 0), (82, none, .iload 5, 2, [], 0, 0), (84, none, .istore_n 3, 1, [], 0, 0), (85, none, .iinc 4 1, 3, [], 1, 0), (88, none, .goto (-51), 3, [37], 0, 0), (91, none, .iload_n 2, 1, [], 0, 0), (92, none, .ireturn, 1, [], 0, 0)]
def k_X10_bar : List EN := [(0, none, .iload_n 1, 1, [], 0, 0), (1, none, .iconst 0, 1, [], 0, 0), (2, none, .iconst 4, 1, [], 4, 0), (3, none, .invokestatic 96, 3, [0, 146, 3, 1], 0, 0), (6, some [0, 1, 2], .ifCond .ne 5, 3, [11], 0, 0), (9, none, .iconst 0, 1, [], 0, 0), (10, none, .ireturn, 1, [], 0, 0), (11, none, .aload_n 0, 1, [], 0, 0), (12, none, .getfield 26, 3, [10, 2, 2], 0, 0), (15, none, .aload_n 0, 1, [], 0, 0), (16, none, .getfield 26, 3, [10, 2, 2], 0, 0), (19, none, .getfield 326, 3, [8, 2, 0], 0, 0), (22, none, .iload_n 1, 1, [], 0, 0), (23, none, .iload_n 2, 1, [], 0, 0), (24, none, .invokestatic 329, 3, [0, 149, 3, 1], 0, 0), (27, some [], .putfield 326, 3, [8, 2, 0], 0, 0), (30, none, .iconst 1, 1, [], 1, 0), (31, none, .ireturn, 1, [], 0, 0)]
def k_X10_props : List EN := [(0, none, .iconst 1, 1, [], 1, 0), (1, none, .aload_n 0, 1, [], 0, 0), (2, none, .getfield 12, 3, [10, 0, 2], 0, 0), (5, none, .getfield 100, 3, [5, 0, 0], 0, 0), (8, none, .ishl, 1, [], 0, 0), (9, none, .iconst 1, 1, [], 1, 0), (10, none, .isub, 1, [], 0, 0), (11, none, .istore_n 2, 1, [], 0, 0), (12, none, .iconst (-1), 1, [], (-1), 0), (13, none, .istore_n 3, 1, [], 0, 0), (14, none, .iconst 0, 1, [], 0, 0), (15, none, .istore 4, 2, [], 0, 0), (17, some [0, 1, 2, 3, 4], .iload 4, 2, [], 0, 0), (19, none, .iload_n 2, 1, [], 0, 0), (20, none, .if_icmp .gt 72, 3, [92], 0, 0), (23, none, .iload 4, 2, [], 0, 0), (25, none, .iload 4, 2, [], 0, 0), (27, none, .iconst 1, 1, [], 1, 0), (28, none, .ishl, 1, [], 0, 0), (29, none, .ior, 1, [], 0, 0), (30, none, .iload 4, 2, [], 0, 0), (32, none, .iconst 1, 1, [], 1, 0), (33, none, .ishr, 1, [], 0, 0), (34, none, .ior, 1, [], 0, 0), (35, none, .iload_n 2, 1, [], 0, 0), (36, none, .iand, 1, [], 0, 0), (37, none, .iload_n 2, 1, [], 0, 0), (38, none, .if_icmp .ne 7, 3, [45], 0, 0), (41, none, .iconst 1, 1, [], 1, 0), (42, none, .goto 4, 3, [46], 0, 0), (45, none, .iconst 0, 1, [], 0, 0), (46, some [0, 1, 2, 3, 4], .istore 5, 2, [], 0, 0), (48, none, .iload 5, 2, [], 0, 0), (50, none, .ifCond .eq 36, 3, [86], 0, 0), (53, none, .iload 4, 2, [], 0, 0), (55, none, .aload_n 0, 1, [], 0, 0), (56, none, .getfield 26, 3, [10, 2, 2], 0, 0), (59, none, .getfield 326, 3, [8, 2, 0], 0, 0), (62, none, .iand, 1, [], 0, 0), (63, none, .ifCond .ne 23, 3, [86], 0, 0), (66, none, .iload_n 3, 1, [], 0, 0), (67, none, .iconst (-1), 1, [], (-1), 0), (68, none, .if_icmp .eq 15, 3, [83], 0, 0), (71, none, .iload 4, 2, [], 0, 0), (73, none, .invokestatic 333, 3, [2, 3], 0, 0), (76, none, .iload_n 3, 1, [], 0, 0), (77, none, .invokestatic 333, 3, [2, 3], 0, 0), (80, none, .if_icmp .ge 6, 3, [86], 0, 0), (83, none, .iload 4, 2, [], 0, 0), (85, none, .istore_n 3, 1, [], 0, 0), (86, none, .iinc 4 1, 3, [], 1, 0), (89, none, .goto (-72), 3, [17], 0, 0), (92, none, .iload_n 3, 1, [], 0, 0), (93, none, .iconst (-1), 1, [], (-1), 0), (94, none, .if_icmp .ne 5, 3, [99], 0, 0), (97, none, .iconst (-1), 1, [], (-1), 0), (98, none, .ireturn, 1, [], 0, 0), (99, none, .iload_n 1, 1, [], 0, 0), (100, none, .ifCond .eq 10, 3, [110], 0, 0), (103, none, .iload_n 3, 1, [], 0, 0), (104, none, .invokestatic 333, 3, [2, 3], 0, 0), (107, none, .goto 4, 3, [111], 0, 0), (110, none, .iload_n 3, 1, [], 0, 0), (111, none, .ireturn, 1, [], 0, 0)]
def k_X10_likely : List EN := [(0, none, .iload_n 1, 1, [], 0, 0), (1, none, .invokestatic 92, 3, [0, 147, 1, 1], 0, 0), (4, none, .ifCond .eq 20, 3, [24], 0, 0), (7, none, .iload_n 2, 1, [], 0, 0), (8, none, .iconst 0, 1, [], 0, 0), (9, none, .bipush 20, 2, [], 20, 0), (11, none, .invokestatic 96, 3, [0, 146, 3, 1], 0, 0), (14, none, .ifCond .eq 10, 3, [24], 0, 0), (17, none, .iload_n 3, 1, [], 0, 0), (18, none, .invokestatic 92, 3, [0, 147, 1, 1], 0, 0), (21, some [0, 1, 2, 3, 4], .ifCond .ne 7, 3, [28], 0, 0), (24, none, .ldc2_w 338, 3, [], 0, (-1)), (27, none, .lreturn, 1, [], 0, 0), (28, none, .aload_n 0, 1, [], 0, 0), (29, none, .getfield 72, 3, [10, 11, 2], 0, 0), (32, none, .iload_n 1, 1, [], 0, 0), (33, none, .iload_n 2, 1, [], 0, 0), (34, none, .iconst 0, 1, [], 0, 0), (35, none, .invokevirtual 340, 3, [1, 16, 3, 0, 2], 0, 0), (38, some [0, 2, 3, 4], .aload_n 0, 1, [], 0, 0), (39, none, .getfield 72, 3, [10, 11, 2], 0, 0), (42, none, .iload_n 2, 1, [], 0, 0), (43, none, .iload_n 3, 1, [], 0, 0), (44, none, .iload 4, 2, [], 0, 0), (46, none, .invokevirtual 344, 3, [1, 17, 3, 2, 2], 0, 0), (49, none, .lreturn, 1, [], 0, 0)]
def k_X10_first : List EN := [(0, none, .iload_n 1, 1, [], 0, 0), (1, none, .invokestatic 92, 3, [0, 147, 1, 1], 0, 0), (4, none, .ifCond .eq 13, 3, [17], 0, 0), (7, none, .iload_n 2, 1, [], 0, 0), (8, none, .iconst 0, 1, [], 0, 0), (9, none, .bipush 20, 2, [], 20, 0), (11, none, .invokestatic 96, 3, [0, 146, 3, 1], 0, 0), (14, some [0, 1, 2, 3], .ifCond .ne 7, 3, [21], 0, 0), (17, none, .ldc2_w 338, 3, [], 0, (-1)), (20, none, .lreturn, 1, [], 0, 0), (21, none, .aload_n 0, 1, [], 0, 0), (22, none, .getfield 72, 3, [10, 11, 2], 0, 0), (25, none, .iload_n 1, 1, [], 0, 0), (26, none, .iload_n 2, 1, [], 0, 0), (27, none, .iconst 1, 1, [], 1, 0), (28, none, .invokevirtual 340, 3, [1, 16, 3, 0, 2], 0, 0), (31, some [0, 2, 3], .aload_n 0, 1, [], 0, 0), (32, none, .getfield 72, 3, [10, 11, 2], 0, 0), (35, none, .iload_n 2, 1, [], 0, 0), (36, none, .iconst 0, 1, [], 0, 0), (37, none, .iload_n 3, 1, [], 0, 0), (38, none, .invokevirtual 344, 3, [1, 17, 3, 2, 2], 0, 0), (41, none, .lreturn, 1, [], 0, 0)]
def k_X10_median : List EN := [(0, none, .aload_n 0, 1, [], 0, 0), (1, none, .getfield 12, 3, [10, 0, 2], 0, 0), (4, none, .getfield 100, 3, [5, 0, 0], 0, 0), (7, none, .ifCond .ne 6, 3, [13], 0, 0), (10, none, .bipush (-100), 2, [], (-100), 0), (12, none, .ireturn, 1, [], 0, 0), (13, none, .aload_n 0, 1, [], 0, 0), (14, none, .getfield 12, 3, [10, 0, 2], 0, 0), (17, none, .getfield 100, 3, [5, 0, 0], 0, 0), (20, none, .iconst 1, 1, [], 1, 0), (21, none, .isub, 1, [], 0, 0), (22, none, .iconst 2, 1, [], 2, 0), (23, none, .idiv, 1, [], 0, 0), (24, none, .istore_n 1, 1, [], 0, 0), (25, none, .iconst 0, 1, [], 0, 0), (26, none, .istore_n 2, 1, [], 0, 0), (27, none, .bipush (-9), 2, [], (-9), 0), (29, none, .istore_n 3, 1, [], 0, 0), (30, some [0, 1, 2, 3], .iload_n 3, 1, [], 0, 0), (31, none, .bipush 9, 2, [], 9, 0), (33, none, .if_icmp .gt 27, 3, [60], 0, 0), (36, none, .iload_n 2, 1, [], 0, 0), (37, none, .aload_n 0, 1, [], 0, 0), (38, none, .getfield 12, 3, [10, 0, 2], 0, 0), (41, none, .iload_n 3, 1, [], 0, 0), (42, none, .invokevirtual 348, 3, [1, 73, 1, 1, 5], 0, 0), (45, none, .iadd, 1, [], 0, 0), (46, none, .istore_n 2, 1, [], 0, 0), (47, none, .iload_n 2, 1, [], 0, 0), (48, none, .iload_n 1, 1, [], 0, 0), (49, none, .if_icmp .le 5, 3, [54], 0, 0), (52, none, .iload_n 3, 1, [], 0, 0), (53, none, .ireturn, 1, [], 0, 0), (54, none, .iinc 3 1, 3, [], 1, 0), (57, none, .goto (-27), 3, [30], 0, 0), (60, none, .bipush (-100), 2, [], (-100), 0), (62, none, .ireturn, 1, [], 0, 0)]
def k_X10_spread : List EN := [(0, none, .aload_n 0, 1, [], 0, 0), (1, none, .getfield 12, 3, [10, 0, 2], 0, 0), (4, none, .getfield 100, 3, [5, 0, 0], 0, 0), (7, none, .ifCond .ne 5, 3, [12], 0, 0), (10, none, .iconst 0, 1, [], 0, 0), (11, none, .ireturn, 1, [], 0, 0), (12, none, .bipush 9, 2, [], 9, 0), (14, none, .istore_n 1, 1, [], 0, 0), (15, none, .bipush (-9), 2, [], (-9), 0), (17, none, .istore_n 2, 1, [], 0, 0), (18, none, .iconst 0, 1, [], 0, 0), (19, none, .istore_n 3, 1, [], 0, 0), (20, some [0, 1, 2, 3], .iload_n 3, 1, [], 0, 0), (21, none, .aload_n 0, 1, [], 0, 0), (22, none, .getfield 12, 3, [10, 0, 2], 0, 0), (25, none, .getfield 100, 3, [5, 0, 0], 0, 0), (28, none, .if_icmp .ge 37, 3, [65], 0, 0), (31, none, .iload_n 1, 1, [], 0, 0), (32, none, .aload_n 0, 1, [], 0, 0), (33, none, .getfield 12, 3, [10, 0, 2], 0, 0), (36, none, .getfield 209, 3, [5, 6, 2], 0, 0), (39, none, .iload_n 3, 1, [], 0, 0), (40, none, .iaload, 1, [], 0, 0), (41, none, .invokestatic 351, 3, [2, 1], 0, 0), (44, none, .istore_n 1, 1, [], 0, 0), (45, none, .iload_n 2, 1, [], 0, 0), (46, none, .aload_n 0, 1, [], 0, 0), (47, none, .getfield 12, 3, [10, 0, 2], 0, 0), (50, none, .getfield 209, 3, [5, 6, 2], 0, 0), (53, none, .iload_n 3, 1, [], 0, 0), (54, none, .iaload, 1, [], 0, 0), (55, none, .invokestatic 357, 3, [2, 0], 0, 0), (58, none, .istore_n 2, 1, [], 0, 0), (59, none, .iinc 3 1, 3, [], 1, 0), (62, none, .goto (-42), 3, [20], 0, 0), (65, none, .iload_n 2, 1, [], 0, 0), (66, none, .iload_n 1, 1, [], 0, 0), (67, none, .isub, 1, [], 0, 0), (68, none, .ireturn, 1, [], 0, 0)]
def k_X10_quarrel : List EN := [(0, none, .aload_n 0, 1, [], 0, 0), (1, none, .getfield 12, 3, [10, 0, 2], 0, 0), (4, none, .iload_n 1, 1, [], 0, 0), (5, none, .invokevirtual 206, 3, [1, 56, 1, 1, 5], 0, 0), (8, some [0, 1, 2], .ifCond .eq 19, 3, [27], 0, 0), (11, none, .aload_n 0, 1, [], 0, 0), (12, none, .getfield 12, 3, [10, 0, 2], 0, 0), (15, none, .iload_n 2, 1, [], 0, 0), (16, none, .invokevirtual 206, 3, [1, 56, 1, 1, 5], 0, 0), (19, some [0, 1, 2], .ifCond .eq 8, 3, [27], 0, 0), (22, none, .iload_n 1, 1, [], 0, 0), (23, none, .iload_n 2, 1, [], 0, 0), (24, none, .if_icmp .ne 5, 3, [29], 0, 0), (27, none, .iconst (-1), 1, [], (-1), 0), (28, none, .ireturn, 1, [], 0, 0), (29, none, .aload_n 0, 1, [], 0, 0), (30, none, .getfield 12, 3, [10, 0, 2], 0, 0), (33, none, .getfield 209, 3, [5, 6, 2], 0, 0), (36, none, .iload_n 1, 1, [], 0, 0), (37, none, .iaload, 1, [], 0, 0), (38, none, .invokestatic 360, 3, [2, 2], 0, 0), (41, none, .iconst 4, 1, [], 4, 0), (42, none, .irem, 1, [], 0, 0), (43, none, .aload_n 0, 1, [], 0, 0), (44, none, .getfield 12, 3, [10, 0, 2], 0, 0), (47, none, .getfield 209, 3, [5, 6, 2], 0, 0), (50, none, .iload_n 2, 1, [], 0, 0), (51, none, .iaload, 1, [], 0, 0), (52, none, .invokestatic 360, 3, [2, 2], 0, 0), (55, none, .iconst 4, 1, [], 4, 0), (56, none, .irem, 1, [], 0, 0), (57, none, .if_icmp .ne 7, 3, [64], 0, 0), (60, none, .iconst 0, 1, [], 0, 0), (61, none, .goto 4, 3, [65], 0, 0), (64, none, .iconst 1, 1, [], 1, 0), (65, none, .ireturn, 1, [], 0, 0)]
def k_X10_said : List EN := [(0, none, .iload_n 1, 1, [], 0, 0), (1, none, .iconst (-1), 1, [], (-1), 0), (2, none, .if_icmp .ne 13, 3, [15], 0, 0), (5, none, .aload_n 0, 1, [], 0, 0), (6, none, .getfield 26, 3, [10, 2, 2], 0, 0), (9, none, .iconst 0, 1, [], 0, 0), (10, none, .putfield 363, 3, [8, 5, 0], 0, 0), (13, none, .iconst 0, 1, [], 0, 0), (14, none, .ireturn, 1, [], 0, 0), (15, none, .aload_n 0, 1, [], 0, 0), (16, none, .getfield 12, 3, [10, 0, 2], 0, 0), (19, none, .iload_n 1, 1, [], 0, 0), (20, none, .invokevirtual 206, 3, [1, 56, 1, 1, 5], 0, 0), (23, none, .ifCond .eq 22, 3, [45], 0, 0), (26, none, .iload_n 2, 1, [], 0, 0), (27, none, .invokestatic 92, 3, [0, 147, 1, 1], 0, 0), (30, some [0, 1, 2], .ifCond .eq 15, 3, [45], 0, 0), (33, none, .aload_n 0, 1, [], 0, 0), (34, none, .getfield 26, 3, [10, 2, 2], 0, 0), (37, none, .getfield 363, 3, [8, 5, 0], 0, 0), (40, none, .bipush 8, 2, [], 8, 0), (42, none, .if_icmp .lt 6, 3, [48], 0, 0), (45, none, .bipush (-2), 2, [], (-2), 0), (47, none, .ireturn, 1, [], 0, 0), (48, none, .aload_n 0, 1, [], 0, 0), (49, none, .getfield 26, 3, [10, 2, 2], 0, 0), (52, none, .getfield 366, 3, [8, 10, 2], 0, 0), (55, none, .aload_n 0, 1, [], 0, 0), (56, none, .getfield 26, 3, [10, 2, 2], 0, 0), (59, none, .getfield 363, 3, [8, 5, 0], 0, 0), (62, none, .iload_n 1, 1, [], 0, 0), (63, none, .iastore, 1, [], 0, 0), (64, none, .aload_n 0, 1, [], 0, 0), (65, none, .getfield 26, 3, [10, 2, 2], 0, 0), (68, none, .getfield 369, 3, [8, 11, 2], 0, 0), (71, none, .aload_n 0, 1, [], 0, 0), (72, none, .getfield 26, 3, [10, 2, 2], 0, 0), (75, none, .getfield 363, 3, [8, 5, 0], 0, 0), (78, none, .iload_n 2, 1, [], 0, 0), (79, none, .iastore, 1, [], 0, 0), (80, none, .aload_n 0, 1, [], 0, 0), (81, none, .getfield 26, 3, [10, 2, 2], 0, 0), (84, none, .dup, 1, [], 0, 0), (85, none, .getfield 363, 3, [8, 5, 0], 0, 0), (88, none, .iconst 1, 1, [], 1, 0), (89, none, .iadd, 1, [], 0, 0), (90, none, .putfield 363, 3, [8, 5, 0], 0, 0), (93, none, .aload_n 0, 1, [], 0, 0), (94, none, .getfield 26, 3, [10, 2, 2], 0, 0), (97, none, .getfield 363, 3, [8, 5, 0], 0, 0), (100, none, .ireturn, 1, [], 0, 0)]
def k_X10_whose : List EN := [(0, none, .iconst 0, 1, [], 0, 0), (1, none, .istore_n 1, 1, [], 0, 0), (2, none, .iconst 0, 1, [], 0, 0), (3, none, .istore_n 2, 1, [], 0, 0), (4, some [0, 1, 2], .iload_n 2, 1, [], 0, 0), (5, none, .aload_n 0, 1, [], 0, 0), (6, none, .getfield 26, 3, [10, 2, 2], 0, 0), (9, none, .getfield 118, 3, [8, 0, 0], 0, 0), (12, none, .if_icmp .ge 28, 3, [40], 0, 0), (15, none, .aload_n 0, 1, [], 0, 0), (16, none, .aload_n 0, 1, [], 0, 0), (17, none, .getfield 44, 3, [10, 7, 2], 0, 0), (20, none, .iload_n 2, 1, [], 0, 0), (21, none, .aaload, 1, [], 0, 0), (22, none, .invokevirtual 372, 3, [1, 157, 1, 1, 10], 0, 0), (25, none, .ifCond .eq 9, 3, [34], 0, 0), (28, none, .iload_n 1, 1, [], 0, 0), (29, none, .iconst 1, 1, [], 1, 0), (30, none, .iload_n 2, 1, [], 0, 0), (31, none, .ishl, 1, [], 0, 0), (32, none, .ior, 1, [], 0, 0), (33, none, .istore_n 1, 1, [], 0, 0), (34, none, .iinc 2 1, 3, [], 1, 0), (37, none, .goto (-33), 3, [4], 0, 0), (40, none, .iload_n 1, 1, [], 0, 0), (41, none, .ireturn, 1, [], 0, 0)]
def k_X10_straight : List EN := [(0, none, .iconst 0, 1, [], 0, 0), (1, none, .istore_n 1, 1, [], 0, 0), (2, none, .iconst 0, 1, [], 0, 0), (3, none, .istore_n 2, 1, [], 0, 0), (4, some [0, 1, 2], .iload_n 2, 1, [], 0, 0), (5, none, .aload_n 0, 1, [], 0, 0), (6, none, .getfield 12, 3, [10, 0, 2], 0, 0), (9, none, .getfield 100, 3, [5, 0, 0], 0, 0), (12, none, .if_icmp .ge 27, 3, [39], 0, 0), (15, none, .aload_n 0, 1, [], 0, 0), (16, none, .getfield 12, 3, [10, 0, 2], 0, 0), (19, none, .getfield 209, 3, [5, 6, 2], 0, 0), (22, none, .iload_n 2, 1, [], 0, 0), (23, none, .iaload, 1, [], 0, 0), (24, none, .ifCond .ne 9, 3, [33], 0, 0), (27, none, .iload_n 1, 1, [], 0, 0), (28, none, .iconst 1, 1, [], 1, 0), (29, none, .iload_n 2, 1, [], 0, 0), (30, none, .ishl, 1, [], 0, 0), (31, none, .ior, 1, [], 0, 0), (32, none, .istore_n 1, 1, [], 0, 0), (33, none, .iinc 2 1, 3, [], 1, 0), (36, none, .goto (-32), 3, [4], 0, 0), (39, none, .iload_n 1, 1, [], 0, 0), (40, none, .ireturn, 1, [], 0, 0)]
def k_X10_steepest : List EN := [(0, none, .iconst (-1), 1, [], (-1), 0), (1, none, .istore_n 1, 1, [], 0, 0), (2, none, .iconst 0, 1, [], 0, 0), (3, none, .istore_n 2, 1, [], 0, 0), (4, none, .iconst 0, 1, [], 0, 0), (5, none, .istore_n 3, 1, [], 0, 0), (6, some [0, 1, 2, 3], .iload_n 3, 1, [], 0, 0), (7, none, .aload_n 0, 1, [], 0, 0), (8, none, .getfield 12, 3, [10, 0, 2], 0, 0), (11, none, .getfield 100, 3, [5, 0, 0], 0, 0), (14, none, .if_icmp .ge 34, 3, [48], 0, 0), (17, none, .aload_n 0, 1, [], 0, 0), (18, none, .getfield 12, 3, [10, 0, 2], 0, 0), (21, none, .getfield 209, 3, [5, 6, 2], 0, 0), (24, none, .iload_n 3, 1, [], 0, 0), (25, none, .iaload, 1, [], 0, 0), (26, none, .invokestatic 360, 3, [2, 2], 0, 0), (29, none, .istore 4, 2, [], 0, 0), (31, none, .iload 4, 2, [], 0, 0), (33, none, .iload_n 2, 1, [], 0, 0), (34, none, .if_icmp .le 8, 3, [42], 0, 0), (37, none, .iload_n 3, 1, [], 0, 0), (38, none, .istore_n 1, 1, [], 0, 0), (39, none, .iload 4, 2, [], 0, 0), (41, none, .istore_n 2, 1, [], 0, 0), (42, none, .iinc 3 1, 3, [], 1, 0), (45, none, .goto (-39), 3, [6], 0, 0), (48, none, .iload_n 1, 1, [], 0, 0), (49, none, .ireturn, 1, [], 0, 0)]
def k_X10_ledger : List EN := [(0, none, .iload_n 1, 1, [], 0, 0), (1, none, .iconst (-1), 1, [], (-1), 0), (2, none, .if_icmp .ne 11, 3, [13], 0, 0), (5, none, .aload_n 0, 1, [], 0, 0), (6, none, .getfield 12, 3, [10, 0, 2], 0, 0), (9, none, .getfield 238, 3, [5, 5, 0], 0, 0), (12, none, .ireturn, 1, [], 0, 0), (13, none, .aload_n 0, 1, [], 0, 0), (14, none, .getfield 12, 3, [10, 0, 2], 0, 0), (17, none, .iload_n 1, 1, [], 0, 0), (18, none, .invokevirtual 206, 3, [1, 56, 1, 1, 5], 0, 0), (21, none, .ifCond .ne 6, 3, [27], 0, 0), (24, none, .bipush (-2), 2, [], (-2), 0), (26, none, .ireturn, 1, [], 0, 0), (27, none, .iconst 0, 1, [], 0, 0), (28, none, .istore_n 2, 1, [], 0, 0), (29, none, .iconst 0, 1, [], 0, 0), (30, none, .istore_n 3, 1, [], 0, 0), (31, some [0, 1, 2, 3], .iload_n 3, 1, [], 0, 0), (32, none, .aload_n 0, 1, [], 0, 0), (33, none, .getfield 12, 3, [10, 0, 2], 0, 0), (36, none, .getfield 238, 3, [5, 5, 0], 0, 0), (39, none, .if_icmp .ge 24, 3, [63], 0, 0), (42, none, .aload_n 0, 1, [], 0, 0), (43, none, .getfield 12, 3, [10, 0, 2], 0, 0), (46, none, .iload_n 3, 1, [], 0, 0), (47, none, .invokevirtual 244, 3, [1, 70, 1, 1, 5], 0, 0), (50, none, .iload_n 1, 1, [], 0, 0), (51, none, .if_icmp .ne 6, 3, [57], 0, 0), (54, none, .iinc 2 1, 3, [], 1, 0), (57, none, .iinc 3 1, 3, [], 1, 0), (60, none, .goto (-29), 3, [31], 0, 0), (63, none, .iload_n 2, 1, [], 0, 0), (64, none, .ireturn, 1, [], 0, 0)]
def k_X10_image : List EN := [(0, none, .aload_n 0, 1, [], 0, 0), (1, none, .getfield 30, 3, [10, 3, 2], 0, 0), (4, none, .aload_n 0, 1, [], 0, 0), (5, none, .getfield 12, 3, [10, 0, 2], 0, 0), (8, none, .invokevirtual 250, 3, [1, 74, 1, 0, 5], 0, 0), (11, some [0], .aload_n 0, 1, [], 0, 0), (12, none, .getfield 33, 3, [10, 4, 2], 0, 0), (15, none, .aload_n 0, 1, [], 0, 0), (16, none, .getfield 19, 3, [10, 1, 2], 0, 0), (19, none, .invokevirtual 375, 3, [1, 80, 1, 0, 6], 0, 0), (22, some [0], .aload_n 0, 1, [], 0, 0), (23, none, .getfield 36, 3, [10, 5, 2], 0, 0), (26, none, .aload_n 0, 1, [], 0, 0), (27, none, .getfield 26, 3, [10, 2, 2], 0, 0), (30, none, .invokevirtual 378, 3, [1, 90, 1, 0, 8], 0, 0), (33, some [0], .aload_n 0, 1, [], 0, 0), (34, none, .getfield 12, 3, [10, 0, 2], 0, 0), (37, none, .getfield 162, 3, [5, 3, 0], 0, 0), (40, none, .ireturn, 1, [], 0, 0)]
def k_X10_back : List EN := [(0, none, .aload_n 0, 1, [], 0, 0), (1, none, .getfield 12, 3, [10, 0, 2], 0, 0), (4, none, .aload_n 0, 1, [], 0, 0), (5, none, .getfield 30, 3, [10, 3, 2], 0, 0), (8, none, .invokevirtual 250, 3, [1, 74, 1, 0, 5], 0, 0), (11, some [0], .aload_n 0, 1, [], 0, 0), (12, none, .getfield 19, 3, [10, 1, 2], 0, 0), (15, none, .aload_n 0, 1, [], 0, 0), (16, none, .getfield 33, 3, [10, 4, 2], 0, 0), (19, none, .invokevirtual 375, 3, [1, 80, 1, 0, 6], 0, 0), (22, some [0], .aload_n 0, 1, [], 0, 0), (23, none, .getfield 26, 3, [10, 2, 2], 0, 0), (26, none, .aload_n 0, 1, [], 0, 0), (27, none, .getfield 36, 3, [10, 5, 2], 0, 0), (30, none, .invokevirtual 378, 3, [1, 90, 1, 0, 8], 0, 0), (33, some [0], .aload_n 0, 1, [], 0, 0), (34, none, .getfield 12, 3, [10, 0, 2], 0, 0), (37, none, .getfield 162, 3, [5, 3, 0], 0, 0), (40, none, .ireturn, 1, [], 0, 0)]
def k_X10_about : List EN := [(0, none, .iload_n 1, 1, [], 0, 0), (1, none, .tableswitch 111 0 7 #[47, 55, 63, 71, 79, 87, 95, 103], 47, [112, 0, 48, 56, 64, 72, 80, 88, 96, 104], 0, 0), (48, none, .aload_n 0, 1, [], 0, 0), (49, none, .getfield 12, 3, [10, 0, 2], 0, 0), (52, none, .getfield 100, 3, [5, 0, 0], 0, 0), (55, none, .ireturn, 1, [], 0, 0), (56, none, .aload_n 0, 1, [], 0, 0), (57, none, .getfield 26, 3, [10, 2, 2], 0, 0), (60, none, .getfield 118, 3, [8, 0, 0], 0, 0), (63, none, .ireturn, 1, [], 0, 0), (64, none, .aload_n 0, 1, [], 0, 0), (65, none, .getfield 26, 3, [10, 2, 2], 0, 0), (68, none, .getfield 137, 3, [8, 1, 0], 0, 0), (71, none, .ireturn, 1, [], 0, 0), (72, none, .aload_n 0, 1, [], 0, 0), (73, none, .getfield 19, 3, [10, 1, 2], 0, 0), (76, none, .getfield 200, 3, [6, 0, 0], 0, 0), (79, none, .ireturn, 1, [], 0, 0), (80, none, .aload_n 0, 1, [], 0, 0), (81, none, .getfield 26, 3, [10, 2, 2], 0, 0), (84, none, .getfield 280, 3, [8, 3, 0], 0, 0), (87, none, .ireturn, 1, [], 0, 0), (88, none, .aload_n 0, 1, [], 0, 0), (89, none, .getfield 26, 3, [10, 2, 2], 0, 0), (92, none, .getfield 303, 3, [8, 4, 0], 0, 0), (95, none, .ireturn, 1, [], 0, 0), (96, none, .aload_n 0, 1, [], 0, 0), (97, none, .getfield 26, 3, [10, 2, 2], 0, 0), (100, none, .getfield 363, 3, [8, 5, 0], 0, 0), (103, none, .ireturn, 1, [], 0, 0), (104, none, .aload_n 0, 1, [], 0, 0), (105, none, .getfield 51, 3, [10, 8, 2], 0, 0), (108, none, .getfield 111, 3, [4, 0, 0], 0, 0), (111, none, .ireturn, 1, [], 0, 0), (112, none, .bipush (-2), 2, [], (-2), 0), (114, none, .ireturn, 1, [], 0, 0)]
def k_X10_within : List EN := [(0, none, .iload_n 0, 1, [], 0, 0), (1, none, .iload_n 1, 1, [], 0, 0), (2, none, .if_icmp .lt 12, 3, [14], 0, 0), (5, none, .iload_n 0, 1, [], 0, 0), (6, none, .iload_n 2, 1, [], 0, 0), (7, none, .if_icmp .gt 7, 3, [14], 0, 0), (10, none, .iconst 1, 1, [], 1, 0), (11, none, .goto 4, 3, [15], 0, 0), (14, none, .iconst 0, 1, [], 0, 0), (15, none, .ireturn, 1, [], 0, 0)]
def k_X10_isSlant : List EN := [(0, none, .iload_n 0, 1, [], 0, 0), (1, none, .bipush (-9), 2, [], (-9), 0), (3, none, .bipush 9, 2, [], 9, 0), (5, none, .invokestatic 96, 3, [0, 146, 3, 1], 0, 0), (8, none, .ireturn, 1, [], 0, 0)]
def k_X10_clamp : List EN := [(0, none, .iload_n 0, 1, [], 0, 0), (1, none, .iload_n 1, 1, [], 0, 0), (2, none, .if_icmp .le 5, 3, [7], 0, 0), (5, none, .iload_n 1, 1, [], 0, 0), (6, none, .ireturn, 1, [], 0, 0), (7, none, .iload_n 0, 1, [], 0, 0), (8, none, .iload_n 1, 1, [], 0, 0), (9, none, .ineg, 1, [], 0, 0), (10, none, .if_icmp .ge 8, 3, [18], 0, 0), (13, none, .iload_n 1, 1, [], 0, 0), (14, none, .ineg, 1, [], 0, 0), (15, none, .goto 4, 3, [19], 0, 0), (18, none, .iload_n 0, 1, [], 0, 0), (19, none, .ireturn, 1, [], 0, 0)]
def k_X10_withBit : List EN := [(0, none, .iload_n 2, 1, [], 0, 0), (1, none, .ifCond .eq 11, 3, [12], 0, 0), (4, none, .iload_n 0, 1, [], 0, 0), (5, none, .iconst 1, 1, [], 1, 0), (6, none, .iload_n 1, 1, [], 0, 0), (7, none, .ishl, 1, [], 0, 0), (8, none, .ior, 1, [], 0, 0), (9, none, .goto 10, 3, [19], 0, 0), (12, none, .iload_n 0, 1, [], 0, 0), (13, none, .iconst 1, 1, [], 1, 0), (14, none, .iload_n 1, 1, [], 0, 0), (15, none, .ishl, 1, [], 0, 0), (16, none, .iconst (-1), 1, [], (-1), 0), (17, none, .ixor, 1, [], 0, 0), (18, none, .iand, 1, [], 0, 0), (19, none, .ireturn, 1, [], 0, 0)]
def k_X10_isText : List EN := [(0, none, .iload_n 1, 1, [], 0, 0), (1, none, .iconst 0, 1, [], 0, 0), (2, none, .aload_n 0, 1, [], 0, 0), (3, none, .getfield 26, 3, [10, 2, 2], 0, 0), (6, none, .getfield 118, 3, [8, 0, 0], 0, 0), (9, none, .iconst 1, 1, [], 1, 0), (10, none, .isub, 1, [], 0, 0), (11, none, .invokestatic 96, 3, [0, 146, 3, 1], 0, 0), (14, none, .ireturn, 1, [], 0, 0)]
def k_X10_ruling : List EN := [(0, none, .aload_n 0, 1, [], 0, 0), (1, none, .aload_n 0, 1, [], 0, 0), (2, none, .getfield 26, 3, [10, 2, 2], 0, 0), (5, none, .getfield 137, 3, [8, 1, 0], 0, 0), (8, none, .invokevirtual 134, 3, [1, 150, 1, 1, 10], 0, 0), (11, some [0], .ifCond .eq 18, 3, [29], 0, 0), (14, none, .aload_n 0, 1, [], 0, 0), (15, none, .getfield 44, 3, [10, 7, 2], 0, 0), (18, none, .aload_n 0, 1, [], 0, 0), (19, none, .getfield 26, 3, [10, 2, 2], 0, 0), (22, none, .getfield 137, 3, [8, 1, 0], 0, 0), (25, none, .aaload, 1, [], 0, 0), (26, none, .goto 4, 3, [30], 0, 0), (29, none, .aconst_null, 1, [], 0, 0), (30, none, .areturn, 1, [], 0, 0)]
def k_X10_passYears : List EN := [(0, none, .iconst 0, 1, [], 0, 0), (1, none, .istore_n 2, 1, [], 0, 0), (2, none, .iconst 0, 1, [], 0, 0), (3, none, .istore_n 3, 1, [], 0, 0), (4, some [0, 1, 2, 3], .iload_n 3, 1, [], 0, 0), (5, none, .iload_n 1, 1, [], 0, 0), (6, none, .if_icmp .ge 39, 3, [45], 0, 0), (9, none, .aload_n 0, 1, [], 0, 0), (10, none, .getfield 19, 3, [10, 1, 2], 0, 0), (13, none, .aload_n 0, 1, [], 0, 0), (14, none, .getfield 12, 3, [10, 0, 2], 0, 0), (17, none, .invokevirtual 144, 3, [1, 78, 1, 0, 6], 0, 0), (20, some [0, 1, 2, 3], .iload_n 2, 1, [], 0, 0), (21, none, .aload_n 0, 1, [], 0, 0), (22, none, .getfield 58, 3, [10, 9, 2], 0, 0), (25, none, .aload_n 0, 1, [], 0, 0), (26, none, .getfield 12, 3, [10, 0, 2], 0, 0), (29, none, .aload_n 0, 1, [], 0, 0), (30, none, .invokevirtual 190, 3, [1, 151, 0, 3, 10], 0, 0), (33, some [0, 1, 3], .iconst 1, 1, [], 1, 0), (34, none, .invokevirtual 193, 3, [1, 6, 3, 1, 1], 0, 0), (37, none, .iadd, 1, [], 0, 0), (38, none, .istore_n 2, 1, [], 0, 0), (39, none, .iinc 3 1, 3, [], 1, 0), (42, none, .goto (-38), 3, [4], 0, 0), (45, none, .iload_n 2, 1, [], 0, 0), (46, none, .ireturn, 1, [], 0, 0)]
def k_X10_perform : List EN := [(0, none, .iload_n 1, 1, [], 0, 0), (1, none, .tableswitch 135 3 9 #[43, 62, 72, 79, 85, 92, 99], 43, [136, 3, 44, 63, 73, 80, 86, 93, 100], 0, 0), (44, none, .aload_n 0, 1, [], 0, 0), (45, none, .iload_n 2, 1, [], 0, 0), (46, none, .bipush 9, 2, [], 9, 0), (48, none, .isub, 1, [], 0, 0), (49, none, .iload_n 3, 1, [], 0, 0), (50, none, .invokevirtual 381, 3, [1, 99, 2, 1, 10], 0, 0), (53, none, .iconst (-1), 1, [], (-1), 0), (54, none, .if_icmp .eq 7, 3, [61], 0, 0), (57, none, .iconst 1, 1, [], 1, 0), (58, none, .goto 4, 3, [62], 0, 0), (61, none, .iconst 0, 1, [], 0, 0), (62, none, .ireturn, 1, [], 0, 0), (63, none, .aload_n 0, 1, [], 0, 0), (64, none, .iload_n 3, 1, [], 0, 0), (65, none, .iload_n 2, 1, [], 0, 0), (66, none, .bipush 9, 2, [], 9, 0), (68, none, .isub, 1, [], 0, 0), (69, none, .invokevirtual 384, 3, [1, 100, 2, 1, 10], 0, 0), (72, none, .ireturn, 1, [], 0, 0), (73, none, .aload_n 0, 1, [], 0, 0), (74, none, .iload_n 2, 1, [], 0, 0), (75, none, .iload_n 3, 1, [], 0, 0), (76, none, .invokevirtual 387, 3, [1, 106, 2, 1, 10], 0, 0), (79, none, .ireturn, 1, [], 0, 0), (80, none, .aload_n 0, 1, [], 0, 0), (81, none, .iload_n 2, 1, [], 0, 0), (82, none, .invokevirtual 390, 3, [1, 107, 1, 1, 10], 0, 0), (85, none, .ireturn, 1, [], 0, 0), (86, none, .aload_n 0, 1, [], 0, 0), (87, none, .iload_n 2, 1, [], 0, 0), (88, none, .iconst 1, 1, [], 1, 0), (89, none, .invokevirtual 393, 3, [1, 108, 2, 1, 10], 0, 0), (92, none, .ireturn, 1, [], 0, 0), (93, none, .aload_n 0, 1, [], 0, 0), (94, none, .iload_n 2, 1, [], 0, 0), (95, none, .iconst 0, 1, [], 0, 0), (96, none, .invokevirtual 393, 3, [1, 108, 2, 1, 10], 0, 0), (99, none, .ireturn, 1, [], 0, 0), (100, none, .iload_n 2, 1, [], 0, 0), (101, none, .sipush 9999, 3, [], 9999, 0), (104, none, .aload_n 0, 1, [], 0, 0), (105, none, .getfield 12, 3, [10, 0, 2], 0, 0), (108, none, .getfield 162, 3, [5, 3, 0], 0, 0), (111, none, .isub, 1, [], 0, 0), (112, none, .invokestatic 351, 3, [2, 1], 0, 0), (115, none, .istore 4, 2, [], 0, 0), (117, none, .aload_n 0, 1, [], 0, 0), (118, none, .iload 4, 2, [], 0, 0), (120, none, .invokevirtual 165, 3, [1, 152, 1, 1, 10], 0, 0), (123, none, .pop, 1, [], 0, 0), (124, none, .iload 4, 2, [], 0, 0), (126, none, .iload_n 2, 1, [], 0, 0), (127, none, .if_icmp .ne 7, 3, [134], 0, 0), (130, none, .iconst 1, 1, [], 1, 0), (131, none, .goto 4, 3, [135], 0, 0), (134, none, .iconst 0, 1, [], 0, 0), (135, none, .ireturn, 1, [], 0, 0), (136, none, .iconst 1, 1, [], 1, 0), (137, none, .ireturn, 1, [], 0, 0)]
def k_X10_moveInAges : List EN := [(0, none, .aload_n 0, 1, [], 0, 0), (1, none, .getfield 12, 3, [10, 0, 2], 0, 0), (4, none, .getfield 100, 3, [5, 0, 0], 0, 0), (7, none, .istore_n 2, 1, [], 0, 0), (8, none, .iload_n 2, 1, [], 0, 0), (9, none, .ifCond .gt 4, 3, [13], 0, 0), (12, none, .return_, 1, [], 0, 0), (13, none, .iload_n 1, 1, [], 0, 0), (14, none, .iload_n 2, 1, [], 0, 0), (15, none, .irem, 1, [], 0, 0), (16, none, .istore_n 3, 1, [], 0, 0), (17, none, .iload_n 1, 1, [], 0, 0), (18, none, .bipush 7, 2, [], 7, 0), (20, none, .idiv, 1, [], 0, 0), (21, none, .iload_n 2, 1, [], 0, 0), (22, none, .irem, 1, [], 0, 0), (23, none, .istore 4, 2, [], 0, 0), (25, none, .iload_n 1, 1, [], 0, 0), (26, none, .bipush 7, 2, [], 7, 0), (28, none, .irem, 1, [], 0, 0), (29, none, .tableswitch 95 0 3 #[31, 57, 71, 83], 31, [124, 0, 60, 86, 100, 112], 0, 0), (60, none, .aload_n 0, 1, [], 0, 0), (61, none, .getfield 12, 3, [10, 0, 2], 0, 0), (64, none, .iload_n 3, 1, [], 0, 0), (65, none, .iload 4, 2, [], 0, 0), (67, none, .invokevirtual 140, 3, [1, 61, 2, 1, 5], 0, 0), (70, some [0, 3, 4], .ifCond .eq 54, 3, [124], 0, 0), (73, none, .aload_n 0, 1, [], 0, 0), (74, none, .getfield 12, 3, [10, 0, 2], 0, 0), (77, none, .iload_n 3, 1, [], 0, 0), (78, none, .iload 4, 2, [], 0, 0), (80, none, .invokevirtual 148, 3, [1, 62, 2, 0, 5], 0, 0), (83, none, .goto 41, 3, [124], 0, 0), (86, none, .aload_n 0, 1, [], 0, 0), (87, none, .getfield 12, 3, [10, 0, 2], 0, 0), (90, none, .iconst 1, 1, [], 1, 0), (91, none, .iload 4, 2, [], 0, 0), (93, none, .iadd, 1, [], 0, 0), (94, none, .invokevirtual 151, 3, [1, 63, 1, 0, 5], 0, 0), (97, none, .goto 27, 3, [124], 0, 0), (100, none, .aload_n 0, 1, [], 0, 0), (101, none, .getfield 12, 3, [10, 0, 2], 0, 0), (104, none, .iload_n 3, 1, [], 0, 0), (105, none, .iconst 1, 1, [], 1, 0), (106, none, .invokevirtual 158, 3, [1, 65, 2, 0, 5], 0, 0), (109, none, .goto 15, 3, [124], 0, 0), (112, none, .aload_n 0, 1, [], 0, 0), (113, none, .getfield 12, 3, [10, 0, 2], 0, 0), (116, none, .iload_n 3, 1, [], 0, 0), (117, none, .iconst 0, 1, [], 0, 0), (118, none, .invokevirtual 158, 3, [1, 65, 2, 0, 5], 0, 0), (121, none, .goto 3, 3, [124], 0, 0), (124, none, .return_, 1, [], 0, 0)]
def k_X10_costOfOrder : List EN := [(0, none, .iconst 0, 1, [], 0, 0), (1, none, .istore_n 1, 1, [], 0, 0), (2, none, .iconst 0, 1, [], 0, 0), (3, none, .istore_n 2, 1, [], 0, 0), (4, some [0, 1, 2], .iload_n 2, 1, [], 0, 0), (5, none, .aload_n 0, 1, [], 0, 0), (6, none, .getfield 12, 3, [10, 0, 2], 0, 0), (9, none, .getfield 100, 3, [5, 0, 0], 0, 0), (12, none, .if_icmp .ge 51, 3, [63], 0, 0), (15, none, .aload_n 0, 1, [], 0, 0), (16, none, .getfield 80, 3, [10, 13, 2], 0, 0), (19, none, .iload_n 2, 1, [], 0, 0), (20, none, .iaload, 1, [], 0, 0), (21, none, .istore_n 3, 1, [], 0, 0), (22, none, .iload_n 1, 1, [], 0, 0), (23, none, .aload_n 0, 1, [], 0, 0), (24, none, .getfield 12, 3, [10, 0, 2], 0, 0), (27, none, .getfield 212, 3, [5, 7, 2], 0, 0), (30, none, .iload_n 3, 1, [], 0, 0), (31, none, .iaload, 1, [], 0, 0), (32, none, .aload_n 0, 1, [], 0, 0), (33, none, .getfield 12, 3, [10, 0, 2], 0, 0), (36, none, .getfield 209, 3, [5, 6, 2], 0, 0), (39, none, .iload_n 3, 1, [], 0, 0), (40, none, .iaload, 1, [], 0, 0), (41, none, .aload_n 0, 1, [], 0, 0), (42, none, .getfield 26, 3, [10, 2, 2], 0, 0), (45, none, .getfield 108, 3, [8, 6, 2], 0, 0), (48, none, .iload_n 2, 1, [], 0, 0), (49, none, .iaload, 1, [], 0, 0), (50, none, .isub, 1, [], 0, 0), (51, none, .invokestatic 360, 3, [2, 2], 0, 0), (54, none, .imul, 1, [], 0, 0), (55, none, .iadd, 1, [], 0, 0), (56, none, .istore_n 1, 1, [], 0, 0), (57, none, .iinc 2 1, 3, [], 1, 0), (60, none, .goto (-56), 3, [4], 0, 0), (63, none, .iload_n 1, 1, [], 0, 0), (64, none, .ireturn, 1, [], 0, 0)]
def k_X10_gatherPairs : List EN := [(0, none, .aload_n 0, 1, [], 0, 0), (1, none, .getfield 87, 3, [10, 15, 2], 0, 0), (4, none, .ifnonnull 18, 3, [22], 0, 0), (7, none, .aload_n 0, 1, [], 0, 0), (8, none, .new 316, 3, [0, 4], 0, 0), (11, none, .dup, 1, [], 0, 0), (12, none, .aload_n 0, 1, [], 0, 0), (13, none, .getfield 58, 3, [10, 9, 2], 0, 0), (16, none, .invokespecial 396, 3, [1, 0, 1, 0, 0], 0, 0), (19, some [0, 1], .putfield 87, 3, [10, 15, 2], 0, 0), (22, none, .aload_n 0, 1, [], 0, 0), (23, none, .getfield 87, 3, [10, 15, 2], 0, 0), (26, none, .aload_n 0, 1, [], 0, 0), (27, none, .getfield 12, 3, [10, 0, 2], 0, 0), (30, none, .aload_n 0, 1, [], 0, 0), (31, none, .getfield 26, 3, [10, 2, 2], 0, 0), (34, none, .aload_n 0, 1, [], 0, 0), (35, none, .invokevirtual 190, 3, [1, 151, 0, 3, 10], 0, 0), (38, some [1], .iload_n 1, 1, [], 0, 0), (39, none, .invokevirtual 399, 3, [1, 1, 4, 0, 0], 0, 0), (42, none, .return_, 1, [], 0, 0)]
def k_X10_agrees : List EN := [(0, none, .iconst 0, 1, [], 0, 0), (1, none, .istore_n 2, 1, [], 0, 0), (2, some [0, 1, 2], .iload_n 2, 1, [], 0, 0), (3, none, .aload_n 0, 1, [], 0, 0), (4, none, .getfield 26, 3, [10, 2, 2], 0, 0), (7, none, .getfield 363, 3, [8, 5, 0], 0, 0), (10, none, .if_icmp .ge 44, 3, [54], 0, 0), (13, none, .aload_n 0, 1, [], 0, 0), (14, none, .getfield 58, 3, [10, 9, 2], 0, 0), (17, none, .aload_n 0, 1, [], 0, 0), (18, none, .getfield 12, 3, [10, 0, 2], 0, 0), (21, none, .aload_n 0, 1, [], 0, 0), (22, none, .getfield 26, 3, [10, 2, 2], 0, 0), (25, none, .getfield 366, 3, [8, 10, 2], 0, 0), (28, none, .iload_n 2, 1, [], 0, 0), (29, none, .iaload, 1, [], 0, 0), (30, none, .aload_n 1, 1, [], 0, 0), (31, none, .invokevirtual 218, 3, [1, 7, 3, 1, 1], 0, 0), (34, some [0, 1, 2], .aload_n 0, 1, [], 0, 0), (35, none, .getfield 26, 3, [10, 2, 2], 0, 0), (38, none, .getfield 369, 3, [8, 11, 2], 0, 0), (41, none, .iload_n 2, 1, [], 0, 0), (42, none, .iaload, 1, [], 0, 0), (43, none, .if_icmp .eq 5, 3, [48], 0, 0), (46, none, .iconst 0, 1, [], 0, 0), (47, none, .ireturn, 1, [], 0, 0), (48, none, .iinc 2 1, 3, [], 1, 0), (51, none, .goto (-49), 3, [2], 0, 0), (54, none, .iconst 1, 1, [], 1, 0), (55, none, .ireturn, 1, [], 0, 0)]
def k_X10_rankOf : List EN := [(0, none, .iconst 0, 1, [], 0, 0), (1, none, .istore_n 2, 1, [], 0, 0), (2, none, .iconst 0, 1, [], 0, 0), (3, none, .istore_n 3, 1, [], 0, 0), (4, some [0, 1, 2, 3], .iload_n 3, 1, [], 0, 0), (5, none, .iload_n 1, 1, [], 0, 0), (6, none, .if_icmp .ge 57, 3, [63], 0, 0), (9, none, .iconst 0, 1, [], 0, 0), (10, none, .istore 4, 2, [], 0, 0), (12, none, .iload_n 3, 1, [], 0, 0), (13, none, .iconst 1, 1, [], 1, 0), (14, none, .iadd, 1, [], 0, 0), (15, none, .istore 5, 2, [], 0, 0), (17, some [0, 1, 2, 3, 4, 5], .iload 5, 2, [], 0, 0), (19, none, .iload_n 1, 1, [], 0, 0), (20, none, .if_icmp .ge 22, 3, [42], 0, 0), (23, none, .aload_n 0, 1, [], 0, 0), (24, none, .iload 5, 2, [], 0, 0), (26, none, .iaload, 1, [], 0, 0), (27, none, .aload_n 0, 1, [], 0, 0), (28, none, .iload_n 3, 1, [], 0, 0), (29, none, .iaload, 1, [], 0, 0), (30, none, .if_icmp .ge 6, 3, [36], 0, 0), (33, none, .iinc 4 1, 3, [], 1, 0), (36, none, .iinc 5 1, 3, [], 1, 0), (39, none, .goto (-22), 3, [17], 0, 0), (42, none, .iload_n 2, 1, [], 0, 0), (43, none, .iload 4, 2, [], 0, 0), (45, none, .getstatic 267, 3, [100], 0, 0), (48, none, .iload_n 1, 1, [], 0, 0), (49, none, .iconst 1, 1, [], 1, 0), (50, none, .isub, 1, [], 0, 0), (51, none, .iload_n 3, 1, [], 0, 0), (52, none, .isub, 1, [], 0, 0), (53, none, .iaload, 1, [], 0, 0), (54, none, .imul, 1, [], 0, 0), (55, none, .iadd, 1, [], 0, 0), (56, none, .istore_n 2, 1, [], 0, 0), (57, none, .iinc 3 1, 3, [], 1, 0), (60, none, .goto (-56), 3, [4], 0, 0), (63, none, .iload_n 2, 1, [], 0, 0), (64, none, .ireturn, 1, [], 0, 0)]
def k_X10_unrank : List EN := [(0, none, .iload_n 0, 1, [], 0, 0), (1, none, .istore_n 3, 1, [], 0, 0), (2, none, .iconst 0, 1, [], 0, 0), (3, none, .istore 4, 2, [], 0, 0), (5, none, .iconst 0, 1, [], 0, 0), (6, none, .istore 5, 2, [], 0, 0), (8, some [1, 2, 3, 4, 5], .iload 5, 2, [], 0, 0), (10, none, .iload_n 1, 1, [], 0, 0), (11, none, .if_icmp .ge 86, 3, [97], 0, 0), (14, none, .getstatic 267, 3, [100], 0, 0), (17, none, .iload_n 1, 1, [], 0, 0), (18, none, .iconst 1, 1, [], 1, 0), (19, none, .isub, 1, [], 0, 0), (20, none, .iload 5, 2, [], 0, 0), (22, none, .isub, 1, [], 0, 0), (23, none, .iaload, 1, [], 0, 0), (24, none, .istore 6, 2, [], 0, 0), (26, none, .iload_n 3, 1, [], 0, 0), (27, none, .iload 6, 2, [], 0, 0), (29, none, .idiv, 1, [], 0, 0), (30, none, .istore 7, 2, [], 0, 0), (32, none, .iload_n 3, 1, [], 0, 0), (33, none, .iload 6, 2, [], 0, 0), (35, none, .irem, 1, [], 0, 0), (36, none, .istore_n 3, 1, [], 0, 0), (37, none, .iconst 0, 1, [], 0, 0), (38, none, .istore 8, 2, [], 0, 0), (40, some [1, 2, 3, 4, 5, 7, 8], .iload 8, 2, [], 0, 0), (42, none, .iload_n 1, 1, [], 0, 0), (43, none, .if_icmp .ge 48, 3, [91], 0, 0), (46, none, .iload 4, 2, [], 0, 0), (48, none, .iload 8, 2, [], 0, 0), (50, none, .ishr, 1, [], 0, 0), (51, none, .iconst 1, 1, [], 1, 0), (52, none, .iand, 1, [], 0, 0), (53, none, .ifCond .eq 6, 3, [59], 0, 0), (56, none, .goto 29, 3, [85], 0, 0), (59, none, .iload 7, 2, [], 0, 0), (61, none, .ifCond .ne 21, 3, [82], 0, 0), (64, none, .aload_n 2, 1, [], 0, 0), (65, none, .iload 5, 2, [], 0, 0), (67, none, .iload 8, 2, [], 0, 0), (69, none, .iastore, 1, [], 0, 0), (70, none, .iload 4, 2, [], 0, 0), (72, none, .iconst 1, 1, [], 1, 0), (73, none, .iload 8, 2, [], 0, 0), (75, none, .ishl, 1, [], 0, 0), (76, none, .ior, 1, [], 0, 0), (77, none, .istore 4, 2, [], 0, 0), (79, none, .goto 12, 3, [91], 0, 0), (82, none, .iinc 7 (-1), 3, [], (-1), 0), (85, none, .iinc 8 1, 3, [], 1, 0), (88, none, .goto (-48), 3, [40], 0, 0), (91, none, .iinc 5 1, 3, [], 1, 0), (94, none, .goto (-86), 3, [8], 0, 0), (97, none, .return_, 1, [], 0, 0)]
def k_X11_init : List EN := [(0, none, .aload_n 0, 1, [], 0, 0), (1, none, .invokespecial 1, 3, [2, 8], 0, 0), (4, none, .aload_n 0, 1, [], 0, 0), (5, none, .sipush 1486, 3, [], 1486, 0), (8, none, .newarray .int, 2, [0], 0, 0), (10, none, .putfield 7, 3, [11, 0, 2], 0, 0), (13, none, .aload_n 0, 1, [], 0, 0), (14, none, .sipush 1486, 3, [], 1486, 0), (17, none, .newarray .int, 2, [0], 0, 0), (19, none, .putfield 13, 3, [11, 1, 2], 0, 0), (22, none, .aload_n 0, 1, [], 0, 0), (23, none, .sipush 2724, 3, [], 2724, 0), (26, none, .newarray .int, 2, [0], 0, 0), (28, none, .putfield 16, 3, [11, 2, 2], 0, 0), (31, none, .aload_n 0, 1, [], 0, 0), (32, none, .sipush 300, 3, [], 300, 0), (35, none, .newarray .int, 2, [0], 0, 0), (37, none, .putfield 19, 3, [11, 3, 2], 0, 0), (40, none, .aload_n 0, 1, [], 0, 0), (41, none, .iconst (-1), 1, [], (-1), 0), (42, none, .putfield 22, 3, [11, 5, 0], 0, 0), (45, none, .aload_n 0, 1, [], 0, 0), (46, none, .iconst (-1), 1, [], (-1), 0), (47, none, .putfield 26, 3, [11, 6, 0], 0, 0), (50, none, .aload_n 0, 1, [], 0, 0), (51, none, .sipush 160, 3, [], 160, 0), (54, none, .newarray .int, 2, [0], 0, 0), (56, none, .putfield 29, 3, [11, 15, 2], 0, 0), (59, none, .aload_n 0, 1, [], 0, 0), (60, none, .bipush 9, 2, [], 9, 0), (62, none, .newarray .int, 2, [0], 0, 0), (64, none, .putfield 32, 3, [11, 20, 2], 0, 0), (67, none, .aload_n 0, 1, [], 0, 0), (68, none, .sipush 330, 3, [], 330, 0), (71, none, .newarray .long, 2, [2], 0, 0), (73, none, .putfield 35, 3, [11, 21, 2], 0, 0), (76, none, .aload_n 0, 1, [], 0, 0), (77, none, .sipush 330, 3, [], 330, 0), (80, none, .newarray .boolean, 2, [1], 0, 0), (82, none, .putfield 39, 3, [11, 22, 2], 0, 0), (85, none, .aload_n 0, 1, [], 0, 0), (86, none, .iconst 1, 1, [], 1, 0), (87, none, .putfield 43, 3, [11, 23, 3], 0, 0), (90, none, .aload_n 0, 1, [], 0, 0), (91, none, .bipush 22, 2, [], 22, 0), (93, none, .newarray .int, 2, [0], 0, 0), (95, none, .putfield 47, 3, [11, 25, 2], 0, 0), (98, none, .aload_n 0, 1, [], 0, 0), (99, none, .sipush 201, 3, [], 201, 0), (102, none, .newarray .int, 2, [0], 0, 0), (104, none, .putfield 50, 3, [11, 26, 2], 0, 0), (107, none, .aload_n 0, 1, [], 0, 0), (108, none, .ldc 53, 2, [], 100000, 0), (110, none, .newarray .int, 2, [0], 0, 0), (112, none, .putfield 54, 3, [11, 27, 2], 0, 0), (115, none, .aload_n 0, 1, [], 0, 0), (116, none, .sipush 3840, 3, [], 3840, 0), (119, none, .newarray .int, 2, [0], 0, 0), (121, none, .putfield 57, 3, [11, 28, 2], 0, 0), (124, none, .aload_n 0, 1, [], 0, 0), (125, none, .iconst 5, 1, [], 5, 0), (126, none, .newarray .int, 2, [0], 0, 0), (128, none, .putfield 60, 3, [11, 29, 2], 0, 0), (131, none, .aload_n 0, 1, [], 0, 0), (132, none, .iconst 5, 1, [], 5, 0), (133, none, .newarray .int, 2, [0], 0, 0), (135, none, .putfield 63, 3, [11, 30, 2], 0, 0), (138, none, .aload_n 0, 1, [], 0, 0), (139, none, .iconst 5, 1, [], 5, 0), (140, none, .newarray .int, 2, [0], 0, 0), (142, none, .putfield 66, 3, [11, 31, 2], 0, 0), (145, none, .aload_n 0, 1, [], 0, 0), (146, none, .bipush 11, 2, [], 11, 0), (148, none, .newarray .int, 2, [0], 0, 0), (150, none, .putfield 69, 3, [11, 32, 2], 0, 0), (153, none, .aload_n 0, 1, [], 0, 0), (154, none, .bipush 11, 2, [], 11, 0), (156, none, .newarray .int, 2, [0], 0, 0), (158, none, .putfield 72, 3, [11, 33, 2], 0, 0), (161, none, .aload_n 0, 1, [], 0, 0), (162, none, .bipush 11, 2, [], 11, 0), (164, none, .newarray .int, 2, [0], 0, 0), (166, none, .putfield 75, 3, [11, 34, 2], 0, 0), (169, none, .aload_n 0, 1, [], 0, 0), (170, none, .sipush 1999, 3, [], 1999, 0), (173, none, .newarray .int, 2, [0], 0, 0), (175, none, .putfield 78, 3, [11, 35, 2], 0, 0), (178, none, .aload_n 0, 1, [], 0, 0), (179, none, .bipush 19, 2, [], 19, 0), (181, none, .newarray .long, 2, [2], 0, 0), (183, none, .putfield 81, 3, [11, 36, 2], 0, 0), (186, none, .aload_n 0, 1, [], 0, 0), (187, none, .bipush 19, 2, [], 19, 0), (189, none, .newarray .long, 2, [2], 0, 0), (191, none, .putfield 84, 3, [11, 37, 2], 0, 0), (194, none, .aload_n 0, 1, [], 0, 0), (195, none, .bipush 100, 2, [], 100, 0), (197, none, .newarray .boolean, 2, [1], 0, 0), (199, none, .putfield 87, 3, [11, 38, 2], 0, 0), (202, none, .aload_n 0, 1, [], 0, 0), (203, none, .getfield 7, 3, [11, 0, 2], 0, 0), (206, none, .bipush 8, 2, [], 8, 0), (208, none, .sipush 317, 3, [], 317, 0), (211, none, .iastore, 1, [], 0, 0), (212, none, .aload_n 0, 1, [], 0, 0), (213, none, .getfield 7, 3, [11, 0, 2], 0, 0), (216, none, .iconst 2, 1, [], 2, 0), (217, none, .iconst (-1), 1, [], (-1), 0), (218, none, .iastore, 1, [], 0, 0), (219, none, .aload_n 0, 1, [], 0, 0), (220, none, .getfield 7, 3, [11, 0, 2], 0, 0), (223, none, .aload_n 0, 1, [], 0, 0), (224, none, .getfield 13, 3, [11, 1, 2], 0, 0), (227, none, .invokestatic 90, 3, [0, 161, 2, 0], 0, 0), (230, none, .return_, 1, [], 0, 0)]
def k_X11_copy : List EN := [(0, none, .iconst 0, 1, [], 0, 0), (1, none, .istore_n 2, 1, [], 0, 0), (2, some [0, 1, 2], .iload_n 2, 1, [], 0, 0), (3, none, .sipush 1486, 3, [], 1486, 0), (6, none, .if_icmp .ge 15, 3, [21], 0, 0), (9, none, .aload_n 1, 1, [], 0, 0), (10, none, .iload_n 2, 1, [], 0, 0), (11, none, .aload_n 0, 1, [], 0, 0), (12, none, .iload_n 2, 1, [], 0, 0), (13, none, .iaload, 1, [], 0, 0), (14, none, .iastore, 1, [], 0, 0), (15, none, .iinc 2 1, 3, [], 1, 0), (18, none, .goto (-16), 3, [2], 0, 0), (21, none, .return_, 1, [], 0, 0)]
def k_X11_isIn : List EN := [(0, none, .iload_n 0, 1, [], 0, 0), (1, none, .iload_n 1, 1, [], 0, 0), (2, none, .if_icmp .lt 12, 3, [14], 0, 0), (5, none, .iload_n 0, 1, [], 0, 0), (6, none, .iload_n 2, 1, [], 0, 0), (7, none, .if_icmp .gt 7, 3, [14], 0, 0), (10, none, .iconst 1, 1, [], 1, 0), (11, none, .goto 4, 3, [15], 0, 0), (14, none, .iconst 0, 1, [], 0, 0), (15, none, .ireturn, 1, [], 0, 0)]
def k_X11_cut : List EN := [(0, none, .lload_n 0, 1, [], 0, 0), (1, none, .iload_n 2, 1, [], 0, 0), (2, none, .i2l, 1, [], 0, 0), (3, none, .lcmp, 1, [], 0, 0), (4, none, .ifCond .ge 7, 3, [11], 0, 0), (7, none, .iload_n 2, 1, [], 0, 0), (8, none, .goto 16, 3, [24], 0, 0), (11, none, .lload_n 0, 1, [], 0, 0), (12, none, .iload_n 3, 1, [], 0, 0), (13, none, .i2l, 1, [], 0, 0), (14, none, .lcmp, 1, [], 0, 0), (15, none, .ifCond .le 7, 3, [22], 0, 0), (18, none, .iload_n 3, 1, [], 0, 0), (19, none, .goto 5, 3, [24], 0, 0), (22, none, .lload_n 0, 1, [], 0, 0), (23, none, .l2i, 1, [], 0, 0), (24, none, .ireturn, 1, [], 0, 0)]
def k_X11_size : List EN := [(0, none, .iload_n 0, 1, [], 0, 0), (1, none, .ifCond .ge 8, 3, [9], 0, 0), (4, none, .iload_n 0, 1, [], 0, 0), (5, none, .ineg, 1, [], 0, 0), (6, none, .goto 4, 3, [10], 0, 0), (9, none, .iload_n 0, 1, [], 0, 0), (10, none, .ireturn, 1, [], 0, 0)]
def k_X11_has : List EN := [(0, none, .iload_n 0, 1, [], 0, 0), (1, none, .iload_n 1, 1, [], 0, 0), (2, none, .ishr, 1, [], 0, 0), (3, none, .iconst 1, 1, [], 1, 0), (4, none, .iand, 1, [], 0, 0), (5, none, .iconst 1, 1, [], 1, 0), (6, none, .if_icmp .ne 7, 3, [13], 0, 0), (9, none, .iconst 1, 1, [], 1, 0), (10, none, .goto 4, 3, [14], 0, 0), (13, none, .iconst 0, 1, [], 0, 0), (14, none, .ireturn, 1, [], 0, 0)]
def k_X11_bits : List EN := [(0, none, .iconst 0, 1, [], 0, 0), (1, none, .istore_n 1, 1, [], 0, 0), (2, none, .iload_n 0, 1, [], 0, 0), (3, none, .istore_n 2, 1, [], 0, 0), (4, some [1, 2], .iload_n 2, 1, [], 0, 0), (5, none, .ifCond .eq 15, 3, [20], 0, 0), (8, none, .iinc 1 1, 3, [], 1, 0), (11, none, .iload_n 2, 1, [], 0, 0), (12, none, .iload_n 2, 1, [], 0, 0), (13, none, .iconst 1, 1, [], 1, 0), (14, none, .isub, 1, [], 0, 0), (15, none, .iand, 1, [], 0, 0), (16, none, .istore_n 2, 1, [], 0, 0), (17, none, .goto (-13), 3, [4], 0, 0), (20, none, .iload_n 1, 1, [], 0, 0), (21, none, .ireturn, 1, [], 0, 0)]
def k_X11_isPerson : List EN := [(0, none, .iload_n 1, 1, [], 0, 0), (1, none, .iconst 0, 1, [], 0, 0), (2, none, .aload_n 0, 1, [], 0, 0), (3, none, .getfield 7, 3, [11, 0, 2], 0, 0), (6, none, .iconst 0, 1, [], 0, 0), (7, none, .iaload, 1, [], 0, 0), (8, none, .iconst 1, 1, [], 1, 0), (9, none, .isub, 1, [], 0, 0), (10, none, .invokestatic 94, 3, [0, 162, 3, 1], 0, 0), (13, none, .ireturn, 1, [], 0, 0)]
def k_X11_isSteep : List EN := [(0, none, .iload_n 0, 1, [], 0, 0), (1, none, .bipush (-9), 2, [], (-9), 0), (3, none, .bipush 9, 2, [], 9, 0), (5, none, .invokestatic 94, 3, [0, 162, 3, 1], 0, 0), (8, none, .ireturn, 1, [], 0, 0)]
def k_X11_isSeat : List EN := [(0, none, .iload_n 0, 1, [], 0, 0), (1, none, .iconst 0, 1, [], 0, 0), (2, none, .iconst 4, 1, [], 4, 0), (3, none, .invokestatic 94, 3, [0, 162, 3, 1], 0, 0), (6, none, .ireturn, 1, [], 0, 0)]
def k_X11_slantIn : List EN := [(0, none, .aload_n 0, 1, [], 0, 0), (1, none, .iload_n 1, 1, [], 0, 0), (2, none, .invokevirtual 98, 3, [1, 167, 1, 1, 11], 0, 0), (5, some [0, 1], .ifCond .eq 23, 3, [28], 0, 0), (8, none, .aload_n 0, 1, [], 0, 0), (9, none, .getfield 7, 3, [11, 0, 2], 0, 0), (12, none, .bipush 12, 2, [], 12, 0), (14, none, .aload_n 0, 1, [], 0, 0), (15, none, .getfield 7, 3, [11, 0, 2], 0, 0), (18, none, .bipush 17, 2, [], 17, 0), (20, none, .iload_n 1, 1, [], 0, 0), (21, none, .iadd, 1, [], 0, 0), (22, none, .iaload, 1, [], 0, 0), (23, none, .iadd, 1, [], 0, 0), (24, none, .iaload, 1, [], 0, 0), (25, none, .goto 4, 3, [29], 0, 0), (28, none, .iconst 0, 1, [], 0, 0), (29, none, .ireturn, 1, [], 0, 0)]
def k_X11_seatOf : List EN := [(0, none, .iconst 0, 1, [], 0, 0), (1, none, .istore_n 2, 1, [], 0, 0), (2, some [0, 1, 2], .aload_n 0, 1, [], 0, 0), (3, none, .getfield 7, 3, [11, 0, 2], 0, 0), (6, none, .bipush 17, 2, [], 17, 0), (8, none, .iload_n 2, 1, [], 0, 0), (9, none, .iadd, 1, [], 0, 0), (10, none, .iaload, 1, [], 0, 0), (11, none, .iload_n 1, 1, [], 0, 0), (12, none, .if_icmp .eq 9, 3, [21], 0, 0), (15, none, .iinc 2 1, 3, [], 1, 0), (18, none, .goto (-16), 3, [2], 0, 0), (21, none, .iload_n 2, 1, [], 0, 0), (22, none, .ireturn, 1, [], 0, 0)]
def k_X11_person : List EN := [(0, none, .iload_n 1, 1, [], 0, 0), (1, none, .invokestatic 102, 3, [0, 168, 1, 1], 0, 0), (4, none, .ifCond .eq 23, 3, [27], 0, 0), (7, none, .iload_n 2, 1, [], 0, 0), (8, none, .iconst 1, 1, [], 1, 0), (9, none, .bipush 9, 2, [], 9, 0), (11, none, .invokestatic 94, 3, [0, 162, 3, 1], 0, 0), (14, some [0, 1, 2], .ifCond .eq 13, 3, [27], 0, 0), (17, none, .aload_n 0, 1, [], 0, 0), (18, none, .getfield 7, 3, [11, 0, 2], 0, 0), (21, none, .iconst 0, 1, [], 0, 0), (22, none, .iaload, 1, [], 0, 0), (23, none, .iconst 5, 1, [], 5, 0), (24, none, .if_icmp .ne 5, 3, [29], 0, 0), (27, none, .iconst (-1), 1, [], (-1), 0), (28, none, .ireturn, 1, [], 0, 0), (29, none, .aload_n 0, 1, [], 0, 0), (30, none, .getfield 7, 3, [11, 0, 2], 0, 0), (33, none, .iconst 0, 1, [], 0, 0), (34, none, .iaload, 1, [], 0, 0), (35, none, .istore_n 3, 1, [], 0, 0), (36, none, .aload_n 0, 1, [], 0, 0), (37, none, .getfield 7, 3, [11, 0, 2], 0, 0), (40, none, .bipush 27, 2, [], 27, 0), (42, none, .iload_n 3, 1, [], 0, 0), (43, none, .iadd, 1, [], 0, 0), (44, none, .iload_n 1, 1, [], 0, 0), (45, none, .iastore, 1, [], 0, 0), (46, none, .aload_n 0, 1, [], 0, 0), (47, none, .getfield 7, 3, [11, 0, 2], 0, 0), (50, none, .bipush 22, 2, [], 22, 0), (52, none, .iload_n 3, 1, [], 0, 0), (53, none, .iadd, 1, [], 0, 0), (54, none, .iload_n 2, 1, [], 0, 0), (55, none, .iastore, 1, [], 0, 0), (56, none, .aload_n 0, 1, [], 0, 0), (57, none, .iload_n 3, 1, [], 0, 0), (58, none, .invokevirtual 105, 3, [1, 173, 1, 0, 11], 0, 0), (61, some [0, 3], .aload_n 0, 1, [], 0, 0), (62, none, .getfield 7, 3, [11, 0, 2], 0, 0), (65, none, .iconst 0, 1, [], 0, 0), (66, none, .dup2, 1, [], 0, 0), (67, none, .iaload, 1, [], 0, 0), (68, none, .iconst 1, 1, [], 1, 0), (69, none, .iadd, 1, [], 0, 0), (70, none, .iastore, 1, [], 0, 0), (71, none, .iload_n 3, 1, [], 0, 0), (72, none, .ireturn, 1, [], 0, 0)]
def k_X11_begin : List EN := [(0, none, .aload_n 0, 1, [], 0, 0), (1, none, .getfield 7, 3, [11, 0, 2], 0, 0), (4, none, .bipush 12, 2, [], 12, 0), (6, none, .iload_n 1, 1, [], 0, 0), (7, none, .iadd, 1, [], 0, 0), (8, none, .aload_n 0, 1, [], 0, 0), (9, none, .getfield 7, 3, [11, 0, 2], 0, 0), (12, none, .bipush 27, 2, [], 27, 0), (14, none, .iload_n 1, 1, [], 0, 0), (15, none, .iadd, 1, [], 0, 0), (16, none, .iaload, 1, [], 0, 0), (17, none, .iastore, 1, [], 0, 0), (18, none, .aload_n 0, 1, [], 0, 0), (19, none, .getfield 7, 3, [11, 0, 2], 0, 0), (22, none, .bipush 17, 2, [], 17, 0), (24, none, .iload_n 1, 1, [], 0, 0), (25, none, .iadd, 1, [], 0, 0), (26, none, .iload_n 1, 1, [], 0, 0), (27, none, .iastore, 1, [], 0, 0), (28, none, .return_, 1, [], 0, 0)]
def k_X11_rack : List EN := [(0, none, .iload_n 1, 1, [], 0, 0), (1, none, .invokestatic 109, 3, [0, 169, 1, 1], 0, 0), (4, none, .ifCond .eq 10, 3, [14], 0, 0), (7, none, .iload_n 2, 1, [], 0, 0), (8, none, .invokestatic 102, 3, [0, 168, 1, 1], 0, 0), (11, some [0, 1, 2], .ifCond .ne 5, 3, [16], 0, 0), (14, none, .iconst 0, 1, [], 0, 0), (15, none, .ireturn, 1, [], 0, 0), (16, none, .aload_n 0, 1, [], 0, 0), (17, none, .getfield 7, 3, [11, 0, 2], 0, 0), (20, none, .bipush 32, 2, [], 32, 0), (22, none, .iload_n 1, 1, [], 0, 0), (23, none, .iadd, 1, [], 0, 0), (24, none, .iload_n 2, 1, [], 0, 0), (25, none, .iastore, 1, [], 0, 0), (26, none, .iconst 1, 1, [], 1, 0), (27, none, .ireturn, 1, [], 0, 0)]
def k_X11_bar : List EN := [(0, none, .iload_n 1, 1, [], 0, 0), (1, none, .invokestatic 109, 3, [0, 169, 1, 1], 0, 0), (4, some [0, 1, 2], .ifCond .ne 5, 3, [9], 0, 0), (7, none, .iconst 0, 1, [], 0, 0), (8, none, .ireturn, 1, [], 0, 0), (9, none, .aload_n 0, 1, [], 0, 0), (10, none, .getfield 7, 3, [11, 0, 2], 0, 0), (13, none, .bipush 37, 2, [], 37, 0), (15, none, .iload_n 2, 1, [], 0, 0), (16, none, .ifCond .eq 17, 3, [33], 0, 0), (19, none, .aload_n 0, 1, [], 0, 0), (20, none, .getfield 7, 3, [11, 0, 2], 0, 0), (23, none, .bipush 37, 2, [], 37, 0), (25, none, .iaload, 1, [], 0, 0), (26, none, .iconst 1, 1, [], 1, 0), (27, none, .iload_n 1, 1, [], 0, 0), (28, none, .ishl, 1, [], 0, 0), (29, none, .ior, 1, [], 0, 0), (30, none, .goto 16, 3, [46], 0, 0), (33, none, .aload_n 0, 1, [], 0, 0), (34, none, .getfield 7, 3, [11, 0, 2], 0, 0), (37, none, .bipush 37, 2, [], 37, 0), (39, none, .iaload, 1, [], 0, 0), (40, none, .iconst 1, 1, [], 1, 0), (41, none, .iload_n 1, 1, [], 0, 0), (42, none, .ishl, 1, [], 0, 0), (43, none, .iconst (-1), 1, [], (-1), 0), (44, none, .ixor, 1, [], 0, 0), (45, none, .iand, 1, [], 0, 0), (46, none, .iastore, 1, [], 0, 0), (47, none, .iconst 1, 1, [], 1, 0), (48, none, .ireturn, 1, [], 0, 0)]
def k_X11_four : List EN := [(0, none, .bipush 24, 2, [], 24, 0), (2, none, .istore_n 2, 1, [], 0, 0), (3, some [0, 1, 2], .iload_n 2, 1, [], 0, 0), (4, none, .ifCond .lt 35, 3, [39], 0, 0), (7, none, .aload_n 0, 1, [], 0, 0), (8, none, .getfield 19, 3, [11, 3, 2], 0, 0), (11, none, .aload_n 0, 1, [], 0, 0), (12, none, .getfield 112, 3, [11, 4, 0], 0, 0), (15, none, .iload_n 1, 1, [], 0, 0), (16, none, .iload_n 2, 1, [], 0, 0), (17, none, .ishr, 1, [], 0, 0), (18, none, .sipush 255, 3, [], 255, 0), (21, none, .iand, 1, [], 0, 0), (22, none, .iastore, 1, [], 0, 0), (23, none, .aload_n 0, 1, [], 0, 0), (24, none, .dup, 1, [], 0, 0), (25, none, .getfield 112, 3, [11, 4, 0], 0, 0), (28, none, .iconst 1, 1, [], 1, 0), (29, none, .iadd, 1, [], 0, 0), (30, none, .putfield 112, 3, [11, 4, 0], 0, 0), (33, none, .iinc 2 (-8), 3, [], (-8), 0), (36, none, .goto (-33), 3, [3], 0, 0), (39, none, .return_, 1, [], 0, 0)]
def k_X11_feed : List EN := [(0, none, .aload_n 0, 1, [], 0, 0), (1, none, .getfield 112, 3, [11, 4, 0], 0, 0), (4, none, .bipush 20, 2, [], 20, 0), (6, none, .iadd, 1, [], 0, 0), (7, none, .sipush 300, 3, [], 300, 0), (10, none, .if_icmp .le 5, 3, [15], 0, 0), (13, none, .iconst (-1), 1, [], (-1), 0), (14, none, .ireturn, 1, [], 0, 0), (15, none, .aload_n 0, 1, [], 0, 0), (16, none, .iload_n 1, 1, [], 0, 0), (17, none, .invokevirtual 115, 3, [1, 176, 1, 0, 11], 0, 0), (20, some [0, 2, 3, 4, 5], .aload_n 0, 1, [], 0, 0), (21, none, .iload_n 2, 1, [], 0, 0), (22, none, .invokevirtual 115, 3, [1, 176, 1, 0, 11], 0, 0), (25, some [0, 3, 4, 5], .aload_n 0, 1, [], 0, 0), (26, none, .iload_n 3, 1, [], 0, 0), (27, none, .invokevirtual 115, 3, [1, 176, 1, 0, 11], 0, 0), (30, some [0, 4, 5], .aload_n 0, 1, [], 0, 0), (31, none, .iload 4, 2, [], 0, 0), (33, none, .invokevirtual 115, 3, [1, 176, 1, 0, 11], 0, 0), (36, some [0, 5], .aload_n 0, 1, [], 0, 0), (37, none, .iload 5, 2, [], 0, 0), (39, none, .invokevirtual 115, 3, [1, 176, 1, 0, 11], 0, 0), (42, some [0], .aload_n 0, 1, [], 0, 0), (43, none, .getfield 112, 3, [11, 4, 0], 0, 0), (46, none, .ireturn, 1, [], 0, 0)]
def k_X11_end : List EN := [(0, none, .iload_n 1, 1, [], 0, 0), (1, none, .iconst 0, 1, [], 0, 0), (2, none, .aload_n 0, 1, [], 0, 0), (3, none, .getfield 112, 3, [11, 4, 0], 0, 0), (6, none, .invokestatic 94, 3, [0, 162, 3, 1], 0, 0), (9, some [0, 1], .ifCond .ne 5, 3, [14], 0, 0), (12, none, .iconst (-1), 1, [], (-1), 0), (13, none, .ireturn, 1, [], 0, 0), (14, none, .aload_n 0, 1, [], 0, 0), (15, none, .iload_n 1, 1, [], 0, 0), (16, none, .putfield 112, 3, [11, 4, 0], 0, 0), (19, none, .iload_n 1, 1, [], 0, 0), (20, none, .ireturn, 1, [], 0, 0)]
def k_X11_byteAt : List EN := [(0, none, .iload_n 1, 1, [], 0, 0), (1, none, .aload_n 0, 1, [], 0, 0), (2, none, .getfield 112, 3, [11, 4, 0], 0, 0), (5, none, .if_icmp .ge 12, 3, [17], 0, 0), (8, none, .aload_n 0, 1, [], 0, 0), (9, none, .getfield 19, 3, [11, 3, 2], 0, 0), (12, none, .iload_n 1, 1, [], 0, 0), (13, none, .iaload, 1, [], 0, 0), (14, none, .goto 4, 3, [18], 0, 0), (17, none, .iconst (-1), 1, [], (-1), 0), (18, none, .ireturn, 1, [], 0, 0)]
def k_X11_isLetterByte : List EN := [(0, none, .iload_n 0, 1, [], 0, 0), (1, none, .bipush 97, 2, [], 97, 0), (3, none, .if_icmp .lt 9, 3, [12], 0, 0), (6, none, .iload_n 0, 1, [], 0, 0), (7, none, .bipush 122, 2, [], 122, 0), (9, none, .if_icmp .le 15, 3, [24], 0, 0), (12, none, .iload_n 0, 1, [], 0, 0), (13, none, .bipush 65, 2, [], 65, 0), (15, none, .if_icmp .lt 13, 3, [28], 0, 0), (18, none, .iload_n 0, 1, [], 0, 0), (19, none, .bipush 90, 2, [], 90, 0), (21, none, .if_icmp .gt 7, 3, [28], 0, 0), (24, none, .iconst 1, 1, [], 1, 0), (25, none, .goto 4, 3, [29], 0, 0), (28, none, .iconst 0, 1, [], 0, 0), (29, none, .ireturn, 1, [], 0, 0)]
def k_X11_isFigure : List EN := [(0, none, .iload_n 0, 1, [], 0, 0), (1, none, .bipush 48, 2, [], 48, 0), (3, none, .if_icmp .lt 13, 3, [16], 0, 0), (6, none, .iload_n 0, 1, [], 0, 0), (7, none, .bipush 57, 2, [], 57, 0), (9, none, .if_icmp .gt 7, 3, [16], 0, 0), (12, none, .iconst 1, 1, [], 1, 0), (13, none, .goto 4, 3, [17], 0, 0), (16, none, .iconst 0, 1, [], 0, 0), (17, none, .ireturn, 1, [], 0, 0)]
def k_X11_isSign : List EN := [(0, none, .iload_n 0, 1, [], 0, 0), (1, none, .tableswitch 129 35 62 #[127, 129, 129, 129, 129, 127, 127, 127, 127, 129, 127, 129, 127, 129, 129, 129, 129, 129, 129, 129, 129, 129, 129, 127, 127, 127, 127, 127], 127, [130, 35, 128, 130, 130, 130, 130, 128, 128, 128, 128, 130, 128, 130, 128, 130, 130, 130, 130, 130, 130, 130, 130, 130, 130, 128, 128, 128, 128, 128], 0, 0), (128, none, .iconst 1, 1, [], 1, 0), (129, none, .ireturn, 1, [], 0, 0), (130, none, .iconst 0, 1, [], 0, 0), (131, none, .ireturn, 1, [], 0, 0)]
def k_X11_nextToken_0 : List EN := [(0, some [0], .aload_n 0, 1, [], 0, 0), (1, none, .aload_n 0, 1, [], 0, 0), (2, none, .getfield 118, 3, [11, 7, 0], 0, 0), (5, none, .invokevirtual 121, 3, [1, 179, 1, 1, 11], 0, 0), (8, some [0], .bipush 32, 2, [], 32, 0), (10, none, .if_icmp .eq 16, 3, [26], 0, 0), (13, none, .aload_n 0, 1, [], 0, 0), (14, none, .aload_n 0, 1, [], 0, 0), (15, none, .getfield 118, 3, [11, 7, 0], 0, 0), (18, none, .invokevirtual 121, 3, [1, 179, 1, 1, 11], 0, 0), (21, some [0], .bipush 10, 2, [], 10, 0), (23, none, .if_icmp .ne 16, 3, [39], 0, 0), (26, none, .aload_n 0, 1, [], 0, 0), (27, none, .dup, 1, [], 0, 0), (28, none, .getfield 118, 3, [11, 7, 0], 0, 0), (31, none, .iconst 1, 1, [], 1, 0), (32, none, .iadd, 1, [], 0, 0), (33, none, .putfield 118, 3, [11, 7, 0], 0, 0), (36, none, .goto (-36), 3, [0], 0, 0), (39, none, .aload_n 0, 1, [], 0, 0), (40, none, .aload_n 0, 1, [], 0, 0), (41, none, .getfield 118, 3, [11, 7, 0], 0, 0), (44, none, .putfield 125, 3, [11, 8, 0], 0, 0), (47, none, .aload_n 0, 1, [], 0, 0), (48, none, .aload_n 0, 1, [], 0, 0), (49, none, .getfield 118, 3, [11, 7, 0], 0, 0), (52, none, .invokevirtual 121, 3, [1, 179, 1, 1, 11], 0, 0), (55, some [0], .istore_n 1, 1, [], 0, 0), (56, none, .iload_n 1, 1, [], 0, 0), (57, none, .ifCond .ge 11, 3, [68], 0, 0), (60, none, .aload_n 0, 1, [], 0, 0), (61, none, .iconst 0, 1, [], 0, 0), (62, none, .putfield 128, 3, [11, 9, 0], 0, 0), (65, none, .goto 245, 3, [310], 0, 0), (68, none, .iload_n 1, 1, [], 0, 0), (69, none, .invokestatic 131, 3, [0, 181, 1, 1], 0, 0), (72, some [0, 1], .ifCond .eq 79, 3, [151], 0, 0), (75, none, .aload_n 0, 1, [], 0, 0), (76, none, .iconst 1, 1, [], 1, 0), (77, none, .putfield 128, 3, [11, 9, 0], 0, 0), (80, none, .aload_n 0, 1, [], 0, 0), (81, none, .iconst 0, 1, [], 0, 0), (82, none, .putfield 134, 3, [11, 10, 0], 0, 0), (85, some [0], .aload_n 0, 1, [], 0, 0), (86, none, .aload_n 0, 1, [], 0, 0), (87, none, .getfield 118, 3, [11, 7, 0], 0, 0), (90, none, .invokevirtual 121, 3, [1, 179, 1, 1, 11], 0, 0), (93, none, .invokestatic 131, 3, [0, 181, 1, 1], 0, 0), (96, some [0], .ifCond .eq 214, 3, [310], 0, 0), (99, none, .aload_n 0, 1, [], 0, 0), (100, none, .aload_n 0, 1, [], 0, 0), (101, none, .getfield 134, 3, [11, 10, 0], 0, 0), (104, none, .ldc 137, 2, [], 99999, 0), (106, none, .if_icmp .le 10, 3, [116], 0, 0), (109, none, .aload_n 0, 1, [], 0, 0), (110, none, .getfield 134, 3, [11, 10, 0], 0, 0), (113, none, .goto 22, 3, [135], 0, 0), (116, none, .bipush 10, 2, [], 10, 0), (118, none, .aload_n 0, 1, [], 0, 0), (119, none, .getfield 134, 3, [11, 10, 0], 0, 0), (122, none, .imul, 1, [], 0, 0), (123, none, .aload_n 0, 1, [], 0, 0), (124, none, .aload_n 0, 1, [], 0, 0), (125, none, .getfield 118, 3, [11, 7, 0], 0, 0), (128, none, .invokevirtual 121, 3, [1, 179, 1, 1, 11], 0, 0), (131, some [0], .iadd, 1, [], 0, 0), (132, none, .bipush 48, 2, [], 48, 0), (134, none, .isub, 1, [], 0, 0), (135, none, .putfield 134, 3, [11, 10, 0], 0, 0), (138, none, .aload_n 0, 1, [], 0, 0), (139, none, .dup, 1, [], 0, 0), (140, none, .getfield 118, 3, [11, 7, 0], 0, 0), (143, none, .iconst 1, 1, [], 1, 0), (144, none, .iadd, 1, [], 0, 0), (145, none, .putfield 118, 3, [11, 7, 0], 0, 0), (148, none, .goto (-63), 3, [85], 0, 0), (151, none, .iload_n 1, 1, [], 0, 0), (152, none, .invokestatic 138, 3, [0, 180, 1, 1], 0, 0), (155, some [0, 1], .ifCond .eq 79, 3, [234], 0, 0), (158, none, .aload_n 0, 1, [], 0, 0), (159, none, .iconst 2, 1, [], 2, 0), (160, none, .putfield 128, 3, [11, 9, 0], 0, 0), (163, none, .aload_n 0, 1, [], 0, 0), (164, none, .lconst 0, 1, [], 0, 0), (165, none, .putfield 141, 3, [11, 11, 1], 0, 0), (168, some [0], .aload_n 0, 1, [], 0, 0), (169, none, .aload_n 0, 1, [], 0, 0), (170, none, .getfield 118, 3, [11, 7, 0], 0, 0), (173, none, .invokevirtual 121, 3, [1, 179, 1, 1, 11], 0, 0), (176, none, .invokestatic 138, 3, [0, 180, 1, 1], 0, 0), (179, some [0], .ifCond .eq 131, 3, [310], 0, 0), (182, none, .aload_n 0, 1, [], 0, 0), (183, none, .aload_n 0, 1, [], 0, 0), (184, none, .getfield 141, 3, [11, 11, 1], 0, 0), (187, none, .bipush 48, 2, [], 48, 0), (189, none, .lshr, 1, [], 0, 0), (190, none, .lconst 0, 1, [], 0, 0), (191, none, .lcmp, 1, [], 0, 0), (192, none, .ifCond .eq 9, 3, [201], 0, 0), (195, none, .ldc2_w 145, 3, [], 0, 1152921504606846976)]
def k_X11_nextToken_1 : List EN := [(198, none, .goto 20, 3, [218], 0, 0), (201, none, .aload_n 0, 1, [], 0, 0), (202, none, .getfield 141, 3, [11, 11, 1], 0, 0), (205, none, .bipush 8, 2, [], 8, 0), (207, none, .lshl, 1, [], 0, 0), (208, none, .aload_n 0, 1, [], 0, 0), (209, none, .aload_n 0, 1, [], 0, 0), (210, none, .getfield 118, 3, [11, 7, 0], 0, 0), (213, none, .invokevirtual 121, 3, [1, 179, 1, 1, 11], 0, 0), (216, some [0], .i2l, 1, [], 0, 0), (217, none, .lor, 1, [], 0, 0), (218, none, .putfield 141, 3, [11, 11, 1], 0, 0), (221, none, .aload_n 0, 1, [], 0, 0), (222, none, .dup, 1, [], 0, 0), (223, none, .getfield 118, 3, [11, 7, 0], 0, 0), (226, none, .iconst 1, 1, [], 1, 0), (227, none, .iadd, 1, [], 0, 0), (228, none, .putfield 118, 3, [11, 7, 0], 0, 0), (231, none, .goto (-63), 3, [168], 0, 0), (234, none, .aload_n 0, 1, [], 0, 0), (235, none, .iload_n 1, 1, [], 0, 0), (236, none, .invokestatic 147, 3, [0, 182, 1, 1], 0, 0), (239, some [0, 1], .ifCond .eq 7, 3, [246], 0, 0), (242, none, .iload_n 1, 1, [], 0, 0), (243, none, .goto 4, 3, [247], 0, 0), (246, none, .iconst 3, 1, [], 3, 0), (247, some [0, 1], .putfield 128, 3, [11, 9, 0], 0, 0), (250, none, .aload_n 0, 1, [], 0, 0), (251, none, .dup, 1, [], 0, 0), (252, none, .getfield 118, 3, [11, 7, 0], 0, 0), (255, none, .iconst 1, 1, [], 1, 0), (256, none, .iadd, 1, [], 0, 0), (257, none, .putfield 118, 3, [11, 7, 0], 0, 0), (260, none, .iload_n 1, 1, [], 0, 0), (261, none, .bipush 60, 2, [], 60, 0), (263, none, .if_icmp .eq 9, 3, [272], 0, 0), (266, none, .iload_n 1, 1, [], 0, 0), (267, none, .bipush 62, 2, [], 62, 0), (269, none, .if_icmp .ne 41, 3, [310], 0, 0), (272, none, .aload_n 0, 1, [], 0, 0), (273, none, .aload_n 0, 1, [], 0, 0), (274, none, .getfield 118, 3, [11, 7, 0], 0, 0), (277, none, .invokevirtual 121, 3, [1, 179, 1, 1, 11], 0, 0), (280, some [0, 1], .bipush 61, 2, [], 61, 0), (282, none, .if_icmp .ne 28, 3, [310], 0, 0), (285, none, .aload_n 0, 1, [], 0, 0), (286, none, .iload_n 1, 1, [], 0, 0), (287, none, .bipush 60, 2, [], 60, 0), (289, none, .if_icmp .ne 7, 3, [296], 0, 0), (292, none, .iconst 4, 1, [], 4, 0), (293, none, .goto 4, 3, [297], 0, 0), (296, none, .iconst 5, 1, [], 5, 0), (297, none, .putfield 128, 3, [11, 9, 0], 0, 0), (300, none, .aload_n 0, 1, [], 0, 0), (301, none, .dup, 1, [], 0, 0), (302, none, .getfield 118, 3, [11, 7, 0], 0, 0), (305, none, .iconst 1, 1, [], 1, 0), (306, none, .iadd, 1, [], 0, 0), (307, none, .putfield 118, 3, [11, 7, 0], 0, 0), (310, none, .return_, 1, [], 0, 0)]
def k_X11_nextToken : List EN := k_X11_nextToken_0 ++ (k_X11_nextToken_1)
def k_X11_w2 : List EN := [(0, none, .iload_n 0, 1, [], 0, 0), (1, none, .i2l, 1, [], 0, 0), (2, none, .bipush 8, 2, [], 8, 0), (4, none, .lshl, 1, [], 0, 0), (5, none, .iload_n 1, 1, [], 0, 0), (6, none, .i2l, 1, [], 0, 0), (7, none, .lor, 1, [], 0, 0), (8, none, .lreturn, 1, [], 0, 0)]
def k_X11_w3 : List EN := [(0, none, .iload_n 0, 1, [], 0, 0), (1, none, .iload_n 1, 1, [], 0, 0), (2, none, .invokestatic 150, 3, [0, 184, 2, 2], 0, 0), (5, none, .bipush 8, 2, [], 8, 0), (7, none, .lshl, 1, [], 0, 0), (8, none, .iload_n 2, 1, [], 0, 0), (9, none, .i2l, 1, [], 0, 0), (10, none, .lor, 1, [], 0, 0), (11, none, .lreturn, 1, [], 0, 0)]
def k_X11_w4 : List EN := [(0, none, .iload_n 0, 1, [], 0, 0), (1, none, .iload_n 1, 1, [], 0, 0), (2, none, .iload_n 2, 1, [], 0, 0), (3, none, .invokestatic 154, 3, [0, 185, 3, 2], 0, 0), (6, none, .bipush 8, 2, [], 8, 0), (8, none, .lshl, 1, [], 0, 0), (9, none, .iload_n 3, 1, [], 0, 0), (10, none, .i2l, 1, [], 0, 0), (11, none, .lor, 1, [], 0, 0), (12, none, .lreturn, 1, [], 0, 0)]
def k_X11_w5 : List EN := [(0, none, .iload_n 0, 1, [], 0, 0), (1, none, .iload_n 1, 1, [], 0, 0), (2, none, .iload_n 2, 1, [], 0, 0), (3, none, .iload_n 3, 1, [], 0, 0), (4, none, .invokestatic 158, 3, [0, 186, 4, 2], 0, 0), (7, none, .bipush 8, 2, [], 8, 0), (9, none, .lshl, 1, [], 0, 0), (10, none, .iload 4, 2, [], 0, 0), (12, none, .i2l, 1, [], 0, 0), (13, none, .lor, 1, [], 0, 0), (14, none, .lreturn, 1, [], 0, 0)]
def k_X11_w6 : List EN := [(0, none, .iload_n 0, 1, [], 0, 0), (1, none, .iload_n 1, 1, [], 0, 0), (2, none, .iload_n 2, 1, [], 0, 0), (3, none, .iload_n 3, 1, [], 0, 0), (4, none, .iload 4, 2, [], 0, 0), (6, none, .invokestatic 162, 3, [0, 187, 5, 2], 0, 0), (9, none, .bipush 8, 2, [], 8, 0), (11, none, .lshl, 1, [], 0, 0), (12, none, .iload 5, 2, [], 0, 0), (14, none, .i2l, 1, [], 0, 0), (15, none, .lor, 1, [], 0, 0), (16, none, .lreturn, 1, [], 0, 0)]
def k_X11_isWord : List EN := [(0, none, .aload_n 0, 1, [], 0, 0), (1, none, .getfield 128, 3, [11, 9, 0], 0, 0), (4, none, .iconst 2, 1, [], 2, 0), (5, none, .if_icmp .ne 16, 3, [21], 0, 0), (8, none, .aload_n 0, 1, [], 0, 0), (9, none, .getfield 141, 3, [11, 11, 1], 0, 0), (12, none, .lload_n 1, 1, [], 0, 0), (13, none, .lcmp, 1, [], 0, 0), (14, none, .ifCond .ne 7, 3, [21], 0, 0), (17, none, .iconst 1, 1, [], 1, 0), (18, none, .goto 4, 3, [22], 0, 0), (21, none, .iconst 0, 1, [], 0, 0), (22, none, .ireturn, 1, [], 0, 0)]
def k_X11_emit : List EN := [(0, none, .aload_n 0, 1, [], 0, 0), (1, none, .getfield 16, 3, [11, 2, 2], 0, 0), (4, none, .aload_n 0, 1, [], 0, 0), (5, none, .getfield 166, 3, [11, 12, 0], 0, 0), (8, none, .bipush 73, 2, [], 73, 0), (10, none, .iadd, 1, [], 0, 0), (11, none, .iconst 2, 1, [], 2, 0), (12, none, .aload_n 0, 1, [], 0, 0), (13, none, .getfield 169, 3, [11, 13, 0], 0, 0), (16, none, .imul, 1, [], 0, 0), (17, none, .iadd, 1, [], 0, 0), (18, none, .iload_n 1, 1, [], 0, 0), (19, none, .iastore, 1, [], 0, 0), (20, none, .aload_n 0, 1, [], 0, 0), (21, none, .getfield 16, 3, [11, 2, 2], 0, 0), (24, none, .aload_n 0, 1, [], 0, 0), (25, none, .getfield 166, 3, [11, 12, 0], 0, 0), (28, none, .bipush 73, 2, [], 73, 0), (30, none, .iadd, 1, [], 0, 0), (31, none, .iconst 2, 1, [], 2, 0), (32, none, .aload_n 0, 1, [], 0, 0), (33, none, .getfield 169, 3, [11, 13, 0], 0, 0), (36, none, .imul, 1, [], 0, 0), (37, none, .iadd, 1, [], 0, 0), (38, none, .iconst 1, 1, [], 1, 0), (39, none, .iadd, 1, [], 0, 0), (40, none, .iload_n 2, 1, [], 0, 0), (41, none, .iastore, 1, [], 0, 0), (42, none, .aload_n 0, 1, [], 0, 0), (43, none, .dup, 1, [], 0, 0), (44, none, .getfield 169, 3, [11, 13, 0], 0, 0), (47, none, .iconst 1, 1, [], 1, 0), (48, none, .iadd, 1, [], 0, 0), (49, none, .putfield 169, 3, [11, 13, 0], 0, 0), (52, none, .return_, 1, [], 0, 0)]
def k_X11_nameOf : List EN := [(0, none, .aload_n 0, 1, [], 0, 0), (1, none, .getfield 128, 3, [11, 9, 0], 0, 0), (4, none, .iconst 2, 1, [], 2, 0), (5, none, .if_icmp .eq 5, 3, [10], 0, 0), (8, none, .iconst (-1), 1, [], (-1), 0), (9, none, .ireturn, 1, [], 0, 0), (10, none, .aload_n 0, 1, [], 0, 0), (11, none, .getfield 141, 3, [11, 11, 1], 0, 0), (14, none, .bipush 121, 2, [], 121, 0), (16, none, .bipush 101, 2, [], 101, 0), (18, none, .bipush 97, 2, [], 97, 0), (20, none, .bipush 114, 2, [], 114, 0), (22, none, .invokestatic 158, 3, [0, 186, 4, 2], 0, 0), (25, some [0], .lcmp, 1, [], 0, 0), (26, none, .ifCond .ne 5, 3, [31], 0, 0), (29, none, .iconst 0, 1, [], 0, 0), (30, none, .ireturn, 1, [], 0, 0), (31, none, .aload_n 0, 1, [], 0, 0), (32, none, .getfield 141, 3, [11, 11, 1], 0, 0), (35, none, .bipush 119, 2, [], 119, 0), (37, none, .bipush 105, 2, [], 105, 0), (39, none, .bipush 110, 2, [], 110, 0), (41, none, .bipush 100, 2, [], 100, 0), (43, none, .invokestatic 158, 3, [0, 186, 4, 2], 0, 0), (46, some [0], .lcmp, 1, [], 0, 0), (47, none, .ifCond .ne 5, 3, [52], 0, 0), (50, none, .iconst 1, 1, [], 1, 0), (51, none, .ireturn, 1, [], 0, 0), (52, none, .aload_n 0, 1, [], 0, 0), (53, none, .getfield 141, 3, [11, 11, 1], 0, 0), (56, none, .bipush 119, 2, [], 119, 0), (58, none, .bipush 101, 2, [], 101, 0), (60, none, .bipush 105, 2, [], 105, 0), (62, none, .bipush 103, 2, [], 103, 0), (64, none, .bipush 104, 2, [], 104, 0), (66, none, .bipush 116, 2, [], 116, 0), (68, none, .invokestatic 172, 3, [0, 188, 6, 2], 0, 0), (71, some [0], .lcmp, 1, [], 0, 0), (72, none, .ifCond .ne 5, 3, [77], 0, 0), (75, none, .iconst 2, 1, [], 2, 0), (76, none, .ireturn, 1, [], 0, 0), (77, none, .aload_n 0, 1, [], 0, 0), (78, none, .getfield 141, 3, [11, 11, 1], 0, 0), (81, none, .bipush 119, 2, [], 119, 0), (83, none, .bipush 104, 2, [], 104, 0), (85, none, .bipush 111, 2, [], 111, 0), (87, none, .invokestatic 154, 3, [0, 185, 3, 2], 0, 0), (90, some [0], .lcmp, 1, [], 0, 0), (91, none, .ifCond .ne 5, 3, [96], 0, 0), (94, none, .iconst 3, 1, [], 3, 0), (95, none, .ireturn, 1, [], 0, 0), (96, none, .aload_n 0, 1, [], 0, 0), (97, none, .getfield 141, 3, [11, 11, 1], 0, 0), (100, none, .bipush 115, 2, [], 115, 0), (102, none, .bipush 108, 2, [], 108, 0), (104, none, .bipush 97, 2, [], 97, 0), (106, none, .bipush 110, 2, [], 110, 0), (108, none, .bipush 116, 2, [], 116, 0), (110, none, .invokestatic 162, 3, [0, 187, 5, 2], 0, 0), (113, some [0], .lcmp, 1, [], 0, 0), (114, none, .ifCond .ne 5, 3, [119], 0, 0), (117, none, .iconst 4, 1, [], 4, 0), (118, none, .ireturn, 1, [], 0, 0), (119, none, .aload_n 0, 1, [], 0, 0), (120, none, .getfield 141, 3, [11, 11, 1], 0, 0), (123, none, .bipush 108, 2, [], 108, 0), (125, none, .bipush 101, 2, [], 101, 0), (127, none, .bipush 102, 2, [], 102, 0), (129, none, .bipush 116, 2, [], 116, 0), (131, none, .invokestatic 158, 3, [0, 186, 4, 2], 0, 0), (134, some [0], .lcmp, 1, [], 0, 0), (135, none, .ifCond .ne 5, 3, [140], 0, 0), (138, none, .iconst 5, 1, [], 5, 0), (139, none, .ireturn, 1, [], 0, 0), (140, none, .aload_n 0, 1, [], 0, 0), (141, none, .getfield 141, 3, [11, 11, 1], 0, 0), (144, none, .bipush 114, 2, [], 114, 0), (146, none, .bipush 105, 2, [], 105, 0), (148, none, .bipush 103, 2, [], 103, 0), (150, none, .bipush 104, 2, [], 104, 0), (152, none, .bipush 116, 2, [], 116, 0), (154, none, .invokestatic 162, 3, [0, 187, 5, 2], 0, 0), (157, some [0], .lcmp, 1, [], 0, 0), (158, none, .ifCond .ne 6, 3, [164], 0, 0), (161, none, .bipush 6, 2, [], 6, 0), (163, none, .ireturn, 1, [], 0, 0), (164, none, .aload_n 0, 1, [], 0, 0), (165, none, .getfield 141, 3, [11, 11, 1], 0, 0), (168, none, .bipush 119, 2, [], 119, 0), (170, none, .bipush 111, 2, [], 111, 0), (172, none, .bipush 114, 2, [], 114, 0), (174, none, .bipush 100, 2, [], 100, 0), (176, none, .invokestatic 158, 3, [0, 186, 4, 2], 0, 0), (179, some [0], .lcmp, 1, [], 0, 0), (180, none, .ifCond .ne 8, 3, [188], 0, 0), (183, none, .bipush 7, 2, [], 7, 0), (185, none, .goto 28, 3, [213], 0, 0), (188, none, .aload_n 0, 1, [], 0, 0), (189, none, .getfield 141, 3, [11, 11, 1], 0, 0), (192, none, .bipush 102, 2, [], 102, 0), (194, none, .bipush 114, 2, [], 114, 0), (196, none, .bipush 111, 2, [], 111, 0), (198, none, .bipush 109, 2, [], 109, 0), (200, none, .invokestatic 158, 3, [0, 186, 4, 2], 0, 0), (203, none, .lcmp, 1, [], 0, 0), (204, none, .ifCond .ne 8, 3, [212], 0, 0), (207, none, .bipush 8, 2, [], 8, 0), (209, none, .goto 4, 3, [213], 0, 0), (212, none, .iconst (-1), 1, [], (-1), 0), (213, none, .ireturn, 1, [], 0, 0)]
def k_X11_isOf : List EN := [(0, none, .iload_n 1, 1, [], 0, 0), (1, none, .iconst 5, 1, [], 5, 0), (2, none, .if_icmp .lt 27, 3, [29], 0, 0), (5, none, .iload_n 1, 1, [], 0, 0), (6, none, .bipush 7, 2, [], 7, 0), (8, none, .if_icmp .ge 13, 3, [21], 0, 0), (11, none, .aload_n 0, 1, [], 0, 0), (12, none, .getfield 176, 3, [11, 14, 0], 0, 0), (15, none, .ifCond .ne 18, 3, [33], 0, 0), (18, none, .goto 11, 3, [29], 0, 0), (21, none, .aload_n 0, 1, [], 0, 0), (22, none, .getfield 176, 3, [11, 14, 0], 0, 0), (25, none, .iconst 1, 1, [], 1, 0), (26, none, .if_icmp .ne 7, 3, [33], 0, 0), (29, none, .iconst 1, 1, [], 1, 0), (30, none, .goto 4, 3, [34], 0, 0), (33, none, .iconst 0, 1, [], 0, 0), (34, none, .ireturn, 1, [], 0, 0)]
def k_X11_rank : List EN := [(0, none, .iload_n 0, 1, [], 0, 0), (1, none, .bipush 40, 2, [], 40, 0), (3, none, .if_icmp .lt 7, 3, [10], 0, 0), (6, none, .iconst 0, 1, [], 0, 0), (7, none, .goto 75, 3, [82], 0, 0), (10, none, .iload_n 0, 1, [], 0, 0), (11, none, .bipush 22, 2, [], 22, 0), (13, none, .if_icmp .ne 7, 3, [20], 0, 0), (16, none, .iconst 1, 1, [], 1, 0), (17, none, .goto 65, 3, [82], 0, 0), (20, none, .iload_n 0, 1, [], 0, 0), (21, none, .bipush 21, 2, [], 21, 0), (23, none, .if_icmp .ne 7, 3, [30], 0, 0), (26, none, .iconst 2, 1, [], 2, 0), (27, none, .goto 55, 3, [82], 0, 0), (30, none, .iload_n 0, 1, [], 0, 0), (31, none, .bipush 20, 2, [], 20, 0), (33, none, .if_icmp .ne 7, 3, [40], 0, 0), (36, none, .iconst 3, 1, [], 3, 0), (37, none, .goto 45, 3, [82], 0, 0), (40, none, .iload_n 0, 1, [], 0, 0), (41, none, .bipush 10, 2, [], 10, 0), (43, none, .if_icmp .lt 7, 3, [50], 0, 0), (46, none, .iconst 4, 1, [], 4, 0), (47, none, .goto 35, 3, [82], 0, 0), (50, none, .iload_n 0, 1, [], 0, 0), (51, none, .iconst 5, 1, [], 5, 0), (52, none, .if_icmp .eq 13, 3, [65], 0, 0), (55, none, .iload_n 0, 1, [], 0, 0), (56, none, .iconst 2, 1, [], 2, 0), (57, none, .if_icmp .eq 8, 3, [65], 0, 0), (60, none, .iload_n 0, 1, [], 0, 0), (61, none, .iconst 4, 1, [], 4, 0), (62, none, .if_icmp .ne 8, 3, [70], 0, 0), (65, none, .bipush 7, 2, [], 7, 0), (67, none, .goto 15, 3, [82], 0, 0), (70, none, .iload_n 0, 1, [], 0, 0), (71, none, .bipush 8, 2, [], 8, 0), (73, none, .if_icmp .lt 8, 3, [81], 0, 0), (76, none, .bipush 6, 2, [], 6, 0), (78, none, .goto 4, 3, [82], 0, 0), (81, none, .iconst 5, 1, [], 5, 0), (82, none, .ireturn, 1, [], 0, 0)]
def k_X11_settle : List EN := [(0, some [0, 1], .aload_n 0, 1, [], 0, 0), (1, none, .getfield 179, 3, [11, 16, 0], 0, 0), (4, none, .ifCond .le 89, 3, [93], 0, 0), (7, none, .aload_n 0, 1, [], 0, 0), (8, none, .getfield 29, 3, [11, 15, 2], 0, 0), (11, none, .aload_n 0, 1, [], 0, 0), (12, none, .getfield 179, 3, [11, 16, 0], 0, 0), (15, none, .iconst 1, 1, [], 1, 0), (16, none, .isub, 1, [], 0, 0), (17, none, .iaload, 1, [], 0, 0), (18, none, .invokestatic 182, 3, [0, 193, 1, 1], 0, 0), (21, some [0, 1], .iload_n 1, 1, [], 0, 0), (22, none, .if_icmp .lt 71, 3, [93], 0, 0), (25, none, .aload_n 0, 1, [], 0, 0), (26, none, .dup, 1, [], 0, 0), (27, none, .getfield 179, 3, [11, 16, 0], 0, 0), (30, none, .iconst 1, 1, [], 1, 0), (31, none, .isub, 1, [], 0, 0), (32, none, .putfield 179, 3, [11, 16, 0], 0, 0), (35, none, .aload_n 0, 1, [], 0, 0), (36, none, .aload_n 0, 1, [], 0, 0), (37, none, .getfield 29, 3, [11, 15, 2], 0, 0), (40, none, .aload_n 0, 1, [], 0, 0), (41, none, .getfield 179, 3, [11, 16, 0], 0, 0), (44, none, .iaload, 1, [], 0, 0), (45, none, .iconst 0, 1, [], 0, 0), (46, none, .invokevirtual 185, 3, [1, 190, 2, 0, 11], 0, 0), (49, some [0, 1], .aload_n 0, 1, [], 0, 0), (50, none, .getfield 29, 3, [11, 15, 2], 0, 0), (53, none, .aload_n 0, 1, [], 0, 0), (54, none, .getfield 179, 3, [11, 16, 0], 0, 0), (57, none, .iaload, 1, [], 0, 0), (58, none, .invokestatic 182, 3, [0, 193, 1, 1], 0, 0), (61, some [0, 1], .bipush 7, 2, [], 7, 0), (63, none, .if_icmp .eq 17, 3, [80], 0, 0), (66, none, .aload_n 0, 1, [], 0, 0), (67, none, .getfield 29, 3, [11, 15, 2], 0, 0), (70, none, .aload_n 0, 1, [], 0, 0), (71, none, .getfield 179, 3, [11, 16, 0], 0, 0), (74, none, .iaload, 1, [], 0, 0), (75, none, .bipush 20, 2, [], 20, 0), (77, none, .if_icmp .ne (-77), 3, [0], 0, 0), (80, none, .aload_n 0, 1, [], 0, 0), (81, none, .dup, 1, [], 0, 0), (82, none, .getfield 189, 3, [11, 17, 0], 0, 0), (85, none, .iconst 1, 1, [], 1, 0), (86, none, .isub, 1, [], 0, 0), (87, none, .putfield 189, 3, [11, 17, 0], 0, 0), (90, none, .goto (-90), 3, [0], 0, 0), (93, none, .return_, 1, [], 0, 0)]
def k_X11_openAt : List EN := [(0, none, .aload_n 0, 1, [], 0, 0), (1, none, .getfield 179, 3, [11, 16, 0], 0, 0), (4, none, .iconst 1, 1, [], 1, 0), (5, none, .isub, 1, [], 0, 0), (6, none, .istore_n 1, 1, [], 0, 0), (7, some [0, 1], .iload_n 1, 1, [], 0, 0), (8, none, .ifCond .lt 20, 3, [28], 0, 0), (11, none, .aload_n 0, 1, [], 0, 0), (12, none, .getfield 29, 3, [11, 15, 2], 0, 0), (15, none, .iload_n 1, 1, [], 0, 0), (16, none, .iaload, 1, [], 0, 0), (17, none, .bipush 40, 2, [], 40, 0), (19, none, .if_icmp .ge 9, 3, [28], 0, 0), (22, none, .iinc 1 (-1), 3, [], (-1), 0), (25, none, .goto (-18), 3, [7], 0, 0), (28, none, .iload_n 1, 1, [], 0, 0), (29, none, .ireturn, 1, [], 0, 0)]
def k_X11_openNow : List EN := [(0, none, .aload_n 0, 1, [], 0, 0), (1, none, .invokevirtual 192, 3, [1, 195, 0, 1, 11], 0, 0), (4, some [0], .ifCond .ge 7, 3, [11], 0, 0), (7, none, .iconst (-1), 1, [], (-1), 0), (8, none, .goto 12, 3, [20], 0, 0), (11, none, .aload_n 0, 1, [], 0, 0), (12, none, .getfield 29, 3, [11, 15, 2], 0, 0), (15, none, .aload_n 0, 1, [], 0, 0), (16, none, .invokevirtual 192, 3, [1, 195, 0, 1, 11], 0, 0), (19, some [], .iaload, 1, [], 0, 0), (20, none, .ireturn, 1, [], 0, 0)]
def k_X11_isCompared : List EN := [(0, none, .aload_n 0, 1, [], 0, 0), (1, none, .getfield 179, 3, [11, 16, 0], 0, 0), (4, none, .iconst 1, 1, [], 1, 0), (5, none, .isub, 1, [], 0, 0), (6, none, .istore_n 1, 1, [], 0, 0), (7, some [0, 1], .iload_n 1, 1, [], 0, 0), (8, none, .ifCond .lt 22, 3, [30], 0, 0), (11, none, .aload_n 0, 1, [], 0, 0), (12, none, .getfield 29, 3, [11, 15, 2], 0, 0), (15, none, .iload_n 1, 1, [], 0, 0), (16, none, .iaload, 1, [], 0, 0), (17, none, .invokestatic 182, 3, [0, 193, 1, 1], 0, 0), (20, some [0, 1], .iconst 4, 1, [], 4, 0), (21, none, .if_icmp .le 9, 3, [30], 0, 0), (24, none, .iinc 1 (-1), 3, [], (-1), 0), (27, none, .goto (-20), 3, [7], 0, 0), (30, some [0, 1], .iload_n 1, 1, [], 0, 0), (31, none, .ifCond .lt 20, 3, [51], 0, 0), (34, none, .aload_n 0, 1, [], 0, 0), (35, none, .getfield 29, 3, [11, 15, 2], 0, 0), (38, none, .iload_n 1, 1, [], 0, 0), (39, none, .iaload, 1, [], 0, 0), (40, none, .invokestatic 182, 3, [0, 193, 1, 1], 0, 0), (43, none, .iconst 4, 1, [], 4, 0), (44, none, .if_icmp .ne 7, 3, [51], 0, 0), (47, none, .iconst 1, 1, [], 1, 0), (48, none, .goto 4, 3, [52], 0, 0), (51, none, .iconst 0, 1, [], 0, 0), (52, none, .ireturn, 1, [], 0, 0)]
def k_X11_isAskAhead : List EN := [(0, none, .aload_n 0, 1, [], 0, 0), (1, none, .invokevirtual 196, 3, [1, 196, 0, 1, 11], 0, 0), (4, some [0], .bipush 42, 2, [], 42, 0), (6, none, .if_icmp .ne 45, 3, [51], 0, 0), (9, none, .aload_n 0, 1, [], 0, 0), (10, none, .getfield 29, 3, [11, 15, 2], 0, 0), (13, none, .aload_n 0, 1, [], 0, 0), (14, none, .getfield 179, 3, [11, 16, 0], 0, 0), (17, none, .iconst 1, 1, [], 1, 0), (18, none, .isub, 1, [], 0, 0), (19, none, .iaload, 1, [], 0, 0), (20, none, .bipush 40, 2, [], 40, 0), (22, none, .if_icmp .ge 25, 3, [47], 0, 0), (25, none, .aload_n 0, 1, [], 0, 0), (26, none, .getfield 29, 3, [11, 15, 2], 0, 0), (29, none, .aload_n 0, 1, [], 0, 0), (30, none, .getfield 179, 3, [11, 16, 0], 0, 0), (33, none, .iconst 1, 1, [], 1, 0), (34, none, .isub, 1, [], 0, 0), (35, none, .iaload, 1, [], 0, 0), (36, none, .invokestatic 182, 3, [0, 193, 1, 1], 0, 0), (39, none, .iconst 1, 1, [], 1, 0), (40, none, .iconst 3, 1, [], 3, 0), (41, none, .invokestatic 94, 3, [0, 162, 3, 1], 0, 0), (44, none, .ifCond .eq 7, 3, [51], 0, 0), (47, none, .iconst 1, 1, [], 1, 0), (48, none, .goto 4, 3, [52], 0, 0), (51, none, .iconst 0, 1, [], 0, 0), (52, none, .ireturn, 1, [], 0, 0)]
def k_X11_opened : List EN := [(0, none, .aload_n 0, 1, [], 0, 0), (1, none, .getfield 189, 3, [11, 17, 0], 0, 0), (4, none, .bipush 8, 2, [], 8, 0), (6, none, .if_icmp .ne 5, 3, [11], 0, 0), (9, none, .iconst 3, 1, [], 3, 0), (10, none, .ireturn, 1, [], 0, 0), (11, none, .aload_n 0, 1, [], 0, 0), (12, none, .dup, 1, [], 0, 0), (13, none, .getfield 189, 3, [11, 17, 0], 0, 0), (16, none, .iconst 1, 1, [], 1, 0), (17, none, .iadd, 1, [], 0, 0), (18, none, .putfield 189, 3, [11, 17, 0], 0, 0), (21, none, .aload_n 0, 1, [], 0, 0), (22, none, .getfield 29, 3, [11, 15, 2], 0, 0), (25, none, .aload_n 0, 1, [], 0, 0), (26, none, .getfield 179, 3, [11, 16, 0], 0, 0), (29, none, .iload_n 1, 1, [], 0, 0), (30, none, .iastore, 1, [], 0, 0), (31, none, .aload_n 0, 1, [], 0, 0), (32, none, .dup, 1, [], 0, 0), (33, none, .getfield 179, 3, [11, 16, 0], 0, 0), (36, none, .iconst 1, 1, [], 1, 0), (37, none, .iadd, 1, [], 0, 0), (38, none, .putfield 179, 3, [11, 16, 0], 0, 0), (41, none, .aload_n 0, 1, [], 0, 0), (42, none, .invokevirtual 199, 3, [1, 183, 0, 0, 11], 0, 0), (45, none, .iconst 0, 1, [], 0, 0), (46, none, .ireturn, 1, [], 0, 0)]
def k_X11_beginOne : List EN := [(0, none, .aload_n 0, 1, [], 0, 0), (1, none, .getfield 128, 3, [11, 9, 0], 0, 0), (4, none, .iconst 1, 1, [], 1, 0), (5, none, .if_icmp .ne 15, 3, [20], 0, 0), (8, none, .aload_n 0, 1, [], 0, 0), (9, none, .getfield 134, 3, [11, 10, 0], 0, 0), (12, none, .sipush 9999, 3, [], 9999, 0), (15, none, .if_icmp .le 5, 3, [20], 0, 0), (18, none, .iconst 2, 1, [], 2, 0), (19, none, .ireturn, 1, [], 0, 0), (20, none, .aload_n 0, 1, [], 0, 0), (21, none, .invokevirtual 202, 3, [1, 191, 0, 1, 11], 0, 0), (24, some [0], .istore_n 1, 1, [], 0, 0), (25, none, .iload_n 1, 1, [], 0, 0), (26, none, .ifCond .lt 13, 3, [39], 0, 0), (29, none, .aload_n 0, 1, [], 0, 0), (30, none, .iload_n 1, 1, [], 0, 0), (31, none, .invokevirtual 205, 3, [1, 192, 1, 1, 11], 0, 0), (34, some [0, 1], .ifCond .ne 5, 3, [39], 0, 0), (37, none, .iconst 5, 1, [], 5, 0), (38, none, .ireturn, 1, [], 0, 0), (39, some [0, 1], .aload_n 0, 1, [], 0, 0), (40, none, .getfield 128, 3, [11, 9, 0], 0, 0), (43, none, .iconst 1, 1, [], 1, 0), (44, none, .if_icmp .eq 7, 3, [51], 0, 0), (47, none, .iload_n 1, 1, [], 0, 0), (48, none, .ifCond .lt 45, 3, [93], 0, 0), (51, some [0, 1], .aload_n 0, 1, [], 0, 0), (52, none, .aload_n 0, 1, [], 0, 0), (53, none, .getfield 128, 3, [11, 9, 0], 0, 0), (56, none, .iconst 1, 1, [], 1, 0), (57, none, .if_icmp .ne 7, 3, [64], 0, 0), (60, none, .iconst 0, 1, [], 0, 0), (61, none, .goto 4, 3, [65], 0, 0), (64, none, .iconst 1, 1, [], 1, 0), (65, none, .aload_n 0, 1, [], 0, 0), (66, none, .getfield 128, 3, [11, 9, 0], 0, 0), (69, none, .iconst 1, 1, [], 1, 0), (70, none, .if_icmp .ne 10, 3, [80], 0, 0), (73, none, .aload_n 0, 1, [], 0, 0), (74, none, .getfield 134, 3, [11, 10, 0], 0, 0), (77, none, .goto 4, 3, [81], 0, 0), (80, none, .iload_n 1, 1, [], 0, 0), (81, none, .invokevirtual 185, 3, [1, 190, 2, 0, 11], 0, 0), (84, some [0], .aload_n 0, 1, [], 0, 0), (85, none, .invokevirtual 199, 3, [1, 183, 0, 0, 11], 0, 0), (88, some [0], .aload_n 0, 1, [], 0, 0), (89, none, .invokevirtual 208, 3, [1, 201, 0, 1, 11], 0, 0), (92, none, .ireturn, 1, [], 0, 0), (93, none, .aload_n 0, 1, [], 0, 0), (94, none, .getfield 128, 3, [11, 9, 0], 0, 0), (97, none, .bipush 40, 2, [], 40, 0), (99, none, .if_icmp .ne 10, 3, [109], 0, 0), (102, none, .aload_n 0, 1, [], 0, 0), (103, none, .bipush 40, 2, [], 40, 0), (105, none, .invokevirtual 211, 3, [1, 199, 1, 1, 11], 0, 0), (108, none, .ireturn, 1, [], 0, 0), (109, none, .aload_n 0, 1, [], 0, 0), (110, none, .getfield 128, 3, [11, 9, 0], 0, 0), (113, none, .bipush 45, 2, [], 45, 0), (115, none, .if_icmp .ne 9, 3, [124], 0, 0), (118, none, .aload_n 0, 1, [], 0, 0), (119, none, .iconst 5, 1, [], 5, 0), (120, none, .invokevirtual 211, 3, [1, 199, 1, 1, 11], 0, 0), (123, none, .ireturn, 1, [], 0, 0), (124, none, .aload_n 0, 1, [], 0, 0), (125, none, .bipush 115, 2, [], 115, 0), (127, none, .bipush 116, 2, [], 116, 0), (129, none, .bipush 101, 2, [], 101, 0), (131, none, .bipush 112, 2, [], 112, 0), (133, none, .invokestatic 158, 3, [0, 186, 4, 2], 0, 0), (136, some [0], .invokevirtual 214, 3, [1, 189, 1, 1, 11], 0, 0), (139, some [0], .ifCond .eq 10, 3, [149], 0, 0), (142, none, .aload_n 0, 1, [], 0, 0), (143, none, .bipush 41, 2, [], 41, 0), (145, none, .invokevirtual 211, 3, [1, 199, 1, 1, 11], 0, 0), (148, none, .ireturn, 1, [], 0, 0), (149, none, .aload_n 0, 1, [], 0, 0), (150, none, .bipush 115, 2, [], 115, 0), (152, none, .bipush 101, 2, [], 101, 0), (154, none, .bipush 97, 2, [], 97, 0), (156, none, .bipush 116, 2, [], 116, 0), (158, none, .invokestatic 158, 3, [0, 186, 4, 2], 0, 0), (161, some [0], .invokevirtual 214, 3, [1, 189, 1, 1, 11], 0, 0), (164, some [0], .ifCond .eq 9, 3, [173], 0, 0), (167, none, .aload_n 0, 1, [], 0, 0), (168, none, .iconst 2, 1, [], 2, 0), (169, none, .invokevirtual 211, 3, [1, 199, 1, 1, 11], 0, 0), (172, none, .ireturn, 1, [], 0, 0), (173, none, .aload_n 0, 1, [], 0, 0), (174, none, .bipush 105, 2, [], 105, 0), (176, none, .bipush 102, 2, [], 102, 0), (178, none, .invokestatic 150, 3, [0, 184, 2, 2], 0, 0), (181, some [0], .invokevirtual 214, 3, [1, 189, 1, 1, 11], 0, 0), (184, some [0], .ifCond .eq 10, 3, [194], 0, 0), (187, none, .aload_n 0, 1, [], 0, 0), (188, none, .bipush 42, 2, [], 42, 0), (190, none, .invokevirtual 211, 3, [1, 199, 1, 1, 11], 0, 0), (193, none, .ireturn, 1, [], 0, 0), (194, none, .aload_n 0, 1, [], 0, 0), (195, none, .bipush 110, 2, [], 110, 0), (197, none, .bipush 111, 2, [], 111, 0), (199, none, .bipush 116, 2, [], 116, 0), (201, none, .invokestatic 154, 3, [0, 185, 3, 2], 0, 0), (204, some [0], .invokevirtual 214, 3, [1, 189, 1, 1, 11], 0, 0), (207, some [0], .ifCond .eq 19, 3, [226], 0, 0), (210, none, .aload_n 0, 1, [], 0, 0), (211, none, .invokevirtual 218, 3, [1, 198, 0, 1, 11], 0, 0), (214, some [0], .ifCond .eq 12, 3, [226], 0, 0), (217, none, .aload_n 0, 1, [], 0, 0), (218, none, .bipush 20, 2, [], 20, 0), (220, none, .invokevirtual 211, 3, [1, 199, 1, 1, 11], 0, 0), (223, none, .goto 4, 3, [227], 0, 0), (226, none, .iconst 1, 1, [], 1, 0), (227, none, .ireturn, 1, [], 0, 0)]
def k_X11_endOne : List EN := [(0, none, .aload_n 0, 1, [], 0, 0), (1, none, .bipush 7, 2, [], 7, 0), (3, none, .invokevirtual 222, 3, [1, 194, 1, 0, 11], 0, 0), (6, some [0], .aload_n 0, 1, [], 0, 0), (7, none, .iconst 1, 1, [], 1, 0), (8, none, .putfield 225, 3, [11, 18, 3], 0, 0), (11, none, .aload_n 0, 1, [], 0, 0), (12, none, .getfield 179, 3, [11, 16, 0], 0, 0), (15, none, .ifCond .eq 19, 3, [34], 0, 0), (18, none, .aload_n 0, 1, [], 0, 0), (19, none, .getfield 29, 3, [11, 15, 2], 0, 0), (22, none, .aload_n 0, 1, [], 0, 0), (23, none, .getfield 179, 3, [11, 16, 0], 0, 0), (26, none, .iconst 1, 1, [], 1, 0), (27, none, .isub, 1, [], 0, 0), (28, none, .iaload, 1, [], 0, 0), (29, none, .bipush 41, 2, [], 41, 0), (31, none, .if_icmp .eq 5, 3, [36], 0, 0), (34, none, .iconst 0, 1, [], 0, 0), (35, none, .ireturn, 1, [], 0, 0), (36, none, .aload_n 0, 1, [], 0, 0), (37, none, .bipush 116, 2, [], 116, 0), (39, none, .bipush 111, 2, [], 111, 0), (41, none, .invokestatic 150, 3, [0, 184, 2, 2], 0, 0), (44, some [0], .invokevirtual 214, 3, [1, 189, 1, 1, 11], 0, 0), (47, some [0], .ifCond .ne 5, 3, [52], 0, 0), (50, none, .iconst 1, 1, [], 1, 0), (51, none, .ireturn, 1, [], 0, 0), (52, none, .aload_n 0, 1, [], 0, 0), (53, none, .invokevirtual 199, 3, [1, 183, 0, 0, 11], 0, 0), (56, some [0], .aload_n 0, 1, [], 0, 0), (57, none, .getfield 29, 3, [11, 15, 2], 0, 0), (60, none, .aload_n 0, 1, [], 0, 0), (61, none, .getfield 179, 3, [11, 16, 0], 0, 0), (64, none, .iconst 1, 1, [], 1, 0), (65, none, .isub, 1, [], 0, 0), (66, none, .iconst 4, 1, [], 4, 0), (67, none, .iastore, 1, [], 0, 0), (68, none, .aload_n 0, 1, [], 0, 0), (69, none, .iconst 0, 1, [], 0, 0), (70, none, .putfield 225, 3, [11, 18, 3], 0, 0), (73, none, .iconst 0, 1, [], 0, 0), (74, none, .ireturn, 1, [], 0, 0)]
def k_X11_compareOf : List EN := [(0, none, .aload_n 0, 1, [], 0, 0), (1, none, .getfield 128, 3, [11, 9, 0], 0, 0), (4, none, .bipush 60, 2, [], 60, 0), (6, none, .if_icmp .ne 8, 3, [14], 0, 0), (9, none, .bipush 10, 2, [], 10, 0), (11, none, .goto 72, 3, [83], 0, 0), (14, none, .aload_n 0, 1, [], 0, 0), (15, none, .getfield 128, 3, [11, 9, 0], 0, 0), (18, none, .iconst 4, 1, [], 4, 0), (19, none, .if_icmp .ne 8, 3, [27], 0, 0), (22, none, .bipush 11, 2, [], 11, 0), (24, none, .goto 59, 3, [83], 0, 0), (27, none, .aload_n 0, 1, [], 0, 0), (28, none, .getfield 128, 3, [11, 9, 0], 0, 0), (31, none, .bipush 62, 2, [], 62, 0), (33, none, .if_icmp .ne 8, 3, [41], 0, 0), (36, none, .bipush 12, 2, [], 12, 0), (38, none, .goto 45, 3, [83], 0, 0), (41, none, .aload_n 0, 1, [], 0, 0), (42, none, .getfield 128, 3, [11, 9, 0], 0, 0), (45, none, .iconst 5, 1, [], 5, 0), (46, none, .if_icmp .ne 8, 3, [54], 0, 0), (49, none, .bipush 13, 2, [], 13, 0), (51, none, .goto 32, 3, [83], 0, 0), (54, none, .aload_n 0, 1, [], 0, 0), (55, none, .getfield 128, 3, [11, 9, 0], 0, 0), (58, none, .bipush 61, 2, [], 61, 0), (60, none, .if_icmp .ne 8, 3, [68], 0, 0), (63, none, .bipush 14, 2, [], 14, 0), (65, none, .goto 18, 3, [83], 0, 0), (68, none, .aload_n 0, 1, [], 0, 0), (69, none, .getfield 128, 3, [11, 9, 0], 0, 0), (72, none, .bipush 35, 2, [], 35, 0), (74, none, .if_icmp .ne 8, 3, [82], 0, 0), (77, none, .bipush 15, 2, [], 15, 0), (79, none, .goto 4, 3, [83], 0, 0), (82, none, .iconst (-1), 1, [], (-1), 0), (83, none, .ireturn, 1, [], 0, 0)]
def k_X11_betweenOf : List EN := [(0, none, .aload_n 0, 1, [], 0, 0), (1, none, .getfield 128, 3, [11, 9, 0], 0, 0), (4, none, .bipush 43, 2, [], 43, 0), (6, none, .if_icmp .ne 6, 3, [12], 0, 0), (9, none, .bipush 6, 2, [], 6, 0), (11, none, .ireturn, 1, [], 0, 0), (12, none, .aload_n 0, 1, [], 0, 0), (13, none, .getfield 128, 3, [11, 9, 0], 0, 0), (16, none, .bipush 45, 2, [], 45, 0), (18, none, .if_icmp .ne 6, 3, [24], 0, 0), (21, none, .bipush 7, 2, [], 7, 0), (23, none, .ireturn, 1, [], 0, 0), (24, none, .aload_n 0, 1, [], 0, 0), (25, none, .getfield 128, 3, [11, 9, 0], 0, 0), (28, none, .bipush 42, 2, [], 42, 0), (30, none, .if_icmp .ne 6, 3, [36], 0, 0), (33, none, .bipush 8, 2, [], 8, 0), (35, none, .ireturn, 1, [], 0, 0), (36, none, .aload_n 0, 1, [], 0, 0), (37, none, .getfield 128, 3, [11, 9, 0], 0, 0), (40, none, .bipush 47, 2, [], 47, 0), (42, none, .if_icmp .ne 6, 3, [48], 0, 0), (45, none, .bipush 9, 2, [], 9, 0), (47, none, .ireturn, 1, [], 0, 0), (48, none, .aload_n 0, 1, [], 0, 0), (49, none, .invokevirtual 196, 3, [1, 196, 0, 1, 11], 0, 0), (52, some [0], .bipush 42, 2, [], 42, 0), (54, none, .if_icmp .eq 5, 3, [59], 0, 0), (57, none, .iconst (-1), 1, [], (-1), 0), (58, none, .ireturn, 1, [], 0, 0), (59, none, .aload_n 0, 1, [], 0, 0), (60, none, .invokevirtual 228, 3, [1, 197, 0, 1, 11], 0, 0), (63, some [0], .ifCond .ne 8, 3, [71], 0, 0), (66, none, .aload_n 0, 1, [], 0, 0), (67, none, .invokevirtual 231, 3, [1, 202, 0, 1, 11], 0, 0), (70, none, .ireturn, 1, [], 0, 0), (71, none, .aload_n 0, 1, [], 0, 0), (72, none, .bipush 97, 2, [], 97, 0), (74, none, .bipush 110, 2, [], 110, 0), (76, none, .bipush 100, 2, [], 100, 0), (78, none, .invokestatic 154, 3, [0, 185, 3, 2], 0, 0), (81, some [0], .invokevirtual 214, 3, [1, 189, 1, 1, 11], 0, 0), (84, none, .ifCond .eq 8, 3, [92], 0, 0), (87, none, .bipush 21, 2, [], 21, 0), (89, none, .goto 23, 3, [112], 0, 0), (92, none, .aload_n 0, 1, [], 0, 0), (93, none, .bipush 111, 2, [], 111, 0), (95, none, .bipush 114, 2, [], 114, 0), (97, none, .invokestatic 150, 3, [0, 184, 2, 2], 0, 0), (100, some [], .invokevirtual 214, 3, [1, 189, 1, 1, 11], 0, 0), (103, none, .ifCond .eq 8, 3, [111], 0, 0), (106, none, .bipush 22, 2, [], 22, 0), (108, none, .goto 4, 3, [112], 0, 0), (111, none, .iconst (-1), 1, [], (-1), 0), (112, none, .ireturn, 1, [], 0, 0)]
def k_X11_partOf : List EN := [(0, none, .iload_n 1, 1, [], 0, 0), (1, none, .tableswitch 129 40 44 #[35, 129, 50, 82, 107], 35, [130, 40, 36, 130, 51, 83, 108], 0, 0), (36, none, .aload_n 0, 1, [], 0, 0), (37, none, .getfield 128, 3, [11, 9, 0], 0, 0), (40, none, .bipush 41, 2, [], 41, 0), (42, none, .if_icmp .ne 7, 3, [49], 0, 0), (45, none, .iconst 0, 1, [], 0, 0), (46, none, .goto 4, 3, [50], 0, 0), (49, none, .iconst (-1), 1, [], (-1), 0), (50, none, .ireturn, 1, [], 0, 0), (51, none, .aload_n 0, 1, [], 0, 0), (52, none, .bipush 116, 2, [], 116, 0), (54, none, .bipush 104, 2, [], 104, 0), (56, none, .bipush 101, 2, [], 101, 0), (58, none, .bipush 110, 2, [], 110, 0), (60, none, .invokestatic 158, 3, [0, 186, 4, 2], 0, 0), (63, some [0], .invokevirtual 214, 3, [1, 189, 1, 1, 11], 0, 0), (66, some [0], .ifCond .eq 15, 3, [81], 0, 0), (69, none, .aload_n 0, 1, [], 0, 0), (70, none, .invokevirtual 228, 3, [1, 197, 0, 1, 11], 0, 0), (73, none, .ifCond .eq 8, 3, [81], 0, 0), (76, none, .bipush 43, 2, [], 43, 0), (78, none, .goto 4, 3, [82], 0, 0), (81, none, .iconst (-1), 1, [], (-1), 0), (82, none, .ireturn, 1, [], 0, 0), (83, none, .aload_n 0, 1, [], 0, 0), (84, none, .bipush 101, 2, [], 101, 0), (86, none, .bipush 108, 2, [], 108, 0), (88, none, .bipush 115, 2, [], 115, 0), (90, none, .bipush 101, 2, [], 101, 0), (92, none, .invokestatic 158, 3, [0, 186, 4, 2], 0, 0), (95, some [], .invokevirtual 214, 3, [1, 189, 1, 1, 11], 0, 0), (98, none, .ifCond .eq 8, 3, [106], 0, 0), (101, none, .bipush 44, 2, [], 44, 0), (103, none, .goto 4, 3, [107], 0, 0), (106, none, .iconst (-1), 1, [], (-1), 0), (107, none, .ireturn, 1, [], 0, 0), (108, none, .aload_n 0, 1, [], 0, 0), (109, none, .bipush 101, 2, [], 101, 0), (111, none, .bipush 110, 2, [], 110, 0), (113, none, .bipush 100, 2, [], 100, 0), (115, none, .invokestatic 154, 3, [0, 185, 3, 2], 0, 0), (118, some [], .invokevirtual 214, 3, [1, 189, 1, 1, 11], 0, 0), (121, none, .ifCond .eq 7, 3, [128], 0, 0), (124, none, .iconst 0, 1, [], 0, 0), (125, none, .goto 4, 3, [129], 0, 0), (128, none, .iconst (-1), 1, [], (-1), 0), (129, none, .ireturn, 1, [], 0, 0), (130, none, .iconst (-1), 1, [], (-1), 0), (131, none, .ireturn, 1, [], 0, 0)]
def k_X11_behindOne : List EN := [(0, none, .aload_n 0, 1, [], 0, 0), (1, none, .invokevirtual 234, 3, [1, 203, 0, 1, 11], 0, 0), (4, some [0], .istore_n 1, 1, [], 0, 0), (5, none, .iload_n 1, 1, [], 0, 0), (6, none, .ifCond .lt 54, 3, [60], 0, 0), (9, none, .aload_n 0, 1, [], 0, 0), (10, none, .iload_n 1, 1, [], 0, 0), (11, none, .invokestatic 182, 3, [0, 193, 1, 1], 0, 0), (14, some [0, 1], .iconst 4, 1, [], 4, 0), (15, none, .if_icmp .ne 7, 3, [22], 0, 0), (18, none, .iconst 5, 1, [], 5, 0), (19, none, .goto 7, 3, [26], 0, 0), (22, none, .iload_n 1, 1, [], 0, 0), (23, none, .invokestatic 182, 3, [0, 193, 1, 1], 0, 0), (26, some [0, 1], .invokevirtual 222, 3, [1, 194, 1, 0, 11], 0, 0), (29, some [0, 1], .aload_n 0, 1, [], 0, 0), (30, none, .getfield 29, 3, [11, 15, 2], 0, 0), (33, none, .aload_n 0, 1, [], 0, 0), (34, none, .getfield 179, 3, [11, 16, 0], 0, 0), (37, none, .iload_n 1, 1, [], 0, 0), (38, none, .iastore, 1, [], 0, 0), (39, none, .aload_n 0, 1, [], 0, 0), (40, none, .dup, 1, [], 0, 0), (41, none, .getfield 179, 3, [11, 16, 0], 0, 0), (44, none, .iconst 1, 1, [], 1, 0), (45, none, .iadd, 1, [], 0, 0), (46, none, .putfield 179, 3, [11, 16, 0], 0, 0), (49, none, .aload_n 0, 1, [], 0, 0), (50, none, .iconst 0, 1, [], 0, 0), (51, none, .putfield 225, 3, [11, 18, 3], 0, 0), (54, none, .aload_n 0, 1, [], 0, 0), (55, none, .invokevirtual 199, 3, [1, 183, 0, 0, 11], 0, 0), (58, none, .iconst 0, 1, [], 0, 0), (59, none, .ireturn, 1, [], 0, 0), (60, none, .aload_n 0, 1, [], 0, 0), (61, none, .invokevirtual 196, 3, [1, 196, 0, 1, 11], 0, 0), (64, some [0], .istore_n 2, 1, [], 0, 0), (65, none, .aload_n 0, 1, [], 0, 0), (66, none, .iload_n 2, 1, [], 0, 0), (67, none, .invokevirtual 237, 3, [1, 204, 1, 1, 11], 0, 0), (70, some [0, 2], .istore_n 3, 1, [], 0, 0), (71, none, .iload_n 3, 1, [], 0, 0), (72, none, .ifCond .ge 5, 3, [77], 0, 0), (75, none, .iconst (-1), 1, [], (-1), 0), (76, none, .ireturn, 1, [], 0, 0), (77, none, .aload_n 0, 1, [], 0, 0), (78, none, .iconst 1, 1, [], 1, 0), (79, none, .invokevirtual 222, 3, [1, 194, 1, 0, 11], 0, 0), (82, some [0, 2, 3], .aload_n 0, 1, [], 0, 0), (83, none, .invokevirtual 199, 3, [1, 183, 0, 0, 11], 0, 0), (86, some [0, 2, 3], .iload_n 3, 1, [], 0, 0), (87, none, .ifCond .ne 40, 3, [127], 0, 0), (90, none, .aload_n 0, 1, [], 0, 0), (91, none, .dup, 1, [], 0, 0), (92, none, .getfield 189, 3, [11, 17, 0], 0, 0), (95, none, .iconst 1, 1, [], 1, 0), (96, none, .isub, 1, [], 0, 0), (97, none, .putfield 189, 3, [11, 17, 0], 0, 0), (100, none, .aload_n 0, 1, [], 0, 0), (101, none, .dup, 1, [], 0, 0), (102, none, .getfield 179, 3, [11, 16, 0], 0, 0), (105, none, .iconst 1, 1, [], 1, 0), (106, none, .isub, 1, [], 0, 0), (107, none, .putfield 179, 3, [11, 16, 0], 0, 0), (110, none, .iload_n 2, 1, [], 0, 0), (111, none, .bipush 44, 2, [], 44, 0), (113, none, .if_icmp .ne 9, 3, [122], 0, 0), (116, none, .aload_n 0, 1, [], 0, 0), (117, none, .iconst 3, 1, [], 3, 0), (118, none, .iconst 0, 1, [], 0, 0), (119, none, .invokevirtual 185, 3, [1, 190, 2, 0, 11], 0, 0), (122, some [0], .aload_n 0, 1, [], 0, 0), (123, none, .invokevirtual 208, 3, [1, 201, 0, 1, 11], 0, 0), (126, none, .ireturn, 1, [], 0, 0), (127, none, .aload_n 0, 1, [], 0, 0), (128, none, .getfield 29, 3, [11, 15, 2], 0, 0), (131, none, .aload_n 0, 1, [], 0, 0), (132, none, .invokevirtual 192, 3, [1, 195, 0, 1, 11], 0, 0), (135, some [0, 3], .iload_n 3, 1, [], 0, 0), (136, none, .iastore, 1, [], 0, 0), (137, none, .aload_n 0, 1, [], 0, 0), (138, none, .iconst 0, 1, [], 0, 0), (139, none, .putfield 225, 3, [11, 18, 3], 0, 0), (142, none, .iconst 0, 1, [], 0, 0), (143, none, .ireturn, 1, [], 0, 0)]
def k_X11_summed : List EN := [(0, none, .aload_n 0, 1, [], 0, 0), (1, none, .iconst 0, 1, [], 0, 0), (2, none, .putfield 179, 3, [11, 16, 0], 0, 0), (5, none, .aload_n 0, 1, [], 0, 0), (6, none, .iconst 0, 1, [], 0, 0), (7, none, .putfield 189, 3, [11, 17, 0], 0, 0), (10, none, .aload_n 0, 1, [], 0, 0), (11, none, .iconst 0, 1, [], 0, 0), (12, none, .putfield 225, 3, [11, 18, 3], 0, 0), (15, some [0], .aload_n 0, 1, [], 0, 0), (16, none, .getfield 225, 3, [11, 18, 3], 0, 0), (19, none, .ifCond .eq 10, 3, [29], 0, 0), (22, none, .aload_n 0, 1, [], 0, 0), (23, none, .invokevirtual 240, 3, [1, 205, 0, 1, 11], 0, 0), (26, some [0], .goto 7, 3, [33], 0, 0), (29, none, .aload_n 0, 1, [], 0, 0), (30, none, .invokevirtual 243, 3, [1, 200, 0, 1, 11], 0, 0), (33, some [0], .istore_n 1, 1, [], 0, 0), (34, none, .iload_n 1, 1, [], 0, 0), (35, none, .ifCond .le 5, 3, [40], 0, 0), (38, none, .iload_n 1, 1, [], 0, 0), (39, none, .ireturn, 1, [], 0, 0), (40, none, .iload_n 1, 1, [], 0, 0), (41, none, .ifCond .ne 6, 3, [47], 0, 0), (44, none, .goto (-29), 3, [15], 0, 0), (47, none, .aload_n 0, 1, [], 0, 0), (48, none, .invokevirtual 196, 3, [1, 196, 0, 1, 11], 0, 0), (51, some [0], .ifCond .lt 5, 3, [56], 0, 0), (54, none, .iconst 1, 1, [], 1, 0), (55, none, .ireturn, 1, [], 0, 0), (56, none, .aload_n 0, 1, [], 0, 0), (57, none, .iconst 1, 1, [], 1, 0), (58, none, .invokevirtual 222, 3, [1, 194, 1, 0, 11], 0, 0), (61, none, .iconst 0, 1, [], 0, 0), (62, none, .ireturn, 1, [], 0, 0)]
def k_X11_figure : List EN := [(0, none, .aload_n 0, 1, [], 0, 0), (1, none, .getfield 128, 3, [11, 9, 0], 0, 0), (4, none, .iconst 1, 1, [], 1, 0), (5, none, .if_icmp .eq 5, 3, [10], 0, 0), (8, none, .iconst 1, 1, [], 1, 0), (9, none, .ireturn, 1, [], 0, 0), (10, none, .aload_n 0, 1, [], 0, 0), (11, none, .getfield 134, 3, [11, 10, 0], 0, 0), (14, none, .iload_n 2, 1, [], 0, 0), (15, none, .iload_n 3, 1, [], 0, 0), (16, none, .invokestatic 94, 3, [0, 162, 3, 1], 0, 0), (19, some [0, 1], .ifCond .ne 5, 3, [24], 0, 0), (22, none, .iconst 2, 1, [], 2, 0), (23, none, .ireturn, 1, [], 0, 0), (24, none, .aload_n 0, 1, [], 0, 0), (25, none, .getfield 16, 3, [11, 2, 2], 0, 0), (28, none, .iload_n 1, 1, [], 0, 0), (29, none, .aload_n 0, 1, [], 0, 0), (30, none, .getfield 134, 3, [11, 10, 0], 0, 0), (33, none, .iastore, 1, [], 0, 0), (34, none, .aload_n 0, 1, [], 0, 0), (35, none, .invokevirtual 199, 3, [1, 183, 0, 0, 11], 0, 0), (38, none, .iconst 0, 1, [], 0, 0), (39, none, .ireturn, 1, [], 0, 0)]
def k_X11_lawClause : List EN := [(0, none, .aload_n 0, 1, [], 0, 0), (1, none, .getfield 16, 3, [11, 2, 2], 0, 0), (4, none, .iload_n 1, 1, [], 0, 0), (5, none, .iconst 1, 1, [], 1, 0), (6, none, .iadd, 1, [], 0, 0), (7, none, .aload_n 0, 1, [], 0, 0), (8, none, .getfield 169, 3, [11, 13, 0], 0, 0), (11, none, .iastore, 1, [], 0, 0), (12, none, .aload_n 0, 1, [], 0, 0), (13, none, .invokevirtual 246, 3, [1, 206, 0, 1, 11], 0, 0), (16, some [0, 1], .istore_n 2, 1, [], 0, 0), (17, none, .aload_n 0, 1, [], 0, 0), (18, none, .getfield 16, 3, [11, 2, 2], 0, 0), (21, none, .iload_n 1, 1, [], 0, 0), (22, none, .iconst 2, 1, [], 2, 0), (23, none, .iadd, 1, [], 0, 0), (24, none, .aload_n 0, 1, [], 0, 0), (25, none, .getfield 169, 3, [11, 13, 0], 0, 0), (28, none, .iastore, 1, [], 0, 0), (29, none, .iload_n 2, 1, [], 0, 0), (30, none, .ireturn, 1, [], 0, 0)]
def k_X11_pair : List EN := [(0, none, .aload_n 0, 1, [], 0, 0), (1, none, .iload_n 1, 1, [], 0, 0), (2, none, .iconst 1, 1, [], 1, 0), (3, none, .iadd, 1, [], 0, 0), (4, none, .iconst 0, 1, [], 0, 0), (5, none, .iload_n 2, 1, [], 0, 0), (6, none, .invokevirtual 249, 3, [1, 207, 3, 1, 11], 0, 0), (9, some [0, 1, 3, 5, 6], .istore 7, 2, [], 0, 0), (11, none, .iload 7, 2, [], 0, 0), (13, none, .ifCond .eq 6, 3, [19], 0, 0), (16, none, .iload 7, 2, [], 0, 0), (18, none, .ireturn, 1, [], 0, 0), (19, none, .aload_n 0, 1, [], 0, 0), (20, none, .lload_n 3, 1, [], 0, 0), (21, none, .invokevirtual 214, 3, [1, 189, 1, 1, 11], 0, 0), (24, some [0, 1, 5, 6], .ifCond .ne 5, 3, [29], 0, 0), (27, none, .iconst 1, 1, [], 1, 0), (28, none, .ireturn, 1, [], 0, 0), (29, none, .aload_n 0, 1, [], 0, 0), (30, none, .invokevirtual 199, 3, [1, 183, 0, 0, 11], 0, 0), (33, some [0, 1, 5, 6], .aload_n 0, 1, [], 0, 0), (34, none, .iload_n 1, 1, [], 0, 0), (35, none, .iconst 2, 1, [], 2, 0), (36, none, .iadd, 1, [], 0, 0), (37, none, .iload 5, 2, [], 0, 0), (39, none, .iload 6, 2, [], 0, 0), (41, none, .invokevirtual 249, 3, [1, 207, 3, 1, 11], 0, 0), (44, none, .ireturn, 1, [], 0, 0)]
def k_X11_body : List EN := [(0, none, .iload_n 1, 1, [], 0, 0), (1, none, .tableswitch 147 2 8 #[43, 69, 86, 106, 116, 126, 136], 43, [148, 2, 44, 70, 87, 107, 117, 127, 137], 0, 0), (44, none, .aload_n 0, 1, [], 0, 0), (45, none, .iload_n 2, 1, [], 0, 0), (46, none, .bipush 18, 2, [], 18, 0), (48, none, .bipush 119, 2, [], 119, 0), (50, none, .bipush 101, 2, [], 101, 0), (52, none, .bipush 105, 2, [], 105, 0), (54, none, .bipush 103, 2, [], 103, 0), (56, none, .bipush 104, 2, [], 104, 0), (58, none, .bipush 116, 2, [], 116, 0), (60, none, .invokestatic 172, 3, [0, 188, 6, 2], 0, 0), (63, some [], .iconst 1, 1, [], 1, 0), (64, none, .bipush 9, 2, [], 9, 0), (66, none, .invokevirtual 253, 3, [1, 209, 5, 1, 11], 0, 0), (69, none, .ireturn, 1, [], 0, 0), (70, none, .aload_n 0, 1, [], 0, 0), (71, none, .iload_n 2, 1, [], 0, 0), (72, none, .bipush 18, 2, [], 18, 0), (74, none, .bipush 97, 2, [], 97, 0), (76, none, .bipush 116, 2, [], 116, 0), (78, none, .invokestatic 150, 3, [0, 184, 2, 2], 0, 0), (81, some [], .iconst 0, 1, [], 0, 0), (82, none, .iconst 4, 1, [], 4, 0), (83, none, .invokevirtual 253, 3, [1, 209, 5, 1, 11], 0, 0), (86, none, .ireturn, 1, [], 0, 0), (87, none, .aload_n 0, 1, [], 0, 0), (88, none, .iload_n 2, 1, [], 0, 0), (89, none, .iconst 4, 1, [], 4, 0), (90, none, .bipush 119, 2, [], 119, 0), (92, none, .bipush 105, 2, [], 105, 0), (94, none, .bipush 116, 2, [], 116, 0), (96, none, .bipush 104, 2, [], 104, 0), (98, none, .invokestatic 158, 3, [0, 186, 4, 2], 0, 0), (101, some [], .iconst 0, 1, [], 0, 0), (102, none, .iconst 4, 1, [], 4, 0), (103, none, .invokevirtual 253, 3, [1, 209, 5, 1, 11], 0, 0), (106, none, .ireturn, 1, [], 0, 0), (107, none, .aload_n 0, 1, [], 0, 0), (108, none, .iload_n 2, 1, [], 0, 0), (109, none, .iconst 1, 1, [], 1, 0), (110, none, .iadd, 1, [], 0, 0), (111, none, .iconst 1, 1, [], 1, 0), (112, none, .iconst 5, 1, [], 5, 0), (113, none, .invokevirtual 249, 3, [1, 207, 3, 1, 11], 0, 0), (116, none, .ireturn, 1, [], 0, 0), (117, none, .aload_n 0, 1, [], 0, 0), (118, none, .iload_n 2, 1, [], 0, 0), (119, none, .iconst 1, 1, [], 1, 0), (120, none, .iadd, 1, [], 0, 0), (121, none, .iconst 0, 1, [], 0, 0), (122, none, .iconst 4, 1, [], 4, 0), (123, none, .invokevirtual 249, 3, [1, 207, 3, 1, 11], 0, 0), (126, none, .ireturn, 1, [], 0, 0), (127, none, .aload_n 0, 1, [], 0, 0), (128, none, .iload_n 2, 1, [], 0, 0), (129, none, .iconst 1, 1, [], 1, 0), (130, none, .iadd, 1, [], 0, 0), (131, none, .iconst 0, 1, [], 0, 0), (132, none, .iconst 4, 1, [], 4, 0), (133, none, .invokevirtual 249, 3, [1, 207, 3, 1, 11], 0, 0), (136, none, .ireturn, 1, [], 0, 0), (137, none, .aload_n 0, 1, [], 0, 0), (138, none, .iload_n 2, 1, [], 0, 0), (139, none, .iconst 1, 1, [], 1, 0), (140, none, .iadd, 1, [], 0, 0), (141, none, .iconst 1, 1, [], 1, 0), (142, none, .bipush 60, 2, [], 60, 0), (144, none, .invokevirtual 249, 3, [1, 207, 3, 1, 11], 0, 0), (147, none, .ireturn, 1, [], 0, 0), (148, none, .aload_n 0, 1, [], 0, 0), (149, none, .iload_n 2, 1, [], 0, 0), (150, none, .invokevirtual 257, 3, [1, 208, 1, 1, 11], 0, 0), (153, none, .ireturn, 1, [], 0, 0)]
def k_X11_sortOf : List EN := [(0, none, .aload_n 0, 1, [], 0, 0), (1, none, .bipush 108, 2, [], 108, 0), (3, none, .bipush 101, 2, [], 101, 0), (5, none, .bipush 97, 2, [], 97, 0), (7, none, .bipush 110, 2, [], 110, 0), (9, none, .bipush 115, 2, [], 115, 0), (11, none, .invokestatic 162, 3, [0, 187, 5, 2], 0, 0), (14, some [0], .invokevirtual 214, 3, [1, 189, 1, 1, 11], 0, 0), (17, none, .ifCond .eq 5, 3, [22], 0, 0), (20, none, .iconst 0, 1, [], 0, 0), (21, none, .ireturn, 1, [], 0, 0), (22, none, .aload_n 0, 1, [], 0, 0), (23, none, .bipush 104, 2, [], 104, 0), (25, none, .bipush 101, 2, [], 101, 0), (27, none, .bipush 97, 2, [], 97, 0), (29, none, .bipush 114, 2, [], 114, 0), (31, none, .bipush 115, 2, [], 115, 0), (33, none, .invokestatic 162, 3, [0, 187, 5, 2], 0, 0), (36, some [0], .invokevirtual 214, 3, [1, 189, 1, 1, 11], 0, 0), (39, none, .ifCond .eq 5, 3, [44], 0, 0), (42, none, .iconst 1, 1, [], 1, 0), (43, none, .ireturn, 1, [], 0, 0), (44, none, .aload_n 0, 1, [], 0, 0), (45, none, .bipush 112, 2, [], 112, 0), (47, none, .bipush 101, 2, [], 101, 0), (49, none, .bipush 114, 2, [], 114, 0), (51, none, .bipush 115, 2, [], 115, 0), (53, none, .bipush 111, 2, [], 111, 0), (55, none, .bipush 110, 2, [], 110, 0), (57, none, .invokestatic 172, 3, [0, 188, 6, 2], 0, 0), (60, some [0], .invokevirtual 214, 3, [1, 189, 1, 1, 11], 0, 0), (63, none, .ifCond .eq 5, 3, [68], 0, 0), (66, none, .iconst 2, 1, [], 2, 0), (67, none, .ireturn, 1, [], 0, 0), (68, none, .aload_n 0, 1, [], 0, 0), (69, none, .bipush 114, 2, [], 114, 0), (71, none, .bipush 97, 2, [], 97, 0), (73, none, .bipush 99, 2, [], 99, 0), (75, none, .bipush 107, 2, [], 107, 0), (77, none, .invokestatic 158, 3, [0, 186, 4, 2], 0, 0), (80, some [0], .invokevirtual 214, 3, [1, 189, 1, 1, 11], 0, 0), (83, none, .ifCond .eq 5, 3, [88], 0, 0), (86, none, .iconst 3, 1, [], 3, 0), (87, none, .ireturn, 1, [], 0, 0), (88, none, .aload_n 0, 1, [], 0, 0), (89, none, .bipush 115, 2, [], 115, 0), (91, none, .bipush 119, 2, [], 119, 0), (93, none, .bipush 97, 2, [], 97, 0), (95, none, .bipush 112, 2, [], 112, 0), (97, none, .invokestatic 158, 3, [0, 186, 4, 2], 0, 0), (100, some [0], .invokevirtual 214, 3, [1, 189, 1, 1, 11], 0, 0), (103, none, .ifCond .eq 5, 3, [108], 0, 0), (106, none, .iconst 4, 1, [], 4, 0), (107, none, .ireturn, 1, [], 0, 0), (108, none, .aload_n 0, 1, [], 0, 0), (109, none, .bipush 116, 2, [], 116, 0), (111, none, .bipush 117, 2, [], 117, 0), (113, none, .bipush 114, 2, [], 114, 0), (115, none, .bipush 110, 2, [], 110, 0), (117, none, .invokestatic 158, 3, [0, 186, 4, 2], 0, 0), (120, some [0], .invokevirtual 214, 3, [1, 189, 1, 1, 11], 0, 0), (123, none, .ifCond .eq 5, 3, [128], 0, 0), (126, none, .iconst 5, 1, [], 5, 0), (127, none, .ireturn, 1, [], 0, 0), (128, none, .aload_n 0, 1, [], 0, 0), (129, none, .bipush 112, 2, [], 112, 0), (131, none, .bipush 114, 2, [], 114, 0), (133, none, .bipush 111, 2, [], 111, 0), (135, none, .bipush 112, 2, [], 112, 0), (137, none, .invokestatic 158, 3, [0, 186, 4, 2], 0, 0), (140, some [0], .invokevirtual 214, 3, [1, 189, 1, 1, 11], 0, 0), (143, none, .ifCond .eq 6, 3, [149], 0, 0), (146, none, .bipush 6, 2, [], 6, 0), (148, none, .ireturn, 1, [], 0, 0), (149, none, .aload_n 0, 1, [], 0, 0), (150, none, .bipush 102, 2, [], 102, 0), (152, none, .bipush 114, 2, [], 114, 0), (154, none, .bipush 101, 2, [], 101, 0), (156, none, .bipush 101, 2, [], 101, 0), (158, none, .invokestatic 158, 3, [0, 186, 4, 2], 0, 0), (161, some [0], .invokevirtual 214, 3, [1, 189, 1, 1, 11], 0, 0), (164, none, .ifCond .eq 8, 3, [172], 0, 0), (167, none, .bipush 7, 2, [], 7, 0), (169, none, .goto 27, 3, [196], 0, 0), (172, none, .aload_n 0, 1, [], 0, 0), (173, none, .bipush 121, 2, [], 121, 0), (175, none, .bipush 101, 2, [], 101, 0), (177, none, .bipush 97, 2, [], 97, 0), (179, none, .bipush 114, 2, [], 114, 0), (181, none, .invokestatic 158, 3, [0, 186, 4, 2], 0, 0), (184, some [], .invokevirtual 214, 3, [1, 189, 1, 1, 11], 0, 0), (187, none, .ifCond .eq 8, 3, [195], 0, 0), (190, none, .bipush 8, 2, [], 8, 0), (192, none, .goto 4, 3, [196], 0, 0), (195, none, .iconst (-1), 1, [], (-1), 0), (196, none, .ireturn, 1, [], 0, 0)]
def k_X11_clause : List EN := [(0, none, .aload_n 0, 1, [], 0, 0), (1, none, .invokevirtual 260, 3, [1, 211, 0, 1, 11], 0, 0), (4, some [0], .istore_n 1, 1, [], 0, 0), (5, none, .iload_n 1, 1, [], 0, 0), (6, none, .ifCond .ge 5, 3, [11], 0, 0), (9, none, .iconst 1, 1, [], 1, 0), (10, none, .ireturn, 1, [], 0, 0), (11, none, .iload_n 1, 1, [], 0, 0), (12, none, .iconst 1, 1, [], 1, 0), (13, none, .if_icmp .gt 16, 3, [29], 0, 0), (16, none, .aload_n 0, 1, [], 0, 0), (17, none, .getfield 263, 3, [11, 19, 0], 0, 0), (20, none, .iload_n 1, 1, [], 0, 0), (21, none, .invokestatic 266, 3, [0, 165, 2, 1], 0, 0), (24, some [0, 1], .ifCond .eq 5, 3, [29], 0, 0), (27, none, .iconst 4, 1, [], 4, 0), (28, none, .ireturn, 1, [], 0, 0), (29, some [0, 1], .aload_n 0, 1, [], 0, 0), (30, none, .getfield 16, 3, [11, 2, 2], 0, 0), (33, none, .aload_n 0, 1, [], 0, 0), (34, none, .getfield 166, 3, [11, 12, 0], 0, 0), (37, none, .iaload, 1, [], 0, 0), (38, none, .istore_n 2, 1, [], 0, 0), (39, none, .iload_n 2, 1, [], 0, 0), (40, none, .bipush 24, 2, [], 24, 0), (42, none, .if_icmp .ne 6, 3, [48], 0, 0), (45, none, .bipush 6, 2, [], 6, 0), (47, none, .ireturn, 1, [], 0, 0), (48, none, .iload_n 1, 1, [], 0, 0), (49, none, .iconst 1, 1, [], 1, 0), (50, none, .if_icmp .gt 15, 3, [65], 0, 0), (53, none, .aload_n 0, 1, [], 0, 0), (54, none, .dup, 1, [], 0, 0), (55, none, .getfield 263, 3, [11, 19, 0], 0, 0), (58, none, .iconst 1, 1, [], 1, 0), (59, none, .iload_n 1, 1, [], 0, 0), (60, none, .ishl, 1, [], 0, 0), (61, none, .ior, 1, [], 0, 0), (62, none, .putfield 263, 3, [11, 19, 0], 0, 0), (65, none, .aload_n 0, 1, [], 0, 0), (66, none, .iload_n 1, 1, [], 0, 0), (67, none, .putfield 176, 3, [11, 14, 0], 0, 0), (70, none, .aload_n 0, 1, [], 0, 0), (71, none, .invokevirtual 199, 3, [1, 183, 0, 0, 11], 0, 0), (74, some [0, 1, 2], .aload_n 0, 1, [], 0, 0), (75, none, .getfield 166, 3, [11, 12, 0], 0, 0), (78, none, .iconst 1, 1, [], 1, 0), (79, none, .iadd, 1, [], 0, 0), (80, none, .iconst 3, 1, [], 3, 0), (81, none, .iload_n 2, 1, [], 0, 0), (82, none, .imul, 1, [], 0, 0), (83, none, .iadd, 1, [], 0, 0), (84, none, .istore_n 3, 1, [], 0, 0), (85, none, .aload_n 0, 1, [], 0, 0), (86, none, .getfield 16, 3, [11, 2, 2], 0, 0), (89, none, .iload_n 3, 1, [], 0, 0), (90, none, .iload_n 1, 1, [], 0, 0), (91, none, .iastore, 1, [], 0, 0), (92, none, .aload_n 0, 1, [], 0, 0), (93, none, .iload_n 1, 1, [], 0, 0), (94, none, .iload_n 3, 1, [], 0, 0), (95, none, .invokevirtual 270, 3, [1, 210, 2, 1, 11], 0, 0), (98, some [0], .istore 4, 2, [], 0, 0), (100, none, .iload 4, 2, [], 0, 0), (102, none, .ifCond .eq 6, 3, [108], 0, 0), (105, none, .iload 4, 2, [], 0, 0), (107, none, .ireturn, 1, [], 0, 0), (108, none, .aload_n 0, 1, [], 0, 0), (109, none, .getfield 16, 3, [11, 2, 2], 0, 0), (112, none, .aload_n 0, 1, [], 0, 0), (113, none, .getfield 166, 3, [11, 12, 0], 0, 0), (116, none, .dup2, 1, [], 0, 0), (117, none, .iaload, 1, [], 0, 0), (118, none, .iconst 1, 1, [], 1, 0), (119, none, .iadd, 1, [], 0, 0), (120, none, .iastore, 1, [], 0, 0), (121, none, .aload_n 0, 1, [], 0, 0), (122, none, .getfield 128, 3, [11, 9, 0], 0, 0), (125, none, .bipush 59, 2, [], 59, 0), (127, none, .if_icmp .eq 5, 3, [132], 0, 0), (130, none, .iconst 1, 1, [], 1, 0), (131, none, .ireturn, 1, [], 0, 0), (132, none, .aload_n 0, 1, [], 0, 0), (133, none, .invokevirtual 199, 3, [1, 183, 0, 0, 11], 0, 0), (136, none, .iconst 0, 1, [], 0, 0), (137, none, .ireturn, 1, [], 0, 0)]
def k_X11_readText : List EN := [(0, none, .aload_n 0, 1, [], 0, 0), (1, none, .sipush 681, 3, [], 681, 0), (4, none, .aload_n 0, 1, [], 0, 0), (5, none, .getfield 7, 3, [11, 0, 2], 0, 0), (8, none, .iconst 1, 1, [], 1, 0), (9, none, .iaload, 1, [], 0, 0), (10, none, .imul, 1, [], 0, 0), (11, none, .putfield 166, 3, [11, 12, 0], 0, 0), (14, none, .aload_n 0, 1, [], 0, 0), (15, none, .getfield 16, 3, [11, 2, 2], 0, 0), (18, none, .aload_n 0, 1, [], 0, 0), (19, none, .getfield 166, 3, [11, 12, 0], 0, 0), (22, none, .iconst 0, 1, [], 0, 0), (23, none, .iastore, 1, [], 0, 0), (24, none, .aload_n 0, 1, [], 0, 0), (25, none, .iconst 0, 1, [], 0, 0), (26, none, .putfield 169, 3, [11, 13, 0], 0, 0), (29, none, .aload_n 0, 1, [], 0, 0), (30, none, .iconst 0, 1, [], 0, 0), (31, none, .putfield 263, 3, [11, 19, 0], 0, 0), (34, none, .aload_n 0, 1, [], 0, 0), (35, none, .iconst 0, 1, [], 0, 0), (36, none, .putfield 118, 3, [11, 7, 0], 0, 0), (39, none, .aload_n 0, 1, [], 0, 0), (40, none, .invokevirtual 199, 3, [1, 183, 0, 0, 11], 0, 0), (43, some [0], .aload_n 0, 1, [], 0, 0), (44, none, .getfield 128, 3, [11, 9, 0], 0, 0), (47, none, .ifCond .eq 17, 3, [64], 0, 0), (50, none, .aload_n 0, 1, [], 0, 0), (51, none, .invokevirtual 274, 3, [1, 212, 0, 1, 11], 0, 0), (54, none, .istore_n 1, 1, [], 0, 0), (55, none, .iload_n 1, 1, [], 0, 0), (56, none, .ifCond .eq 5, 3, [61], 0, 0), (59, none, .iload_n 1, 1, [], 0, 0), (60, none, .ireturn, 1, [], 0, 0), (61, none, .goto (-18), 3, [43], 0, 0), (64, none, .iconst 0, 1, [], 0, 0), (65, none, .ireturn, 1, [], 0, 0)]
def k_X11_text : List EN := [(0, none, .aload_n 0, 1, [], 0, 0), (1, none, .getfield 7, 3, [11, 0, 2], 0, 0), (4, none, .iconst 1, 1, [], 1, 0), (5, none, .iaload, 1, [], 0, 0), (6, none, .iconst 4, 1, [], 4, 0), (7, none, .if_icmp .ne 5, 3, [12], 0, 0), (10, none, .iconst (-1), 1, [], (-1), 0), (11, none, .ireturn, 1, [], 0, 0), (12, none, .aload_n 0, 1, [], 0, 0), (13, none, .aload_n 0, 1, [], 0, 0), (14, none, .invokevirtual 277, 3, [1, 213, 0, 1, 11], 0, 0), (17, some [0], .putfield 22, 3, [11, 5, 0], 0, 0), (20, none, .aload_n 0, 1, [], 0, 0), (21, none, .aload_n 0, 1, [], 0, 0), (22, none, .getfield 22, 3, [11, 5, 0], 0, 0), (25, none, .ifCond .ne 7, 3, [32], 0, 0), (28, none, .iconst (-1), 1, [], (-1), 0), (29, none, .goto 7, 3, [36], 0, 0), (32, none, .aload_n 0, 1, [], 0, 0), (33, none, .getfield 125, 3, [11, 8, 0], 0, 0), (36, some [0], .putfield 26, 3, [11, 6, 0], 0, 0), (39, none, .aload_n 0, 1, [], 0, 0), (40, none, .iconst 0, 1, [], 0, 0), (41, none, .putfield 112, 3, [11, 4, 0], 0, 0), (44, none, .aload_n 0, 1, [], 0, 0), (45, none, .getfield 22, 3, [11, 5, 0], 0, 0), (48, none, .ifCond .eq 5, 3, [53], 0, 0), (51, none, .iconst (-1), 1, [], (-1), 0), (52, none, .ireturn, 1, [], 0, 0), (53, none, .aload_n 0, 1, [], 0, 0), (54, none, .getfield 7, 3, [11, 0, 2], 0, 0), (57, none, .iconst 1, 1, [], 1, 0), (58, none, .dup2, 1, [], 0, 0), (59, none, .iaload, 1, [], 0, 0), (60, none, .iconst 1, 1, [], 1, 0), (61, none, .iadd, 1, [], 0, 0), (62, none, .iastore, 1, [], 0, 0), (63, none, .aload_n 0, 1, [], 0, 0), (64, none, .getfield 7, 3, [11, 0, 2], 0, 0), (67, none, .iconst 1, 1, [], 1, 0), (68, none, .iaload, 1, [], 0, 0), (69, none, .iconst 1, 1, [], 1, 0), (70, none, .isub, 1, [], 0, 0), (71, none, .ireturn, 1, [], 0, 0)]
def k_X11_fault : List EN := [(0, none, .iload_n 1, 1, [], 0, 0), (1, none, .ifCond .ne 10, 3, [11], 0, 0), (4, none, .aload_n 0, 1, [], 0, 0), (5, none, .getfield 22, 3, [11, 5, 0], 0, 0), (8, none, .goto 16, 3, [24], 0, 0), (11, none, .iload_n 1, 1, [], 0, 0), (12, none, .iconst 1, 1, [], 1, 0), (13, none, .if_icmp .ne 10, 3, [23], 0, 0), (16, none, .aload_n 0, 1, [], 0, 0), (17, none, .getfield 26, 3, [11, 6, 0], 0, 0), (20, none, .goto 4, 3, [24], 0, 0), (23, none, .iconst (-1), 1, [], (-1), 0), (24, none, .ireturn, 1, [], 0, 0)]
def k_X11_by : List EN := [(0, none, .iload_n 1, 1, [], 0, 0), (1, none, .iconst (-1), 1, [], (-1), 0), (2, none, .aload_n 0, 1, [], 0, 0), (3, none, .getfield 7, 3, [11, 0, 2], 0, 0), (6, none, .iconst 1, 1, [], 1, 0), (7, none, .iaload, 1, [], 0, 0), (8, none, .iconst 1, 1, [], 1, 0), (9, none, .isub, 1, [], 0, 0), (10, none, .invokestatic 94, 3, [0, 162, 3, 1], 0, 0), (13, some [0, 1], .ifCond .ne 5, 3, [18], 0, 0), (16, none, .iconst 0, 1, [], 0, 0), (17, none, .ireturn, 1, [], 0, 0), (18, none, .aload_n 0, 1, [], 0, 0), (19, none, .getfield 7, 3, [11, 0, 2], 0, 0), (22, none, .iconst 2, 1, [], 2, 0), (23, none, .iload_n 1, 1, [], 0, 0), (24, none, .iastore, 1, [], 0, 0), (25, none, .iconst 1, 1, [], 1, 0), (26, none, .ireturn, 1, [], 0, 0)]
def k_X11_clip : List EN := [(0, none, .lload_n 0, 1, [], 0, 0), (1, none, .ldc2_w 280, 3, [], 0, 1000000), (4, none, .lcmp, 1, [], 0, 0), (5, none, .ifCond .le 9, 3, [14], 0, 0), (8, none, .ldc2_w 280, 3, [], 0, 1000000), (11, none, .goto 18, 3, [29], 0, 0), (14, none, .lload_n 0, 1, [], 0, 0), (15, none, .ldc2_w 282, 3, [], 0, (-1000000)), (18, none, .lcmp, 1, [], 0, 0), (19, none, .ifCond .ge 9, 3, [28], 0, 0), (22, none, .ldc2_w 282, 3, [], 0, (-1000000)), (25, none, .goto 4, 3, [29], 0, 0), (28, none, .lload_n 0, 1, [], 0, 0), (29, none, .lreturn, 1, [], 0, 0)]
def k_X11_two : List EN := [(0, none, .iload_n 0, 1, [], 0, 0), (1, none, .tableswitch 48 6 8 #[27, 34, 41], 27, [49, 6, 28, 35, 42], 0, 0), (28, none, .lload_n 1, 1, [], 0, 0), (29, none, .lload_n 3, 1, [], 0, 0), (30, none, .ladd, 1, [], 0, 0), (31, none, .invokestatic 284, 3, [0, 217, 1, 2], 0, 0), (34, none, .lreturn, 1, [], 0, 0), (35, none, .lload_n 1, 1, [], 0, 0), (36, none, .lload_n 3, 1, [], 0, 0), (37, none, .lsub, 1, [], 0, 0), (38, none, .invokestatic 284, 3, [0, 217, 1, 2], 0, 0), (41, none, .lreturn, 1, [], 0, 0), (42, none, .lload_n 1, 1, [], 0, 0), (43, none, .lload_n 3, 1, [], 0, 0), (44, none, .lmul, 1, [], 0, 0), (45, none, .invokestatic 284, 3, [0, 217, 1, 2], 0, 0), (48, none, .lreturn, 1, [], 0, 0), (49, none, .lload_n 3, 1, [], 0, 0), (50, none, .lconst 0, 1, [], 0, 0), (51, none, .lcmp, 1, [], 0, 0), (52, none, .ifCond .ne 7, 3, [59], 0, 0), (55, none, .lconst 0, 1, [], 0, 0), (56, none, .goto 9, 3, [65], 0, 0), (59, none, .lload_n 1, 1, [], 0, 0), (60, none, .lload_n 3, 1, [], 0, 0), (61, none, .ldiv, 1, [], 0, 0), (62, none, .invokestatic 284, 3, [0, 217, 1, 2], 0, 0), (65, none, .lreturn, 1, [], 0, 0)]
def k_X11_isAsked : List EN := [(0, none, .iload_n 0, 1, [], 0, 0), (1, none, .bipush 10, 2, [], 10, 0), (3, none, .if_icmp .ne 17, 3, [20], 0, 0), (6, none, .lload_n 1, 1, [], 0, 0), (7, none, .lload_n 3, 1, [], 0, 0), (8, none, .lcmp, 1, [], 0, 0), (9, none, .ifCond .ge 7, 3, [16], 0, 0), (12, none, .iconst 1, 1, [], 1, 0), (13, none, .goto 98, 3, [111], 0, 0), (16, none, .iconst 0, 1, [], 0, 0), (17, none, .goto 94, 3, [111], 0, 0), (20, none, .iload_n 0, 1, [], 0, 0), (21, none, .bipush 11, 2, [], 11, 0), (23, none, .if_icmp .ne 17, 3, [40], 0, 0), (26, none, .lload_n 1, 1, [], 0, 0), (27, none, .lload_n 3, 1, [], 0, 0), (28, none, .lcmp, 1, [], 0, 0), (29, none, .ifCond .gt 7, 3, [36], 0, 0), (32, none, .iconst 1, 1, [], 1, 0), (33, none, .goto 78, 3, [111], 0, 0), (36, none, .iconst 0, 1, [], 0, 0), (37, none, .goto 74, 3, [111], 0, 0), (40, none, .iload_n 0, 1, [], 0, 0), (41, none, .bipush 12, 2, [], 12, 0), (43, none, .if_icmp .ne 17, 3, [60], 0, 0), (46, none, .lload_n 1, 1, [], 0, 0), (47, none, .lload_n 3, 1, [], 0, 0), (48, none, .lcmp, 1, [], 0, 0), (49, none, .ifCond .le 7, 3, [56], 0, 0), (52, none, .iconst 1, 1, [], 1, 0), (53, none, .goto 58, 3, [111], 0, 0), (56, none, .iconst 0, 1, [], 0, 0), (57, none, .goto 54, 3, [111], 0, 0), (60, none, .iload_n 0, 1, [], 0, 0), (61, none, .bipush 13, 2, [], 13, 0), (63, none, .if_icmp .ne 17, 3, [80], 0, 0), (66, none, .lload_n 1, 1, [], 0, 0), (67, none, .lload_n 3, 1, [], 0, 0), (68, none, .lcmp, 1, [], 0, 0), (69, none, .ifCond .lt 7, 3, [76], 0, 0), (72, none, .iconst 1, 1, [], 1, 0), (73, none, .goto 38, 3, [111], 0, 0), (76, none, .iconst 0, 1, [], 0, 0), (77, none, .goto 34, 3, [111], 0, 0), (80, none, .iload_n 0, 1, [], 0, 0), (81, none, .bipush 14, 2, [], 14, 0), (83, none, .if_icmp .ne 17, 3, [100], 0, 0), (86, none, .lload_n 1, 1, [], 0, 0), (87, none, .lload_n 3, 1, [], 0, 0), (88, none, .lcmp, 1, [], 0, 0), (89, none, .ifCond .ne 7, 3, [96], 0, 0), (92, none, .iconst 1, 1, [], 1, 0), (93, none, .goto 18, 3, [111], 0, 0), (96, none, .iconst 0, 1, [], 0, 0), (97, none, .goto 14, 3, [111], 0, 0), (100, none, .lload_n 1, 1, [], 0, 0), (101, none, .lload_n 3, 1, [], 0, 0), (102, none, .lcmp, 1, [], 0, 0), (103, none, .ifCond .eq 7, 3, [110], 0, 0), (106, none, .iconst 1, 1, [], 1, 0), (107, none, .goto 4, 3, [111], 0, 0), (110, none, .iconst 0, 1, [], 0, 0), (111, none, .ireturn, 1, [], 0, 0)]
def k_X11_seatSlant : List EN := [(0, none, .lload_n 1, 1, [], 0, 0), (1, none, .lconst 0, 1, [], 0, 0), (2, none, .lcmp, 1, [], 0, 0), (3, none, .ifCond .lt 25, 3, [28], 0, 0), (6, none, .lload_n 1, 1, [], 0, 0), (7, none, .aload_n 0, 1, [], 0, 0), (8, none, .getfield 7, 3, [11, 0, 2], 0, 0), (11, none, .iconst 0, 1, [], 0, 0), (12, none, .iaload, 1, [], 0, 0), (13, none, .i2l, 1, [], 0, 0), (14, none, .lcmp, 1, [], 0, 0), (15, none, .ifCond .ge 13, 3, [28], 0, 0), (18, none, .aload_n 0, 1, [], 0, 0), (19, none, .lload_n 1, 1, [], 0, 0), (20, none, .l2i, 1, [], 0, 0), (21, none, .invokevirtual 288, 3, [1, 170, 1, 1, 11], 0, 0), (24, none, .i2l, 1, [], 0, 0), (25, none, .goto 4, 3, [29], 0, 0), (28, none, .lconst 0, 1, [], 0, 0), (29, none, .lreturn, 1, [], 0, 0)]
def k_X11_stepOf : List EN := [(0, none, .lload_n 0, 1, [], 0, 0), (1, none, .lload_n 2, 1, [], 0, 0), (2, none, .lcmp, 1, [], 0, 0), (3, none, .ifCond .ge 9, 3, [12], 0, 0), (6, none, .lload_n 0, 1, [], 0, 0), (7, none, .lconst 1, 1, [], 0, 1), (8, none, .ladd, 1, [], 0, 0), (9, none, .goto 16, 3, [25], 0, 0), (12, none, .lload_n 0, 1, [], 0, 0), (13, none, .lload_n 2, 1, [], 0, 0), (14, none, .lcmp, 1, [], 0, 0), (15, none, .ifCond .le 9, 3, [24], 0, 0), (18, none, .lload_n 0, 1, [], 0, 0), (19, none, .lconst 1, 1, [], 0, 1), (20, none, .lsub, 1, [], 0, 0), (21, none, .goto 4, 3, [25], 0, 0), (24, none, .lload_n 0, 1, [], 0, 0), (25, none, .lreturn, 1, [], 0, 0)]
def k_X11_joined : List EN := [(0, none, .iload_n 0, 1, [], 0, 0), (1, none, .bipush 21, 2, [], 21, 0), (3, none, .if_icmp .ne 19, 3, [22], 0, 0), (6, none, .iload_n 1, 1, [], 0, 0), (7, none, .ifCond .eq 11, 3, [18], 0, 0), (10, none, .iload_n 2, 1, [], 0, 0), (11, none, .ifCond .eq 7, 3, [18], 0, 0), (14, none, .iconst 1, 1, [], 1, 0), (15, none, .goto 20, 3, [35], 0, 0), (18, none, .iconst 0, 1, [], 0, 0), (19, none, .goto 16, 3, [35], 0, 0), (22, none, .iload_n 1, 1, [], 0, 0), (23, none, .ifCond .ne 7, 3, [30], 0, 0), (26, none, .iload_n 2, 1, [], 0, 0), (27, none, .ifCond .eq 7, 3, [34], 0, 0), (30, none, .iconst 1, 1, [], 1, 0), (31, none, .goto 4, 3, [35], 0, 0), (34, none, .iconst 0, 1, [], 0, 0), (35, none, .ireturn, 1, [], 0, 0)]
def k_X11_summedUp_0 : List EN := [(0, none, .sipush 681, 3, [], 681, 0), (3, none, .iload_n 1, 1, [], 0, 0), (4, none, .imul, 1, [], 0, 0), (5, none, .iconst 1, 1, [], 1, 0), (6, none, .iadd, 1, [], 0, 0), (7, none, .iconst 3, 1, [], 3, 0), (8, none, .iload_n 2, 1, [], 0, 0), (9, none, .imul, 1, [], 0, 0), (10, none, .iadd, 1, [], 0, 0), (11, none, .istore_n 3, 1, [], 0, 0), (12, none, .sipush 681, 3, [], 681, 0), (15, none, .iload_n 1, 1, [], 0, 0), (16, none, .imul, 1, [], 0, 0), (17, none, .bipush 73, 2, [], 73, 0), (19, none, .iadd, 1, [], 0, 0), (20, none, .istore 4, 2, [], 0, 0), (22, none, .iconst 0, 1, [], 0, 0), (23, none, .istore 5, 2, [], 0, 0), (25, none, .iconst 0, 1, [], 0, 0), (26, none, .istore 6, 2, [], 0, 0), (28, none, .aload_n 0, 1, [], 0, 0), (29, none, .getfield 16, 3, [11, 2, 2], 0, 0), (32, none, .iload_n 3, 1, [], 0, 0), (33, none, .iconst 1, 1, [], 1, 0), (34, none, .iadd, 1, [], 0, 0), (35, none, .iaload, 1, [], 0, 0), (36, none, .istore 7, 2, [], 0, 0), (38, some [0, 3, 4, 5, 6, 7], .iload 7, 2, [], 0, 0), (40, none, .aload_n 0, 1, [], 0, 0), (41, none, .getfield 16, 3, [11, 2, 2], 0, 0), (44, none, .iload_n 3, 1, [], 0, 0), (45, none, .iconst 2, 1, [], 2, 0), (46, none, .iadd, 1, [], 0, 0), (47, none, .iaload, 1, [], 0, 0), (48, none, .if_icmp .ge 358, 3, [406], 0, 0), (51, none, .aload_n 0, 1, [], 0, 0), (52, none, .getfield 16, 3, [11, 2, 2], 0, 0), (55, none, .iload 4, 2, [], 0, 0), (57, none, .iconst 2, 1, [], 2, 0), (58, none, .iload 7, 2, [], 0, 0), (60, none, .imul, 1, [], 0, 0), (61, none, .iadd, 1, [], 0, 0), (62, none, .iaload, 1, [], 0, 0), (63, none, .istore 8, 2, [], 0, 0), (65, none, .aload_n 0, 1, [], 0, 0), (66, none, .getfield 16, 3, [11, 2, 2], 0, 0), (69, none, .iload 4, 2, [], 0, 0), (71, none, .iconst 2, 1, [], 2, 0), (72, none, .iload 7, 2, [], 0, 0), (74, none, .imul, 1, [], 0, 0), (75, none, .iadd, 1, [], 0, 0), (76, none, .iconst 1, 1, [], 1, 0), (77, none, .iadd, 1, [], 0, 0), (78, none, .iaload, 1, [], 0, 0), (79, none, .istore 9, 2, [], 0, 0), (81, none, .iload 8, 2, [], 0, 0), (83, none, .iconst 1, 1, [], 1, 0), (84, none, .if_icmp .gt 35, 3, [119], 0, 0), (87, none, .aload_n 0, 1, [], 0, 0), (88, none, .getfield 35, 3, [11, 21, 2], 0, 0), (91, none, .iload 5, 2, [], 0, 0), (93, none, .iload 8, 2, [], 0, 0), (95, none, .ifCond .ne 9, 3, [104], 0, 0), (98, none, .iload 9, 2, [], 0, 0), (100, none, .i2l, 1, [], 0, 0), (101, none, .goto 11, 3, [112], 0, 0), (104, none, .aload_n 0, 1, [], 0, 0), (105, none, .getfield 32, 3, [11, 20, 2], 0, 0), (108, none, .iload 9, 2, [], 0, 0), (110, none, .iaload, 1, [], 0, 0), (111, none, .i2l, 1, [], 0, 0), (112, none, .lastore, 1, [], 0, 0), (113, none, .iinc 5 1, 3, [], 1, 0), (116, none, .goto 284, 3, [400], 0, 0), (119, none, .iload 8, 2, [], 0, 0), (121, none, .iconst 3, 1, [], 3, 0), (122, none, .if_icmp .ne 38, 3, [160], 0, 0), (125, none, .iinc 5 (-1), 3, [], (-1), 0), (128, none, .iinc 6 (-1), 3, [], (-1), 0), (131, none, .aload_n 0, 1, [], 0, 0), (132, none, .getfield 39, 3, [11, 22, 2], 0, 0), (135, none, .iload 6, 2, [], 0, 0), (137, none, .baload, 1, [], 0, 0), (138, none, .ifCond .ne 262, 3, [400], 0, 0), (141, none, .aload_n 0, 1, [], 0, 0), (142, none, .getfield 35, 3, [11, 21, 2], 0, 0), (145, none, .iload 5, 2, [], 0, 0), (147, none, .iconst 1, 1, [], 1, 0), (148, none, .isub, 1, [], 0, 0), (149, none, .aload_n 0, 1, [], 0, 0), (150, none, .getfield 35, 3, [11, 21, 2], 0, 0), (153, none, .iload 5, 2, [], 0, 0), (155, none, .laload, 1, [], 0, 0), (156, none, .lastore, 1, [], 0, 0), (157, none, .goto 243, 3, [400], 0, 0), (160, none, .iload 8, 2, [], 0, 0), (162, none, .iconst 5, 1, [], 5, 0), (163, none, .if_icmp .eq 9, 3, [172], 0, 0), (166, none, .iload 8, 2, [], 0, 0), (168, none, .iconst 2, 1, [], 2, 0)]
def k_X11_summedUp_1 : List EN := [(169, none, .if_icmp .ne 47, 3, [216], 0, 0), (172, some [0, 3, 4, 5, 6, 7, 8], .aload_n 0, 1, [], 0, 0), (173, none, .getfield 35, 3, [11, 21, 2], 0, 0), (176, none, .iload 5, 2, [], 0, 0), (178, none, .iconst 1, 1, [], 1, 0), (179, none, .isub, 1, [], 0, 0), (180, none, .iload 8, 2, [], 0, 0), (182, none, .iconst 5, 1, [], 5, 0), (183, none, .if_icmp .ne 16, 3, [199], 0, 0), (186, none, .aload_n 0, 1, [], 0, 0), (187, none, .getfield 35, 3, [11, 21, 2], 0, 0), (190, none, .iload 5, 2, [], 0, 0), (192, none, .iconst 1, 1, [], 1, 0), (193, none, .isub, 1, [], 0, 0), (194, none, .laload, 1, [], 0, 0), (195, none, .lneg, 1, [], 0, 0), (196, none, .goto 16, 3, [212], 0, 0), (199, none, .aload_n 0, 1, [], 0, 0), (200, none, .aload_n 0, 1, [], 0, 0), (201, none, .getfield 35, 3, [11, 21, 2], 0, 0), (204, none, .iload 5, 2, [], 0, 0), (206, none, .iconst 1, 1, [], 1, 0), (207, none, .isub, 1, [], 0, 0), (208, none, .laload, 1, [], 0, 0), (209, none, .invokevirtual 291, 3, [1, 220, 1, 2, 11], 0, 0), (212, some [0, 3, 4, 5, 6, 7], .lastore, 1, [], 0, 0), (213, none, .goto 187, 3, [400], 0, 0), (216, none, .iload 8, 2, [], 0, 0), (218, none, .bipush 10, 2, [], 10, 0), (220, none, .if_icmp .ge 67, 3, [287], 0, 0), (223, none, .iinc 5 (-1), 3, [], (-1), 0), (226, none, .aload_n 0, 1, [], 0, 0), (227, none, .getfield 35, 3, [11, 21, 2], 0, 0), (230, none, .iload 5, 2, [], 0, 0), (232, none, .iconst 1, 1, [], 1, 0), (233, none, .isub, 1, [], 0, 0), (234, none, .iload 8, 2, [], 0, 0), (236, none, .iconst 4, 1, [], 4, 0), (237, none, .if_icmp .ne 25, 3, [262], 0, 0), (240, none, .aload_n 0, 1, [], 0, 0), (241, none, .getfield 35, 3, [11, 21, 2], 0, 0), (244, none, .iload 5, 2, [], 0, 0), (246, none, .iconst 1, 1, [], 1, 0), (247, none, .isub, 1, [], 0, 0), (248, none, .laload, 1, [], 0, 0), (249, none, .aload_n 0, 1, [], 0, 0), (250, none, .getfield 35, 3, [11, 21, 2], 0, 0), (253, none, .iload 5, 2, [], 0, 0), (255, none, .laload, 1, [], 0, 0), (256, none, .invokestatic 294, 3, [0, 221, 2, 2], 0, 0), (259, some [0, 3, 4, 5, 6, 7], .goto 24, 3, [283], 0, 0), (262, none, .iload 8, 2, [], 0, 0), (264, none, .aload_n 0, 1, [], 0, 0), (265, none, .getfield 35, 3, [11, 21, 2], 0, 0), (268, none, .iload 5, 2, [], 0, 0), (270, none, .iconst 1, 1, [], 1, 0), (271, none, .isub, 1, [], 0, 0), (272, none, .laload, 1, [], 0, 0), (273, none, .aload_n 0, 1, [], 0, 0), (274, none, .getfield 35, 3, [11, 21, 2], 0, 0), (277, none, .iload 5, 2, [], 0, 0), (279, none, .laload, 1, [], 0, 0), (280, none, .invokestatic 298, 3, [0, 218, 3, 2], 0, 0), (283, some [0, 3, 4, 5, 6, 7], .lastore, 1, [], 0, 0), (284, none, .goto 116, 3, [400], 0, 0), (287, none, .iload 8, 2, [], 0, 0), (289, none, .bipush 20, 2, [], 20, 0), (291, none, .if_icmp .ge 40, 3, [331], 0, 0), (294, none, .iinc 5 (-2), 3, [], (-2), 0), (297, none, .aload_n 0, 1, [], 0, 0), (298, none, .getfield 39, 3, [11, 22, 2], 0, 0), (301, none, .iload 6, 2, [], 0, 0), (303, none, .iload 8, 2, [], 0, 0), (305, none, .aload_n 0, 1, [], 0, 0), (306, none, .getfield 35, 3, [11, 21, 2], 0, 0), (309, none, .iload 5, 2, [], 0, 0), (311, none, .laload, 1, [], 0, 0), (312, none, .aload_n 0, 1, [], 0, 0), (313, none, .getfield 35, 3, [11, 21, 2], 0, 0), (316, none, .iload 5, 2, [], 0, 0), (318, none, .iconst 1, 1, [], 1, 0), (319, none, .iadd, 1, [], 0, 0), (320, none, .laload, 1, [], 0, 0), (321, none, .invokestatic 302, 3, [0, 219, 3, 1], 0, 0), (324, some [0, 3, 4, 5, 6, 7], .bastore, 1, [], 0, 0), (325, none, .iinc 6 1, 3, [], 1, 0), (328, none, .goto 72, 3, [400], 0, 0), (331, none, .iload 8, 2, [], 0, 0), (333, none, .bipush 20, 2, [], 20, 0), (335, none, .if_icmp .ne 32, 3, [367], 0, 0), (338, none, .aload_n 0, 1, [], 0, 0), (339, none, .getfield 39, 3, [11, 22, 2], 0, 0), (342, none, .iload 6, 2, [], 0, 0), (344, none, .iconst 1, 1, [], 1, 0), (345, none, .isub, 1, [], 0, 0), (346, none, .aload_n 0, 1, [], 0, 0), (347, none, .getfield 39, 3, [11, 22, 2], 0, 0), (350, none, .iload 6, 2, [], 0, 0), (352, none, .iconst 1, 1, [], 1, 0), (353, none, .isub, 1, [], 0, 0)]
def k_X11_summedUp_2 : List EN := [(354, none, .baload, 1, [], 0, 0), (355, none, .ifCond .ne 7, 3, [362], 0, 0), (358, none, .iconst 1, 1, [], 1, 0), (359, none, .goto 4, 3, [363], 0, 0), (362, none, .iconst 0, 1, [], 0, 0), (363, none, .bastore, 1, [], 0, 0), (364, none, .goto 36, 3, [400], 0, 0), (367, none, .iinc 6 (-1), 3, [], (-1), 0), (370, none, .aload_n 0, 1, [], 0, 0), (371, none, .getfield 39, 3, [11, 22, 2], 0, 0), (374, none, .iload 6, 2, [], 0, 0), (376, none, .iconst 1, 1, [], 1, 0), (377, none, .isub, 1, [], 0, 0), (378, none, .iload 8, 2, [], 0, 0), (380, none, .aload_n 0, 1, [], 0, 0), (381, none, .getfield 39, 3, [11, 22, 2], 0, 0), (384, none, .iload 6, 2, [], 0, 0), (386, none, .iconst 1, 1, [], 1, 0), (387, none, .isub, 1, [], 0, 0), (388, none, .baload, 1, [], 0, 0), (389, none, .aload_n 0, 1, [], 0, 0), (390, none, .getfield 39, 3, [11, 22, 2], 0, 0), (393, none, .iload 6, 2, [], 0, 0), (395, none, .baload, 1, [], 0, 0), (396, none, .invokestatic 306, 3, [0, 222, 3, 1], 0, 0), (399, some [0, 3, 4, 5, 6, 7], .bastore, 1, [], 0, 0), (400, none, .iinc 7 1, 3, [], 1, 0), (403, none, .goto (-365), 3, [38], 0, 0), (406, none, .aload_n 0, 1, [], 0, 0), (407, none, .getfield 35, 3, [11, 21, 2], 0, 0), (410, none, .iconst 0, 1, [], 0, 0), (411, none, .laload, 1, [], 0, 0), (412, none, .lreturn, 1, [], 0, 0)]
def k_X11_summedUp : List EN := k_X11_summedUp_0 ++ (k_X11_summedUp_1 ++ (k_X11_summedUp_2))
def k_X11_says : List EN := [(0, none, .iconst 0, 1, [], 0, 0), (1, none, .istore 5, 2, [], 0, 0), (3, some [0, 1, 2, 3, 4, 5], .iload_n 1, 1, [], 0, 0), (4, none, .ifCond .lt 61, 3, [65], 0, 0), (7, none, .iload 5, 2, [], 0, 0), (9, none, .aload_n 0, 1, [], 0, 0), (10, none, .getfield 16, 3, [11, 2, 2], 0, 0), (13, none, .sipush 681, 3, [], 681, 0), (16, none, .iload_n 1, 1, [], 0, 0), (17, none, .imul, 1, [], 0, 0), (18, none, .iaload, 1, [], 0, 0), (19, none, .if_icmp .ge 46, 3, [65], 0, 0), (22, none, .aload_n 0, 1, [], 0, 0), (23, none, .getfield 16, 3, [11, 2, 2], 0, 0), (26, none, .sipush 681, 3, [], 681, 0), (29, none, .iload_n 1, 1, [], 0, 0), (30, none, .imul, 1, [], 0, 0), (31, none, .iconst 1, 1, [], 1, 0), (32, none, .iadd, 1, [], 0, 0), (33, none, .iconst 3, 1, [], 3, 0), (34, none, .iload 5, 2, [], 0, 0), (36, none, .imul, 1, [], 0, 0), (37, none, .iadd, 1, [], 0, 0), (38, none, .iaload, 1, [], 0, 0), (39, none, .iload_n 2, 1, [], 0, 0), (40, none, .if_icmp .ne 19, 3, [59], 0, 0), (43, none, .aload_n 0, 1, [], 0, 0), (44, none, .iload_n 1, 1, [], 0, 0), (45, none, .iload 5, 2, [], 0, 0), (47, none, .invokevirtual 310, 3, [1, 223, 2, 2, 11], 0, 0), (50, none, .iload 4, 2, [], 0, 0), (52, none, .ineg, 1, [], 0, 0), (53, none, .iload 4, 2, [], 0, 0), (55, none, .invokestatic 313, 3, [0, 163, 3, 1], 0, 0), (58, none, .ireturn, 1, [], 0, 0), (59, none, .iinc 5 1, 3, [], 1, 0), (62, none, .goto (-59), 3, [3], 0, 0), (65, none, .iload_n 3, 1, [], 0, 0), (66, none, .i2l, 1, [], 0, 0), (67, none, .iload 4, 2, [], 0, 0), (69, none, .ineg, 1, [], 0, 0), (70, none, .iload 4, 2, [], 0, 0), (72, none, .invokestatic 313, 3, [0, 163, 3, 1], 0, 0), (75, none, .ireturn, 1, [], 0, 0)]
def k_X11_name : List EN := [(0, none, .aload_n 0, 1, [], 0, 0), (1, none, .getfield 32, 3, [11, 20, 2], 0, 0), (4, none, .iconst 0, 1, [], 0, 0), (5, none, .aload_n 0, 1, [], 0, 0), (6, none, .getfield 7, 3, [11, 0, 2], 0, 0), (9, none, .bipush 7, 2, [], 7, 0), (11, none, .iaload, 1, [], 0, 0), (12, none, .iastore, 1, [], 0, 0), (13, none, .aload_n 0, 1, [], 0, 0), (14, none, .getfield 32, 3, [11, 20, 2], 0, 0), (17, none, .iconst 1, 1, [], 1, 0), (18, none, .aload_n 0, 1, [], 0, 0), (19, none, .getfield 7, 3, [11, 0, 2], 0, 0), (22, none, .bipush 9, 2, [], 9, 0), (24, none, .iaload, 1, [], 0, 0), (25, none, .iastore, 1, [], 0, 0), (26, none, .aload_n 0, 1, [], 0, 0), (27, none, .getfield 32, 3, [11, 20, 2], 0, 0), (30, none, .iconst 2, 1, [], 2, 0), (31, none, .aload_n 0, 1, [], 0, 0), (32, none, .getfield 7, 3, [11, 0, 2], 0, 0), (35, none, .bipush 22, 2, [], 22, 0), (37, none, .iload_n 1, 1, [], 0, 0), (38, none, .iadd, 1, [], 0, 0), (39, none, .iaload, 1, [], 0, 0), (40, none, .iastore, 1, [], 0, 0), (41, none, .aload_n 0, 1, [], 0, 0), (42, none, .getfield 32, 3, [11, 20, 2], 0, 0), (45, none, .iconst 3, 1, [], 3, 0), (46, none, .iload_n 1, 1, [], 0, 0), (47, none, .iastore, 1, [], 0, 0), (48, none, .aload_n 0, 1, [], 0, 0), (49, none, .getfield 32, 3, [11, 20, 2], 0, 0), (52, none, .iconst 4, 1, [], 4, 0), (53, none, .aload_n 0, 1, [], 0, 0), (54, none, .getfield 7, 3, [11, 0, 2], 0, 0), (57, none, .bipush 12, 2, [], 12, 0), (59, none, .iload_n 1, 1, [], 0, 0), (60, none, .iadd, 1, [], 0, 0), (61, none, .iaload, 1, [], 0, 0), (62, none, .iastore, 1, [], 0, 0), (63, none, .return_, 1, [], 0, 0)]
def k_X11_leansOf : List EN := [(0, none, .aload_n 0, 1, [], 0, 0), (1, none, .iload_n 2, 1, [], 0, 0), (2, none, .invokevirtual 317, 3, [1, 171, 1, 1, 11], 0, 0), (5, some [0, 1, 2], .istore_n 3, 1, [], 0, 0), (6, none, .aload_n 0, 1, [], 0, 0), (7, none, .iload_n 2, 1, [], 0, 0), (8, none, .invokevirtual 320, 3, [1, 225, 1, 0, 11], 0, 0), (11, some [0, 1, 2, 3], .aload_n 0, 1, [], 0, 0), (12, none, .getfield 32, 3, [11, 20, 2], 0, 0), (15, none, .iconst 5, 1, [], 5, 0), (16, none, .aload_n 0, 1, [], 0, 0), (17, none, .iload_n 3, 1, [], 0, 0), (18, none, .iconst 1, 1, [], 1, 0), (19, none, .isub, 1, [], 0, 0), (20, none, .invokevirtual 288, 3, [1, 170, 1, 1, 11], 0, 0), (23, some [0, 1, 2, 3], .iastore, 1, [], 0, 0), (24, none, .aload_n 0, 1, [], 0, 0), (25, none, .getfield 32, 3, [11, 20, 2], 0, 0), (28, none, .bipush 6, 2, [], 6, 0), (30, none, .aload_n 0, 1, [], 0, 0), (31, none, .iload_n 3, 1, [], 0, 0), (32, none, .iconst 1, 1, [], 1, 0), (33, none, .iadd, 1, [], 0, 0), (34, none, .invokevirtual 288, 3, [1, 170, 1, 1, 11], 0, 0), (37, some [0, 1, 2], .iastore, 1, [], 0, 0), (38, none, .aload_n 0, 1, [], 0, 0), (39, none, .iload_n 1, 1, [], 0, 0), (40, none, .iconst 0, 1, [], 0, 0), (41, none, .aload_n 0, 1, [], 0, 0), (42, none, .getfield 7, 3, [11, 0, 2], 0, 0), (45, none, .bipush 12, 2, [], 12, 0), (47, none, .iload_n 2, 1, [], 0, 0), (48, none, .iadd, 1, [], 0, 0), (49, none, .iaload, 1, [], 0, 0), (50, none, .i2l, 1, [], 0, 0), (51, none, .aload_n 0, 1, [], 0, 0), (52, none, .getfield 7, 3, [11, 0, 2], 0, 0), (55, none, .bipush 9, 2, [], 9, 0), (57, none, .iaload, 1, [], 0, 0), (58, none, .i2l, 1, [], 0, 0), (59, none, .invokestatic 294, 3, [0, 221, 2, 2], 0, 0), (62, some [], .l2i, 1, [], 0, 0), (63, none, .bipush 9, 2, [], 9, 0), (65, none, .invokevirtual 323, 3, [1, 224, 4, 1, 11], 0, 0), (68, none, .ireturn, 1, [], 0, 0)]
def k_X11_hearsOf : List EN := [(0, none, .aload_n 0, 1, [], 0, 0), (1, none, .iload_n 1, 1, [], 0, 0), (2, none, .invokevirtual 320, 3, [1, 225, 1, 0, 11], 0, 0), (5, some [0, 1, 2, 3], .aload_n 0, 1, [], 0, 0), (6, none, .getfield 32, 3, [11, 20, 2], 0, 0), (9, none, .bipush 7, 2, [], 7, 0), (11, none, .iload_n 3, 1, [], 0, 0), (12, none, .iastore, 1, [], 0, 0), (13, none, .aload_n 0, 1, [], 0, 0), (14, none, .getfield 32, 3, [11, 20, 2], 0, 0), (17, none, .bipush 8, 2, [], 8, 0), (19, none, .aload_n 0, 1, [], 0, 0), (20, none, .getfield 7, 3, [11, 0, 2], 0, 0), (23, none, .bipush 12, 2, [], 12, 0), (25, none, .iload_n 2, 1, [], 0, 0), (26, none, .iadd, 1, [], 0, 0), (27, none, .iaload, 1, [], 0, 0), (28, none, .iastore, 1, [], 0, 0), (29, none, .aload_n 0, 1, [], 0, 0), (30, none, .aload_n 0, 1, [], 0, 0), (31, none, .getfield 7, 3, [11, 0, 2], 0, 0), (34, none, .iconst 2, 1, [], 2, 0), (35, none, .iaload, 1, [], 0, 0), (36, none, .iconst 1, 1, [], 1, 0), (37, none, .iload_n 3, 1, [], 0, 0), (38, none, .aload_n 0, 1, [], 0, 0), (39, none, .getfield 7, 3, [11, 0, 2], 0, 0), (42, none, .bipush 12, 2, [], 12, 0), (44, none, .iload_n 2, 1, [], 0, 0), (45, none, .iadd, 1, [], 0, 0), (46, none, .iaload, 1, [], 0, 0), (47, none, .iadd, 1, [], 0, 0), (48, none, .aload_n 0, 1, [], 0, 0), (49, none, .getfield 7, 3, [11, 0, 2], 0, 0), (52, none, .bipush 12, 2, [], 12, 0), (54, none, .iload_n 1, 1, [], 0, 0), (55, none, .iadd, 1, [], 0, 0), (56, none, .iaload, 1, [], 0, 0), (57, none, .isub, 1, [], 0, 0), (58, none, .sipush 999, 3, [], 999, 0), (61, none, .invokevirtual 323, 3, [1, 224, 4, 1, 11], 0, 0), (64, none, .ireturn, 1, [], 0, 0)]
def k_X11_write : List EN := [(0, none, .aload_n 0, 1, [], 0, 0), (1, none, .dup, 1, [], 0, 0), (2, none, .getfield 327, 3, [11, 24, 0], 0, 0), (5, none, .iconst 1, 1, [], 1, 0), (6, none, .iadd, 1, [], 0, 0), (7, none, .putfield 327, 3, [11, 24, 0], 0, 0), (10, none, .aload_n 0, 1, [], 0, 0), (11, none, .getfield 43, 3, [11, 23, 3], 0, 0), (14, none, .ifCond .ne 4, 3, [18], 0, 0), (17, none, .return_, 1, [], 0, 0), (18, none, .aload_n 0, 1, [], 0, 0), (19, none, .getfield 7, 3, [11, 0, 2], 0, 0), (22, none, .bipush 11, 2, [], 11, 0), (24, none, .iaload, 1, [], 0, 0), (25, none, .bipush 30, 2, [], 30, 0), (27, none, .if_icmp .ne 50, 3, [77], 0, 0), (30, none, .iconst 1, 1, [], 1, 0), (31, none, .istore_n 2, 1, [], 0, 0), (32, some [0, 1, 2], .iload_n 2, 1, [], 0, 0), (33, none, .bipush 30, 2, [], 30, 0), (35, none, .if_icmp .ge 31, 3, [66], 0, 0), (38, none, .aload_n 0, 1, [], 0, 0), (39, none, .getfield 7, 3, [11, 0, 2], 0, 0), (42, none, .sipush 1456, 3, [], 1456, 0), (45, none, .iload_n 2, 1, [], 0, 0), (46, none, .iadd, 1, [], 0, 0), (47, none, .iconst 1, 1, [], 1, 0), (48, none, .isub, 1, [], 0, 0), (49, none, .aload_n 0, 1, [], 0, 0), (50, none, .getfield 7, 3, [11, 0, 2], 0, 0), (53, none, .sipush 1456, 3, [], 1456, 0), (56, none, .iload_n 2, 1, [], 0, 0), (57, none, .iadd, 1, [], 0, 0), (58, none, .iaload, 1, [], 0, 0), (59, none, .iastore, 1, [], 0, 0), (60, none, .iinc 2 1, 3, [], 1, 0), (63, none, .goto (-31), 3, [32], 0, 0), (66, none, .aload_n 0, 1, [], 0, 0), (67, none, .getfield 7, 3, [11, 0, 2], 0, 0), (70, none, .bipush 11, 2, [], 11, 0), (72, none, .dup2, 1, [], 0, 0), (73, none, .iaload, 1, [], 0, 0), (74, none, .iconst 1, 1, [], 1, 0), (75, none, .isub, 1, [], 0, 0), (76, none, .iastore, 1, [], 0, 0), (77, some [0, 1], .aload_n 0, 1, [], 0, 0), (78, none, .getfield 7, 3, [11, 0, 2], 0, 0), (81, none, .sipush 1456, 3, [], 1456, 0), (84, none, .aload_n 0, 1, [], 0, 0), (85, none, .getfield 7, 3, [11, 0, 2], 0, 0), (88, none, .bipush 11, 2, [], 11, 0), (90, none, .iaload, 1, [], 0, 0), (91, none, .iadd, 1, [], 0, 0), (92, none, .aload_n 0, 1, [], 0, 0), (93, none, .getfield 7, 3, [11, 0, 2], 0, 0), (96, none, .bipush 7, 2, [], 7, 0), (98, none, .iaload, 1, [], 0, 0), (99, none, .iconst 5, 1, [], 5, 0), (100, none, .imul, 1, [], 0, 0), (101, none, .iload_n 1, 1, [], 0, 0), (102, none, .iadd, 1, [], 0, 0), (103, none, .bipush 19, 2, [], 19, 0), (105, none, .imul, 1, [], 0, 0), (106, none, .aload_n 0, 1, [], 0, 0), (107, none, .getfield 7, 3, [11, 0, 2], 0, 0), (110, none, .bipush 9, 2, [], 9, 0), (112, none, .iaload, 1, [], 0, 0), (113, none, .iadd, 1, [], 0, 0), (114, none, .bipush 9, 2, [], 9, 0), (116, none, .iadd, 1, [], 0, 0), (117, none, .iastore, 1, [], 0, 0), (118, none, .aload_n 0, 1, [], 0, 0), (119, none, .getfield 7, 3, [11, 0, 2], 0, 0), (122, none, .bipush 11, 2, [], 11, 0), (124, none, .dup2, 1, [], 0, 0), (125, none, .iaload, 1, [], 0, 0), (126, none, .iconst 1, 1, [], 1, 0), (127, none, .iadd, 1, [], 0, 0), (128, none, .iastore, 1, [], 0, 0), (129, none, .return_, 1, [], 0, 0)]
def k_X11_anew : List EN := [(0, none, .aload_n 0, 1, [], 0, 0), (1, none, .getfield 7, 3, [11, 0, 2], 0, 0), (4, none, .bipush 8, 2, [], 8, 0), (6, none, .aload_n 0, 1, [], 0, 0), (7, none, .getfield 7, 3, [11, 0, 2], 0, 0), (10, none, .bipush 8, 2, [], 8, 0), (12, none, .iaload, 1, [], 0, 0), (13, none, .i2l, 1, [], 0, 0), (14, none, .ldc2_w 330, 3, [], 0, 577), (17, none, .lmul, 1, [], 0, 0), (18, none, .ldc2_w 332, 3, [], 0, 449), (21, none, .ladd, 1, [], 0, 0), (22, none, .ldc2_w 334, 3, [], 0, 30809), (25, none, .lrem, 1, [], 0, 0), (26, none, .l2i, 1, [], 0, 0), (27, none, .iastore, 1, [], 0, 0), (28, none, .return_, 1, [], 0, 0)]
def k_X11_leanAll : List EN := [(0, none, .iconst 0, 1, [], 0, 0), (1, none, .istore_n 1, 1, [], 0, 0), (2, some [0, 1], .iload_n 1, 1, [], 0, 0), (3, none, .aload_n 0, 1, [], 0, 0), (4, none, .getfield 7, 3, [11, 0, 2], 0, 0), (7, none, .iconst 0, 1, [], 0, 0), (8, none, .iaload, 1, [], 0, 0), (9, none, .if_icmp .ge 87, 3, [96], 0, 0), (12, none, .aload_n 0, 1, [], 0, 0), (13, none, .getfield 7, 3, [11, 0, 2], 0, 0), (16, none, .bipush 10, 2, [], 10, 0), (18, none, .iaload, 1, [], 0, 0), (19, none, .iload_n 1, 1, [], 0, 0), (20, none, .invokestatic 266, 3, [0, 165, 2, 1], 0, 0), (23, some [0, 1], .ifCond .eq 6, 3, [29], 0, 0), (26, none, .goto 64, 3, [90], 0, 0), (29, none, .aload_n 0, 1, [], 0, 0), (30, none, .getfield 7, 3, [11, 0, 2], 0, 0), (33, none, .bipush 17, 2, [], 17, 0), (35, none, .iload_n 1, 1, [], 0, 0), (36, none, .iadd, 1, [], 0, 0), (37, none, .iaload, 1, [], 0, 0), (38, none, .istore_n 2, 1, [], 0, 0), (39, none, .aload_n 0, 1, [], 0, 0), (40, none, .getfield 7, 3, [11, 0, 2], 0, 0), (43, none, .bipush 12, 2, [], 12, 0), (45, none, .iload_n 2, 1, [], 0, 0), (46, none, .iadd, 1, [], 0, 0), (47, none, .iaload, 1, [], 0, 0), (48, none, .istore_n 3, 1, [], 0, 0), (49, none, .aload_n 0, 1, [], 0, 0), (50, none, .getfield 7, 3, [11, 0, 2], 0, 0), (53, none, .bipush 12, 2, [], 12, 0), (55, none, .iload_n 2, 1, [], 0, 0), (56, none, .iadd, 1, [], 0, 0), (57, none, .aload_n 0, 1, [], 0, 0), (58, none, .aload_n 0, 1, [], 0, 0), (59, none, .getfield 7, 3, [11, 0, 2], 0, 0), (62, none, .iconst 2, 1, [], 2, 0), (63, none, .iaload, 1, [], 0, 0), (64, none, .iload_n 2, 1, [], 0, 0), (65, none, .invokevirtual 336, 3, [1, 226, 2, 1, 11], 0, 0), (68, some [0, 1, 2, 3], .iastore, 1, [], 0, 0), (69, none, .aload_n 0, 1, [], 0, 0), (70, none, .getfield 7, 3, [11, 0, 2], 0, 0), (73, none, .bipush 12, 2, [], 12, 0), (75, none, .iload_n 2, 1, [], 0, 0), (76, none, .iadd, 1, [], 0, 0), (77, none, .iaload, 1, [], 0, 0), (78, none, .ifCond .ne 12, 3, [90], 0, 0), (81, none, .iload_n 3, 1, [], 0, 0), (82, none, .ifCond .eq 8, 3, [90], 0, 0), (85, none, .aload_n 0, 1, [], 0, 0), (86, none, .iload_n 2, 1, [], 0, 0), (87, none, .invokevirtual 339, 3, [1, 228, 1, 0, 11], 0, 0), (90, none, .iinc 1 1, 3, [], 1, 0), (93, none, .goto (-91), 3, [2], 0, 0), (96, none, .return_, 1, [], 0, 0)]
def k_X11_pass : List EN := [(0, none, .aload_n 0, 1, [], 0, 0), (1, none, .getfield 7, 3, [11, 0, 2], 0, 0), (4, none, .bipush 9, 2, [], 9, 0), (6, none, .aload_n 0, 1, [], 0, 0), (7, none, .getfield 7, 3, [11, 0, 2], 0, 0), (10, none, .bipush 8, 2, [], 8, 0), (12, none, .iaload, 1, [], 0, 0), (13, none, .bipush 19, 2, [], 19, 0), (15, none, .irem, 1, [], 0, 0), (16, none, .bipush 9, 2, [], 9, 0), (18, none, .isub, 1, [], 0, 0), (19, none, .iastore, 1, [], 0, 0), (20, none, .aload_n 0, 1, [], 0, 0), (21, none, .invokevirtual 342, 3, [1, 229, 0, 0, 11], 0, 0), (24, some [0], .aload_n 0, 1, [], 0, 0), (25, none, .invokevirtual 345, 3, [1, 230, 0, 0, 11], 0, 0), (28, some [0], .aload_n 0, 1, [], 0, 0), (29, none, .getfield 7, 3, [11, 0, 2], 0, 0), (32, none, .bipush 7, 2, [], 7, 0), (34, none, .dup2, 1, [], 0, 0), (35, none, .iaload, 1, [], 0, 0), (36, none, .iconst 1, 1, [], 1, 0), (37, none, .iadd, 1, [], 0, 0), (38, none, .iastore, 1, [], 0, 0), (39, none, .return_, 1, [], 0, 0)]
def k_X11_keep : List EN := [(0, none, .aload_n 0, 1, [], 0, 0), (1, none, .getfield 7, 3, [11, 0, 2], 0, 0), (4, none, .iconst 3, 1, [], 3, 0), (5, none, .iaload, 1, [], 0, 0), (6, none, .bipush 30, 2, [], 30, 0), (8, none, .if_icmp .ne 46, 3, [54], 0, 0), (11, none, .iconst 0, 1, [], 0, 0), (12, none, .istore_n 1, 1, [], 0, 0), (13, some [0, 1], .iload_n 1, 1, [], 0, 0), (14, none, .sipush 1334, 3, [], 1334, 0), (17, none, .if_icmp .ge 27, 3, [44], 0, 0), (20, none, .aload_n 0, 1, [], 0, 0), (21, none, .getfield 7, 3, [11, 0, 2], 0, 0), (24, none, .bipush 76, 2, [], 76, 0), (26, none, .iload_n 1, 1, [], 0, 0), (27, none, .iadd, 1, [], 0, 0), (28, none, .aload_n 0, 1, [], 0, 0), (29, none, .getfield 7, 3, [11, 0, 2], 0, 0), (32, none, .bipush 122, 2, [], 122, 0), (34, none, .iload_n 1, 1, [], 0, 0), (35, none, .iadd, 1, [], 0, 0), (36, none, .iaload, 1, [], 0, 0), (37, none, .iastore, 1, [], 0, 0), (38, none, .iinc 1 1, 3, [], 1, 0), (41, none, .goto (-28), 3, [13], 0, 0), (44, none, .aload_n 0, 1, [], 0, 0), (45, none, .getfield 7, 3, [11, 0, 2], 0, 0), (48, none, .iconst 3, 1, [], 3, 0), (49, none, .dup2, 1, [], 0, 0), (50, none, .iaload, 1, [], 0, 0), (51, none, .iconst 1, 1, [], 1, 0), (52, none, .isub, 1, [], 0, 0), (53, none, .iastore, 1, [], 0, 0), (54, some [0], .bipush 76, 2, [], 76, 0), (56, none, .bipush 46, 2, [], 46, 0), (58, none, .aload_n 0, 1, [], 0, 0), (59, none, .getfield 7, 3, [11, 0, 2], 0, 0), (62, none, .iconst 3, 1, [], 3, 0), (63, none, .iaload, 1, [], 0, 0), (64, none, .imul, 1, [], 0, 0), (65, none, .iadd, 1, [], 0, 0), (66, none, .istore_n 1, 1, [], 0, 0), (67, none, .aload_n 0, 1, [], 0, 0), (68, none, .getfield 7, 3, [11, 0, 2], 0, 0), (71, none, .iload_n 1, 1, [], 0, 0), (72, none, .aload_n 0, 1, [], 0, 0), (73, none, .getfield 7, 3, [11, 0, 2], 0, 0), (76, none, .iconst 0, 1, [], 0, 0), (77, none, .iaload, 1, [], 0, 0), (78, none, .iastore, 1, [], 0, 0), (79, none, .iconst 0, 1, [], 0, 0), (80, none, .istore_n 2, 1, [], 0, 0), (81, some [0, 1, 2], .iload_n 2, 1, [], 0, 0), (82, none, .bipush 15, 2, [], 15, 0), (84, none, .if_icmp .ge 28, 3, [112], 0, 0), (87, none, .aload_n 0, 1, [], 0, 0), (88, none, .getfield 7, 3, [11, 0, 2], 0, 0), (91, none, .iload_n 1, 1, [], 0, 0), (92, none, .iconst 1, 1, [], 1, 0), (93, none, .iadd, 1, [], 0, 0), (94, none, .iload_n 2, 1, [], 0, 0), (95, none, .iadd, 1, [], 0, 0), (96, none, .aload_n 0, 1, [], 0, 0), (97, none, .getfield 7, 3, [11, 0, 2], 0, 0), (100, none, .bipush 7, 2, [], 7, 0), (102, none, .iload_n 2, 1, [], 0, 0), (103, none, .iadd, 1, [], 0, 0), (104, none, .iaload, 1, [], 0, 0), (105, none, .iastore, 1, [], 0, 0), (106, none, .iinc 2 1, 3, [], 1, 0), (109, none, .goto (-28), 3, [81], 0, 0), (112, none, .iconst 0, 1, [], 0, 0), (113, none, .istore_n 2, 1, [], 0, 0), (114, some [0, 1, 2], .iload_n 2, 1, [], 0, 0), (115, none, .bipush 30, 2, [], 30, 0), (117, none, .if_icmp .ge 30, 3, [147], 0, 0), (120, none, .aload_n 0, 1, [], 0, 0), (121, none, .getfield 7, 3, [11, 0, 2], 0, 0), (124, none, .iload_n 1, 1, [], 0, 0), (125, none, .bipush 16, 2, [], 16, 0), (127, none, .iadd, 1, [], 0, 0), (128, none, .iload_n 2, 1, [], 0, 0), (129, none, .iadd, 1, [], 0, 0), (130, none, .aload_n 0, 1, [], 0, 0), (131, none, .getfield 7, 3, [11, 0, 2], 0, 0), (134, none, .sipush 1456, 3, [], 1456, 0), (137, none, .iload_n 2, 1, [], 0, 0), (138, none, .iadd, 1, [], 0, 0), (139, none, .iaload, 1, [], 0, 0), (140, none, .iastore, 1, [], 0, 0), (141, none, .iinc 2 1, 3, [], 1, 0), (144, none, .goto (-30), 3, [114], 0, 0), (147, none, .aload_n 0, 1, [], 0, 0), (148, none, .getfield 7, 3, [11, 0, 2], 0, 0), (151, none, .iconst 3, 1, [], 3, 0), (152, none, .dup2, 1, [], 0, 0), (153, none, .iaload, 1, [], 0, 0), (154, none, .iconst 1, 1, [], 1, 0), (155, none, .iadd, 1, [], 0, 0), (156, none, .iastore, 1, [], 0, 0), (157, none, .return_, 1, [], 0, 0)]
def k_X11_undo : List EN := [(0, none, .aload_n 0, 1, [], 0, 0), (1, none, .getfield 7, 3, [11, 0, 2], 0, 0), (4, none, .iconst 3, 1, [], 3, 0), (5, none, .iaload, 1, [], 0, 0), (6, none, .ifCond .ne 5, 3, [11], 0, 0), (9, none, .iconst (-1), 1, [], (-1), 0), (10, none, .ireturn, 1, [], 0, 0), (11, none, .aload_n 0, 1, [], 0, 0), (12, none, .getfield 7, 3, [11, 0, 2], 0, 0), (15, none, .iconst 3, 1, [], 3, 0), (16, none, .dup2, 1, [], 0, 0), (17, none, .iaload, 1, [], 0, 0), (18, none, .iconst 1, 1, [], 1, 0), (19, none, .isub, 1, [], 0, 0), (20, none, .iastore, 1, [], 0, 0), (21, none, .bipush 76, 2, [], 76, 0), (23, none, .bipush 46, 2, [], 46, 0), (25, none, .aload_n 0, 1, [], 0, 0), (26, none, .getfield 7, 3, [11, 0, 2], 0, 0), (29, none, .iconst 3, 1, [], 3, 0), (30, none, .iaload, 1, [], 0, 0), (31, none, .imul, 1, [], 0, 0), (32, none, .iadd, 1, [], 0, 0), (33, none, .istore_n 1, 1, [], 0, 0), (34, none, .iconst 0, 1, [], 0, 0), (35, none, .istore_n 2, 1, [], 0, 0), (36, some [0, 1, 2], .iload_n 2, 1, [], 0, 0), (37, none, .bipush 15, 2, [], 15, 0), (39, none, .if_icmp .ge 28, 3, [67], 0, 0), (42, none, .aload_n 0, 1, [], 0, 0), (43, none, .getfield 7, 3, [11, 0, 2], 0, 0), (46, none, .bipush 7, 2, [], 7, 0), (48, none, .iload_n 2, 1, [], 0, 0), (49, none, .iadd, 1, [], 0, 0), (50, none, .aload_n 0, 1, [], 0, 0), (51, none, .getfield 7, 3, [11, 0, 2], 0, 0), (54, none, .iload_n 1, 1, [], 0, 0), (55, none, .iconst 1, 1, [], 1, 0), (56, none, .iadd, 1, [], 0, 0), (57, none, .iload_n 2, 1, [], 0, 0), (58, none, .iadd, 1, [], 0, 0), (59, none, .iaload, 1, [], 0, 0), (60, none, .iastore, 1, [], 0, 0), (61, none, .iinc 2 1, 3, [], 1, 0), (64, none, .goto (-28), 3, [36], 0, 0), (67, none, .aload_n 0, 1, [], 0, 0), (68, none, .getfield 7, 3, [11, 0, 2], 0, 0), (71, none, .iload_n 1, 1, [], 0, 0), (72, none, .iaload, 1, [], 0, 0), (73, none, .istore_n 2, 1, [], 0, 0), (74, some [0, 1, 2], .iload_n 2, 1, [], 0, 0), (75, none, .aload_n 0, 1, [], 0, 0), (76, none, .getfield 7, 3, [11, 0, 2], 0, 0), (79, none, .iconst 0, 1, [], 0, 0), (80, none, .iaload, 1, [], 0, 0), (81, none, .if_icmp .ge 14, 3, [95], 0, 0), (84, none, .aload_n 0, 1, [], 0, 0), (85, none, .iload_n 2, 1, [], 0, 0), (86, none, .invokevirtual 105, 3, [1, 173, 1, 0, 11], 0, 0), (89, none, .iinc 2 1, 3, [], 1, 0), (92, none, .goto (-18), 3, [74], 0, 0), (95, none, .iconst 0, 1, [], 0, 0), (96, none, .istore_n 2, 1, [], 0, 0), (97, some [0, 1, 2], .iload_n 2, 1, [], 0, 0), (98, none, .bipush 30, 2, [], 30, 0), (100, none, .if_icmp .ge 30, 3, [130], 0, 0), (103, none, .aload_n 0, 1, [], 0, 0), (104, none, .getfield 7, 3, [11, 0, 2], 0, 0), (107, none, .sipush 1456, 3, [], 1456, 0), (110, none, .iload_n 2, 1, [], 0, 0), (111, none, .iadd, 1, [], 0, 0), (112, none, .aload_n 0, 1, [], 0, 0), (113, none, .getfield 7, 3, [11, 0, 2], 0, 0), (116, none, .iload_n 1, 1, [], 0, 0), (117, none, .bipush 16, 2, [], 16, 0), (119, none, .iadd, 1, [], 0, 0), (120, none, .iload_n 2, 1, [], 0, 0), (121, none, .iadd, 1, [], 0, 0), (122, none, .iaload, 1, [], 0, 0), (123, none, .iastore, 1, [], 0, 0), (124, none, .iinc 2 1, 3, [], 1, 0), (127, none, .goto (-30), 3, [97], 0, 0), (130, none, .aload_n 0, 1, [], 0, 0), (131, none, .getfield 7, 3, [11, 0, 2], 0, 0), (134, none, .iconst 3, 1, [], 3, 0), (135, none, .iaload, 1, [], 0, 0), (136, none, .ireturn, 1, [], 0, 0)]
def k_X11_canSwap : List EN := [(0, none, .aload_n 0, 1, [], 0, 0), (1, none, .iload_n 1, 1, [], 0, 0), (2, none, .invokevirtual 98, 3, [1, 167, 1, 1, 11], 0, 0), (5, some [0, 1, 2], .ifCond .eq 20, 3, [25], 0, 0), (8, none, .aload_n 0, 1, [], 0, 0), (9, none, .iload_n 2, 1, [], 0, 0), (10, none, .invokevirtual 98, 3, [1, 167, 1, 1, 11], 0, 0), (13, none, .ifCond .eq 12, 3, [25], 0, 0), (16, none, .iload_n 1, 1, [], 0, 0), (17, none, .iload_n 2, 1, [], 0, 0), (18, none, .if_icmp .eq 7, 3, [25], 0, 0), (21, none, .iconst 1, 1, [], 1, 0), (22, none, .goto 4, 3, [26], 0, 0), (25, none, .iconst 0, 1, [], 0, 0), (26, none, .ireturn, 1, [], 0, 0)]
def k_X11_swapNow : List EN := [(0, none, .aload_n 0, 1, [], 0, 0), (1, none, .getfield 7, 3, [11, 0, 2], 0, 0), (4, none, .bipush 17, 2, [], 17, 0), (6, none, .iload_n 1, 1, [], 0, 0), (7, none, .iadd, 1, [], 0, 0), (8, none, .iaload, 1, [], 0, 0), (9, none, .istore_n 3, 1, [], 0, 0), (10, none, .aload_n 0, 1, [], 0, 0), (11, none, .getfield 7, 3, [11, 0, 2], 0, 0), (14, none, .bipush 17, 2, [], 17, 0), (16, none, .iload_n 1, 1, [], 0, 0), (17, none, .iadd, 1, [], 0, 0), (18, none, .aload_n 0, 1, [], 0, 0), (19, none, .getfield 7, 3, [11, 0, 2], 0, 0), (22, none, .bipush 17, 2, [], 17, 0), (24, none, .iload_n 2, 1, [], 0, 0), (25, none, .iadd, 1, [], 0, 0), (26, none, .iaload, 1, [], 0, 0), (27, none, .iastore, 1, [], 0, 0), (28, none, .aload_n 0, 1, [], 0, 0), (29, none, .getfield 7, 3, [11, 0, 2], 0, 0), (32, none, .bipush 17, 2, [], 17, 0), (34, none, .iload_n 2, 1, [], 0, 0), (35, none, .iadd, 1, [], 0, 0), (36, none, .iload_n 3, 1, [], 0, 0), (37, none, .iastore, 1, [], 0, 0), (38, none, .return_, 1, [], 0, 0)]
def k_X11_swap : List EN := [(0, none, .aload_n 0, 1, [], 0, 0), (1, none, .iload_n 1, 1, [], 0, 0), (2, none, .iload_n 2, 1, [], 0, 0), (3, none, .invokevirtual 348, 3, [1, 234, 2, 1, 11], 0, 0), (6, some [0, 1, 2], .ifCond .ne 5, 3, [11], 0, 0), (9, none, .iconst 0, 1, [], 0, 0), (10, none, .ireturn, 1, [], 0, 0), (11, none, .aload_n 0, 1, [], 0, 0), (12, none, .invokevirtual 351, 3, [1, 232, 0, 0, 11], 0, 0), (15, some [0, 1, 2], .aload_n 0, 1, [], 0, 0), (16, none, .iload_n 1, 1, [], 0, 0), (17, none, .iload_n 2, 1, [], 0, 0), (18, none, .invokevirtual 354, 3, [1, 235, 2, 0, 11], 0, 0), (21, none, .iconst 1, 1, [], 1, 0), (22, none, .ireturn, 1, [], 0, 0)]
def k_X11_turnNow : List EN := [(0, none, .iconst 0, 1, [], 0, 0), (1, none, .istore_n 2, 1, [], 0, 0), (2, some [0, 1, 2], .iload_n 2, 1, [], 0, 0), (3, none, .iload_n 1, 1, [], 0, 0), (4, none, .iconst 2, 1, [], 2, 0), (5, none, .idiv, 1, [], 0, 0), (6, none, .if_icmp .ge 19, 3, [25], 0, 0), (9, none, .aload_n 0, 1, [], 0, 0), (10, none, .iload_n 2, 1, [], 0, 0), (11, none, .iload_n 1, 1, [], 0, 0), (12, none, .iconst 1, 1, [], 1, 0), (13, none, .isub, 1, [], 0, 0), (14, none, .iload_n 2, 1, [], 0, 0), (15, none, .isub, 1, [], 0, 0), (16, none, .invokevirtual 354, 3, [1, 235, 2, 0, 11], 0, 0), (19, none, .iinc 2 1, 3, [], 1, 0), (22, none, .goto (-20), 3, [2], 0, 0), (25, none, .iconst 0, 1, [], 0, 0), (26, none, .istore_n 2, 1, [], 0, 0), (27, some [0, 1, 2], .iload_n 2, 1, [], 0, 0), (28, none, .iload_n 1, 1, [], 0, 0), (29, none, .if_icmp .ge 44, 3, [73], 0, 0), (32, none, .aload_n 0, 1, [], 0, 0), (33, none, .getfield 7, 3, [11, 0, 2], 0, 0), (36, none, .bipush 12, 2, [], 12, 0), (38, none, .aload_n 0, 1, [], 0, 0), (39, none, .getfield 7, 3, [11, 0, 2], 0, 0), (42, none, .bipush 17, 2, [], 17, 0), (44, none, .iload_n 2, 1, [], 0, 0), (45, none, .iadd, 1, [], 0, 0), (46, none, .iaload, 1, [], 0, 0), (47, none, .iadd, 1, [], 0, 0), (48, none, .aload_n 0, 1, [], 0, 0), (49, none, .getfield 7, 3, [11, 0, 2], 0, 0), (52, none, .bipush 12, 2, [], 12, 0), (54, none, .aload_n 0, 1, [], 0, 0), (55, none, .getfield 7, 3, [11, 0, 2], 0, 0), (58, none, .bipush 17, 2, [], 17, 0), (60, none, .iload_n 2, 1, [], 0, 0), (61, none, .iadd, 1, [], 0, 0), (62, none, .iaload, 1, [], 0, 0), (63, none, .iadd, 1, [], 0, 0), (64, none, .iaload, 1, [], 0, 0), (65, none, .ineg, 1, [], 0, 0), (66, none, .iastore, 1, [], 0, 0), (67, none, .iinc 2 1, 3, [], 1, 0), (70, none, .goto (-43), 3, [27], 0, 0), (73, none, .return_, 1, [], 0, 0)]
def k_X11_turn : List EN := [(0, none, .iload_n 1, 1, [], 0, 0), (1, none, .iconst 1, 1, [], 1, 0), (2, none, .aload_n 0, 1, [], 0, 0), (3, none, .getfield 7, 3, [11, 0, 2], 0, 0), (6, none, .iconst 0, 1, [], 0, 0), (7, none, .iaload, 1, [], 0, 0), (8, none, .invokestatic 94, 3, [0, 162, 3, 1], 0, 0), (11, some [0, 1], .ifCond .ne 5, 3, [16], 0, 0), (14, none, .iconst 0, 1, [], 0, 0), (15, none, .ireturn, 1, [], 0, 0), (16, none, .aload_n 0, 1, [], 0, 0), (17, none, .invokevirtual 351, 3, [1, 232, 0, 0, 11], 0, 0), (20, some [0, 1], .aload_n 0, 1, [], 0, 0), (21, none, .iload_n 1, 1, [], 0, 0), (22, none, .invokevirtual 357, 3, [1, 237, 1, 0, 11], 0, 0), (25, none, .iconst 1, 1, [], 1, 0), (26, none, .ireturn, 1, [], 0, 0)]
def k_X11_canProp : List EN := [(0, none, .aload_n 0, 1, [], 0, 0), (1, none, .iload_n 1, 1, [], 0, 0), (2, none, .invokevirtual 98, 3, [1, 167, 1, 1, 11], 0, 0), (5, some [0, 1, 2], .ifCond .eq 22, 3, [27], 0, 0), (8, none, .aload_n 0, 1, [], 0, 0), (9, none, .getfield 7, 3, [11, 0, 2], 0, 0), (12, none, .bipush 10, 2, [], 10, 0), (14, none, .iaload, 1, [], 0, 0), (15, none, .iload_n 1, 1, [], 0, 0), (16, none, .invokestatic 266, 3, [0, 165, 2, 1], 0, 0), (19, none, .iload_n 2, 1, [], 0, 0), (20, none, .if_icmp .eq 7, 3, [27], 0, 0), (23, none, .iconst 1, 1, [], 1, 0), (24, none, .goto 4, 3, [28], 0, 0), (27, none, .iconst 0, 1, [], 0, 0), (28, none, .ireturn, 1, [], 0, 0)]
def k_X11_prop : List EN := [(0, none, .aload_n 0, 1, [], 0, 0), (1, none, .iload_n 1, 1, [], 0, 0), (2, none, .iload_n 2, 1, [], 0, 0), (3, none, .invokevirtual 360, 3, [1, 239, 2, 1, 11], 0, 0), (6, some [0, 1], .ifCond .ne 5, 3, [11], 0, 0), (9, none, .iconst 0, 1, [], 0, 0), (10, none, .ireturn, 1, [], 0, 0), (11, none, .aload_n 0, 1, [], 0, 0), (12, none, .invokevirtual 351, 3, [1, 232, 0, 0, 11], 0, 0), (15, some [0, 1], .aload_n 0, 1, [], 0, 0), (16, none, .getfield 7, 3, [11, 0, 2], 0, 0), (19, none, .bipush 10, 2, [], 10, 0), (21, none, .dup2, 1, [], 0, 0), (22, none, .iaload, 1, [], 0, 0), (23, none, .iconst 1, 1, [], 1, 0), (24, none, .iload_n 1, 1, [], 0, 0), (25, none, .ishl, 1, [], 0, 0), (26, none, .ixor, 1, [], 0, 0), (27, none, .iastore, 1, [], 0, 0), (28, none, .iconst 1, 1, [], 1, 0), (29, none, .ireturn, 1, [], 0, 0)]
def k_X11_arePassed : List EN := [(0, none, .aload_n 0, 1, [], 0, 0), (1, none, .iconst 0, 1, [], 0, 0), (2, none, .putfield 327, 3, [11, 24, 0], 0, 0), (5, none, .iconst 0, 1, [], 0, 0), (6, none, .istore_n 2, 1, [], 0, 0), (7, some [0, 1, 2], .iload_n 2, 1, [], 0, 0), (8, none, .iload_n 1, 1, [], 0, 0), (9, none, .if_icmp .ge 32, 3, [41], 0, 0), (12, none, .aload_n 0, 1, [], 0, 0), (13, none, .getfield 7, 3, [11, 0, 2], 0, 0), (16, none, .bipush 7, 2, [], 7, 0), (18, none, .iaload, 1, [], 0, 0), (19, none, .sipush 9999, 3, [], 9999, 0), (22, none, .if_icmp .ne 5, 3, [27], 0, 0), (25, none, .iconst 0, 1, [], 0, 0), (26, none, .ireturn, 1, [], 0, 0), (27, none, .aload_n 0, 1, [], 0, 0), (28, none, .invokevirtual 351, 3, [1, 232, 0, 0, 11], 0, 0), (31, some [0, 1, 2], .aload_n 0, 1, [], 0, 0), (32, none, .invokevirtual 364, 3, [1, 231, 0, 0, 11], 0, 0), (35, none, .iinc 2 1, 3, [], 1, 0), (38, none, .goto (-31), 3, [7], 0, 0), (41, none, .iconst 1, 1, [], 1, 0), (42, none, .ireturn, 1, [], 0, 0)]
def k_X11_year : List EN := [(0, none, .iload_n 1, 1, [], 0, 0), (1, none, .iconst 1, 1, [], 1, 0), (2, none, .bipush 60, 2, [], 60, 0), (4, none, .invokestatic 94, 3, [0, 162, 3, 1], 0, 0), (7, some [0, 1], .ifCond .eq 33, 3, [40], 0, 0), (10, none, .aload_n 0, 1, [], 0, 0), (11, none, .getfield 7, 3, [11, 0, 2], 0, 0), (14, none, .bipush 7, 2, [], 7, 0), (16, none, .iaload, 1, [], 0, 0), (17, none, .iload_n 1, 1, [], 0, 0), (18, none, .iadd, 1, [], 0, 0), (19, none, .sipush 9999, 3, [], 9999, 0), (22, none, .if_icmp .gt 18, 3, [40], 0, 0), (25, none, .aload_n 0, 1, [], 0, 0), (26, none, .iload_n 1, 1, [], 0, 0), (27, none, .invokevirtual 367, 3, [1, 241, 1, 1, 11], 0, 0), (30, some [0], .ifCond .eq 10, 3, [40], 0, 0), (33, none, .aload_n 0, 1, [], 0, 0), (34, none, .getfield 327, 3, [11, 24, 0], 0, 0), (37, none, .goto 4, 3, [41], 0, 0), (40, none, .iconst (-1), 1, [], (-1), 0), (41, none, .ireturn, 1, [], 0, 0)]
def k_X11_isPlayed : List EN := [(0, none, .aload_n 0, 1, [], 0, 0), (1, none, .getfield 16, 3, [11, 2, 2], 0, 0), (4, none, .iload_n 1, 1, [], 0, 0), (5, none, .iconst 1, 1, [], 1, 0), (6, none, .iadd, 1, [], 0, 0), (7, none, .iaload, 1, [], 0, 0), (8, none, .istore_n 2, 1, [], 0, 0), (9, none, .aload_n 0, 1, [], 0, 0), (10, none, .getfield 16, 3, [11, 2, 2], 0, 0), (13, none, .iload_n 1, 1, [], 0, 0), (14, none, .iconst 2, 1, [], 2, 0), (15, none, .iadd, 1, [], 0, 0), (16, none, .iaload, 1, [], 0, 0), (17, none, .istore_n 3, 1, [], 0, 0), (18, none, .aload_n 0, 1, [], 0, 0), (19, none, .getfield 16, 3, [11, 2, 2], 0, 0), (22, none, .iload_n 1, 1, [], 0, 0), (23, none, .iaload, 1, [], 0, 0), (24, none, .tableswitch 105 2 8 #[44, 62, 72, 79, 85, 92, 99], 44, [129, 2, 68, 86, 96, 103, 109, 116, 123], 0, 0), (68, none, .aload_n 0, 1, [], 0, 0), (69, none, .iload_n 2, 1, [], 0, 0), (70, none, .bipush 9, 2, [], 9, 0), (72, none, .isub, 1, [], 0, 0), (73, none, .iload_n 3, 1, [], 0, 0), (74, none, .invokevirtual 370, 3, [1, 172, 2, 1, 11], 0, 0), (77, none, .ifCond .lt 7, 3, [84], 0, 0), (80, none, .iconst 1, 1, [], 1, 0), (81, none, .goto 4, 3, [85], 0, 0), (84, none, .iconst 0, 1, [], 0, 0), (85, none, .ireturn, 1, [], 0, 0), (86, none, .aload_n 0, 1, [], 0, 0), (87, none, .iload_n 3, 1, [], 0, 0), (88, none, .iload_n 2, 1, [], 0, 0), (89, none, .bipush 9, 2, [], 9, 0), (91, none, .isub, 1, [], 0, 0), (92, none, .invokevirtual 373, 3, [1, 174, 2, 1, 11], 0, 0), (95, none, .ireturn, 1, [], 0, 0), (96, none, .aload_n 0, 1, [], 0, 0), (97, none, .iload_n 2, 1, [], 0, 0), (98, none, .iload_n 3, 1, [], 0, 0), (99, none, .invokevirtual 376, 3, [1, 236, 2, 1, 11], 0, 0), (102, none, .ireturn, 1, [], 0, 0), (103, none, .aload_n 0, 1, [], 0, 0), (104, none, .iload_n 2, 1, [], 0, 0), (105, none, .invokevirtual 379, 3, [1, 238, 1, 1, 11], 0, 0), (108, none, .ireturn, 1, [], 0, 0), (109, none, .aload_n 0, 1, [], 0, 0), (110, none, .iload_n 2, 1, [], 0, 0), (111, none, .iconst 1, 1, [], 1, 0), (112, none, .invokevirtual 382, 3, [1, 240, 2, 1, 11], 0, 0), (115, none, .ireturn, 1, [], 0, 0), (116, none, .aload_n 0, 1, [], 0, 0), (117, none, .iload_n 2, 1, [], 0, 0), (118, none, .iconst 0, 1, [], 0, 0), (119, none, .invokevirtual 382, 3, [1, 240, 2, 1, 11], 0, 0), (122, none, .ireturn, 1, [], 0, 0), (123, none, .aload_n 0, 1, [], 0, 0), (124, none, .iload_n 2, 1, [], 0, 0), (125, none, .invokevirtual 367, 3, [1, 241, 1, 1, 11], 0, 0), (128, none, .ireturn, 1, [], 0, 0), (129, none, .iconst 1, 1, [], 1, 0), (130, none, .ireturn, 1, [], 0, 0)]
def k_X11_played : List EN := [(0, none, .iload_n 1, 1, [], 0, 0), (1, none, .iconst 0, 1, [], 0, 0), (2, none, .aload_n 0, 1, [], 0, 0), (3, none, .getfield 7, 3, [11, 0, 2], 0, 0), (6, none, .iconst 1, 1, [], 1, 0), (7, none, .iaload, 1, [], 0, 0), (8, none, .iconst 1, 1, [], 1, 0), (9, none, .isub, 1, [], 0, 0), (10, none, .invokestatic 94, 3, [0, 162, 3, 1], 0, 0), (13, none, .ifCond .ne 6, 3, [19], 0, 0), (16, none, .bipush (-2), 2, [], (-2), 0), (18, none, .ireturn, 1, [], 0, 0), (19, none, .iconst 0, 1, [], 0, 0), (20, none, .istore_n 2, 1, [], 0, 0), (21, some [0, 1, 2], .iload_n 2, 1, [], 0, 0), (22, none, .aload_n 0, 1, [], 0, 0), (23, none, .getfield 16, 3, [11, 2, 2], 0, 0), (26, none, .sipush 681, 3, [], 681, 0), (29, none, .iload_n 1, 1, [], 0, 0), (30, none, .imul, 1, [], 0, 0), (31, none, .iaload, 1, [], 0, 0), (32, none, .if_icmp .ge 29, 3, [61], 0, 0), (35, none, .aload_n 0, 1, [], 0, 0), (36, none, .sipush 681, 3, [], 681, 0), (39, none, .iload_n 1, 1, [], 0, 0), (40, none, .imul, 1, [], 0, 0), (41, none, .iconst 1, 1, [], 1, 0), (42, none, .iadd, 1, [], 0, 0), (43, none, .iconst 3, 1, [], 3, 0), (44, none, .iload_n 2, 1, [], 0, 0), (45, none, .imul, 1, [], 0, 0), (46, none, .iadd, 1, [], 0, 0), (47, none, .invokevirtual 385, 3, [1, 243, 1, 1, 11], 0, 0), (50, none, .ifCond .ne 5, 3, [55], 0, 0), (53, none, .iload_n 2, 1, [], 0, 0), (54, none, .ireturn, 1, [], 0, 0), (55, none, .iinc 2 1, 3, [], 1, 0), (58, none, .goto (-37), 3, [21], 0, 0), (61, none, .iconst (-1), 1, [], (-1), 0), (62, none, .ireturn, 1, [], 0, 0)]
def k_X11_happens : List EN := [(0, none, .iload_n 1, 1, [], 0, 0), (1, none, .bipush 7, 2, [], 7, 0), (3, none, .irem, 1, [], 0, 0), (4, none, .iconst 3, 1, [], 3, 0), (5, none, .if_icmp .le 21, 3, [26], 0, 0), (8, none, .aload_n 0, 1, [], 0, 0), (9, none, .getfield 7, 3, [11, 0, 2], 0, 0), (12, none, .bipush 7, 2, [], 7, 0), (14, none, .iaload, 1, [], 0, 0), (15, none, .sipush 9999, 3, [], 9999, 0), (18, none, .if_icmp .ge 7, 3, [25], 0, 0), (21, none, .aload_n 0, 1, [], 0, 0), (22, none, .invokevirtual 364, 3, [1, 231, 0, 0, 11], 0, 0), (25, none, .return_, 1, [], 0, 0), (26, none, .aload_n 0, 1, [], 0, 0), (27, none, .getfield 7, 3, [11, 0, 2], 0, 0), (30, none, .iconst 0, 1, [], 0, 0), (31, none, .iaload, 1, [], 0, 0), (32, none, .istore_n 2, 1, [], 0, 0), (33, none, .iload_n 2, 1, [], 0, 0), (34, none, .ifCond .ne 4, 3, [38], 0, 0), (37, none, .return_, 1, [], 0, 0), (38, none, .iload_n 1, 1, [], 0, 0), (39, none, .bipush 7, 2, [], 7, 0), (41, none, .irem, 1, [], 0, 0), (42, none, .tableswitch 91 0 2 #[26, 58, 73], 26, [133, 0, 68, 100, 115], 0, 0), (68, none, .aload_n 0, 1, [], 0, 0), (69, none, .iload_n 1, 1, [], 0, 0), (70, none, .iload_n 2, 1, [], 0, 0), (71, none, .irem, 1, [], 0, 0), (72, none, .iload_n 1, 1, [], 0, 0), (73, none, .bipush 7, 2, [], 7, 0), (75, none, .idiv, 1, [], 0, 0), (76, none, .iload_n 2, 1, [], 0, 0), (77, none, .irem, 1, [], 0, 0), (78, none, .invokevirtual 348, 3, [1, 234, 2, 1, 11], 0, 0), (81, some [0, 1, 2], .ifCond .eq 69, 3, [150], 0, 0), (84, none, .aload_n 0, 1, [], 0, 0), (85, none, .iload_n 1, 1, [], 0, 0), (86, none, .iload_n 2, 1, [], 0, 0), (87, none, .irem, 1, [], 0, 0), (88, none, .iload_n 1, 1, [], 0, 0), (89, none, .bipush 7, 2, [], 7, 0), (91, none, .idiv, 1, [], 0, 0), (92, none, .iload_n 2, 1, [], 0, 0), (93, none, .irem, 1, [], 0, 0), (94, none, .invokevirtual 354, 3, [1, 235, 2, 0, 11], 0, 0), (97, none, .goto 53, 3, [150], 0, 0), (100, none, .aload_n 0, 1, [], 0, 0), (101, none, .iconst 1, 1, [], 1, 0), (102, none, .iload_n 1, 1, [], 0, 0), (103, none, .bipush 7, 2, [], 7, 0), (105, none, .idiv, 1, [], 0, 0), (106, none, .iload_n 2, 1, [], 0, 0), (107, none, .irem, 1, [], 0, 0), (108, none, .iadd, 1, [], 0, 0), (109, none, .invokevirtual 357, 3, [1, 237, 1, 0, 11], 0, 0), (112, none, .goto 38, 3, [150], 0, 0), (115, none, .aload_n 0, 1, [], 0, 0), (116, none, .getfield 7, 3, [11, 0, 2], 0, 0), (119, none, .bipush 10, 2, [], 10, 0), (121, none, .dup2, 1, [], 0, 0), (122, none, .iaload, 1, [], 0, 0), (123, none, .iconst 1, 1, [], 1, 0), (124, none, .iload_n 1, 1, [], 0, 0), (125, none, .iload_n 2, 1, [], 0, 0), (126, none, .irem, 1, [], 0, 0), (127, none, .ishl, 1, [], 0, 0), (128, none, .ior, 1, [], 0, 0), (129, none, .iastore, 1, [], 0, 0), (130, none, .goto 20, 3, [150], 0, 0), (133, none, .aload_n 0, 1, [], 0, 0), (134, none, .getfield 7, 3, [11, 0, 2], 0, 0), (137, none, .bipush 10, 2, [], 10, 0), (139, none, .dup2, 1, [], 0, 0), (140, none, .iaload, 1, [], 0, 0), (141, none, .iconst 1, 1, [], 1, 0), (142, none, .iload_n 1, 1, [], 0, 0), (143, none, .iload_n 2, 1, [], 0, 0), (144, none, .irem, 1, [], 0, 0), (145, none, .ishl, 1, [], 0, 0), (146, none, .iconst (-1), 1, [], (-1), 0), (147, none, .ixor, 1, [], 0, 0), (148, none, .iand, 1, [], 0, 0), (149, none, .iastore, 1, [], 0, 0), (150, none, .return_, 1, [], 0, 0)]
def k_X11_ages : List EN := [(0, none, .iload_n 1, 1, [], 0, 0), (1, none, .iconst 0, 1, [], 0, 0), (2, none, .sipush 9999, 3, [], 9999, 0), (5, none, .invokestatic 94, 3, [0, 162, 3, 1], 0, 0), (8, none, .ifCond .eq 13, 3, [21], 0, 0), (11, none, .iload_n 2, 1, [], 0, 0), (12, none, .iconst 1, 1, [], 1, 0), (13, none, .bipush 40, 2, [], 40, 0), (15, none, .invokestatic 94, 3, [0, 162, 3, 1], 0, 0), (18, some [0, 1, 2], .ifCond .ne 5, 3, [23], 0, 0), (21, none, .iconst (-1), 1, [], (-1), 0), (22, none, .ireturn, 1, [], 0, 0), (23, none, .aload_n 0, 1, [], 0, 0), (24, none, .invokevirtual 351, 3, [1, 232, 0, 0, 11], 0, 0), (27, some [0, 1, 2], .aload_n 0, 1, [], 0, 0), (28, none, .getfield 7, 3, [11, 0, 2], 0, 0), (31, none, .bipush 8, 2, [], 8, 0), (33, none, .iload_n 1, 1, [], 0, 0), (34, none, .iconst 2, 1, [], 2, 0), (35, none, .imul, 1, [], 0, 0), (36, none, .sipush 317, 3, [], 317, 0), (39, none, .iadd, 1, [], 0, 0), (40, none, .iastore, 1, [], 0, 0), (41, none, .iconst 0, 1, [], 0, 0), (42, none, .istore_n 3, 1, [], 0, 0), (43, some [0, 2, 3], .iload_n 3, 1, [], 0, 0), (44, none, .iload_n 2, 1, [], 0, 0), (45, none, .if_icmp .ge 28, 3, [73], 0, 0), (48, none, .aload_n 0, 1, [], 0, 0), (49, none, .getfield 7, 3, [11, 0, 2], 0, 0), (52, none, .bipush 8, 2, [], 8, 0), (54, none, .iaload, 1, [], 0, 0), (55, none, .istore 4, 2, [], 0, 0), (57, none, .aload_n 0, 1, [], 0, 0), (58, none, .invokevirtual 342, 3, [1, 229, 0, 0, 11], 0, 0), (61, some [0, 2, 3, 4], .aload_n 0, 1, [], 0, 0), (62, none, .iload 4, 2, [], 0, 0), (64, none, .invokevirtual 388, 3, [1, 245, 1, 0, 11], 0, 0), (67, none, .iinc 3 1, 3, [], 1, 0), (70, none, .goto (-27), 3, [43], 0, 0), (73, none, .aload_n 0, 1, [], 0, 0), (74, none, .getfield 7, 3, [11, 0, 2], 0, 0), (77, none, .bipush 7, 2, [], 7, 0), (79, none, .iaload, 1, [], 0, 0), (80, none, .ireturn, 1, [], 0, 0)]
def k_X11_of : List EN := [(0, none, .aload_n 0, 1, [], 0, 0), (1, none, .iload_n 1, 1, [], 0, 0), (2, none, .invokevirtual 98, 3, [1, 167, 1, 1, 11], 0, 0), (5, some [0, 1, 2], .ifCond .ne 6, 3, [11], 0, 0), (8, none, .bipush (-100), 2, [], (-100), 0), (10, none, .ireturn, 1, [], 0, 0), (11, none, .iload_n 2, 1, [], 0, 0), (12, none, .ifCond .ne 15, 3, [27], 0, 0), (15, none, .aload_n 0, 1, [], 0, 0), (16, none, .getfield 7, 3, [11, 0, 2], 0, 0), (19, none, .bipush 12, 2, [], 12, 0), (21, none, .iload_n 1, 1, [], 0, 0), (22, none, .iadd, 1, [], 0, 0), (23, none, .iaload, 1, [], 0, 0), (24, none, .goto 54, 3, [78], 0, 0), (27, none, .iload_n 2, 1, [], 0, 0), (28, none, .iconst 1, 1, [], 1, 0), (29, none, .if_icmp .ne 15, 3, [44], 0, 0), (32, none, .aload_n 0, 1, [], 0, 0), (33, none, .getfield 7, 3, [11, 0, 2], 0, 0), (36, none, .bipush 22, 2, [], 22, 0), (38, none, .iload_n 1, 1, [], 0, 0), (39, none, .iadd, 1, [], 0, 0), (40, none, .iaload, 1, [], 0, 0), (41, none, .goto 37, 3, [78], 0, 0), (44, none, .iload_n 2, 1, [], 0, 0), (45, none, .iconst 2, 1, [], 2, 0), (46, none, .if_icmp .ne 11, 3, [57], 0, 0), (49, none, .aload_n 0, 1, [], 0, 0), (50, none, .iload_n 1, 1, [], 0, 0), (51, none, .invokevirtual 317, 3, [1, 171, 1, 1, 11], 0, 0), (54, none, .goto 24, 3, [78], 0, 0), (57, none, .iload_n 2, 1, [], 0, 0), (58, none, .iconst 3, 1, [], 3, 0), (59, none, .if_icmp .ne 17, 3, [76], 0, 0), (62, none, .aload_n 0, 1, [], 0, 0), (63, none, .aload_n 0, 1, [], 0, 0), (64, none, .getfield 7, 3, [11, 0, 2], 0, 0), (67, none, .iconst 2, 1, [], 2, 0), (68, none, .iaload, 1, [], 0, 0), (69, none, .iload_n 1, 1, [], 0, 0), (70, none, .invokevirtual 336, 3, [1, 226, 2, 1, 11], 0, 0), (73, none, .goto 5, 3, [78], 0, 0), (76, none, .bipush (-100), 2, [], (-100), 0), (78, none, .ireturn, 1, [], 0, 0)]
def k_X11_seat : List EN := [(0, none, .aload_n 0, 1, [], 0, 0), (1, none, .iload_n 1, 1, [], 0, 0), (2, none, .invokevirtual 98, 3, [1, 167, 1, 1, 11], 0, 0), (5, some [0, 1, 2], .ifCond .ne 6, 3, [11], 0, 0), (8, none, .bipush (-100), 2, [], (-100), 0), (10, none, .ireturn, 1, [], 0, 0), (11, none, .iload_n 2, 1, [], 0, 0), (12, none, .ifCond .ne 15, 3, [27], 0, 0), (15, none, .aload_n 0, 1, [], 0, 0), (16, none, .getfield 7, 3, [11, 0, 2], 0, 0), (19, none, .bipush 17, 2, [], 17, 0), (21, none, .iload_n 1, 1, [], 0, 0), (22, none, .iadd, 1, [], 0, 0), (23, none, .iaload, 1, [], 0, 0), (24, none, .goto 41, 3, [65], 0, 0), (27, none, .iload_n 2, 1, [], 0, 0), (28, none, .iconst 1, 1, [], 1, 0), (29, none, .if_icmp .ne 15, 3, [44], 0, 0), (32, none, .aload_n 0, 1, [], 0, 0), (33, none, .getfield 7, 3, [11, 0, 2], 0, 0), (36, none, .bipush 32, 2, [], 32, 0), (38, none, .iload_n 1, 1, [], 0, 0), (39, none, .iadd, 1, [], 0, 0), (40, none, .iaload, 1, [], 0, 0), (41, none, .goto 24, 3, [65], 0, 0), (44, none, .iload_n 2, 1, [], 0, 0), (45, none, .iconst 2, 1, [], 2, 0), (46, none, .if_icmp .ne 17, 3, [63], 0, 0), (49, none, .aload_n 0, 1, [], 0, 0), (50, none, .getfield 7, 3, [11, 0, 2], 0, 0), (53, none, .bipush 10, 2, [], 10, 0), (55, none, .iaload, 1, [], 0, 0), (56, none, .iload_n 1, 1, [], 0, 0), (57, none, .ishr, 1, [], 0, 0), (58, none, .iconst 1, 1, [], 1, 0), (59, none, .iand, 1, [], 0, 0), (60, none, .goto 5, 3, [65], 0, 0), (63, none, .bipush (-100), 2, [], (-100), 0), (65, none, .ireturn, 1, [], 0, 0)]
def k_X11_hears : List EN := [(0, none, .aload_n 0, 1, [], 0, 0), (1, none, .iload_n 1, 1, [], 0, 0), (2, none, .invokevirtual 98, 3, [1, 167, 1, 1, 11], 0, 0), (5, some [0, 1, 2, 3], .ifCond .eq 31, 3, [36], 0, 0), (8, none, .aload_n 0, 1, [], 0, 0), (9, none, .iload_n 2, 1, [], 0, 0), (10, none, .invokevirtual 98, 3, [1, 167, 1, 1, 11], 0, 0), (13, none, .ifCond .eq 23, 3, [36], 0, 0), (16, none, .iload_n 3, 1, [], 0, 0), (17, none, .iconst 0, 1, [], 0, 0), (18, none, .bipush 99, 2, [], 99, 0), (20, none, .invokestatic 94, 3, [0, 162, 3, 1], 0, 0), (23, some [0, 1, 2, 3], .ifCond .eq 13, 3, [36], 0, 0), (26, none, .aload_n 0, 1, [], 0, 0), (27, none, .iload_n 1, 1, [], 0, 0), (28, none, .iload_n 2, 1, [], 0, 0), (29, none, .iload_n 3, 1, [], 0, 0), (30, none, .invokevirtual 391, 3, [1, 227, 3, 1, 11], 0, 0), (33, none, .goto 6, 3, [39], 0, 0), (36, none, .sipush (-10000), 3, [], (-10000), 0), (39, none, .ireturn, 1, [], 0, 0)]
def k_X11_is : List EN := [(0, none, .iload_n 1, 1, [], 0, 0), (1, none, .iconst 0, 1, [], 0, 0), (2, none, .iconst 3, 1, [], 3, 0), (3, none, .invokestatic 94, 3, [0, 162, 3, 1], 0, 0), (6, some [0, 1], .ifCond .eq 15, 3, [21], 0, 0), (9, none, .aload_n 0, 1, [], 0, 0), (10, none, .getfield 7, 3, [11, 0, 2], 0, 0), (13, none, .bipush 7, 2, [], 7, 0), (15, none, .iload_n 1, 1, [], 0, 0), (16, none, .iadd, 1, [], 0, 0), (17, none, .iaload, 1, [], 0, 0), (18, none, .goto 5, 3, [23], 0, 0), (21, none, .bipush (-100), 2, [], (-100), 0), (23, none, .ireturn, 1, [], 0, 0)]
def k_X11_entry : List EN := [(0, none, .aload_n 0, 1, [], 0, 0), (1, none, .getfield 7, 3, [11, 0, 2], 0, 0), (4, none, .sipush 1456, 3, [], 1456, 0), (7, none, .iload_n 1, 1, [], 0, 0), (8, none, .iadd, 1, [], 0, 0), (9, none, .iaload, 1, [], 0, 0), (10, none, .istore_n 3, 1, [], 0, 0), (11, none, .iload_n 2, 1, [], 0, 0), (12, none, .ifCond .ne 10, 3, [22], 0, 0), (15, none, .iload_n 3, 1, [], 0, 0), (16, none, .bipush 95, 2, [], 95, 0), (18, none, .idiv, 1, [], 0, 0), (19, none, .goto 24, 3, [43], 0, 0), (22, none, .iload_n 2, 1, [], 0, 0), (23, none, .iconst 1, 1, [], 1, 0), (24, none, .if_icmp .ne 12, 3, [36], 0, 0), (27, none, .iload_n 3, 1, [], 0, 0), (28, none, .bipush 19, 2, [], 19, 0), (30, none, .idiv, 1, [], 0, 0), (31, none, .iconst 5, 1, [], 5, 0), (32, none, .irem, 1, [], 0, 0), (33, none, .goto 10, 3, [43], 0, 0), (36, none, .iload_n 3, 1, [], 0, 0), (37, none, .bipush 19, 2, [], 19, 0), (39, none, .irem, 1, [], 0, 0), (40, none, .bipush 9, 2, [], 9, 0), (42, none, .isub, 1, [], 0, 0), (43, none, .ireturn, 1, [], 0, 0)]
def k_X11_book : List EN := [(0, none, .iload_n 1, 1, [], 0, 0), (1, none, .iconst (-1), 1, [], (-1), 0), (2, none, .if_icmp .ne 11, 3, [13], 0, 0), (5, none, .aload_n 0, 1, [], 0, 0), (6, none, .getfield 7, 3, [11, 0, 2], 0, 0), (9, none, .bipush 11, 2, [], 11, 0), (11, none, .iaload, 1, [], 0, 0), (12, none, .ireturn, 1, [], 0, 0), (13, none, .iload_n 1, 1, [], 0, 0), (14, none, .iconst 0, 1, [], 0, 0), (15, none, .aload_n 0, 1, [], 0, 0), (16, none, .getfield 7, 3, [11, 0, 2], 0, 0), (19, none, .bipush 11, 2, [], 11, 0), (21, none, .iaload, 1, [], 0, 0), (22, none, .iconst 1, 1, [], 1, 0), (23, none, .isub, 1, [], 0, 0), (24, none, .invokestatic 94, 3, [0, 162, 3, 1], 0, 0), (27, none, .ifCond .eq 21, 3, [48], 0, 0), (30, none, .iload_n 2, 1, [], 0, 0), (31, none, .iconst 0, 1, [], 0, 0), (32, none, .iconst 2, 1, [], 2, 0), (33, none, .invokestatic 94, 3, [0, 162, 3, 1], 0, 0), (36, some [0, 1, 2], .ifCond .eq 12, 3, [48], 0, 0), (39, none, .aload_n 0, 1, [], 0, 0), (40, none, .iload_n 1, 1, [], 0, 0), (41, none, .iload_n 2, 1, [], 0, 0), (42, none, .invokevirtual 394, 3, [1, 251, 2, 1, 11], 0, 0), (45, none, .goto 5, 3, [50], 0, 0), (48, none, .bipush (-100), 2, [], (-100), 0), (50, none, .ireturn, 1, [], 0, 0)]
def k_X11_ledger : List EN := [(0, none, .iload_n 1, 1, [], 0, 0), (1, none, .iconst (-1), 1, [], (-1), 0), (2, none, .if_icmp .eq 14, 3, [16], 0, 0), (5, none, .aload_n 0, 1, [], 0, 0), (6, none, .iload_n 1, 1, [], 0, 0), (7, none, .invokevirtual 98, 3, [1, 167, 1, 1, 11], 0, 0), (10, none, .ifCond .ne 6, 3, [16], 0, 0), (13, none, .bipush (-2), 2, [], (-2), 0), (15, none, .ireturn, 1, [], 0, 0), (16, none, .iconst 0, 1, [], 0, 0), (17, none, .istore_n 2, 1, [], 0, 0), (18, none, .iconst 0, 1, [], 0, 0), (19, none, .istore_n 3, 1, [], 0, 0), (20, some [0, 1, 2, 3], .iload_n 3, 1, [], 0, 0), (21, none, .aload_n 0, 1, [], 0, 0), (22, none, .getfield 7, 3, [11, 0, 2], 0, 0), (25, none, .bipush 11, 2, [], 11, 0), (27, none, .iaload, 1, [], 0, 0), (28, none, .if_icmp .ge 32, 3, [60], 0, 0), (31, none, .iload_n 2, 1, [], 0, 0), (32, none, .iload_n 1, 1, [], 0, 0), (33, none, .iconst (-1), 1, [], (-1), 0), (34, none, .if_icmp .eq 13, 3, [47], 0, 0), (37, none, .aload_n 0, 1, [], 0, 0), (38, none, .iload_n 3, 1, [], 0, 0), (39, none, .iconst 1, 1, [], 1, 0), (40, none, .invokevirtual 394, 3, [1, 251, 2, 1, 11], 0, 0), (43, none, .iload_n 1, 1, [], 0, 0), (44, none, .if_icmp .ne 7, 3, [51], 0, 0), (47, none, .iconst 1, 1, [], 1, 0), (48, none, .goto 4, 3, [52], 0, 0), (51, none, .iconst 0, 1, [], 0, 0), (52, none, .iadd, 1, [], 0, 0), (53, none, .istore_n 2, 1, [], 0, 0), (54, none, .iinc 3 1, 3, [], 1, 0), (57, none, .goto (-37), 3, [20], 0, 0), (60, none, .iload_n 2, 1, [], 0, 0), (61, none, .ireturn, 1, [], 0, 0)]
def k_X11_straight : List EN := [(0, none, .iconst 0, 1, [], 0, 0), (1, none, .istore_n 1, 1, [], 0, 0), (2, none, .iconst 0, 1, [], 0, 0), (3, none, .istore_n 2, 1, [], 0, 0), (4, some [0, 1, 2], .iload_n 2, 1, [], 0, 0), (5, none, .aload_n 0, 1, [], 0, 0), (6, none, .getfield 7, 3, [11, 0, 2], 0, 0), (9, none, .iconst 0, 1, [], 0, 0), (10, none, .iaload, 1, [], 0, 0), (11, none, .if_icmp .ge 31, 3, [42], 0, 0), (14, none, .iload_n 1, 1, [], 0, 0), (15, none, .aload_n 0, 1, [], 0, 0), (16, none, .getfield 7, 3, [11, 0, 2], 0, 0), (19, none, .bipush 12, 2, [], 12, 0), (21, none, .iload_n 2, 1, [], 0, 0), (22, none, .iadd, 1, [], 0, 0), (23, none, .iaload, 1, [], 0, 0), (24, none, .ifCond .ne 9, 3, [33], 0, 0), (27, none, .iconst 1, 1, [], 1, 0), (28, none, .iload_n 2, 1, [], 0, 0), (29, none, .ishl, 1, [], 0, 0), (30, none, .goto 4, 3, [34], 0, 0), (33, none, .iconst 0, 1, [], 0, 0), (34, none, .ior, 1, [], 0, 0), (35, none, .istore_n 1, 1, [], 0, 0), (36, none, .iinc 2 1, 3, [], 1, 0), (39, none, .goto (-35), 3, [4], 0, 0), (42, none, .iload_n 1, 1, [], 0, 0), (43, none, .ireturn, 1, [], 0, 0)]
def k_X11_steepest : List EN := [(0, none, .iconst (-1), 1, [], (-1), 0), (1, none, .istore_n 1, 1, [], 0, 0), (2, none, .iconst 0, 1, [], 0, 0), (3, none, .istore_n 2, 1, [], 0, 0), (4, some [0, 1, 2], .iload_n 2, 1, [], 0, 0), (5, none, .aload_n 0, 1, [], 0, 0), (6, none, .getfield 7, 3, [11, 0, 2], 0, 0), (9, none, .iconst 0, 1, [], 0, 0), (10, none, .iaload, 1, [], 0, 0), (11, none, .if_icmp .ge 47, 3, [58], 0, 0), (14, none, .aload_n 0, 1, [], 0, 0), (15, none, .getfield 7, 3, [11, 0, 2], 0, 0), (18, none, .bipush 12, 2, [], 12, 0), (20, none, .iload_n 2, 1, [], 0, 0), (21, none, .iadd, 1, [], 0, 0), (22, none, .iaload, 1, [], 0, 0), (23, none, .invokestatic 397, 3, [0, 164, 1, 1], 0, 0), (26, some [0, 1, 2], .iload_n 1, 1, [], 0, 0), (27, none, .iconst (-1), 1, [], (-1), 0), (28, none, .if_icmp .ne 7, 3, [35], 0, 0), (31, none, .iconst 0, 1, [], 0, 0), (32, none, .goto 15, 3, [47], 0, 0), (35, none, .aload_n 0, 1, [], 0, 0), (36, none, .getfield 7, 3, [11, 0, 2], 0, 0), (39, none, .bipush 12, 2, [], 12, 0), (41, none, .iload_n 1, 1, [], 0, 0), (42, none, .iadd, 1, [], 0, 0), (43, none, .iaload, 1, [], 0, 0), (44, none, .invokestatic 397, 3, [0, 164, 1, 1], 0, 0), (47, none, .if_icmp .le 5, 3, [52], 0, 0), (50, none, .iload_n 2, 1, [], 0, 0), (51, none, .istore_n 1, 1, [], 0, 0), (52, none, .iinc 2 1, 3, [], 1, 0), (55, none, .goto (-51), 3, [4], 0, 0), (58, none, .iload_n 1, 1, [], 0, 0), (59, none, .ireturn, 1, [], 0, 0)]
def k_X11_setAside : List EN := [(0, none, .bipush 7, 2, [], 7, 0), (2, none, .istore_n 1, 1, [], 0, 0), (3, some [0, 1], .iload_n 1, 1, [], 0, 0), (4, none, .bipush 22, 2, [], 22, 0), (6, none, .if_icmp .ge 21, 3, [27], 0, 0), (9, none, .aload_n 0, 1, [], 0, 0), (10, none, .getfield 47, 3, [11, 25, 2], 0, 0), (13, none, .iload_n 1, 1, [], 0, 0), (14, none, .aload_n 0, 1, [], 0, 0), (15, none, .getfield 7, 3, [11, 0, 2], 0, 0), (18, none, .iload_n 1, 1, [], 0, 0), (19, none, .iaload, 1, [], 0, 0), (20, none, .iastore, 1, [], 0, 0), (21, none, .iinc 1 1, 3, [], 1, 0), (24, none, .goto (-21), 3, [3], 0, 0), (27, none, .aload_n 0, 1, [], 0, 0), (28, none, .iconst 0, 1, [], 0, 0), (29, none, .putfield 43, 3, [11, 23, 3], 0, 0), (32, none, .return_, 1, [], 0, 0)]
def k_X11_putBack : List EN := [(0, none, .bipush 7, 2, [], 7, 0), (2, none, .istore_n 1, 1, [], 0, 0), (3, some [0, 1], .iload_n 1, 1, [], 0, 0), (4, none, .bipush 22, 2, [], 22, 0), (6, none, .if_icmp .ge 21, 3, [27], 0, 0), (9, none, .aload_n 0, 1, [], 0, 0), (10, none, .getfield 7, 3, [11, 0, 2], 0, 0), (13, none, .iload_n 1, 1, [], 0, 0), (14, none, .aload_n 0, 1, [], 0, 0), (15, none, .getfield 47, 3, [11, 25, 2], 0, 0), (18, none, .iload_n 1, 1, [], 0, 0), (19, none, .iaload, 1, [], 0, 0), (20, none, .iastore, 1, [], 0, 0), (21, none, .iinc 1 1, 3, [], 1, 0), (24, none, .goto (-21), 3, [3], 0, 0), (27, none, .aload_n 0, 1, [], 0, 0), (28, none, .iconst 1, 1, [], 1, 0), (29, none, .putfield 43, 3, [11, 23, 3], 0, 0), (32, none, .return_, 1, [], 0, 0)]
def k_X11_foretold : List EN := [(0, none, .iload_n 1, 1, [], 0, 0), (1, none, .iconst 1, 1, [], 1, 0), (2, none, .bipush 60, 2, [], 60, 0), (4, none, .invokestatic 94, 3, [0, 162, 3, 1], 0, 0), (7, some [0, 1, 2], .ifCond .eq 11, 3, [18], 0, 0), (10, none, .aload_n 0, 1, [], 0, 0), (11, none, .iload_n 2, 1, [], 0, 0), (12, none, .invokevirtual 98, 3, [1, 167, 1, 1, 11], 0, 0), (15, some [0, 1, 2], .ifCond .ne 6, 3, [21], 0, 0), (18, none, .bipush (-100), 2, [], (-100), 0), (20, none, .ireturn, 1, [], 0, 0), (21, none, .aload_n 0, 1, [], 0, 0), (22, none, .invokevirtual 400, 3, [1, 256, 0, 0, 11], 0, 0), (25, none, .iconst 0, 1, [], 0, 0), (26, none, .istore_n 3, 1, [], 0, 0), (27, some [0, 1, 2, 3], .iload_n 3, 1, [], 0, 0), (28, none, .iload_n 1, 1, [], 0, 0), (29, none, .if_icmp .ge 26, 3, [55], 0, 0), (32, none, .aload_n 0, 1, [], 0, 0), (33, none, .getfield 7, 3, [11, 0, 2], 0, 0), (36, none, .bipush 7, 2, [], 7, 0), (38, none, .iaload, 1, [], 0, 0), (39, none, .sipush 9999, 3, [], 9999, 0), (42, none, .if_icmp .ge 7, 3, [49], 0, 0), (45, none, .aload_n 0, 1, [], 0, 0), (46, none, .invokevirtual 364, 3, [1, 231, 0, 0, 11], 0, 0), (49, none, .iinc 3 1, 3, [], 1, 0), (52, none, .goto (-25), 3, [27], 0, 0), (55, none, .aload_n 0, 1, [], 0, 0), (56, none, .getfield 7, 3, [11, 0, 2], 0, 0), (59, none, .bipush 12, 2, [], 12, 0), (61, none, .iload_n 2, 1, [], 0, 0), (62, none, .iadd, 1, [], 0, 0), (63, none, .iaload, 1, [], 0, 0), (64, none, .istore_n 3, 1, [], 0, 0), (65, none, .aload_n 0, 1, [], 0, 0), (66, none, .invokevirtual 403, 3, [1, 257, 0, 0, 11], 0, 0), (69, none, .iload_n 3, 1, [], 0, 0), (70, none, .ireturn, 1, [], 0, 0)]
def k_X11_slantCode : List EN := [(0, none, .iconst 0, 1, [], 0, 0), (1, none, .istore_n 1, 1, [], 0, 0), (2, none, .iconst 0, 1, [], 0, 0), (3, none, .istore_n 2, 1, [], 0, 0), (4, some [0, 1, 2], .iload_n 2, 1, [], 0, 0), (5, none, .aload_n 0, 1, [], 0, 0), (6, none, .getfield 7, 3, [11, 0, 2], 0, 0), (9, none, .iconst 0, 1, [], 0, 0), (10, none, .iaload, 1, [], 0, 0), (11, none, .if_icmp .ge 27, 3, [38], 0, 0), (14, none, .bipush 19, 2, [], 19, 0), (16, none, .iload_n 1, 1, [], 0, 0), (17, none, .imul, 1, [], 0, 0), (18, none, .aload_n 0, 1, [], 0, 0), (19, none, .getfield 7, 3, [11, 0, 2], 0, 0), (22, none, .bipush 12, 2, [], 12, 0), (24, none, .iload_n 2, 1, [], 0, 0), (25, none, .iadd, 1, [], 0, 0), (26, none, .iaload, 1, [], 0, 0), (27, none, .iadd, 1, [], 0, 0), (28, none, .bipush 9, 2, [], 9, 0), (30, none, .iadd, 1, [], 0, 0), (31, none, .istore_n 1, 1, [], 0, 0), (32, none, .iinc 2 1, 3, [], 1, 0), (35, none, .goto (-31), 3, [4], 0, 0), (38, none, .iload_n 1, 1, [], 0, 0), (39, none, .ireturn, 1, [], 0, 0)]
def k_X11_still : List EN := [(0, none, .iload_n 1, 1, [], 0, 0), (1, none, .invokestatic 102, 3, [0, 168, 1, 1], 0, 0), (4, some [0, 1, 2], .ifCond .ne 5, 3, [9], 0, 0), (7, none, .iconst (-1), 1, [], (-1), 0), (8, none, .ireturn, 1, [], 0, 0), (9, none, .aload_n 0, 1, [], 0, 0), (10, none, .invokevirtual 400, 3, [1, 256, 0, 0, 11], 0, 0), (13, some [0, 1, 2], .aload_n 0, 1, [], 0, 0), (14, none, .getfield 7, 3, [11, 0, 2], 0, 0), (17, none, .bipush 9, 2, [], 9, 0), (19, none, .iload_n 1, 1, [], 0, 0), (20, none, .iastore, 1, [], 0, 0), (21, none, .iconst (-1), 1, [], (-1), 0), (22, none, .istore_n 3, 1, [], 0, 0), (23, none, .iconst 0, 1, [], 0, 0), (24, none, .istore 4, 2, [], 0, 0), (26, some [0, 2, 3, 4], .iload 4, 2, [], 0, 0), (28, none, .sipush 200, 3, [], 200, 0), (31, none, .if_icmp .gt 77, 3, [108], 0, 0), (34, none, .iload_n 3, 1, [], 0, 0), (35, none, .iconst (-1), 1, [], (-1), 0), (36, none, .if_icmp .ne 72, 3, [108], 0, 0), (39, none, .aload_n 0, 1, [], 0, 0), (40, none, .getfield 50, 3, [11, 26, 2], 0, 0), (43, none, .iload 4, 2, [], 0, 0), (45, none, .aload_n 0, 1, [], 0, 0), (46, none, .invokevirtual 406, 3, [1, 259, 0, 1, 11], 0, 0), (49, some [0, 2, 3, 4], .iastore, 1, [], 0, 0), (50, none, .iconst 0, 1, [], 0, 0), (51, none, .istore 5, 2, [], 0, 0), (53, some [0, 2, 3, 4, 5], .iload 5, 2, [], 0, 0), (55, none, .iload 4, 2, [], 0, 0), (57, none, .if_icmp .ge 41, 3, [98], 0, 0), (60, none, .aload_n 0, 1, [], 0, 0), (61, none, .getfield 50, 3, [11, 26, 2], 0, 0), (64, none, .iload 5, 2, [], 0, 0), (66, none, .iaload, 1, [], 0, 0), (67, none, .aload_n 0, 1, [], 0, 0), (68, none, .getfield 50, 3, [11, 26, 2], 0, 0), (71, none, .iload 4, 2, [], 0, 0), (73, none, .iaload, 1, [], 0, 0), (74, none, .if_icmp .ne 18, 3, [92], 0, 0), (77, none, .iload_n 2, 1, [], 0, 0), (78, none, .ifCond .eq 11, 3, [89], 0, 0), (81, none, .iload 4, 2, [], 0, 0), (83, none, .iload 5, 2, [], 0, 0), (85, none, .isub, 1, [], 0, 0), (86, none, .goto 5, 3, [91], 0, 0), (89, none, .iload 5, 2, [], 0, 0), (91, none, .istore_n 3, 1, [], 0, 0), (92, none, .iinc 5 1, 3, [], 1, 0), (95, none, .goto (-42), 3, [53], 0, 0), (98, none, .aload_n 0, 1, [], 0, 0), (99, none, .invokevirtual 345, 3, [1, 230, 0, 0, 11], 0, 0), (102, none, .iinc 4 1, 3, [], 1, 0), (105, none, .goto (-79), 3, [26], 0, 0), (108, none, .aload_n 0, 1, [], 0, 0), (109, none, .invokevirtual 403, 3, [1, 257, 0, 0, 11], 0, 0), (112, none, .iload_n 3, 1, [], 0, 0), (113, none, .ireturn, 1, [], 0, 0)]
def k_X11_upright : List EN := [(0, none, .aload_n 0, 1, [], 0, 0), (1, none, .iload_n 1, 1, [], 0, 0), (2, none, .invokevirtual 98, 3, [1, 167, 1, 1, 11], 0, 0), (5, none, .ifCond .eq 10, 3, [15], 0, 0), (8, none, .iload_n 2, 1, [], 0, 0), (9, none, .invokestatic 102, 3, [0, 168, 1, 1], 0, 0), (12, some [0, 1, 2], .ifCond .ne 5, 3, [17], 0, 0), (15, none, .iconst (-1), 1, [], (-1), 0), (16, none, .ireturn, 1, [], 0, 0), (17, none, .aload_n 0, 1, [], 0, 0), (18, none, .invokevirtual 400, 3, [1, 256, 0, 0, 11], 0, 0), (21, some [0, 1, 2], .aload_n 0, 1, [], 0, 0), (22, none, .getfield 7, 3, [11, 0, 2], 0, 0), (25, none, .bipush 9, 2, [], 9, 0), (27, none, .iload_n 2, 1, [], 0, 0), (28, none, .iastore, 1, [], 0, 0), (29, none, .iconst 0, 1, [], 0, 0), (30, none, .istore_n 3, 1, [], 0, 0), (31, some [0, 1, 3], .iload_n 3, 1, [], 0, 0), (32, none, .bipush 60, 2, [], 60, 0), (34, none, .if_icmp .gt 25, 3, [59], 0, 0), (37, none, .aload_n 0, 1, [], 0, 0), (38, none, .getfield 7, 3, [11, 0, 2], 0, 0), (41, none, .bipush 12, 2, [], 12, 0), (43, none, .iload_n 1, 1, [], 0, 0), (44, none, .iadd, 1, [], 0, 0), (45, none, .iaload, 1, [], 0, 0), (46, none, .ifCond .eq 13, 3, [59], 0, 0), (49, none, .aload_n 0, 1, [], 0, 0), (50, none, .invokevirtual 345, 3, [1, 230, 0, 0, 11], 0, 0), (53, none, .iinc 3 1, 3, [], 1, 0), (56, none, .goto (-25), 3, [31], 0, 0), (59, none, .aload_n 0, 1, [], 0, 0), (60, none, .invokevirtual 403, 3, [1, 257, 0, 0, 11], 0, 0), (63, none, .iload_n 3, 1, [], 0, 0), (64, none, .bipush 60, 2, [], 60, 0), (66, none, .if_icmp .le 7, 3, [73], 0, 0), (69, none, .iconst (-1), 1, [], (-1), 0), (70, none, .goto 4, 3, [74], 0, 0), (73, none, .iload_n 3, 1, [], 0, 0), (74, none, .ireturn, 1, [], 0, 0)]
def k_X11_turned : List EN := [(0, none, .iload_n 1, 1, [], 0, 0), (1, none, .bipush 32, 2, [], 32, 0), (3, none, .idiv, 1, [], 0, 0), (4, none, .istore_n 3, 1, [], 0, 0), (5, none, .iconst 0, 1, [], 0, 0), (6, none, .istore 4, 2, [], 0, 0), (8, some [0, 1, 2, 3, 4], .iload 4, 2, [], 0, 0), (10, none, .aload_n 0, 1, [], 0, 0), (11, none, .getfield 7, 3, [11, 0, 2], 0, 0), (14, none, .iconst 0, 1, [], 0, 0), (15, none, .iaload, 1, [], 0, 0), (16, none, .if_icmp .ge 23, 3, [39], 0, 0), (19, none, .aload_n 0, 1, [], 0, 0), (20, none, .getfield 60, 3, [11, 29, 2], 0, 0), (23, none, .iload 4, 2, [], 0, 0), (25, none, .iload_n 3, 1, [], 0, 0), (26, none, .iconst 5, 1, [], 5, 0), (27, none, .irem, 1, [], 0, 0), (28, none, .iastore, 1, [], 0, 0), (29, none, .iload_n 3, 1, [], 0, 0), (30, none, .iconst 5, 1, [], 5, 0), (31, none, .idiv, 1, [], 0, 0), (32, none, .istore_n 3, 1, [], 0, 0), (33, none, .iinc 4 1, 3, [], 1, 0), (36, none, .goto (-28), 3, [8], 0, 0), (39, none, .iload_n 1, 1, [], 0, 0), (40, none, .bipush 32, 2, [], 32, 0), (42, none, .irem, 1, [], 0, 0), (43, none, .istore 4, 2, [], 0, 0), (45, none, .iconst 0, 1, [], 0, 0), (46, none, .istore 5, 2, [], 0, 0), (48, none, .aload_n 0, 1, [], 0, 0), (49, none, .getfield 7, 3, [11, 0, 2], 0, 0), (52, none, .iconst 0, 1, [], 0, 0), (53, none, .iaload, 1, [], 0, 0), (54, none, .iconst 1, 1, [], 1, 0), (55, none, .isub, 1, [], 0, 0), (56, none, .istore 6, 2, [], 0, 0), (58, some [0, 2, 4, 5, 6], .iload 6, 2, [], 0, 0), (60, none, .ifCond .lt 62, 3, [122], 0, 0), (63, none, .iload 6, 2, [], 0, 0), (65, none, .iload_n 2, 1, [], 0, 0), (66, none, .if_icmp .ge 17, 3, [83], 0, 0), (69, none, .aload_n 0, 1, [], 0, 0), (70, none, .getfield 60, 3, [11, 29, 2], 0, 0), (73, none, .iload_n 2, 1, [], 0, 0), (74, none, .iconst 1, 1, [], 1, 0), (75, none, .isub, 1, [], 0, 0), (76, none, .iload 6, 2, [], 0, 0), (78, none, .isub, 1, [], 0, 0), (79, none, .iaload, 1, [], 0, 0), (80, none, .goto 10, 3, [90], 0, 0), (83, none, .aload_n 0, 1, [], 0, 0), (84, none, .getfield 60, 3, [11, 29, 2], 0, 0), (87, none, .iload 6, 2, [], 0, 0), (89, none, .iaload, 1, [], 0, 0), (90, some [0, 2, 4, 5, 6], .istore 7, 2, [], 0, 0), (92, none, .iload 6, 2, [], 0, 0), (94, none, .iload_n 2, 1, [], 0, 0), (95, none, .if_icmp .ge 12, 3, [107], 0, 0), (98, none, .iload 4, 2, [], 0, 0), (100, none, .iconst 1, 1, [], 1, 0), (101, none, .iload 7, 2, [], 0, 0), (103, none, .ishl, 1, [], 0, 0), (104, none, .ixor, 1, [], 0, 0), (105, none, .istore 4, 2, [], 0, 0), (107, none, .iconst 5, 1, [], 5, 0), (108, none, .iload 5, 2, [], 0, 0), (110, none, .imul, 1, [], 0, 0), (111, none, .iload 7, 2, [], 0, 0), (113, none, .iadd, 1, [], 0, 0), (114, none, .istore 5, 2, [], 0, 0), (116, none, .iinc 6 (-1), 3, [], (-1), 0), (119, none, .goto (-61), 3, [58], 0, 0), (122, none, .bipush 32, 2, [], 32, 0), (124, none, .iload 5, 2, [], 0, 0), (126, none, .imul, 1, [], 0, 0), (127, none, .iload 4, 2, [], 0, 0), (129, none, .iadd, 1, [], 0, 0), (130, none, .ireturn, 1, [], 0, 0)]
def k_X11_orderOf : List EN := [(0, none, .iconst 0, 1, [], 0, 0), (1, none, .istore_n 2, 1, [], 0, 0), (2, none, .aload_n 0, 1, [], 0, 0), (3, none, .getfield 7, 3, [11, 0, 2], 0, 0), (6, none, .iconst 0, 1, [], 0, 0), (7, none, .iaload, 1, [], 0, 0), (8, none, .iconst 1, 1, [], 1, 0), (9, none, .isub, 1, [], 0, 0), (10, none, .istore_n 3, 1, [], 0, 0), (11, some [0, 1, 2, 3], .iload_n 3, 1, [], 0, 0), (12, none, .ifCond .lt 31, 3, [43], 0, 0), (15, none, .iconst 5, 1, [], 5, 0), (16, none, .iload_n 2, 1, [], 0, 0), (17, none, .imul, 1, [], 0, 0), (18, none, .iload_n 1, 1, [], 0, 0), (19, none, .ifCond .eq 7, 3, [26], 0, 0), (22, none, .iload_n 3, 1, [], 0, 0), (23, none, .goto 12, 3, [35], 0, 0), (26, none, .aload_n 0, 1, [], 0, 0), (27, none, .getfield 7, 3, [11, 0, 2], 0, 0), (30, none, .bipush 17, 2, [], 17, 0), (32, none, .iload_n 3, 1, [], 0, 0), (33, none, .iadd, 1, [], 0, 0), (34, none, .iaload, 1, [], 0, 0), (35, none, .iadd, 1, [], 0, 0), (36, none, .istore_n 2, 1, [], 0, 0), (37, none, .iinc 3 (-1), 3, [], (-1), 0), (40, none, .goto (-29), 3, [11], 0, 0), (43, none, .bipush 32, 2, [], 32, 0), (45, none, .iload_n 2, 1, [], 0, 0), (46, none, .imul, 1, [], 0, 0), (47, none, .ireturn, 1, [], 0, 0)]
def k_X11_layFars : List EN := [(0, none, .iconst 0, 1, [], 0, 0), (1, none, .istore_n 1, 1, [], 0, 0), (2, some [0, 1], .iload_n 1, 1, [], 0, 0), (3, none, .ldc 53, 2, [], 100000, 0), (5, none, .if_icmp .ge 16, 3, [21], 0, 0), (8, none, .aload_n 0, 1, [], 0, 0), (9, none, .getfield 54, 3, [11, 27, 2], 0, 0), (12, none, .iload_n 1, 1, [], 0, 0), (13, none, .iconst (-1), 1, [], (-1), 0), (14, none, .iastore, 1, [], 0, 0), (15, none, .iinc 1 1, 3, [], 1, 0), (18, none, .goto (-16), 3, [2], 0, 0), (21, none, .aload_n 0, 1, [], 0, 0), (22, none, .getfield 54, 3, [11, 27, 2], 0, 0), (25, none, .aload_n 0, 1, [], 0, 0), (26, none, .iconst 1, 1, [], 1, 0), (27, none, .invokevirtual 409, 3, [1, 263, 1, 1, 11], 0, 0), (30, some [0], .iconst 0, 1, [], 0, 0), (31, none, .iastore, 1, [], 0, 0), (32, none, .aload_n 0, 1, [], 0, 0), (33, none, .getfield 57, 3, [11, 28, 2], 0, 0), (36, none, .iconst 0, 1, [], 0, 0), (37, none, .aload_n 0, 1, [], 0, 0), (38, none, .iconst 1, 1, [], 1, 0), (39, none, .invokevirtual 409, 3, [1, 263, 1, 1, 11], 0, 0), (42, some [0], .iastore, 1, [], 0, 0), (43, none, .iconst 1, 1, [], 1, 0), (44, none, .istore_n 1, 1, [], 0, 0), (45, none, .iconst 0, 1, [], 0, 0), (46, none, .istore_n 2, 1, [], 0, 0), (47, some [0, 1, 2], .iload_n 2, 1, [], 0, 0), (48, none, .iload_n 1, 1, [], 0, 0), (49, none, .if_icmp .ge 85, 3, [134], 0, 0), (52, none, .iconst 1, 1, [], 1, 0), (53, none, .istore_n 3, 1, [], 0, 0), (54, some [0, 1, 2, 3], .iload_n 3, 1, [], 0, 0), (55, none, .aload_n 0, 1, [], 0, 0), (56, none, .getfield 7, 3, [11, 0, 2], 0, 0), (59, none, .iconst 0, 1, [], 0, 0), (60, none, .iaload, 1, [], 0, 0), (61, none, .if_icmp .gt 67, 3, [128], 0, 0), (64, none, .aload_n 0, 1, [], 0, 0), (65, none, .aload_n 0, 1, [], 0, 0), (66, none, .getfield 57, 3, [11, 28, 2], 0, 0), (69, none, .iload_n 2, 1, [], 0, 0), (70, none, .iaload, 1, [], 0, 0), (71, none, .iload_n 3, 1, [], 0, 0), (72, none, .invokevirtual 413, 3, [1, 262, 2, 1, 11], 0, 0), (75, some [0, 1, 2, 3], .istore 4, 2, [], 0, 0), (77, none, .aload_n 0, 1, [], 0, 0), (78, none, .getfield 54, 3, [11, 27, 2], 0, 0), (81, none, .iload 4, 2, [], 0, 0), (83, none, .iaload, 1, [], 0, 0), (84, none, .iconst (-1), 1, [], (-1), 0), (85, none, .if_icmp .eq 6, 3, [91], 0, 0), (88, none, .goto 34, 3, [122], 0, 0), (91, none, .aload_n 0, 1, [], 0, 0), (92, none, .getfield 54, 3, [11, 27, 2], 0, 0), (95, none, .iload 4, 2, [], 0, 0), (97, none, .aload_n 0, 1, [], 0, 0), (98, none, .getfield 54, 3, [11, 27, 2], 0, 0), (101, none, .aload_n 0, 1, [], 0, 0), (102, none, .getfield 57, 3, [11, 28, 2], 0, 0), (105, none, .iload_n 2, 1, [], 0, 0), (106, none, .iaload, 1, [], 0, 0), (107, none, .iaload, 1, [], 0, 0), (108, none, .iconst 1, 1, [], 1, 0), (109, none, .iadd, 1, [], 0, 0), (110, none, .iastore, 1, [], 0, 0), (111, none, .aload_n 0, 1, [], 0, 0), (112, none, .getfield 57, 3, [11, 28, 2], 0, 0), (115, none, .iload_n 1, 1, [], 0, 0), (116, none, .iload 4, 2, [], 0, 0), (118, none, .iastore, 1, [], 0, 0), (119, none, .iinc 1 1, 3, [], 1, 0), (122, none, .iinc 3 1, 3, [], 1, 0), (125, none, .goto (-71), 3, [54], 0, 0), (128, none, .iinc 2 1, 3, [], 1, 0), (131, none, .goto (-84), 3, [47], 0, 0), (134, none, .return_, 1, [], 0, 0)]
def k_X11_byTurns : List EN := [(0, none, .aload_n 0, 1, [], 0, 0), (1, none, .invokevirtual 416, 3, [1, 264, 0, 0, 11], 0, 0), (4, some [0, 1], .aload_n 0, 1, [], 0, 0), (5, none, .iconst 0, 1, [], 0, 0), (6, none, .invokevirtual 409, 3, [1, 263, 1, 1, 11], 0, 0), (9, some [0, 1], .istore_n 2, 1, [], 0, 0), (10, none, .iload_n 1, 1, [], 0, 0), (11, none, .iconst (-1), 1, [], (-1), 0), (12, none, .aload_n 0, 1, [], 0, 0), (13, none, .getfield 54, 3, [11, 27, 2], 0, 0), (16, none, .iload_n 2, 1, [], 0, 0), (17, none, .iaload, 1, [], 0, 0), (18, none, .iconst 1, 1, [], 1, 0), (19, none, .isub, 1, [], 0, 0), (20, none, .invokestatic 94, 3, [0, 162, 3, 1], 0, 0), (23, some [0, 1, 2], .ifCond .ne 6, 3, [29], 0, 0), (26, none, .bipush (-2), 2, [], (-2), 0), (28, none, .ireturn, 1, [], 0, 0), (29, none, .iload_n 1, 1, [], 0, 0), (30, none, .iconst (-1), 1, [], (-1), 0), (31, none, .if_icmp .ne 10, 3, [41], 0, 0), (34, none, .aload_n 0, 1, [], 0, 0), (35, none, .getfield 54, 3, [11, 27, 2], 0, 0), (38, none, .iload_n 2, 1, [], 0, 0), (39, none, .iaload, 1, [], 0, 0), (40, none, .ireturn, 1, [], 0, 0), (41, none, .iconst 0, 1, [], 0, 0), (42, none, .istore_n 3, 1, [], 0, 0), (43, none, .iconst 0, 1, [], 0, 0), (44, none, .istore 4, 2, [], 0, 0), (46, some [0, 1, 2, 3, 4], .iload 4, 2, [], 0, 0), (48, none, .iload_n 1, 1, [], 0, 0), (49, none, .if_icmp .gt 46, 3, [95], 0, 0), (52, none, .iconst 1, 1, [], 1, 0), (53, none, .istore_n 3, 1, [], 0, 0), (54, some [0, 1, 2, 3, 4], .aload_n 0, 1, [], 0, 0), (55, none, .getfield 54, 3, [11, 27, 2], 0, 0), (58, none, .aload_n 0, 1, [], 0, 0), (59, none, .iload_n 2, 1, [], 0, 0), (60, none, .iload_n 3, 1, [], 0, 0), (61, none, .invokevirtual 413, 3, [1, 262, 2, 1, 11], 0, 0), (64, some [0, 1, 2, 3, 4], .iaload, 1, [], 0, 0), (65, none, .aload_n 0, 1, [], 0, 0), (66, none, .getfield 54, 3, [11, 27, 2], 0, 0), (69, none, .iload_n 2, 1, [], 0, 0), (70, none, .iaload, 1, [], 0, 0), (71, none, .iconst 1, 1, [], 1, 0), (72, none, .isub, 1, [], 0, 0), (73, none, .if_icmp .eq 9, 3, [82], 0, 0), (76, none, .iinc 3 1, 3, [], 1, 0), (79, none, .goto (-25), 3, [54], 0, 0), (82, none, .aload_n 0, 1, [], 0, 0), (83, none, .iload_n 2, 1, [], 0, 0), (84, none, .iload_n 3, 1, [], 0, 0), (85, none, .invokevirtual 413, 3, [1, 262, 2, 1, 11], 0, 0), (88, none, .istore_n 2, 1, [], 0, 0), (89, none, .iinc 4 1, 3, [], 1, 0), (92, none, .goto (-46), 3, [46], 0, 0), (95, none, .iload_n 3, 1, [], 0, 0), (96, none, .ireturn, 1, [], 0, 0)]
def k_X11_exchange : List EN := [(0, none, .aload_n 0, 1, [], 0, 0), (1, none, .getfield 63, 3, [11, 30, 2], 0, 0), (4, none, .iload_n 1, 1, [], 0, 0), (5, none, .iaload, 1, [], 0, 0), (6, none, .istore_n 3, 1, [], 0, 0), (7, none, .aload_n 0, 1, [], 0, 0), (8, none, .getfield 63, 3, [11, 30, 2], 0, 0), (11, none, .iload_n 1, 1, [], 0, 0), (12, none, .aload_n 0, 1, [], 0, 0), (13, none, .getfield 63, 3, [11, 30, 2], 0, 0), (16, none, .iload_n 2, 1, [], 0, 0), (17, none, .iaload, 1, [], 0, 0), (18, none, .iastore, 1, [], 0, 0), (19, none, .aload_n 0, 1, [], 0, 0), (20, none, .getfield 63, 3, [11, 30, 2], 0, 0), (23, none, .iload_n 2, 1, [], 0, 0), (24, none, .iload_n 3, 1, [], 0, 0), (25, none, .iastore, 1, [], 0, 0), (26, none, .return_, 1, [], 0, 0)]
def k_X11_isNextRow : List EN := [(0, none, .iload_n 1, 1, [], 0, 0), (1, none, .iconst 2, 1, [], 2, 0), (2, none, .isub, 1, [], 0, 0), (3, none, .istore_n 2, 1, [], 0, 0), (4, some [0, 1, 2], .iload_n 2, 1, [], 0, 0), (5, none, .ifCond .lt 26, 3, [31], 0, 0), (8, none, .aload_n 0, 1, [], 0, 0), (9, none, .getfield 63, 3, [11, 30, 2], 0, 0), (12, none, .iload_n 2, 1, [], 0, 0), (13, none, .iaload, 1, [], 0, 0), (14, none, .aload_n 0, 1, [], 0, 0), (15, none, .getfield 63, 3, [11, 30, 2], 0, 0), (18, none, .iload_n 2, 1, [], 0, 0), (19, none, .iconst 1, 1, [], 1, 0), (20, none, .iadd, 1, [], 0, 0), (21, none, .iaload, 1, [], 0, 0), (22, none, .if_icmp .le 9, 3, [31], 0, 0), (25, none, .iinc 2 (-1), 3, [], (-1), 0), (28, none, .goto (-24), 3, [4], 0, 0), (31, none, .iload_n 2, 1, [], 0, 0), (32, none, .ifCond .ge 5, 3, [37], 0, 0), (35, none, .iconst 0, 1, [], 0, 0), (36, none, .ireturn, 1, [], 0, 0), (37, none, .iload_n 1, 1, [], 0, 0), (38, none, .iconst 1, 1, [], 1, 0), (39, none, .isub, 1, [], 0, 0), (40, none, .istore_n 3, 1, [], 0, 0), (41, some [0, 1, 2, 3], .aload_n 0, 1, [], 0, 0), (42, none, .getfield 63, 3, [11, 30, 2], 0, 0), (45, none, .iload_n 3, 1, [], 0, 0), (46, none, .iaload, 1, [], 0, 0), (47, none, .aload_n 0, 1, [], 0, 0), (48, none, .getfield 63, 3, [11, 30, 2], 0, 0), (51, none, .iload_n 2, 1, [], 0, 0), (52, none, .iaload, 1, [], 0, 0), (53, none, .if_icmp .ge 9, 3, [62], 0, 0), (56, none, .iinc 3 (-1), 3, [], (-1), 0), (59, none, .goto (-18), 3, [41], 0, 0), (62, none, .aload_n 0, 1, [], 0, 0), (63, none, .iload_n 2, 1, [], 0, 0), (64, none, .iload_n 3, 1, [], 0, 0), (65, none, .invokevirtual 419, 3, [1, 266, 2, 0, 11], 0, 0), (68, none, .iload_n 1, 1, [], 0, 0), (69, none, .iconst 1, 1, [], 1, 0), (70, none, .isub, 1, [], 0, 0), (71, none, .istore 4, 2, [], 0, 0), (73, none, .iload_n 2, 1, [], 0, 0), (74, none, .iconst 1, 1, [], 1, 0), (75, none, .iadd, 1, [], 0, 0), (76, none, .istore 5, 2, [], 0, 0), (78, some [0, 4, 5], .iload 5, 2, [], 0, 0), (80, none, .iload 4, 2, [], 0, 0), (82, none, .if_icmp .ge 20, 3, [102], 0, 0), (85, none, .aload_n 0, 1, [], 0, 0), (86, none, .iload 5, 2, [], 0, 0), (88, none, .iload 4, 2, [], 0, 0), (90, none, .invokevirtual 419, 3, [1, 266, 2, 0, 11], 0, 0), (93, none, .iinc 4 (-1), 3, [], (-1), 0), (96, none, .iinc 5 1, 3, [], 1, 0), (99, none, .goto (-21), 3, [78], 0, 0), (102, none, .iconst 1, 1, [], 1, 0), (103, none, .ireturn, 1, [], 0, 0)]
def k_X11_rackedSum : List EN := [(0, none, .iconst 0, 1, [], 0, 0), (1, none, .istore_n 1, 1, [], 0, 0), (2, none, .iconst 0, 1, [], 0, 0), (3, none, .istore_n 2, 1, [], 0, 0), (4, some [0, 1, 2], .iload_n 2, 1, [], 0, 0), (5, none, .aload_n 0, 1, [], 0, 0), (6, none, .getfield 7, 3, [11, 0, 2], 0, 0), (9, none, .iconst 0, 1, [], 0, 0), (10, none, .iaload, 1, [], 0, 0), (11, none, .if_icmp .ge 54, 3, [65], 0, 0), (14, none, .iload_n 1, 1, [], 0, 0), (15, none, .aload_n 0, 1, [], 0, 0), (16, none, .getfield 7, 3, [11, 0, 2], 0, 0), (19, none, .bipush 22, 2, [], 22, 0), (21, none, .aload_n 0, 1, [], 0, 0), (22, none, .getfield 63, 3, [11, 30, 2], 0, 0), (25, none, .iload_n 2, 1, [], 0, 0), (26, none, .iaload, 1, [], 0, 0), (27, none, .iadd, 1, [], 0, 0), (28, none, .iaload, 1, [], 0, 0), (29, none, .aload_n 0, 1, [], 0, 0), (30, none, .getfield 7, 3, [11, 0, 2], 0, 0), (33, none, .bipush 12, 2, [], 12, 0), (35, none, .aload_n 0, 1, [], 0, 0), (36, none, .getfield 63, 3, [11, 30, 2], 0, 0), (39, none, .iload_n 2, 1, [], 0, 0), (40, none, .iaload, 1, [], 0, 0), (41, none, .iadd, 1, [], 0, 0), (42, none, .iaload, 1, [], 0, 0), (43, none, .aload_n 0, 1, [], 0, 0), (44, none, .getfield 7, 3, [11, 0, 2], 0, 0), (47, none, .bipush 32, 2, [], 32, 0), (49, none, .iload_n 2, 1, [], 0, 0), (50, none, .iadd, 1, [], 0, 0), (51, none, .iaload, 1, [], 0, 0), (52, none, .isub, 1, [], 0, 0), (53, none, .invokestatic 397, 3, [0, 164, 1, 1], 0, 0), (56, none, .imul, 1, [], 0, 0), (57, none, .iadd, 1, [], 0, 0), (58, none, .istore_n 1, 1, [], 0, 0), (59, none, .iinc 2 1, 3, [], 1, 0), (62, none, .goto (-58), 3, [4], 0, 0), (65, none, .iload_n 1, 1, [], 0, 0), (66, none, .ireturn, 1, [], 0, 0)]
def k_X11_seats : List EN := [(0, none, .aload_n 0, 1, [], 0, 0), (1, none, .getfield 7, 3, [11, 0, 2], 0, 0), (4, none, .iconst 0, 1, [], 0, 0), (5, none, .iaload, 1, [], 0, 0), (6, none, .istore_n 3, 1, [], 0, 0), (7, none, .iload_n 3, 1, [], 0, 0), (8, none, .ifCond .eq 18, 3, [26], 0, 0), (11, none, .iload_n 1, 1, [], 0, 0), (12, none, .ifCond .ne 17, 3, [29], 0, 0), (15, none, .iload_n 2, 1, [], 0, 0), (16, none, .iconst 0, 1, [], 0, 0), (17, none, .iload_n 3, 1, [], 0, 0), (18, none, .iconst 1, 1, [], 1, 0), (19, none, .isub, 1, [], 0, 0), (20, none, .invokestatic 94, 3, [0, 162, 3, 1], 0, 0), (23, none, .ifCond .ne 6, 3, [29], 0, 0), (26, none, .bipush (-2), 2, [], (-2), 0), (28, none, .ireturn, 1, [], 0, 0), (29, none, .iconst 0, 1, [], 0, 0), (30, none, .istore 4, 2, [], 0, 0), (32, some [0, 1, 2, 3, 4], .iload 4, 2, [], 0, 0), (34, none, .iload_n 3, 1, [], 0, 0), (35, none, .if_icmp .ge 18, 3, [53], 0, 0), (38, none, .aload_n 0, 1, [], 0, 0), (39, none, .getfield 63, 3, [11, 30, 2], 0, 0), (42, none, .iload 4, 2, [], 0, 0), (44, none, .iload 4, 2, [], 0, 0), (46, none, .iastore, 1, [], 0, 0), (47, none, .iinc 4 1, 3, [], 1, 0), (50, none, .goto (-18), 3, [32], 0, 0), (53, none, .ldc_w 422, 3, [], 1000000, 0), (56, none, .istore 4, 2, [], 0, 0), (58, none, .iconst 1, 1, [], 1, 0), (59, none, .istore 5, 2, [], 0, 0), (61, some [0, 1, 2, 3, 4, 5], .iload 5, 2, [], 0, 0), (63, none, .ifCond .eq 59, 3, [122], 0, 0), (66, none, .aload_n 0, 1, [], 0, 0), (67, none, .invokevirtual 423, 3, [1, 268, 0, 1, 11], 0, 0), (70, some [0, 1, 2, 3, 4], .istore 6, 2, [], 0, 0), (72, none, .iload 6, 2, [], 0, 0), (74, none, .iload 4, 2, [], 0, 0), (76, none, .if_icmp .ge 36, 3, [112], 0, 0), (79, none, .iload 6, 2, [], 0, 0), (81, none, .istore 4, 2, [], 0, 0), (83, none, .iconst 0, 1, [], 0, 0), (84, none, .istore 7, 2, [], 0, 0), (86, some [0, 1, 2, 3, 4, 7], .iload 7, 2, [], 0, 0), (88, none, .iload_n 3, 1, [], 0, 0), (89, none, .if_icmp .ge 23, 3, [112], 0, 0), (92, none, .aload_n 0, 1, [], 0, 0), (93, none, .getfield 66, 3, [11, 31, 2], 0, 0), (96, none, .iload 7, 2, [], 0, 0), (98, none, .aload_n 0, 1, [], 0, 0), (99, none, .getfield 63, 3, [11, 30, 2], 0, 0), (102, none, .iload 7, 2, [], 0, 0), (104, none, .iaload, 1, [], 0, 0), (105, none, .iastore, 1, [], 0, 0), (106, none, .iinc 7 1, 3, [], 1, 0), (109, none, .goto (-23), 3, [86], 0, 0), (112, none, .aload_n 0, 1, [], 0, 0), (113, none, .iload_n 3, 1, [], 0, 0), (114, none, .invokevirtual 426, 3, [1, 267, 1, 1, 11], 0, 0), (117, none, .istore 5, 2, [], 0, 0), (119, none, .goto (-58), 3, [61], 0, 0), (122, none, .iload_n 1, 1, [], 0, 0), (123, none, .ifCond .eq 8, 3, [131], 0, 0), (126, none, .iload 4, 2, [], 0, 0), (128, none, .goto 9, 3, [137], 0, 0), (131, none, .aload_n 0, 1, [], 0, 0), (132, none, .getfield 66, 3, [11, 31, 2], 0, 0), (135, none, .iload_n 2, 1, [], 0, 0), (136, none, .iaload, 1, [], 0, 0), (137, none, .ireturn, 1, [], 0, 0)]
def k_X11_ragged : List EN := [(0, none, .iconst 0, 1, [], 0, 0), (1, none, .istore_n 2, 1, [], 0, 0), (2, none, .iconst 0, 1, [], 0, 0), (3, none, .istore_n 3, 1, [], 0, 0), (4, some [0, 1, 2, 3], .iload_n 3, 1, [], 0, 0), (5, none, .iconst 1, 1, [], 1, 0), (6, none, .iadd, 1, [], 0, 0), (7, none, .aload_n 0, 1, [], 0, 0), (8, none, .getfield 7, 3, [11, 0, 2], 0, 0), (11, none, .iconst 0, 1, [], 0, 0), (12, none, .iaload, 1, [], 0, 0), (13, none, .if_icmp .ge 40, 3, [53], 0, 0), (16, none, .aload_n 0, 1, [], 0, 0), (17, none, .iload_n 3, 1, [], 0, 0), (18, none, .invokevirtual 288, 3, [1, 170, 1, 1, 11], 0, 0), (21, some [0, 1, 2, 3], .ifCond .le 26, 3, [47], 0, 0), (24, none, .aload_n 0, 1, [], 0, 0), (25, none, .iload_n 3, 1, [], 0, 0), (26, none, .iconst 1, 1, [], 1, 0), (27, none, .iadd, 1, [], 0, 0), (28, none, .invokevirtual 288, 3, [1, 170, 1, 1, 11], 0, 0), (31, none, .ifCond .lt 6, 3, [37], 0, 0), (34, none, .goto 13, 3, [47], 0, 0), (37, none, .iload_n 2, 1, [], 0, 0), (38, none, .iload_n 1, 1, [], 0, 0), (39, none, .if_icmp .ne 5, 3, [44], 0, 0), (42, none, .iload_n 3, 1, [], 0, 0), (43, none, .ireturn, 1, [], 0, 0), (44, none, .iinc 2 1, 3, [], 1, 0), (47, none, .iinc 3 1, 3, [], 1, 0), (50, none, .goto (-46), 3, [4], 0, 0), (53, none, .iload_n 1, 1, [], 0, 0), (54, none, .iconst (-1), 1, [], (-1), 0), (55, none, .if_icmp .ne 7, 3, [62], 0, 0), (58, none, .iload_n 2, 1, [], 0, 0), (59, none, .goto 5, 3, [64], 0, 0), (62, none, .bipush (-2), 2, [], (-2), 0), (64, none, .ireturn, 1, [], 0, 0)]
def k_X11_word : List EN := [(0, none, .iload_n 1, 1, [], 0, 0), (1, none, .iconst (-1), 1, [], (-1), 0), (2, none, .if_icmp .ne 12, 3, [14], 0, 0), (5, none, .aload_n 0, 1, [], 0, 0), (6, none, .getfield 7, 3, [11, 0, 2], 0, 0), (9, none, .iconst 4, 1, [], 4, 0), (10, none, .iconst 0, 1, [], 0, 0), (11, none, .iastore, 1, [], 0, 0), (12, none, .iconst 0, 1, [], 0, 0), (13, none, .ireturn, 1, [], 0, 0), (14, none, .iload_n 1, 1, [], 0, 0), (15, none, .iconst 1, 1, [], 1, 0), (16, none, .bipush 20, 2, [], 20, 0), (18, none, .invokestatic 94, 3, [0, 162, 3, 1], 0, 0), (21, some [0, 1], .ifCond .eq 14, 3, [35], 0, 0), (24, none, .aload_n 0, 1, [], 0, 0), (25, none, .getfield 7, 3, [11, 0, 2], 0, 0), (28, none, .iconst 4, 1, [], 4, 0), (29, none, .iaload, 1, [], 0, 0), (30, none, .bipush 10, 2, [], 10, 0), (32, none, .if_icmp .ne 6, 3, [38], 0, 0), (35, none, .bipush (-2), 2, [], (-2), 0), (37, none, .ireturn, 1, [], 0, 0), (38, none, .aload_n 0, 1, [], 0, 0), (39, none, .getfield 7, 3, [11, 0, 2], 0, 0), (42, none, .bipush 38, 2, [], 38, 0), (44, none, .aload_n 0, 1, [], 0, 0), (45, none, .getfield 7, 3, [11, 0, 2], 0, 0), (48, none, .iconst 4, 1, [], 4, 0), (49, none, .iaload, 1, [], 0, 0), (50, none, .iadd, 1, [], 0, 0), (51, none, .iload_n 1, 1, [], 0, 0), (52, none, .iastore, 1, [], 0, 0), (53, none, .aload_n 0, 1, [], 0, 0), (54, none, .getfield 7, 3, [11, 0, 2], 0, 0), (57, none, .iconst 4, 1, [], 4, 0), (58, none, .dup2, 1, [], 0, 0), (59, none, .iaload, 1, [], 0, 0), (60, none, .iconst 1, 1, [], 1, 0), (61, none, .iadd, 1, [], 0, 0), (62, none, .iastore, 1, [], 0, 0), (63, none, .aload_n 0, 1, [], 0, 0), (64, none, .getfield 7, 3, [11, 0, 2], 0, 0), (67, none, .iconst 4, 1, [], 4, 0), (68, none, .iaload, 1, [], 0, 0), (69, none, .ireturn, 1, [], 0, 0)]
def k_X11_widthOf : List EN := [(0, none, .iload_n 2, 1, [], 0, 0), (1, none, .iload_n 1, 1, [], 0, 0), (2, none, .isub, 1, [], 0, 0), (3, none, .iconst 1, 1, [], 1, 0), (4, none, .isub, 1, [], 0, 0), (5, none, .istore_n 3, 1, [], 0, 0), (6, none, .iload_n 1, 1, [], 0, 0), (7, none, .istore 4, 2, [], 0, 0), (9, some [0, 2, 3, 4], .iload 4, 2, [], 0, 0), (11, none, .iload_n 2, 1, [], 0, 0), (12, none, .if_icmp .ge 22, 3, [34], 0, 0), (15, none, .iload_n 3, 1, [], 0, 0), (16, none, .aload_n 0, 1, [], 0, 0), (17, none, .getfield 7, 3, [11, 0, 2], 0, 0), (20, none, .bipush 38, 2, [], 38, 0), (22, none, .iload 4, 2, [], 0, 0), (24, none, .iadd, 1, [], 0, 0), (25, none, .iaload, 1, [], 0, 0), (26, none, .iadd, 1, [], 0, 0), (27, none, .istore_n 3, 1, [], 0, 0), (28, none, .iinc 4 1, 3, [], 1, 0), (31, none, .goto (-22), 3, [9], 0, 0), (34, none, .iload_n 3, 1, [], 0, 0), (35, none, .ireturn, 1, [], 0, 0)]
def k_X11_layPage_0 : List EN := [(0, none, .aload_n 0, 1, [], 0, 0), (1, none, .getfield 7, 3, [11, 0, 2], 0, 0), (4, none, .iconst 4, 1, [], 4, 0), (5, none, .iaload, 1, [], 0, 0), (6, none, .istore_n 2, 1, [], 0, 0), (7, none, .iload_n 2, 1, [], 0, 0), (8, none, .istore_n 3, 1, [], 0, 0), (9, some [0, 1, 2, 3], .iload_n 3, 1, [], 0, 0), (10, none, .ifCond .lt 197, 3, [207], 0, 0), (13, none, .aload_n 0, 1, [], 0, 0), (14, none, .getfield 69, 3, [11, 32, 2], 0, 0), (17, none, .iload_n 3, 1, [], 0, 0), (18, none, .iload_n 3, 1, [], 0, 0), (19, none, .iload_n 2, 1, [], 0, 0), (20, none, .if_icmp .ne 7, 3, [27], 0, 0), (23, none, .iconst 0, 1, [], 0, 0), (24, none, .goto 6, 3, [30], 0, 0), (27, none, .ldc_w 422, 3, [], 1000000, 0), (30, some [0, 1, 2, 3], .iastore, 1, [], 0, 0), (31, none, .aload_n 0, 1, [], 0, 0), (32, none, .getfield 72, 3, [11, 33, 2], 0, 0), (35, none, .iload_n 3, 1, [], 0, 0), (36, none, .iconst 0, 1, [], 0, 0), (37, none, .iastore, 1, [], 0, 0), (38, none, .aload_n 0, 1, [], 0, 0), (39, none, .getfield 75, 3, [11, 34, 2], 0, 0), (42, none, .iload_n 3, 1, [], 0, 0), (43, none, .iconst 0, 1, [], 0, 0), (44, none, .iastore, 1, [], 0, 0), (45, none, .iload_n 3, 1, [], 0, 0), (46, none, .iconst 1, 1, [], 1, 0), (47, none, .iadd, 1, [], 0, 0), (48, none, .istore 4, 2, [], 0, 0), (50, some [0, 1, 2, 3, 4], .iload 4, 2, [], 0, 0), (52, none, .iload_n 2, 1, [], 0, 0), (53, none, .if_icmp .gt 148, 3, [201], 0, 0), (56, none, .aload_n 0, 1, [], 0, 0), (57, none, .iload_n 3, 1, [], 0, 0), (58, none, .iload 4, 2, [], 0, 0), (60, none, .invokevirtual 429, 3, [1, 272, 2, 1, 11], 0, 0), (63, some [0, 1, 2, 3, 4], .iload_n 1, 1, [], 0, 0), (64, none, .if_icmp .gt 137, 3, [201], 0, 0), (67, none, .aload_n 0, 1, [], 0, 0), (68, none, .getfield 69, 3, [11, 32, 2], 0, 0), (71, none, .iload 4, 2, [], 0, 0), (73, none, .iaload, 1, [], 0, 0), (74, none, .ldc_w 422, 3, [], 1000000, 0), (77, none, .if_icmp .ne 6, 3, [83], 0, 0), (80, none, .goto 115, 3, [195], 0, 0), (83, none, .iload_n 1, 1, [], 0, 0), (84, none, .aload_n 0, 1, [], 0, 0), (85, none, .iload_n 3, 1, [], 0, 0), (86, none, .iload 4, 2, [], 0, 0), (88, none, .invokevirtual 429, 3, [1, 272, 2, 1, 11], 0, 0), (91, some [0, 1, 2, 3, 4], .isub, 1, [], 0, 0), (92, none, .istore 5, 2, [], 0, 0), (94, none, .iload 4, 2, [], 0, 0), (96, none, .iload_n 2, 1, [], 0, 0), (97, none, .if_icmp .ne 7, 3, [104], 0, 0), (100, none, .iconst 0, 1, [], 0, 0), (101, none, .goto 16, 3, [117], 0, 0), (104, none, .aload_n 0, 1, [], 0, 0), (105, none, .getfield 69, 3, [11, 32, 2], 0, 0), (108, none, .iload 4, 2, [], 0, 0), (110, none, .iaload, 1, [], 0, 0), (111, none, .iload 5, 2, [], 0, 0), (113, none, .iload 5, 2, [], 0, 0), (115, none, .imul, 1, [], 0, 0), (116, none, .iadd, 1, [], 0, 0), (117, some [0, 1, 2, 3, 4], .istore 6, 2, [], 0, 0), (119, none, .iload 6, 2, [], 0, 0), (121, none, .aload_n 0, 1, [], 0, 0), (122, none, .getfield 69, 3, [11, 32, 2], 0, 0), (125, none, .iload_n 3, 1, [], 0, 0), (126, none, .iaload, 1, [], 0, 0), (127, none, .if_icmp .gt 68, 3, [195], 0, 0), (130, none, .iload 6, 2, [], 0, 0), (132, none, .aload_n 0, 1, [], 0, 0), (133, none, .getfield 69, 3, [11, 32, 2], 0, 0), (136, none, .iload_n 3, 1, [], 0, 0), (137, none, .iaload, 1, [], 0, 0), (138, none, .if_icmp .ne 24, 3, [162], 0, 0), (141, none, .aload_n 0, 1, [], 0, 0), (142, none, .getfield 72, 3, [11, 33, 2], 0, 0), (145, none, .iload 4, 2, [], 0, 0), (147, none, .iaload, 1, [], 0, 0), (148, none, .iconst 1, 1, [], 1, 0), (149, none, .iadd, 1, [], 0, 0), (150, none, .aload_n 0, 1, [], 0, 0), (151, none, .getfield 72, 3, [11, 33, 2], 0, 0), (154, none, .iload_n 3, 1, [], 0, 0), (155, none, .iaload, 1, [], 0, 0), (156, none, .if_icmp .lt 6, 3, [162], 0, 0), (159, none, .goto 36, 3, [195], 0, 0), (162, some [0, 1, 2, 3, 4, 6], .aload_n 0, 1, [], 0, 0), (163, none, .getfield 69, 3, [11, 32, 2], 0, 0), (166, none, .iload_n 3, 1, [], 0, 0), (167, none, .iload 6, 2, [], 0, 0), (169, none, .iastore, 1, [], 0, 0), (170, none, .aload_n 0, 1, [], 0, 0)]
def k_X11_layPage_1 : List EN := [(171, none, .getfield 72, 3, [11, 33, 2], 0, 0), (174, none, .iload_n 3, 1, [], 0, 0), (175, none, .aload_n 0, 1, [], 0, 0), (176, none, .getfield 72, 3, [11, 33, 2], 0, 0), (179, none, .iload 4, 2, [], 0, 0), (181, none, .iaload, 1, [], 0, 0), (182, none, .iconst 1, 1, [], 1, 0), (183, none, .iadd, 1, [], 0, 0), (184, none, .iastore, 1, [], 0, 0), (185, none, .aload_n 0, 1, [], 0, 0), (186, none, .getfield 75, 3, [11, 34, 2], 0, 0), (189, none, .iload_n 3, 1, [], 0, 0), (190, none, .iload 4, 2, [], 0, 0), (192, none, .iload_n 3, 1, [], 0, 0), (193, none, .isub, 1, [], 0, 0), (194, none, .iastore, 1, [], 0, 0), (195, none, .iinc 4 1, 3, [], 1, 0), (198, none, .goto (-148), 3, [50], 0, 0), (201, none, .iinc 3 (-1), 3, [], (-1), 0), (204, none, .goto (-195), 3, [9], 0, 0), (207, none, .return_, 1, [], 0, 0)]
def k_X11_layPage : List EN := k_X11_layPage_0 ++ (k_X11_layPage_1)
def k_X11_page : List EN := [(0, none, .iload_n 1, 1, [], 0, 0), (1, none, .iconst 1, 1, [], 1, 0), (2, none, .bipush 60, 2, [], 60, 0), (4, none, .invokestatic 94, 3, [0, 162, 3, 1], 0, 0), (7, none, .ifCond .eq 12, 3, [19], 0, 0), (10, none, .iload_n 2, 1, [], 0, 0), (11, none, .iconst 0, 1, [], 0, 0), (12, none, .iconst 1, 1, [], 1, 0), (13, none, .invokestatic 94, 3, [0, 162, 3, 1], 0, 0), (16, some [0, 1, 2], .ifCond .ne 5, 3, [21], 0, 0), (19, none, .iconst (-1), 1, [], (-1), 0), (20, none, .ireturn, 1, [], 0, 0), (21, none, .aload_n 0, 1, [], 0, 0), (22, none, .iload_n 1, 1, [], 0, 0), (23, none, .invokevirtual 432, 3, [1, 273, 1, 0, 11], 0, 0), (26, some [0, 2], .aload_n 0, 1, [], 0, 0), (27, none, .getfield 69, 3, [11, 32, 2], 0, 0), (30, none, .iconst 0, 1, [], 0, 0), (31, none, .iaload, 1, [], 0, 0), (32, none, .ldc_w 422, 3, [], 1000000, 0), (35, none, .if_icmp .ne 7, 3, [42], 0, 0), (38, none, .iconst (-1), 1, [], (-1), 0), (39, none, .goto 22, 3, [61], 0, 0), (42, none, .iload_n 2, 1, [], 0, 0), (43, none, .ifCond .ne 12, 3, [55], 0, 0), (46, none, .aload_n 0, 1, [], 0, 0), (47, none, .getfield 69, 3, [11, 32, 2], 0, 0), (50, none, .iconst 0, 1, [], 0, 0), (51, none, .iaload, 1, [], 0, 0), (52, none, .goto 9, 3, [61], 0, 0), (55, none, .aload_n 0, 1, [], 0, 0), (56, none, .getfield 72, 3, [11, 33, 2], 0, 0), (59, none, .iconst 0, 1, [], 0, 0), (60, none, .iaload, 1, [], 0, 0), (61, none, .ireturn, 1, [], 0, 0)]
def k_X11_line : List EN := [(0, none, .aload_n 0, 1, [], 0, 0), (1, none, .iload_n 1, 1, [], 0, 0), (2, none, .iconst 1, 1, [], 1, 0), (3, none, .invokevirtual 435, 3, [1, 274, 2, 1, 11], 0, 0), (6, some [0, 2], .iconst (-1), 1, [], (-1), 0), (7, none, .if_icmp .eq 19, 3, [26], 0, 0), (10, none, .iload_n 2, 1, [], 0, 0), (11, none, .iconst 0, 1, [], 0, 0), (12, none, .aload_n 0, 1, [], 0, 0), (13, none, .getfield 72, 3, [11, 33, 2], 0, 0), (16, none, .iconst 0, 1, [], 0, 0), (17, none, .iaload, 1, [], 0, 0), (18, none, .iconst 1, 1, [], 1, 0), (19, none, .isub, 1, [], 0, 0), (20, none, .invokestatic 94, 3, [0, 162, 3, 1], 0, 0), (23, none, .ifCond .ne 5, 3, [28], 0, 0), (26, none, .iconst (-1), 1, [], (-1), 0), (27, none, .ireturn, 1, [], 0, 0), (28, none, .iconst 0, 1, [], 0, 0), (29, none, .istore_n 3, 1, [], 0, 0), (30, none, .iconst 0, 1, [], 0, 0), (31, none, .istore 4, 2, [], 0, 0), (33, some [0, 2, 3, 4], .iload 4, 2, [], 0, 0), (35, none, .iload_n 2, 1, [], 0, 0), (36, none, .if_icmp .ge 18, 3, [54], 0, 0), (39, none, .iload_n 3, 1, [], 0, 0), (40, none, .aload_n 0, 1, [], 0, 0), (41, none, .getfield 75, 3, [11, 34, 2], 0, 0), (44, none, .iload_n 3, 1, [], 0, 0), (45, none, .iaload, 1, [], 0, 0), (46, none, .iadd, 1, [], 0, 0), (47, none, .istore_n 3, 1, [], 0, 0), (48, none, .iinc 4 1, 3, [], 1, 0), (51, none, .goto (-18), 3, [33], 0, 0), (54, none, .iload_n 3, 1, [], 0, 0), (55, none, .ireturn, 1, [], 0, 0)]
def k_X11_linesBy : List EN := [(0, none, .iconst 0, 1, [], 0, 0), (1, none, .istore_n 2, 1, [], 0, 0), (2, none, .iconst 0, 1, [], 0, 0), (3, none, .istore_n 3, 1, [], 0, 0), (4, some [0, 1, 2, 3], .iload_n 3, 1, [], 0, 0), (5, none, .aload_n 0, 1, [], 0, 0), (6, none, .getfield 7, 3, [11, 0, 2], 0, 0), (9, none, .iconst 4, 1, [], 4, 0), (10, none, .iaload, 1, [], 0, 0), (11, none, .if_icmp .ge 55, 3, [66], 0, 0), (14, none, .iload_n 3, 1, [], 0, 0), (15, none, .istore 4, 2, [], 0, 0), (17, some [0, 1, 2, 3, 4], .iload 4, 2, [], 0, 0), (19, none, .aload_n 0, 1, [], 0, 0), (20, none, .getfield 7, 3, [11, 0, 2], 0, 0), (23, none, .iconst 4, 1, [], 4, 0), (24, none, .iaload, 1, [], 0, 0), (25, none, .if_icmp .ge 22, 3, [47], 0, 0), (28, none, .aload_n 0, 1, [], 0, 0), (29, none, .iload_n 3, 1, [], 0, 0), (30, none, .iload 4, 2, [], 0, 0), (32, none, .iconst 1, 1, [], 1, 0), (33, none, .iadd, 1, [], 0, 0), (34, none, .invokevirtual 429, 3, [1, 272, 2, 1, 11], 0, 0), (37, none, .iload_n 1, 1, [], 0, 0), (38, none, .if_icmp .gt 9, 3, [47], 0, 0), (41, none, .iinc 4 1, 3, [], 1, 0), (44, none, .goto (-27), 3, [17], 0, 0), (47, none, .iload 4, 2, [], 0, 0), (49, none, .iload_n 3, 1, [], 0, 0), (50, none, .if_icmp .ne 7, 3, [57], 0, 0), (53, none, .ldc_w 422, 3, [], 1000000, 0), (56, none, .ireturn, 1, [], 0, 0), (57, none, .iload 4, 2, [], 0, 0), (59, none, .istore_n 3, 1, [], 0, 0), (60, none, .iinc 2 1, 3, [], 1, 0), (63, none, .goto (-59), 3, [4], 0, 0), (66, none, .iload_n 2, 1, [], 0, 0), (67, none, .ireturn, 1, [], 0, 0)]
def k_X11_narrowest : List EN := [(0, none, .iload_n 1, 1, [], 0, 0), (1, none, .iconst 1, 1, [], 1, 0), (2, none, .bipush 10, 2, [], 10, 0), (4, none, .invokestatic 94, 3, [0, 162, 3, 1], 0, 0), (7, some [0, 1], .ifCond .eq 12, 3, [19], 0, 0), (10, none, .aload_n 0, 1, [], 0, 0), (11, none, .getfield 7, 3, [11, 0, 2], 0, 0), (14, none, .iconst 4, 1, [], 4, 0), (15, none, .iaload, 1, [], 0, 0), (16, none, .ifCond .ne 5, 3, [21], 0, 0), (19, none, .iconst (-1), 1, [], (-1), 0), (20, none, .ireturn, 1, [], 0, 0), (21, none, .iconst 1, 1, [], 1, 0), (22, none, .istore_n 2, 1, [], 0, 0), (23, some [0, 1, 2], .aload_n 0, 1, [], 0, 0), (24, none, .iload_n 2, 1, [], 0, 0), (25, none, .invokevirtual 438, 3, [1, 276, 1, 1, 11], 0, 0), (28, none, .iload_n 1, 1, [], 0, 0), (29, none, .if_icmp .le 9, 3, [38], 0, 0), (32, none, .iinc 2 1, 3, [], 1, 0), (35, none, .goto (-12), 3, [23], 0, 0), (38, none, .iload_n 2, 1, [], 0, 0), (39, none, .ireturn, 1, [], 0, 0)]
def k_X11_heard : List EN := [(0, none, .iload_n 1, 1, [], 0, 0), (1, none, .iconst (-1), 1, [], (-1), 0), (2, none, .if_icmp .ne 12, 3, [14], 0, 0), (5, none, .aload_n 0, 1, [], 0, 0), (6, none, .getfield 7, 3, [11, 0, 2], 0, 0), (9, none, .iconst 5, 1, [], 5, 0), (10, none, .iconst 0, 1, [], 0, 0), (11, none, .iastore, 1, [], 0, 0), (12, none, .iconst 0, 1, [], 0, 0), (13, none, .ireturn, 1, [], 0, 0), (14, none, .aload_n 0, 1, [], 0, 0), (15, none, .iload_n 1, 1, [], 0, 0), (16, none, .invokevirtual 98, 3, [1, 167, 1, 1, 11], 0, 0), (19, none, .ifCond .eq 27, 3, [46], 0, 0), (22, none, .iload_n 2, 1, [], 0, 0), (23, none, .sipush (-999), 3, [], (-999), 0), (26, none, .sipush 999, 3, [], 999, 0), (29, none, .invokestatic 94, 3, [0, 162, 3, 1], 0, 0), (32, some [0, 1, 2], .ifCond .eq 14, 3, [46], 0, 0), (35, none, .aload_n 0, 1, [], 0, 0), (36, none, .getfield 7, 3, [11, 0, 2], 0, 0), (39, none, .iconst 5, 1, [], 5, 0), (40, none, .iaload, 1, [], 0, 0), (41, none, .bipush 6, 2, [], 6, 0), (43, none, .if_icmp .ne 6, 3, [49], 0, 0), (46, none, .bipush (-2), 2, [], (-2), 0), (48, none, .ireturn, 1, [], 0, 0), (49, none, .aload_n 0, 1, [], 0, 0), (50, none, .getfield 7, 3, [11, 0, 2], 0, 0), (53, none, .bipush 48, 2, [], 48, 0), (55, none, .iconst 2, 1, [], 2, 0), (56, none, .aload_n 0, 1, [], 0, 0), (57, none, .getfield 7, 3, [11, 0, 2], 0, 0), (60, none, .iconst 5, 1, [], 5, 0), (61, none, .iaload, 1, [], 0, 0), (62, none, .imul, 1, [], 0, 0), (63, none, .iadd, 1, [], 0, 0), (64, none, .iload_n 1, 1, [], 0, 0), (65, none, .iastore, 1, [], 0, 0), (66, none, .aload_n 0, 1, [], 0, 0), (67, none, .getfield 7, 3, [11, 0, 2], 0, 0), (70, none, .bipush 48, 2, [], 48, 0), (72, none, .iconst 2, 1, [], 2, 0), (73, none, .aload_n 0, 1, [], 0, 0), (74, none, .getfield 7, 3, [11, 0, 2], 0, 0), (77, none, .iconst 5, 1, [], 5, 0), (78, none, .iaload, 1, [], 0, 0), (79, none, .imul, 1, [], 0, 0), (80, none, .iadd, 1, [], 0, 0), (81, none, .iconst 1, 1, [], 1, 0), (82, none, .iadd, 1, [], 0, 0), (83, none, .iload_n 2, 1, [], 0, 0), (84, none, .iastore, 1, [], 0, 0), (85, none, .aload_n 0, 1, [], 0, 0), (86, none, .getfield 7, 3, [11, 0, 2], 0, 0), (89, none, .iconst 5, 1, [], 5, 0), (90, none, .dup2, 1, [], 0, 0), (91, none, .iaload, 1, [], 0, 0), (92, none, .iconst 1, 1, [], 1, 0), (93, none, .iadd, 1, [], 0, 0), (94, none, .iastore, 1, [], 0, 0), (95, none, .aload_n 0, 1, [], 0, 0), (96, none, .getfield 7, 3, [11, 0, 2], 0, 0), (99, none, .iconst 5, 1, [], 5, 0), (100, none, .iaload, 1, [], 0, 0), (101, none, .ireturn, 1, [], 0, 0)]
def k_X11_isMeant : List EN := [(0, none, .bipush 48, 2, [], 48, 0), (2, none, .istore 4, 2, [], 0, 0), (4, some [0, 1, 2, 3, 4], .iload 4, 2, [], 0, 0), (6, none, .bipush 48, 2, [], 48, 0), (8, none, .iconst 2, 1, [], 2, 0), (9, none, .aload_n 0, 1, [], 0, 0), (10, none, .getfield 7, 3, [11, 0, 2], 0, 0), (13, none, .iconst 5, 1, [], 5, 0), (14, none, .iaload, 1, [], 0, 0), (15, none, .imul, 1, [], 0, 0), (16, none, .iadd, 1, [], 0, 0), (17, none, .if_icmp .ge 41, 3, [58], 0, 0), (20, none, .aload_n 0, 1, [], 0, 0), (21, none, .aload_n 0, 1, [], 0, 0), (22, none, .getfield 7, 3, [11, 0, 2], 0, 0), (25, none, .iload 4, 2, [], 0, 0), (27, none, .iaload, 1, [], 0, 0), (28, none, .iload_n 1, 1, [], 0, 0), (29, none, .iload_n 2, 1, [], 0, 0), (30, none, .invokevirtual 391, 3, [1, 227, 3, 1, 11], 0, 0), (33, some [0, 1, 2, 3, 4], .aload_n 0, 1, [], 0, 0), (34, none, .getfield 7, 3, [11, 0, 2], 0, 0), (37, none, .iload 4, 2, [], 0, 0), (39, none, .iconst 1, 1, [], 1, 0), (40, none, .iadd, 1, [], 0, 0), (41, none, .iaload, 1, [], 0, 0), (42, none, .isub, 1, [], 0, 0), (43, none, .invokestatic 397, 3, [0, 164, 1, 1], 0, 0), (46, none, .iload_n 3, 1, [], 0, 0), (47, none, .if_icmp .le 5, 3, [52], 0, 0), (50, none, .iconst 0, 1, [], 0, 0), (51, none, .ireturn, 1, [], 0, 0), (52, none, .iinc 4 2, 3, [], 2, 0), (55, none, .goto (-51), 3, [4], 0, 0), (58, none, .iconst 1, 1, [], 1, 0), (59, none, .ireturn, 1, [], 0, 0)]
def k_X11_meant : List EN := [(0, none, .iload_n 1, 1, [], 0, 0), (1, none, .iconst 0, 1, [], 0, 0), (2, none, .bipush 9, 2, [], 9, 0), (4, none, .invokestatic 94, 3, [0, 162, 3, 1], 0, 0), (7, none, .ifCond .eq 12, 3, [19], 0, 0), (10, none, .iload_n 2, 1, [], 0, 0), (11, none, .iconst 0, 1, [], 0, 0), (12, none, .iconst 1, 1, [], 1, 0), (13, none, .invokestatic 94, 3, [0, 162, 3, 1], 0, 0), (16, none, .ifCond .ne 5, 3, [21], 0, 0), (19, none, .iconst (-1), 1, [], (-1), 0), (20, none, .ireturn, 1, [], 0, 0), (21, none, .iconst 0, 1, [], 0, 0), (22, none, .istore_n 3, 1, [], 0, 0), (23, none, .iconst 0, 1, [], 0, 0), (24, none, .istore 4, 2, [], 0, 0), (26, some [0, 1, 2, 3, 4], .iload 4, 2, [], 0, 0), (28, none, .aload_n 0, 1, [], 0, 0), (29, none, .getfield 7, 3, [11, 0, 2], 0, 0), (32, none, .iconst 0, 1, [], 0, 0), (33, none, .iaload, 1, [], 0, 0), (34, none, .if_icmp .ge 57, 3, [91], 0, 0), (37, none, .iconst 0, 1, [], 0, 0), (38, none, .istore 5, 2, [], 0, 0), (40, some [0, 1, 2, 3, 4, 5], .iload 5, 2, [], 0, 0), (42, none, .bipush 100, 2, [], 100, 0), (44, none, .if_icmp .ge 41, 3, [85], 0, 0), (47, none, .aload_n 0, 1, [], 0, 0), (48, none, .iload 4, 2, [], 0, 0), (50, none, .iload 5, 2, [], 0, 0), (52, none, .iload_n 1, 1, [], 0, 0), (53, none, .invokevirtual 441, 3, [1, 279, 3, 1, 11], 0, 0), (56, none, .ifCond .ne 6, 3, [62], 0, 0), (59, none, .goto 20, 3, [79], 0, 0), (62, none, .iload_n 2, 1, [], 0, 0), (63, none, .iconst 1, 1, [], 1, 0), (64, none, .if_icmp .ne 12, 3, [76], 0, 0), (67, none, .bipush 100, 2, [], 100, 0), (69, none, .iload 4, 2, [], 0, 0), (71, none, .imul, 1, [], 0, 0), (72, none, .iload 5, 2, [], 0, 0), (74, none, .iadd, 1, [], 0, 0), (75, none, .ireturn, 1, [], 0, 0), (76, none, .iinc 3 1, 3, [], 1, 0), (79, none, .iinc 5 1, 3, [], 1, 0), (82, none, .goto (-42), 3, [40], 0, 0), (85, none, .iinc 4 1, 3, [], 1, 0), (88, none, .goto (-62), 3, [26], 0, 0), (91, none, .iload_n 2, 1, [], 0, 0), (92, none, .iconst 1, 1, [], 1, 0), (93, none, .if_icmp .ne 7, 3, [100], 0, 0), (96, none, .iconst (-1), 1, [], (-1), 0), (97, none, .goto 4, 3, [101], 0, 0), (100, none, .iload_n 3, 1, [], 0, 0), (101, none, .ireturn, 1, [], 0, 0)]
def k_X11_mostLeft : List EN := [(0, none, .iconst 0, 1, [], 0, 0), (1, none, .istore_n 3, 1, [], 0, 0), (2, some [0, 1, 2, 3], .iload_n 3, 1, [], 0, 0), (3, none, .sipush 1999, 3, [], 1999, 0), (6, none, .if_icmp .ge 16, 3, [22], 0, 0), (9, none, .aload_n 0, 1, [], 0, 0), (10, none, .getfield 78, 3, [11, 35, 2], 0, 0), (13, none, .iload_n 3, 1, [], 0, 0), (14, none, .iconst 0, 1, [], 0, 0), (15, none, .iastore, 1, [], 0, 0), (16, none, .iinc 3 1, 3, [], 1, 0), (19, none, .goto (-17), 3, [2], 0, 0), (22, none, .iconst 0, 1, [], 0, 0), (23, none, .istore_n 3, 1, [], 0, 0), (24, none, .iconst 0, 1, [], 0, 0), (25, none, .istore 4, 2, [], 0, 0), (27, some [0, 1, 2, 3, 4], .iload 4, 2, [], 0, 0), (29, none, .aload_n 0, 1, [], 0, 0), (30, none, .getfield 7, 3, [11, 0, 2], 0, 0), (33, none, .iconst 0, 1, [], 0, 0), (34, none, .iaload, 1, [], 0, 0), (35, none, .if_icmp .ge 89, 3, [124], 0, 0), (38, none, .iconst 0, 1, [], 0, 0), (39, none, .istore 5, 2, [], 0, 0), (41, some [0, 1, 2, 3, 4, 5], .iload 5, 2, [], 0, 0), (43, none, .bipush 100, 2, [], 100, 0), (45, none, .if_icmp .ge 73, 3, [118], 0, 0), (48, none, .aload_n 0, 1, [], 0, 0), (49, none, .iload 4, 2, [], 0, 0), (51, none, .iload 5, 2, [], 0, 0), (53, none, .iload_n 2, 1, [], 0, 0), (54, none, .invokevirtual 441, 3, [1, 279, 3, 1, 11], 0, 0), (57, some [0, 1, 2, 3, 4, 5], .ifCond .ne 6, 3, [63], 0, 0), (60, none, .goto 52, 3, [112], 0, 0), (63, none, .aload_n 0, 1, [], 0, 0), (64, none, .iload_n 1, 1, [], 0, 0), (65, none, .iload 4, 2, [], 0, 0), (67, none, .iload 5, 2, [], 0, 0), (69, none, .invokevirtual 391, 3, [1, 227, 3, 1, 11], 0, 0), (72, some [0, 1, 2, 3, 4, 5], .sipush 999, 3, [], 999, 0), (75, none, .iadd, 1, [], 0, 0), (76, none, .istore 6, 2, [], 0, 0), (78, none, .aload_n 0, 1, [], 0, 0), (79, none, .getfield 78, 3, [11, 35, 2], 0, 0), (82, none, .iload 6, 2, [], 0, 0), (84, none, .dup2, 1, [], 0, 0), (85, none, .iaload, 1, [], 0, 0), (86, none, .iconst 1, 1, [], 1, 0), (87, none, .iadd, 1, [], 0, 0), (88, none, .iastore, 1, [], 0, 0), (89, none, .aload_n 0, 1, [], 0, 0), (90, none, .getfield 78, 3, [11, 35, 2], 0, 0), (93, none, .iload 6, 2, [], 0, 0), (95, none, .iaload, 1, [], 0, 0), (96, none, .iload_n 3, 1, [], 0, 0), (97, none, .if_icmp .le 13, 3, [110], 0, 0), (100, none, .aload_n 0, 1, [], 0, 0), (101, none, .getfield 78, 3, [11, 35, 2], 0, 0), (104, none, .iload 6, 2, [], 0, 0), (106, none, .iaload, 1, [], 0, 0), (107, none, .goto 4, 3, [111], 0, 0), (110, none, .iload_n 3, 1, [], 0, 0), (111, none, .istore_n 3, 1, [], 0, 0), (112, none, .iinc 5 1, 3, [], 1, 0), (115, none, .goto (-74), 3, [41], 0, 0), (118, none, .iinc 4 1, 3, [], 1, 0), (121, none, .goto (-94), 3, [27], 0, 0), (124, none, .iload_n 3, 1, [], 0, 0), (125, none, .ireturn, 1, [], 0, 0)]
def k_X11_listen : List EN := [(0, none, .iload_n 1, 1, [], 0, 0), (1, none, .iconst 0, 1, [], 0, 0), (2, none, .bipush 9, 2, [], 9, 0), (4, none, .invokestatic 94, 3, [0, 162, 3, 1], 0, 0), (7, some [0, 1], .ifCond .eq 13, 3, [20], 0, 0), (10, none, .aload_n 0, 1, [], 0, 0), (11, none, .iload_n 1, 1, [], 0, 0), (12, none, .iconst 0, 1, [], 0, 0), (13, none, .invokevirtual 444, 3, [1, 280, 2, 1, 11], 0, 0), (16, none, .iconst 2, 1, [], 2, 0), (17, none, .if_icmp .ge 5, 3, [22], 0, 0), (20, none, .iconst (-1), 1, [], (-1), 0), (21, none, .ireturn, 1, [], 0, 0), (22, none, .iconst (-1), 1, [], (-1), 0), (23, none, .istore_n 2, 1, [], 0, 0), (24, none, .ldc_w 422, 3, [], 1000000, 0), (27, none, .istore_n 3, 1, [], 0, 0), (28, none, .iconst 0, 1, [], 0, 0), (29, none, .istore 4, 2, [], 0, 0), (31, some [0, 1, 2, 3, 4], .iload 4, 2, [], 0, 0), (33, none, .aload_n 0, 1, [], 0, 0), (34, none, .getfield 7, 3, [11, 0, 2], 0, 0), (37, none, .iconst 0, 1, [], 0, 0), (38, none, .iaload, 1, [], 0, 0), (39, none, .if_icmp .ge 33, 3, [72], 0, 0), (42, none, .aload_n 0, 1, [], 0, 0), (43, none, .iload 4, 2, [], 0, 0), (45, none, .iload_n 1, 1, [], 0, 0), (46, none, .invokevirtual 447, 3, [1, 281, 2, 1, 11], 0, 0), (49, none, .istore 5, 2, [], 0, 0), (51, none, .iload 5, 2, [], 0, 0), (53, none, .iload_n 3, 1, [], 0, 0), (54, none, .if_icmp .lt 6, 3, [60], 0, 0), (57, none, .goto 9, 3, [66], 0, 0), (60, none, .iload 5, 2, [], 0, 0), (62, none, .istore_n 3, 1, [], 0, 0), (63, none, .iload 4, 2, [], 0, 0), (65, none, .istore_n 2, 1, [], 0, 0), (66, none, .iinc 4 1, 3, [], 1, 0), (69, none, .goto (-38), 3, [31], 0, 0), (72, none, .iload_n 2, 1, [], 0, 0), (73, none, .ireturn, 1, [], 0, 0)]
def k_X11_areHeld : List EN := [(0, none, .iload_n 1, 1, [], 0, 0), (1, none, .aload_n 0, 1, [], 0, 0), (2, none, .getfield 7, 3, [11, 0, 2], 0, 0), (5, none, .bipush 37, 2, [], 37, 0), (7, none, .iaload, 1, [], 0, 0), (8, none, .iand, 1, [], 0, 0), (9, none, .ifCond .eq 5, 3, [14], 0, 0), (12, none, .iconst 0, 1, [], 0, 0), (13, none, .ireturn, 1, [], 0, 0), (14, none, .iconst 0, 1, [], 0, 0), (15, none, .istore_n 2, 1, [], 0, 0), (16, some [0, 1, 2], .iload_n 2, 1, [], 0, 0), (17, none, .aload_n 0, 1, [], 0, 0), (18, none, .getfield 7, 3, [11, 0, 2], 0, 0), (21, none, .iconst 0, 1, [], 0, 0), (22, none, .iaload, 1, [], 0, 0), (23, none, .if_icmp .ge 43, 3, [66], 0, 0), (26, none, .iload_n 1, 1, [], 0, 0), (27, none, .iload_n 2, 1, [], 0, 0), (28, none, .invokestatic 266, 3, [0, 165, 2, 1], 0, 0), (31, none, .ifCond .ne 29, 3, [60], 0, 0), (34, none, .iload_n 1, 1, [], 0, 0), (35, none, .iload_n 2, 1, [], 0, 0), (36, none, .iconst 1, 1, [], 1, 0), (37, none, .iadd, 1, [], 0, 0), (38, none, .invokestatic 266, 3, [0, 165, 2, 1], 0, 0), (41, none, .ifCond .ne 19, 3, [60], 0, 0), (44, none, .iload_n 2, 1, [], 0, 0), (45, none, .ifCond .eq 13, 3, [58], 0, 0), (48, none, .iload_n 1, 1, [], 0, 0), (49, none, .iload_n 2, 1, [], 0, 0), (50, none, .iconst 1, 1, [], 1, 0), (51, none, .isub, 1, [], 0, 0), (52, none, .invokestatic 266, 3, [0, 165, 2, 1], 0, 0), (55, none, .ifCond .ne 5, 3, [60], 0, 0), (58, none, .iconst 0, 1, [], 0, 0), (59, none, .ireturn, 1, [], 0, 0), (60, none, .iinc 2 1, 3, [], 1, 0), (63, none, .goto (-47), 3, [16], 0, 0), (66, none, .iconst 1, 1, [], 1, 0), (67, none, .ireturn, 1, [], 0, 0)]
def k_X11_props : List EN := [(0, none, .iconst (-1), 1, [], (-1), 0), (1, none, .istore_n 2, 1, [], 0, 0), (2, none, .iconst 1, 1, [], 1, 0), (3, none, .aload_n 0, 1, [], 0, 0), (4, none, .getfield 7, 3, [11, 0, 2], 0, 0), (7, none, .iconst 0, 1, [], 0, 0), (8, none, .iaload, 1, [], 0, 0), (9, none, .ishl, 1, [], 0, 0), (10, none, .iconst 1, 1, [], 1, 0), (11, none, .isub, 1, [], 0, 0), (12, none, .istore_n 3, 1, [], 0, 0), (13, some [0, 1, 2, 3], .iload_n 3, 1, [], 0, 0), (14, none, .ifCond .lt 35, 3, [49], 0, 0), (17, none, .aload_n 0, 1, [], 0, 0), (18, none, .iload_n 3, 1, [], 0, 0), (19, none, .invokevirtual 450, 3, [1, 283, 1, 1, 11], 0, 0), (22, none, .ifCond .eq 21, 3, [43], 0, 0), (25, none, .iload_n 2, 1, [], 0, 0), (26, none, .iconst (-1), 1, [], (-1), 0), (27, none, .if_icmp .eq 14, 3, [41], 0, 0), (30, none, .iload_n 3, 1, [], 0, 0), (31, none, .invokestatic 453, 3, [0, 166, 1, 1], 0, 0), (34, none, .iload_n 2, 1, [], 0, 0), (35, none, .invokestatic 453, 3, [0, 166, 1, 1], 0, 0), (38, none, .if_icmp .gt 5, 3, [43], 0, 0), (41, none, .iload_n 3, 1, [], 0, 0), (42, none, .istore_n 2, 1, [], 0, 0), (43, none, .iinc 3 (-1), 3, [], (-1), 0), (46, none, .goto (-33), 3, [13], 0, 0), (49, none, .iload_n 2, 1, [], 0, 0), (50, none, .iconst (-1), 1, [], (-1), 0), (51, none, .if_icmp .ne 7, 3, [58], 0, 0), (54, none, .iconst (-1), 1, [], (-1), 0), (55, none, .goto 15, 3, [70], 0, 0), (58, none, .iload_n 1, 1, [], 0, 0), (59, none, .ifCond .eq 10, 3, [69], 0, 0), (62, none, .iload_n 2, 1, [], 0, 0), (63, none, .invokestatic 453, 3, [0, 166, 1, 1], 0, 0), (66, none, .goto 4, 3, [70], 0, 0), (69, none, .iload_n 2, 1, [], 0, 0), (70, none, .ireturn, 1, [], 0, 0)]
def k_X11_divisor : List EN := [(0, none, .lload_n 0, 1, [], 0, 0), (1, none, .lstore 4, 2, [], 0, 0), (3, none, .lload_n 2, 1, [], 0, 0), (4, none, .lstore 6, 2, [], 0, 0), (6, some [4, 6], .lload 6, 2, [], 0, 0), (8, none, .lconst 0, 1, [], 0, 0), (9, none, .lcmp, 1, [], 0, 0), (10, none, .ifCond .eq 21, 3, [31], 0, 0), (13, none, .lload 4, 2, [], 0, 0), (15, none, .lload 6, 2, [], 0, 0), (17, none, .lrem, 1, [], 0, 0), (18, none, .lstore 8, 2, [], 0, 0), (20, none, .lload 6, 2, [], 0, 0), (22, none, .lstore 4, 2, [], 0, 0), (24, none, .lload 8, 2, [], 0, 0), (26, none, .lstore 6, 2, [], 0, 0), (28, none, .goto (-22), 3, [6], 0, 0), (31, none, .lload 4, 2, [], 0, 0), (33, none, .lreturn, 1, [], 0, 0)]
def k_X11_threes : List EN := [(0, none, .lconst 1, 1, [], 0, 1), (1, none, .lstore_n 1, 1, [], 0, 0), (2, none, .iconst 0, 1, [], 0, 0), (3, none, .istore_n 3, 1, [], 0, 0), (4, some [0, 1, 3], .iload_n 3, 1, [], 0, 0), (5, none, .iload_n 0, 1, [], 0, 0), (6, none, .if_icmp .ge 15, 3, [21], 0, 0), (9, none, .lload_n 1, 1, [], 0, 0), (10, none, .ldc2_w 456, 3, [], 0, 3), (13, none, .lmul, 1, [], 0, 0), (14, none, .lstore_n 1, 1, [], 0, 0), (15, none, .iinc 3 1, 3, [], 1, 0), (18, none, .goto (-14), 3, [4], 0, 0), (21, none, .lload_n 1, 1, [], 0, 0), (22, none, .lreturn, 1, [], 0, 0)]
def k_X11_goOne : List EN := [(0, none, .iconst 0, 1, [], 0, 0), (1, none, .istore_n 1, 1, [], 0, 0), (2, some [0, 1], .iload_n 1, 1, [], 0, 0), (3, none, .bipush 19, 2, [], 19, 0), (5, none, .if_icmp .ge 58, 3, [63], 0, 0), (8, none, .aload_n 0, 1, [], 0, 0), (9, none, .getfield 84, 3, [11, 37, 2], 0, 0), (12, none, .iload_n 1, 1, [], 0, 0), (13, none, .aload_n 0, 1, [], 0, 0), (14, none, .getfield 81, 3, [11, 36, 2], 0, 0), (17, none, .iload_n 1, 1, [], 0, 0), (18, none, .laload, 1, [], 0, 0), (19, none, .aload_n 0, 1, [], 0, 0), (20, none, .getfield 81, 3, [11, 36, 2], 0, 0), (23, none, .iload_n 1, 1, [], 0, 0), (24, none, .ifCond .le 9, 3, [33], 0, 0), (27, none, .iload_n 1, 1, [], 0, 0), (28, none, .iconst 1, 1, [], 1, 0), (29, none, .isub, 1, [], 0, 0), (30, none, .goto 4, 3, [34], 0, 0), (33, none, .iconst 0, 1, [], 0, 0), (34, some [0, 1], .laload, 1, [], 0, 0), (35, none, .ladd, 1, [], 0, 0), (36, none, .aload_n 0, 1, [], 0, 0), (37, none, .getfield 81, 3, [11, 36, 2], 0, 0), (40, none, .iload_n 1, 1, [], 0, 0), (41, none, .bipush 18, 2, [], 18, 0), (43, none, .if_icmp .ge 9, 3, [52], 0, 0), (46, none, .iload_n 1, 1, [], 0, 0), (47, none, .iconst 1, 1, [], 1, 0), (48, none, .iadd, 1, [], 0, 0), (49, none, .goto 5, 3, [54], 0, 0), (52, none, .bipush 18, 2, [], 18, 0), (54, none, .laload, 1, [], 0, 0), (55, none, .ladd, 1, [], 0, 0), (56, none, .lastore, 1, [], 0, 0), (57, none, .iinc 1 1, 3, [], 1, 0), (60, none, .goto (-58), 3, [2], 0, 0), (63, none, .iconst 0, 1, [], 0, 0), (64, none, .istore_n 1, 1, [], 0, 0), (65, some [0, 1], .iload_n 1, 1, [], 0, 0), (66, none, .bipush 19, 2, [], 19, 0), (68, none, .if_icmp .ge 21, 3, [89], 0, 0), (71, none, .aload_n 0, 1, [], 0, 0), (72, none, .getfield 81, 3, [11, 36, 2], 0, 0), (75, none, .iload_n 1, 1, [], 0, 0), (76, none, .aload_n 0, 1, [], 0, 0), (77, none, .getfield 84, 3, [11, 37, 2], 0, 0), (80, none, .iload_n 1, 1, [], 0, 0), (81, none, .laload, 1, [], 0, 0), (82, none, .lastore, 1, [], 0, 0), (83, none, .iinc 1 1, 3, [], 1, 0), (86, none, .goto (-21), 3, [65], 0, 0), (89, none, .return_, 1, [], 0, 0)]
def k_X11_part : List EN := [(0, none, .iload 4, 2, [], 0, 0), (2, none, .ifCond .eq 7, 3, [9], 0, 0), (5, none, .lload_n 2, 1, [], 0, 0), (6, none, .goto 4, 3, [10], 0, 0), (9, none, .lload_n 0, 1, [], 0, 0), (10, none, .lload_n 0, 1, [], 0, 0), (11, none, .lload_n 2, 1, [], 0, 0), (12, none, .invokestatic 458, 3, [0, 285, 2, 2], 0, 0), (15, none, .ldiv, 1, [], 0, 0), (16, none, .lreturn, 1, [], 0, 0)]
def k_X11_likely : List EN := [(0, none, .iload_n 1, 1, [], 0, 0), (1, none, .invokestatic 102, 3, [0, 168, 1, 1], 0, 0), (4, none, .ifCond .eq 20, 3, [24], 0, 0), (7, none, .iload_n 3, 1, [], 0, 0), (8, none, .invokestatic 102, 3, [0, 168, 1, 1], 0, 0), (11, none, .ifCond .eq 13, 3, [24], 0, 0), (14, none, .iload_n 2, 1, [], 0, 0), (15, none, .iconst 0, 1, [], 0, 0), (16, none, .bipush 20, 2, [], 20, 0), (18, none, .invokestatic 94, 3, [0, 162, 3, 1], 0, 0), (21, none, .ifCond .ne 7, 3, [28], 0, 0), (24, none, .ldc2_w 461, 3, [], 0, (-1)), (27, none, .lreturn, 1, [], 0, 0), (28, none, .iconst 0, 1, [], 0, 0), (29, none, .istore 5, 2, [], 0, 0), (31, some [0, 1, 2, 3, 4, 5], .iload 5, 2, [], 0, 0), (33, none, .bipush 19, 2, [], 19, 0), (35, none, .if_icmp .ge 30, 3, [65], 0, 0), (38, none, .aload_n 0, 1, [], 0, 0), (39, none, .getfield 81, 3, [11, 36, 2], 0, 0), (42, none, .iload 5, 2, [], 0, 0), (44, none, .iload 5, 2, [], 0, 0), (46, none, .iload_n 1, 1, [], 0, 0), (47, none, .bipush 9, 2, [], 9, 0), (49, none, .iadd, 1, [], 0, 0), (50, none, .if_icmp .ne 7, 3, [57], 0, 0), (53, none, .lconst 1, 1, [], 0, 1), (54, none, .goto 4, 3, [58], 0, 0), (57, none, .lconst 0, 1, [], 0, 0), (58, none, .lastore, 1, [], 0, 0), (59, none, .iinc 5 1, 3, [], 1, 0), (62, none, .goto (-31), 3, [31], 0, 0), (65, none, .iconst 0, 1, [], 0, 0), (66, none, .istore 5, 2, [], 0, 0), (68, some [0, 2, 3, 4, 5], .iload 5, 2, [], 0, 0), (70, none, .iload_n 2, 1, [], 0, 0), (71, none, .if_icmp .ge 13, 3, [84], 0, 0), (74, none, .aload_n 0, 1, [], 0, 0), (75, none, .invokevirtual 463, 3, [1, 287, 0, 0, 11], 0, 0), (78, none, .iinc 5 1, 3, [], 1, 0), (81, none, .goto (-13), 3, [68], 0, 0), (84, none, .aload_n 0, 1, [], 0, 0), (85, none, .getfield 81, 3, [11, 36, 2], 0, 0), (88, none, .iload_n 3, 1, [], 0, 0), (89, none, .bipush 9, 2, [], 9, 0), (91, none, .iadd, 1, [], 0, 0), (92, none, .laload, 1, [], 0, 0), (93, none, .iload_n 2, 1, [], 0, 0), (94, none, .invokestatic 466, 3, [0, 286, 1, 2], 0, 0), (97, none, .iload 4, 2, [], 0, 0), (99, none, .invokestatic 470, 3, [0, 288, 3, 2], 0, 0), (102, none, .lreturn, 1, [], 0, 0)]
def k_X11_first : List EN := [(0, none, .iload_n 1, 1, [], 0, 0), (1, none, .invokestatic 102, 3, [0, 168, 1, 1], 0, 0), (4, none, .ifCond .eq 13, 3, [17], 0, 0), (7, none, .iload_n 2, 1, [], 0, 0), (8, none, .iconst 0, 1, [], 0, 0), (9, none, .bipush 20, 2, [], 20, 0), (11, none, .invokestatic 94, 3, [0, 162, 3, 1], 0, 0), (14, none, .ifCond .ne 7, 3, [21], 0, 0), (17, none, .ldc2_w 461, 3, [], 0, (-1)), (20, none, .lreturn, 1, [], 0, 0), (21, none, .iconst 0, 1, [], 0, 0), (22, none, .istore 4, 2, [], 0, 0), (24, some [0, 1, 2, 3, 4], .iload 4, 2, [], 0, 0), (26, none, .bipush 19, 2, [], 19, 0), (28, none, .if_icmp .ge 30, 3, [58], 0, 0), (31, none, .aload_n 0, 1, [], 0, 0), (32, none, .getfield 81, 3, [11, 36, 2], 0, 0), (35, none, .iload 4, 2, [], 0, 0), (37, none, .iload 4, 2, [], 0, 0), (39, none, .iload_n 1, 1, [], 0, 0), (40, none, .bipush 9, 2, [], 9, 0), (42, none, .iadd, 1, [], 0, 0), (43, none, .if_icmp .ne 7, 3, [50], 0, 0), (46, none, .lconst 1, 1, [], 0, 1), (47, none, .goto 4, 3, [51], 0, 0), (50, none, .lconst 0, 1, [], 0, 0), (51, none, .lastore, 1, [], 0, 0), (52, none, .iinc 4 1, 3, [], 1, 0), (55, none, .goto (-31), 3, [24], 0, 0), (58, none, .iconst 0, 1, [], 0, 0), (59, none, .istore 4, 2, [], 0, 0), (61, some [0, 2, 3, 4], .iload 4, 2, [], 0, 0), (63, none, .iload_n 2, 1, [], 0, 0), (64, none, .if_icmp .ge 21, 3, [85], 0, 0), (67, none, .aload_n 0, 1, [], 0, 0), (68, none, .getfield 81, 3, [11, 36, 2], 0, 0), (71, none, .bipush 9, 2, [], 9, 0), (73, none, .lconst 0, 1, [], 0, 0), (74, none, .lastore, 1, [], 0, 0), (75, none, .aload_n 0, 1, [], 0, 0), (76, none, .invokevirtual 463, 3, [1, 287, 0, 0, 11], 0, 0), (79, none, .iinc 4 1, 3, [], 1, 0), (82, none, .goto (-21), 3, [61], 0, 0), (85, none, .aload_n 0, 1, [], 0, 0), (86, none, .getfield 81, 3, [11, 36, 2], 0, 0), (89, none, .bipush 9, 2, [], 9, 0), (91, none, .laload, 1, [], 0, 0), (92, none, .iload_n 2, 1, [], 0, 0), (93, none, .invokestatic 466, 3, [0, 286, 1, 2], 0, 0), (96, none, .iload_n 3, 1, [], 0, 0), (97, none, .invokestatic 470, 3, [0, 288, 3, 2], 0, 0), (100, none, .lreturn, 1, [], 0, 0)]
def k_X11_median : List EN := [(0, none, .aload_n 0, 1, [], 0, 0), (1, none, .getfield 7, 3, [11, 0, 2], 0, 0), (4, none, .iconst 0, 1, [], 0, 0), (5, none, .iaload, 1, [], 0, 0), (6, none, .istore_n 1, 1, [], 0, 0), (7, none, .iconst 0, 1, [], 0, 0), (8, none, .istore_n 2, 1, [], 0, 0), (9, some [0, 1, 2], .iload_n 2, 1, [], 0, 0), (10, none, .iload_n 1, 1, [], 0, 0), (11, none, .if_icmp .ge 119, 3, [130], 0, 0), (14, none, .iconst 0, 1, [], 0, 0), (15, none, .istore_n 3, 1, [], 0, 0), (16, none, .iconst 0, 1, [], 0, 0), (17, none, .istore 4, 2, [], 0, 0), (19, none, .iconst 0, 1, [], 0, 0), (20, none, .istore 5, 2, [], 0, 0), (22, some [0, 1, 2, 3, 4, 5], .iload 5, 2, [], 0, 0), (24, none, .iload_n 1, 1, [], 0, 0), (25, none, .if_icmp .ge 71, 3, [96], 0, 0), (28, none, .iload_n 3, 1, [], 0, 0), (29, none, .aload_n 0, 1, [], 0, 0), (30, none, .getfield 7, 3, [11, 0, 2], 0, 0), (33, none, .bipush 12, 2, [], 12, 0), (35, none, .iload 5, 2, [], 0, 0), (37, none, .iadd, 1, [], 0, 0), (38, none, .iaload, 1, [], 0, 0), (39, none, .aload_n 0, 1, [], 0, 0), (40, none, .getfield 7, 3, [11, 0, 2], 0, 0), (43, none, .bipush 12, 2, [], 12, 0), (45, none, .iload_n 2, 1, [], 0, 0), (46, none, .iadd, 1, [], 0, 0), (47, none, .iaload, 1, [], 0, 0), (48, none, .if_icmp .ge 7, 3, [55], 0, 0), (51, none, .iconst 1, 1, [], 1, 0), (52, none, .goto 4, 3, [56], 0, 0), (55, none, .iconst 0, 1, [], 0, 0), (56, some [0, 1, 2, 4, 5], .iadd, 1, [], 0, 0), (57, none, .istore_n 3, 1, [], 0, 0), (58, none, .iload 4, 2, [], 0, 0), (60, none, .aload_n 0, 1, [], 0, 0), (61, none, .getfield 7, 3, [11, 0, 2], 0, 0), (64, none, .bipush 12, 2, [], 12, 0), (66, none, .iload 5, 2, [], 0, 0), (68, none, .iadd, 1, [], 0, 0), (69, none, .iaload, 1, [], 0, 0), (70, none, .aload_n 0, 1, [], 0, 0), (71, none, .getfield 7, 3, [11, 0, 2], 0, 0), (74, none, .bipush 12, 2, [], 12, 0), (76, none, .iload_n 2, 1, [], 0, 0), (77, none, .iadd, 1, [], 0, 0), (78, none, .iaload, 1, [], 0, 0), (79, none, .if_icmp .ne 7, 3, [86], 0, 0), (82, none, .iconst 1, 1, [], 1, 0), (83, none, .goto 4, 3, [87], 0, 0), (86, none, .iconst 0, 1, [], 0, 0), (87, none, .iadd, 1, [], 0, 0), (88, none, .istore 4, 2, [], 0, 0), (90, none, .iinc 5 1, 3, [], 1, 0), (93, none, .goto (-71), 3, [22], 0, 0), (96, none, .iload_n 1, 1, [], 0, 0), (97, none, .iconst 1, 1, [], 1, 0), (98, none, .isub, 1, [], 0, 0), (99, none, .iconst 2, 1, [], 2, 0), (100, none, .idiv, 1, [], 0, 0), (101, none, .iload_n 3, 1, [], 0, 0), (102, none, .iload_n 3, 1, [], 0, 0), (103, none, .iload 4, 2, [], 0, 0), (105, none, .iadd, 1, [], 0, 0), (106, none, .iconst 1, 1, [], 1, 0), (107, none, .isub, 1, [], 0, 0), (108, none, .invokestatic 94, 3, [0, 162, 3, 1], 0, 0), (111, some [0, 1, 2], .ifCond .eq 13, 3, [124], 0, 0), (114, none, .aload_n 0, 1, [], 0, 0), (115, none, .getfield 7, 3, [11, 0, 2], 0, 0), (118, none, .bipush 12, 2, [], 12, 0), (120, none, .iload_n 2, 1, [], 0, 0), (121, none, .iadd, 1, [], 0, 0), (122, none, .iaload, 1, [], 0, 0), (123, none, .ireturn, 1, [], 0, 0), (124, none, .iinc 2 1, 3, [], 1, 0), (127, none, .goto (-118), 3, [9], 0, 0), (130, none, .bipush (-100), 2, [], (-100), 0), (132, none, .ireturn, 1, [], 0, 0)]
def k_X11_spread : List EN := [(0, none, .bipush 9, 2, [], 9, 0), (2, none, .istore_n 1, 1, [], 0, 0), (3, none, .bipush (-9), 2, [], (-9), 0), (5, none, .istore_n 2, 1, [], 0, 0), (6, none, .iconst 0, 1, [], 0, 0), (7, none, .istore_n 3, 1, [], 0, 0), (8, some [0, 1, 2, 3], .iload_n 3, 1, [], 0, 0), (9, none, .aload_n 0, 1, [], 0, 0), (10, none, .getfield 7, 3, [11, 0, 2], 0, 0), (13, none, .iconst 0, 1, [], 0, 0), (14, none, .iaload, 1, [], 0, 0), (15, none, .if_icmp .ge 63, 3, [78], 0, 0), (18, none, .aload_n 0, 1, [], 0, 0), (19, none, .getfield 7, 3, [11, 0, 2], 0, 0), (22, none, .bipush 12, 2, [], 12, 0), (24, none, .iload_n 3, 1, [], 0, 0), (25, none, .iadd, 1, [], 0, 0), (26, none, .iaload, 1, [], 0, 0), (27, none, .iload_n 1, 1, [], 0, 0), (28, none, .if_icmp .ge 15, 3, [43], 0, 0), (31, none, .aload_n 0, 1, [], 0, 0), (32, none, .getfield 7, 3, [11, 0, 2], 0, 0), (35, none, .bipush 12, 2, [], 12, 0), (37, none, .iload_n 3, 1, [], 0, 0), (38, none, .iadd, 1, [], 0, 0), (39, none, .iaload, 1, [], 0, 0), (40, none, .goto 4, 3, [44], 0, 0), (43, none, .iload_n 1, 1, [], 0, 0), (44, some [0, 2, 3], .istore_n 1, 1, [], 0, 0), (45, none, .aload_n 0, 1, [], 0, 0), (46, none, .getfield 7, 3, [11, 0, 2], 0, 0), (49, none, .bipush 12, 2, [], 12, 0), (51, none, .iload_n 3, 1, [], 0, 0), (52, none, .iadd, 1, [], 0, 0), (53, none, .iaload, 1, [], 0, 0), (54, none, .iload_n 2, 1, [], 0, 0), (55, none, .if_icmp .le 15, 3, [70], 0, 0), (58, none, .aload_n 0, 1, [], 0, 0), (59, none, .getfield 7, 3, [11, 0, 2], 0, 0), (62, none, .bipush 12, 2, [], 12, 0), (64, none, .iload_n 3, 1, [], 0, 0), (65, none, .iadd, 1, [], 0, 0), (66, none, .iaload, 1, [], 0, 0), (67, none, .goto 4, 3, [71], 0, 0), (70, none, .iload_n 2, 1, [], 0, 0), (71, none, .istore_n 2, 1, [], 0, 0), (72, none, .iinc 3 1, 3, [], 1, 0), (75, none, .goto (-67), 3, [8], 0, 0), (78, none, .aload_n 0, 1, [], 0, 0), (79, none, .getfield 7, 3, [11, 0, 2], 0, 0), (82, none, .iconst 0, 1, [], 0, 0), (83, none, .iaload, 1, [], 0, 0), (84, none, .ifCond .ne 7, 3, [91], 0, 0), (87, none, .iconst 0, 1, [], 0, 0), (88, none, .goto 6, 3, [94], 0, 0), (91, none, .iload_n 2, 1, [], 0, 0), (92, none, .iload_n 1, 1, [], 0, 0), (93, none, .isub, 1, [], 0, 0), (94, none, .ireturn, 1, [], 0, 0)]
def k_X11_isWon : List EN := [(0, none, .iconst 1, 1, [], 1, 0), (1, none, .istore_n 3, 1, [], 0, 0), (2, some [0, 1, 2, 3], .iload_n 3, 1, [], 0, 0), (3, none, .iconst 4, 1, [], 4, 0), (4, none, .if_icmp .ge 53, 3, [57], 0, 0), (7, none, .iload_n 3, 1, [], 0, 0), (8, none, .iload_n 1, 1, [], 0, 0), (9, none, .if_icmp .gt 19, 3, [28], 0, 0), (12, none, .aload_n 0, 1, [], 0, 0), (13, none, .getfield 87, 3, [11, 38, 2], 0, 0), (16, none, .bipush 10, 2, [], 10, 0), (18, none, .iload_n 1, 1, [], 0, 0), (19, none, .iload_n 3, 1, [], 0, 0), (20, none, .isub, 1, [], 0, 0), (21, none, .imul, 1, [], 0, 0), (22, none, .iload_n 2, 1, [], 0, 0), (23, none, .iadd, 1, [], 0, 0), (24, none, .baload, 1, [], 0, 0), (25, none, .ifCond .eq 24, 3, [49], 0, 0), (28, some [0, 1, 2, 3], .iload_n 3, 1, [], 0, 0), (29, none, .iload_n 2, 1, [], 0, 0), (30, none, .if_icmp .gt 21, 3, [51], 0, 0), (33, none, .aload_n 0, 1, [], 0, 0), (34, none, .getfield 87, 3, [11, 38, 2], 0, 0), (37, none, .bipush 10, 2, [], 10, 0), (39, none, .iload_n 1, 1, [], 0, 0), (40, none, .imul, 1, [], 0, 0), (41, none, .iload_n 2, 1, [], 0, 0), (42, none, .iadd, 1, [], 0, 0), (43, none, .iload_n 3, 1, [], 0, 0), (44, none, .isub, 1, [], 0, 0), (45, none, .baload, 1, [], 0, 0), (46, none, .ifCond .ne 5, 3, [51], 0, 0), (49, none, .iconst 1, 1, [], 1, 0), (50, none, .ireturn, 1, [], 0, 0), (51, none, .iinc 3 1, 3, [], 1, 0), (54, none, .goto (-52), 3, [2], 0, 0), (57, none, .iconst 0, 1, [], 0, 0), (58, none, .ireturn, 1, [], 0, 0)]
def k_X11_quarrel : List EN := [(0, none, .aload_n 0, 1, [], 0, 0), (1, none, .iload_n 1, 1, [], 0, 0), (2, none, .invokevirtual 98, 3, [1, 167, 1, 1, 11], 0, 0), (5, some [0, 1, 2], .ifCond .eq 16, 3, [21], 0, 0), (8, none, .aload_n 0, 1, [], 0, 0), (9, none, .iload_n 2, 1, [], 0, 0), (10, none, .invokevirtual 98, 3, [1, 167, 1, 1, 11], 0, 0), (13, none, .ifCond .eq 8, 3, [21], 0, 0), (16, none, .iload_n 1, 1, [], 0, 0), (17, none, .iload_n 2, 1, [], 0, 0), (18, none, .if_icmp .ne 5, 3, [23], 0, 0), (21, none, .iconst (-1), 1, [], (-1), 0), (22, none, .ireturn, 1, [], 0, 0), (23, none, .iconst 0, 1, [], 0, 0), (24, none, .istore_n 3, 1, [], 0, 0), (25, some [0, 1, 2, 3], .iload_n 3, 1, [], 0, 0), (26, none, .bipush 10, 2, [], 10, 0), (28, none, .if_icmp .ge 44, 3, [72], 0, 0), (31, none, .iconst 0, 1, [], 0, 0), (32, none, .istore 4, 2, [], 0, 0), (34, some [0, 1, 2, 3, 4], .iload 4, 2, [], 0, 0), (36, none, .bipush 10, 2, [], 10, 0), (38, none, .if_icmp .ge 28, 3, [66], 0, 0), (41, none, .aload_n 0, 1, [], 0, 0), (42, none, .getfield 87, 3, [11, 38, 2], 0, 0), (45, none, .bipush 10, 2, [], 10, 0), (47, none, .iload_n 3, 1, [], 0, 0), (48, none, .imul, 1, [], 0, 0), (49, none, .iload 4, 2, [], 0, 0), (51, none, .iadd, 1, [], 0, 0), (52, none, .aload_n 0, 1, [], 0, 0), (53, none, .iload_n 3, 1, [], 0, 0), (54, none, .iload 4, 2, [], 0, 0), (56, none, .invokevirtual 474, 3, [1, 293, 2, 1, 11], 0, 0), (59, some [0, 1, 2, 3, 4], .bastore, 1, [], 0, 0), (60, none, .iinc 4 1, 3, [], 1, 0), (63, none, .goto (-29), 3, [34], 0, 0), (66, none, .iinc 3 1, 3, [], 1, 0), (69, none, .goto (-44), 3, [25], 0, 0), (72, none, .aload_n 0, 1, [], 0, 0), (73, none, .getfield 87, 3, [11, 38, 2], 0, 0), (76, none, .bipush 10, 2, [], 10, 0), (78, none, .aload_n 0, 1, [], 0, 0), (79, none, .getfield 7, 3, [11, 0, 2], 0, 0), (82, none, .bipush 12, 2, [], 12, 0), (84, none, .iload_n 1, 1, [], 0, 0), (85, none, .iadd, 1, [], 0, 0), (86, none, .iaload, 1, [], 0, 0), (87, none, .invokestatic 397, 3, [0, 164, 1, 1], 0, 0), (90, some [0, 2], .imul, 1, [], 0, 0), (91, none, .aload_n 0, 1, [], 0, 0), (92, none, .getfield 7, 3, [11, 0, 2], 0, 0), (95, none, .bipush 12, 2, [], 12, 0), (97, none, .iload_n 2, 1, [], 0, 0), (98, none, .iadd, 1, [], 0, 0), (99, none, .iaload, 1, [], 0, 0), (100, none, .invokestatic 397, 3, [0, 164, 1, 1], 0, 0), (103, some [], .iadd, 1, [], 0, 0), (104, none, .baload, 1, [], 0, 0), (105, none, .ifCond .eq 7, 3, [112], 0, 0), (108, none, .iconst 1, 1, [], 1, 0), (109, none, .goto 4, 3, [113], 0, 0), (112, none, .iconst 0, 1, [], 0, 0), (113, none, .ireturn, 1, [], 0, 0)]
def k_X11_said : List EN := [(0, none, .iload_n 1, 1, [], 0, 0), (1, none, .iconst (-1), 1, [], (-1), 0), (2, none, .if_icmp .ne 13, 3, [15], 0, 0), (5, none, .aload_n 0, 1, [], 0, 0), (6, none, .getfield 7, 3, [11, 0, 2], 0, 0), (9, none, .bipush 6, 2, [], 6, 0), (11, none, .iconst 0, 1, [], 0, 0), (12, none, .iastore, 1, [], 0, 0), (13, none, .iconst 0, 1, [], 0, 0), (14, none, .ireturn, 1, [], 0, 0), (15, none, .aload_n 0, 1, [], 0, 0), (16, none, .iload_n 1, 1, [], 0, 0), (17, none, .invokevirtual 98, 3, [1, 167, 1, 1, 11], 0, 0), (20, none, .ifCond .eq 22, 3, [42], 0, 0), (23, none, .iload_n 2, 1, [], 0, 0), (24, none, .invokestatic 102, 3, [0, 168, 1, 1], 0, 0), (27, some [0, 1, 2], .ifCond .eq 15, 3, [42], 0, 0), (30, none, .aload_n 0, 1, [], 0, 0), (31, none, .getfield 7, 3, [11, 0, 2], 0, 0), (34, none, .bipush 6, 2, [], 6, 0), (36, none, .iaload, 1, [], 0, 0), (37, none, .bipush 8, 2, [], 8, 0), (39, none, .if_icmp .ne 6, 3, [45], 0, 0), (42, none, .bipush (-2), 2, [], (-2), 0), (44, none, .ireturn, 1, [], 0, 0), (45, none, .aload_n 0, 1, [], 0, 0), (46, none, .getfield 7, 3, [11, 0, 2], 0, 0), (49, none, .bipush 60, 2, [], 60, 0), (51, none, .iconst 2, 1, [], 2, 0), (52, none, .aload_n 0, 1, [], 0, 0), (53, none, .getfield 7, 3, [11, 0, 2], 0, 0), (56, none, .bipush 6, 2, [], 6, 0), (58, none, .iaload, 1, [], 0, 0), (59, none, .imul, 1, [], 0, 0), (60, none, .iadd, 1, [], 0, 0), (61, none, .iload_n 1, 1, [], 0, 0), (62, none, .iastore, 1, [], 0, 0), (63, none, .aload_n 0, 1, [], 0, 0), (64, none, .getfield 7, 3, [11, 0, 2], 0, 0), (67, none, .bipush 60, 2, [], 60, 0), (69, none, .iconst 2, 1, [], 2, 0), (70, none, .aload_n 0, 1, [], 0, 0), (71, none, .getfield 7, 3, [11, 0, 2], 0, 0), (74, none, .bipush 6, 2, [], 6, 0), (76, none, .iaload, 1, [], 0, 0), (77, none, .imul, 1, [], 0, 0), (78, none, .iadd, 1, [], 0, 0), (79, none, .iconst 1, 1, [], 1, 0), (80, none, .iadd, 1, [], 0, 0), (81, none, .iload_n 2, 1, [], 0, 0), (82, none, .iastore, 1, [], 0, 0), (83, none, .aload_n 0, 1, [], 0, 0), (84, none, .getfield 7, 3, [11, 0, 2], 0, 0), (87, none, .bipush 6, 2, [], 6, 0), (89, none, .dup2, 1, [], 0, 0), (90, none, .iaload, 1, [], 0, 0), (91, none, .iconst 1, 1, [], 1, 0), (92, none, .iadd, 1, [], 0, 0), (93, none, .iastore, 1, [], 0, 0), (94, none, .aload_n 0, 1, [], 0, 0), (95, none, .getfield 7, 3, [11, 0, 2], 0, 0), (98, none, .bipush 6, 2, [], 6, 0), (100, none, .iaload, 1, [], 0, 0), (101, none, .ireturn, 1, [], 0, 0)]
def k_X11_whose : List EN := [(0, none, .iconst 0, 1, [], 0, 0), (1, none, .istore_n 1, 1, [], 0, 0), (2, none, .iconst 0, 1, [], 0, 0), (3, none, .istore_n 2, 1, [], 0, 0), (4, some [0, 1, 2], .iload_n 2, 1, [], 0, 0), (5, none, .aload_n 0, 1, [], 0, 0), (6, none, .getfield 7, 3, [11, 0, 2], 0, 0), (9, none, .iconst 1, 1, [], 1, 0), (10, none, .iaload, 1, [], 0, 0), (11, none, .if_icmp .ge 86, 3, [97], 0, 0), (14, none, .iconst 1, 1, [], 1, 0), (15, none, .istore_n 3, 1, [], 0, 0), (16, none, .bipush 60, 2, [], 60, 0), (18, none, .istore 4, 2, [], 0, 0), (20, some [0, 1, 2, 3, 4], .iload 4, 2, [], 0, 0), (22, none, .bipush 60, 2, [], 60, 0), (24, none, .iconst 2, 1, [], 2, 0), (25, none, .aload_n 0, 1, [], 0, 0), (26, none, .getfield 7, 3, [11, 0, 2], 0, 0), (29, none, .bipush 6, 2, [], 6, 0), (31, none, .iaload, 1, [], 0, 0), (32, none, .imul, 1, [], 0, 0), (33, none, .iadd, 1, [], 0, 0), (34, none, .if_icmp .ge 43, 3, [77], 0, 0), (37, none, .iload_n 3, 1, [], 0, 0), (38, none, .ifCond .eq 31, 3, [69], 0, 0), (41, none, .aload_n 0, 1, [], 0, 0), (42, none, .iload_n 2, 1, [], 0, 0), (43, none, .aload_n 0, 1, [], 0, 0), (44, none, .getfield 7, 3, [11, 0, 2], 0, 0), (47, none, .iload 4, 2, [], 0, 0), (49, none, .iaload, 1, [], 0, 0), (50, none, .invokevirtual 336, 3, [1, 226, 2, 1, 11], 0, 0), (53, some [0, 1, 2, 4], .aload_n 0, 1, [], 0, 0), (54, none, .getfield 7, 3, [11, 0, 2], 0, 0), (57, none, .iload 4, 2, [], 0, 0), (59, none, .iconst 1, 1, [], 1, 0), (60, none, .iadd, 1, [], 0, 0), (61, none, .iaload, 1, [], 0, 0), (62, none, .if_icmp .ne 7, 3, [69], 0, 0), (65, none, .iconst 1, 1, [], 1, 0), (66, none, .goto 4, 3, [70], 0, 0), (69, none, .iconst 0, 1, [], 0, 0), (70, none, .istore_n 3, 1, [], 0, 0), (71, none, .iinc 4 2, 3, [], 2, 0), (74, none, .goto (-54), 3, [20], 0, 0), (77, none, .iload_n 1, 1, [], 0, 0), (78, none, .iload_n 3, 1, [], 0, 0), (79, none, .ifCond .eq 9, 3, [88], 0, 0), (82, none, .iconst 1, 1, [], 1, 0), (83, none, .iload_n 2, 1, [], 0, 0), (84, none, .ishl, 1, [], 0, 0), (85, none, .goto 4, 3, [89], 0, 0), (88, none, .iconst 0, 1, [], 0, 0), (89, none, .ior, 1, [], 0, 0), (90, none, .istore_n 1, 1, [], 0, 0), (91, none, .iinc 2 1, 3, [], 1, 0), (94, none, .goto (-90), 3, [4], 0, 0), (97, none, .iload_n 1, 1, [], 0, 0), (98, none, .ireturn, 1, [], 0, 0)]
def k_X11_image : List EN := [(0, none, .aload_n 0, 1, [], 0, 0), (1, none, .getfield 7, 3, [11, 0, 2], 0, 0), (4, none, .aload_n 0, 1, [], 0, 0), (5, none, .getfield 13, 3, [11, 1, 2], 0, 0), (8, none, .invokestatic 90, 3, [0, 161, 2, 0], 0, 0), (11, some [0], .aload_n 0, 1, [], 0, 0), (12, none, .getfield 7, 3, [11, 0, 2], 0, 0), (15, none, .bipush 7, 2, [], 7, 0), (17, none, .iaload, 1, [], 0, 0), (18, none, .ireturn, 1, [], 0, 0)]
def k_X11_back : List EN := [(0, none, .aload_n 0, 1, [], 0, 0), (1, none, .getfield 13, 3, [11, 1, 2], 0, 0), (4, none, .aload_n 0, 1, [], 0, 0), (5, none, .getfield 7, 3, [11, 0, 2], 0, 0), (8, none, .invokestatic 90, 3, [0, 161, 2, 0], 0, 0), (11, some [0], .aload_n 0, 1, [], 0, 0), (12, none, .getfield 7, 3, [11, 0, 2], 0, 0), (15, none, .bipush 7, 2, [], 7, 0), (17, none, .iaload, 1, [], 0, 0), (18, none, .ireturn, 1, [], 0, 0)]
def k_X11_about : List EN := [(0, none, .iload_n 1, 1, [], 0, 0), (1, none, .iconst 0, 1, [], 0, 0), (2, none, .bipush 6, 2, [], 6, 0), (4, none, .invokestatic 94, 3, [0, 162, 3, 1], 0, 0), (7, some [0, 1], .ifCond .eq 12, 3, [19], 0, 0), (10, none, .aload_n 0, 1, [], 0, 0), (11, none, .getfield 7, 3, [11, 0, 2], 0, 0), (14, none, .iload_n 1, 1, [], 0, 0), (15, none, .iaload, 1, [], 0, 0), (16, none, .goto 18, 3, [34], 0, 0), (19, none, .iload_n 1, 1, [], 0, 0), (20, none, .bipush 7, 2, [], 7, 0), (22, none, .if_icmp .ne 10, 3, [32], 0, 0), (25, none, .aload_n 0, 1, [], 0, 0), (26, none, .getfield 112, 3, [11, 4, 0], 0, 0), (29, none, .goto 5, 3, [34], 0, 0), (32, none, .bipush (-2), 2, [], (-2), 0), (34, none, .ireturn, 1, [], 0, 0)]
def k_L_law_0 : List EN := [(0, none, .new 7, 3, [10, 16], 0, 0), (3, none, .dup, 1, [], 0, 0), (4, none, .invokespecial 9, 3, [1, 98, 0, 0, 10], 0, 0), (7, some [0], .astore_n 1, 1, [], 0, 0), (8, none, .new 10, 3, [11, 39], 0, 0), (11, none, .dup, 1, [], 0, 0), (12, none, .invokespecial 12, 3, [1, 160, 0, 0, 11], 0, 0), (15, none, .astore_n 2, 1, [], 0, 0), (16, none, .iconst 0, 1, [], 0, 0), (17, none, .istore_n 3, 1, [], 0, 0), (18, some [0, 1, 2, 3], .iload_n 3, 1, [], 0, 0), (19, none, .aload_n 0, 1, [], 0, 0), (20, none, .arraylength, 1, [], 0, 0), (21, none, .bipush 6, 2, [], 6, 0), (23, none, .isub, 1, [], 0, 0), (24, none, .if_icmp .gt 1623, 3, [1647], 0, 0), (27, none, .aload_n 0, 1, [], 0, 0), (28, none, .iload_n 3, 1, [], 0, 0), (29, none, .iaload, 1, [], 0, 0), (30, none, .bipush 63, 2, [], 63, 0), (32, none, .iand, 1, [], 0, 0), (33, none, .tableswitch 1608 0 46 #[203, 236, 269, 332, 355, 368, 391, 414, 447, 470, 519, 542, 565, 598, 611, 644, 677, 720, 743, 776, 809, 858, 891, 914, 963, 986, 1009, 1042, 1075, 1098, 1131, 1164, 1187, 1236, 1275, 1345, 1405, 1418, 1431, 1464, 1497, 1510, 1523, 1536, 1559, 1572, 1585], 203, [1641, 0, 236, 269, 302, 365, 388, 401, 424, 447, 480, 503, 552, 575, 598, 631, 644, 677, 710, 753, 776, 809, 842, 891, 924, 947, 996, 1019, 1042, 1075, 1108, 1131, 1164, 1197, 1220, 1269, 1308, 1378, 1438, 1451, 1464, 1497, 1530, 1543, 1556, 1569, 1592, 1605, 1618], 0, 0), (236, none, .aload_n 1, 1, [], 0, 0), (237, none, .aload_n 0, 1, [], 0, 0), (238, none, .iload_n 3, 1, [], 0, 0), (239, none, .iconst 1, 1, [], 1, 0), (240, none, .iadd, 1, [], 0, 0), (241, none, .iaload, 1, [], 0, 0), (242, none, .aload_n 0, 1, [], 0, 0), (243, none, .iload_n 3, 1, [], 0, 0), (244, none, .iconst 2, 1, [], 2, 0), (245, none, .iadd, 1, [], 0, 0), (246, none, .iaload, 1, [], 0, 0), (247, none, .invokevirtual 13, 3, [1, 99, 2, 1, 10], 0, 0), (250, some [0, 1, 2, 3], .aload_n 2, 1, [], 0, 0), (251, none, .aload_n 0, 1, [], 0, 0), (252, none, .iload_n 3, 1, [], 0, 0), (253, none, .iconst 1, 1, [], 1, 0), (254, none, .iadd, 1, [], 0, 0), (255, none, .iaload, 1, [], 0, 0), (256, none, .aload_n 0, 1, [], 0, 0), (257, none, .iload_n 3, 1, [], 0, 0), (258, none, .iconst 2, 1, [], 2, 0), (259, none, .iadd, 1, [], 0, 0), (260, none, .iaload, 1, [], 0, 0), (261, none, .invokevirtual 17, 3, [1, 172, 2, 1, 11], 0, 0), (264, none, .if_icmp .eq 1377, 3, [1641], 0, 0), (267, none, .iconst 0, 1, [], 0, 0), (268, none, .ireturn, 1, [], 0, 0), (269, none, .aload_n 1, 1, [], 0, 0), (270, none, .aload_n 0, 1, [], 0, 0), (271, none, .iload_n 3, 1, [], 0, 0), (272, none, .iconst 1, 1, [], 1, 0), (273, none, .iadd, 1, [], 0, 0), (274, none, .iaload, 1, [], 0, 0), (275, none, .aload_n 0, 1, [], 0, 0), (276, none, .iload_n 3, 1, [], 0, 0), (277, none, .iconst 2, 1, [], 2, 0), (278, none, .iadd, 1, [], 0, 0), (279, none, .iaload, 1, [], 0, 0), (280, none, .invokevirtual 18, 3, [1, 100, 2, 1, 10], 0, 0), (283, some [0, 1, 2, 3], .aload_n 2, 1, [], 0, 0), (284, none, .aload_n 0, 1, [], 0, 0), (285, none, .iload_n 3, 1, [], 0, 0), (286, none, .iconst 1, 1, [], 1, 0), (287, none, .iadd, 1, [], 0, 0), (288, none, .iaload, 1, [], 0, 0), (289, none, .aload_n 0, 1, [], 0, 0), (290, none, .iload_n 3, 1, [], 0, 0), (291, none, .iconst 2, 1, [], 2, 0), (292, none, .iadd, 1, [], 0, 0), (293, none, .iaload, 1, [], 0, 0), (294, none, .invokevirtual 22, 3, [1, 174, 2, 1, 11], 0, 0), (297, none, .if_icmp .eq 1344, 3, [1641], 0, 0), (300, none, .iconst 0, 1, [], 0, 0), (301, none, .ireturn, 1, [], 0, 0), (302, none, .aload_n 1, 1, [], 0, 0), (303, none, .aload_n 0, 1, [], 0, 0), (304, none, .iload_n 3, 1, [], 0, 0), (305, none, .iconst 1, 1, [], 1, 0), (306, none, .iadd, 1, [], 0, 0), (307, none, .iaload, 1, [], 0, 0), (308, none, .aload_n 0, 1, [], 0, 0), (309, none, .iload_n 3, 1, [], 0, 0), (310, none, .iconst 2, 1, [], 2, 0), (311, none, .iadd, 1, [], 0, 0), (312, none, .iaload, 1, [], 0, 0), (313, none, .aload_n 0, 1, [], 0, 0), (314, none, .iload_n 3, 1, [], 0, 0), (315, none, .iconst 3, 1, [], 3, 0), (316, none, .iadd, 1, [], 0, 0), (317, none, .iaload, 1, [], 0, 0), (318, none, .aload_n 0, 1, [], 0, 0), (319, none, .iload_n 3, 1, [], 0, 0), (320, none, .iconst 4, 1, [], 4, 0), (321, none, .iadd, 1, [], 0, 0), (322, none, .iaload, 1, [], 0, 0), (323, none, .aload_n 0, 1, [], 0, 0), (324, none, .iload_n 3, 1, [], 0, 0), (325, none, .iconst 5, 1, [], 5, 0)]
def k_L_law_1 : List EN := [(326, none, .iadd, 1, [], 0, 0), (327, none, .iaload, 1, [], 0, 0), (328, none, .invokevirtual 23, 3, [1, 101, 5, 1, 10], 0, 0), (331, some [0, 1, 2, 3], .aload_n 2, 1, [], 0, 0), (332, none, .aload_n 0, 1, [], 0, 0), (333, none, .iload_n 3, 1, [], 0, 0), (334, none, .iconst 1, 1, [], 1, 0), (335, none, .iadd, 1, [], 0, 0), (336, none, .iaload, 1, [], 0, 0), (337, none, .aload_n 0, 1, [], 0, 0), (338, none, .iload_n 3, 1, [], 0, 0), (339, none, .iconst 2, 1, [], 2, 0), (340, none, .iadd, 1, [], 0, 0), (341, none, .iaload, 1, [], 0, 0), (342, none, .aload_n 0, 1, [], 0, 0), (343, none, .iload_n 3, 1, [], 0, 0), (344, none, .iconst 3, 1, [], 3, 0), (345, none, .iadd, 1, [], 0, 0), (346, none, .iaload, 1, [], 0, 0), (347, none, .aload_n 0, 1, [], 0, 0), (348, none, .iload_n 3, 1, [], 0, 0), (349, none, .iconst 4, 1, [], 4, 0), (350, none, .iadd, 1, [], 0, 0), (351, none, .iaload, 1, [], 0, 0), (352, none, .aload_n 0, 1, [], 0, 0), (353, none, .iload_n 3, 1, [], 0, 0), (354, none, .iconst 5, 1, [], 5, 0), (355, none, .iadd, 1, [], 0, 0), (356, none, .iaload, 1, [], 0, 0), (357, none, .invokevirtual 27, 3, [1, 177, 5, 1, 11], 0, 0), (360, none, .if_icmp .eq 1281, 3, [1641], 0, 0), (363, none, .iconst 0, 1, [], 0, 0), (364, none, .ireturn, 1, [], 0, 0), (365, none, .aload_n 1, 1, [], 0, 0), (366, none, .aload_n 0, 1, [], 0, 0), (367, none, .iload_n 3, 1, [], 0, 0), (368, none, .iconst 1, 1, [], 1, 0), (369, none, .iadd, 1, [], 0, 0), (370, none, .iaload, 1, [], 0, 0), (371, none, .invokevirtual 28, 3, [1, 102, 1, 1, 10], 0, 0), (374, some [0, 1, 2, 3], .aload_n 2, 1, [], 0, 0), (375, none, .aload_n 0, 1, [], 0, 0), (376, none, .iload_n 3, 1, [], 0, 0), (377, none, .iconst 1, 1, [], 1, 0), (378, none, .iadd, 1, [], 0, 0), (379, none, .iaload, 1, [], 0, 0), (380, none, .invokevirtual 32, 3, [1, 178, 1, 1, 11], 0, 0), (383, none, .if_icmp .eq 1258, 3, [1641], 0, 0), (386, none, .iconst 0, 1, [], 0, 0), (387, none, .ireturn, 1, [], 0, 0), (388, none, .aload_n 1, 1, [], 0, 0), (389, none, .invokevirtual 33, 3, [1, 103, 0, 1, 10], 0, 0), (392, some [0, 1, 2, 3], .aload_n 2, 1, [], 0, 0), (393, none, .invokevirtual 37, 3, [1, 214, 0, 1, 11], 0, 0), (396, none, .if_icmp .eq 1245, 3, [1641], 0, 0), (399, none, .iconst 0, 1, [], 0, 0), (400, none, .ireturn, 1, [], 0, 0), (401, none, .aload_n 1, 1, [], 0, 0), (402, none, .aload_n 0, 1, [], 0, 0), (403, none, .iload_n 3, 1, [], 0, 0), (404, none, .iconst 1, 1, [], 1, 0), (405, none, .iadd, 1, [], 0, 0), (406, none, .iaload, 1, [], 0, 0), (407, none, .invokevirtual 38, 3, [1, 104, 1, 1, 10], 0, 0), (410, some [0, 1, 2, 3], .aload_n 2, 1, [], 0, 0), (411, none, .aload_n 0, 1, [], 0, 0), (412, none, .iload_n 3, 1, [], 0, 0), (413, none, .iconst 1, 1, [], 1, 0), (414, none, .iadd, 1, [], 0, 0), (415, none, .iaload, 1, [], 0, 0), (416, none, .invokevirtual 41, 3, [1, 215, 1, 1, 11], 0, 0), (419, none, .if_icmp .eq 1222, 3, [1641], 0, 0), (422, none, .iconst 0, 1, [], 0, 0), (423, none, .ireturn, 1, [], 0, 0), (424, none, .aload_n 1, 1, [], 0, 0), (425, none, .aload_n 0, 1, [], 0, 0), (426, none, .iload_n 3, 1, [], 0, 0), (427, none, .iconst 1, 1, [], 1, 0), (428, none, .iadd, 1, [], 0, 0), (429, none, .iaload, 1, [], 0, 0), (430, none, .invokevirtual 42, 3, [1, 105, 1, 1, 10], 0, 0), (433, some [0, 1, 2, 3], .aload_n 2, 1, [], 0, 0), (434, none, .aload_n 0, 1, [], 0, 0), (435, none, .iload_n 3, 1, [], 0, 0), (436, none, .iconst 1, 1, [], 1, 0), (437, none, .iadd, 1, [], 0, 0), (438, none, .iaload, 1, [], 0, 0), (439, none, .invokevirtual 46, 3, [1, 216, 1, 1, 11], 0, 0), (442, none, .if_icmp .eq 1199, 3, [1641], 0, 0), (445, none, .iconst 0, 1, [], 0, 0), (446, none, .ireturn, 1, [], 0, 0), (447, none, .aload_n 1, 1, [], 0, 0), (448, none, .aload_n 0, 1, [], 0, 0), (449, none, .iload_n 3, 1, [], 0, 0), (450, none, .iconst 1, 1, [], 1, 0), (451, none, .iadd, 1, [], 0, 0), (452, none, .iaload, 1, [], 0, 0), (453, none, .aload_n 0, 1, [], 0, 0), (454, none, .iload_n 3, 1, [], 0, 0), (455, none, .iconst 2, 1, [], 2, 0)]
def k_L_law_2 : List EN := [(456, none, .iadd, 1, [], 0, 0), (457, none, .iaload, 1, [], 0, 0), (458, none, .invokevirtual 47, 3, [1, 106, 2, 1, 10], 0, 0), (461, some [0, 1, 2, 3], .aload_n 2, 1, [], 0, 0), (462, none, .aload_n 0, 1, [], 0, 0), (463, none, .iload_n 3, 1, [], 0, 0), (464, none, .iconst 1, 1, [], 1, 0), (465, none, .iadd, 1, [], 0, 0), (466, none, .iaload, 1, [], 0, 0), (467, none, .aload_n 0, 1, [], 0, 0), (468, none, .iload_n 3, 1, [], 0, 0), (469, none, .iconst 2, 1, [], 2, 0), (470, none, .iadd, 1, [], 0, 0), (471, none, .iaload, 1, [], 0, 0), (472, none, .invokevirtual 50, 3, [1, 236, 2, 1, 11], 0, 0), (475, none, .if_icmp .eq 1166, 3, [1641], 0, 0), (478, none, .iconst 0, 1, [], 0, 0), (479, none, .ireturn, 1, [], 0, 0), (480, none, .aload_n 1, 1, [], 0, 0), (481, none, .aload_n 0, 1, [], 0, 0), (482, none, .iload_n 3, 1, [], 0, 0), (483, none, .iconst 1, 1, [], 1, 0), (484, none, .iadd, 1, [], 0, 0), (485, none, .iaload, 1, [], 0, 0), (486, none, .invokevirtual 51, 3, [1, 107, 1, 1, 10], 0, 0), (489, some [0, 1, 2, 3], .aload_n 2, 1, [], 0, 0), (490, none, .aload_n 0, 1, [], 0, 0), (491, none, .iload_n 3, 1, [], 0, 0), (492, none, .iconst 1, 1, [], 1, 0), (493, none, .iadd, 1, [], 0, 0), (494, none, .iaload, 1, [], 0, 0), (495, none, .invokevirtual 54, 3, [1, 238, 1, 1, 11], 0, 0), (498, none, .if_icmp .eq 1143, 3, [1641], 0, 0), (501, none, .iconst 0, 1, [], 0, 0), (502, none, .ireturn, 1, [], 0, 0), (503, none, .aload_n 1, 1, [], 0, 0), (504, none, .aload_n 0, 1, [], 0, 0), (505, none, .iload_n 3, 1, [], 0, 0), (506, none, .iconst 1, 1, [], 1, 0), (507, none, .iadd, 1, [], 0, 0), (508, none, .iaload, 1, [], 0, 0), (509, none, .aload_n 0, 1, [], 0, 0), (510, none, .iload_n 3, 1, [], 0, 0), (511, none, .iconst 2, 1, [], 2, 0), (512, none, .iadd, 1, [], 0, 0), (513, none, .iaload, 1, [], 0, 0), (514, none, .ifCond .eq 7, 3, [521], 0, 0), (517, none, .iconst 1, 1, [], 1, 0), (518, none, .goto 4, 3, [522], 0, 0), (521, none, .iconst 0, 1, [], 0, 0), (522, none, .invokevirtual 55, 3, [1, 108, 2, 1, 10], 0, 0), (525, some [0, 1, 2, 3], .aload_n 2, 1, [], 0, 0), (526, none, .aload_n 0, 1, [], 0, 0), (527, none, .iload_n 3, 1, [], 0, 0), (528, none, .iconst 1, 1, [], 1, 0), (529, none, .iadd, 1, [], 0, 0), (530, none, .iaload, 1, [], 0, 0), (531, none, .aload_n 0, 1, [], 0, 0), (532, none, .iload_n 3, 1, [], 0, 0), (533, none, .iconst 2, 1, [], 2, 0), (534, none, .iadd, 1, [], 0, 0), (535, none, .iaload, 1, [], 0, 0), (536, none, .ifCond .eq 7, 3, [543], 0, 0), (539, none, .iconst 1, 1, [], 1, 0), (540, none, .goto 4, 3, [544], 0, 0), (543, none, .iconst 0, 1, [], 0, 0), (544, none, .invokevirtual 59, 3, [1, 240, 2, 1, 11], 0, 0), (547, none, .if_icmp .eq 1094, 3, [1641], 0, 0), (550, none, .iconst 0, 1, [], 0, 0), (551, none, .ireturn, 1, [], 0, 0), (552, none, .aload_n 1, 1, [], 0, 0), (553, none, .aload_n 0, 1, [], 0, 0), (554, none, .iload_n 3, 1, [], 0, 0), (555, none, .iconst 1, 1, [], 1, 0), (556, none, .iadd, 1, [], 0, 0), (557, none, .iaload, 1, [], 0, 0), (558, none, .invokevirtual 60, 3, [1, 109, 1, 1, 10], 0, 0), (561, some [0, 1, 2, 3], .aload_n 2, 1, [], 0, 0), (562, none, .aload_n 0, 1, [], 0, 0), (563, none, .iload_n 3, 1, [], 0, 0), (564, none, .iconst 1, 1, [], 1, 0), (565, none, .iadd, 1, [], 0, 0), (566, none, .iaload, 1, [], 0, 0), (567, none, .invokevirtual 63, 3, [1, 242, 1, 1, 11], 0, 0), (570, none, .if_icmp .eq 1071, 3, [1641], 0, 0), (573, none, .iconst 0, 1, [], 0, 0), (574, none, .ireturn, 1, [], 0, 0), (575, none, .aload_n 1, 1, [], 0, 0), (576, none, .aload_n 0, 1, [], 0, 0), (577, none, .iload_n 3, 1, [], 0, 0), (578, none, .iconst 1, 1, [], 1, 0), (579, none, .iadd, 1, [], 0, 0), (580, none, .iaload, 1, [], 0, 0), (581, none, .invokevirtual 64, 3, [1, 110, 1, 1, 10], 0, 0), (584, some [0, 1, 2, 3], .aload_n 2, 1, [], 0, 0), (585, none, .aload_n 0, 1, [], 0, 0), (586, none, .iload_n 3, 1, [], 0, 0), (587, none, .iconst 1, 1, [], 1, 0), (588, none, .iadd, 1, [], 0, 0), (589, none, .iaload, 1, [], 0, 0)]
def k_L_law_3 : List EN := [(590, none, .invokevirtual 67, 3, [1, 244, 1, 1, 11], 0, 0), (593, none, .if_icmp .eq 1048, 3, [1641], 0, 0), (596, none, .iconst 0, 1, [], 0, 0), (597, none, .ireturn, 1, [], 0, 0), (598, none, .aload_n 1, 1, [], 0, 0), (599, none, .aload_n 0, 1, [], 0, 0), (600, none, .iload_n 3, 1, [], 0, 0), (601, none, .iconst 1, 1, [], 1, 0), (602, none, .iadd, 1, [], 0, 0), (603, none, .iaload, 1, [], 0, 0), (604, none, .aload_n 0, 1, [], 0, 0), (605, none, .iload_n 3, 1, [], 0, 0), (606, none, .iconst 2, 1, [], 2, 0), (607, none, .iadd, 1, [], 0, 0), (608, none, .iaload, 1, [], 0, 0), (609, none, .invokevirtual 68, 3, [1, 111, 2, 1, 10], 0, 0), (612, some [0, 1, 2, 3], .aload_n 2, 1, [], 0, 0), (613, none, .aload_n 0, 1, [], 0, 0), (614, none, .iload_n 3, 1, [], 0, 0), (615, none, .iconst 1, 1, [], 1, 0), (616, none, .iadd, 1, [], 0, 0), (617, none, .iaload, 1, [], 0, 0), (618, none, .aload_n 0, 1, [], 0, 0), (619, none, .iload_n 3, 1, [], 0, 0), (620, none, .iconst 2, 1, [], 2, 0), (621, none, .iadd, 1, [], 0, 0), (622, none, .iaload, 1, [], 0, 0), (623, none, .invokevirtual 71, 3, [1, 246, 2, 1, 11], 0, 0), (626, none, .if_icmp .eq 1015, 3, [1641], 0, 0), (629, none, .iconst 0, 1, [], 0, 0), (630, none, .ireturn, 1, [], 0, 0), (631, none, .aload_n 1, 1, [], 0, 0), (632, none, .invokevirtual 72, 3, [1, 112, 0, 1, 10], 0, 0), (635, some [0, 1, 2, 3], .aload_n 2, 1, [], 0, 0), (636, none, .invokevirtual 75, 3, [1, 233, 0, 1, 11], 0, 0), (639, none, .if_icmp .eq 1002, 3, [1641], 0, 0), (642, none, .iconst 0, 1, [], 0, 0), (643, none, .ireturn, 1, [], 0, 0), (644, none, .aload_n 1, 1, [], 0, 0), (645, none, .aload_n 0, 1, [], 0, 0), (646, none, .iload_n 3, 1, [], 0, 0), (647, none, .iconst 1, 1, [], 1, 0), (648, none, .iadd, 1, [], 0, 0), (649, none, .iaload, 1, [], 0, 0), (650, none, .aload_n 0, 1, [], 0, 0), (651, none, .iload_n 3, 1, [], 0, 0), (652, none, .iconst 2, 1, [], 2, 0), (653, none, .iadd, 1, [], 0, 0), (654, none, .iaload, 1, [], 0, 0), (655, none, .invokevirtual 76, 3, [1, 113, 2, 1, 10], 0, 0), (658, some [0, 1, 2, 3], .aload_n 2, 1, [], 0, 0), (659, none, .aload_n 0, 1, [], 0, 0), (660, none, .iload_n 3, 1, [], 0, 0), (661, none, .iconst 1, 1, [], 1, 0), (662, none, .iadd, 1, [], 0, 0), (663, none, .iaload, 1, [], 0, 0), (664, none, .aload_n 0, 1, [], 0, 0), (665, none, .iload_n 3, 1, [], 0, 0), (666, none, .iconst 2, 1, [], 2, 0), (667, none, .iadd, 1, [], 0, 0), (668, none, .iaload, 1, [], 0, 0), (669, none, .invokevirtual 79, 3, [1, 247, 2, 1, 11], 0, 0), (672, none, .if_icmp .eq 969, 3, [1641], 0, 0), (675, none, .iconst 0, 1, [], 0, 0), (676, none, .ireturn, 1, [], 0, 0), (677, none, .aload_n 1, 1, [], 0, 0), (678, none, .aload_n 0, 1, [], 0, 0), (679, none, .iload_n 3, 1, [], 0, 0), (680, none, .iconst 1, 1, [], 1, 0), (681, none, .iadd, 1, [], 0, 0), (682, none, .iaload, 1, [], 0, 0), (683, none, .aload_n 0, 1, [], 0, 0), (684, none, .iload_n 3, 1, [], 0, 0), (685, none, .iconst 2, 1, [], 2, 0), (686, none, .iadd, 1, [], 0, 0), (687, none, .iaload, 1, [], 0, 0), (688, none, .invokevirtual 80, 3, [1, 114, 2, 1, 10], 0, 0), (691, some [0, 1, 2, 3], .aload_n 2, 1, [], 0, 0), (692, none, .aload_n 0, 1, [], 0, 0), (693, none, .iload_n 3, 1, [], 0, 0), (694, none, .iconst 1, 1, [], 1, 0), (695, none, .iadd, 1, [], 0, 0), (696, none, .iaload, 1, [], 0, 0), (697, none, .aload_n 0, 1, [], 0, 0), (698, none, .iload_n 3, 1, [], 0, 0), (699, none, .iconst 2, 1, [], 2, 0), (700, none, .iadd, 1, [], 0, 0), (701, none, .iaload, 1, [], 0, 0), (702, none, .invokevirtual 83, 3, [1, 248, 2, 1, 11], 0, 0), (705, none, .if_icmp .eq 936, 3, [1641], 0, 0), (708, none, .iconst 0, 1, [], 0, 0), (709, none, .ireturn, 1, [], 0, 0), (710, none, .aload_n 1, 1, [], 0, 0), (711, none, .aload_n 0, 1, [], 0, 0), (712, none, .iload_n 3, 1, [], 0, 0), (713, none, .iconst 1, 1, [], 1, 0), (714, none, .iadd, 1, [], 0, 0), (715, none, .iaload, 1, [], 0, 0), (716, none, .aload_n 0, 1, [], 0, 0), (717, none, .iload_n 3, 1, [], 0, 0)]
def k_L_law_4 : List EN := [(718, none, .iconst 2, 1, [], 2, 0), (719, none, .iadd, 1, [], 0, 0), (720, none, .iaload, 1, [], 0, 0), (721, none, .aload_n 0, 1, [], 0, 0), (722, none, .iload_n 3, 1, [], 0, 0), (723, none, .iconst 3, 1, [], 3, 0), (724, none, .iadd, 1, [], 0, 0), (725, none, .iaload, 1, [], 0, 0), (726, none, .invokevirtual 84, 3, [1, 115, 3, 1, 10], 0, 0), (729, some [0, 1, 2, 3], .aload_n 2, 1, [], 0, 0), (730, none, .aload_n 0, 1, [], 0, 0), (731, none, .iload_n 3, 1, [], 0, 0), (732, none, .iconst 1, 1, [], 1, 0), (733, none, .iadd, 1, [], 0, 0), (734, none, .iaload, 1, [], 0, 0), (735, none, .aload_n 0, 1, [], 0, 0), (736, none, .iload_n 3, 1, [], 0, 0), (737, none, .iconst 2, 1, [], 2, 0), (738, none, .iadd, 1, [], 0, 0), (739, none, .iaload, 1, [], 0, 0), (740, none, .aload_n 0, 1, [], 0, 0), (741, none, .iload_n 3, 1, [], 0, 0), (742, none, .iconst 3, 1, [], 3, 0), (743, none, .iadd, 1, [], 0, 0), (744, none, .iaload, 1, [], 0, 0), (745, none, .invokevirtual 88, 3, [1, 249, 3, 1, 11], 0, 0), (748, none, .if_icmp .eq 893, 3, [1641], 0, 0), (751, none, .iconst 0, 1, [], 0, 0), (752, none, .ireturn, 1, [], 0, 0), (753, none, .aload_n 1, 1, [], 0, 0), (754, none, .aload_n 0, 1, [], 0, 0), (755, none, .iload_n 3, 1, [], 0, 0), (756, none, .iconst 1, 1, [], 1, 0), (757, none, .iadd, 1, [], 0, 0), (758, none, .iaload, 1, [], 0, 0), (759, none, .invokevirtual 89, 3, [1, 116, 1, 1, 10], 0, 0), (762, some [0, 1, 2, 3], .aload_n 2, 1, [], 0, 0), (763, none, .aload_n 0, 1, [], 0, 0), (764, none, .iload_n 3, 1, [], 0, 0), (765, none, .iconst 1, 1, [], 1, 0), (766, none, .iadd, 1, [], 0, 0), (767, none, .iaload, 1, [], 0, 0), (768, none, .invokevirtual 92, 3, [1, 250, 1, 1, 11], 0, 0), (771, none, .if_icmp .eq 870, 3, [1641], 0, 0), (774, none, .iconst 0, 1, [], 0, 0), (775, none, .ireturn, 1, [], 0, 0), (776, none, .aload_n 1, 1, [], 0, 0), (777, none, .aload_n 0, 1, [], 0, 0), (778, none, .iload_n 3, 1, [], 0, 0), (779, none, .iconst 1, 1, [], 1, 0), (780, none, .iadd, 1, [], 0, 0), (781, none, .iaload, 1, [], 0, 0), (782, none, .aload_n 0, 1, [], 0, 0), (783, none, .iload_n 3, 1, [], 0, 0), (784, none, .iconst 2, 1, [], 2, 0), (785, none, .iadd, 1, [], 0, 0), (786, none, .iaload, 1, [], 0, 0), (787, none, .invokevirtual 93, 3, [1, 117, 2, 1, 10], 0, 0), (790, some [0, 1, 2, 3], .aload_n 2, 1, [], 0, 0), (791, none, .aload_n 0, 1, [], 0, 0), (792, none, .iload_n 3, 1, [], 0, 0), (793, none, .iconst 1, 1, [], 1, 0), (794, none, .iadd, 1, [], 0, 0), (795, none, .iaload, 1, [], 0, 0), (796, none, .aload_n 0, 1, [], 0, 0), (797, none, .iload_n 3, 1, [], 0, 0), (798, none, .iconst 2, 1, [], 2, 0), (799, none, .iadd, 1, [], 0, 0), (800, none, .iaload, 1, [], 0, 0), (801, none, .invokevirtual 96, 3, [1, 252, 2, 1, 11], 0, 0), (804, none, .if_icmp .eq 837, 3, [1641], 0, 0), (807, none, .iconst 0, 1, [], 0, 0), (808, none, .ireturn, 1, [], 0, 0), (809, none, .aload_n 1, 1, [], 0, 0), (810, none, .aload_n 0, 1, [], 0, 0), (811, none, .iload_n 3, 1, [], 0, 0), (812, none, .iconst 1, 1, [], 1, 0), (813, none, .iadd, 1, [], 0, 0), (814, none, .iaload, 1, [], 0, 0), (815, none, .aload_n 0, 1, [], 0, 0), (816, none, .iload_n 3, 1, [], 0, 0), (817, none, .iconst 2, 1, [], 2, 0), (818, none, .iadd, 1, [], 0, 0), (819, none, .iaload, 1, [], 0, 0), (820, none, .invokevirtual 97, 3, [1, 118, 2, 1, 10], 0, 0), (823, some [0, 1, 2, 3], .aload_n 2, 1, [], 0, 0), (824, none, .aload_n 0, 1, [], 0, 0), (825, none, .iload_n 3, 1, [], 0, 0), (826, none, .iconst 1, 1, [], 1, 0), (827, none, .iadd, 1, [], 0, 0), (828, none, .iaload, 1, [], 0, 0), (829, none, .aload_n 0, 1, [], 0, 0), (830, none, .iload_n 3, 1, [], 0, 0), (831, none, .iconst 2, 1, [], 2, 0), (832, none, .iadd, 1, [], 0, 0), (833, none, .iaload, 1, [], 0, 0), (834, none, .invokevirtual 100, 3, [1, 258, 2, 1, 11], 0, 0), (837, none, .if_icmp .eq 804, 3, [1641], 0, 0), (840, none, .iconst 0, 1, [], 0, 0), (841, none, .ireturn, 1, [], 0, 0)]
def k_L_law_5 : List EN := [(842, none, .aload_n 1, 1, [], 0, 0), (843, none, .aload_n 0, 1, [], 0, 0), (844, none, .iload_n 3, 1, [], 0, 0), (845, none, .iconst 1, 1, [], 1, 0), (846, none, .iadd, 1, [], 0, 0), (847, none, .iaload, 1, [], 0, 0), (848, none, .aload_n 0, 1, [], 0, 0), (849, none, .iload_n 3, 1, [], 0, 0), (850, none, .iconst 2, 1, [], 2, 0), (851, none, .iadd, 1, [], 0, 0), (852, none, .iaload, 1, [], 0, 0), (853, none, .ifCond .eq 7, 3, [860], 0, 0), (856, none, .iconst 1, 1, [], 1, 0), (857, none, .goto 4, 3, [861], 0, 0), (860, none, .iconst 0, 1, [], 0, 0), (861, none, .invokevirtual 101, 3, [1, 119, 2, 1, 10], 0, 0), (864, some [0, 1, 2, 3], .aload_n 2, 1, [], 0, 0), (865, none, .aload_n 0, 1, [], 0, 0), (866, none, .iload_n 3, 1, [], 0, 0), (867, none, .iconst 1, 1, [], 1, 0), (868, none, .iadd, 1, [], 0, 0), (869, none, .iaload, 1, [], 0, 0), (870, none, .aload_n 0, 1, [], 0, 0), (871, none, .iload_n 3, 1, [], 0, 0), (872, none, .iconst 2, 1, [], 2, 0), (873, none, .iadd, 1, [], 0, 0), (874, none, .iaload, 1, [], 0, 0), (875, none, .ifCond .eq 7, 3, [882], 0, 0), (878, none, .iconst 1, 1, [], 1, 0), (879, none, .goto 4, 3, [883], 0, 0), (882, none, .iconst 0, 1, [], 0, 0), (883, none, .invokevirtual 105, 3, [1, 260, 2, 1, 11], 0, 0), (886, none, .if_icmp .eq 755, 3, [1641], 0, 0), (889, none, .iconst 0, 1, [], 0, 0), (890, none, .ireturn, 1, [], 0, 0), (891, none, .aload_n 1, 1, [], 0, 0), (892, none, .aload_n 0, 1, [], 0, 0), (893, none, .iload_n 3, 1, [], 0, 0), (894, none, .iconst 1, 1, [], 1, 0), (895, none, .iadd, 1, [], 0, 0), (896, none, .iaload, 1, [], 0, 0), (897, none, .aload_n 0, 1, [], 0, 0), (898, none, .iload_n 3, 1, [], 0, 0), (899, none, .iconst 2, 1, [], 2, 0), (900, none, .iadd, 1, [], 0, 0), (901, none, .iaload, 1, [], 0, 0), (902, none, .invokevirtual 106, 3, [1, 120, 2, 1, 10], 0, 0), (905, some [0, 1, 2, 3], .aload_n 2, 1, [], 0, 0), (906, none, .aload_n 0, 1, [], 0, 0), (907, none, .iload_n 3, 1, [], 0, 0), (908, none, .iconst 1, 1, [], 1, 0), (909, none, .iadd, 1, [], 0, 0), (910, none, .iaload, 1, [], 0, 0), (911, none, .aload_n 0, 1, [], 0, 0), (912, none, .iload_n 3, 1, [], 0, 0), (913, none, .iconst 2, 1, [], 2, 0), (914, none, .iadd, 1, [], 0, 0), (915, none, .iaload, 1, [], 0, 0), (916, none, .invokevirtual 109, 3, [1, 261, 2, 1, 11], 0, 0), (919, none, .if_icmp .eq 722, 3, [1641], 0, 0), (922, none, .iconst 0, 1, [], 0, 0), (923, none, .ireturn, 1, [], 0, 0), (924, none, .aload_n 1, 1, [], 0, 0), (925, none, .aload_n 0, 1, [], 0, 0), (926, none, .iload_n 3, 1, [], 0, 0), (927, none, .iconst 1, 1, [], 1, 0), (928, none, .iadd, 1, [], 0, 0), (929, none, .iaload, 1, [], 0, 0), (930, none, .invokevirtual 110, 3, [1, 121, 1, 1, 10], 0, 0), (933, some [0, 1, 2, 3], .aload_n 2, 1, [], 0, 0), (934, none, .aload_n 0, 1, [], 0, 0), (935, none, .iload_n 3, 1, [], 0, 0), (936, none, .iconst 1, 1, [], 1, 0), (937, none, .iadd, 1, [], 0, 0), (938, none, .iaload, 1, [], 0, 0), (939, none, .invokevirtual 113, 3, [1, 265, 1, 1, 11], 0, 0), (942, none, .if_icmp .eq 699, 3, [1641], 0, 0), (945, none, .iconst 0, 1, [], 0, 0), (946, none, .ireturn, 1, [], 0, 0), (947, none, .aload_n 1, 1, [], 0, 0), (948, none, .aload_n 0, 1, [], 0, 0), (949, none, .iload_n 3, 1, [], 0, 0), (950, none, .iconst 1, 1, [], 1, 0), (951, none, .iadd, 1, [], 0, 0), (952, none, .iaload, 1, [], 0, 0), (953, none, .ifCond .eq 7, 3, [960], 0, 0), (956, none, .iconst 1, 1, [], 1, 0), (957, none, .goto 4, 3, [961], 0, 0), (960, none, .iconst 0, 1, [], 0, 0), (961, none, .aload_n 0, 1, [], 0, 0), (962, none, .iload_n 3, 1, [], 0, 0), (963, none, .iconst 2, 1, [], 2, 0), (964, none, .iadd, 1, [], 0, 0), (965, none, .iaload, 1, [], 0, 0), (966, none, .invokevirtual 114, 3, [1, 122, 2, 1, 10], 0, 0), (969, some [0, 1, 2, 3], .aload_n 2, 1, [], 0, 0), (970, none, .aload_n 0, 1, [], 0, 0), (971, none, .iload_n 3, 1, [], 0, 0), (972, none, .iconst 1, 1, [], 1, 0), (973, none, .iadd, 1, [], 0, 0)]
def k_L_law_6 : List EN := [(974, none, .iaload, 1, [], 0, 0), (975, none, .ifCond .eq 7, 3, [982], 0, 0), (978, none, .iconst 1, 1, [], 1, 0), (979, none, .goto 4, 3, [983], 0, 0), (982, none, .iconst 0, 1, [], 0, 0), (983, none, .aload_n 0, 1, [], 0, 0), (984, none, .iload_n 3, 1, [], 0, 0), (985, none, .iconst 2, 1, [], 2, 0), (986, none, .iadd, 1, [], 0, 0), (987, none, .iaload, 1, [], 0, 0), (988, none, .invokevirtual 118, 3, [1, 269, 2, 1, 11], 0, 0), (991, none, .if_icmp .eq 650, 3, [1641], 0, 0), (994, none, .iconst 0, 1, [], 0, 0), (995, none, .ireturn, 1, [], 0, 0), (996, none, .aload_n 1, 1, [], 0, 0), (997, none, .aload_n 0, 1, [], 0, 0), (998, none, .iload_n 3, 1, [], 0, 0), (999, none, .iconst 1, 1, [], 1, 0), (1000, none, .iadd, 1, [], 0, 0), (1001, none, .iaload, 1, [], 0, 0), (1002, none, .invokevirtual 119, 3, [1, 123, 1, 1, 10], 0, 0), (1005, some [0, 1, 2, 3], .aload_n 2, 1, [], 0, 0), (1006, none, .aload_n 0, 1, [], 0, 0), (1007, none, .iload_n 3, 1, [], 0, 0), (1008, none, .iconst 1, 1, [], 1, 0), (1009, none, .iadd, 1, [], 0, 0), (1010, none, .iaload, 1, [], 0, 0), (1011, none, .invokevirtual 122, 3, [1, 270, 1, 1, 11], 0, 0), (1014, none, .if_icmp .eq 627, 3, [1641], 0, 0), (1017, none, .iconst 0, 1, [], 0, 0), (1018, none, .ireturn, 1, [], 0, 0), (1019, none, .aload_n 1, 1, [], 0, 0), (1020, none, .aload_n 0, 1, [], 0, 0), (1021, none, .iload_n 3, 1, [], 0, 0), (1022, none, .iconst 1, 1, [], 1, 0), (1023, none, .iadd, 1, [], 0, 0), (1024, none, .iaload, 1, [], 0, 0), (1025, none, .invokevirtual 123, 3, [1, 124, 1, 1, 10], 0, 0), (1028, some [0, 1, 2, 3], .aload_n 2, 1, [], 0, 0), (1029, none, .aload_n 0, 1, [], 0, 0), (1030, none, .iload_n 3, 1, [], 0, 0), (1031, none, .iconst 1, 1, [], 1, 0), (1032, none, .iadd, 1, [], 0, 0), (1033, none, .iaload, 1, [], 0, 0), (1034, none, .invokevirtual 126, 3, [1, 271, 1, 1, 11], 0, 0), (1037, none, .if_icmp .eq 604, 3, [1641], 0, 0), (1040, none, .iconst 0, 1, [], 0, 0), (1041, none, .ireturn, 1, [], 0, 0), (1042, none, .aload_n 1, 1, [], 0, 0), (1043, none, .aload_n 0, 1, [], 0, 0), (1044, none, .iload_n 3, 1, [], 0, 0), (1045, none, .iconst 1, 1, [], 1, 0), (1046, none, .iadd, 1, [], 0, 0), (1047, none, .iaload, 1, [], 0, 0), (1048, none, .aload_n 0, 1, [], 0, 0), (1049, none, .iload_n 3, 1, [], 0, 0), (1050, none, .iconst 2, 1, [], 2, 0), (1051, none, .iadd, 1, [], 0, 0), (1052, none, .iaload, 1, [], 0, 0), (1053, none, .invokevirtual 127, 3, [1, 125, 2, 1, 10], 0, 0), (1056, some [0, 1, 2, 3], .aload_n 2, 1, [], 0, 0), (1057, none, .aload_n 0, 1, [], 0, 0), (1058, none, .iload_n 3, 1, [], 0, 0), (1059, none, .iconst 1, 1, [], 1, 0), (1060, none, .iadd, 1, [], 0, 0), (1061, none, .iaload, 1, [], 0, 0), (1062, none, .aload_n 0, 1, [], 0, 0), (1063, none, .iload_n 3, 1, [], 0, 0), (1064, none, .iconst 2, 1, [], 2, 0), (1065, none, .iadd, 1, [], 0, 0), (1066, none, .iaload, 1, [], 0, 0), (1067, none, .invokevirtual 130, 3, [1, 274, 2, 1, 11], 0, 0), (1070, none, .if_icmp .eq 571, 3, [1641], 0, 0), (1073, none, .iconst 0, 1, [], 0, 0), (1074, none, .ireturn, 1, [], 0, 0), (1075, none, .aload_n 1, 1, [], 0, 0), (1076, none, .aload_n 0, 1, [], 0, 0), (1077, none, .iload_n 3, 1, [], 0, 0), (1078, none, .iconst 1, 1, [], 1, 0), (1079, none, .iadd, 1, [], 0, 0), (1080, none, .iaload, 1, [], 0, 0), (1081, none, .aload_n 0, 1, [], 0, 0), (1082, none, .iload_n 3, 1, [], 0, 0), (1083, none, .iconst 2, 1, [], 2, 0), (1084, none, .iadd, 1, [], 0, 0), (1085, none, .iaload, 1, [], 0, 0), (1086, none, .invokevirtual 131, 3, [1, 126, 2, 1, 10], 0, 0), (1089, some [0, 1, 2, 3], .aload_n 2, 1, [], 0, 0), (1090, none, .aload_n 0, 1, [], 0, 0), (1091, none, .iload_n 3, 1, [], 0, 0), (1092, none, .iconst 1, 1, [], 1, 0), (1093, none, .iadd, 1, [], 0, 0), (1094, none, .iaload, 1, [], 0, 0), (1095, none, .aload_n 0, 1, [], 0, 0), (1096, none, .iload_n 3, 1, [], 0, 0), (1097, none, .iconst 2, 1, [], 2, 0), (1098, none, .iadd, 1, [], 0, 0), (1099, none, .iaload, 1, [], 0, 0), (1100, none, .invokevirtual 134, 3, [1, 275, 2, 1, 11], 0, 0), (1103, none, .if_icmp .eq 538, 3, [1641], 0, 0)]
def k_L_law_7 : List EN := [(1106, none, .iconst 0, 1, [], 0, 0), (1107, none, .ireturn, 1, [], 0, 0), (1108, none, .aload_n 1, 1, [], 0, 0), (1109, none, .aload_n 0, 1, [], 0, 0), (1110, none, .iload_n 3, 1, [], 0, 0), (1111, none, .iconst 1, 1, [], 1, 0), (1112, none, .iadd, 1, [], 0, 0), (1113, none, .iaload, 1, [], 0, 0), (1114, none, .invokevirtual 135, 3, [1, 127, 1, 1, 10], 0, 0), (1117, some [0, 1, 2, 3], .aload_n 2, 1, [], 0, 0), (1118, none, .aload_n 0, 1, [], 0, 0), (1119, none, .iload_n 3, 1, [], 0, 0), (1120, none, .iconst 1, 1, [], 1, 0), (1121, none, .iadd, 1, [], 0, 0), (1122, none, .iaload, 1, [], 0, 0), (1123, none, .invokevirtual 138, 3, [1, 277, 1, 1, 11], 0, 0), (1126, none, .if_icmp .eq 515, 3, [1641], 0, 0), (1129, none, .iconst 0, 1, [], 0, 0), (1130, none, .ireturn, 1, [], 0, 0), (1131, none, .aload_n 1, 1, [], 0, 0), (1132, none, .aload_n 0, 1, [], 0, 0), (1133, none, .iload_n 3, 1, [], 0, 0), (1134, none, .iconst 1, 1, [], 1, 0), (1135, none, .iadd, 1, [], 0, 0), (1136, none, .iaload, 1, [], 0, 0), (1137, none, .aload_n 0, 1, [], 0, 0), (1138, none, .iload_n 3, 1, [], 0, 0), (1139, none, .iconst 2, 1, [], 2, 0), (1140, none, .iadd, 1, [], 0, 0), (1141, none, .iaload, 1, [], 0, 0), (1142, none, .invokevirtual 139, 3, [1, 128, 2, 1, 10], 0, 0), (1145, some [0, 1, 2, 3], .aload_n 2, 1, [], 0, 0), (1146, none, .aload_n 0, 1, [], 0, 0), (1147, none, .iload_n 3, 1, [], 0, 0), (1148, none, .iconst 1, 1, [], 1, 0), (1149, none, .iadd, 1, [], 0, 0), (1150, none, .iaload, 1, [], 0, 0), (1151, none, .aload_n 0, 1, [], 0, 0), (1152, none, .iload_n 3, 1, [], 0, 0), (1153, none, .iconst 2, 1, [], 2, 0), (1154, none, .iadd, 1, [], 0, 0), (1155, none, .iaload, 1, [], 0, 0), (1156, none, .invokevirtual 142, 3, [1, 278, 2, 1, 11], 0, 0), (1159, none, .if_icmp .eq 482, 3, [1641], 0, 0), (1162, none, .iconst 0, 1, [], 0, 0), (1163, none, .ireturn, 1, [], 0, 0), (1164, none, .aload_n 1, 1, [], 0, 0), (1165, none, .aload_n 0, 1, [], 0, 0), (1166, none, .iload_n 3, 1, [], 0, 0), (1167, none, .iconst 1, 1, [], 1, 0), (1168, none, .iadd, 1, [], 0, 0), (1169, none, .iaload, 1, [], 0, 0), (1170, none, .aload_n 0, 1, [], 0, 0), (1171, none, .iload_n 3, 1, [], 0, 0), (1172, none, .iconst 2, 1, [], 2, 0), (1173, none, .iadd, 1, [], 0, 0), (1174, none, .iaload, 1, [], 0, 0), (1175, none, .invokevirtual 143, 3, [1, 129, 2, 1, 10], 0, 0), (1178, some [0, 1, 2, 3], .aload_n 2, 1, [], 0, 0), (1179, none, .aload_n 0, 1, [], 0, 0), (1180, none, .iload_n 3, 1, [], 0, 0), (1181, none, .iconst 1, 1, [], 1, 0), (1182, none, .iadd, 1, [], 0, 0), (1183, none, .iaload, 1, [], 0, 0), (1184, none, .aload_n 0, 1, [], 0, 0), (1185, none, .iload_n 3, 1, [], 0, 0), (1186, none, .iconst 2, 1, [], 2, 0), (1187, none, .iadd, 1, [], 0, 0), (1188, none, .iaload, 1, [], 0, 0), (1189, none, .invokevirtual 146, 3, [1, 280, 2, 1, 11], 0, 0), (1192, none, .if_icmp .eq 449, 3, [1641], 0, 0), (1195, none, .iconst 0, 1, [], 0, 0), (1196, none, .ireturn, 1, [], 0, 0), (1197, none, .aload_n 1, 1, [], 0, 0), (1198, none, .aload_n 0, 1, [], 0, 0), (1199, none, .iload_n 3, 1, [], 0, 0), (1200, none, .iconst 1, 1, [], 1, 0), (1201, none, .iadd, 1, [], 0, 0), (1202, none, .iaload, 1, [], 0, 0), (1203, none, .invokevirtual 147, 3, [1, 130, 1, 1, 10], 0, 0), (1206, some [0, 1, 2, 3], .aload_n 2, 1, [], 0, 0), (1207, none, .aload_n 0, 1, [], 0, 0), (1208, none, .iload_n 3, 1, [], 0, 0), (1209, none, .iconst 1, 1, [], 1, 0), (1210, none, .iadd, 1, [], 0, 0), (1211, none, .iaload, 1, [], 0, 0), (1212, none, .invokevirtual 150, 3, [1, 282, 1, 1, 11], 0, 0), (1215, none, .if_icmp .eq 426, 3, [1641], 0, 0), (1218, none, .iconst 0, 1, [], 0, 0), (1219, none, .ireturn, 1, [], 0, 0), (1220, none, .aload_n 1, 1, [], 0, 0), (1221, none, .aload_n 0, 1, [], 0, 0), (1222, none, .iload_n 3, 1, [], 0, 0), (1223, none, .iconst 1, 1, [], 1, 0), (1224, none, .iadd, 1, [], 0, 0), (1225, none, .iaload, 1, [], 0, 0), (1226, none, .aload_n 0, 1, [], 0, 0), (1227, none, .iload_n 3, 1, [], 0, 0), (1228, none, .iconst 2, 1, [], 2, 0), (1229, none, .iadd, 1, [], 0, 0)]
def k_L_law_8 : List EN := [(1230, none, .iaload, 1, [], 0, 0), (1231, none, .ifCond .eq 7, 3, [1238], 0, 0), (1234, none, .iconst 1, 1, [], 1, 0), (1235, none, .goto 4, 3, [1239], 0, 0), (1238, none, .iconst 0, 1, [], 0, 0), (1239, none, .invokevirtual 151, 3, [1, 131, 2, 1, 10], 0, 0), (1242, some [0, 1, 2, 3], .aload_n 2, 1, [], 0, 0), (1243, none, .aload_n 0, 1, [], 0, 0), (1244, none, .iload_n 3, 1, [], 0, 0), (1245, none, .iconst 1, 1, [], 1, 0), (1246, none, .iadd, 1, [], 0, 0), (1247, none, .iaload, 1, [], 0, 0), (1248, none, .aload_n 0, 1, [], 0, 0), (1249, none, .iload_n 3, 1, [], 0, 0), (1250, none, .iconst 2, 1, [], 2, 0), (1251, none, .iadd, 1, [], 0, 0), (1252, none, .iaload, 1, [], 0, 0), (1253, none, .ifCond .eq 7, 3, [1260], 0, 0), (1256, none, .iconst 1, 1, [], 1, 0), (1257, none, .goto 4, 3, [1261], 0, 0), (1260, none, .iconst 0, 1, [], 0, 0), (1261, none, .invokevirtual 154, 3, [1, 175, 2, 1, 11], 0, 0), (1264, none, .if_icmp .eq 377, 3, [1641], 0, 0), (1267, none, .iconst 0, 1, [], 0, 0), (1268, none, .ireturn, 1, [], 0, 0), (1269, none, .aload_n 1, 1, [], 0, 0), (1270, none, .aload_n 0, 1, [], 0, 0), (1271, none, .iload_n 3, 1, [], 0, 0), (1272, none, .iconst 1, 1, [], 1, 0), (1273, none, .iadd, 1, [], 0, 0), (1274, none, .iaload, 1, [], 0, 0), (1275, none, .ifCond .eq 7, 3, [1282], 0, 0), (1278, none, .iconst 1, 1, [], 1, 0), (1279, none, .goto 4, 3, [1283], 0, 0), (1282, none, .iconst 0, 1, [], 0, 0), (1283, none, .invokevirtual 155, 3, [1, 132, 1, 1, 10], 0, 0), (1286, some [0, 1, 2, 3], .aload_n 2, 1, [], 0, 0), (1287, none, .aload_n 0, 1, [], 0, 0), (1288, none, .iload_n 3, 1, [], 0, 0), (1289, none, .iconst 1, 1, [], 1, 0), (1290, none, .iadd, 1, [], 0, 0), (1291, none, .iaload, 1, [], 0, 0), (1292, none, .ifCond .eq 7, 3, [1299], 0, 0), (1295, none, .iconst 1, 1, [], 1, 0), (1296, none, .goto 4, 3, [1300], 0, 0), (1299, none, .iconst 0, 1, [], 0, 0), (1300, none, .invokevirtual 159, 3, [1, 284, 1, 1, 11], 0, 0), (1303, none, .if_icmp .eq 338, 3, [1641], 0, 0), (1306, none, .iconst 0, 1, [], 0, 0), (1307, none, .ireturn, 1, [], 0, 0), (1308, none, .aload_n 1, 1, [], 0, 0), (1309, none, .aload_n 0, 1, [], 0, 0), (1310, none, .iload_n 3, 1, [], 0, 0), (1311, none, .iconst 1, 1, [], 1, 0), (1312, none, .iadd, 1, [], 0, 0), (1313, none, .iaload, 1, [], 0, 0), (1314, none, .aload_n 0, 1, [], 0, 0), (1315, none, .iload_n 3, 1, [], 0, 0), (1316, none, .iconst 2, 1, [], 2, 0), (1317, none, .iadd, 1, [], 0, 0), (1318, none, .iaload, 1, [], 0, 0), (1319, none, .aload_n 0, 1, [], 0, 0), (1320, none, .iload_n 3, 1, [], 0, 0), (1321, none, .iconst 3, 1, [], 3, 0), (1322, none, .iadd, 1, [], 0, 0), (1323, none, .iaload, 1, [], 0, 0), (1324, none, .aload_n 0, 1, [], 0, 0), (1325, none, .iload_n 3, 1, [], 0, 0), (1326, none, .iconst 4, 1, [], 4, 0), (1327, none, .iadd, 1, [], 0, 0), (1328, none, .iaload, 1, [], 0, 0), (1329, none, .ifCond .eq 7, 3, [1336], 0, 0), (1332, none, .iconst 1, 1, [], 1, 0), (1333, none, .goto 4, 3, [1337], 0, 0), (1336, none, .iconst 0, 1, [], 0, 0), (1337, none, .invokevirtual 160, 3, [1, 133, 4, 2, 10], 0, 0), (1340, some [0, 1, 2, 3], .aload_n 2, 1, [], 0, 0), (1341, none, .aload_n 0, 1, [], 0, 0), (1342, none, .iload_n 3, 1, [], 0, 0), (1343, none, .iconst 1, 1, [], 1, 0), (1344, none, .iadd, 1, [], 0, 0), (1345, none, .iaload, 1, [], 0, 0), (1346, none, .aload_n 0, 1, [], 0, 0), (1347, none, .iload_n 3, 1, [], 0, 0), (1348, none, .iconst 2, 1, [], 2, 0), (1349, none, .iadd, 1, [], 0, 0), (1350, none, .iaload, 1, [], 0, 0), (1351, none, .aload_n 0, 1, [], 0, 0), (1352, none, .iload_n 3, 1, [], 0, 0), (1353, none, .iconst 3, 1, [], 3, 0), (1354, none, .iadd, 1, [], 0, 0), (1355, none, .iaload, 1, [], 0, 0), (1356, none, .aload_n 0, 1, [], 0, 0), (1357, none, .iload_n 3, 1, [], 0, 0), (1358, none, .iconst 4, 1, [], 4, 0), (1359, none, .iadd, 1, [], 0, 0), (1360, none, .iaload, 1, [], 0, 0), (1361, none, .ifCond .eq 7, 3, [1368], 0, 0), (1364, none, .iconst 1, 1, [], 1, 0), (1365, none, .goto 4, 3, [1369], 0, 0)]
def k_L_law_9 : List EN := [(1368, none, .iconst 0, 1, [], 0, 0), (1369, none, .invokevirtual 164, 3, [1, 289, 4, 2, 11], 0, 0), (1372, none, .lcmp, 1, [], 0, 0), (1373, none, .ifCond .eq 268, 3, [1641], 0, 0), (1376, none, .iconst 0, 1, [], 0, 0), (1377, none, .ireturn, 1, [], 0, 0), (1378, none, .aload_n 1, 1, [], 0, 0), (1379, none, .aload_n 0, 1, [], 0, 0), (1380, none, .iload_n 3, 1, [], 0, 0), (1381, none, .iconst 1, 1, [], 1, 0), (1382, none, .iadd, 1, [], 0, 0), (1383, none, .iaload, 1, [], 0, 0), (1384, none, .aload_n 0, 1, [], 0, 0), (1385, none, .iload_n 3, 1, [], 0, 0), (1386, none, .iconst 2, 1, [], 2, 0), (1387, none, .iadd, 1, [], 0, 0), (1388, none, .iaload, 1, [], 0, 0), (1389, none, .aload_n 0, 1, [], 0, 0), (1390, none, .iload_n 3, 1, [], 0, 0), (1391, none, .iconst 3, 1, [], 3, 0), (1392, none, .iadd, 1, [], 0, 0), (1393, none, .iaload, 1, [], 0, 0), (1394, none, .ifCond .eq 7, 3, [1401], 0, 0), (1397, none, .iconst 1, 1, [], 1, 0), (1398, none, .goto 4, 3, [1402], 0, 0), (1401, none, .iconst 0, 1, [], 0, 0), (1402, none, .invokevirtual 165, 3, [1, 134, 3, 2, 10], 0, 0), (1405, some [0, 1, 2, 3], .aload_n 2, 1, [], 0, 0), (1406, none, .aload_n 0, 1, [], 0, 0), (1407, none, .iload_n 3, 1, [], 0, 0), (1408, none, .iconst 1, 1, [], 1, 0), (1409, none, .iadd, 1, [], 0, 0), (1410, none, .iaload, 1, [], 0, 0), (1411, none, .aload_n 0, 1, [], 0, 0), (1412, none, .iload_n 3, 1, [], 0, 0), (1413, none, .iconst 2, 1, [], 2, 0), (1414, none, .iadd, 1, [], 0, 0), (1415, none, .iaload, 1, [], 0, 0), (1416, none, .aload_n 0, 1, [], 0, 0), (1417, none, .iload_n 3, 1, [], 0, 0), (1418, none, .iconst 3, 1, [], 3, 0), (1419, none, .iadd, 1, [], 0, 0), (1420, none, .iaload, 1, [], 0, 0), (1421, none, .ifCond .eq 7, 3, [1428], 0, 0), (1424, none, .iconst 1, 1, [], 1, 0), (1425, none, .goto 4, 3, [1429], 0, 0), (1428, none, .iconst 0, 1, [], 0, 0), (1429, none, .invokevirtual 169, 3, [1, 290, 3, 2, 11], 0, 0), (1432, none, .lcmp, 1, [], 0, 0), (1433, none, .ifCond .eq 208, 3, [1641], 0, 0), (1436, none, .iconst 0, 1, [], 0, 0), (1437, none, .ireturn, 1, [], 0, 0), (1438, none, .aload_n 1, 1, [], 0, 0), (1439, none, .invokevirtual 170, 3, [1, 135, 0, 1, 10], 0, 0), (1442, some [0, 1, 2, 3], .aload_n 2, 1, [], 0, 0), (1443, none, .invokevirtual 173, 3, [1, 291, 0, 1, 11], 0, 0), (1446, none, .if_icmp .eq 195, 3, [1641], 0, 0), (1449, none, .iconst 0, 1, [], 0, 0), (1450, none, .ireturn, 1, [], 0, 0), (1451, none, .aload_n 1, 1, [], 0, 0), (1452, none, .invokevirtual 174, 3, [1, 136, 0, 1, 10], 0, 0), (1455, some [0, 1, 2, 3], .aload_n 2, 1, [], 0, 0), (1456, none, .invokevirtual 177, 3, [1, 292, 0, 1, 11], 0, 0), (1459, none, .if_icmp .eq 182, 3, [1641], 0, 0), (1462, none, .iconst 0, 1, [], 0, 0), (1463, none, .ireturn, 1, [], 0, 0), (1464, none, .aload_n 1, 1, [], 0, 0), (1465, none, .aload_n 0, 1, [], 0, 0), (1466, none, .iload_n 3, 1, [], 0, 0), (1467, none, .iconst 1, 1, [], 1, 0), (1468, none, .iadd, 1, [], 0, 0), (1469, none, .iaload, 1, [], 0, 0), (1470, none, .aload_n 0, 1, [], 0, 0), (1471, none, .iload_n 3, 1, [], 0, 0), (1472, none, .iconst 2, 1, [], 2, 0), (1473, none, .iadd, 1, [], 0, 0), (1474, none, .iaload, 1, [], 0, 0), (1475, none, .invokevirtual 178, 3, [1, 137, 2, 1, 10], 0, 0), (1478, some [0, 1, 2, 3], .aload_n 2, 1, [], 0, 0), (1479, none, .aload_n 0, 1, [], 0, 0), (1480, none, .iload_n 3, 1, [], 0, 0), (1481, none, .iconst 1, 1, [], 1, 0), (1482, none, .iadd, 1, [], 0, 0), (1483, none, .iaload, 1, [], 0, 0), (1484, none, .aload_n 0, 1, [], 0, 0), (1485, none, .iload_n 3, 1, [], 0, 0), (1486, none, .iconst 2, 1, [], 2, 0), (1487, none, .iadd, 1, [], 0, 0), (1488, none, .iaload, 1, [], 0, 0), (1489, none, .invokevirtual 181, 3, [1, 294, 2, 1, 11], 0, 0), (1492, none, .if_icmp .eq 149, 3, [1641], 0, 0), (1495, none, .iconst 0, 1, [], 0, 0), (1496, none, .ireturn, 1, [], 0, 0), (1497, none, .aload_n 1, 1, [], 0, 0), (1498, none, .aload_n 0, 1, [], 0, 0), (1499, none, .iload_n 3, 1, [], 0, 0), (1500, none, .iconst 1, 1, [], 1, 0), (1501, none, .iadd, 1, [], 0, 0), (1502, none, .iaload, 1, [], 0, 0), (1503, none, .aload_n 0, 1, [], 0, 0)]
def k_L_law_10 : List EN := [(1504, none, .iload_n 3, 1, [], 0, 0), (1505, none, .iconst 2, 1, [], 2, 0), (1506, none, .iadd, 1, [], 0, 0), (1507, none, .iaload, 1, [], 0, 0), (1508, none, .invokevirtual 182, 3, [1, 138, 2, 1, 10], 0, 0), (1511, some [0, 1, 2, 3], .aload_n 2, 1, [], 0, 0), (1512, none, .aload_n 0, 1, [], 0, 0), (1513, none, .iload_n 3, 1, [], 0, 0), (1514, none, .iconst 1, 1, [], 1, 0), (1515, none, .iadd, 1, [], 0, 0), (1516, none, .iaload, 1, [], 0, 0), (1517, none, .aload_n 0, 1, [], 0, 0), (1518, none, .iload_n 3, 1, [], 0, 0), (1519, none, .iconst 2, 1, [], 2, 0), (1520, none, .iadd, 1, [], 0, 0), (1521, none, .iaload, 1, [], 0, 0), (1522, none, .invokevirtual 185, 3, [1, 295, 2, 1, 11], 0, 0), (1525, none, .if_icmp .eq 116, 3, [1641], 0, 0), (1528, none, .iconst 0, 1, [], 0, 0), (1529, none, .ireturn, 1, [], 0, 0), (1530, none, .aload_n 1, 1, [], 0, 0), (1531, none, .invokevirtual 186, 3, [1, 139, 0, 1, 10], 0, 0), (1534, some [0, 1, 2, 3], .aload_n 2, 1, [], 0, 0), (1535, none, .invokevirtual 189, 3, [1, 296, 0, 1, 11], 0, 0), (1538, none, .if_icmp .eq 103, 3, [1641], 0, 0), (1541, none, .iconst 0, 1, [], 0, 0), (1542, none, .ireturn, 1, [], 0, 0), (1543, none, .aload_n 1, 1, [], 0, 0), (1544, none, .invokevirtual 190, 3, [1, 140, 0, 1, 10], 0, 0), (1547, some [0, 1, 2, 3], .aload_n 2, 1, [], 0, 0), (1548, none, .invokevirtual 193, 3, [1, 254, 0, 1, 11], 0, 0), (1551, none, .if_icmp .eq 90, 3, [1641], 0, 0), (1554, none, .iconst 0, 1, [], 0, 0), (1555, none, .ireturn, 1, [], 0, 0), (1556, none, .aload_n 1, 1, [], 0, 0), (1557, none, .invokevirtual 194, 3, [1, 141, 0, 1, 10], 0, 0), (1560, some [0, 1, 2, 3], .aload_n 2, 1, [], 0, 0), (1561, none, .invokevirtual 197, 3, [1, 255, 0, 1, 11], 0, 0), (1564, none, .if_icmp .eq 77, 3, [1641], 0, 0), (1567, none, .iconst 0, 1, [], 0, 0), (1568, none, .ireturn, 1, [], 0, 0), (1569, none, .aload_n 1, 1, [], 0, 0), (1570, none, .aload_n 0, 1, [], 0, 0), (1571, none, .iload_n 3, 1, [], 0, 0), (1572, none, .iconst 1, 1, [], 1, 0), (1573, none, .iadd, 1, [], 0, 0), (1574, none, .iaload, 1, [], 0, 0), (1575, none, .invokevirtual 198, 3, [1, 142, 1, 1, 10], 0, 0), (1578, some [0, 1, 2, 3], .aload_n 2, 1, [], 0, 0), (1579, none, .aload_n 0, 1, [], 0, 0), (1580, none, .iload_n 3, 1, [], 0, 0), (1581, none, .iconst 1, 1, [], 1, 0), (1582, none, .iadd, 1, [], 0, 0), (1583, none, .iaload, 1, [], 0, 0), (1584, none, .invokevirtual 201, 3, [1, 253, 1, 1, 11], 0, 0), (1587, none, .if_icmp .eq 54, 3, [1641], 0, 0), (1590, none, .iconst 0, 1, [], 0, 0), (1591, none, .ireturn, 1, [], 0, 0), (1592, none, .aload_n 1, 1, [], 0, 0), (1593, none, .invokevirtual 202, 3, [1, 143, 0, 1, 10], 0, 0), (1596, some [0, 1, 2, 3], .aload_n 2, 1, [], 0, 0), (1597, none, .invokevirtual 205, 3, [1, 297, 0, 1, 11], 0, 0), (1600, none, .if_icmp .eq 41, 3, [1641], 0, 0), (1603, none, .iconst 0, 1, [], 0, 0), (1604, none, .ireturn, 1, [], 0, 0), (1605, none, .aload_n 1, 1, [], 0, 0), (1606, none, .invokevirtual 206, 3, [1, 144, 0, 1, 10], 0, 0), (1609, some [0, 1, 2, 3], .aload_n 2, 1, [], 0, 0), (1610, none, .invokevirtual 209, 3, [1, 298, 0, 1, 11], 0, 0), (1613, none, .if_icmp .eq 28, 3, [1641], 0, 0), (1616, none, .iconst 0, 1, [], 0, 0), (1617, none, .ireturn, 1, [], 0, 0), (1618, none, .aload_n 1, 1, [], 0, 0), (1619, none, .aload_n 0, 1, [], 0, 0), (1620, none, .iload_n 3, 1, [], 0, 0), (1621, none, .iconst 1, 1, [], 1, 0), (1622, none, .iadd, 1, [], 0, 0), (1623, none, .iaload, 1, [], 0, 0), (1624, none, .invokevirtual 210, 3, [1, 145, 1, 1, 10], 0, 0), (1627, some [0, 1, 2, 3], .aload_n 2, 1, [], 0, 0), (1628, none, .aload_n 0, 1, [], 0, 0), (1629, none, .iload_n 3, 1, [], 0, 0), (1630, none, .iconst 1, 1, [], 1, 0), (1631, none, .iadd, 1, [], 0, 0), (1632, none, .iaload, 1, [], 0, 0), (1633, none, .invokevirtual 213, 3, [1, 299, 1, 1, 11], 0, 0), (1636, none, .if_icmp .eq 5, 3, [1641], 0, 0), (1639, none, .iconst 0, 1, [], 0, 0), (1640, none, .ireturn, 1, [], 0, 0), (1641, none, .iinc 3 6, 3, [], 6, 0), (1644, none, .goto (-1626), 3, [18], 0, 0), (1647, none, .iconst 1, 1, [], 1, 0), (1648, none, .ireturn, 1, [], 0, 0)]
def k_L_law : List EN := k_L_law_0 ++ (k_L_law_1 ++ (k_L_law_2 ++ (k_L_law_3 ++ (k_L_law_4 ++ (k_L_law_5 ++ (k_L_law_6 ++ (k_L_law_7 ++ (k_L_law_8 ++ (k_L_law_9 ++ (k_L_law_10))))))))))
end
section
/-- the methods by their numbers: class, locals, kind of answer, code -/
def MT0 : List (Nat × Nat × Nat × List EN) := [(0, 2, 0, k_X0_init), (0, 8, 0, k_X0_gather), (0, 8, 4, k_X0_fits), (0, 5, 1, k_X0_hearingOf), (0, 7, 1, k_X0_mostLeft), (1, 1, 0, k_X1_init), (1, 9, 1, k_X1_pass), (1, 5, 1, k_X1_leaning), (1, 6, 1, k_X1_hearing), (1, 3, 0, k_X1_setNames), (1, 9, 1, k_X1_reckon), (1, 2, 0, k_X1_push), (1, 1, 1, k_X1_pop), (1, 5, 1, k_X1_joined), (1, 2, 1, k_X1_stepTo), (2, 1, 0, k_X2_init), (2, 6, 0, k_X2_spreadOut), (2, 9, 2, k_X2_share), (3, 1, 0, k_X3_init), (3, 4, 4, k_X3_breakLines), (3, 8, 0, k_X3_chooseLine), (3, 4, 1, k_X3_beginning), (3, 6, 1, k_X3_leastWidth), (3, 5, 1, k_X3_fewestLines), (4, 1, 0, k_X4_init), (4, 2, 0, k_X4_append), (4, 3, 4, k_X4_readInto), (4, 2, 4, k_X4_fail), (4, 3, 4, k_X4_readClause), (4, 1, 1, k_X4_clauseKind), (4, 2, 4, k_X4_readLaw), (4, 5, 4, k_X4_readDeed), (4, 1, 1, k_X4_leastOf), (4, 1, 1, k_X4_mostOf), (4, 4, 4, k_X4_readSum), (4, 4, 4, k_X4_readProduct), (4, 2, 4, k_X4_readOne), (4, 4, 4, k_X4_readChoice), (4, 3, 4, k_X4_readEither), (4, 3, 4, k_X4_readBoth), (4, 3, 4, k_X4_readAsk), (4, 1, 1, k_X4_comparison), (4, 4, 4, k_X4_readName), (4, 1, 1, k_X4_nameOfToken), (4, 2, 4, k_X4_put), (4, 2, 4, k_X4_takeOpening), (4, 3, 4, k_X4_takeNumber), (4, 2, 4, k_X4_takeWord), (4, 2, 4, k_X4_takeSign), (4, 3, 4, k_X4_isWord)]
def MT1 : List (Nat × Nat × Nat × List EN) := [(4, 1, 0, k_X4_advance), (4, 1, 0, k_X4_scanNumber), (4, 2, 0, k_X4_scanSign), (4, 1, 4, k_X4_isLetter), (4, 1, 4, k_X4_isDigit), (5, 1, 0, k_X5_init), (5, 2, 4, k_X5_has), (5, 3, 0, k_X5_add), (5, 2, 1, k_X5_slantIn), (5, 3, 1, k_X5_seatOf), (5, 2, 4, k_X5_isPropped), (5, 3, 4, k_X5_canChange), (5, 4, 0, k_X5_change), (5, 4, 0, k_X5_turnAbout), (5, 3, 4, k_X5_canSetProp), (5, 3, 0, k_X5_setProp), (5, 1, 0, k_X5_renewX), (5, 1, 0, k_X5_drawWind), (5, 2, 0, k_X5_write), (5, 2, 1, k_X5_bookedYear), (5, 2, 1, k_X5_bookedPerson), (5, 2, 1, k_X5_bookedWind), (5, 3, 1, k_X5_packedSlants), (5, 4, 1, k_X5_howManyLean), (5, 2, 0, k_X5_copy), (5, 3, 0, k_X5_save), (5, 5, 0, k_X5_restore), (6, 1, 0, k_X6_init), (6, 2, 0, k_X6_keep), (6, 2, 0, k_X6_takeBack), (6, 2, 0, k_X6_copy), (6, 2, 1, k_X6_placeOf), (7, 1, 0, k_X7_init), (7, 1, 0, k_X7_clear), (7, 4, 0, k_X7_addClause), (7, 2, 0, k_X7_emit), (7, 2, 1, k_X7_emitJump), (7, 2, 0, k_X7_aimHere), (7, 2, 1, k_X7_codeAt), (8, 1, 0, k_X8_init), (8, 2, 0, k_X8_copy), (9, 1, 0, k_X9_init), (9, 4, 0, k_X9_prepare), (9, 7, 0, k_X9_prepareOrder), (9, 7, 4, k_X9_goFarther), (9, 4, 1, k_X9_behind), (9, 7, 1, k_X9_answer), (9, 3, 1, k_X9_lowestNearer), (10, 2, 0, k_X10_init), (10, 3, 1, k_X10_person)]
def MT2 : List (Nat × Nat × Nat × List EN) := [(10, 3, 4, k_X10_rack), (10, 6, 1, k_X10_feed), (10, 2, 1, k_X10_end), (10, 2, 1, k_X10_text), (10, 2, 1, k_X10_fault), (10, 2, 4, k_X10_by), (10, 3, 4, k_X10_swap), (10, 2, 4, k_X10_turn), (10, 3, 4, k_X10_prop), (10, 2, 1, k_X10_year), (10, 4, 1, k_X10_played), (10, 5, 1, k_X10_ages), (10, 1, 1, k_X10_undo), (10, 3, 1, k_X10_of), (10, 3, 1, k_X10_seat), (10, 4, 1, k_X10_hears), (10, 2, 1, k_X10_is), (10, 3, 1, k_X10_book), (10, 4, 1, k_X10_foretold), (10, 6, 1, k_X10_still), (10, 4, 1, k_X10_upright), (10, 2, 1, k_X10_byTurns), (10, 7, 1, k_X10_seats), (10, 4, 1, k_X10_ragged), (10, 2, 1, k_X10_word), (10, 3, 1, k_X10_page), (10, 3, 1, k_X10_line), (10, 2, 1, k_X10_narrowest), (10, 3, 1, k_X10_heard), (10, 3, 1, k_X10_meant), (10, 6, 1, k_X10_listen), (10, 3, 4, k_X10_bar), (10, 6, 1, k_X10_props), (10, 5, 2, k_X10_likely), (10, 4, 2, k_X10_first), (10, 4, 1, k_X10_median), (10, 4, 1, k_X10_spread), (10, 3, 1, k_X10_quarrel), (10, 3, 1, k_X10_said), (10, 3, 1, k_X10_whose), (10, 3, 1, k_X10_straight), (10, 5, 1, k_X10_steepest), (10, 4, 1, k_X10_ledger), (10, 1, 1, k_X10_image), (10, 1, 1, k_X10_back), (10, 2, 1, k_X10_about), (10, 3, 4, k_X10_within), (10, 1, 4, k_X10_isSlant), (10, 2, 1, k_X10_clamp), (10, 3, 1, k_X10_withBit)]
def MT3 : List (Nat × Nat × Nat × List EN) := [(10, 2, 4, k_X10_isText), (10, 1, 3, k_X10_ruling), (10, 4, 1, k_X10_passYears), (10, 5, 4, k_X10_perform), (10, 5, 0, k_X10_moveInAges), (10, 4, 1, k_X10_costOfOrder), (10, 2, 0, k_X10_gatherPairs), (10, 3, 4, k_X10_agrees), (10, 6, 1, k_X10_rankOf), (10, 9, 0, k_X10_unrank), (11, 1, 0, k_X11_init), (11, 3, 0, k_X11_copy), (11, 3, 4, k_X11_isIn), (11, 4, 1, k_X11_cut), (11, 1, 1, k_X11_size), (11, 2, 4, k_X11_has), (11, 3, 1, k_X11_bits), (11, 2, 4, k_X11_isPerson), (11, 1, 4, k_X11_isSteep), (11, 1, 4, k_X11_isSeat), (11, 2, 1, k_X11_slantIn), (11, 3, 1, k_X11_seatOf), (11, 4, 1, k_X11_person), (11, 2, 0, k_X11_begin), (11, 3, 4, k_X11_rack), (11, 3, 4, k_X11_bar), (11, 3, 0, k_X11_four), (11, 6, 1, k_X11_feed), (11, 2, 1, k_X11_end), (11, 2, 1, k_X11_byteAt), (11, 1, 4, k_X11_isLetterByte), (11, 1, 4, k_X11_isFigure), (11, 1, 4, k_X11_isSign), (11, 2, 0, k_X11_nextToken), (11, 2, 2, k_X11_w2), (11, 3, 2, k_X11_w3), (11, 4, 2, k_X11_w4), (11, 5, 2, k_X11_w5), (11, 6, 2, k_X11_w6), (11, 3, 4, k_X11_isWord), (11, 3, 0, k_X11_emit), (11, 1, 1, k_X11_nameOf), (11, 2, 4, k_X11_isOf), (11, 1, 1, k_X11_rank), (11, 2, 0, k_X11_settle), (11, 2, 1, k_X11_openAt), (11, 1, 1, k_X11_openNow), (11, 2, 4, k_X11_isCompared), (11, 1, 4, k_X11_isAskAhead), (11, 2, 1, k_X11_opened)]
def MT4 : List (Nat × Nat × Nat × List EN) := [(11, 2, 1, k_X11_beginOne), (11, 1, 1, k_X11_endOne), (11, 1, 1, k_X11_compareOf), (11, 1, 1, k_X11_betweenOf), (11, 2, 1, k_X11_partOf), (11, 4, 1, k_X11_behindOne), (11, 2, 1, k_X11_summed), (11, 4, 1, k_X11_figure), (11, 3, 1, k_X11_lawClause), (11, 8, 1, k_X11_pair), (11, 3, 1, k_X11_body), (11, 1, 1, k_X11_sortOf), (11, 5, 1, k_X11_clause), (11, 2, 1, k_X11_readText), (11, 1, 1, k_X11_text), (11, 2, 1, k_X11_fault), (11, 2, 4, k_X11_by), (11, 2, 2, k_X11_clip), (11, 5, 2, k_X11_two), (11, 5, 4, k_X11_isAsked), (11, 3, 2, k_X11_seatSlant), (11, 4, 2, k_X11_stepOf), (11, 3, 4, k_X11_joined), (11, 10, 2, k_X11_summedUp), (11, 6, 1, k_X11_says), (11, 2, 0, k_X11_name), (11, 4, 1, k_X11_leansOf), (11, 4, 1, k_X11_hearsOf), (11, 3, 0, k_X11_write), (11, 1, 0, k_X11_anew), (11, 4, 0, k_X11_leanAll), (11, 1, 0, k_X11_pass), (11, 3, 0, k_X11_keep), (11, 3, 1, k_X11_undo), (11, 3, 4, k_X11_canSwap), (11, 4, 0, k_X11_swapNow), (11, 3, 4, k_X11_swap), (11, 3, 0, k_X11_turnNow), (11, 2, 4, k_X11_turn), (11, 3, 4, k_X11_canProp), (11, 3, 4, k_X11_prop), (11, 3, 4, k_X11_arePassed), (11, 2, 1, k_X11_year), (11, 4, 4, k_X11_isPlayed), (11, 3, 1, k_X11_played), (11, 3, 0, k_X11_happens), (11, 5, 1, k_X11_ages), (11, 3, 1, k_X11_of), (11, 3, 1, k_X11_seat), (11, 4, 1, k_X11_hears)]
def MT5 : List (Nat × Nat × Nat × List EN) := [(11, 2, 1, k_X11_is), (11, 4, 1, k_X11_entry), (11, 3, 1, k_X11_book), (11, 4, 1, k_X11_ledger), (11, 3, 1, k_X11_straight), (11, 3, 1, k_X11_steepest), (11, 2, 0, k_X11_setAside), (11, 2, 0, k_X11_putBack), (11, 4, 1, k_X11_foretold), (11, 3, 1, k_X11_slantCode), (11, 6, 1, k_X11_still), (11, 4, 1, k_X11_upright), (11, 8, 1, k_X11_turned), (11, 4, 1, k_X11_orderOf), (11, 5, 0, k_X11_layFars), (11, 5, 1, k_X11_byTurns), (11, 4, 0, k_X11_exchange), (11, 6, 4, k_X11_isNextRow), (11, 3, 1, k_X11_rackedSum), (11, 8, 1, k_X11_seats), (11, 4, 1, k_X11_ragged), (11, 2, 1, k_X11_word), (11, 5, 1, k_X11_widthOf), (11, 7, 0, k_X11_layPage), (11, 3, 1, k_X11_page), (11, 5, 1, k_X11_line), (11, 5, 1, k_X11_linesBy), (11, 3, 1, k_X11_narrowest), (11, 3, 1, k_X11_heard), (11, 5, 4, k_X11_isMeant), (11, 6, 1, k_X11_meant), (11, 7, 1, k_X11_mostLeft), (11, 6, 1, k_X11_listen), (11, 3, 4, k_X11_areHeld), (11, 4, 1, k_X11_props), (11, 10, 2, k_X11_divisor), (11, 4, 2, k_X11_threes), (11, 2, 0, k_X11_goOne), (11, 5, 2, k_X11_part), (11, 6, 2, k_X11_likely), (11, 5, 2, k_X11_first), (11, 6, 1, k_X11_median), (11, 4, 1, k_X11_spread), (11, 4, 4, k_X11_isWon), (11, 5, 1, k_X11_quarrel), (11, 3, 1, k_X11_said), (11, 5, 1, k_X11_whose), (11, 1, 1, k_X11_image), (11, 1, 1, k_X11_back), (11, 2, 1, k_X11_about)]
def MT6 : List (Nat × Nat × Nat × List EN) := [(12, 4, 4, k_L_law)]
def MT : List (Nat × Nat × Nat × List EN) := MT0 ++ (MT1 ++ (MT2 ++ (MT3 ++ (MT4 ++ (MT5 ++ (MT6))))))
/-- a call of the method y with d frames of depth left -/
def cal (X : XS) : Nat → Nat → List AV → HP → RR
  | 0, _, _, _ => none
  | d + 1, y, as, H => match nth MT y with
    | some (_, n, rt, code) => bif Nat.ble (words as) n then rcm X (cal X d) n rt code 1000000 0 (iniL 0 as) [] H else none
    | none => none
theorem cal_eq {X : XS} {d y o n rt : Nat} {code : List EN} (h : nth MT y = some (o, n, rt, code)) (as : List AV) (H : HP) (hw : Nat.ble (words as) n = true) : cal X (d + 1) y as H = rcm X (cal X d) n rt code 1000000 0 (iniL 0 as) [] H := by
  show (match nth MT y with
    | some (_, n, rt, code) => bif Nat.ble (words as) n then rcm X (cal X d) n rt code 1000000 0 (iniL 0 as) [] H else none
    | none => none) = _
  rw [h]
  show (bif Nat.ble (words as) n then _ else none) = _
  rw [hw]
  rfl
set_option maxRecDepth 10000 in
theorem t_X0_init : nth MT 0 = some (0, 2, 0, k_X0_init) := rfl
set_option maxRecDepth 10000 in
theorem t_X0_gather : nth MT 1 = some (0, 8, 0, k_X0_gather) := rfl
set_option maxRecDepth 10000 in
theorem t_X0_fits : nth MT 2 = some (0, 8, 4, k_X0_fits) := rfl
set_option maxRecDepth 10000 in
theorem t_X0_hearingOf : nth MT 3 = some (0, 5, 1, k_X0_hearingOf) := rfl
set_option maxRecDepth 10000 in
theorem t_X0_mostLeft : nth MT 4 = some (0, 7, 1, k_X0_mostLeft) := rfl
set_option maxRecDepth 10000 in
theorem t_X1_init : nth MT 5 = some (1, 1, 0, k_X1_init) := rfl
set_option maxRecDepth 10000 in
theorem t_X1_pass : nth MT 6 = some (1, 9, 1, k_X1_pass) := rfl
set_option maxRecDepth 10000 in
theorem t_X1_leaning : nth MT 7 = some (1, 5, 1, k_X1_leaning) := rfl
set_option maxRecDepth 10000 in
theorem t_X1_hearing : nth MT 8 = some (1, 6, 1, k_X1_hearing) := rfl
set_option maxRecDepth 10000 in
theorem t_X1_setNames : nth MT 9 = some (1, 3, 0, k_X1_setNames) := rfl
set_option maxRecDepth 10000 in
theorem t_X1_reckon : nth MT 10 = some (1, 9, 1, k_X1_reckon) := rfl
set_option maxRecDepth 10000 in
theorem t_X1_push : nth MT 11 = some (1, 2, 0, k_X1_push) := rfl
set_option maxRecDepth 10000 in
theorem t_X1_pop : nth MT 12 = some (1, 1, 1, k_X1_pop) := rfl
set_option maxRecDepth 10000 in
theorem t_X1_joined : nth MT 13 = some (1, 5, 1, k_X1_joined) := rfl
set_option maxRecDepth 10000 in
theorem t_X1_stepTo : nth MT 14 = some (1, 2, 1, k_X1_stepTo) := rfl
set_option maxRecDepth 10000 in
theorem t_X2_init : nth MT 15 = some (2, 1, 0, k_X2_init) := rfl
set_option maxRecDepth 10000 in
theorem t_X2_spreadOut : nth MT 16 = some (2, 6, 0, k_X2_spreadOut) := rfl
set_option maxRecDepth 10000 in
theorem t_X2_share : nth MT 17 = some (2, 9, 2, k_X2_share) := rfl
set_option maxRecDepth 10000 in
theorem t_X3_init : nth MT 18 = some (3, 1, 0, k_X3_init) := rfl
set_option maxRecDepth 10000 in
theorem t_X3_breakLines : nth MT 19 = some (3, 4, 4, k_X3_breakLines) := rfl
set_option maxRecDepth 10000 in
theorem t_X3_chooseLine : nth MT 20 = some (3, 8, 0, k_X3_chooseLine) := rfl
set_option maxRecDepth 10000 in
theorem t_X3_beginning : nth MT 21 = some (3, 4, 1, k_X3_beginning) := rfl
set_option maxRecDepth 10000 in
theorem t_X3_leastWidth : nth MT 22 = some (3, 6, 1, k_X3_leastWidth) := rfl
set_option maxRecDepth 10000 in
theorem t_X3_fewestLines : nth MT 23 = some (3, 5, 1, k_X3_fewestLines) := rfl
set_option maxRecDepth 10000 in
theorem t_X4_init : nth MT 24 = some (4, 1, 0, k_X4_init) := rfl
set_option maxRecDepth 10000 in
theorem t_X4_append : nth MT 25 = some (4, 2, 0, k_X4_append) := rfl
set_option maxRecDepth 10000 in
theorem t_X4_readInto : nth MT 26 = some (4, 3, 4, k_X4_readInto) := rfl
set_option maxRecDepth 10000 in
theorem t_X4_fail : nth MT 27 = some (4, 2, 4, k_X4_fail) := rfl
set_option maxRecDepth 10000 in
theorem t_X4_readClause : nth MT 28 = some (4, 3, 4, k_X4_readClause) := rfl
set_option maxRecDepth 10000 in
theorem t_X4_clauseKind : nth MT 29 = some (4, 1, 1, k_X4_clauseKind) := rfl
set_option maxRecDepth 10000 in
theorem t_X4_readLaw : nth MT 30 = some (4, 2, 4, k_X4_readLaw) := rfl
set_option maxRecDepth 10000 in
theorem t_X4_readDeed : nth MT 31 = some (4, 5, 4, k_X4_readDeed) := rfl
set_option maxRecDepth 10000 in
theorem t_X4_leastOf : nth MT 32 = some (4, 1, 1, k_X4_leastOf) := rfl
set_option maxRecDepth 10000 in
theorem t_X4_mostOf : nth MT 33 = some (4, 1, 1, k_X4_mostOf) := rfl
set_option maxRecDepth 10000 in
theorem t_X4_readSum : nth MT 34 = some (4, 4, 4, k_X4_readSum) := rfl
set_option maxRecDepth 10000 in
theorem t_X4_readProduct : nth MT 35 = some (4, 4, 4, k_X4_readProduct) := rfl
set_option maxRecDepth 10000 in
theorem t_X4_readOne : nth MT 36 = some (4, 2, 4, k_X4_readOne) := rfl
set_option maxRecDepth 10000 in
theorem t_X4_readChoice : nth MT 37 = some (4, 4, 4, k_X4_readChoice) := rfl
set_option maxRecDepth 10000 in
theorem t_X4_readEither : nth MT 38 = some (4, 3, 4, k_X4_readEither) := rfl
set_option maxRecDepth 10000 in
theorem t_X4_readBoth : nth MT 39 = some (4, 3, 4, k_X4_readBoth) := rfl
set_option maxRecDepth 10000 in
theorem t_X4_readAsk : nth MT 40 = some (4, 3, 4, k_X4_readAsk) := rfl
set_option maxRecDepth 10000 in
theorem t_X4_comparison : nth MT 41 = some (4, 1, 1, k_X4_comparison) := rfl
set_option maxRecDepth 10000 in
theorem t_X4_readName : nth MT 42 = some (4, 4, 4, k_X4_readName) := rfl
set_option maxRecDepth 10000 in
theorem t_X4_nameOfToken : nth MT 43 = some (4, 1, 1, k_X4_nameOfToken) := rfl
set_option maxRecDepth 10000 in
theorem t_X4_put : nth MT 44 = some (4, 2, 4, k_X4_put) := rfl
set_option maxRecDepth 10000 in
theorem t_X4_takeOpening : nth MT 45 = some (4, 2, 4, k_X4_takeOpening) := rfl
set_option maxRecDepth 10000 in
theorem t_X4_takeNumber : nth MT 46 = some (4, 3, 4, k_X4_takeNumber) := rfl
set_option maxRecDepth 10000 in
theorem t_X4_takeWord : nth MT 47 = some (4, 2, 4, k_X4_takeWord) := rfl
set_option maxRecDepth 10000 in
theorem t_X4_takeSign : nth MT 48 = some (4, 2, 4, k_X4_takeSign) := rfl
set_option maxRecDepth 10000 in
theorem t_X4_isWord : nth MT 49 = some (4, 3, 4, k_X4_isWord) := rfl
set_option maxRecDepth 10000 in
theorem t_X4_advance : nth MT 50 = some (4, 1, 0, k_X4_advance) := rfl
set_option maxRecDepth 10000 in
theorem t_X4_scanNumber : nth MT 51 = some (4, 1, 0, k_X4_scanNumber) := rfl
set_option maxRecDepth 10000 in
theorem t_X4_scanSign : nth MT 52 = some (4, 2, 0, k_X4_scanSign) := rfl
set_option maxRecDepth 10000 in
theorem t_X4_isLetter : nth MT 53 = some (4, 1, 4, k_X4_isLetter) := rfl
set_option maxRecDepth 10000 in
theorem t_X4_isDigit : nth MT 54 = some (4, 1, 4, k_X4_isDigit) := rfl
set_option maxRecDepth 10000 in
theorem t_X5_init : nth MT 55 = some (5, 1, 0, k_X5_init) := rfl
set_option maxRecDepth 10000 in
theorem t_X5_has : nth MT 56 = some (5, 2, 4, k_X5_has) := rfl
set_option maxRecDepth 10000 in
theorem t_X5_add : nth MT 57 = some (5, 3, 0, k_X5_add) := rfl
set_option maxRecDepth 10000 in
theorem t_X5_slantIn : nth MT 58 = some (5, 2, 1, k_X5_slantIn) := rfl
set_option maxRecDepth 10000 in
theorem t_X5_seatOf : nth MT 59 = some (5, 3, 1, k_X5_seatOf) := rfl
set_option maxRecDepth 10000 in
theorem t_X5_isPropped : nth MT 60 = some (5, 2, 4, k_X5_isPropped) := rfl
set_option maxRecDepth 10000 in
theorem t_X5_canChange : nth MT 61 = some (5, 3, 4, k_X5_canChange) := rfl
set_option maxRecDepth 10000 in
theorem t_X5_change : nth MT 62 = some (5, 4, 0, k_X5_change) := rfl
set_option maxRecDepth 10000 in
theorem t_X5_turnAbout : nth MT 63 = some (5, 4, 0, k_X5_turnAbout) := rfl
set_option maxRecDepth 10000 in
theorem t_X5_canSetProp : nth MT 64 = some (5, 3, 4, k_X5_canSetProp) := rfl
set_option maxRecDepth 10000 in
theorem t_X5_setProp : nth MT 65 = some (5, 3, 0, k_X5_setProp) := rfl
set_option maxRecDepth 10000 in
theorem t_X5_renewX : nth MT 66 = some (5, 1, 0, k_X5_renewX) := rfl
set_option maxRecDepth 10000 in
theorem t_X5_drawWind : nth MT 67 = some (5, 1, 0, k_X5_drawWind) := rfl
set_option maxRecDepth 10000 in
theorem t_X5_write : nth MT 68 = some (5, 2, 0, k_X5_write) := rfl
set_option maxRecDepth 10000 in
theorem t_X5_bookedYear : nth MT 69 = some (5, 2, 1, k_X5_bookedYear) := rfl
set_option maxRecDepth 10000 in
theorem t_X5_bookedPerson : nth MT 70 = some (5, 2, 1, k_X5_bookedPerson) := rfl
set_option maxRecDepth 10000 in
theorem t_X5_bookedWind : nth MT 71 = some (5, 2, 1, k_X5_bookedWind) := rfl
set_option maxRecDepth 10000 in
theorem t_X5_packedSlants : nth MT 72 = some (5, 3, 1, k_X5_packedSlants) := rfl
set_option maxRecDepth 10000 in
theorem t_X5_howManyLean : nth MT 73 = some (5, 4, 1, k_X5_howManyLean) := rfl
set_option maxRecDepth 10000 in
theorem t_X5_copy : nth MT 74 = some (5, 2, 0, k_X5_copy) := rfl
set_option maxRecDepth 10000 in
theorem t_X5_save : nth MT 75 = some (5, 3, 0, k_X5_save) := rfl
set_option maxRecDepth 10000 in
theorem t_X5_restore : nth MT 76 = some (5, 5, 0, k_X5_restore) := rfl
set_option maxRecDepth 10000 in
theorem t_X6_init : nth MT 77 = some (6, 1, 0, k_X6_init) := rfl
set_option maxRecDepth 10000 in
theorem t_X6_keep : nth MT 78 = some (6, 2, 0, k_X6_keep) := rfl
set_option maxRecDepth 10000 in
theorem t_X6_takeBack : nth MT 79 = some (6, 2, 0, k_X6_takeBack) := rfl
set_option maxRecDepth 10000 in
theorem t_X6_copy : nth MT 80 = some (6, 2, 0, k_X6_copy) := rfl
set_option maxRecDepth 10000 in
theorem t_X6_placeOf : nth MT 81 = some (6, 2, 1, k_X6_placeOf) := rfl
set_option maxRecDepth 10000 in
theorem t_X7_init : nth MT 82 = some (7, 1, 0, k_X7_init) := rfl
set_option maxRecDepth 10000 in
theorem t_X7_clear : nth MT 83 = some (7, 1, 0, k_X7_clear) := rfl
set_option maxRecDepth 10000 in
theorem t_X7_addClause : nth MT 84 = some (7, 4, 0, k_X7_addClause) := rfl
set_option maxRecDepth 10000 in
theorem t_X7_emit : nth MT 85 = some (7, 2, 0, k_X7_emit) := rfl
set_option maxRecDepth 10000 in
theorem t_X7_emitJump : nth MT 86 = some (7, 2, 1, k_X7_emitJump) := rfl
set_option maxRecDepth 10000 in
theorem t_X7_aimHere : nth MT 87 = some (7, 2, 0, k_X7_aimHere) := rfl
set_option maxRecDepth 10000 in
theorem t_X7_codeAt : nth MT 88 = some (7, 2, 1, k_X7_codeAt) := rfl
set_option maxRecDepth 10000 in
theorem t_X8_init : nth MT 89 = some (8, 1, 0, k_X8_init) := rfl
set_option maxRecDepth 10000 in
theorem t_X8_copy : nth MT 90 = some (8, 2, 0, k_X8_copy) := rfl
set_option maxRecDepth 10000 in
theorem t_X9_init : nth MT 91 = some (9, 1, 0, k_X9_init) := rfl
set_option maxRecDepth 10000 in
theorem t_X9_prepare : nth MT 92 = some (9, 4, 0, k_X9_prepare) := rfl
set_option maxRecDepth 10000 in
theorem t_X9_prepareOrder : nth MT 93 = some (9, 7, 0, k_X9_prepareOrder) := rfl
set_option maxRecDepth 10000 in
theorem t_X9_goFarther : nth MT 94 = some (9, 7, 4, k_X9_goFarther) := rfl
set_option maxRecDepth 10000 in
theorem t_X9_behind : nth MT 95 = some (9, 4, 1, k_X9_behind) := rfl
set_option maxRecDepth 10000 in
theorem t_X9_answer : nth MT 96 = some (9, 7, 1, k_X9_answer) := rfl
set_option maxRecDepth 10000 in
theorem t_X9_lowestNearer : nth MT 97 = some (9, 3, 1, k_X9_lowestNearer) := rfl
set_option maxRecDepth 10000 in
theorem t_X10_init : nth MT 98 = some (10, 2, 0, k_X10_init) := rfl
set_option maxRecDepth 10000 in
theorem t_X10_person : nth MT 99 = some (10, 3, 1, k_X10_person) := rfl
set_option maxRecDepth 10000 in
theorem t_X10_rack : nth MT 100 = some (10, 3, 4, k_X10_rack) := rfl
set_option maxRecDepth 10000 in
theorem t_X10_feed : nth MT 101 = some (10, 6, 1, k_X10_feed) := rfl
set_option maxRecDepth 10000 in
theorem t_X10_end : nth MT 102 = some (10, 2, 1, k_X10_end) := rfl
set_option maxRecDepth 10000 in
theorem t_X10_text : nth MT 103 = some (10, 2, 1, k_X10_text) := rfl
set_option maxRecDepth 10000 in
theorem t_X10_fault : nth MT 104 = some (10, 2, 1, k_X10_fault) := rfl
set_option maxRecDepth 10000 in
theorem t_X10_by : nth MT 105 = some (10, 2, 4, k_X10_by) := rfl
set_option maxRecDepth 10000 in
theorem t_X10_swap : nth MT 106 = some (10, 3, 4, k_X10_swap) := rfl
set_option maxRecDepth 10000 in
theorem t_X10_turn : nth MT 107 = some (10, 2, 4, k_X10_turn) := rfl
set_option maxRecDepth 10000 in
theorem t_X10_prop : nth MT 108 = some (10, 3, 4, k_X10_prop) := rfl
set_option maxRecDepth 10000 in
theorem t_X10_year : nth MT 109 = some (10, 2, 1, k_X10_year) := rfl
set_option maxRecDepth 10000 in
theorem t_X10_played : nth MT 110 = some (10, 4, 1, k_X10_played) := rfl
set_option maxRecDepth 10000 in
theorem t_X10_ages : nth MT 111 = some (10, 5, 1, k_X10_ages) := rfl
set_option maxRecDepth 10000 in
theorem t_X10_undo : nth MT 112 = some (10, 1, 1, k_X10_undo) := rfl
set_option maxRecDepth 10000 in
theorem t_X10_of : nth MT 113 = some (10, 3, 1, k_X10_of) := rfl
set_option maxRecDepth 10000 in
theorem t_X10_seat : nth MT 114 = some (10, 3, 1, k_X10_seat) := rfl
set_option maxRecDepth 10000 in
theorem t_X10_hears : nth MT 115 = some (10, 4, 1, k_X10_hears) := rfl
set_option maxRecDepth 10000 in
theorem t_X10_is : nth MT 116 = some (10, 2, 1, k_X10_is) := rfl
set_option maxRecDepth 10000 in
theorem t_X10_book : nth MT 117 = some (10, 3, 1, k_X10_book) := rfl
set_option maxRecDepth 10000 in
theorem t_X10_foretold : nth MT 118 = some (10, 4, 1, k_X10_foretold) := rfl
set_option maxRecDepth 10000 in
theorem t_X10_still : nth MT 119 = some (10, 6, 1, k_X10_still) := rfl
set_option maxRecDepth 10000 in
theorem t_X10_upright : nth MT 120 = some (10, 4, 1, k_X10_upright) := rfl
set_option maxRecDepth 10000 in
theorem t_X10_byTurns : nth MT 121 = some (10, 2, 1, k_X10_byTurns) := rfl
set_option maxRecDepth 10000 in
theorem t_X10_seats : nth MT 122 = some (10, 7, 1, k_X10_seats) := rfl
set_option maxRecDepth 10000 in
theorem t_X10_ragged : nth MT 123 = some (10, 4, 1, k_X10_ragged) := rfl
set_option maxRecDepth 10000 in
theorem t_X10_word : nth MT 124 = some (10, 2, 1, k_X10_word) := rfl
set_option maxRecDepth 10000 in
theorem t_X10_page : nth MT 125 = some (10, 3, 1, k_X10_page) := rfl
set_option maxRecDepth 10000 in
theorem t_X10_line : nth MT 126 = some (10, 3, 1, k_X10_line) := rfl
set_option maxRecDepth 10000 in
theorem t_X10_narrowest : nth MT 127 = some (10, 2, 1, k_X10_narrowest) := rfl
set_option maxRecDepth 10000 in
theorem t_X10_heard : nth MT 128 = some (10, 3, 1, k_X10_heard) := rfl
set_option maxRecDepth 10000 in
theorem t_X10_meant : nth MT 129 = some (10, 3, 1, k_X10_meant) := rfl
set_option maxRecDepth 10000 in
theorem t_X10_listen : nth MT 130 = some (10, 6, 1, k_X10_listen) := rfl
set_option maxRecDepth 10000 in
theorem t_X10_bar : nth MT 131 = some (10, 3, 4, k_X10_bar) := rfl
set_option maxRecDepth 10000 in
theorem t_X10_props : nth MT 132 = some (10, 6, 1, k_X10_props) := rfl
set_option maxRecDepth 10000 in
theorem t_X10_likely : nth MT 133 = some (10, 5, 2, k_X10_likely) := rfl
set_option maxRecDepth 10000 in
theorem t_X10_first : nth MT 134 = some (10, 4, 2, k_X10_first) := rfl
set_option maxRecDepth 10000 in
theorem t_X10_median : nth MT 135 = some (10, 4, 1, k_X10_median) := rfl
set_option maxRecDepth 10000 in
theorem t_X10_spread : nth MT 136 = some (10, 4, 1, k_X10_spread) := rfl
set_option maxRecDepth 10000 in
theorem t_X10_quarrel : nth MT 137 = some (10, 3, 1, k_X10_quarrel) := rfl
set_option maxRecDepth 10000 in
theorem t_X10_said : nth MT 138 = some (10, 3, 1, k_X10_said) := rfl
set_option maxRecDepth 10000 in
theorem t_X10_whose : nth MT 139 = some (10, 3, 1, k_X10_whose) := rfl
set_option maxRecDepth 10000 in
theorem t_X10_straight : nth MT 140 = some (10, 3, 1, k_X10_straight) := rfl
set_option maxRecDepth 10000 in
theorem t_X10_steepest : nth MT 141 = some (10, 5, 1, k_X10_steepest) := rfl
set_option maxRecDepth 10000 in
theorem t_X10_ledger : nth MT 142 = some (10, 4, 1, k_X10_ledger) := rfl
set_option maxRecDepth 10000 in
theorem t_X10_image : nth MT 143 = some (10, 1, 1, k_X10_image) := rfl
set_option maxRecDepth 10000 in
theorem t_X10_back : nth MT 144 = some (10, 1, 1, k_X10_back) := rfl
set_option maxRecDepth 10000 in
theorem t_X10_about : nth MT 145 = some (10, 2, 1, k_X10_about) := rfl
set_option maxRecDepth 10000 in
theorem t_X10_within : nth MT 146 = some (10, 3, 4, k_X10_within) := rfl
set_option maxRecDepth 10000 in
theorem t_X10_isSlant : nth MT 147 = some (10, 1, 4, k_X10_isSlant) := rfl
set_option maxRecDepth 10000 in
theorem t_X10_clamp : nth MT 148 = some (10, 2, 1, k_X10_clamp) := rfl
set_option maxRecDepth 10000 in
theorem t_X10_withBit : nth MT 149 = some (10, 3, 1, k_X10_withBit) := rfl
set_option maxRecDepth 10000 in
theorem t_X10_isText : nth MT 150 = some (10, 2, 4, k_X10_isText) := rfl
set_option maxRecDepth 10000 in
theorem t_X10_ruling : nth MT 151 = some (10, 1, 3, k_X10_ruling) := rfl
set_option maxRecDepth 10000 in
theorem t_X10_passYears : nth MT 152 = some (10, 4, 1, k_X10_passYears) := rfl
set_option maxRecDepth 10000 in
theorem t_X10_perform : nth MT 153 = some (10, 5, 4, k_X10_perform) := rfl
set_option maxRecDepth 10000 in
theorem t_X10_moveInAges : nth MT 154 = some (10, 5, 0, k_X10_moveInAges) := rfl
set_option maxRecDepth 10000 in
theorem t_X10_costOfOrder : nth MT 155 = some (10, 4, 1, k_X10_costOfOrder) := rfl
set_option maxRecDepth 10000 in
theorem t_X10_gatherPairs : nth MT 156 = some (10, 2, 0, k_X10_gatherPairs) := rfl
set_option maxRecDepth 10000 in
theorem t_X10_agrees : nth MT 157 = some (10, 3, 4, k_X10_agrees) := rfl
set_option maxRecDepth 10000 in
theorem t_X10_rankOf : nth MT 158 = some (10, 6, 1, k_X10_rankOf) := rfl
set_option maxRecDepth 10000 in
theorem t_X10_unrank : nth MT 159 = some (10, 9, 0, k_X10_unrank) := rfl
set_option maxRecDepth 10000 in
theorem t_X11_init : nth MT 160 = some (11, 1, 0, k_X11_init) := rfl
set_option maxRecDepth 10000 in
theorem t_X11_copy : nth MT 161 = some (11, 3, 0, k_X11_copy) := rfl
set_option maxRecDepth 10000 in
theorem t_X11_isIn : nth MT 162 = some (11, 3, 4, k_X11_isIn) := rfl
set_option maxRecDepth 10000 in
theorem t_X11_cut : nth MT 163 = some (11, 4, 1, k_X11_cut) := rfl
set_option maxRecDepth 10000 in
theorem t_X11_size : nth MT 164 = some (11, 1, 1, k_X11_size) := rfl
set_option maxRecDepth 10000 in
theorem t_X11_has : nth MT 165 = some (11, 2, 4, k_X11_has) := rfl
set_option maxRecDepth 10000 in
theorem t_X11_bits : nth MT 166 = some (11, 3, 1, k_X11_bits) := rfl
set_option maxRecDepth 10000 in
theorem t_X11_isPerson : nth MT 167 = some (11, 2, 4, k_X11_isPerson) := rfl
set_option maxRecDepth 10000 in
theorem t_X11_isSteep : nth MT 168 = some (11, 1, 4, k_X11_isSteep) := rfl
set_option maxRecDepth 10000 in
theorem t_X11_isSeat : nth MT 169 = some (11, 1, 4, k_X11_isSeat) := rfl
set_option maxRecDepth 10000 in
theorem t_X11_slantIn : nth MT 170 = some (11, 2, 1, k_X11_slantIn) := rfl
set_option maxRecDepth 10000 in
theorem t_X11_seatOf : nth MT 171 = some (11, 3, 1, k_X11_seatOf) := rfl
set_option maxRecDepth 10000 in
theorem t_X11_person : nth MT 172 = some (11, 4, 1, k_X11_person) := rfl
set_option maxRecDepth 10000 in
theorem t_X11_begin : nth MT 173 = some (11, 2, 0, k_X11_begin) := rfl
set_option maxRecDepth 10000 in
theorem t_X11_rack : nth MT 174 = some (11, 3, 4, k_X11_rack) := rfl
set_option maxRecDepth 10000 in
theorem t_X11_bar : nth MT 175 = some (11, 3, 4, k_X11_bar) := rfl
set_option maxRecDepth 10000 in
theorem t_X11_four : nth MT 176 = some (11, 3, 0, k_X11_four) := rfl
set_option maxRecDepth 10000 in
theorem t_X11_feed : nth MT 177 = some (11, 6, 1, k_X11_feed) := rfl
set_option maxRecDepth 10000 in
theorem t_X11_end : nth MT 178 = some (11, 2, 1, k_X11_end) := rfl
set_option maxRecDepth 10000 in
theorem t_X11_byteAt : nth MT 179 = some (11, 2, 1, k_X11_byteAt) := rfl
set_option maxRecDepth 10000 in
theorem t_X11_isLetterByte : nth MT 180 = some (11, 1, 4, k_X11_isLetterByte) := rfl
set_option maxRecDepth 10000 in
theorem t_X11_isFigure : nth MT 181 = some (11, 1, 4, k_X11_isFigure) := rfl
set_option maxRecDepth 10000 in
theorem t_X11_isSign : nth MT 182 = some (11, 1, 4, k_X11_isSign) := rfl
set_option maxRecDepth 10000 in
theorem t_X11_nextToken : nth MT 183 = some (11, 2, 0, k_X11_nextToken) := rfl
set_option maxRecDepth 10000 in
theorem t_X11_w2 : nth MT 184 = some (11, 2, 2, k_X11_w2) := rfl
set_option maxRecDepth 10000 in
theorem t_X11_w3 : nth MT 185 = some (11, 3, 2, k_X11_w3) := rfl
set_option maxRecDepth 10000 in
theorem t_X11_w4 : nth MT 186 = some (11, 4, 2, k_X11_w4) := rfl
set_option maxRecDepth 10000 in
theorem t_X11_w5 : nth MT 187 = some (11, 5, 2, k_X11_w5) := rfl
set_option maxRecDepth 10000 in
theorem t_X11_w6 : nth MT 188 = some (11, 6, 2, k_X11_w6) := rfl
set_option maxRecDepth 10000 in
theorem t_X11_isWord : nth MT 189 = some (11, 3, 4, k_X11_isWord) := rfl
set_option maxRecDepth 10000 in
theorem t_X11_emit : nth MT 190 = some (11, 3, 0, k_X11_emit) := rfl
set_option maxRecDepth 10000 in
theorem t_X11_nameOf : nth MT 191 = some (11, 1, 1, k_X11_nameOf) := rfl
set_option maxRecDepth 10000 in
theorem t_X11_isOf : nth MT 192 = some (11, 2, 4, k_X11_isOf) := rfl
set_option maxRecDepth 10000 in
theorem t_X11_rank : nth MT 193 = some (11, 1, 1, k_X11_rank) := rfl
set_option maxRecDepth 10000 in
theorem t_X11_settle : nth MT 194 = some (11, 2, 0, k_X11_settle) := rfl
set_option maxRecDepth 10000 in
theorem t_X11_openAt : nth MT 195 = some (11, 2, 1, k_X11_openAt) := rfl
set_option maxRecDepth 10000 in
theorem t_X11_openNow : nth MT 196 = some (11, 1, 1, k_X11_openNow) := rfl
set_option maxRecDepth 10000 in
theorem t_X11_isCompared : nth MT 197 = some (11, 2, 4, k_X11_isCompared) := rfl
set_option maxRecDepth 10000 in
theorem t_X11_isAskAhead : nth MT 198 = some (11, 1, 4, k_X11_isAskAhead) := rfl
set_option maxRecDepth 10000 in
theorem t_X11_opened : nth MT 199 = some (11, 2, 1, k_X11_opened) := rfl
set_option maxRecDepth 10000 in
theorem t_X11_beginOne : nth MT 200 = some (11, 2, 1, k_X11_beginOne) := rfl
set_option maxRecDepth 10000 in
theorem t_X11_endOne : nth MT 201 = some (11, 1, 1, k_X11_endOne) := rfl
set_option maxRecDepth 10000 in
theorem t_X11_compareOf : nth MT 202 = some (11, 1, 1, k_X11_compareOf) := rfl
set_option maxRecDepth 10000 in
theorem t_X11_betweenOf : nth MT 203 = some (11, 1, 1, k_X11_betweenOf) := rfl
set_option maxRecDepth 10000 in
theorem t_X11_partOf : nth MT 204 = some (11, 2, 1, k_X11_partOf) := rfl
set_option maxRecDepth 10000 in
theorem t_X11_behindOne : nth MT 205 = some (11, 4, 1, k_X11_behindOne) := rfl
set_option maxRecDepth 10000 in
theorem t_X11_summed : nth MT 206 = some (11, 2, 1, k_X11_summed) := rfl
set_option maxRecDepth 10000 in
theorem t_X11_figure : nth MT 207 = some (11, 4, 1, k_X11_figure) := rfl
set_option maxRecDepth 10000 in
theorem t_X11_lawClause : nth MT 208 = some (11, 3, 1, k_X11_lawClause) := rfl
set_option maxRecDepth 10000 in
theorem t_X11_pair : nth MT 209 = some (11, 8, 1, k_X11_pair) := rfl
set_option maxRecDepth 10000 in
theorem t_X11_body : nth MT 210 = some (11, 3, 1, k_X11_body) := rfl
set_option maxRecDepth 10000 in
theorem t_X11_sortOf : nth MT 211 = some (11, 1, 1, k_X11_sortOf) := rfl
set_option maxRecDepth 10000 in
theorem t_X11_clause : nth MT 212 = some (11, 5, 1, k_X11_clause) := rfl
set_option maxRecDepth 10000 in
theorem t_X11_readText : nth MT 213 = some (11, 2, 1, k_X11_readText) := rfl
set_option maxRecDepth 10000 in
theorem t_X11_text : nth MT 214 = some (11, 1, 1, k_X11_text) := rfl
set_option maxRecDepth 10000 in
theorem t_X11_fault : nth MT 215 = some (11, 2, 1, k_X11_fault) := rfl
set_option maxRecDepth 10000 in
theorem t_X11_by : nth MT 216 = some (11, 2, 4, k_X11_by) := rfl
set_option maxRecDepth 10000 in
theorem t_X11_clip : nth MT 217 = some (11, 2, 2, k_X11_clip) := rfl
set_option maxRecDepth 10000 in
theorem t_X11_two : nth MT 218 = some (11, 5, 2, k_X11_two) := rfl
set_option maxRecDepth 10000 in
theorem t_X11_isAsked : nth MT 219 = some (11, 5, 4, k_X11_isAsked) := rfl
set_option maxRecDepth 10000 in
theorem t_X11_seatSlant : nth MT 220 = some (11, 3, 2, k_X11_seatSlant) := rfl
set_option maxRecDepth 10000 in
theorem t_X11_stepOf : nth MT 221 = some (11, 4, 2, k_X11_stepOf) := rfl
set_option maxRecDepth 10000 in
theorem t_X11_joined : nth MT 222 = some (11, 3, 4, k_X11_joined) := rfl
set_option maxRecDepth 10000 in
theorem t_X11_summedUp : nth MT 223 = some (11, 10, 2, k_X11_summedUp) := rfl
set_option maxRecDepth 10000 in
theorem t_X11_says : nth MT 224 = some (11, 6, 1, k_X11_says) := rfl
set_option maxRecDepth 10000 in
theorem t_X11_name : nth MT 225 = some (11, 2, 0, k_X11_name) := rfl
set_option maxRecDepth 10000 in
theorem t_X11_leansOf : nth MT 226 = some (11, 4, 1, k_X11_leansOf) := rfl
set_option maxRecDepth 10000 in
theorem t_X11_hearsOf : nth MT 227 = some (11, 4, 1, k_X11_hearsOf) := rfl
set_option maxRecDepth 10000 in
theorem t_X11_write : nth MT 228 = some (11, 3, 0, k_X11_write) := rfl
set_option maxRecDepth 10000 in
theorem t_X11_anew : nth MT 229 = some (11, 1, 0, k_X11_anew) := rfl
set_option maxRecDepth 10000 in
theorem t_X11_leanAll : nth MT 230 = some (11, 4, 0, k_X11_leanAll) := rfl
set_option maxRecDepth 10000 in
theorem t_X11_pass : nth MT 231 = some (11, 1, 0, k_X11_pass) := rfl
set_option maxRecDepth 10000 in
theorem t_X11_keep : nth MT 232 = some (11, 3, 0, k_X11_keep) := rfl
set_option maxRecDepth 10000 in
theorem t_X11_undo : nth MT 233 = some (11, 3, 1, k_X11_undo) := rfl
set_option maxRecDepth 10000 in
theorem t_X11_canSwap : nth MT 234 = some (11, 3, 4, k_X11_canSwap) := rfl
set_option maxRecDepth 10000 in
theorem t_X11_swapNow : nth MT 235 = some (11, 4, 0, k_X11_swapNow) := rfl
set_option maxRecDepth 10000 in
theorem t_X11_swap : nth MT 236 = some (11, 3, 4, k_X11_swap) := rfl
set_option maxRecDepth 10000 in
theorem t_X11_turnNow : nth MT 237 = some (11, 3, 0, k_X11_turnNow) := rfl
set_option maxRecDepth 10000 in
theorem t_X11_turn : nth MT 238 = some (11, 2, 4, k_X11_turn) := rfl
set_option maxRecDepth 10000 in
theorem t_X11_canProp : nth MT 239 = some (11, 3, 4, k_X11_canProp) := rfl
set_option maxRecDepth 10000 in
theorem t_X11_prop : nth MT 240 = some (11, 3, 4, k_X11_prop) := rfl
set_option maxRecDepth 10000 in
theorem t_X11_arePassed : nth MT 241 = some (11, 3, 4, k_X11_arePassed) := rfl
set_option maxRecDepth 10000 in
theorem t_X11_year : nth MT 242 = some (11, 2, 1, k_X11_year) := rfl
set_option maxRecDepth 10000 in
theorem t_X11_isPlayed : nth MT 243 = some (11, 4, 4, k_X11_isPlayed) := rfl
set_option maxRecDepth 10000 in
theorem t_X11_played : nth MT 244 = some (11, 3, 1, k_X11_played) := rfl
set_option maxRecDepth 10000 in
theorem t_X11_happens : nth MT 245 = some (11, 3, 0, k_X11_happens) := rfl
set_option maxRecDepth 10000 in
theorem t_X11_ages : nth MT 246 = some (11, 5, 1, k_X11_ages) := rfl
set_option maxRecDepth 10000 in
theorem t_X11_of : nth MT 247 = some (11, 3, 1, k_X11_of) := rfl
set_option maxRecDepth 10000 in
theorem t_X11_seat : nth MT 248 = some (11, 3, 1, k_X11_seat) := rfl
set_option maxRecDepth 10000 in
theorem t_X11_hears : nth MT 249 = some (11, 4, 1, k_X11_hears) := rfl
set_option maxRecDepth 10000 in
theorem t_X11_is : nth MT 250 = some (11, 2, 1, k_X11_is) := rfl
set_option maxRecDepth 10000 in
theorem t_X11_entry : nth MT 251 = some (11, 4, 1, k_X11_entry) := rfl
set_option maxRecDepth 10000 in
theorem t_X11_book : nth MT 252 = some (11, 3, 1, k_X11_book) := rfl
set_option maxRecDepth 10000 in
theorem t_X11_ledger : nth MT 253 = some (11, 4, 1, k_X11_ledger) := rfl
set_option maxRecDepth 10000 in
theorem t_X11_straight : nth MT 254 = some (11, 3, 1, k_X11_straight) := rfl
set_option maxRecDepth 10000 in
theorem t_X11_steepest : nth MT 255 = some (11, 3, 1, k_X11_steepest) := rfl
set_option maxRecDepth 10000 in
theorem t_X11_setAside : nth MT 256 = some (11, 2, 0, k_X11_setAside) := rfl
set_option maxRecDepth 10000 in
theorem t_X11_putBack : nth MT 257 = some (11, 2, 0, k_X11_putBack) := rfl
set_option maxRecDepth 10000 in
theorem t_X11_foretold : nth MT 258 = some (11, 4, 1, k_X11_foretold) := rfl
set_option maxRecDepth 10000 in
theorem t_X11_slantCode : nth MT 259 = some (11, 3, 1, k_X11_slantCode) := rfl
set_option maxRecDepth 10000 in
theorem t_X11_still : nth MT 260 = some (11, 6, 1, k_X11_still) := rfl
set_option maxRecDepth 10000 in
theorem t_X11_upright : nth MT 261 = some (11, 4, 1, k_X11_upright) := rfl
set_option maxRecDepth 10000 in
theorem t_X11_turned : nth MT 262 = some (11, 8, 1, k_X11_turned) := rfl
set_option maxRecDepth 10000 in
theorem t_X11_orderOf : nth MT 263 = some (11, 4, 1, k_X11_orderOf) := rfl
set_option maxRecDepth 10000 in
theorem t_X11_layFars : nth MT 264 = some (11, 5, 0, k_X11_layFars) := rfl
set_option maxRecDepth 10000 in
theorem t_X11_byTurns : nth MT 265 = some (11, 5, 1, k_X11_byTurns) := rfl
set_option maxRecDepth 10000 in
theorem t_X11_exchange : nth MT 266 = some (11, 4, 0, k_X11_exchange) := rfl
set_option maxRecDepth 10000 in
theorem t_X11_isNextRow : nth MT 267 = some (11, 6, 4, k_X11_isNextRow) := rfl
set_option maxRecDepth 10000 in
theorem t_X11_rackedSum : nth MT 268 = some (11, 3, 1, k_X11_rackedSum) := rfl
set_option maxRecDepth 10000 in
theorem t_X11_seats : nth MT 269 = some (11, 8, 1, k_X11_seats) := rfl
set_option maxRecDepth 10000 in
theorem t_X11_ragged : nth MT 270 = some (11, 4, 1, k_X11_ragged) := rfl
set_option maxRecDepth 10000 in
theorem t_X11_word : nth MT 271 = some (11, 2, 1, k_X11_word) := rfl
set_option maxRecDepth 10000 in
theorem t_X11_widthOf : nth MT 272 = some (11, 5, 1, k_X11_widthOf) := rfl
set_option maxRecDepth 10000 in
theorem t_X11_layPage : nth MT 273 = some (11, 7, 0, k_X11_layPage) := rfl
set_option maxRecDepth 10000 in
theorem t_X11_page : nth MT 274 = some (11, 3, 1, k_X11_page) := rfl
set_option maxRecDepth 10000 in
theorem t_X11_line : nth MT 275 = some (11, 5, 1, k_X11_line) := rfl
set_option maxRecDepth 10000 in
theorem t_X11_linesBy : nth MT 276 = some (11, 5, 1, k_X11_linesBy) := rfl
set_option maxRecDepth 10000 in
theorem t_X11_narrowest : nth MT 277 = some (11, 3, 1, k_X11_narrowest) := rfl
set_option maxRecDepth 10000 in
theorem t_X11_heard : nth MT 278 = some (11, 3, 1, k_X11_heard) := rfl
set_option maxRecDepth 10000 in
theorem t_X11_isMeant : nth MT 279 = some (11, 5, 4, k_X11_isMeant) := rfl
set_option maxRecDepth 10000 in
theorem t_X11_meant : nth MT 280 = some (11, 6, 1, k_X11_meant) := rfl
set_option maxRecDepth 10000 in
theorem t_X11_mostLeft : nth MT 281 = some (11, 7, 1, k_X11_mostLeft) := rfl
set_option maxRecDepth 10000 in
theorem t_X11_listen : nth MT 282 = some (11, 6, 1, k_X11_listen) := rfl
set_option maxRecDepth 10000 in
theorem t_X11_areHeld : nth MT 283 = some (11, 3, 4, k_X11_areHeld) := rfl
set_option maxRecDepth 10000 in
theorem t_X11_props : nth MT 284 = some (11, 4, 1, k_X11_props) := rfl
set_option maxRecDepth 10000 in
theorem t_X11_divisor : nth MT 285 = some (11, 10, 2, k_X11_divisor) := rfl
set_option maxRecDepth 10000 in
theorem t_X11_threes : nth MT 286 = some (11, 4, 2, k_X11_threes) := rfl
set_option maxRecDepth 10000 in
theorem t_X11_goOne : nth MT 287 = some (11, 2, 0, k_X11_goOne) := rfl
set_option maxRecDepth 10000 in
theorem t_X11_part : nth MT 288 = some (11, 5, 2, k_X11_part) := rfl
set_option maxRecDepth 10000 in
theorem t_X11_likely : nth MT 289 = some (11, 6, 2, k_X11_likely) := rfl
set_option maxRecDepth 10000 in
theorem t_X11_first : nth MT 290 = some (11, 5, 2, k_X11_first) := rfl
set_option maxRecDepth 10000 in
theorem t_X11_median : nth MT 291 = some (11, 6, 1, k_X11_median) := rfl
set_option maxRecDepth 10000 in
theorem t_X11_spread : nth MT 292 = some (11, 4, 1, k_X11_spread) := rfl
set_option maxRecDepth 10000 in
theorem t_X11_isWon : nth MT 293 = some (11, 4, 4, k_X11_isWon) := rfl
set_option maxRecDepth 10000 in
theorem t_X11_quarrel : nth MT 294 = some (11, 5, 1, k_X11_quarrel) := rfl
set_option maxRecDepth 10000 in
theorem t_X11_said : nth MT 295 = some (11, 3, 1, k_X11_said) := rfl
set_option maxRecDepth 10000 in
theorem t_X11_whose : nth MT 296 = some (11, 5, 1, k_X11_whose) := rfl
set_option maxRecDepth 10000 in
theorem t_X11_image : nth MT 297 = some (11, 1, 1, k_X11_image) := rfl
set_option maxRecDepth 10000 in
theorem t_X11_back : nth MT 298 = some (11, 1, 1, k_X11_back) := rfl
set_option maxRecDepth 10000 in
theorem t_X11_about : nth MT 299 = some (11, 2, 1, k_X11_about) := rfl
set_option maxRecDepth 10000 in
theorem t_L_law : nth MT 300 = some (12, 4, 4, k_L_law) := rfl
end
section
/-- the cells behind the two constructors: tx the text that is being read, tu and gu what is made late, tl their cells -/
def SK (tx tu gu : Option Nat) (tl : List SC) : List SC := cO 10 [some 1, some 7, some 9, some 16, some 22, some 24, some 31, some 37, some 38, some 40, some 43, some 47, some 50, some 51, tu, gu] :: cO 5 [none, none, none, none, none, none, some 2, some 3, some 4, some 5, some 6] :: cN 0 5 :: cN 0 5 :: cN 0 5 :: cN 0 5 :: cN 0 30 :: cO 6 [none, none, some 8] :: cN 0 1380 :: cO 8 [none, none, none, none, none, none, some 10, some 11, some 12, some 13, some 14, some 15] :: cN 0 5 :: cN 0 10 :: cN 0 6 :: cN 0 6 :: cN 0 8 :: cN 0 8 :: cO 5 [none, none, none, none, none, none, some 17, some 18, some 19, some 20, some 21] :: cN 0 5 :: cN 0 5 :: cN 0 5 :: cN 0 5 :: cN 0 30 :: cO 6 [none, none, some 23] :: cN 0 1380 :: cO 8 [none, none, none, none, none, none, some 25, some 26, some 27, some 28, some 29, some 30] :: cN 0 5 :: cN 0 10 :: cN 0 6 :: cN 0 6 :: cN 0 8 :: cN 0 8 :: cO 5 [none, none, none, none, none, none, some 32, some 33, some 34, some 35, some 36] :: cN 0 5 :: cN 0 5 :: cN 0 5 :: cN 0 5 :: cN 0 30 :: cR [some 52, some 57, some 62, some 67] :: cO 4 [none, none, none, none, some 39, tx, none, none, none, none, none] :: cN 0 300 :: cO 1 [some 41, some 42, none] :: cN 0 9 :: cN 0 64 :: cO 3 [some 44, some 45, some 46, none] :: cN 0 11 :: cN 0 11 :: cN 0 11 :: cO 2 [some 48, some 49] :: cN 2 19 :: cN 2 19 :: cN 0 201 :: cN 0 5 :: cO 7 [none, none, none, none, some 53, some 54, some 55, some 56] :: cN 0 24 :: cN 0 24 :: cN 0 24 :: cN 0 300 :: cO 7 [none, none, none, none, some 58, some 59, some 60, some 61] :: cN 0 24 :: cN 0 24 :: cN 0 24 :: cN 0 300 :: cO 7 [none, none, none, none, some 63, some 64, some 65, some 66] :: cN 0 24 :: cN 0 24 :: cN 0 24 :: cN 0 300 :: cO 7 [none, none, none, none, some 68, some 69, some 70, some 71] :: cN 0 24 :: cN 0 24 :: cN 0 24 :: cN 0 300 :: cO 11 [some 73, some 74, some 75, some 76, none, none, none, none, none, none, none, none, none, none, none, some 77, none, none, none, none, some 78, some 79, some 80, none, none, some 81, some 82, some 83, some 84, some 85, some 86, some 87, some 88, some 89, some 90, some 91, some 92, some 93, some 94] :: cN 0 1486 :: cN 0 1486 :: cN 0 2724 :: cN 0 300 :: cN 0 160 :: cN 0 9 :: cN 2 330 :: cN 1 330 :: cN 0 22 :: cN 0 201 :: cN 0 100000 :: cN 0 3840 :: cN 0 5 :: cN 0 5 :: cN 0 5 :: cN 0 11 :: cN 0 11 :: cN 0 11 :: cN 0 1999 :: cN 2 19 :: cN 2 19 :: cN 1 100 :: tl
def m_X0_init (X : XS) (d : Nat) : Nat → Nat → LL → ST → HP → RR := rcm X (cal X d) 2 0 k_X0_init
def m_X0_gather (X : XS) (d : Nat) : Nat → Nat → LL → ST → HP → RR := rcm X (cal X d) 8 0 k_X0_gather
def m_X0_fits (X : XS) (d : Nat) : Nat → Nat → LL → ST → HP → RR := rcm X (cal X d) 8 4 k_X0_fits
def m_X0_hearingOf (X : XS) (d : Nat) : Nat → Nat → LL → ST → HP → RR := rcm X (cal X d) 5 1 k_X0_hearingOf
def m_X0_mostLeft (X : XS) (d : Nat) : Nat → Nat → LL → ST → HP → RR := rcm X (cal X d) 7 1 k_X0_mostLeft
def m_X1_init (X : XS) (d : Nat) : Nat → Nat → LL → ST → HP → RR := rcm X (cal X d) 1 0 k_X1_init
def m_X1_pass (X : XS) (d : Nat) : Nat → Nat → LL → ST → HP → RR := rcm X (cal X d) 9 1 k_X1_pass
def m_X1_leaning (X : XS) (d : Nat) : Nat → Nat → LL → ST → HP → RR := rcm X (cal X d) 5 1 k_X1_leaning
def m_X1_hearing (X : XS) (d : Nat) : Nat → Nat → LL → ST → HP → RR := rcm X (cal X d) 6 1 k_X1_hearing
def m_X1_setNames (X : XS) (d : Nat) : Nat → Nat → LL → ST → HP → RR := rcm X (cal X d) 3 0 k_X1_setNames
def m_X1_reckon (X : XS) (d : Nat) : Nat → Nat → LL → ST → HP → RR := rcm X (cal X d) 9 1 k_X1_reckon
def m_X1_push (X : XS) (d : Nat) : Nat → Nat → LL → ST → HP → RR := rcm X (cal X d) 2 0 k_X1_push
def m_X1_pop (X : XS) (d : Nat) : Nat → Nat → LL → ST → HP → RR := rcm X (cal X d) 1 1 k_X1_pop
def m_X1_joined (X : XS) (d : Nat) : Nat → Nat → LL → ST → HP → RR := rcm X (cal X d) 5 1 k_X1_joined
def m_X1_stepTo (X : XS) (d : Nat) : Nat → Nat → LL → ST → HP → RR := rcm X (cal X d) 2 1 k_X1_stepTo
def m_X2_init (X : XS) (d : Nat) : Nat → Nat → LL → ST → HP → RR := rcm X (cal X d) 1 0 k_X2_init
def m_X2_spreadOut (X : XS) (d : Nat) : Nat → Nat → LL → ST → HP → RR := rcm X (cal X d) 6 0 k_X2_spreadOut
def m_X2_share (X : XS) (d : Nat) : Nat → Nat → LL → ST → HP → RR := rcm X (cal X d) 9 2 k_X2_share
def m_X3_init (X : XS) (d : Nat) : Nat → Nat → LL → ST → HP → RR := rcm X (cal X d) 1 0 k_X3_init
def m_X3_breakLines (X : XS) (d : Nat) : Nat → Nat → LL → ST → HP → RR := rcm X (cal X d) 4 4 k_X3_breakLines
def m_X3_chooseLine (X : XS) (d : Nat) : Nat → Nat → LL → ST → HP → RR := rcm X (cal X d) 8 0 k_X3_chooseLine
def m_X3_beginning (X : XS) (d : Nat) : Nat → Nat → LL → ST → HP → RR := rcm X (cal X d) 4 1 k_X3_beginning
def m_X3_leastWidth (X : XS) (d : Nat) : Nat → Nat → LL → ST → HP → RR := rcm X (cal X d) 6 1 k_X3_leastWidth
def m_X3_fewestLines (X : XS) (d : Nat) : Nat → Nat → LL → ST → HP → RR := rcm X (cal X d) 5 1 k_X3_fewestLines
def m_X4_init (X : XS) (d : Nat) : Nat → Nat → LL → ST → HP → RR := rcm X (cal X d) 1 0 k_X4_init
def m_X4_append (X : XS) (d : Nat) : Nat → Nat → LL → ST → HP → RR := rcm X (cal X d) 2 0 k_X4_append
def m_X4_readInto (X : XS) (d : Nat) : Nat → Nat → LL → ST → HP → RR := rcm X (cal X d) 3 4 k_X4_readInto
def m_X4_fail (X : XS) (d : Nat) : Nat → Nat → LL → ST → HP → RR := rcm X (cal X d) 2 4 k_X4_fail
def m_X4_readClause (X : XS) (d : Nat) : Nat → Nat → LL → ST → HP → RR := rcm X (cal X d) 3 4 k_X4_readClause
def m_X4_clauseKind (X : XS) (d : Nat) : Nat → Nat → LL → ST → HP → RR := rcm X (cal X d) 1 1 k_X4_clauseKind
def m_X4_readLaw (X : XS) (d : Nat) : Nat → Nat → LL → ST → HP → RR := rcm X (cal X d) 2 4 k_X4_readLaw
def m_X4_readDeed (X : XS) (d : Nat) : Nat → Nat → LL → ST → HP → RR := rcm X (cal X d) 5 4 k_X4_readDeed
def m_X4_leastOf (X : XS) (d : Nat) : Nat → Nat → LL → ST → HP → RR := rcm X (cal X d) 1 1 k_X4_leastOf
def m_X4_mostOf (X : XS) (d : Nat) : Nat → Nat → LL → ST → HP → RR := rcm X (cal X d) 1 1 k_X4_mostOf
def m_X4_readSum (X : XS) (d : Nat) : Nat → Nat → LL → ST → HP → RR := rcm X (cal X d) 4 4 k_X4_readSum
def m_X4_readProduct (X : XS) (d : Nat) : Nat → Nat → LL → ST → HP → RR := rcm X (cal X d) 4 4 k_X4_readProduct
def m_X4_readOne (X : XS) (d : Nat) : Nat → Nat → LL → ST → HP → RR := rcm X (cal X d) 2 4 k_X4_readOne
def m_X4_readChoice (X : XS) (d : Nat) : Nat → Nat → LL → ST → HP → RR := rcm X (cal X d) 4 4 k_X4_readChoice
def m_X4_readEither (X : XS) (d : Nat) : Nat → Nat → LL → ST → HP → RR := rcm X (cal X d) 3 4 k_X4_readEither
def m_X4_readBoth (X : XS) (d : Nat) : Nat → Nat → LL → ST → HP → RR := rcm X (cal X d) 3 4 k_X4_readBoth
def m_X4_readAsk (X : XS) (d : Nat) : Nat → Nat → LL → ST → HP → RR := rcm X (cal X d) 3 4 k_X4_readAsk
def m_X4_comparison (X : XS) (d : Nat) : Nat → Nat → LL → ST → HP → RR := rcm X (cal X d) 1 1 k_X4_comparison
def m_X4_readName (X : XS) (d : Nat) : Nat → Nat → LL → ST → HP → RR := rcm X (cal X d) 4 4 k_X4_readName
def m_X4_nameOfToken (X : XS) (d : Nat) : Nat → Nat → LL → ST → HP → RR := rcm X (cal X d) 1 1 k_X4_nameOfToken
def m_X4_put (X : XS) (d : Nat) : Nat → Nat → LL → ST → HP → RR := rcm X (cal X d) 2 4 k_X4_put
def m_X4_takeOpening (X : XS) (d : Nat) : Nat → Nat → LL → ST → HP → RR := rcm X (cal X d) 2 4 k_X4_takeOpening
def m_X4_takeNumber (X : XS) (d : Nat) : Nat → Nat → LL → ST → HP → RR := rcm X (cal X d) 3 4 k_X4_takeNumber
def m_X4_takeWord (X : XS) (d : Nat) : Nat → Nat → LL → ST → HP → RR := rcm X (cal X d) 2 4 k_X4_takeWord
def m_X4_takeSign (X : XS) (d : Nat) : Nat → Nat → LL → ST → HP → RR := rcm X (cal X d) 2 4 k_X4_takeSign
def m_X4_isWord (X : XS) (d : Nat) : Nat → Nat → LL → ST → HP → RR := rcm X (cal X d) 3 4 k_X4_isWord
def m_X4_advance (X : XS) (d : Nat) : Nat → Nat → LL → ST → HP → RR := rcm X (cal X d) 1 0 k_X4_advance
def m_X4_scanNumber (X : XS) (d : Nat) : Nat → Nat → LL → ST → HP → RR := rcm X (cal X d) 1 0 k_X4_scanNumber
def m_X4_scanSign (X : XS) (d : Nat) : Nat → Nat → LL → ST → HP → RR := rcm X (cal X d) 2 0 k_X4_scanSign
def m_X4_isLetter (X : XS) (d : Nat) : Nat → Nat → LL → ST → HP → RR := rcm X (cal X d) 1 4 k_X4_isLetter
def m_X4_isDigit (X : XS) (d : Nat) : Nat → Nat → LL → ST → HP → RR := rcm X (cal X d) 1 4 k_X4_isDigit
def m_X5_init (X : XS) (d : Nat) : Nat → Nat → LL → ST → HP → RR := rcm X (cal X d) 1 0 k_X5_init
def m_X5_has (X : XS) (d : Nat) : Nat → Nat → LL → ST → HP → RR := rcm X (cal X d) 2 4 k_X5_has
def m_X5_add (X : XS) (d : Nat) : Nat → Nat → LL → ST → HP → RR := rcm X (cal X d) 3 0 k_X5_add
def m_X5_slantIn (X : XS) (d : Nat) : Nat → Nat → LL → ST → HP → RR := rcm X (cal X d) 2 1 k_X5_slantIn
def m_X5_seatOf (X : XS) (d : Nat) : Nat → Nat → LL → ST → HP → RR := rcm X (cal X d) 3 1 k_X5_seatOf
def m_X5_isPropped (X : XS) (d : Nat) : Nat → Nat → LL → ST → HP → RR := rcm X (cal X d) 2 4 k_X5_isPropped
def m_X5_canChange (X : XS) (d : Nat) : Nat → Nat → LL → ST → HP → RR := rcm X (cal X d) 3 4 k_X5_canChange
def m_X5_change (X : XS) (d : Nat) : Nat → Nat → LL → ST → HP → RR := rcm X (cal X d) 4 0 k_X5_change
def m_X5_turnAbout (X : XS) (d : Nat) : Nat → Nat → LL → ST → HP → RR := rcm X (cal X d) 4 0 k_X5_turnAbout
def m_X5_canSetProp (X : XS) (d : Nat) : Nat → Nat → LL → ST → HP → RR := rcm X (cal X d) 3 4 k_X5_canSetProp
def m_X5_setProp (X : XS) (d : Nat) : Nat → Nat → LL → ST → HP → RR := rcm X (cal X d) 3 0 k_X5_setProp
def m_X5_renewX (X : XS) (d : Nat) : Nat → Nat → LL → ST → HP → RR := rcm X (cal X d) 1 0 k_X5_renewX
def m_X5_drawWind (X : XS) (d : Nat) : Nat → Nat → LL → ST → HP → RR := rcm X (cal X d) 1 0 k_X5_drawWind
def m_X5_write (X : XS) (d : Nat) : Nat → Nat → LL → ST → HP → RR := rcm X (cal X d) 2 0 k_X5_write
def m_X5_bookedYear (X : XS) (d : Nat) : Nat → Nat → LL → ST → HP → RR := rcm X (cal X d) 2 1 k_X5_bookedYear
def m_X5_bookedPerson (X : XS) (d : Nat) : Nat → Nat → LL → ST → HP → RR := rcm X (cal X d) 2 1 k_X5_bookedPerson
def m_X5_bookedWind (X : XS) (d : Nat) : Nat → Nat → LL → ST → HP → RR := rcm X (cal X d) 2 1 k_X5_bookedWind
def m_X5_packedSlants (X : XS) (d : Nat) : Nat → Nat → LL → ST → HP → RR := rcm X (cal X d) 3 1 k_X5_packedSlants
def m_X5_howManyLean (X : XS) (d : Nat) : Nat → Nat → LL → ST → HP → RR := rcm X (cal X d) 4 1 k_X5_howManyLean
def m_X5_copy (X : XS) (d : Nat) : Nat → Nat → LL → ST → HP → RR := rcm X (cal X d) 2 0 k_X5_copy
def m_X5_save (X : XS) (d : Nat) : Nat → Nat → LL → ST → HP → RR := rcm X (cal X d) 3 0 k_X5_save
def m_X5_restore (X : XS) (d : Nat) : Nat → Nat → LL → ST → HP → RR := rcm X (cal X d) 5 0 k_X5_restore
def m_X6_init (X : XS) (d : Nat) : Nat → Nat → LL → ST → HP → RR := rcm X (cal X d) 1 0 k_X6_init
def m_X6_keep (X : XS) (d : Nat) : Nat → Nat → LL → ST → HP → RR := rcm X (cal X d) 2 0 k_X6_keep
def m_X6_takeBack (X : XS) (d : Nat) : Nat → Nat → LL → ST → HP → RR := rcm X (cal X d) 2 0 k_X6_takeBack
def m_X6_copy (X : XS) (d : Nat) : Nat → Nat → LL → ST → HP → RR := rcm X (cal X d) 2 0 k_X6_copy
def m_X6_placeOf (X : XS) (d : Nat) : Nat → Nat → LL → ST → HP → RR := rcm X (cal X d) 2 1 k_X6_placeOf
def m_X7_init (X : XS) (d : Nat) : Nat → Nat → LL → ST → HP → RR := rcm X (cal X d) 1 0 k_X7_init
def m_X7_clear (X : XS) (d : Nat) : Nat → Nat → LL → ST → HP → RR := rcm X (cal X d) 1 0 k_X7_clear
def m_X7_addClause (X : XS) (d : Nat) : Nat → Nat → LL → ST → HP → RR := rcm X (cal X d) 4 0 k_X7_addClause
def m_X7_emit (X : XS) (d : Nat) : Nat → Nat → LL → ST → HP → RR := rcm X (cal X d) 2 0 k_X7_emit
def m_X7_emitJump (X : XS) (d : Nat) : Nat → Nat → LL → ST → HP → RR := rcm X (cal X d) 2 1 k_X7_emitJump
def m_X7_aimHere (X : XS) (d : Nat) : Nat → Nat → LL → ST → HP → RR := rcm X (cal X d) 2 0 k_X7_aimHere
def m_X7_codeAt (X : XS) (d : Nat) : Nat → Nat → LL → ST → HP → RR := rcm X (cal X d) 2 1 k_X7_codeAt
def m_X8_init (X : XS) (d : Nat) : Nat → Nat → LL → ST → HP → RR := rcm X (cal X d) 1 0 k_X8_init
def m_X8_copy (X : XS) (d : Nat) : Nat → Nat → LL → ST → HP → RR := rcm X (cal X d) 2 0 k_X8_copy
def m_X9_init (X : XS) (d : Nat) : Nat → Nat → LL → ST → HP → RR := rcm X (cal X d) 1 0 k_X9_init
def m_X9_prepare (X : XS) (d : Nat) : Nat → Nat → LL → ST → HP → RR := rcm X (cal X d) 4 0 k_X9_prepare
def m_X9_prepareOrder (X : XS) (d : Nat) : Nat → Nat → LL → ST → HP → RR := rcm X (cal X d) 7 0 k_X9_prepareOrder
def m_X9_goFarther (X : XS) (d : Nat) : Nat → Nat → LL → ST → HP → RR := rcm X (cal X d) 7 4 k_X9_goFarther
def m_X9_behind (X : XS) (d : Nat) : Nat → Nat → LL → ST → HP → RR := rcm X (cal X d) 4 1 k_X9_behind
def m_X9_answer (X : XS) (d : Nat) : Nat → Nat → LL → ST → HP → RR := rcm X (cal X d) 7 1 k_X9_answer
def m_X9_lowestNearer (X : XS) (d : Nat) : Nat → Nat → LL → ST → HP → RR := rcm X (cal X d) 3 1 k_X9_lowestNearer
def m_X10_init (X : XS) (d : Nat) : Nat → Nat → LL → ST → HP → RR := rcm X (cal X d) 2 0 k_X10_init
def m_X10_person (X : XS) (d : Nat) : Nat → Nat → LL → ST → HP → RR := rcm X (cal X d) 3 1 k_X10_person
def m_X10_rack (X : XS) (d : Nat) : Nat → Nat → LL → ST → HP → RR := rcm X (cal X d) 3 4 k_X10_rack
def m_X10_feed (X : XS) (d : Nat) : Nat → Nat → LL → ST → HP → RR := rcm X (cal X d) 6 1 k_X10_feed
def m_X10_end (X : XS) (d : Nat) : Nat → Nat → LL → ST → HP → RR := rcm X (cal X d) 2 1 k_X10_end
def m_X10_text (X : XS) (d : Nat) : Nat → Nat → LL → ST → HP → RR := rcm X (cal X d) 2 1 k_X10_text
def m_X10_fault (X : XS) (d : Nat) : Nat → Nat → LL → ST → HP → RR := rcm X (cal X d) 2 1 k_X10_fault
def m_X10_by (X : XS) (d : Nat) : Nat → Nat → LL → ST → HP → RR := rcm X (cal X d) 2 4 k_X10_by
def m_X10_swap (X : XS) (d : Nat) : Nat → Nat → LL → ST → HP → RR := rcm X (cal X d) 3 4 k_X10_swap
def m_X10_turn (X : XS) (d : Nat) : Nat → Nat → LL → ST → HP → RR := rcm X (cal X d) 2 4 k_X10_turn
def m_X10_prop (X : XS) (d : Nat) : Nat → Nat → LL → ST → HP → RR := rcm X (cal X d) 3 4 k_X10_prop
def m_X10_year (X : XS) (d : Nat) : Nat → Nat → LL → ST → HP → RR := rcm X (cal X d) 2 1 k_X10_year
def m_X10_played (X : XS) (d : Nat) : Nat → Nat → LL → ST → HP → RR := rcm X (cal X d) 4 1 k_X10_played
def m_X10_ages (X : XS) (d : Nat) : Nat → Nat → LL → ST → HP → RR := rcm X (cal X d) 5 1 k_X10_ages
def m_X10_undo (X : XS) (d : Nat) : Nat → Nat → LL → ST → HP → RR := rcm X (cal X d) 1 1 k_X10_undo
def m_X10_of (X : XS) (d : Nat) : Nat → Nat → LL → ST → HP → RR := rcm X (cal X d) 3 1 k_X10_of
def m_X10_seat (X : XS) (d : Nat) : Nat → Nat → LL → ST → HP → RR := rcm X (cal X d) 3 1 k_X10_seat
def m_X10_hears (X : XS) (d : Nat) : Nat → Nat → LL → ST → HP → RR := rcm X (cal X d) 4 1 k_X10_hears
def m_X10_is (X : XS) (d : Nat) : Nat → Nat → LL → ST → HP → RR := rcm X (cal X d) 2 1 k_X10_is
def m_X10_book (X : XS) (d : Nat) : Nat → Nat → LL → ST → HP → RR := rcm X (cal X d) 3 1 k_X10_book
def m_X10_foretold (X : XS) (d : Nat) : Nat → Nat → LL → ST → HP → RR := rcm X (cal X d) 4 1 k_X10_foretold
def m_X10_still (X : XS) (d : Nat) : Nat → Nat → LL → ST → HP → RR := rcm X (cal X d) 6 1 k_X10_still
def m_X10_upright (X : XS) (d : Nat) : Nat → Nat → LL → ST → HP → RR := rcm X (cal X d) 4 1 k_X10_upright
def m_X10_byTurns (X : XS) (d : Nat) : Nat → Nat → LL → ST → HP → RR := rcm X (cal X d) 2 1 k_X10_byTurns
def m_X10_seats (X : XS) (d : Nat) : Nat → Nat → LL → ST → HP → RR := rcm X (cal X d) 7 1 k_X10_seats
def m_X10_ragged (X : XS) (d : Nat) : Nat → Nat → LL → ST → HP → RR := rcm X (cal X d) 4 1 k_X10_ragged
def m_X10_word (X : XS) (d : Nat) : Nat → Nat → LL → ST → HP → RR := rcm X (cal X d) 2 1 k_X10_word
def m_X10_page (X : XS) (d : Nat) : Nat → Nat → LL → ST → HP → RR := rcm X (cal X d) 3 1 k_X10_page
def m_X10_line (X : XS) (d : Nat) : Nat → Nat → LL → ST → HP → RR := rcm X (cal X d) 3 1 k_X10_line
def m_X10_narrowest (X : XS) (d : Nat) : Nat → Nat → LL → ST → HP → RR := rcm X (cal X d) 2 1 k_X10_narrowest
def m_X10_heard (X : XS) (d : Nat) : Nat → Nat → LL → ST → HP → RR := rcm X (cal X d) 3 1 k_X10_heard
def m_X10_meant (X : XS) (d : Nat) : Nat → Nat → LL → ST → HP → RR := rcm X (cal X d) 3 1 k_X10_meant
def m_X10_listen (X : XS) (d : Nat) : Nat → Nat → LL → ST → HP → RR := rcm X (cal X d) 6 1 k_X10_listen
def m_X10_bar (X : XS) (d : Nat) : Nat → Nat → LL → ST → HP → RR := rcm X (cal X d) 3 4 k_X10_bar
def m_X10_props (X : XS) (d : Nat) : Nat → Nat → LL → ST → HP → RR := rcm X (cal X d) 6 1 k_X10_props
def m_X10_likely (X : XS) (d : Nat) : Nat → Nat → LL → ST → HP → RR := rcm X (cal X d) 5 2 k_X10_likely
def m_X10_first (X : XS) (d : Nat) : Nat → Nat → LL → ST → HP → RR := rcm X (cal X d) 4 2 k_X10_first
def m_X10_median (X : XS) (d : Nat) : Nat → Nat → LL → ST → HP → RR := rcm X (cal X d) 4 1 k_X10_median
def m_X10_spread (X : XS) (d : Nat) : Nat → Nat → LL → ST → HP → RR := rcm X (cal X d) 4 1 k_X10_spread
def m_X10_quarrel (X : XS) (d : Nat) : Nat → Nat → LL → ST → HP → RR := rcm X (cal X d) 3 1 k_X10_quarrel
def m_X10_said (X : XS) (d : Nat) : Nat → Nat → LL → ST → HP → RR := rcm X (cal X d) 3 1 k_X10_said
def m_X10_whose (X : XS) (d : Nat) : Nat → Nat → LL → ST → HP → RR := rcm X (cal X d) 3 1 k_X10_whose
def m_X10_straight (X : XS) (d : Nat) : Nat → Nat → LL → ST → HP → RR := rcm X (cal X d) 3 1 k_X10_straight
def m_X10_steepest (X : XS) (d : Nat) : Nat → Nat → LL → ST → HP → RR := rcm X (cal X d) 5 1 k_X10_steepest
def m_X10_ledger (X : XS) (d : Nat) : Nat → Nat → LL → ST → HP → RR := rcm X (cal X d) 4 1 k_X10_ledger
def m_X10_image (X : XS) (d : Nat) : Nat → Nat → LL → ST → HP → RR := rcm X (cal X d) 1 1 k_X10_image
def m_X10_back (X : XS) (d : Nat) : Nat → Nat → LL → ST → HP → RR := rcm X (cal X d) 1 1 k_X10_back
def m_X10_about (X : XS) (d : Nat) : Nat → Nat → LL → ST → HP → RR := rcm X (cal X d) 2 1 k_X10_about
def m_X10_within (X : XS) (d : Nat) : Nat → Nat → LL → ST → HP → RR := rcm X (cal X d) 3 4 k_X10_within
def m_X10_isSlant (X : XS) (d : Nat) : Nat → Nat → LL → ST → HP → RR := rcm X (cal X d) 1 4 k_X10_isSlant
def m_X10_clamp (X : XS) (d : Nat) : Nat → Nat → LL → ST → HP → RR := rcm X (cal X d) 2 1 k_X10_clamp
def m_X10_withBit (X : XS) (d : Nat) : Nat → Nat → LL → ST → HP → RR := rcm X (cal X d) 3 1 k_X10_withBit
def m_X10_isText (X : XS) (d : Nat) : Nat → Nat → LL → ST → HP → RR := rcm X (cal X d) 2 4 k_X10_isText
def m_X10_ruling (X : XS) (d : Nat) : Nat → Nat → LL → ST → HP → RR := rcm X (cal X d) 1 3 k_X10_ruling
def m_X10_passYears (X : XS) (d : Nat) : Nat → Nat → LL → ST → HP → RR := rcm X (cal X d) 4 1 k_X10_passYears
def m_X10_perform (X : XS) (d : Nat) : Nat → Nat → LL → ST → HP → RR := rcm X (cal X d) 5 4 k_X10_perform
def m_X10_moveInAges (X : XS) (d : Nat) : Nat → Nat → LL → ST → HP → RR := rcm X (cal X d) 5 0 k_X10_moveInAges
def m_X10_costOfOrder (X : XS) (d : Nat) : Nat → Nat → LL → ST → HP → RR := rcm X (cal X d) 4 1 k_X10_costOfOrder
def m_X10_gatherPairs (X : XS) (d : Nat) : Nat → Nat → LL → ST → HP → RR := rcm X (cal X d) 2 0 k_X10_gatherPairs
def m_X10_agrees (X : XS) (d : Nat) : Nat → Nat → LL → ST → HP → RR := rcm X (cal X d) 3 4 k_X10_agrees
def m_X10_rankOf (X : XS) (d : Nat) : Nat → Nat → LL → ST → HP → RR := rcm X (cal X d) 6 1 k_X10_rankOf
def m_X10_unrank (X : XS) (d : Nat) : Nat → Nat → LL → ST → HP → RR := rcm X (cal X d) 9 0 k_X10_unrank
def m_X11_init (X : XS) (d : Nat) : Nat → Nat → LL → ST → HP → RR := rcm X (cal X d) 1 0 k_X11_init
def m_X11_copy (X : XS) (d : Nat) : Nat → Nat → LL → ST → HP → RR := rcm X (cal X d) 3 0 k_X11_copy
def m_X11_isIn (X : XS) (d : Nat) : Nat → Nat → LL → ST → HP → RR := rcm X (cal X d) 3 4 k_X11_isIn
def m_X11_cut (X : XS) (d : Nat) : Nat → Nat → LL → ST → HP → RR := rcm X (cal X d) 4 1 k_X11_cut
def m_X11_size (X : XS) (d : Nat) : Nat → Nat → LL → ST → HP → RR := rcm X (cal X d) 1 1 k_X11_size
def m_X11_has (X : XS) (d : Nat) : Nat → Nat → LL → ST → HP → RR := rcm X (cal X d) 2 4 k_X11_has
def m_X11_bits (X : XS) (d : Nat) : Nat → Nat → LL → ST → HP → RR := rcm X (cal X d) 3 1 k_X11_bits
def m_X11_isPerson (X : XS) (d : Nat) : Nat → Nat → LL → ST → HP → RR := rcm X (cal X d) 2 4 k_X11_isPerson
def m_X11_isSteep (X : XS) (d : Nat) : Nat → Nat → LL → ST → HP → RR := rcm X (cal X d) 1 4 k_X11_isSteep
def m_X11_isSeat (X : XS) (d : Nat) : Nat → Nat → LL → ST → HP → RR := rcm X (cal X d) 1 4 k_X11_isSeat
def m_X11_slantIn (X : XS) (d : Nat) : Nat → Nat → LL → ST → HP → RR := rcm X (cal X d) 2 1 k_X11_slantIn
def m_X11_seatOf (X : XS) (d : Nat) : Nat → Nat → LL → ST → HP → RR := rcm X (cal X d) 3 1 k_X11_seatOf
def m_X11_person (X : XS) (d : Nat) : Nat → Nat → LL → ST → HP → RR := rcm X (cal X d) 4 1 k_X11_person
def m_X11_begin (X : XS) (d : Nat) : Nat → Nat → LL → ST → HP → RR := rcm X (cal X d) 2 0 k_X11_begin
def m_X11_rack (X : XS) (d : Nat) : Nat → Nat → LL → ST → HP → RR := rcm X (cal X d) 3 4 k_X11_rack
def m_X11_bar (X : XS) (d : Nat) : Nat → Nat → LL → ST → HP → RR := rcm X (cal X d) 3 4 k_X11_bar
def m_X11_four (X : XS) (d : Nat) : Nat → Nat → LL → ST → HP → RR := rcm X (cal X d) 3 0 k_X11_four
def m_X11_feed (X : XS) (d : Nat) : Nat → Nat → LL → ST → HP → RR := rcm X (cal X d) 6 1 k_X11_feed
def m_X11_end (X : XS) (d : Nat) : Nat → Nat → LL → ST → HP → RR := rcm X (cal X d) 2 1 k_X11_end
def m_X11_byteAt (X : XS) (d : Nat) : Nat → Nat → LL → ST → HP → RR := rcm X (cal X d) 2 1 k_X11_byteAt
def m_X11_isLetterByte (X : XS) (d : Nat) : Nat → Nat → LL → ST → HP → RR := rcm X (cal X d) 1 4 k_X11_isLetterByte
def m_X11_isFigure (X : XS) (d : Nat) : Nat → Nat → LL → ST → HP → RR := rcm X (cal X d) 1 4 k_X11_isFigure
def m_X11_isSign (X : XS) (d : Nat) : Nat → Nat → LL → ST → HP → RR := rcm X (cal X d) 1 4 k_X11_isSign
def m_X11_nextToken (X : XS) (d : Nat) : Nat → Nat → LL → ST → HP → RR := rcm X (cal X d) 2 0 k_X11_nextToken
def m_X11_w2 (X : XS) (d : Nat) : Nat → Nat → LL → ST → HP → RR := rcm X (cal X d) 2 2 k_X11_w2
def m_X11_w3 (X : XS) (d : Nat) : Nat → Nat → LL → ST → HP → RR := rcm X (cal X d) 3 2 k_X11_w3
def m_X11_w4 (X : XS) (d : Nat) : Nat → Nat → LL → ST → HP → RR := rcm X (cal X d) 4 2 k_X11_w4
def m_X11_w5 (X : XS) (d : Nat) : Nat → Nat → LL → ST → HP → RR := rcm X (cal X d) 5 2 k_X11_w5
def m_X11_w6 (X : XS) (d : Nat) : Nat → Nat → LL → ST → HP → RR := rcm X (cal X d) 6 2 k_X11_w6
def m_X11_isWord (X : XS) (d : Nat) : Nat → Nat → LL → ST → HP → RR := rcm X (cal X d) 3 4 k_X11_isWord
def m_X11_emit (X : XS) (d : Nat) : Nat → Nat → LL → ST → HP → RR := rcm X (cal X d) 3 0 k_X11_emit
def m_X11_nameOf (X : XS) (d : Nat) : Nat → Nat → LL → ST → HP → RR := rcm X (cal X d) 1 1 k_X11_nameOf
def m_X11_isOf (X : XS) (d : Nat) : Nat → Nat → LL → ST → HP → RR := rcm X (cal X d) 2 4 k_X11_isOf
def m_X11_rank (X : XS) (d : Nat) : Nat → Nat → LL → ST → HP → RR := rcm X (cal X d) 1 1 k_X11_rank
def m_X11_settle (X : XS) (d : Nat) : Nat → Nat → LL → ST → HP → RR := rcm X (cal X d) 2 0 k_X11_settle
def m_X11_openAt (X : XS) (d : Nat) : Nat → Nat → LL → ST → HP → RR := rcm X (cal X d) 2 1 k_X11_openAt
def m_X11_openNow (X : XS) (d : Nat) : Nat → Nat → LL → ST → HP → RR := rcm X (cal X d) 1 1 k_X11_openNow
def m_X11_isCompared (X : XS) (d : Nat) : Nat → Nat → LL → ST → HP → RR := rcm X (cal X d) 2 4 k_X11_isCompared
def m_X11_isAskAhead (X : XS) (d : Nat) : Nat → Nat → LL → ST → HP → RR := rcm X (cal X d) 1 4 k_X11_isAskAhead
def m_X11_opened (X : XS) (d : Nat) : Nat → Nat → LL → ST → HP → RR := rcm X (cal X d) 2 1 k_X11_opened
def m_X11_beginOne (X : XS) (d : Nat) : Nat → Nat → LL → ST → HP → RR := rcm X (cal X d) 2 1 k_X11_beginOne
def m_X11_endOne (X : XS) (d : Nat) : Nat → Nat → LL → ST → HP → RR := rcm X (cal X d) 1 1 k_X11_endOne
def m_X11_compareOf (X : XS) (d : Nat) : Nat → Nat → LL → ST → HP → RR := rcm X (cal X d) 1 1 k_X11_compareOf
def m_X11_betweenOf (X : XS) (d : Nat) : Nat → Nat → LL → ST → HP → RR := rcm X (cal X d) 1 1 k_X11_betweenOf
def m_X11_partOf (X : XS) (d : Nat) : Nat → Nat → LL → ST → HP → RR := rcm X (cal X d) 2 1 k_X11_partOf
def m_X11_behindOne (X : XS) (d : Nat) : Nat → Nat → LL → ST → HP → RR := rcm X (cal X d) 4 1 k_X11_behindOne
def m_X11_summed (X : XS) (d : Nat) : Nat → Nat → LL → ST → HP → RR := rcm X (cal X d) 2 1 k_X11_summed
def m_X11_figure (X : XS) (d : Nat) : Nat → Nat → LL → ST → HP → RR := rcm X (cal X d) 4 1 k_X11_figure
def m_X11_lawClause (X : XS) (d : Nat) : Nat → Nat → LL → ST → HP → RR := rcm X (cal X d) 3 1 k_X11_lawClause
def m_X11_pair (X : XS) (d : Nat) : Nat → Nat → LL → ST → HP → RR := rcm X (cal X d) 8 1 k_X11_pair
def m_X11_body (X : XS) (d : Nat) : Nat → Nat → LL → ST → HP → RR := rcm X (cal X d) 3 1 k_X11_body
def m_X11_sortOf (X : XS) (d : Nat) : Nat → Nat → LL → ST → HP → RR := rcm X (cal X d) 1 1 k_X11_sortOf
def m_X11_clause (X : XS) (d : Nat) : Nat → Nat → LL → ST → HP → RR := rcm X (cal X d) 5 1 k_X11_clause
def m_X11_readText (X : XS) (d : Nat) : Nat → Nat → LL → ST → HP → RR := rcm X (cal X d) 2 1 k_X11_readText
def m_X11_text (X : XS) (d : Nat) : Nat → Nat → LL → ST → HP → RR := rcm X (cal X d) 1 1 k_X11_text
def m_X11_fault (X : XS) (d : Nat) : Nat → Nat → LL → ST → HP → RR := rcm X (cal X d) 2 1 k_X11_fault
def m_X11_by (X : XS) (d : Nat) : Nat → Nat → LL → ST → HP → RR := rcm X (cal X d) 2 4 k_X11_by
def m_X11_clip (X : XS) (d : Nat) : Nat → Nat → LL → ST → HP → RR := rcm X (cal X d) 2 2 k_X11_clip
def m_X11_two (X : XS) (d : Nat) : Nat → Nat → LL → ST → HP → RR := rcm X (cal X d) 5 2 k_X11_two
def m_X11_isAsked (X : XS) (d : Nat) : Nat → Nat → LL → ST → HP → RR := rcm X (cal X d) 5 4 k_X11_isAsked
def m_X11_seatSlant (X : XS) (d : Nat) : Nat → Nat → LL → ST → HP → RR := rcm X (cal X d) 3 2 k_X11_seatSlant
def m_X11_stepOf (X : XS) (d : Nat) : Nat → Nat → LL → ST → HP → RR := rcm X (cal X d) 4 2 k_X11_stepOf
def m_X11_joined (X : XS) (d : Nat) : Nat → Nat → LL → ST → HP → RR := rcm X (cal X d) 3 4 k_X11_joined
def m_X11_summedUp (X : XS) (d : Nat) : Nat → Nat → LL → ST → HP → RR := rcm X (cal X d) 10 2 k_X11_summedUp
def m_X11_says (X : XS) (d : Nat) : Nat → Nat → LL → ST → HP → RR := rcm X (cal X d) 6 1 k_X11_says
def m_X11_name (X : XS) (d : Nat) : Nat → Nat → LL → ST → HP → RR := rcm X (cal X d) 2 0 k_X11_name
def m_X11_leansOf (X : XS) (d : Nat) : Nat → Nat → LL → ST → HP → RR := rcm X (cal X d) 4 1 k_X11_leansOf
def m_X11_hearsOf (X : XS) (d : Nat) : Nat → Nat → LL → ST → HP → RR := rcm X (cal X d) 4 1 k_X11_hearsOf
def m_X11_write (X : XS) (d : Nat) : Nat → Nat → LL → ST → HP → RR := rcm X (cal X d) 3 0 k_X11_write
def m_X11_anew (X : XS) (d : Nat) : Nat → Nat → LL → ST → HP → RR := rcm X (cal X d) 1 0 k_X11_anew
def m_X11_leanAll (X : XS) (d : Nat) : Nat → Nat → LL → ST → HP → RR := rcm X (cal X d) 4 0 k_X11_leanAll
def m_X11_pass (X : XS) (d : Nat) : Nat → Nat → LL → ST → HP → RR := rcm X (cal X d) 1 0 k_X11_pass
def m_X11_keep (X : XS) (d : Nat) : Nat → Nat → LL → ST → HP → RR := rcm X (cal X d) 3 0 k_X11_keep
def m_X11_undo (X : XS) (d : Nat) : Nat → Nat → LL → ST → HP → RR := rcm X (cal X d) 3 1 k_X11_undo
def m_X11_canSwap (X : XS) (d : Nat) : Nat → Nat → LL → ST → HP → RR := rcm X (cal X d) 3 4 k_X11_canSwap
def m_X11_swapNow (X : XS) (d : Nat) : Nat → Nat → LL → ST → HP → RR := rcm X (cal X d) 4 0 k_X11_swapNow
def m_X11_swap (X : XS) (d : Nat) : Nat → Nat → LL → ST → HP → RR := rcm X (cal X d) 3 4 k_X11_swap
def m_X11_turnNow (X : XS) (d : Nat) : Nat → Nat → LL → ST → HP → RR := rcm X (cal X d) 3 0 k_X11_turnNow
def m_X11_turn (X : XS) (d : Nat) : Nat → Nat → LL → ST → HP → RR := rcm X (cal X d) 2 4 k_X11_turn
def m_X11_canProp (X : XS) (d : Nat) : Nat → Nat → LL → ST → HP → RR := rcm X (cal X d) 3 4 k_X11_canProp
def m_X11_prop (X : XS) (d : Nat) : Nat → Nat → LL → ST → HP → RR := rcm X (cal X d) 3 4 k_X11_prop
def m_X11_arePassed (X : XS) (d : Nat) : Nat → Nat → LL → ST → HP → RR := rcm X (cal X d) 3 4 k_X11_arePassed
def m_X11_year (X : XS) (d : Nat) : Nat → Nat → LL → ST → HP → RR := rcm X (cal X d) 2 1 k_X11_year
def m_X11_isPlayed (X : XS) (d : Nat) : Nat → Nat → LL → ST → HP → RR := rcm X (cal X d) 4 4 k_X11_isPlayed
def m_X11_played (X : XS) (d : Nat) : Nat → Nat → LL → ST → HP → RR := rcm X (cal X d) 3 1 k_X11_played
def m_X11_happens (X : XS) (d : Nat) : Nat → Nat → LL → ST → HP → RR := rcm X (cal X d) 3 0 k_X11_happens
def m_X11_ages (X : XS) (d : Nat) : Nat → Nat → LL → ST → HP → RR := rcm X (cal X d) 5 1 k_X11_ages
def m_X11_of (X : XS) (d : Nat) : Nat → Nat → LL → ST → HP → RR := rcm X (cal X d) 3 1 k_X11_of
def m_X11_seat (X : XS) (d : Nat) : Nat → Nat → LL → ST → HP → RR := rcm X (cal X d) 3 1 k_X11_seat
def m_X11_hears (X : XS) (d : Nat) : Nat → Nat → LL → ST → HP → RR := rcm X (cal X d) 4 1 k_X11_hears
def m_X11_is (X : XS) (d : Nat) : Nat → Nat → LL → ST → HP → RR := rcm X (cal X d) 2 1 k_X11_is
def m_X11_entry (X : XS) (d : Nat) : Nat → Nat → LL → ST → HP → RR := rcm X (cal X d) 4 1 k_X11_entry
def m_X11_book (X : XS) (d : Nat) : Nat → Nat → LL → ST → HP → RR := rcm X (cal X d) 3 1 k_X11_book
def m_X11_ledger (X : XS) (d : Nat) : Nat → Nat → LL → ST → HP → RR := rcm X (cal X d) 4 1 k_X11_ledger
def m_X11_straight (X : XS) (d : Nat) : Nat → Nat → LL → ST → HP → RR := rcm X (cal X d) 3 1 k_X11_straight
def m_X11_steepest (X : XS) (d : Nat) : Nat → Nat → LL → ST → HP → RR := rcm X (cal X d) 3 1 k_X11_steepest
def m_X11_setAside (X : XS) (d : Nat) : Nat → Nat → LL → ST → HP → RR := rcm X (cal X d) 2 0 k_X11_setAside
def m_X11_putBack (X : XS) (d : Nat) : Nat → Nat → LL → ST → HP → RR := rcm X (cal X d) 2 0 k_X11_putBack
def m_X11_foretold (X : XS) (d : Nat) : Nat → Nat → LL → ST → HP → RR := rcm X (cal X d) 4 1 k_X11_foretold
def m_X11_slantCode (X : XS) (d : Nat) : Nat → Nat → LL → ST → HP → RR := rcm X (cal X d) 3 1 k_X11_slantCode
def m_X11_still (X : XS) (d : Nat) : Nat → Nat → LL → ST → HP → RR := rcm X (cal X d) 6 1 k_X11_still
def m_X11_upright (X : XS) (d : Nat) : Nat → Nat → LL → ST → HP → RR := rcm X (cal X d) 4 1 k_X11_upright
def m_X11_turned (X : XS) (d : Nat) : Nat → Nat → LL → ST → HP → RR := rcm X (cal X d) 8 1 k_X11_turned
def m_X11_orderOf (X : XS) (d : Nat) : Nat → Nat → LL → ST → HP → RR := rcm X (cal X d) 4 1 k_X11_orderOf
def m_X11_layFars (X : XS) (d : Nat) : Nat → Nat → LL → ST → HP → RR := rcm X (cal X d) 5 0 k_X11_layFars
def m_X11_byTurns (X : XS) (d : Nat) : Nat → Nat → LL → ST → HP → RR := rcm X (cal X d) 5 1 k_X11_byTurns
def m_X11_exchange (X : XS) (d : Nat) : Nat → Nat → LL → ST → HP → RR := rcm X (cal X d) 4 0 k_X11_exchange
def m_X11_isNextRow (X : XS) (d : Nat) : Nat → Nat → LL → ST → HP → RR := rcm X (cal X d) 6 4 k_X11_isNextRow
def m_X11_rackedSum (X : XS) (d : Nat) : Nat → Nat → LL → ST → HP → RR := rcm X (cal X d) 3 1 k_X11_rackedSum
def m_X11_seats (X : XS) (d : Nat) : Nat → Nat → LL → ST → HP → RR := rcm X (cal X d) 8 1 k_X11_seats
def m_X11_ragged (X : XS) (d : Nat) : Nat → Nat → LL → ST → HP → RR := rcm X (cal X d) 4 1 k_X11_ragged
def m_X11_word (X : XS) (d : Nat) : Nat → Nat → LL → ST → HP → RR := rcm X (cal X d) 2 1 k_X11_word
def m_X11_widthOf (X : XS) (d : Nat) : Nat → Nat → LL → ST → HP → RR := rcm X (cal X d) 5 1 k_X11_widthOf
def m_X11_layPage (X : XS) (d : Nat) : Nat → Nat → LL → ST → HP → RR := rcm X (cal X d) 7 0 k_X11_layPage
def m_X11_page (X : XS) (d : Nat) : Nat → Nat → LL → ST → HP → RR := rcm X (cal X d) 3 1 k_X11_page
def m_X11_line (X : XS) (d : Nat) : Nat → Nat → LL → ST → HP → RR := rcm X (cal X d) 5 1 k_X11_line
def m_X11_linesBy (X : XS) (d : Nat) : Nat → Nat → LL → ST → HP → RR := rcm X (cal X d) 5 1 k_X11_linesBy
def m_X11_narrowest (X : XS) (d : Nat) : Nat → Nat → LL → ST → HP → RR := rcm X (cal X d) 3 1 k_X11_narrowest
def m_X11_heard (X : XS) (d : Nat) : Nat → Nat → LL → ST → HP → RR := rcm X (cal X d) 3 1 k_X11_heard
def m_X11_isMeant (X : XS) (d : Nat) : Nat → Nat → LL → ST → HP → RR := rcm X (cal X d) 5 4 k_X11_isMeant
def m_X11_meant (X : XS) (d : Nat) : Nat → Nat → LL → ST → HP → RR := rcm X (cal X d) 6 1 k_X11_meant
def m_X11_mostLeft (X : XS) (d : Nat) : Nat → Nat → LL → ST → HP → RR := rcm X (cal X d) 7 1 k_X11_mostLeft
def m_X11_listen (X : XS) (d : Nat) : Nat → Nat → LL → ST → HP → RR := rcm X (cal X d) 6 1 k_X11_listen
def m_X11_areHeld (X : XS) (d : Nat) : Nat → Nat → LL → ST → HP → RR := rcm X (cal X d) 3 4 k_X11_areHeld
def m_X11_props (X : XS) (d : Nat) : Nat → Nat → LL → ST → HP → RR := rcm X (cal X d) 4 1 k_X11_props
def m_X11_divisor (X : XS) (d : Nat) : Nat → Nat → LL → ST → HP → RR := rcm X (cal X d) 10 2 k_X11_divisor
def m_X11_threes (X : XS) (d : Nat) : Nat → Nat → LL → ST → HP → RR := rcm X (cal X d) 4 2 k_X11_threes
def m_X11_goOne (X : XS) (d : Nat) : Nat → Nat → LL → ST → HP → RR := rcm X (cal X d) 2 0 k_X11_goOne
def m_X11_part (X : XS) (d : Nat) : Nat → Nat → LL → ST → HP → RR := rcm X (cal X d) 5 2 k_X11_part
def m_X11_likely (X : XS) (d : Nat) : Nat → Nat → LL → ST → HP → RR := rcm X (cal X d) 6 2 k_X11_likely
def m_X11_first (X : XS) (d : Nat) : Nat → Nat → LL → ST → HP → RR := rcm X (cal X d) 5 2 k_X11_first
def m_X11_median (X : XS) (d : Nat) : Nat → Nat → LL → ST → HP → RR := rcm X (cal X d) 6 1 k_X11_median
def m_X11_spread (X : XS) (d : Nat) : Nat → Nat → LL → ST → HP → RR := rcm X (cal X d) 4 1 k_X11_spread
def m_X11_isWon (X : XS) (d : Nat) : Nat → Nat → LL → ST → HP → RR := rcm X (cal X d) 4 4 k_X11_isWon
def m_X11_quarrel (X : XS) (d : Nat) : Nat → Nat → LL → ST → HP → RR := rcm X (cal X d) 5 1 k_X11_quarrel
def m_X11_said (X : XS) (d : Nat) : Nat → Nat → LL → ST → HP → RR := rcm X (cal X d) 3 1 k_X11_said
def m_X11_whose (X : XS) (d : Nat) : Nat → Nat → LL → ST → HP → RR := rcm X (cal X d) 5 1 k_X11_whose
def m_X11_image (X : XS) (d : Nat) : Nat → Nat → LL → ST → HP → RR := rcm X (cal X d) 1 1 k_X11_image
def m_X11_back (X : XS) (d : Nat) : Nat → Nat → LL → ST → HP → RR := rcm X (cal X d) 1 1 k_X11_back
def m_X11_about (X : XS) (d : Nat) : Nat → Nat → LL → ST → HP → RR := rcm X (cal X d) 2 1 k_X11_about
end
section
def RX0 : String := "ItalicsLean$Guess"
def TX0 : u_T := fun k => match k with
  | 0 => ("ItalicsLean$Guess", "count", "I", false)
  | 1 => ("ItalicsLean$Guess", "pairs", "[I", true)
  | 2 => ("ItalicsLean$Guess", "alike", "[I", true)
  | _ => ("ItalicsLean$Guess", "laws", "LItalicsLean$Laws;", true)
def tyX0 : Nat → FieldType := fun k => match k with
  | 0 => .int
  | 1 => .array .int
  | 2 => .array .int
  | _ => .object "ItalicsLean$Laws"
theorem nmX0 : ∀ a, a < 4 → ∀ b, b < 4 → a ≠ b → (TX0 a).2.1 ≠ (TX0 b).2.1 := by decide +kernel
theorem tyX0_ok : ∀ k, k < 4 → parseFieldDescriptor (TX0 k).2.2.1 = some (tyX0 k) := by decide +kernel
def RX1 : String := "ItalicsLean$Laws"
def TX1 : u_T := fun k => match k with
  | 0 => ("ItalicsLean$Laws", "names", "[I", true)
  | 1 => ("ItalicsLean$Laws", "stack", "[I", true)
  | _ => ("ItalicsLean$Laws", "top", "I", false)
def tyX1 : Nat → FieldType := fun k => match k with
  | 0 => .array .int
  | 1 => .array .int
  | _ => .int
theorem nmX1 : ∀ a, a < 3 → ∀ b, b < 3 → a ≠ b → (TX1 a).2.1 ≠ (TX1 b).2.1 := by decide +kernel
theorem tyX1_ok : ∀ k, k < 3 → parseFieldDescriptor (TX1 k).2.2.1 = some (tyX1 k) := by decide +kernel
def RX2 : String := "ItalicsLean$Odds"
def TX2 : u_T := fun k => match k with
  | 0 => ("ItalicsLean$Odds", "ways", "[J", true)
  | _ => ("ItalicsLean$Odds", "before", "[J", true)
def tyX2 : Nat → FieldType := fun k => match k with
  | 0 => .array .long
  | _ => .array .long
theorem nmX2 : ∀ a, a < 2 → ∀ b, b < 2 → a ≠ b → (TX2 a).2.1 ≠ (TX2 b).2.1 := by decide +kernel
theorem tyX2_ok : ∀ k, k < 2 → parseFieldDescriptor (TX2 k).2.2.1 = some (tyX2 k) := by decide +kernel
def RX3 : String := "ItalicsLean$Page"
def TX3 : u_T := fun k => match k with
  | 0 => ("ItalicsLean$Page", "badness", "[I", true)
  | 1 => ("ItalicsLean$Page", "lines", "[I", true)
  | 2 => ("ItalicsLean$Page", "next", "[I", true)
  | _ => ("ItalicsLean$Page", "words", "I", false)
def tyX3 : Nat → FieldType := fun k => match k with
  | 0 => .array .int
  | 1 => .array .int
  | 2 => .array .int
  | _ => .int
theorem nmX3 : ∀ a, a < 4 → ∀ b, b < 4 → a ≠ b → (TX3 a).2.1 ≠ (TX3 b).2.1 := by decide +kernel
theorem tyX3_ok : ∀ k, k < 4 → parseFieldDescriptor (TX3 k).2.2.1 = some (tyX3 k) := by decide +kernel
def RX4 : String := "ItalicsLean$Reader"
def TX4 : u_T := fun k => match k with
  | 0 => ("ItalicsLean$Reader", "length", "I", false)
  | 1 => ("ItalicsLean$Reader", "hasRead", "Z", false)
  | 2 => ("ItalicsLean$Reader", "fault", "I", false)
  | 3 => ("ItalicsLean$Reader", "place", "I", false)
  | 4 => ("ItalicsLean$Reader", "bytes", "[I", true)
  | 5 => ("ItalicsLean$Reader", "text", "LItalicsLean$Text;", false)
  | 6 => ("ItalicsLean$Reader", "inLeans", "Z", false)
  | 7 => ("ItalicsLean$Reader", "kind", "I", false)
  | 8 => ("ItalicsLean$Reader", "start", "I", false)
  | 9 => ("ItalicsLean$Reader", "stop", "I", false)
  | _ => ("ItalicsLean$Reader", "number", "I", false)
def tyX4 : Nat → FieldType := fun k => match k with
  | 0 => .int
  | 1 => .boolean
  | 2 => .int
  | 3 => .int
  | 4 => .array .int
  | 5 => .object "ItalicsLean$Text"
  | 6 => .boolean
  | 7 => .int
  | 8 => .int
  | 9 => .int
  | _ => .int
theorem nmX4 : ∀ a, a < 11 → ∀ b, b < 11 → a ≠ b → (TX4 a).2.1 ≠ (TX4 b).2.1 := by decide +kernel
theorem tyX4_ok : ∀ k, k < 11 → parseFieldDescriptor (TX4 k).2.2.1 = some (tyX4 k) := by decide +kernel
def RX5 : String := "ItalicsLean$Row"
def TX5 : u_T := fun k => match k with
  | 0 => ("ItalicsLean$Row", "people", "I", false)
  | 1 => ("ItalicsLean$Row", "propped", "I", false)
  | 2 => ("ItalicsLean$Row", "wind", "I", false)
  | 3 => ("ItalicsLean$Row", "year", "I", false)
  | 4 => ("ItalicsLean$Row", "x", "I", false)
  | 5 => ("ItalicsLean$Row", "booked", "I", false)
  | 6 => ("ItalicsLean$Row", "slant", "[I", true)
  | 7 => ("ItalicsLean$Row", "weight", "[I", true)
  | 8 => ("ItalicsLean$Row", "asTold", "[I", true)
  | 9 => ("ItalicsLean$Row", "sitter", "[I", true)
  | _ => ("ItalicsLean$Row", "book", "[I", true)
def tyX5 : Nat → FieldType := fun k => match k with
  | 0 => .int
  | 1 => .int
  | 2 => .int
  | 3 => .int
  | 4 => .int
  | 5 => .int
  | 6 => .array .int
  | 7 => .array .int
  | 8 => .array .int
  | 9 => .array .int
  | _ => .array .int
theorem nmX5 : ∀ a, a < 11 → ∀ b, b < 11 → a ≠ b → (TX5 a).2.1 ≠ (TX5 b).2.1 := by decide +kernel
theorem tyX5_ok : ∀ k, k < 11 → parseFieldDescriptor (TX5 k).2.2.1 = some (tyX5 k) := by decide +kernel
def RX6 : String := "ItalicsLean$Steps"
def TX6 : u_T := fun k => match k with
  | 0 => ("ItalicsLean$Steps", "kept", "I", false)
  | 1 => ("ItalicsLean$Steps", "eldest", "I", false)
  | _ => ("ItalicsLean$Steps", "saved", "[I", true)
def tyX6 : Nat → FieldType := fun k => match k with
  | 0 => .int
  | 1 => .int
  | _ => .array .int
theorem nmX6 : ∀ a, a < 3 → ∀ b, b < 3 → a ≠ b → (TX6 a).2.1 ≠ (TX6 b).2.1 := by decide +kernel
theorem tyX6_ok : ∀ k, k < 3 → parseFieldDescriptor (TX6 k).2.2.1 = some (tyX6 k) := by decide +kernel
def RX7 : String := "ItalicsLean$Text"
def TX7 : u_T := fun k => match k with
  | 0 => ("ItalicsLean$Text", "clauses", "I", false)
  | 1 => ("ItalicsLean$Text", "size", "I", false)
  | 2 => ("ItalicsLean$Text", "leansAt", "I", false)
  | 3 => ("ItalicsLean$Text", "hearsAt", "I", false)
  | 4 => ("ItalicsLean$Text", "kinds", "[I", true)
  | 5 => ("ItalicsLean$Text", "firsts", "[I", true)
  | 6 => ("ItalicsLean$Text", "seconds", "[I", true)
  | _ => ("ItalicsLean$Text", "code", "[I", true)
def tyX7 : Nat → FieldType := fun k => match k with
  | 0 => .int
  | 1 => .int
  | 2 => .int
  | 3 => .int
  | 4 => .array .int
  | 5 => .array .int
  | 6 => .array .int
  | _ => .array .int
theorem nmX7 : ∀ a, a < 8 → ∀ b, b < 8 → a ≠ b → (TX7 a).2.1 ≠ (TX7 b).2.1 := by decide +kernel
theorem tyX7_ok : ∀ k, k < 8 → parseFieldDescriptor (TX7 k).2.2.1 = some (tyX7 k) := by decide +kernel
def RX8 : String := "ItalicsLean$Told"
def TX8 : u_T := fun k => match k with
  | 0 => ("ItalicsLean$Told", "texts", "I", false)
  | 1 => ("ItalicsLean$Told", "ruling", "I", false)
  | 2 => ("ItalicsLean$Told", "barred", "I", false)
  | 3 => ("ItalicsLean$Told", "words", "I", false)
  | 4 => ("ItalicsLean$Told", "heard", "I", false)
  | 5 => ("ItalicsLean$Told", "said", "I", false)
  | 6 => ("ItalicsLean$Told", "racks", "[I", true)
  | 7 => ("ItalicsLean$Told", "widths", "[I", true)
  | 8 => ("ItalicsLean$Told", "heardWho", "[I", true)
  | 9 => ("ItalicsLean$Told", "heardAs", "[I", true)
  | 10 => ("ItalicsLean$Told", "saidWho", "[I", true)
  | _ => ("ItalicsLean$Told", "saidLeans", "[I", true)
def tyX8 : Nat → FieldType := fun k => match k with
  | 0 => .int
  | 1 => .int
  | 2 => .int
  | 3 => .int
  | 4 => .int
  | 5 => .int
  | 6 => .array .int
  | 7 => .array .int
  | 8 => .array .int
  | 9 => .array .int
  | 10 => .array .int
  | _ => .array .int
theorem nmX8 : ∀ a, a < 12 → ∀ b, b < 12 → a ≠ b → (TX8 a).2.1 ≠ (TX8 b).2.1 := by decide +kernel
theorem tyX8_ok : ∀ k, k < 12 → parseFieldDescriptor (TX8 k).2.2.1 = some (tyX8 k) := by decide +kernel
def RX9 : String := "ItalicsLean$Turns"
def TX9 : u_T := fun k => match k with
  | 0 => ("ItalicsLean$Turns", "people", "I", false)
  | 1 => ("ItalicsLean$Turns", "sitting", "[I", true)
  | 2 => ("ItalicsLean$Turns", "orderBehind", "[I", true)
  | 3 => ("ItalicsLean$Turns", "turnedBy", "[I", true)
  | _ => ("ItalicsLean$Turns", "far", "[I", true)
def tyX9 : Nat → FieldType := fun k => match k with
  | 0 => .int
  | 1 => .array .int
  | 2 => .array .int
  | 3 => .array .int
  | _ => .array .int
theorem nmX9 : ∀ a, a < 5 → ∀ b, b < 5 → a ≠ b → (TX9 a).2.1 ≠ (TX9 b).2.1 := by decide +kernel
theorem tyX9_ok : ∀ k, k < 5 → parseFieldDescriptor (TX9 k).2.2.1 = some (tyX9 k) := by decide +kernel
def RX10 : String := "ItalicsLean"
def TX10 : u_T := fun k => match k with
  | 0 => ("ItalicsLean", "row", "LItalicsLean$Row;", true)
  | 1 => ("ItalicsLean", "steps", "LItalicsLean$Steps;", true)
  | 2 => ("ItalicsLean", "told", "LItalicsLean$Told;", true)
  | 3 => ("ItalicsLean", "imageRow", "LItalicsLean$Row;", true)
  | 4 => ("ItalicsLean", "imageSteps", "LItalicsLean$Steps;", true)
  | 5 => ("ItalicsLean", "imageTold", "LItalicsLean$Told;", true)
  | 6 => ("ItalicsLean", "draft", "LItalicsLean$Row;", true)
  | 7 => ("ItalicsLean", "texts", "[LItalicsLean$Text;", true)
  | 8 => ("ItalicsLean", "reader", "LItalicsLean$Reader;", true)
  | 9 => ("ItalicsLean", "laws", "LItalicsLean$Laws;", true)
  | 10 => ("ItalicsLean", "broken", "LItalicsLean$Page;", true)
  | 11 => ("ItalicsLean", "odds", "LItalicsLean$Odds;", true)
  | 12 => ("ItalicsLean", "seen", "[I", true)
  | 13 => ("ItalicsLean", "order", "[I", true)
  | 14 => ("ItalicsLean", "turns", "LItalicsLean$Turns;", false)
  | _ => ("ItalicsLean", "guess", "LItalicsLean$Guess;", false)
def tyX10 : Nat → FieldType := fun k => match k with
  | 0 => .object "ItalicsLean$Row"
  | 1 => .object "ItalicsLean$Steps"
  | 2 => .object "ItalicsLean$Told"
  | 3 => .object "ItalicsLean$Row"
  | 4 => .object "ItalicsLean$Steps"
  | 5 => .object "ItalicsLean$Told"
  | 6 => .object "ItalicsLean$Row"
  | 7 => .array (.object "ItalicsLean$Text")
  | 8 => .object "ItalicsLean$Reader"
  | 9 => .object "ItalicsLean$Laws"
  | 10 => .object "ItalicsLean$Page"
  | 11 => .object "ItalicsLean$Odds"
  | 12 => .array .int
  | 13 => .array .int
  | 14 => .object "ItalicsLean$Turns"
  | _ => .object "ItalicsLean$Guess"
theorem nmX10 : ∀ a, a < 16 → ∀ b, b < 16 → a ≠ b → (TX10 a).2.1 ≠ (TX10 b).2.1 := by decide +kernel
theorem tyX10_ok : ∀ k, k < 16 → parseFieldDescriptor (TX10 k).2.2.1 = some (tyX10 k) := by decide +kernel
def RX11 : String := "ItalicsLeanModel"
def TX11 : u_T := fun k => match k with
  | 0 => ("ItalicsLeanModel", "a", "[I", true)
  | 1 => ("ItalicsLeanModel", "image", "[I", true)
  | 2 => ("ItalicsLeanModel", "texts", "[I", true)
  | 3 => ("ItalicsLeanModel", "tape", "[I", true)
  | 4 => ("ItalicsLeanModel", "taped", "I", false)
  | 5 => ("ItalicsLeanModel", "fault", "I", false)
  | 6 => ("ItalicsLeanModel", "faultPlace", "I", false)
  | 7 => ("ItalicsLeanModel", "at", "I", false)
  | 8 => ("ItalicsLeanModel", "place", "I", false)
  | 9 => ("ItalicsLeanModel", "token", "I", false)
  | 10 => ("ItalicsLeanModel", "number", "I", false)
  | 11 => ("ItalicsLeanModel", "wordRead", "J", false)
  | 12 => ("ItalicsLeanModel", "text0", "I", false)
  | 13 => ("ItalicsLeanModel", "written", "I", false)
  | 14 => ("ItalicsLeanModel", "sort0", "I", false)
  | 15 => ("ItalicsLeanModel", "pile", "[I", true)
  | 16 => ("ItalicsLeanModel", "piled", "I", false)
  | 17 => ("ItalicsLeanModel", "opens", "I", false)
  | 18 => ("ItalicsLeanModel", "isWhole", "Z", false)
  | 19 => ("ItalicsLeanModel", "once", "I", false)
  | 20 => ("ItalicsLeanModel", "named", "[I", true)
  | 21 => ("ItalicsLeanModel", "values", "[J", true)
  | 22 => ("ItalicsLeanModel", "truth", "[Z", true)
  | 23 => ("ItalicsLeanModel", "isWritten", "Z", false)
  | 24 => ("ItalicsLeanModel", "straightened", "I", false)
  | 25 => ("ItalicsLeanModel", "aside", "[I", true)
  | 26 => ("ItalicsLeanModel", "codes", "[I", true)
  | 27 => ("ItalicsLeanModel", "fars", "[I", true)
  | 28 => ("ItalicsLeanModel", "queue", "[I", true)
  | 29 => ("ItalicsLeanModel", "digits", "[I", true)
  | 30 => ("ItalicsLeanModel", "row", "[I", true)
  | 31 => ("ItalicsLeanModel", "bestRow", "[I", true)
  | 32 => ("ItalicsLeanModel", "bads", "[I", true)
  | 33 => ("ItalicsLeanModel", "lines", "[I", true)
  | 34 => ("ItalicsLeanModel", "many", "[I", true)
  | 35 => ("ItalicsLeanModel", "classes", "[I", true)
  | 36 => ("ItalicsLeanModel", "slants", "[J", true)
  | 37 => ("ItalicsLeanModel", "next", "[J", true)
  | _ => ("ItalicsLeanModel", "wins", "[Z", true)
def tyX11 : Nat → FieldType := fun k => match k with
  | 0 => .array .int
  | 1 => .array .int
  | 2 => .array .int
  | 3 => .array .int
  | 4 => .int
  | 5 => .int
  | 6 => .int
  | 7 => .int
  | 8 => .int
  | 9 => .int
  | 10 => .int
  | 11 => .long
  | 12 => .int
  | 13 => .int
  | 14 => .int
  | 15 => .array .int
  | 16 => .int
  | 17 => .int
  | 18 => .boolean
  | 19 => .int
  | 20 => .array .int
  | 21 => .array .long
  | 22 => .array .boolean
  | 23 => .boolean
  | 24 => .int
  | 25 => .array .int
  | 26 => .array .int
  | 27 => .array .int
  | 28 => .array .int
  | 29 => .array .int
  | 30 => .array .int
  | 31 => .array .int
  | 32 => .array .int
  | 33 => .array .int
  | 34 => .array .int
  | 35 => .array .int
  | 36 => .array .long
  | 37 => .array .long
  | _ => .array .boolean
theorem nmX11 : ∀ a, a < 39 → ∀ b, b < 39 → a ≠ b → (TX11 a).2.1 ≠ (TX11 b).2.1 := by decide +kernel
theorem tyX11_ok : ∀ k, k < 39 → parseFieldDescriptor (TX11 k).2.2.1 = some (tyX11 k) := by decide +kernel
def RLW : String := "ItalicsLeanLaw"
def RN : Nat → String := fun k => match k with
  | 0 => RX0
  | 1 => RX1
  | 2 => RX2
  | 3 => RX3
  | 4 => RX4
  | 5 => RX5
  | 6 => RX6
  | 7 => RX7
  | 8 => RX8
  | 9 => RX9
  | 10 => RX10
  | 11 => RX11
  | _ => RLW
def TN : Nat → u_T := fun k => match k with
  | 0 => TX0
  | 1 => TX1
  | 2 => TX2
  | 3 => TX3
  | 4 => TX4
  | 5 => TX5
  | 6 => TX6
  | 7 => TX7
  | 8 => TX8
  | 9 => TX9
  | 10 => TX10
  | _ => TX11
def tyN : Nat → Nat → FieldType := fun k => match k with
  | 0 => tyX0
  | 1 => tyX1
  | 2 => tyX2
  | 3 => tyX3
  | 4 => tyX4
  | 5 => tyX5
  | 6 => tyX6
  | 7 => tyX7
  | 8 => tyX8
  | 9 => tyX9
  | 10 => tyX10
  | _ => tyX11
def NN : Nat → Nat := fun k => match k with
  | 0 => 4
  | 1 => 3
  | 2 => 2
  | 3 => 4
  | 4 => 11
  | 5 => 11
  | 6 => 3
  | 7 => 8
  | 8 => 12
  | 9 => 5
  | 10 => 16
  | _ => 39
/-- kinds of fields: 0 int, 1 long, 2 reference, 3 boolean -/
def KDL : List (List Nat) := [[0, 2, 2, 2], [2, 2, 0], [2, 2], [2, 2, 2, 0], [0, 3, 0, 0, 2, 2, 3, 0, 0, 0, 0], [0, 0, 0, 0, 0, 0, 2, 2, 2, 2, 2], [0, 0, 2], [0, 0, 0, 0, 2, 2, 2, 2], [0, 0, 0, 0, 0, 0, 2, 2, 2, 2, 2, 2], [0, 2, 2, 2, 2], [2, 2, 2, 2, 2, 2, 2, 2, 2, 2, 2, 2, 2, 2, 2, 2], [2, 2, 2, 2, 0, 0, 0, 0, 0, 0, 0, 1, 0, 0, 0, 2, 0, 0, 3, 0, 2, 2, 2, 3, 0, 2, 2, 2, 2, 2, 2, 2, 2, 2, 2, 2, 2, 2, 2]]
def KD (c k : Nat) : Nat := (KDL.getD c []).getD k 0
abbrev CLS : List vw_C := [(RX0, TX0, 4), (RX1, TX1, 3), (RX2, TX2, 2), (RX3, TX3, 4), (RX4, TX4, 11), (RX5, TX5, 11), (RX6, TX6, 3), (RX7, TX7, 8), (RX8, TX8, 12), (RX9, TX9, 5), (RX10, TX10, 16), (RX11, TX11, 39)]
theorem by_places {big ws : List Cond} (ps : List Nat) (h : ws = ps.filterMap (fun i => big[i]?)) : ∀ w ∈ ws, w ∈ big := by
  intro w hw
  rw [h] at hw
  obtain ⟨i, -, hi⟩ := List.mem_filterMap.mp hw
  exact List.mem_of_getElem? hi
set_option maxRecDepth 20000 in
theorem inX0 : ∀ w ∈ u_ws RX0 TX0 4, w ∈ lw_tbl := by_places [1094, 1096, 1098, 1100] (by decide +kernel)
set_option maxRecDepth 20000 in
theorem inX1 : ∀ w ∈ u_ws RX1 TX1 3, w ∈ lw_tbl := by_places [330, 332, 334] (by decide +kernel)
set_option maxRecDepth 20000 in
theorem inX2 : ∀ w ∈ u_ws RX2 TX2 2, w ∈ lw_tbl := by_places [366, 368] (by decide +kernel)
set_option maxRecDepth 20000 in
theorem inX3 : ∀ w ∈ u_ws RX3 TX3 4, w ∈ lw_tbl := by_places [349, 351, 353, 355] (by decide +kernel)
set_option maxRecDepth 20000 in
theorem inX4 : ∀ w ∈ u_ws RX4 TX4 11, w ∈ lw_tbl := by_places [298, 300, 302, 304, 306, 308, 310, 312, 314, 316, 318] (by decide +kernel)
set_option maxRecDepth 20000 in
theorem inX5 : ∀ w ∈ u_ws RX5 TX5 11, w ∈ lw_tbl := by_places [174, 176, 178, 180, 182, 184, 186, 188, 190, 192, 194] (by decide +kernel)
set_option maxRecDepth 20000 in
theorem inX6 : ∀ w ∈ u_ws RX6 TX6 3, w ∈ lw_tbl := by_places [208, 210, 212] (by decide +kernel)
set_option maxRecDepth 20000 in
theorem inX7 : ∀ w ∈ u_ws RX7 TX7 8, w ∈ lw_tbl := by_places [394, 396, 398, 400, 402, 404, 406, 408] (by decide +kernel)
set_option maxRecDepth 20000 in
theorem inX8 : ∀ w ∈ u_ws RX8 TX8 12, w ∈ lw_tbl := by_places [250, 252, 254, 256, 258, 260, 262, 264, 266, 268, 270, 272] (by decide +kernel)
set_option maxRecDepth 20000 in
theorem inX9 : ∀ w ∈ u_ws RX9 TX9 5, w ∈ lw_tbl := by_places [969, 971, 973, 975, 977] (by decide +kernel)
set_option maxRecDepth 20000 in
theorem inX10 : ∀ w ∈ u_ws RX10 TX10 16, w ∈ lw_tbl := by_places [427, 429, 431, 433, 435, 437, 439, 441, 443, 445, 447, 449, 451, 453, 455, 457] (by decide +kernel)
set_option maxRecDepth 20000 in
theorem inX11 : ∀ w ∈ u_ws RX11 TX11 39, w ∈ lw_tbl := by_places [1274, 1276, 1278, 1280, 1282, 1284, 1286, 1288, 1290, 1292, 1294, 1296, 1298, 1300, 1302, 1304, 1306, 1308, 1310, 1312, 1314, 1316, 1318, 1320, 1322, 1324, 1326, 1328, 1330, 1332, 1334, 1336, 1338, 1340, 1342, 1344, 1346, 1348, 1350] (by decide +kernel)
end
section
/-- field links: class, entry, the class of the field, its number, its place among the words -/
def FLT : List (Nat × Nat × Nat × Nat × Nat) := [(5, 9, 5, 0, 145), (0, 26, 5, 0, 146), (1, 27, 5, 0, 147), (10, 100, 5, 0, 148), (9, 60, 5, 0, 149), (5, 15, 5, 1, 150), (10, 235, 5, 1, 151), (5, 18, 5, 2, 152), (1, 56, 5, 2, 153), (10, 232, 5, 2, 154), (5, 21, 5, 3, 155), (1, 48, 5, 3, 156), (10, 162, 5, 3, 157), (5, 24, 5, 4, 158), (10, 184, 5, 4, 159), (5, 27, 5, 5, 160), (10, 238, 5, 5, 161), (5, 30, 5, 6, 162), (1, 37, 5, 6, 163), (10, 209, 5, 6, 164), (5, 34, 5, 7, 165), (1, 84, 5, 7, 166), (10, 212, 5, 7, 167), (5, 37, 5, 8, 168), (5, 40, 5, 9, 169), (1, 34, 5, 9, 170), (9, 55, 5, 9, 171), (10, 222, 5, 9, 172), (5, 43, 5, 10, 173), (6, 9, 6, 0, 204), (10, 200, 6, 0, 205), (6, 15, 6, 1, 206), (6, 18, 6, 2, 207), (8, 9, 8, 0, 221), (10, 118, 8, 0, 222), (8, 15, 8, 1, 223), (10, 137, 8, 1, 224), (8, 18, 8, 2, 225), (10, 326, 8, 2, 226), (8, 21, 8, 3, 227), (3, 25, 8, 3, 228), (10, 280, 8, 3, 229), (8, 24, 8, 4, 230), (0, 35, 8, 4, 231), (10, 303, 8, 4, 232), (8, 27, 8, 5, 233), (10, 363, 8, 5, 234), (8, 30, 8, 6, 235), (10, 108, 8, 6, 236), (8, 34, 8, 7, 237), (3, 28, 8, 7, 238), (10, 283, 8, 7, 239), (8, 37, 8, 8, 240), (0, 40, 8, 8, 241), (10, 306, 8, 8, 242), (8, 40, 8, 9, 243), (0, 47, 8, 9, 244), (10, 309, 8, 9, 245), (8, 43, 8, 10, 246), (10, 366, 8, 10, 247), (8, 46, 8, 11, 248), (10, 369, 8, 11, 249), (4, 9, 4, 0, 283), (10, 111, 4, 0, 284), (4, 15, 4, 1, 285), (10, 124, 4, 1, 286), (4, 19, 4, 2, 287), (10, 128, 4, 2, 288), (4, 22, 4, 3, 289), (10, 131, 4, 3, 290), (4, 25, 4, 4, 291), (4, 29, 4, 5, 292), (4, 33, 4, 6, 293), (4, 36, 4, 7, 294), (4, 39, 4, 8, 295), (4, 42, 4, 9, 296), (4, 45, 4, 10, 297), (1, 9, 1, 0, 327), (1, 15, 1, 1, 328), (1, 18, 1, 2, 329), (3, 9, 3, 0, 343), (10, 290, 3, 0, 344), (3, 15, 3, 1, 345), (10, 293, 3, 1, 346), (3, 18, 3, 2, 347), (3, 21, 3, 3, 348), (2, 9, 2, 0, 364), (2, 15, 2, 1, 365), (7, 9, 7, 0, 377), (10, 169, 7, 0, 378), (7, 15, 7, 1, 379), (4, 101, 7, 1, 380), (7, 18, 7, 2, 381), (1, 51, 7, 2, 382), (4, 67, 7, 2, 383), (7, 21, 7, 3, 384), (1, 81, 7, 3, 385), (4, 70, 7, 3, 386), (7, 24, 7, 4, 387), (10, 172, 7, 4, 388), (7, 28, 7, 5, 389), (10, 175, 7, 5, 390), (7, 31, 7, 6, 391), (10, 178, 7, 6, 392), (7, 34, 7, 7, 393), (10, 12, 10, 0, 411), (10, 19, 10, 1, 412), (10, 26, 10, 2, 413), (10, 30, 10, 3, 414), (10, 33, 10, 4, 415), (10, 36, 10, 5, 416), (10, 39, 10, 6, 417), (10, 44, 10, 7, 418), (10, 51, 10, 8, 419), (10, 58, 10, 9, 420), (10, 65, 10, 10, 421), (10, 72, 10, 11, 422), (10, 76, 10, 12, 423), (10, 80, 10, 13, 424), (10, 83, 10, 14, 425), (10, 87, 10, 15, 426), (9, 9, 9, 0, 964), (9, 15, 9, 1, 965), (9, 19, 9, 2, 966), (9, 22, 9, 3, 967), (9, 25, 9, 4, 968), (0, 9, 0, 0, 1088), (10, 315, 0, 0, 1089), (0, 15, 0, 1, 1090), (10, 320, 0, 1, 1091), (0, 19, 0, 2, 1092), (0, 22, 0, 3, 1093), (11, 7, 11, 0, 1235), (11, 13, 11, 1, 1236), (11, 16, 11, 2, 1237), (11, 19, 11, 3, 1238), (11, 112, 11, 4, 1239), (11, 22, 11, 5, 1240), (11, 26, 11, 6, 1241), (11, 118, 11, 7, 1242), (11, 125, 11, 8, 1243), (11, 128, 11, 9, 1244), (11, 134, 11, 10, 1245), (11, 141, 11, 11, 1246), (11, 166, 11, 12, 1247), (11, 169, 11, 13, 1248), (11, 176, 11, 14, 1249), (11, 29, 11, 15, 1250), (11, 179, 11, 16, 1251), (11, 189, 11, 17, 1252), (11, 225, 11, 18, 1253), (11, 263, 11, 19, 1254), (11, 32, 11, 20, 1255), (11, 35, 11, 21, 1256), (11, 39, 11, 22, 1257), (11, 43, 11, 23, 1258), (11, 327, 11, 24, 1259), (11, 47, 11, 25, 1260), (11, 50, 11, 26, 1261), (11, 54, 11, 27, 1262), (11, 57, 11, 28, 1263), (11, 60, 11, 29, 1264), (11, 63, 11, 30, 1265), (11, 66, 11, 31, 1266), (11, 69, 11, 32, 1267), (11, 72, 11, 33, 1268), (11, 75, 11, 34, 1269), (11, 78, 11, 35, 1270), (11, 81, 11, 36, 1271), (11, 84, 11, 37, 1272), (11, 87, 11, 38, 1273)]
set_option maxRecDepth 20000 in
theorem FLT_ok : FLT.all (fun q => decide (lw_tbl[q.2.2.2.2]? = some (Cond.fieldLink (RN q.1) q.2.1 (RN q.2.2.1) ((TN q.2.2.1) q.2.2.2.1).2.1 ((TN q.2.2.1) q.2.2.2.1).2.2.1)) && Nat.blt q.2.2.1 12 && Nat.blt q.2.2.2.1 (NN q.2.2.1) && decide (((TN q.2.2.1) q.2.2.2.1).1 = RN q.2.2.1)) = true := by decide +kernel
def YL0 : List (MethodName × ByteArray × Nat × Option FieldType × Bool × Nat) := [(⟨"ItalicsLean$Guess", "<init>", "(LItalicsLean$Laws;)V"⟩, prog_2_method_1_code, 2, none, false, 1), (⟨"ItalicsLean$Guess", "gather", "(LItalicsLean$Row;LItalicsLean$Told;LItalicsLean$Text;I)V"⟩, prog_2_method_2_code, 8, none, false, 4), (⟨"ItalicsLean$Guess", "fits", "(LItalicsLean$Row;LItalicsLean$Told;LItalicsLean$Text;II)Z"⟩, prog_2_method_3_code, 8, (some .boolean), false, 5), (⟨"ItalicsLean$Guess", "hearingOf", "(LItalicsLean$Row;ILItalicsLean$Text;I)I"⟩, prog_2_method_4_code, 5, (some .int), false, 4), (⟨"ItalicsLean$Guess", "mostLeft", "(LItalicsLean$Row;ILItalicsLean$Text;)I"⟩, prog_2_method_5_code, 7, (some .int), false, 3), (⟨"ItalicsLean$Laws", "<init>", "()V"⟩, prog_3_method_1_code, 1, none, false, 0), (⟨"ItalicsLean$Laws", "pass", "(LItalicsLean$Row;LItalicsLean$Text;Z)I"⟩, prog_3_method_2_code, 9, (some .int), false, 3), (⟨"ItalicsLean$Laws", "leaning", "(LItalicsLean$Row;ILItalicsLean$Text;)I"⟩, prog_3_method_3_code, 5, (some .int), false, 3), (⟨"ItalicsLean$Laws", "hearing", "(LItalicsLean$Row;IIILItalicsLean$Text;)I"⟩, prog_3_method_4_code, 6, (some .int), false, 5), (⟨"ItalicsLean$Laws", "setNames", "(LItalicsLean$Row;I)V"⟩, prog_3_method_5_code, 3, none, false, 2), (⟨"ItalicsLean$Laws", "reckon", "(LItalicsLean$Row;LItalicsLean$Text;I)I"⟩, prog_3_method_6_code, 9, (some .int), false, 3), (⟨"ItalicsLean$Laws", "push", "(I)V"⟩, prog_3_method_7_code, 2, none, false, 1), (⟨"ItalicsLean$Laws", "pop", "()I"⟩, prog_3_method_8_code, 1, (some .int), false, 0), (⟨"ItalicsLean$Laws", "joined", "(III)I"⟩, prog_3_method_9_code, 5, (some .int), true, 3), (⟨"ItalicsLean$Laws", "stepTo", "(II)I"⟩, prog_3_method_10_code, 2, (some .int), true, 2), (⟨"ItalicsLean$Odds", "<init>", "()V"⟩, prog_4_method_1_code, 1, none, false, 0), (⟨"ItalicsLean$Odds", "spreadOut", "(IIZ)V"⟩, prog_4_method_2_code, 6, none, false, 3), (⟨"ItalicsLean$Odds", "share", "(IIZ)J"⟩, prog_4_method_3_code, 9, (some .long), false, 3), (⟨"ItalicsLean$Page", "<init>", "()V"⟩, prog_5_method_1_code, 1, none, false, 0), (⟨"ItalicsLean$Page", "breakLines", "(LItalicsLean$Told;I)Z"⟩, prog_5_method_2_code, 4, (some .boolean), false, 2), (⟨"ItalicsLean$Page", "chooseLine", "(LItalicsLean$Told;II)V"⟩, prog_5_method_3_code, 8, none, false, 3), (⟨"ItalicsLean$Page", "beginning", "(I)I"⟩, prog_5_method_4_code, 4, (some .int), false, 1), (⟨"ItalicsLean$Page", "leastWidth", "(LItalicsLean$Told;I)I"⟩, prog_5_method_5_code, 6, (some .int), false, 2), (⟨"ItalicsLean$Page", "fewestLines", "(LItalicsLean$Told;I)I"⟩, prog_5_method_6_code, 5, (some .int), true, 2), (⟨"ItalicsLean$Reader", "<init>", "()V"⟩, prog_6_method_1_code, 1, none, false, 0), (⟨"ItalicsLean$Reader", "append", "(I)V"⟩, prog_6_method_2_code, 2, none, false, 1), (⟨"ItalicsLean$Reader", "readInto", "(LItalicsLean$Text;)Z"⟩, prog_6_method_3_code, 3, (some .boolean), false, 1), (⟨"ItalicsLean$Reader", "fail", "(I)Z"⟩, prog_6_method_4_code, 2, (some .boolean), false, 1), (⟨"ItalicsLean$Reader", "readClause", "(I)Z"⟩, prog_6_method_5_code, 3, (some .boolean), false, 1), (⟨"ItalicsLean$Reader", "clauseKind", "()I"⟩, prog_6_method_6_code, 1, (some .int), false, 0), (⟨"ItalicsLean$Reader", "readLaw", "(I)Z"⟩, prog_6_method_7_code, 2, (some .boolean), false, 1), (⟨"ItalicsLean$Reader", "readDeed", "(I)Z"⟩, prog_6_method_8_code, 5, (some .boolean), false, 1), (⟨"ItalicsLean$Reader", "leastOf", "(I)I"⟩, prog_6_method_9_code, 1, (some .int), true, 1), (⟨"ItalicsLean$Reader", "mostOf", "(I)I"⟩, prog_6_method_10_code, 1, (some .int), true, 1), (⟨"ItalicsLean$Reader", "readSum", "(I)Z"⟩, prog_6_method_11_code, 4, (some .boolean), false, 1), (⟨"ItalicsLean$Reader", "readProduct", "(I)Z"⟩, prog_6_method_12_code, 4, (some .boolean), false, 1), (⟨"ItalicsLean$Reader", "readOne", "(I)Z"⟩, prog_6_method_13_code, 2, (some .boolean), false, 1), (⟨"ItalicsLean$Reader", "readChoice", "(I)Z"⟩, prog_6_method_14_code, 4, (some .boolean), false, 1), (⟨"ItalicsLean$Reader", "readEither", "(I)Z"⟩, prog_6_method_15_code, 3, (some .boolean), false, 1), (⟨"ItalicsLean$Reader", "readBoth", "(I)Z"⟩, prog_6_method_16_code, 3, (some .boolean), false, 1), (⟨"ItalicsLean$Reader", "readAsk", "(I)Z"⟩, prog_6_method_17_code, 3, (some .boolean), false, 1), (⟨"ItalicsLean$Reader", "comparison", "()I"⟩, prog_6_method_18_code, 1, (some .int), false, 0), (⟨"ItalicsLean$Reader", "readName", "()Z"⟩, prog_6_method_19_code, 4, (some .boolean), false, 0), (⟨"ItalicsLean$Reader", "nameOfToken", "()I"⟩, prog_6_method_20_code, 1, (some .int), false, 0), (⟨"ItalicsLean$Reader", "put", "(I)Z"⟩, prog_6_method_21_code, 2, (some .boolean), false, 1), (⟨"ItalicsLean$Reader", "takeOpening", "(I)Z"⟩, prog_6_method_22_code, 2, (some .boolean), false, 1), (⟨"ItalicsLean$Reader", "takeNumber", "(II)Z"⟩, prog_6_method_23_code, 3, (some .boolean), false, 2), (⟨"ItalicsLean$Reader", "takeWord", "(Ljava/lang/String;)Z"⟩, prog_6_method_24_code, 2, (some .boolean), false, 1), (⟨"ItalicsLean$Reader", "takeSign", "(C)Z"⟩, prog_6_method_25_code, 2, (some .boolean), false, 1), (⟨"ItalicsLean$Reader", "isWord", "(Ljava/lang/String;)Z"⟩, prog_6_method_26_code, 3, (some .boolean), false, 1)]
def YL1 : List (MethodName × ByteArray × Nat × Option FieldType × Bool × Nat) := [(⟨"ItalicsLean$Reader", "advance", "()V"⟩, prog_6_method_27_code, 1, none, false, 0), (⟨"ItalicsLean$Reader", "scanNumber", "()V"⟩, prog_6_method_28_code, 1, none, false, 0), (⟨"ItalicsLean$Reader", "scanSign", "()V"⟩, prog_6_method_29_code, 2, none, false, 0), (⟨"ItalicsLean$Reader", "isLetter", "(I)Z"⟩, prog_6_method_30_code, 1, (some .boolean), true, 1), (⟨"ItalicsLean$Reader", "isDigit", "(I)Z"⟩, prog_6_method_31_code, 1, (some .boolean), true, 1), (⟨"ItalicsLean$Row", "<init>", "()V"⟩, prog_7_method_1_code, 1, none, false, 0), (⟨"ItalicsLean$Row", "has", "(I)Z"⟩, prog_7_method_2_code, 2, (some .boolean), false, 1), (⟨"ItalicsLean$Row", "add", "(II)V"⟩, prog_7_method_3_code, 3, none, false, 2), (⟨"ItalicsLean$Row", "slantIn", "(I)I"⟩, prog_7_method_4_code, 2, (some .int), false, 1), (⟨"ItalicsLean$Row", "seatOf", "(I)I"⟩, prog_7_method_5_code, 3, (some .int), false, 1), (⟨"ItalicsLean$Row", "isPropped", "(I)Z"⟩, prog_7_method_6_code, 2, (some .boolean), false, 1), (⟨"ItalicsLean$Row", "canChange", "(II)Z"⟩, prog_7_method_7_code, 3, (some .boolean), false, 2), (⟨"ItalicsLean$Row", "change", "(II)V"⟩, prog_7_method_8_code, 4, none, false, 2), (⟨"ItalicsLean$Row", "turnAbout", "(I)V"⟩, prog_7_method_9_code, 4, none, false, 1), (⟨"ItalicsLean$Row", "canSetProp", "(IZ)Z"⟩, prog_7_method_10_code, 3, (some .boolean), false, 2), (⟨"ItalicsLean$Row", "setProp", "(IZ)V"⟩, prog_7_method_11_code, 3, none, false, 2), (⟨"ItalicsLean$Row", "renewX", "()V"⟩, prog_7_method_12_code, 1, none, false, 0), (⟨"ItalicsLean$Row", "drawWind", "()V"⟩, prog_7_method_13_code, 1, none, false, 0), (⟨"ItalicsLean$Row", "write", "(I)V"⟩, prog_7_method_14_code, 2, none, false, 1), (⟨"ItalicsLean$Row", "bookedYear", "(I)I"⟩, prog_7_method_15_code, 2, (some .int), false, 1), (⟨"ItalicsLean$Row", "bookedPerson", "(I)I"⟩, prog_7_method_16_code, 2, (some .int), false, 1), (⟨"ItalicsLean$Row", "bookedWind", "(I)I"⟩, prog_7_method_17_code, 2, (some .int), false, 1), (⟨"ItalicsLean$Row", "packedSlants", "()I"⟩, prog_7_method_18_code, 3, (some .int), false, 0), (⟨"ItalicsLean$Row", "howManyLean", "(I)I"⟩, prog_7_method_19_code, 4, (some .int), false, 1), (⟨"ItalicsLean$Row", "copy", "(LItalicsLean$Row;)V"⟩, prog_7_method_20_code, 2, none, false, 1), (⟨"ItalicsLean$Row", "save", "([II)V"⟩, prog_7_method_21_code, 3, none, false, 2), (⟨"ItalicsLean$Row", "restore", "([II)V"⟩, prog_7_method_22_code, 5, none, false, 2), (⟨"ItalicsLean$Steps", "<init>", "()V"⟩, prog_8_method_1_code, 1, none, false, 0), (⟨"ItalicsLean$Steps", "keep", "(LItalicsLean$Row;)V"⟩, prog_8_method_2_code, 2, none, false, 1), (⟨"ItalicsLean$Steps", "takeBack", "(LItalicsLean$Row;)V"⟩, prog_8_method_3_code, 2, none, false, 1), (⟨"ItalicsLean$Steps", "copy", "(LItalicsLean$Steps;)V"⟩, prog_8_method_4_code, 2, none, false, 1), (⟨"ItalicsLean$Steps", "placeOf", "(I)I"⟩, prog_8_method_5_code, 2, (some .int), false, 1), (⟨"ItalicsLean$Text", "<init>", "()V"⟩, prog_9_method_1_code, 1, none, false, 0), (⟨"ItalicsLean$Text", "clear", "()V"⟩, prog_9_method_2_code, 1, none, false, 0), (⟨"ItalicsLean$Text", "addClause", "(III)V"⟩, prog_9_method_3_code, 4, none, false, 3), (⟨"ItalicsLean$Text", "emit", "(I)V"⟩, prog_9_method_4_code, 2, none, false, 1), (⟨"ItalicsLean$Text", "emitJump", "(I)I"⟩, prog_9_method_5_code, 2, (some .int), false, 1), (⟨"ItalicsLean$Text", "aimHere", "(I)V"⟩, prog_9_method_6_code, 2, none, false, 1), (⟨"ItalicsLean$Text", "codeAt", "(I)I"⟩, prog_9_method_7_code, 2, (some .int), false, 1), (⟨"ItalicsLean$Told", "<init>", "()V"⟩, prog_10_method_1_code, 1, none, false, 0), (⟨"ItalicsLean$Told", "copy", "(LItalicsLean$Told;)V"⟩, prog_10_method_2_code, 2, none, false, 1), (⟨"ItalicsLean$Turns", "<init>", "()V"⟩, prog_11_method_1_code, 1, none, false, 0), (⟨"ItalicsLean$Turns", "prepare", "(I)V"⟩, prog_11_method_2_code, 4, none, false, 1), (⟨"ItalicsLean$Turns", "prepareOrder", "(I)V"⟩, prog_11_method_3_code, 7, none, false, 1), (⟨"ItalicsLean$Turns", "goFarther", "(I)Z"⟩, prog_11_method_4_code, 7, (some .boolean), false, 1), (⟨"ItalicsLean$Turns", "behind", "(II)I"⟩, prog_11_method_5_code, 4, (some .int), false, 2), (⟨"ItalicsLean$Turns", "answer", "(LItalicsLean$Row;I)I"⟩, prog_11_method_6_code, 7, (some .int), false, 2), (⟨"ItalicsLean$Turns", "lowestNearer", "(I)I"⟩, prog_11_method_7_code, 3, (some .int), false, 1), (⟨"ItalicsLean", "<init>", "()V"⟩, prog_1_method_1_code, 2, none, false, 0), (⟨"ItalicsLean", "person", "(II)I"⟩, prog_1_method_2_code, 3, (some .int), false, 2)]
def YL2 : List (MethodName × ByteArray × Nat × Option FieldType × Bool × Nat) := [(⟨"ItalicsLean", "rack", "(II)Z"⟩, prog_1_method_3_code, 3, (some .boolean), false, 2), (⟨"ItalicsLean", "feed", "(IIIII)I"⟩, prog_1_method_4_code, 6, (some .int), false, 5), (⟨"ItalicsLean", "end", "(I)I"⟩, prog_1_method_5_code, 2, (some .int), false, 1), (⟨"ItalicsLean", "text", "()I"⟩, prog_1_method_6_code, 2, (some .int), false, 0), (⟨"ItalicsLean", "fault", "(I)I"⟩, prog_1_method_7_code, 2, (some .int), false, 1), (⟨"ItalicsLean", "by", "(I)Z"⟩, prog_1_method_8_code, 2, (some .boolean), false, 1), (⟨"ItalicsLean", "swap", "(II)Z"⟩, prog_1_method_9_code, 3, (some .boolean), false, 2), (⟨"ItalicsLean", "turn", "(I)Z"⟩, prog_1_method_10_code, 2, (some .boolean), false, 1), (⟨"ItalicsLean", "prop", "(IZ)Z"⟩, prog_1_method_11_code, 3, (some .boolean), false, 2), (⟨"ItalicsLean", "year", "(I)I"⟩, prog_1_method_12_code, 2, (some .int), false, 1), (⟨"ItalicsLean", "played", "(I)I"⟩, prog_1_method_13_code, 4, (some .int), false, 1), (⟨"ItalicsLean", "ages", "(II)I"⟩, prog_1_method_14_code, 5, (some .int), false, 2), (⟨"ItalicsLean", "undo", "()I"⟩, prog_1_method_15_code, 1, (some .int), false, 0), (⟨"ItalicsLean", "of", "(II)I"⟩, prog_1_method_16_code, 3, (some .int), false, 2), (⟨"ItalicsLean", "seat", "(II)I"⟩, prog_1_method_17_code, 3, (some .int), false, 2), (⟨"ItalicsLean", "hears", "(III)I"⟩, prog_1_method_18_code, 4, (some .int), false, 3), (⟨"ItalicsLean", "is", "(I)I"⟩, prog_1_method_19_code, 2, (some .int), false, 1), (⟨"ItalicsLean", "book", "(II)I"⟩, prog_1_method_20_code, 3, (some .int), false, 2), (⟨"ItalicsLean", "foretold", "(II)I"⟩, prog_1_method_21_code, 4, (some .int), false, 2), (⟨"ItalicsLean", "still", "(IZ)I"⟩, prog_1_method_22_code, 6, (some .int), false, 2), (⟨"ItalicsLean", "upright", "(II)I"⟩, prog_1_method_23_code, 4, (some .int), false, 2), (⟨"ItalicsLean", "byTurns", "(I)I"⟩, prog_1_method_24_code, 2, (some .int), false, 1), (⟨"ItalicsLean", "seats", "(ZI)I"⟩, prog_1_method_25_code, 7, (some .int), false, 2), (⟨"ItalicsLean", "ragged", "(I)I"⟩, prog_1_method_26_code, 4, (some .int), false, 1), (⟨"ItalicsLean", "word", "(I)I"⟩, prog_1_method_27_code, 2, (some .int), false, 1), (⟨"ItalicsLean", "page", "(II)I"⟩, prog_1_method_28_code, 3, (some .int), false, 2), (⟨"ItalicsLean", "line", "(II)I"⟩, prog_1_method_29_code, 3, (some .int), false, 2), (⟨"ItalicsLean", "narrowest", "(I)I"⟩, prog_1_method_30_code, 2, (some .int), false, 1), (⟨"ItalicsLean", "heard", "(II)I"⟩, prog_1_method_31_code, 3, (some .int), false, 2), (⟨"ItalicsLean", "meant", "(II)I"⟩, prog_1_method_32_code, 3, (some .int), false, 2), (⟨"ItalicsLean", "listen", "(I)I"⟩, prog_1_method_33_code, 6, (some .int), false, 1), (⟨"ItalicsLean", "bar", "(IZ)Z"⟩, prog_1_method_34_code, 3, (some .boolean), false, 2), (⟨"ItalicsLean", "props", "(Z)I"⟩, prog_1_method_35_code, 6, (some .int), false, 1), (⟨"ItalicsLean", "likely", "(IIIZ)J"⟩, prog_1_method_36_code, 5, (some .long), false, 4), (⟨"ItalicsLean", "first", "(IIZ)J"⟩, prog_1_method_37_code, 4, (some .long), false, 3), (⟨"ItalicsLean", "median", "()I"⟩, prog_1_method_38_code, 4, (some .int), false, 0), (⟨"ItalicsLean", "spread", "()I"⟩, prog_1_method_39_code, 4, (some .int), false, 0), (⟨"ItalicsLean", "quarrel", "(II)I"⟩, prog_1_method_40_code, 3, (some .int), false, 2), (⟨"ItalicsLean", "said", "(II)I"⟩, prog_1_method_41_code, 3, (some .int), false, 2), (⟨"ItalicsLean", "whose", "()I"⟩, prog_1_method_42_code, 3, (some .int), false, 0), (⟨"ItalicsLean", "straight", "()I"⟩, prog_1_method_43_code, 3, (some .int), false, 0), (⟨"ItalicsLean", "steepest", "()I"⟩, prog_1_method_44_code, 5, (some .int), false, 0), (⟨"ItalicsLean", "ledger", "(I)I"⟩, prog_1_method_45_code, 4, (some .int), false, 1), (⟨"ItalicsLean", "image", "()I"⟩, prog_1_method_46_code, 1, (some .int), false, 0), (⟨"ItalicsLean", "back", "()I"⟩, prog_1_method_47_code, 1, (some .int), false, 0), (⟨"ItalicsLean", "about", "(I)I"⟩, prog_1_method_48_code, 2, (some .int), false, 1), (⟨"ItalicsLean", "within", "(III)Z"⟩, prog_1_method_49_code, 3, (some .boolean), true, 3), (⟨"ItalicsLean", "isSlant", "(I)Z"⟩, prog_1_method_50_code, 1, (some .boolean), true, 1), (⟨"ItalicsLean", "clamp", "(II)I"⟩, prog_1_method_51_code, 2, (some .int), true, 2), (⟨"ItalicsLean", "withBit", "(IIZ)I"⟩, prog_1_method_52_code, 3, (some .int), true, 3)]
def YL3 : List (MethodName × ByteArray × Nat × Option FieldType × Bool × Nat) := [(⟨"ItalicsLean", "isText", "(I)Z"⟩, prog_1_method_53_code, 2, (some .boolean), false, 1), (⟨"ItalicsLean", "ruling", "()LItalicsLean$Text;"⟩, prog_1_method_54_code, 1, (some (.object "ItalicsLean$Text")), false, 0), (⟨"ItalicsLean", "passYears", "(I)I"⟩, prog_1_method_55_code, 4, (some .int), false, 1), (⟨"ItalicsLean", "perform", "(III)Z"⟩, prog_1_method_56_code, 5, (some .boolean), false, 3), (⟨"ItalicsLean", "moveInAges", "(I)V"⟩, prog_1_method_57_code, 5, none, false, 1), (⟨"ItalicsLean", "costOfOrder", "()I"⟩, prog_1_method_58_code, 4, (some .int), false, 0), (⟨"ItalicsLean", "gatherPairs", "(I)V"⟩, prog_1_method_59_code, 2, none, false, 1), (⟨"ItalicsLean", "agrees", "(LItalicsLean$Text;)Z"⟩, prog_1_method_60_code, 3, (some .boolean), false, 1), (⟨"ItalicsLean", "rankOf", "([II)I"⟩, prog_1_method_61_code, 6, (some .int), true, 2), (⟨"ItalicsLean", "unrank", "(II[I)V"⟩, prog_1_method_62_code, 9, none, true, 3), (⟨"ItalicsLeanModel", "<init>", "()V"⟩, prog_13_method_1_code, 1, none, false, 0), (⟨"ItalicsLeanModel", "copy", "([I[I)V"⟩, prog_13_method_2_code, 3, none, true, 2), (⟨"ItalicsLeanModel", "isIn", "(III)Z"⟩, prog_13_method_3_code, 3, (some .boolean), true, 3), (⟨"ItalicsLeanModel", "cut", "(JII)I"⟩, prog_13_method_4_code, 4, (some .int), true, 3), (⟨"ItalicsLeanModel", "size", "(I)I"⟩, prog_13_method_5_code, 1, (some .int), true, 1), (⟨"ItalicsLeanModel", "has", "(II)Z"⟩, prog_13_method_6_code, 2, (some .boolean), true, 2), (⟨"ItalicsLeanModel", "bits", "(I)I"⟩, prog_13_method_7_code, 3, (some .int), true, 1), (⟨"ItalicsLeanModel", "isPerson", "(I)Z"⟩, prog_13_method_8_code, 2, (some .boolean), false, 1), (⟨"ItalicsLeanModel", "isSteep", "(I)Z"⟩, prog_13_method_9_code, 1, (some .boolean), true, 1), (⟨"ItalicsLeanModel", "isSeat", "(I)Z"⟩, prog_13_method_10_code, 1, (some .boolean), true, 1), (⟨"ItalicsLeanModel", "slantIn", "(I)I"⟩, prog_13_method_11_code, 2, (some .int), false, 1), (⟨"ItalicsLeanModel", "seatOf", "(I)I"⟩, prog_13_method_12_code, 3, (some .int), false, 1), (⟨"ItalicsLeanModel", "person", "(II)I"⟩, prog_13_method_13_code, 4, (some .int), false, 2), (⟨"ItalicsLeanModel", "begin", "(I)V"⟩, prog_13_method_14_code, 2, none, false, 1), (⟨"ItalicsLeanModel", "rack", "(II)Z"⟩, prog_13_method_15_code, 3, (some .boolean), false, 2), (⟨"ItalicsLeanModel", "bar", "(IZ)Z"⟩, prog_13_method_16_code, 3, (some .boolean), false, 2), (⟨"ItalicsLeanModel", "four", "(I)V"⟩, prog_13_method_17_code, 3, none, false, 1), (⟨"ItalicsLeanModel", "feed", "(IIIII)I"⟩, prog_13_method_18_code, 6, (some .int), false, 5), (⟨"ItalicsLeanModel", "end", "(I)I"⟩, prog_13_method_19_code, 2, (some .int), false, 1), (⟨"ItalicsLeanModel", "byteAt", "(I)I"⟩, prog_13_method_20_code, 2, (some .int), false, 1), (⟨"ItalicsLeanModel", "isLetterByte", "(I)Z"⟩, prog_13_method_21_code, 1, (some .boolean), true, 1), (⟨"ItalicsLeanModel", "isFigure", "(I)Z"⟩, prog_13_method_22_code, 1, (some .boolean), true, 1), (⟨"ItalicsLeanModel", "isSign", "(I)Z"⟩, prog_13_method_23_code, 1, (some .boolean), true, 1), (⟨"ItalicsLeanModel", "nextToken", "()V"⟩, prog_13_method_24_code, 2, none, false, 0), (⟨"ItalicsLeanModel", "w2", "(II)J"⟩, prog_13_method_25_code, 2, (some .long), true, 2), (⟨"ItalicsLeanModel", "w3", "(III)J"⟩, prog_13_method_26_code, 3, (some .long), true, 3), (⟨"ItalicsLeanModel", "w4", "(IIII)J"⟩, prog_13_method_27_code, 4, (some .long), true, 4), (⟨"ItalicsLeanModel", "w5", "(IIIII)J"⟩, prog_13_method_28_code, 5, (some .long), true, 5), (⟨"ItalicsLeanModel", "w6", "(IIIIII)J"⟩, prog_13_method_29_code, 6, (some .long), true, 6), (⟨"ItalicsLeanModel", "isWord", "(J)Z"⟩, prog_13_method_30_code, 3, (some .boolean), false, 1), (⟨"ItalicsLeanModel", "emit", "(II)V"⟩, prog_13_method_31_code, 3, none, false, 2), (⟨"ItalicsLeanModel", "nameOf", "()I"⟩, prog_13_method_32_code, 1, (some .int), false, 0), (⟨"ItalicsLeanModel", "isOf", "(I)Z"⟩, prog_13_method_33_code, 2, (some .boolean), false, 1), (⟨"ItalicsLeanModel", "rank", "(I)I"⟩, prog_13_method_34_code, 1, (some .int), true, 1), (⟨"ItalicsLeanModel", "settle", "(I)V"⟩, prog_13_method_35_code, 2, none, false, 1), (⟨"ItalicsLeanModel", "openAt", "()I"⟩, prog_13_method_36_code, 2, (some .int), false, 0), (⟨"ItalicsLeanModel", "openNow", "()I"⟩, prog_13_method_37_code, 1, (some .int), false, 0), (⟨"ItalicsLeanModel", "isCompared", "()Z"⟩, prog_13_method_38_code, 2, (some .boolean), false, 0), (⟨"ItalicsLeanModel", "isAskAhead", "()Z"⟩, prog_13_method_39_code, 1, (some .boolean), false, 0), (⟨"ItalicsLeanModel", "opened", "(I)I"⟩, prog_13_method_40_code, 2, (some .int), false, 1)]
def YL4 : List (MethodName × ByteArray × Nat × Option FieldType × Bool × Nat) := [(⟨"ItalicsLeanModel", "beginOne", "()I"⟩, prog_13_method_41_code, 2, (some .int), false, 0), (⟨"ItalicsLeanModel", "endOne", "()I"⟩, prog_13_method_42_code, 1, (some .int), false, 0), (⟨"ItalicsLeanModel", "compareOf", "()I"⟩, prog_13_method_43_code, 1, (some .int), false, 0), (⟨"ItalicsLeanModel", "betweenOf", "()I"⟩, prog_13_method_44_code, 1, (some .int), false, 0), (⟨"ItalicsLeanModel", "partOf", "(I)I"⟩, prog_13_method_45_code, 2, (some .int), false, 1), (⟨"ItalicsLeanModel", "behindOne", "()I"⟩, prog_13_method_46_code, 4, (some .int), false, 0), (⟨"ItalicsLeanModel", "summed", "()I"⟩, prog_13_method_47_code, 2, (some .int), false, 0), (⟨"ItalicsLeanModel", "figure", "(III)I"⟩, prog_13_method_48_code, 4, (some .int), false, 3), (⟨"ItalicsLeanModel", "lawClause", "(I)I"⟩, prog_13_method_49_code, 3, (some .int), false, 1), (⟨"ItalicsLeanModel", "pair", "(IIJII)I"⟩, prog_13_method_50_code, 8, (some .int), false, 5), (⟨"ItalicsLeanModel", "body", "(II)I"⟩, prog_13_method_51_code, 3, (some .int), false, 2), (⟨"ItalicsLeanModel", "sortOf", "()I"⟩, prog_13_method_52_code, 1, (some .int), false, 0), (⟨"ItalicsLeanModel", "clause", "()I"⟩, prog_13_method_53_code, 5, (some .int), false, 0), (⟨"ItalicsLeanModel", "readText", "()I"⟩, prog_13_method_54_code, 2, (some .int), false, 0), (⟨"ItalicsLeanModel", "text", "()I"⟩, prog_13_method_55_code, 1, (some .int), false, 0), (⟨"ItalicsLeanModel", "fault", "(I)I"⟩, prog_13_method_56_code, 2, (some .int), false, 1), (⟨"ItalicsLeanModel", "by", "(I)Z"⟩, prog_13_method_57_code, 2, (some .boolean), false, 1), (⟨"ItalicsLeanModel", "clip", "(J)J"⟩, prog_13_method_58_code, 2, (some .long), true, 1), (⟨"ItalicsLeanModel", "two", "(IJJ)J"⟩, prog_13_method_59_code, 5, (some .long), true, 3), (⟨"ItalicsLeanModel", "isAsked", "(IJJ)Z"⟩, prog_13_method_60_code, 5, (some .boolean), true, 3), (⟨"ItalicsLeanModel", "seatSlant", "(J)J"⟩, prog_13_method_61_code, 3, (some .long), false, 1), (⟨"ItalicsLeanModel", "stepOf", "(JJ)J"⟩, prog_13_method_62_code, 4, (some .long), true, 2), (⟨"ItalicsLeanModel", "joined", "(IZZ)Z"⟩, prog_13_method_63_code, 3, (some .boolean), true, 3), (⟨"ItalicsLeanModel", "summedUp", "(II)J"⟩, prog_13_method_64_code, 10, (some .long), false, 2), (⟨"ItalicsLeanModel", "says", "(IIII)I"⟩, prog_13_method_65_code, 6, (some .int), false, 4), (⟨"ItalicsLeanModel", "name", "(I)V"⟩, prog_13_method_66_code, 2, none, false, 1), (⟨"ItalicsLeanModel", "leansOf", "(II)I"⟩, prog_13_method_67_code, 4, (some .int), false, 2), (⟨"ItalicsLeanModel", "hearsOf", "(III)I"⟩, prog_13_method_68_code, 4, (some .int), false, 3), (⟨"ItalicsLeanModel", "write", "(I)V"⟩, prog_13_method_69_code, 3, none, false, 1), (⟨"ItalicsLeanModel", "anew", "()V"⟩, prog_13_method_70_code, 1, none, false, 0), (⟨"ItalicsLeanModel", "leanAll", "()V"⟩, prog_13_method_71_code, 4, none, false, 0), (⟨"ItalicsLeanModel", "pass", "()V"⟩, prog_13_method_72_code, 1, none, false, 0), (⟨"ItalicsLeanModel", "keep", "()V"⟩, prog_13_method_73_code, 3, none, false, 0), (⟨"ItalicsLeanModel", "undo", "()I"⟩, prog_13_method_74_code, 3, (some .int), false, 0), (⟨"ItalicsLeanModel", "canSwap", "(II)Z"⟩, prog_13_method_75_code, 3, (some .boolean), false, 2), (⟨"ItalicsLeanModel", "swapNow", "(II)V"⟩, prog_13_method_76_code, 4, none, false, 2), (⟨"ItalicsLeanModel", "swap", "(II)Z"⟩, prog_13_method_77_code, 3, (some .boolean), false, 2), (⟨"ItalicsLeanModel", "turnNow", "(I)V"⟩, prog_13_method_78_code, 3, none, false, 1), (⟨"ItalicsLeanModel", "turn", "(I)Z"⟩, prog_13_method_79_code, 2, (some .boolean), false, 1), (⟨"ItalicsLeanModel", "canProp", "(IZ)Z"⟩, prog_13_method_80_code, 3, (some .boolean), false, 2), (⟨"ItalicsLeanModel", "prop", "(IZ)Z"⟩, prog_13_method_81_code, 3, (some .boolean), false, 2), (⟨"ItalicsLeanModel", "arePassed", "(I)Z"⟩, prog_13_method_82_code, 3, (some .boolean), false, 1), (⟨"ItalicsLeanModel", "year", "(I)I"⟩, prog_13_method_83_code, 2, (some .int), false, 1), (⟨"ItalicsLeanModel", "isPlayed", "(I)Z"⟩, prog_13_method_84_code, 4, (some .boolean), false, 1), (⟨"ItalicsLeanModel", "played", "(I)I"⟩, prog_13_method_85_code, 3, (some .int), false, 1), (⟨"ItalicsLeanModel", "happens", "(I)V"⟩, prog_13_method_86_code, 3, none, false, 1), (⟨"ItalicsLeanModel", "ages", "(II)I"⟩, prog_13_method_87_code, 5, (some .int), false, 2), (⟨"ItalicsLeanModel", "of", "(II)I"⟩, prog_13_method_88_code, 3, (some .int), false, 2), (⟨"ItalicsLeanModel", "seat", "(II)I"⟩, prog_13_method_89_code, 3, (some .int), false, 2), (⟨"ItalicsLeanModel", "hears", "(III)I"⟩, prog_13_method_90_code, 4, (some .int), false, 3)]
def YL5 : List (MethodName × ByteArray × Nat × Option FieldType × Bool × Nat) := [(⟨"ItalicsLeanModel", "is", "(I)I"⟩, prog_13_method_91_code, 2, (some .int), false, 1), (⟨"ItalicsLeanModel", "entry", "(II)I"⟩, prog_13_method_92_code, 4, (some .int), false, 2), (⟨"ItalicsLeanModel", "book", "(II)I"⟩, prog_13_method_93_code, 3, (some .int), false, 2), (⟨"ItalicsLeanModel", "ledger", "(I)I"⟩, prog_13_method_94_code, 4, (some .int), false, 1), (⟨"ItalicsLeanModel", "straight", "()I"⟩, prog_13_method_95_code, 3, (some .int), false, 0), (⟨"ItalicsLeanModel", "steepest", "()I"⟩, prog_13_method_96_code, 3, (some .int), false, 0), (⟨"ItalicsLeanModel", "setAside", "()V"⟩, prog_13_method_97_code, 2, none, false, 0), (⟨"ItalicsLeanModel", "putBack", "()V"⟩, prog_13_method_98_code, 2, none, false, 0), (⟨"ItalicsLeanModel", "foretold", "(II)I"⟩, prog_13_method_99_code, 4, (some .int), false, 2), (⟨"ItalicsLeanModel", "slantCode", "()I"⟩, prog_13_method_100_code, 3, (some .int), false, 0), (⟨"ItalicsLeanModel", "still", "(IZ)I"⟩, prog_13_method_101_code, 6, (some .int), false, 2), (⟨"ItalicsLeanModel", "upright", "(II)I"⟩, prog_13_method_102_code, 4, (some .int), false, 2), (⟨"ItalicsLeanModel", "turned", "(II)I"⟩, prog_13_method_103_code, 8, (some .int), false, 2), (⟨"ItalicsLeanModel", "orderOf", "(Z)I"⟩, prog_13_method_104_code, 4, (some .int), false, 1), (⟨"ItalicsLeanModel", "layFars", "()V"⟩, prog_13_method_105_code, 5, none, false, 0), (⟨"ItalicsLeanModel", "byTurns", "(I)I"⟩, prog_13_method_106_code, 5, (some .int), false, 1), (⟨"ItalicsLeanModel", "exchange", "(II)V"⟩, prog_13_method_107_code, 4, none, false, 2), (⟨"ItalicsLeanModel", "isNextRow", "(I)Z"⟩, prog_13_method_108_code, 6, (some .boolean), false, 1), (⟨"ItalicsLeanModel", "rackedSum", "()I"⟩, prog_13_method_109_code, 3, (some .int), false, 0), (⟨"ItalicsLeanModel", "seats", "(ZI)I"⟩, prog_13_method_110_code, 8, (some .int), false, 2), (⟨"ItalicsLeanModel", "ragged", "(I)I"⟩, prog_13_method_111_code, 4, (some .int), false, 1), (⟨"ItalicsLeanModel", "word", "(I)I"⟩, prog_13_method_112_code, 2, (some .int), false, 1), (⟨"ItalicsLeanModel", "widthOf", "(II)I"⟩, prog_13_method_113_code, 5, (some .int), false, 2), (⟨"ItalicsLeanModel", "layPage", "(I)V"⟩, prog_13_method_114_code, 7, none, false, 1), (⟨"ItalicsLeanModel", "page", "(II)I"⟩, prog_13_method_115_code, 3, (some .int), false, 2), (⟨"ItalicsLeanModel", "line", "(II)I"⟩, prog_13_method_116_code, 5, (some .int), false, 2), (⟨"ItalicsLeanModel", "linesBy", "(I)I"⟩, prog_13_method_117_code, 5, (some .int), false, 1), (⟨"ItalicsLeanModel", "narrowest", "(I)I"⟩, prog_13_method_118_code, 3, (some .int), false, 1), (⟨"ItalicsLeanModel", "heard", "(II)I"⟩, prog_13_method_119_code, 3, (some .int), false, 2), (⟨"ItalicsLeanModel", "isMeant", "(III)Z"⟩, prog_13_method_120_code, 5, (some .boolean), false, 3), (⟨"ItalicsLeanModel", "meant", "(II)I"⟩, prog_13_method_121_code, 6, (some .int), false, 2), (⟨"ItalicsLeanModel", "mostLeft", "(II)I"⟩, prog_13_method_122_code, 7, (some .int), false, 2), (⟨"ItalicsLeanModel", "listen", "(I)I"⟩, prog_13_method_123_code, 6, (some .int), false, 1), (⟨"ItalicsLeanModel", "areHeld", "(I)Z"⟩, prog_13_method_124_code, 3, (some .boolean), false, 1), (⟨"ItalicsLeanModel", "props", "(Z)I"⟩, prog_13_method_125_code, 4, (some .int), false, 1), (⟨"ItalicsLeanModel", "divisor", "(JJ)J"⟩, prog_13_method_126_code, 10, (some .long), true, 2), (⟨"ItalicsLeanModel", "threes", "(I)J"⟩, prog_13_method_127_code, 4, (some .long), true, 1), (⟨"ItalicsLeanModel", "goOne", "()V"⟩, prog_13_method_128_code, 2, none, false, 0), (⟨"ItalicsLeanModel", "part", "(JJZ)J"⟩, prog_13_method_129_code, 5, (some .long), true, 3), (⟨"ItalicsLeanModel", "likely", "(IIIZ)J"⟩, prog_13_method_130_code, 6, (some .long), false, 4), (⟨"ItalicsLeanModel", "first", "(IIZ)J"⟩, prog_13_method_131_code, 5, (some .long), false, 3), (⟨"ItalicsLeanModel", "median", "()I"⟩, prog_13_method_132_code, 6, (some .int), false, 0), (⟨"ItalicsLeanModel", "spread", "()I"⟩, prog_13_method_133_code, 4, (some .int), false, 0), (⟨"ItalicsLeanModel", "isWon", "(II)Z"⟩, prog_13_method_134_code, 4, (some .boolean), false, 2), (⟨"ItalicsLeanModel", "quarrel", "(II)I"⟩, prog_13_method_135_code, 5, (some .int), false, 2), (⟨"ItalicsLeanModel", "said", "(II)I"⟩, prog_13_method_136_code, 3, (some .int), false, 2), (⟨"ItalicsLeanModel", "whose", "()I"⟩, prog_13_method_137_code, 5, (some .int), false, 0), (⟨"ItalicsLeanModel", "image", "()I"⟩, prog_13_method_138_code, 1, (some .int), false, 0), (⟨"ItalicsLeanModel", "back", "()I"⟩, prog_13_method_139_code, 1, (some .int), false, 0), (⟨"ItalicsLeanModel", "about", "(I)I"⟩, prog_13_method_140_code, 2, (some .int), false, 1)]
def YL6 : List (MethodName × ByteArray × Nat × Option FieldType × Bool × Nat) := [(⟨"ItalicsLeanLaw", "law", "([I)Z"⟩, code, 4, (some .boolean), true, 1)]
def YL : List (MethodName × ByteArray × Nat × Option FieldType × Bool × Nat) := YL0 ++ (YL1 ++ (YL2 ++ (YL3 ++ (YL4 ++ (YL5 ++ (YL6))))))
/-- what the words say of a method -/
def yOk (q : MethodName × ByteArray × Nat × Option FieldType × Bool × Nat) (p : Nat × Nat × Nat × Nat) : Bool :=
  decide (lw_tbl[p.2.1]? = some (Cond.initialized q.1.cls)) &&
  (if q.2.2.2.2.1 then decide (lw_tbl[p.2.2.1]? = some (Cond.static q.1)) else decide (lw_tbl[p.2.2.1]? = some (Cond.instanceMethod q.1)) && (decide (q.1.name = "<init>") || decide (lw_tbl[p.2.2.2]? = some (Cond.selects q.1.cls q.1 q.1)))) &&
  decide (q.1.cls ≠ "java/lang/invoke/MethodHandle") && decide (q.1.cls ≠ "java/lang/invoke/VarHandle") && decide ((parseMethodDescriptor q.1.desc).map (fun d => d.parameters.length) = some q.2.2.2.2.2) && decide (plainName q.1.cls = true)
def YP0 : List (Nat × Nat × Nat × Nat) := [(1086, 129, 1085, 0), (1106, 129, 1104, 1105), (1110, 129, 1109, 41), (1114, 129, 1113, 42), (1124, 129, 1122, 1123), (325, 117, 324, 0), (795, 117, 793, 794), (808, 117, 806, 807), (913, 117, 911, 912), (819, 117, 818, 28), (827, 117, 826, 29), (835, 117, 834, 30), (839, 117, 838, 31), (842, 117, 841, 0), (811, 117, 810, 0), (362, 119, 361, 0), (1149, 119, 1147, 1148), (1156, 119, 1154, 1155), (341, 118, 340, 0), (1042, 118, 1040, 1041), (1046, 118, 1045, 39), (1054, 118, 1052, 1053), (1063, 118, 1061, 1062), (1069, 118, 1068, 0), (281, 116, 280, 0), (485, 116, 483, 484), (497, 116, 495, 496), (595, 116, 594, 6), (526, 116, 525, 3), (530, 116, 529, 4), (599, 116, 598, 7), (699, 116, 698, 23), (702, 116, 701, 0), (705, 116, 704, 0), (607, 116, 606, 8), (611, 116, 610, 9), (615, 116, 614, 10), (648, 116, 647, 16), (652, 116, 651, 17), (656, 116, 655, 18), (660, 116, 659, 19), (665, 116, 664, 20), (683, 116, 682, 21), (687, 116, 686, 22), (636, 116, 635, 14), (628, 116, 627, 12), (623, 116, 622, 11), (642, 116, 641, 15), (632, 116, 631, 13), (535, 116, 534, 5)]
set_option maxRecDepth 20000 in
theorem YL0_ok : (YL0.zip YP0).all (fun q => yOk q.1 q.2) = true := by decide +kernel
set_option maxRecDepth 20000 in
theorem YL0_code : (YP0.map fun p => lw_tbl[p.1]?) = (YL0.take 50).map fun q => some (Cond.code q.1 q.2.1 q.2.2.1 q.2.2.2.1) := rfl
def YP1 : List (Nat × Nat × Nat × Nat) := [(505, 116, 504, 0), (515, 116, 514, 1), (522, 116, 521, 2), (508, 116, 507, 0), (511, 116, 510, 0), (143, 113, 142, 0), (732, 113, 730, 731), (473, 113, 471, 472), (823, 113, 821, 822), (815, 113, 813, 814), (772, 113, 770, 771), (728, 113, 726, 727), (751, 113, 749, 750), (759, 113, 757, 758), (768, 113, 766, 767), (776, 113, 774, 775), (803, 113, 801, 802), (799, 113, 797, 798), (858, 113, 856, 857), (925, 113, 923, 924), (929, 113, 927, 928), (933, 113, 931, 932), (949, 113, 947, 948), (1169, 113, 1167, 1168), (941, 113, 939, 940), (744, 113, 742, 743), (893, 113, 891, 892), (202, 114, 201, 0), (736, 114, 734, 735), (889, 114, 887, 888), (1210, 114, 1208, 1209), (740, 114, 739, 25), (375, 120, 374, 0), (501, 120, 499, 500), (603, 120, 601, 602), (619, 120, 617, 618), (672, 120, 670, 671), (678, 120, 676, 677), (831, 120, 829, 830), (219, 115, 218, 0), (1215, 115, 1213, 1214), (962, 128, 961, 0), (983, 128, 981, 982), (990, 128, 989, 34), (1001, 128, 1000, 35), (1005, 128, 1004, 36), (1009, 128, 1007, 1008), (1013, 128, 1012, 37), (135, 112, 134, 0), (463, 112, 461, 462)]
set_option maxRecDepth 20000 in
theorem YL1_ok : (YL1.zip YP1).all (fun q => yOk q.1 q.2) = true := by decide +kernel
set_option maxRecDepth 20000 in
theorem YL1_code : (YP1.map fun p => lw_tbl[p.1]?) = (YL1.take 50).map fun q => some (Cond.code q.1 q.2.1 q.2.2.1 q.2.2.2.1) := rfl
def YP2 : List (Nat × Nat × Nat × Nat) := [(477, 112, 475, 476), (481, 112, 479, 480), (489, 112, 487, 488), (493, 112, 491, 492), (712, 112, 710, 711), (716, 112, 714, 715), (724, 112, 722, 723), (755, 112, 753, 754), (764, 112, 762, 763), (783, 112, 781, 782), (862, 112, 860, 861), (876, 112, 874, 875), (885, 112, 883, 884), (897, 112, 895, 896), (904, 112, 902, 903), (909, 112, 907, 908), (917, 112, 915, 916), (921, 112, 919, 920), (937, 112, 935, 936), (945, 112, 943, 944), (953, 112, 951, 952), (957, 112, 955, 956), (1017, 112, 1015, 1016), (1029, 112, 1027, 1028), (1034, 112, 1032, 1033), (1038, 112, 1036, 1037), (1050, 112, 1048, 1049), (1059, 112, 1057, 1058), (1073, 112, 1071, 1072), (1077, 112, 1075, 1076), (1120, 112, 1118, 1119), (1129, 112, 1127, 1128), (1134, 112, 1132, 1133), (1144, 112, 1142, 1143), (1161, 112, 1159, 1160), (1165, 112, 1163, 1164), (1173, 112, 1171, 1172), (1178, 112, 1176, 1177), (1182, 112, 1180, 1181), (1186, 112, 1184, 1185), (1194, 112, 1192, 1193), (1198, 112, 1196, 1197), (1202, 112, 1200, 1201), (1206, 112, 1204, 1205), (1220, 112, 1218, 1219), (1224, 112, 1222, 1223), (469, 112, 468, 0), (466, 112, 465, 0), (846, 112, 845, 0), (779, 112, 778, 0)]
set_option maxRecDepth 20000 in
theorem YL2_ok : (YL2.zip YP2).all (fun q => yOk q.1 q.2) = true := by decide +kernel
set_option maxRecDepth 20000 in
theorem YL2_code : (YP2.map fun p => lw_tbl[p.1]?) = (YL2.take 50).map fun q => some (Cond.code q.1 q.2.1 q.2.2.1 q.2.2.2.1) := rfl
def YP3 : List (Nat × Nat × Nat × Nat) := [(720, 112, 719, 24), (791, 112, 790, 27), (787, 112, 786, 26), (866, 112, 865, 32), (881, 112, 880, 33), (1022, 112, 1021, 38), (1081, 112, 1080, 40), (1190, 112, 1189, 43), (997, 112, 996, 0), (993, 112, 992, 0), (1229, 121, 1228, 0), (1234, 121, 1233, 0), (1363, 121, 1362, 0), (1649, 121, 1648, 0), (1717, 121, 1716, 0), (1447, 121, 1446, 0), (1839, 121, 1838, 0), (1554, 121, 1553, 73), (1360, 121, 1359, 0), (1374, 121, 1373, 0), (1617, 121, 1616, 85), (1609, 121, 1608, 83), (1357, 121, 1355, 1356), (1367, 121, 1366, 44), (1371, 121, 1369, 1370), (1378, 121, 1376, 1377), (1386, 121, 1385, 45), (1382, 121, 1380, 1381), (1390, 121, 1388, 1389), (1406, 121, 1405, 48), (1413, 121, 1412, 0), (1409, 121, 1408, 0), (1417, 121, 1416, 0), (1402, 121, 1401, 47), (1437, 121, 1436, 0), (1434, 121, 1433, 0), (1431, 121, 1430, 0), (1428, 121, 1427, 0), (1444, 121, 1443, 0), (1441, 121, 1440, 51), (1502, 121, 1501, 64), (1518, 121, 1517, 68), (1522, 121, 1521, 69), (1490, 121, 1489, 0), (1498, 121, 1497, 63), (1483, 121, 1482, 60), (1479, 121, 1478, 59), (1487, 121, 1486, 61), (1530, 121, 1529, 71), (1526, 121, 1525, 70)]
set_option maxRecDepth 20000 in
theorem YL3_ok : (YL3.zip YP3).all (fun q => yOk q.1 q.2) = true := by decide +kernel
set_option maxRecDepth 20000 in
theorem YL3_code : (YP3.map fun p => lw_tbl[p.1]?) = (YL3.take 50).map fun q => some (Cond.code q.1 q.2.1 q.2.2.1 q.2.2.2.1) := rfl
def YP4 : List (Nat × Nat × Nat × Nat) := [(1514, 121, 1513, 67), (1510, 121, 1509, 66), (1494, 121, 1493, 62), (1475, 121, 1474, 58), (1506, 121, 1505, 65), (1471, 121, 1470, 57), (1467, 121, 1466, 56), (1459, 121, 1458, 54), (1463, 121, 1462, 55), (1455, 121, 1454, 53), (1451, 121, 1450, 52), (1425, 121, 1424, 50), (1421, 121, 1420, 49), (1398, 121, 1397, 46), (1394, 121, 1392, 1393), (1534, 121, 1532, 1533), (1538, 121, 1536, 1537), (1638, 121, 1637, 0), (1635, 121, 1634, 0), (1643, 121, 1642, 0), (1632, 121, 1631, 88), (1620, 121, 1619, 0), (1646, 121, 1645, 0), (1628, 121, 1627, 87), (1624, 121, 1623, 86), (1613, 121, 1612, 84), (1605, 121, 1604, 82), (1690, 121, 1689, 92), (1653, 121, 1652, 89), (1594, 121, 1593, 80), (1601, 121, 1600, 81), (1590, 121, 1589, 79), (1558, 121, 1557, 74), (1542, 121, 1540, 1541), (1550, 121, 1549, 72), (1562, 121, 1561, 75), (1546, 121, 1544, 1545), (1570, 121, 1569, 76), (1566, 121, 1564, 1565), (1578, 121, 1577, 77), (1574, 121, 1572, 1573), (1586, 121, 1585, 78), (1582, 121, 1580, 1581), (1661, 121, 1660, 90), (1657, 121, 1655, 1656), (1674, 121, 1673, 91), (1670, 121, 1668, 1669), (1678, 121, 1676, 1677), (1682, 121, 1680, 1681), (1686, 121, 1684, 1685)]
set_option maxRecDepth 20000 in
theorem YL4_ok : (YL4.zip YP4).all (fun q => yOk q.1 q.2) = true := by decide +kernel
set_option maxRecDepth 20000 in
theorem YL4_code : (YP4.map fun p => lw_tbl[p.1]?) = (YL4.take 50).map fun q => some (Cond.code q.1 q.2.1 q.2.2.1 q.2.2.2.1) := rfl
def YP5 : List (Nat × Nat × Nat × Nat) := [(1694, 121, 1692, 1693), (1702, 121, 1701, 93), (1698, 121, 1696, 1697), (1706, 121, 1704, 1705), (1710, 121, 1708, 1709), (1714, 121, 1712, 1713), (1725, 121, 1724, 94), (1729, 121, 1728, 95), (1721, 121, 1719, 1720), (1737, 121, 1736, 96), (1733, 121, 1731, 1732), (1741, 121, 1739, 1740), (1757, 121, 1756, 99), (1753, 121, 1752, 98), (1749, 121, 1748, 97), (1745, 121, 1743, 1744), (1774, 121, 1773, 102), (1770, 121, 1769, 101), (1766, 121, 1765, 100), (1761, 121, 1759, 1760), (1778, 121, 1776, 1777), (1782, 121, 1780, 1781), (1794, 121, 1793, 104), (1790, 121, 1789, 103), (1786, 121, 1784, 1785), (1798, 121, 1796, 1797), (1807, 121, 1806, 105), (1803, 121, 1801, 1802), (1811, 121, 1809, 1810), (1819, 121, 1818, 106), (1815, 121, 1813, 1814), (1828, 121, 1827, 107), (1823, 121, 1821, 1822), (1836, 121, 1835, 108), (1832, 121, 1830, 1831), (1858, 121, 1857, 0), (1851, 121, 1850, 0), (1848, 121, 1847, 109), (1855, 121, 1854, 0), (1843, 121, 1841, 1842), (1862, 121, 1860, 1861), (1866, 121, 1864, 1865), (1870, 121, 1868, 1869), (1878, 121, 1877, 110), (1874, 121, 1872, 1873), (1882, 121, 1880, 1881), (1886, 121, 1884, 1885), (1890, 121, 1888, 1889), (1894, 121, 1892, 1893), (1898, 121, 1896, 1897)]
set_option maxRecDepth 20000 in
theorem YL5_ok : (YL5.zip YP5).all (fun q => yOk q.1 q.2) = true := by decide +kernel
set_option maxRecDepth 20000 in
theorem YL5_code : (YP5.map fun p => lw_tbl[p.1]?) = (YL5.take 50).map fun q => some (Cond.code q.1 q.2.1 q.2.2.1 q.2.2.2.1) := rfl
def YP6 : List (Nat × Nat × Nat × Nat) := []
set_option maxRecDepth 20000 in
theorem YL6_ok : (YL6.zip YP6).all (fun q => yOk q.1 q.2) = true := by decide +kernel
set_option maxRecDepth 20000 in
theorem YL6_code : (YP6.map fun p => lw_tbl[p.1]?) = (YL6.take 0).map fun q => some (Cond.code q.1 q.2.1 q.2.2.1 q.2.2.2.1) := rfl
/-- method links: class, entry, the method, whether by nest, place -/
def MLT : List (Nat × Nat × Nat × Nat × Nat) := [(12, 9, 98, 0, 133), (12, 13, 99, 0, 460), (10, 92, 147, 0, 464), (10, 96, 146, 0, 467), (10, 104, 57, 0, 470), (12, 18, 100, 0, 474), (12, 23, 101, 0, 478), (10, 114, 25, 0, 482), (12, 28, 102, 0, 486), (12, 33, 103, 0, 490), (10, 120, 26, 0, 494), (4, 48, 83, 0, 498), (4, 53, 50, 0, 502), (4, 225, 53, 0, 506), (4, 228, 54, 0, 509), (4, 231, 51, 0, 512), (4, 234, 52, 0, 519), (4, 56, 28, 0, 523), (4, 60, 29, 0, 527), (4, 81, 49, 0, 532), (4, 64, 27, 0, 592), (4, 73, 30, 0, 596), (4, 104, 84, 0, 600), (4, 108, 34, 0, 604), (4, 138, 35, 0, 608), (4, 145, 36, 0, 612), (4, 141, 85, 0, 616), (4, 125, 46, 0, 620), (4, 148, 45, 0, 625), (4, 111, 48, 0, 629), (4, 115, 44, 0, 633), (4, 135, 47, 0, 639), (4, 159, 37, 0, 645), (4, 166, 38, 0, 649), (4, 181, 39, 0, 653), (4, 186, 40, 0, 657), (4, 193, 41, 0, 662), (4, 171, 86, 0, 669), (7, 37, 85, 0, 673), (4, 176, 87, 0, 675), (4, 162, 42, 0, 680), (4, 196, 43, 0, 684), (4, 76, 31, 0, 696), (4, 118, 32, 0, 700), (4, 122, 33, 0, 703), (12, 38, 104, 0, 709), (12, 42, 105, 0, 713), (10, 134, 150, 0, 717), (12, 47, 106, 0, 721), (10, 140, 61, 0, 725), (5, 46, 56, 0, 729), (10, 144, 78, 0, 733), (6, 22, 81, 0, 737), (6, 26, 75, 0, 741), (10, 148, 62, 0, 748), (12, 51, 107, 0, 752), (10, 151, 63, 0, 756), (5, 50, 62, 0, 760), (12, 55, 108, 0, 761), (10, 154, 64, 0, 765), (5, 54, 60, 0, 769), (10, 158, 65, 0, 773), (12, 60, 109, 0, 780), (10, 165, 152, 0, 784), (10, 190, 151, 0, 788), (10, 193, 6, 0, 792), (1, 22, 67, 0, 796), (5, 61, 66, 0, 800), (1, 30, 60, 0, 804), (1, 40, 7, 0, 805), (1, 59, 14, 0, 809), (1, 63, 59, 0, 812), (1, 67, 9, 0, 816), (1, 71, 58, 0, 820), (1, 74, 10, 0, 824), (1, 87, 88, 0, 828), (1, 90, 11, 0, 832), (1, 93, 12, 0, 836), (1, 97, 13, 0, 840), (1, 44, 68, 0, 855), (12, 64, 110, 0, 859), (10, 181, 153, 0, 863), (10, 381, 99, 0, 867), (10, 384, 100, 0, 868), (10, 387, 106, 0, 869), (10, 390, 107, 0, 870), (10, 393, 108, 0, 871), (12, 68, 111, 0, 873), (10, 187, 66, 0, 877), (10, 197, 154, 0, 878), (12, 72, 112, 0, 882), (10, 203, 79, 0, 886), (6, 32, 76, 0, 890), (12, 76, 113, 0, 894), (10, 206, 56, 0, 898), (10, 215, 59, 0, 899), (10, 218, 7, 0, 900), (12, 80, 114, 0, 901), (10, 225, 60, 0, 905), (12, 84, 115, 0, 906), (10, 228, 8, 0, 910), (12, 89, 116, 0, 914), (12, 93, 117, 0, 918), (10, 241, 69, 0, 922), (10, 244, 70, 0, 926), (10, 247, 71, 0, 930), (12, 97, 118, 0, 934), (10, 250, 74, 0, 938), (12, 101, 119, 0, 942), (10, 253, 72, 0, 946), (12, 106, 120, 0, 950), (12, 110, 121, 0, 954), (10, 260, 92, 0, 980), (9, 35, 93, 0, 987), (9, 39, 94, 0, 998), (9, 51, 95, 0, 1002), (10, 263, 96, 0, 1006), (9, 61, 97, 0, 1010), (12, 114, 122, 0, 1014), (10, 270, 159, 0, 1018), (10, 274, 155, 0, 1019), (12, 119, 123, 0, 1026), (10, 277, 58, 0, 1030), (12, 123, 124, 0, 1031), (12, 127, 125, 0, 1035), (10, 286, 19, 0, 1039), (3, 31, 20, 0, 1043), (12, 131, 126, 0, 1047), (10, 296, 21, 0, 1051), (12, 135, 127, 0, 1056), (10, 299, 22, 0, 1060), (3, 45, 23, 0, 1067), (12, 139, 128, 0, 1070), (12, 143, 129, 0, 1074), (10, 312, 156, 0, 1078), (10, 396, 0, 0, 1084), (10, 399, 1, 0, 1103), (0, 31, 2, 0, 1107), (0, 43, 3, 0, 1111), (0, 56, 8, 0, 1115), (12, 147, 130, 0, 1117), (10, 323, 4, 0, 1121), (12, 151, 131, 0, 1126), (10, 329, 149, 0, 1130), (12, 155, 132, 0, 1131), (12, 160, 133, 0, 1141), (10, 340, 16, 0, 1146), (10, 344, 17, 0, 1153), (12, 165, 134, 0, 1158), (12, 170, 135, 0, 1162), (10, 348, 73, 0, 1166), (12, 174, 136, 0, 1170), (12, 178, 137, 0, 1175), (12, 182, 138, 0, 1179), (12, 186, 139, 0, 1183), (10, 372, 157, 0, 1187), (12, 190, 140, 0, 1191), (12, 194, 141, 0, 1195), (12, 198, 142, 0, 1199), (12, 202, 143, 0, 1203), (10, 375, 80, 0, 1207), (10, 378, 90, 0, 1212), (12, 206, 144, 0, 1217), (12, 210, 145, 0, 1221), (12, 12, 160, 0, 1227), (11, 90, 161, 0, 1232), (12, 17, 172, 0, 1354), (11, 102, 168, 0, 1358), (11, 94, 162, 0, 1361), (11, 105, 173, 0, 1364), (12, 22, 174, 0, 1368), (11, 109, 169, 0, 1372), (12, 154, 175, 0, 1375), (12, 27, 177, 0, 1379), (11, 115, 176, 0, 1383), (12, 32, 178, 0, 1387), (12, 37, 214, 0, 1391), (11, 277, 213, 0, 1395), (11, 199, 183, 0, 1399), (11, 121, 179, 0, 1403), (11, 131, 181, 0, 1407), (11, 138, 180, 0, 1411), (11, 147, 182, 0, 1415), (11, 274, 212, 0, 1418), (11, 260, 211, 0, 1422), (11, 162, 187, 0, 1426), (11, 158, 186, 0, 1429), (11, 154, 185, 0, 1432), (11, 150, 184, 0, 1435), (11, 214, 189, 0, 1438), (11, 172, 188, 0, 1442), (11, 266, 165, 0, 1445), (11, 270, 210, 0, 1448), (11, 253, 209, 0, 1452), (11, 249, 207, 0, 1456), (11, 257, 208, 0, 1460), (11, 246, 206, 0, 1464), (11, 240, 205, 0, 1468), (11, 234, 203, 0, 1472), (11, 196, 196, 0, 1476), (11, 192, 195, 0, 1480), (11, 228, 197, 0, 1484), (11, 182, 193, 0, 1488), (11, 231, 202, 0, 1491), (11, 222, 194, 0, 1495), (11, 185, 190, 0, 1499), (11, 237, 204, 0, 1503), (11, 208, 201, 0, 1507), (11, 243, 200, 0, 1511), (11, 202, 191, 0, 1515), (11, 205, 192, 0, 1519), (11, 211, 199, 0, 1523), (11, 218, 198, 0, 1527), (12, 41, 215, 0, 1531), (12, 46, 216, 0, 1535), (12, 75, 233, 0, 1539), (12, 50, 236, 0, 1543), (11, 348, 234, 0, 1547), (11, 98, 167, 0, 1551), (11, 351, 232, 0, 1555), (11, 354, 235, 0, 1559), (12, 54, 238, 0, 1563), (11, 357, 237, 0, 1567), (12, 59, 240, 0, 1571), (11, 360, 239, 0, 1575), (12, 63, 242, 0, 1579), (11, 367, 241, 0, 1583), (11, 364, 231, 0, 1587), (11, 342, 229, 0, 1591), (11, 345, 230, 0, 1598), (11, 336, 226, 0, 1602), (11, 317, 171, 0, 1606), (11, 320, 225, 0, 1610), (11, 288, 170, 0, 1614), (11, 294, 221, 0, 1618), (11, 323, 224, 0, 1621), (11, 310, 223, 0, 1625), (11, 291, 220, 0, 1629), (11, 298, 218, 0, 1633), (11, 284, 217, 0, 1636), (11, 302, 219, 0, 1641), (11, 306, 222, 0, 1644), (11, 313, 163, 0, 1647), (11, 339, 228, 0, 1650), (12, 67, 244, 0, 1654), (11, 385, 243, 0, 1658), (11, 370, 172, 0, 1662), (11, 373, 174, 0, 1663), (11, 376, 236, 0, 1664), (11, 379, 238, 0, 1665), (11, 382, 240, 0, 1666), (12, 71, 246, 0, 1667), (11, 388, 245, 0, 1671), (12, 79, 247, 0, 1675), (12, 83, 248, 0, 1679), (12, 88, 249, 0, 1683), (11, 391, 227, 0, 1687), (12, 92, 250, 0, 1691), (12, 96, 252, 0, 1695), (11, 394, 251, 0, 1699), (12, 201, 253, 0, 1703), (12, 193, 254, 0, 1707), (12, 197, 255, 0, 1711), (11, 397, 164, 0, 1715), (12, 100, 258, 0, 1718), (11, 400, 256, 0, 1722), (11, 403, 257, 0, 1726), (12, 105, 260, 0, 1730), (11, 406, 259, 0, 1734), (12, 109, 261, 0, 1738), (12, 113, 265, 0, 1742), (11, 416, 264, 0, 1746), (11, 409, 263, 0, 1750), (11, 413, 262, 0, 1754), (12, 118, 269, 0, 1758), (11, 423, 268, 0, 1763), (11, 426, 267, 0, 1767), (11, 419, 266, 0, 1771), (12, 122, 270, 0, 1775), (12, 126, 271, 0, 1779), (12, 130, 274, 0, 1783), (11, 432, 273, 0, 1787), (11, 429, 272, 0, 1791), (12, 134, 275, 0, 1795), (11, 435, 274, 0, 1799), (12, 138, 277, 0, 1800), (11, 438, 276, 0, 1804), (12, 142, 278, 0, 1808), (12, 146, 280, 0, 1812), (11, 441, 279, 0, 1816), (12, 150, 282, 0, 1820), (11, 444, 280, 0, 1824), (11, 447, 281, 0, 1825), (12, 159, 284, 0, 1829), (11, 450, 283, 0, 1833), (11, 453, 166, 0, 1837), (12, 164, 289, 0, 1840), (11, 463, 287, 0, 1845), (11, 466, 286, 0, 1849), (11, 470, 288, 0, 1853), (11, 458, 285, 0, 1856), (12, 169, 290, 0, 1859), (12, 173, 291, 0, 1863), (12, 177, 292, 0, 1867), (12, 181, 294, 0, 1871), (11, 474, 293, 0, 1875), (12, 185, 295, 0, 1879), (12, 189, 296, 0, 1883), (12, 205, 297, 0, 1887), (12, 209, 298, 0, 1891), (12, 213, 299, 0, 1895), (10, 11, 55, 1, 141), (10, 18, 77, 1, 200), (10, 25, 89, 1, 217), (10, 50, 24, 1, 279), (10, 57, 5, 1, 323), (10, 64, 18, 1, 339), (10, 71, 15, 1, 360), (10, 91, 82, 1, 373), (4, 213, 146, 1, 624), (5, 57, 149, 1, 777), (1, 78, 148, 1, 844), (10, 259, 91, 1, 960), (9, 28, 146, 1, 984), (9, 43, 159, 1, 991), (9, 47, 158, 1, 995), (3, 35, 146, 1, 1055)]
def YN (y : Nat) : MethodName := match nth YL y with
  | some q => q.1
  | none => ⟨"", "", ""⟩
set_option maxRecDepth 40000 in
theorem MLT_ok : MLT.all (fun q => decide (lw_tbl[q.2.2.2.2]? = some (if q.2.2.2.1 = 0 then Cond.methodLink (RN q.1) q.2.1 (YN q.2.2.1) else Cond.methodLinkNest (RN q.1) q.2.1 (YN q.2.2.1) "ItalicsLean"))) = true := by decide +kernel
/-- links of library methods -/
def BLT : List (Nat × Nat × Nat × Nat) := [(10, 3, 8, 136), (5, 3, 8, 144), (6, 3, 8, 203), (8, 3, 8, 220), (4, 3, 8, 282), (1, 3, 8, 326), (3, 3, 8, 342), (2, 3, 8, 363), (7, 3, 8, 376), (4, 237, 1, 516), (4, 217, 6, 536), (4, 221, 7, 546), (5, 64, 4, 745), (1, 106, 10, 849), (1, 112, 9, 852), (10, 351, 1, 872), (9, 3, 8, 963), (10, 360, 2, 1023), (3, 39, 0, 1064), (0, 3, 8, 1087), (0, 50, 2, 1116), (0, 62, 0, 1125), (10, 333, 3, 1135), (2, 18, 5, 1150), (2, 24, 0, 1151), (2, 30, 1, 1152), (10, 357, 0, 1174), (6, 35, 4, 1211), (8, 49, 4, 1216), (11, 1, 8, 1230)]
def BN (b : Nat) : MethodName := match b with
  | 0 => ⟨"java/lang/Math", "max", "(II)I"⟩
  | 1 => ⟨"java/lang/Math", "min", "(II)I"⟩
  | 2 => ⟨"java/lang/Math", "abs", "(I)I"⟩
  | 3 => ⟨"java/lang/Integer", "bitCount", "(I)I"⟩
  | 6 => ⟨"java/lang/String", "length", "()I"⟩
  | 7 => ⟨"java/lang/String", "charAt", "(I)C"⟩
  | 8 => ⟨"java/lang/Object", "<init>", "()V"⟩
  | 9 => ⟨"java/lang/Math", "max", "(JJ)J"⟩
  | 10 => ⟨"java/lang/Math", "min", "(JJ)J"⟩
  | _ => arraycopyName
set_option maxRecDepth 20000 in
theorem BLT_ok : BLT.all (fun q => decide (lw_tbl[q.2.2.2]? = some (Cond.methodLink (RN q.1) q.2.1 (BN q.2.2.1)))) = true := by decide +kernel
def CST : List (Nat × Nat × Int32 × Nat) := [(1, 101, 1000000, 843), (11, 53, 100000, 1231), (11, 137, 99999, 1410), (11, 422, 1000000, 1762)]
set_option maxRecDepth 20000 in
theorem CST_ok : CST.all (fun q => decide (lw_tbl[q.2.2.2]? = some (Cond.constant (RN q.1) q.2.1 q.2.2.1))) = true := by decide +kernel
def CSL : List (Nat × Nat × Int64 × Nat) := [(1, 102, (-1000000), 847), (1, 104, 1000000, 848), (10, 338, (-1), 1145), (2, 33, 3, 1157), (11, 145, 1152921504606846976, 1414), (11, 330, 577, 1595), (11, 332, 449, 1596), (11, 334, 30809, 1597), (11, 280, 1000000, 1639), (11, 282, (-1000000), 1640), (11, 461, (-1), 1844), (11, 456, 3, 1852)]
set_option maxRecDepth 20000 in
theorem CSL_ok : CSL.all (fun q => decide (lw_tbl[q.2.2.2]? = some (Cond.constantLong (RN q.1) q.2.1 q.2.2.1))) = true := by decide +kernel
def CLT : List (Nat × Nat × Nat × Nat × Nat × Nat) := [(12, 7, 10, 131, 132, 112), (10, 9, 5, 139, 140, 113), (10, 16, 6, 198, 199, 114), (10, 23, 8, 215, 216, 115), (10, 42, 7, 275, 372, 120), (10, 48, 4, 277, 278, 116), (10, 55, 1, 321, 322, 117), (10, 62, 3, 337, 338, 118), (10, 69, 2, 358, 359, 119), (10, 257, 9, 958, 959, 128), (10, 316, 0, 1082, 1083, 129), (12, 10, 11, 1225, 1226, 121)]
set_option maxRecDepth 20000 in
theorem CLT_ok : CLT.all (fun q => decide (lw_tbl[q.2.2.2.1]? = some (Cond.classLink (RN q.1) q.2.1 (RN q.2.2.1))) && decide (lw_tbl[q.2.2.2.2.1]? = some (Cond.instantiable (RN q.2.2.1) (NN q.2.2.1))) && decide (lw_tbl[q.2.2.2.2.2]? = some (Cond.initialized (RN q.2.2.1))) && Nat.blt q.2.2.1 12) = true := by decide +kernel
/-- text constants of the reader: entry, text, place -/
def STL : List (Nat × String × Nat) := [(79, "leans", 531), (85, "hears", 584), (87, "person", 585), (89, "rack", 586), (91, "swap", 587), (93, "turn", 588), (95, "prop", 589), (97, "free", 590), (99, "year", 591), (151, "step", 637), (153, "to", 638), (155, "seat", 643), (157, "if", 644), (191, "not", 661), (189, "and", 666), (184, "or", 667), (169, "then", 668), (174, "else", 674), (179, "end", 679), (199, "wind", 688), (129, "weight", 689), (201, "who", 690), (203, "slant", 691), (205, "left", 692), (207, "right", 693), (209, "word", 694), (211, "from", 695), (131, "at", 706), (133, "with", 707)]
set_option maxRecDepth 20000 in
theorem STL_ok : STL.all (fun q => decide (lw_tbl[q.2.2]? = some (Cond.stringRef "ItalicsLean$Reader" q.1 q.2.1))) = true := by decide +kernel
end
section
/-! HOW THE SMALL MACHINE'S CELLS LIE IN THE HEAP: cell n at the address B + n -/
def cv (E : Nat → Nat) (B : Nat) : AV → Value
  | .inl x => .int x
  | .inr (.inl x) => .long x
  | .inr (.inr (.inl none)) => .null
  | .inr (.inr (.inl (some n))) => .ref (B + n)
  | .inr (.inr (.inr e)) => .ref (E e)
def rfB (B : Nat) (o : Option Nat) : Option Nat := o.map (fun n => B + n)
theorem cv_P (E : Nat → Nat) (B : Nat) (o : Option Nat) : cv E B (vP o) = va_rf (rfB B o) := by cases o <;> rfl
def fv (B c : Nat) (r : List (Option Nat)) (h : DT) (n j : Nat) : Value := match KD c j with
  | 1 => .long (gG h n j)
  | 2 => va_rf (rfB B (r.getD j none))
  | _ => .int (gF h n j)
def fsv (B c : Nat) (r : List (Option Nat)) (h : DT) (n : Nat) : List Value := (List.range (NN c)).map (fv B c r h n)
def ce (kc : Nat → ClassId) (B : Nat) (h : DT) (n : Nat) : SC → va_E
  | .inl (c, r) => .inr (c, fsv B c r h n)
  | .inr (.inl (2, m)) => .inl (kc 2, m, .inr (.inl (fun j => gB h n j)))
  | .inr (.inl (t, m)) => .inl (kc t, m, .inl (fun j => gA h n j))
  | .inr (.inr r) => .inl (kc 3, r.length, .inr (.inr (.inr (.inr (fun j => rfB B (r.getD j none))))))
def wsO (kc : Nat → ClassId) (B : Nat) (H : HP) : va_W := H.1.mapIdx (fun n c => (B + n, ce kc B H.2 n c))
def szC : SC → Nat
  | .inl (c, _) => NN c
  | .inr (.inl (_, m)) => m
  | .inr (.inr r) => r.length
def tot : List SC → Nat
  | [] => 0
  | c :: l => szC c + tot l
theorem tot_app (a b : List SC) : tot (a ++ b) = tot a + tot b := by
  induction a with
  | nil => simp [tot]
  | cons x l ih => simp [tot, ih, Nat.add_assoc]
theorem nth_eq {α : Type} (l : List α) (n : Nat) : nth l n = l[n]? := by
  induction l generalizing n with
  | nil => simp [nth]
  | cons a l ih => cases n with
    | zero => simp [nth]
    | succ n => simp [nth, ih]
theorem putL_eq {α : Type} (l : List α) (n : Nat) (v : α) : putL l n v = l.set n v := by
  induction l generalizing n with
  | nil => simp [putL]
  | cons a l ih => cases n with
    | zero => simp [putL]
    | succ n => simp [putL, ih]
theorem tot_set {l : List SC} {n : Nat} {c c' : SC} (h : l[n]? = some c) (hs : szC c' = szC c) : tot (l.set n c') = tot l := by
  induction l generalizing n with
  | nil => simp at h
  | cons a l ih => cases n with
    | zero => simp at h; subst h; simp [tot, hs]
    | succ n => simp at h; simp [tot, ih h]
theorem wsO_at {kc : Nat → ClassId} {B : Nat} {H : HP} {n : Nat} {c : SC} (h : H.1[n]? = some c) : (wsO kc B H)[n]? = some (B + n, ce kc B H.2 n c) := by
  simp [wsO, List.getElem?_mapIdx, h]
theorem wsO_inv {kc : Nat → ClassId} {B : Nat} {H : HP} {n : Nat} {q : Nat × va_E} (h : (wsO kc B H)[n]? = some q) : ∃ c, H.1[n]? = some c ∧ q = (B + n, ce kc B H.2 n c) := by
  simp only [wsO, List.getElem?_mapIdx, Option.map_eq_some_iff] at h
  obtain ⟨c, h1, h2⟩ := h
  exact ⟨c, h1, h2.symm⟩
theorem wsO_len {kc : Nat → ClassId} {B : Nat} {H : HP} : (wsO kc B H).length = H.1.length := by simp [wsO]
/-- the addresses are apart -/
theorem wsO_D (kc : Nat → ClassId) (B : Nat) (H : HP) : va_D (fun q => B ≤ q) (wsO kc B H) := by
  refine ⟨fun i j p q hi hj e => ?_, fun k q hk => ?_⟩
  · obtain ⟨_, -, rfl⟩ := wsO_inv hi
    obtain ⟨_, -, rfl⟩ := wsO_inv hj
    exact Nat.add_left_cancel e
  · obtain ⟨_, -, rfl⟩ := wsO_inv hk
    exact Nat.le_add_right B k
/-- numbers lie as before but in cell n -/
def agr (h h' : DT) (n : Nat) : Prop := ∀ a, a ≠ n → h'.1 a = h.1 a ∧ h'.2.1 a = h.2.1 a ∧ h'.2.2.1 a = h.2.2.1 a ∧ h'.2.2.2 a = h.2.2.2 a
theorem ce_agr {kc : Nat → ClassId} {B : Nat} {h h' : DT} {n a : Nat} (H : agr h h' n) (ha : a ≠ n) (c : SC) : ce kc B h' a c = ce kc B h a c := by
  obtain ⟨h1, h2, h3, h4⟩ := H a ha
  match c with
  | .inl (c, r) =>
    simp only [ce, fsv]
    congr 2
    apply List.map_congr_left
    intro j _
    simp only [fv, gG, gF, h1, h2]
  | .inr (.inl (t, m)) =>
    match t with
    | 0 => simp only [ce, gA, h3]
    | 1 => simp only [ce, gA, h3]
    | 2 => simp only [ce, gB, h4]
    | t + 3 => simp only [ce, gA, h3]
  | .inr (.inr r) => rfl
theorem wsO_set {kc : Nat → ClassId} {B : Nat} {H : HP} {s' : List SC} {h' : DT} {n : Nat} {c c' : SC} (hn : H.1[n]? = some c) (hs : s' = H.1.set n c') (ha : agr H.2 h' n) : wsO kc B (s', h') = (wsO kc B H).set n (B + n, ce kc B h' n c') := by
  subst hs
  have hlt : n < H.1.length := (List.getElem?_eq_some_iff.mp hn).1
  apply List.ext_getElem?
  intro i
  by_cases hi : i = n
  · subst hi
    rw [List.getElem?_set_self (by rw [wsO_len]; exact hlt)]
    exact wsO_at (H := (H.1.set i c', h')) (by simp [hlt])
  · rw [List.getElem?_set_ne (Ne.symm hi)]
    simp only [wsO, List.getElem?_mapIdx, List.getElem?_set_ne (Ne.symm hi)]
    cases H.1[i]? with
    | none => rfl
    | some c0 => simp [ce_agr ha hi]
theorem wsO_set1 {kc : Nat → ClassId} {B : Nat} {H : HP} {h' : DT} {n : Nat} {c : SC} (hn : H.1[n]? = some c) (ha : agr H.2 h' n) : wsO kc B (H.1, h') = (wsO kc B H).set n (B + n, ce kc B h' n c) := by
  refine wsO_set hn ?_ ha
  obtain ⟨hl, he⟩ := List.getElem?_eq_some_iff.mp hn
  apply List.ext_getElem?
  intro i
  by_cases hi : n = i
  · subst hi
    rw [List.getElem?_set_self hl, hn]
  · rw [List.getElem?_set_ne hi]
theorem wsO_push {kc : Nat → ClassId} {B : Nat} {H : HP} {h' : DT} {c : SC} (ha : agr H.2 h' H.1.length) : wsO kc B (H.1 ++ [c], h') = wsO kc B H ++ [(B + H.1.length, ce kc B h' H.1.length c)] := by
  apply List.ext_getElem?
  intro i
  simp only [wsO, List.mapIdx_append, List.mapIdx_cons, List.mapIdx_nil]
  rw [List.getElem?_append, List.getElem?_append]
  simp only [List.length_mapIdx]
  by_cases hi : i < H.1.length
  · rw [if_pos hi, if_pos hi]
    simp only [List.getElem?_mapIdx]
    cases H.1[i]? with
    | none => rfl
    | some c0 => simp [ce_agr ha (Nat.ne_of_lt hi)]
  · rw [if_neg hi, if_neg hi]
    simp
theorem agr_sF (h : DT) (n k : Nat) (v : Int32) : agr h (sF h n k v) n := fun a ha => ⟨by funext b; simp [sF, up2, ha], rfl, rfl, rfl⟩
theorem agr_sG (h : DT) (n k : Nat) (v : Int64) : agr h (sG h n k v) n := fun a ha => ⟨rfl, by funext b; simp [sG, up2, ha], rfl, rfl⟩
theorem agr_sA (h : DT) (n k : Nat) (v : Int32) : agr h (sA h n k v) n := fun a ha => ⟨rfl, rfl, by funext b; simp [sA, up2, ha], rfl⟩
theorem agr_sB (h : DT) (n k : Nat) (v : Int64) : agr h (sB h n k v) n := fun a ha => ⟨rfl, rfl, rfl, by funext b; simp [sB, up2, ha]⟩
theorem agr_zF (h : DT) (n : Nat) : agr h (zF h n) n := fun a ha => ⟨by funext b; simp [zF, up1, ha], by funext b; simp [zF, up1, ha], rfl, rfl⟩
theorem agr_zA (h : DT) (n : Nat) : agr h (zA h n) n := fun a ha => ⟨rfl, rfl, by funext b; simp [zA, up1, ha], by funext b; simp [zA, up1, ha]⟩
theorem agr_yA (h : DT) (a n sp dp m : Nat) : agr h (yA h a n sp dp m) n := fun a ha => ⟨rfl, rfl, by funext b; simp [yA, up1, ha], rfl⟩
theorem agr_yB (h : DT) (a n sp dp m : Nat) : agr h (yB h a n sp dp m) n := fun a ha => ⟨rfl, rfl, rfl, by funext b; simp [yB, up1, ha]⟩
theorem agr_rf (h : DT) (n : Nat) : agr h h n := fun _ _ => ⟨rfl, rfl, rfl, rfl⟩
/-- fields -/
theorem fsv_at {B c : Nat} {r : List (Option Nat)} {h : DT} {n j : Nat} (hj : j < NN c) : (fsv B c r h n)[j]? = some (fv B c r h n j) := by
  simp [fsv, hj]
theorem fsv_len (B c : Nat) (r : List (Option Nat)) (h : DT) (n : Nat) : (fsv B c r h n).length = NN c := by simp [fsv]
theorem fsv_set {B c : Nat} {r r' : List (Option Nat)} {h h' : DT} {n j : Nat} {v : Value} (hv : fv B c r' h' n j = v) (ho : ∀ i, i ≠ j → fv B c r' h' n i = fv B c r h n i) : fsv B c r' h' n = (fsv B c r h n).set j v := by
  apply List.ext_getElem?
  intro i
  by_cases hi : i = j
  · subst hi
    by_cases hl : i < NN c
    · rw [List.getElem?_set_self (by rw [fsv_len]; exact hl), fsv_at hl, hv]
    · rw [List.getElem?_eq_none (by rw [fsv_len]; omega), List.getElem?_eq_none (by rw [List.length_set, fsv_len]; omega)]
  · rw [List.getElem?_set_ne (Ne.symm hi)]
    by_cases hl : i < NN c
    · rw [fsv_at hl, fsv_at hl, ho i hi]
    · rw [List.getElem?_eq_none (by rw [fsv_len]; omega), List.getElem?_eq_none (by rw [fsv_len]; omega)]
theorem fsv_F {B c : Nat} {r : List (Option Nat)} {h : DT} {n j : Nat} (x : Int32) (hk : KD c j = 0 ∨ KD c j = 3) : fsv B c r (sF h n j x) n = (fsv B c r h n).set j (.int x) := by
  refine fsv_set ?_ fun i hi => ?_
  · rcases hk with hk | hk <;> simp [fv, hk, gF, sF, up2]
  · simp [fv, gF, gG, sF, up2, hi]
theorem fsv_G {B c : Nat} {r : List (Option Nat)} {h : DT} {n j : Nat} (x : Int64) (hk : KD c j = 1) : fsv B c r (sG h n j x) n = (fsv B c r h n).set j (.long x) := by
  refine fsv_set ?_ fun i hi => ?_
  · simp [fv, hk, gG, sG, up2]
  · simp [fv, gF, gG, sG, up2, hi]
theorem fsv_R {B c : Nat} {r : List (Option Nat)} {h : DT} {n j : Nat} (x : Option Nat) (hk : KD c j = 2) (hj : j < r.length) : fsv B c (r.set j x) h n = (fsv B c r h n).set j (va_rf (rfB B x)) := by
  refine fsv_set ?_ fun i hi => ?_
  · simp [fv, hk, hj]
  · simp [fv, Ne.symm hi, List.getElem?_set_ne (Ne.symm hi)]
end
section
/-! WHAT IS CHECKED OF THE TABLES OF CODE, once for each method -/
def lenF (i : Instr) (len : Nat) : Nat := match i with
  | .bipush _ => 2
  | .iload _ => 2
  | .lload _ => 2
  | .aload _ => 2
  | .istore _ => 2
  | .lstore _ => 2
  | .ldc _ => 2
  | .newarray _ => 2
  | .sipush _ => 3
  | .getfield _ => 3
  | .putfield _ => 3
  | .getstatic _ => 3
  | .goto _ => 3
  | .ifCond _ _ => 3
  | .if_icmp _ _ => 3
  | .ifnull _ => 3
  | .ifnonnull _ => 3
  | .iinc _ _ => 3
  | .invokestatic _ => 3
  | .invokevirtual _ => 3
  | .invokespecial _ => 3
  | .new _ => 3
  | .anewarray _ => 3
  | .ldc_w _ => 3
  | .ldc2_w _ => 3
  | .tableswitch _ _ _ _ => len
  | .lookupswitch _ _ => len
  | _ => 1
def tgOk (pc : Nat) (off : Int) (ax : List Nat) : Bool := match ax with
  | t :: _ => decide ((pc : Int) + off = (t : Int))
  | [] => false
def lsOk (pc : Nat) : List (Int × Int) → List Nat → Bool
  | [], [] => true
  | (k, o) :: r, a :: t :: ts => decide (k = (a : Int)) && Nat.blt a 1000000 && decide ((pc : Int) + o = (t : Int)) && lsOk pc r ts
  | _, _ => false
def tsOk (pc : Nat) : List Int → List Nat → Bool
  | [], [] => true
  | o :: r, t :: ts => decide ((pc : Int) + o = (t : Int)) && tsOk pc r ts
  | _, _ => false
def isStat (y : Nat) : Bool := match nth YL y with
  | some q => q.2.2.2.2.1
  | none => false
def narg (y : Nat) : Nat := match nth YL y with
  | some q => q.2.2.2.2.2
  | none => 0
def rtY (y : Nat) : Nat := match nth MT y with
  | some q => match q.2.2.1 with
    | 4 => 1
    | r => r
  | none => 9
def ownY (y : Nat) : Nat := match nth MT y with
  | some q => q.1
  | none => 99
def axOk (own : Nat) (isI : Bool) (pc : Nat) (i : Instr) (ax : List Nat) (cI : Int32) (cL : Int64) : Bool := match i with
  | .iconst k => decide (Int32.ofInt k = cI)
  | .bipush k => decide ((Int8.ofInt k).toInt32 = cI)
  | .sipush k => decide ((Int16.ofInt k).toInt32 = cI)
  | .lconst k => decide (Int64.ofNat k.val = cL)
  | .iinc _ k => decide (Int32.ofInt k = cI)
  | .goto o => tgOk pc o ax
  | .ifCond _ o => tgOk pc o ax
  | .if_icmp _ o => tgOk pc o ax
  | .ifnull o => tgOk pc o ax
  | .ifnonnull o => tgOk pc o ax
  | .getfield ix => match ax with
    | ci :: j :: kd :: [] => Nat.beq kd (KD ci j) && FLT.any (fun q => Nat.beq q.1 own && Nat.beq q.2.1 ix && Nat.beq q.2.2.1 ci && Nat.beq q.2.2.2.1 j)
    | _ => false
  | .putfield ix => match ax with
    | ci :: j :: kd :: [] => Nat.beq kd (KD ci j) && FLT.any (fun q => Nat.beq q.1 own && Nat.beq q.2.1 ix && Nat.beq q.2.2.1 ci && Nat.beq q.2.2.2.1 j) && (!((TN ci j).2.2.2) || (isI && Nat.beq own ci))
    | _ => false
  | .ldc ix => match ax with
    | [] => CST.any (fun q => Nat.beq q.1 own && Nat.beq q.2.1 ix && decide (q.2.2.1 = cI))
    | j :: _ => Nat.beq own 4 && (match nth STL j with
      | some q => Nat.beq q.1 ix
      | none => false)
  | .ldc_w ix => CST.any (fun q => Nat.beq q.1 own && Nat.beq q.2.1 ix && decide (q.2.2.1 = cI))
  | .ldc2_w ix => CSL.any (fun q => Nat.beq q.1 own && Nat.beq q.2.1 ix && decide (q.2.2.1 = cL))
  | .getstatic ix => match ax with
    | j :: _ => Nat.beq j 100 && ((Nat.beq own 10 && Nat.beq ix 267) || (Nat.beq own 9 && Nat.beq ix 32))
    | _ => false
  | .new ix => match ax with
    | ci :: nf :: _ => Nat.beq nf (NN ci) && CLT.any (fun q => Nat.beq q.1 own && Nat.beq q.2.1 ix && Nat.beq q.2.2.1 ci)
    | _ => false
  | .newarray t => match ax with
    | k :: _ => match t with
      | .int => Nat.beq k 0
      | .boolean => Nat.beq k 1
      | .long => Nat.beq k 2
      | _ => false
    | _ => false
  | .anewarray ix => Nat.beq own 10 && Nat.beq ix 42
  | .invokestatic ix => match ax with
    | 2 :: b :: [] => BLT.any (fun q => Nat.beq q.1 own && Nat.beq q.2.1 ix && Nat.beq q.2.2.1 b) && (Nat.blt b 6 || Nat.beq b 9 || Nat.beq b 10)
    | 0 :: y :: n :: rt :: [] => MLT.any (fun q => Nat.beq q.1 own && Nat.beq q.2.1 ix && Nat.beq q.2.2.1 y) && isStat y && Nat.beq n (narg y) && Nat.beq rt (rtY y)
    | _ => false
  | .invokevirtual ix => match ax with
    | 2 :: b :: [] => BLT.any (fun q => Nat.beq q.1 own && Nat.beq q.2.1 ix && Nat.beq q.2.2.1 b) && (Nat.beq b 6 || Nat.beq b 7)
    | 1 :: y :: n :: rt :: ci :: [] => MLT.any (fun q => Nat.beq q.1 own && Nat.beq q.2.1 ix && Nat.beq q.2.2.1 y && Nat.beq q.2.2.2.1 0) && !(isStat y) && Nat.beq n (narg y) && Nat.beq rt (rtY y) && Nat.beq ci (ownY y) && Nat.blt ci 12 && !(decide ((YN y).name = "<init>"))
    | _ => false
  | .invokespecial ix => match ax with
    | 2 :: b :: [] => BLT.any (fun q => Nat.beq q.1 own && Nat.beq q.2.1 ix && Nat.beq q.2.2.1 b) && Nat.beq b 8
    | 1 :: y :: n :: rt :: ci :: [] => MLT.any (fun q => Nat.beq q.1 own && Nat.beq q.2.1 ix && Nat.beq q.2.2.1 y) && !(isStat y) && Nat.beq n (narg y) && Nat.beq rt 0 && Nat.beq (rtY y) 0 && Nat.beq ci (ownY y) && Nat.blt ci 12 && decide ((YN y).name = "<init>")
    | _ => false
  | .tableswitch d lo hi os => match ax with
    | t :: a :: ts => decide ((pc : Int) + d = (t : Int)) && decide (lo = (a : Int)) && Nat.blt a 1000000 && decide (hi = lo + (os.size : Int) - 1) && Nat.blt os.size 1000 && tsOk pc os.toList ts
    | _ => false
  | .lookupswitch d ps => match ax with
    | t :: ts => decide ((pc : Int) + d = (t : Int)) && (ps.toList.zip (ps.toList.drop 1)).all (fun q => decide (q.1.1 < q.2.1)) && lsOk pc ps.toList ts
    | _ => false
  | _ => true
def chk (own : Nat) (isI : Bool) (pc : Nat) (i : Instr) (len : Nat) (ax : List Nat) (cI : Int32) (cL : Int64) : Bool := Nat.beq len (lenF i len) && axOk own isI pc i ax cI cL
def gd (own : Nat) (isI : Bool) (cc : ByteArray) : List EN → Bool
  | [] => true
  | (pc, _, i, len, ax, cI, cL) :: is => decide (decode cc pc = .ok (i, len)) && chk own isI pc i len ax cI cL && (match is with
    | [] => true
    | e :: _ => Nat.beq e.1 (pc + len)) && gd own isI cc is
end
section
/-! the tables of code hold what the class files hold: method by method -/
def rtOk (rt : Nat) (ret : Option FieldType) : Bool := match rt, ret with
  | 0, none => true
  | 1, some .int => true
  | 2, some .long => true
  | 3, some (.object _) => true
  | 3, some (.array _) => true
  | 4, some .boolean => true
  | _, _ => false
def okY (y : Nat) : Bool := match nth MT y, nth YL y with
  | some m, some q => gd m.1 (decide (q.1.name = "<init>")) q.2.1 m.2.2.2 && Nat.beq q.2.2.1 m.2.1 && rtOk m.2.2.1 q.2.2.2.1 && decide (q.1.cls = RN m.1)
  | _, _ => false
set_option maxRecDepth 40000 in
theorem okc_0 : (List.range' 0 5).all okY = true := by decide +kernel
set_option maxRecDepth 40000 in
theorem okc_1 : (List.range' 5 5).all okY = true := by decide +kernel
set_option maxRecDepth 40000 in
theorem okc_2 : (List.range' 10 5).all okY = true := by decide +kernel
set_option maxRecDepth 40000 in
theorem okc_3 : (List.range' 15 5).all okY = true := by decide +kernel
set_option maxRecDepth 40000 in
theorem okc_4 : (List.range' 20 5).all okY = true := by decide +kernel
set_option maxRecDepth 40000 in
theorem okc_5 : (List.range' 25 5).all okY = true := by decide +kernel
set_option maxRecDepth 40000 in
theorem okc_6 : (List.range' 30 5).all okY = true := by decide +kernel
set_option maxRecDepth 40000 in
theorem okc_7 : (List.range' 35 5).all okY = true := by decide +kernel
set_option maxRecDepth 40000 in
theorem okc_8 : (List.range' 40 5).all okY = true := by decide +kernel
set_option maxRecDepth 40000 in
theorem okc_9 : (List.range' 45 5).all okY = true := by decide +kernel
set_option maxRecDepth 40000 in
theorem okc_10 : (List.range' 50 5).all okY = true := by decide +kernel
set_option maxRecDepth 40000 in
theorem okc_11 : (List.range' 55 5).all okY = true := by decide +kernel
set_option maxRecDepth 40000 in
theorem okc_12 : (List.range' 60 5).all okY = true := by decide +kernel
set_option maxRecDepth 40000 in
theorem okc_13 : (List.range' 65 5).all okY = true := by decide +kernel
set_option maxRecDepth 40000 in
theorem okc_14 : (List.range' 70 5).all okY = true := by decide +kernel
end
section
set_option maxRecDepth 40000 in
theorem okc_15 : (List.range' 75 5).all okY = true := by decide +kernel
set_option maxRecDepth 40000 in
theorem okc_16 : (List.range' 80 5).all okY = true := by decide +kernel
set_option maxRecDepth 40000 in
theorem okc_17 : (List.range' 85 5).all okY = true := by decide +kernel
set_option maxRecDepth 40000 in
theorem okc_18 : (List.range' 90 5).all okY = true := by decide +kernel
set_option maxRecDepth 40000 in
theorem okc_19 : (List.range' 95 5).all okY = true := by decide +kernel
set_option maxRecDepth 40000 in
theorem okc_20 : (List.range' 100 5).all okY = true := by decide +kernel
set_option maxRecDepth 40000 in
theorem okc_21 : (List.range' 105 5).all okY = true := by decide +kernel
set_option maxRecDepth 40000 in
theorem okc_22 : (List.range' 110 5).all okY = true := by decide +kernel
set_option maxRecDepth 40000 in
theorem okc_23 : (List.range' 115 5).all okY = true := by decide +kernel
set_option maxRecDepth 40000 in
theorem okc_24 : (List.range' 120 5).all okY = true := by decide +kernel
set_option maxRecDepth 40000 in
theorem okc_25 : (List.range' 125 5).all okY = true := by decide +kernel
set_option maxRecDepth 40000 in
theorem okc_26 : (List.range' 130 5).all okY = true := by decide +kernel
set_option maxRecDepth 40000 in
theorem okc_27 : (List.range' 135 5).all okY = true := by decide +kernel
set_option maxRecDepth 40000 in
theorem okc_28 : (List.range' 140 5).all okY = true := by decide +kernel
set_option maxRecDepth 40000 in
theorem okc_29 : (List.range' 145 5).all okY = true := by decide +kernel
end
section
set_option maxRecDepth 40000 in
theorem okc_30 : (List.range' 150 5).all okY = true := by decide +kernel
set_option maxRecDepth 40000 in
theorem okc_31 : (List.range' 155 5).all okY = true := by decide +kernel
set_option maxRecDepth 40000 in
theorem okc_32 : (List.range' 160 5).all okY = true := by decide +kernel
set_option maxRecDepth 40000 in
theorem okc_33 : (List.range' 165 5).all okY = true := by decide +kernel
set_option maxRecDepth 40000 in
theorem okc_34 : (List.range' 170 5).all okY = true := by decide +kernel
set_option maxRecDepth 40000 in
theorem okc_35 : (List.range' 175 5).all okY = true := by decide +kernel
set_option maxRecDepth 40000 in
theorem okc_36 : (List.range' 180 5).all okY = true := by decide +kernel
set_option maxRecDepth 40000 in
theorem okc_37 : (List.range' 185 5).all okY = true := by decide +kernel
set_option maxRecDepth 40000 in
theorem okc_38 : (List.range' 190 5).all okY = true := by decide +kernel
set_option maxRecDepth 40000 in
theorem okc_39 : (List.range' 195 5).all okY = true := by decide +kernel
set_option maxRecDepth 40000 in
theorem okc_40 : (List.range' 200 5).all okY = true := by decide +kernel
set_option maxRecDepth 40000 in
theorem okc_41 : (List.range' 205 5).all okY = true := by decide +kernel
set_option maxRecDepth 40000 in
theorem okc_42 : (List.range' 210 5).all okY = true := by decide +kernel
set_option maxRecDepth 40000 in
theorem okc_43 : (List.range' 215 5).all okY = true := by decide +kernel
set_option maxRecDepth 40000 in
theorem okc_44 : (List.range' 220 5).all okY = true := by decide +kernel
end
section
set_option maxRecDepth 40000 in
theorem okc_45 : (List.range' 225 5).all okY = true := by decide +kernel
set_option maxRecDepth 40000 in
theorem okc_46 : (List.range' 230 5).all okY = true := by decide +kernel
set_option maxRecDepth 40000 in
theorem okc_47 : (List.range' 235 5).all okY = true := by decide +kernel
set_option maxRecDepth 40000 in
theorem okc_48 : (List.range' 240 5).all okY = true := by decide +kernel
set_option maxRecDepth 40000 in
theorem okc_49 : (List.range' 245 5).all okY = true := by decide +kernel
set_option maxRecDepth 40000 in
theorem okc_50 : (List.range' 250 5).all okY = true := by decide +kernel
set_option maxRecDepth 40000 in
theorem okc_51 : (List.range' 255 5).all okY = true := by decide +kernel
set_option maxRecDepth 40000 in
theorem okc_52 : (List.range' 260 5).all okY = true := by decide +kernel
set_option maxRecDepth 40000 in
theorem okc_53 : (List.range' 265 5).all okY = true := by decide +kernel
set_option maxRecDepth 40000 in
theorem okc_54 : (List.range' 270 5).all okY = true := by decide +kernel
set_option maxRecDepth 40000 in
theorem okc_55 : (List.range' 275 5).all okY = true := by decide +kernel
set_option maxRecDepth 40000 in
theorem okc_56 : (List.range' 280 5).all okY = true := by decide +kernel
set_option maxRecDepth 40000 in
theorem okc_57 : (List.range' 285 5).all okY = true := by decide +kernel
set_option maxRecDepth 40000 in
theorem okc_58 : (List.range' 290 5).all okY = true := by decide +kernel
set_option maxRecDepth 40000 in
theorem okc_59 : (List.range' 295 5).all okY = true := by decide +kernel
end
section
theorem rg_use {a c y : Nat} (h : (List.range' a c).all okY = true) (h1 : a ≤ y) (h2 : y < a + c) : okY y = true := List.all_eq_true.mp h y (List.mem_range'_1.mpr ⟨h1, h2⟩)
theorem okY_all {y : Nat} (h : y < 300) : okY y = true := by
  by_cases h0 : y < 5
  · exact rg_use okc_0 (by omega) (by omega)
  by_cases h1 : y < 10
  · exact rg_use okc_1 (by omega) (by omega)
  by_cases h2 : y < 15
  · exact rg_use okc_2 (by omega) (by omega)
  by_cases h3 : y < 20
  · exact rg_use okc_3 (by omega) (by omega)
  by_cases h4 : y < 25
  · exact rg_use okc_4 (by omega) (by omega)
  by_cases h5 : y < 30
  · exact rg_use okc_5 (by omega) (by omega)
  by_cases h6 : y < 35
  · exact rg_use okc_6 (by omega) (by omega)
  by_cases h7 : y < 40
  · exact rg_use okc_7 (by omega) (by omega)
  by_cases h8 : y < 45
  · exact rg_use okc_8 (by omega) (by omega)
  by_cases h9 : y < 50
  · exact rg_use okc_9 (by omega) (by omega)
  by_cases h10 : y < 55
  · exact rg_use okc_10 (by omega) (by omega)
  by_cases h11 : y < 60
  · exact rg_use okc_11 (by omega) (by omega)
  by_cases h12 : y < 65
  · exact rg_use okc_12 (by omega) (by omega)
  by_cases h13 : y < 70
  · exact rg_use okc_13 (by omega) (by omega)
  by_cases h14 : y < 75
  · exact rg_use okc_14 (by omega) (by omega)
  by_cases h15 : y < 80
  · exact rg_use okc_15 (by omega) (by omega)
  by_cases h16 : y < 85
  · exact rg_use okc_16 (by omega) (by omega)
  by_cases h17 : y < 90
  · exact rg_use okc_17 (by omega) (by omega)
  by_cases h18 : y < 95
  · exact rg_use okc_18 (by omega) (by omega)
  by_cases h19 : y < 100
  · exact rg_use okc_19 (by omega) (by omega)
  by_cases h20 : y < 105
  · exact rg_use okc_20 (by omega) (by omega)
  by_cases h21 : y < 110
  · exact rg_use okc_21 (by omega) (by omega)
  by_cases h22 : y < 115
  · exact rg_use okc_22 (by omega) (by omega)
  by_cases h23 : y < 120
  · exact rg_use okc_23 (by omega) (by omega)
  by_cases h24 : y < 125
  · exact rg_use okc_24 (by omega) (by omega)
  by_cases h25 : y < 130
  · exact rg_use okc_25 (by omega) (by omega)
  by_cases h26 : y < 135
  · exact rg_use okc_26 (by omega) (by omega)
  by_cases h27 : y < 140
  · exact rg_use okc_27 (by omega) (by omega)
  by_cases h28 : y < 145
  · exact rg_use okc_28 (by omega) (by omega)
  by_cases h29 : y < 150
  · exact rg_use okc_29 (by omega) (by omega)
  by_cases h30 : y < 155
  · exact rg_use okc_30 (by omega) (by omega)
  by_cases h31 : y < 160
  · exact rg_use okc_31 (by omega) (by omega)
  by_cases h32 : y < 165
  · exact rg_use okc_32 (by omega) (by omega)
  by_cases h33 : y < 170
  · exact rg_use okc_33 (by omega) (by omega)
  by_cases h34 : y < 175
  · exact rg_use okc_34 (by omega) (by omega)
  by_cases h35 : y < 180
  · exact rg_use okc_35 (by omega) (by omega)
  by_cases h36 : y < 185
  · exact rg_use okc_36 (by omega) (by omega)
  by_cases h37 : y < 190
  · exact rg_use okc_37 (by omega) (by omega)
  by_cases h38 : y < 195
  · exact rg_use okc_38 (by omega) (by omega)
  by_cases h39 : y < 200
  · exact rg_use okc_39 (by omega) (by omega)
  by_cases h40 : y < 205
  · exact rg_use okc_40 (by omega) (by omega)
  by_cases h41 : y < 210
  · exact rg_use okc_41 (by omega) (by omega)
  by_cases h42 : y < 215
  · exact rg_use okc_42 (by omega) (by omega)
  by_cases h43 : y < 220
  · exact rg_use okc_43 (by omega) (by omega)
  by_cases h44 : y < 225
  · exact rg_use okc_44 (by omega) (by omega)
  by_cases h45 : y < 230
  · exact rg_use okc_45 (by omega) (by omega)
  by_cases h46 : y < 235
  · exact rg_use okc_46 (by omega) (by omega)
  by_cases h47 : y < 240
  · exact rg_use okc_47 (by omega) (by omega)
  by_cases h48 : y < 245
  · exact rg_use okc_48 (by omega) (by omega)
  by_cases h49 : y < 250
  · exact rg_use okc_49 (by omega) (by omega)
  by_cases h50 : y < 255
  · exact rg_use okc_50 (by omega) (by omega)
  by_cases h51 : y < 260
  · exact rg_use okc_51 (by omega) (by omega)
  by_cases h52 : y < 265
  · exact rg_use okc_52 (by omega) (by omega)
  by_cases h53 : y < 270
  · exact rg_use okc_53 (by omega) (by omega)
  by_cases h54 : y < 275
  · exact rg_use okc_54 (by omega) (by omega)
  by_cases h55 : y < 280
  · exact rg_use okc_55 (by omega) (by omega)
  by_cases h56 : y < 285
  · exact rg_use okc_56 (by omega) (by omega)
  by_cases h57 : y < 290
  · exact rg_use okc_57 (by omega) (by omega)
  by_cases h58 : y < 295
  · exact rg_use okc_58 (by omega) (by omega)
  by_cases h59 : y < 300
  · exact rg_use okc_59 (by omega) (by omega)
  omega
end
section
/-! the law's own code, in pieces -/
def gdn (own : Nat) (isI : Bool) (cc : ByteArray) (nx : Nat) : List EN → Bool
  | [] => true
  | (pc, _, i, len, ax, cI, cL) :: is => decide (decode cc pc = .ok (i, len)) && chk own isI pc i len ax cI cL && (match is with
    | [] => Nat.beq nx (pc + len)
    | e :: _ => Nat.beq e.1 (pc + len)) && gdn own isI cc nx is
theorem gdn_app {own : Nat} {isI : Bool} {cc : ByteArray} {e : EN} {b : List EN} (hb : gd own isI cc (e :: b) = true) : ∀ {a : List EN}, gdn own isI cc e.1 a = true → gd own isI cc (a ++ e :: b) = true
  | [], _ => hb
  | [(pc, _, i, len, ax, cI, cL)], h => by
    simp only [gdn, Bool.and_eq_true] at h
    simp only [List.cons_append, List.nil_append]
    unfold gd
    simp only [Bool.and_eq_true]
    exact ⟨⟨h.1.1, h.1.2⟩, hb⟩
  | (pc, c0, i, len, ax, cI, cL) :: q :: r, h => by
    unfold gdn at h
    simp only [Bool.and_eq_true] at h
    have := gdn_app hb (a := q :: r) h.2
    rw [List.cons_append, List.cons_append]
    unfold gd
    simp only [Bool.and_eq_true]
    refine ⟨⟨h.1.1, h.1.2⟩, ?_⟩
    rw [List.cons_append] at this
    exact this
set_option maxRecDepth 40000 in
theorem gl_0 : gdn 12 false code 326 k_L_law_0 = true := by decide +kernel
set_option maxRecDepth 40000 in
theorem gl_1 : gdn 12 false code 456 k_L_law_1 = true := by decide +kernel
set_option maxRecDepth 40000 in
theorem gl_2 : gdn 12 false code 590 k_L_law_2 = true := by decide +kernel
set_option maxRecDepth 40000 in
theorem gl_3 : gdn 12 false code 718 k_L_law_3 = true := by decide +kernel
set_option maxRecDepth 40000 in
theorem gl_4 : gdn 12 false code 842 k_L_law_4 = true := by decide +kernel
set_option maxRecDepth 40000 in
theorem gl_5 : gdn 12 false code 974 k_L_law_5 = true := by decide +kernel
set_option maxRecDepth 40000 in
theorem gl_6 : gdn 12 false code 1106 k_L_law_6 = true := by decide +kernel
set_option maxRecDepth 40000 in
theorem gl_7 : gdn 12 false code 1230 k_L_law_7 = true := by decide +kernel
set_option maxRecDepth 40000 in
theorem gl_8 : gdn 12 false code 1368 k_L_law_8 = true := by decide +kernel
set_option maxRecDepth 40000 in
theorem gl_9 : gdn 12 false code 1504 k_L_law_9 = true := by decide +kernel
set_option maxRecDepth 40000 in
theorem gl_10 : gd 12 false code k_L_law_10 = true := by decide +kernel
theorem gls_10 : gd 12 false code (k_L_law_10) = true := gl_10
theorem gls_9 : gd 12 false code (k_L_law_9 ++ (k_L_law_10)) = true := gdn_app (e := (1504, none, .iload_n 3, 1, [], 0, 0)) (b := _) gls_10 gl_9
theorem gls_8 : gd 12 false code (k_L_law_8 ++ (k_L_law_9 ++ (k_L_law_10))) = true := gdn_app (e := (1368, none, .iconst 0, 1, [], 0, 0)) (b := _) gls_9 gl_8
theorem gls_7 : gd 12 false code (k_L_law_7 ++ (k_L_law_8 ++ (k_L_law_9 ++ (k_L_law_10)))) = true := gdn_app (e := (1230, none, .iaload, 1, [], 0, 0)) (b := _) gls_8 gl_7
theorem gls_6 : gd 12 false code (k_L_law_6 ++ (k_L_law_7 ++ (k_L_law_8 ++ (k_L_law_9 ++ (k_L_law_10))))) = true := gdn_app (e := (1106, none, .iconst 0, 1, [], 0, 0)) (b := _) gls_7 gl_6
theorem gls_5 : gd 12 false code (k_L_law_5 ++ (k_L_law_6 ++ (k_L_law_7 ++ (k_L_law_8 ++ (k_L_law_9 ++ (k_L_law_10)))))) = true := gdn_app (e := (974, none, .iaload, 1, [], 0, 0)) (b := _) gls_6 gl_5
theorem gls_4 : gd 12 false code (k_L_law_4 ++ (k_L_law_5 ++ (k_L_law_6 ++ (k_L_law_7 ++ (k_L_law_8 ++ (k_L_law_9 ++ (k_L_law_10))))))) = true := gdn_app (e := (842, none, .aload_n 1, 1, [], 0, 0)) (b := _) gls_5 gl_4
theorem gls_3 : gd 12 false code (k_L_law_3 ++ (k_L_law_4 ++ (k_L_law_5 ++ (k_L_law_6 ++ (k_L_law_7 ++ (k_L_law_8 ++ (k_L_law_9 ++ (k_L_law_10)))))))) = true := gdn_app (e := (718, none, .iconst 2, 1, [], 2, 0)) (b := _) gls_4 gl_3
theorem gls_2 : gd 12 false code (k_L_law_2 ++ (k_L_law_3 ++ (k_L_law_4 ++ (k_L_law_5 ++ (k_L_law_6 ++ (k_L_law_7 ++ (k_L_law_8 ++ (k_L_law_9 ++ (k_L_law_10))))))))) = true := gdn_app (e := (590, none, .invokevirtual 67, 3, [1, 244, 1, 1, 11], 0, 0)) (b := _) gls_3 gl_2
theorem gls_1 : gd 12 false code (k_L_law_1 ++ (k_L_law_2 ++ (k_L_law_3 ++ (k_L_law_4 ++ (k_L_law_5 ++ (k_L_law_6 ++ (k_L_law_7 ++ (k_L_law_8 ++ (k_L_law_9 ++ (k_L_law_10)))))))))) = true := gdn_app (e := (456, none, .iadd, 1, [], 0, 0)) (b := _) gls_2 gl_1
theorem gls_0 : gd 12 false code (k_L_law_0 ++ (k_L_law_1 ++ (k_L_law_2 ++ (k_L_law_3 ++ (k_L_law_4 ++ (k_L_law_5 ++ (k_L_law_6 ++ (k_L_law_7 ++ (k_L_law_8 ++ (k_L_law_9 ++ (k_L_law_10))))))))))) = true := gdn_app (e := (326, none, .iadd, 1, [], 0, 0)) (b := _) gls_1 gl_0
theorem g_law : gd 12 false code k_L_law = true := gls_0
end
section
/-! THE MACHINE'S PLACE IN A METHOD, and the rows of the instructions that change the stack alone -/
abbrev TT : Type := Program × Launch × Env × Room × State × MethodId × Array Value × List Frame × Method × Code
abbrev WC (T : TT) (H : Heap) (locs : List Loc) (cells slots : Nat) (Q : State → Prop) (pc : Nat) (ls : Array Slot) (st : List Value) : Prop := W T.1 T.2.1 T.2.2.1 T.2.2.2.1 T.2.2.2.2.1 T.2.2.2.2.2.1 T.2.2.2.2.2.2.1 T.2.2.2.2.2.2.2.1 T.2.2.2.2.2.2.2.2.1 T.2.2.2.2.2.2.2.2.2 H locs cells slots Q (F0 T.2.2.2.2.2.1 pc ls st)
/-- the words that a callee takes over from its caller -/
def gtb : List Cond := lw_tbl.filter goodWord
def isNest : Cond → Bool
  | .methodLinkNest .. => true
  | .fieldLinkNest .. => true
  | _ => false
/-- a text constant: an ordinary String of Latin-1 -/
def sOk (i : Nat) (E V : Nat → Nat) (A : Nat → Prop) (U : State) (H : Heap) : Prop := va_O "java/lang/String" (E i) A U H ∧ va_OF "java/lang/String" "coder" "B" (.int 0) (E i) A U H ∧ va_OF "java/lang/String" "value" "[B" (.ref (V i)) (E i) A U H ∧ va_T .byte (V i) (texts0.getD i []).length (fun j => .int ((texts0.getD i []).getD j 0)) A U H
/-- the constants around a method: classes, the static row, text constants, the script -/
def CW (B : Nat) (D : va_G) (kc : Nat → ClassId) (E V : Nat → Nat) (X : XS) (U : State) : Prop :=
  va_K D CLS [(kc 0, .int), (kc 1, .boolean), (kc 2, .long), (kc 3, .object "ItalicsLean$Text")] U ∧
  va_Z "ItalicsLean" "FACTORIAL" "[I" (.ref (E 100)) (fun q => B ≤ q) U U.heap ∧
  va_T .int (E 100) 6 (fun j => .int (facN.getD j 0)) (fun q => B ≤ q) U U.heap ∧
  (∀ i, i < 29 → sOk i E V (fun q => B ≤ q) U U.heap) ∧
  (∀ i q, STL[i]? = some q → vk_R "ItalicsLean$Reader" q.1 q.2.1 (E i) U) ∧
  va_Z "java/lang/String" "COMPACT_STRINGS" "Z" (.int 1) (fun q => B ≤ q) U U.heap ∧
  va_Zq "jdk/internal/util/Preconditions" "SIOOBE_FORMATTER" "Ljava/util/function/BiFunction;" (fun q => B ≤ q) U U.heap ∧
  va_X (E 101) X.1 X.2 U U.heap ∧ E 101 < B ∧ B ≤ U.heap.size ∧ (∀ w ∈ lw_tbl, isNest w = true → va_Nw w U) ∧ va_AO "ItalicsLean$Text" U
/-- a method's own: the machine, its code, its class, the words, the constants, how many cells there were, room -/
def Cx (T : TT) (own n : Nat) (isI : Bool) (cc : ByteArray) (B N0 : Nat) (D : va_G) (kc : Nat → ClassId) (E V : Nat → Nat) (X : XS) : Prop :=
  T.1.tables.exec = Jvm.exec ∧ T.2.2.2.2.2.2.2.2.2.code = cc ∧ T.2.2.2.2.2.2.2.2.2.maxLocals = n ∧ T.2.2.2.2.1.vm.findClass (RN own) = some T.2.2.2.2.2.1.cls ∧ (∀ w ∈ gtb, w.before T.2.2.2.2.2.2.1 T.2.2.2.2.1 = true) ∧ T.2.2.2.2.2.2.2.2.1.locks = false ∧ (isI = true → T.2.2.2.2.2.2.2.2.1.name = "<init>") ∧ CW B D kc E V X T.2.2.2.2.1 ∧ T.2.2.2.2.1.heap.size = B + N0 ∧ 9 ≤ T.2.2.2.1.frames ∧ 400 ≤ T.2.2.2.1.locals
theorem tI_inv {S : ST} {k : Int32 → ST → RR} {x : Option AV × HP} (h : tI S k = some x) : ∃ a S', S = vI a :: S' ∧ k a S' = some x := by
  unfold tI at h
  split at h
  · exact ⟨_, _, rfl, h⟩
  · cases h
theorem tL_inv {S : ST} {k : Int64 → ST → RR} {x : Option AV × HP} (h : tL S k = some x) : ∃ a S', S = vL a :: S' ∧ k a S' = some x := by
  unfold tL at h
  split at h
  · exact ⟨_, _, rfl, h⟩
  · cases h
theorem tP_inv {S : ST} {k : Option Nat → ST → RR} {x : Option AV × HP} (h : tP S k = some x) : ∃ a S', S = vP a :: S' ∧ k a S' = some x := by
  unfold tP at h
  split at h
  · exact ⟨_, _, rfl, h⟩
  · cases h
theorem tN_inv {S : ST} {k : Nat → ST → RR} {x : Option AV × HP} (h : tN S k = some x) : ∃ a S', S = vP (some a) :: S' ∧ k a S' = some x := by
  unfold tN at h
  split at h
  · exact ⟨_, _, rfl, h⟩
  · cases h
theorem cat_cv (E : Nat → Nat) (B : Nat) (v : AV) : (cv E B v).category = cat1 v := by
  match v with
  | .inl x => rfl
  | .inr (.inl x) => rfl
  | .inr (.inr (.inl none)) => rfl
  | .inr (.inr (.inl (some n))) => rfl
  | .inr (.inr (.inr e)) => rfl
theorem cat_1 {v : AV} (h : isL v = false) : cat1 v = 1 := by
  match v, h with
  | .inl x, _ => rfl
  | .inr (.inr x), _ => rfl
theorem t1_inv {S : ST} {k : AV → ST → RR} {x : Option AV × HP} (h : t1 S k = some x) : ∃ v S', S = v :: S' ∧ cat1 v = 1 ∧ k v S' = some x := by
  unfold t1 at h
  split at h
  · rename_i v S'
    cases hv : isL v with
    | true => rw [hv] at h; cases h
    | false => rw [hv] at h; exact ⟨v, S', rfl, cat_1 hv, h⟩
  · cases h
theorem i2_inv {S : ST} {f : Int32 → Int32 → Int32} {k : ST → RR} {x : Option AV × HP} (h : i2 S f k = some x) : ∃ a b S', S = vI b :: vI a :: S' ∧ k (vI (f a b) :: S') = some x := by
  obtain ⟨b, S1, rfl, h_1⟩ := tI_inv h
  obtain ⟨a, S2, rfl, h_2⟩ := tI_inv h_1
  exact ⟨a, b, S2, rfl, h_2⟩
theorem l2_inv {S : ST} {f : Int64 → Int64 → Int64} {k : ST → RR} {x : Option AV × HP} (h : l2 S f k = some x) : ∃ a b S', S = vL b :: vL a :: S' ∧ k (vL (f a b) :: S') = some x := by
  obtain ⟨b, S1, rfl, h_1⟩ := tL_inv h
  obtain ⟨a, S2, rfl, h_2⟩ := tL_inv h_1
  exact ⟨a, b, S2, rfl, h_2⟩
theorem ls2_inv {S : ST} {f : Int64 → Int32 → Int64} {k : ST → RR} {x : Option AV × HP} (h : ls2 S f k = some x) : ∃ a b S', S = vI b :: vL a :: S' ∧ k (vL (f a b) :: S') = some x := by
  obtain ⟨b, S1, rfl, h_1⟩ := tI_inv h
  obtain ⟨a, S2, rfl, h_2⟩ := tL_inv h_1
  exact ⟨a, b, S2, rfl, h_2⟩
theorem ite_inv {c : Prop} {d : Decidable c} {k : RR} {x : Option AV × HP} (h : @ite _ c d none k = some x) : ¬ c ∧ k = some x := by
  by_cases hc : c
  · rw [if_pos hc] at h; cases h
  · rw [if_neg hc] at h; exact ⟨hc, h⟩
theorem any_inv {α : Type} {l : List α} {f : α → Bool} (h : l.any f = true) : ∃ a ∈ l, f a = true := List.any_eq_true.mp h
theorem tbw {i : Nat} {w : Cond} (h : lw_tbl[i]? = some w) : w ∈ lw_tbl := List.mem_of_getElem? h
theorem tblw {i : Nat} {w : Cond} (h : lw_tbl[i]? = some w) (hg : goodWord w = true) : w ∈ gtb := List.mem_filter.mpr ⟨List.mem_of_getElem? h, hg⟩

set_option maxHeartbeats 4000000 in
theorem opS_ok {T : TT} {own n : Nat} {isI : Bool} {cc : ByteArray} {B N0 : Nat} {D : va_G} {kc : Nat → ClassId} {E V : Nat → Nat} {X : XS} (C : Cx T own n isI cc B N0 D kc E V X) {pc : Nat} {i : Instr} {len : Nat} {ax : List Nat} {cI : Int32} {cL : Int64} (hd : decode cc pc = .ok (i, len)) (hk : len = lenF i len ∧ axOk own isI pc i ax cI cL = true) {S : ST} {k : ST → RR} {x : Option AV × HP} (h : opS i ax cI cL S k = some x) :
    ∃ S', k S' = some x ∧ ∀ (Hm : Heap) (locs : List Loc) (cells slots : Nat) (Q : State → Prop) (ls : Array Slot), WC T Hm locs cells slots Q (pc + len) ls (S'.map (cv E B)) → WC T Hm locs cells slots Q pc ls (S.map (cv E B)) := by
  cases i with
  | iadd =>
    obtain rfl : len = 1 := by simpa [chk, lenF, axOk] using hk.1
    obtain ⟨a, b, S', rfl, h⟩ := i2_inv h
    exact ⟨_, h, fun _ _ _ _ _ _ w => lv_iadd C.1 C.2.1 hd w⟩
  | isub =>
    obtain rfl : len = 1 := by simpa [chk, lenF, axOk] using hk.1
    obtain ⟨a, b, S', rfl, h⟩ := i2_inv h
    exact ⟨_, h, fun _ _ _ _ _ _ w => lv_isub C.1 C.2.1 hd w⟩
  | imul =>
    obtain rfl : len = 1 := by simpa [chk, lenF, axOk] using hk.1
    obtain ⟨a, b, S', rfl, h⟩ := i2_inv h
    exact ⟨_, h, fun _ _ _ _ _ _ w => lv_imul C.1 C.2.1 hd w⟩
  | iand =>
    obtain rfl : len = 1 := by simpa [chk, lenF, axOk] using hk.1
    obtain ⟨a, b, S', rfl, h⟩ := i2_inv h
    exact ⟨_, h, fun _ _ _ _ _ _ w => lv_iand C.1 C.2.1 hd w⟩
  | ior =>
    obtain rfl : len = 1 := by simpa [chk, lenF, axOk] using hk.1
    obtain ⟨a, b, S', rfl, h⟩ := i2_inv h
    exact ⟨_, h, fun _ _ _ _ _ _ w => lv_ior C.1 C.2.1 hd w⟩
  | ixor =>
    obtain rfl : len = 1 := by simpa [chk, lenF, axOk] using hk.1
    obtain ⟨a, b, S', rfl, h⟩ := i2_inv h
    exact ⟨_, h, fun _ _ _ _ _ _ w => lv_ixor C.1 C.2.1 hd w⟩
  | ishl =>
    obtain rfl : len = 1 := by simpa [chk, lenF, axOk] using hk.1
    obtain ⟨a, b, S', rfl, h⟩ := i2_inv h
    exact ⟨_, h, fun _ _ _ _ _ _ w => lv_ishl C.1 C.2.1 hd w⟩
  | ishr =>
    obtain rfl : len = 1 := by simpa [chk, lenF, axOk] using hk.1
    obtain ⟨a, b, S', rfl, h⟩ := i2_inv h
    exact ⟨_, h, fun _ _ _ _ _ _ w => lv_ishr C.1 C.2.1 hd w⟩
  | iushr =>
    obtain rfl : len = 1 := by simpa [chk, lenF, axOk] using hk.1
    obtain ⟨a, b, S', rfl, h⟩ := i2_inv h
    exact ⟨_, h, fun _ _ _ _ _ _ w => lv_iushr C.1 C.2.1 hd rfl w⟩
  | ladd =>
    obtain rfl : len = 1 := by simpa [chk, lenF, axOk] using hk.1
    obtain ⟨a, b, S', rfl, h⟩ := l2_inv h
    exact ⟨_, h, fun _ _ _ _ _ _ w => lv_ladd C.1 C.2.1 hd w⟩
  | lsub =>
    obtain rfl : len = 1 := by simpa [chk, lenF, axOk] using hk.1
    obtain ⟨a, b, S', rfl, h⟩ := l2_inv h
    exact ⟨_, h, fun _ _ _ _ _ _ w => lv_lsub C.1 C.2.1 hd w⟩
  | lmul =>
    obtain rfl : len = 1 := by simpa [chk, lenF, axOk] using hk.1
    obtain ⟨a, b, S', rfl, h⟩ := l2_inv h
    exact ⟨_, h, fun _ _ _ _ _ _ w => lv_lmul C.1 C.2.1 hd w⟩
  | lor =>
    obtain rfl : len = 1 := by simpa [chk, lenF, axOk] using hk.1
    obtain ⟨a, b, S', rfl, h⟩ := l2_inv h
    exact ⟨_, h, fun _ _ _ _ _ _ w => lv_lor C.1 C.2.1 hd w⟩
  | land =>
    obtain rfl : len = 1 := by simpa [chk, lenF, axOk] using hk.1
    obtain ⟨a, b, S', rfl, h⟩ := l2_inv h
    exact ⟨_, h, fun _ _ _ _ _ _ w => lv_land C.1 C.2.1 hd w⟩
  | lshl =>
    obtain rfl : len = 1 := by simpa [chk, lenF, axOk] using hk.1
    obtain ⟨a, b, S', rfl, h⟩ := ls2_inv h
    exact ⟨_, h, fun _ _ _ _ _ _ w => lv_lshl C.1 C.2.1 hd rfl w⟩
  | lshr =>
    obtain rfl : len = 1 := by simpa [chk, lenF, axOk] using hk.1
    obtain ⟨a, b, S', rfl, h⟩ := ls2_inv h
    exact ⟨_, h, fun _ _ _ _ _ _ w => lv_lshr C.1 C.2.1 hd rfl w⟩
  | ineg =>
    obtain rfl : len = 1 := by simpa [chk, lenF, axOk] using hk.1
    obtain ⟨a, S', rfl, h⟩ := tI_inv h
    exact ⟨_, h, fun _ _ _ _ _ _ w => lv_ineg C.1 C.2.1 hd w⟩
  | lneg =>
    obtain rfl : len = 1 := by simpa [chk, lenF, axOk] using hk.1
    obtain ⟨a, S', rfl, h⟩ := tL_inv h
    exact ⟨_, h, fun _ _ _ _ _ _ w => lv_lneg C.1 C.2.1 hd w⟩
  | idiv =>
    obtain rfl : len = 1 := by simpa [chk, lenF, axOk] using hk.1
    obtain ⟨b, S1, rfl, h⟩ := tI_inv h
    obtain ⟨a, S2, rfl, h⟩ := tI_inv h
    obtain ⟨hne, h_1⟩ := ite_inv h
    exact ⟨_, h_1, fun _ _ _ _ _ _ w => lv_idiv C.1 C.2.1 hd hne w⟩
  | irem =>
    obtain rfl : len = 1 := by simpa [chk, lenF, axOk] using hk.1
    obtain ⟨b, S1, rfl, h⟩ := tI_inv h
    obtain ⟨a, S2, rfl, h⟩ := tI_inv h
    obtain ⟨hne, h_1⟩ := ite_inv h
    exact ⟨_, h_1, fun _ _ _ _ _ _ w => lv_irem C.1 C.2.1 hd hne w⟩
  | ldiv =>
    obtain rfl : len = 1 := by simpa [chk, lenF, axOk] using hk.1
    obtain ⟨b, S1, rfl, h⟩ := tL_inv h
    obtain ⟨a, S2, rfl, h⟩ := tL_inv h
    obtain ⟨hne, h_1⟩ := ite_inv h
    exact ⟨_, h_1, fun _ _ _ _ _ _ w => lv_ldiv C.1 C.2.1 hd hne w⟩
  | lrem =>
    obtain rfl : len = 1 := by simpa [chk, lenF, axOk] using hk.1
    obtain ⟨b, S1, rfl, h⟩ := tL_inv h
    obtain ⟨a, S2, rfl, h⟩ := tL_inv h
    obtain ⟨hne, h_1⟩ := ite_inv h
    exact ⟨_, h_1, fun _ _ _ _ _ _ w => lv_lrem C.1 C.2.1 hd hne w⟩
  | i2l =>
    obtain rfl : len = 1 := by simpa [chk, lenF, axOk] using hk.1
    obtain ⟨a, S', rfl, h⟩ := tI_inv h
    exact ⟨_, h, fun _ _ _ _ _ _ w => lv_i2l C.1 C.2.1 hd rfl w⟩
  | l2i =>
    obtain rfl : len = 1 := by simpa [chk, lenF, axOk] using hk.1
    obtain ⟨a, S', rfl, h⟩ := tL_inv h
    exact ⟨_, h, fun _ _ _ _ _ _ w => lv_l2i C.1 C.2.1 hd rfl w⟩
  | lcmp =>
    obtain rfl : len = 1 := by simpa [chk, lenF, axOk] using hk.1
    obtain ⟨b, S1, rfl, h⟩ := tL_inv h
    obtain ⟨a, S2, rfl, h_1⟩ := tL_inv h
    exact ⟨_, h_1, fun _ _ _ _ _ _ w => W.lcmp C.1 C.2.1 hd w⟩
  | dup =>
    obtain rfl : len = 1 := by simpa [chk, lenF, axOk] using hk.1
    obtain ⟨v, S', rfl, hv, h⟩ := t1_inv h
    exact ⟨_, h, fun _ _ _ _ _ _ w => lv_dup C.1 C.2.1 hd ((cat_cv E B v).trans hv) w⟩
  | pop =>
    obtain rfl : len = 1 := by simpa [chk, lenF, axOk] using hk.1
    obtain ⟨v, S', rfl, hv, h⟩ := t1_inv h
    exact ⟨_, h, fun _ _ _ _ _ _ w => lv_pop C.1 C.2.1 hd ((cat_cv E B v).trans hv) w⟩
  | dup2 =>
    obtain rfl : len = 1 := by simpa [chk, lenF, axOk] using hk.1
    obtain ⟨v, S1, rfl, hv, h⟩ := t1_inv h
    obtain ⟨u, S2, rfl, hu, h_1⟩ := t1_inv h
    exact ⟨_, h_1, fun _ _ _ _ _ _ w => lv_dup2_11 C.1 C.2.1 hd ((cat_cv E B v).trans hv) ((cat_cv E B u).trans hu) w⟩
  | iconst k =>
    obtain rfl : len = 1 := by simpa [chk, lenF, axOk] using hk.1
    have hc := of_decide_eq_true hk.2
    exact ⟨_, h, fun _ _ _ _ _ _ w => lv_iconst C.1 C.2.1 hd hc w⟩
  | bipush k =>
    obtain rfl : len = 2 := by simpa [chk, lenF, axOk] using hk.1
    have hc := of_decide_eq_true hk.2
    exact ⟨_, h, fun _ _ _ _ _ _ w => lv_bipush C.1 C.2.1 hd hc w⟩
  | sipush k =>
    obtain rfl : len = 3 := by simpa [chk, lenF, axOk] using hk.1
    have hc := of_decide_eq_true hk.2
    exact ⟨_, h, fun _ _ _ _ _ _ w => lv_sipush C.1 C.2.1 hd hc w⟩
  | lconst k =>
    obtain rfl : len = 1 := by simpa [chk, lenF, axOk] using hk.1
    have hc := of_decide_eq_true hk.2
    exact ⟨_, h, fun _ _ _ _ _ _ w => lv_lconst C.1 C.2.1 hd hc w⟩
  | aconst_null =>
    obtain rfl : len = 1 := by simpa [chk, lenF, axOk] using hk.1
    exact ⟨_, h, fun _ _ _ _ _ _ w => lv_null C.1 C.2.1 hd w⟩
  | ldc_w ix =>
    obtain rfl : len = 3 := by simpa [chk, lenF, axOk] using hk.1
    obtain ⟨q, hq, hf⟩ := any_inv hk.2
    simp only [Bool.and_eq_true, decide_eq_true_eq, Nat.beq_eq] at hf
    obtain ⟨⟨rfl, rfl⟩, rfl⟩ := hf
    have hw := of_decide_eq_true (List.all_eq_true.mp CST_ok q hq)
    exact ⟨_, h, fun _ _ _ _ _ _ w => lv_ldcw C.1 C.2.1 C.2.2.2.1 (C.2.2.2.2.1 _ (tblw hw rfl)) hd w⟩
  | ldc2_w ix =>
    obtain rfl : len = 3 := by simpa [chk, lenF, axOk] using hk.1
    obtain ⟨q, hq, hf⟩ := any_inv hk.2
    simp only [Bool.and_eq_true, decide_eq_true_eq, Nat.beq_eq] at hf
    obtain ⟨⟨rfl, rfl⟩, rfl⟩ := hf
    have hw := of_decide_eq_true (List.all_eq_true.mp CSL_ok q hq)
    exact ⟨_, h, fun _ _ _ _ _ _ w => lv_ldc2 C.1 C.2.1 C.2.2.2.1 (C.2.2.2.2.1 _ (tblw hw rfl)) hd w⟩
  | ldc ix =>
    obtain rfl : len = 2 := by simpa [chk, lenF, axOk] using hk.1
    match ax, h, hk with
    | [], h, hk =>
      obtain ⟨q, hq, hf⟩ := any_inv hk.2
      simp only [Bool.and_eq_true, decide_eq_true_eq, Nat.beq_eq] at hf
      obtain ⟨⟨rfl, rfl⟩, rfl⟩ := hf
      have hw := of_decide_eq_true (List.all_eq_true.mp CST_ok q hq)
      exact ⟨_, h, fun _ _ _ _ _ _ w => lv_ldc C.1 C.2.1 C.2.2.2.1 (C.2.2.2.2.1 _ (tblw hw rfl)) hd w⟩
    | j :: r, h, hk =>
      have h2 := hk.2
      simp only [axOk, Bool.and_eq_true, Nat.beq_eq, nth_eq] at h2
      obtain ⟨rfl, h2⟩ := h2
      split at h2
      · rename_i q hq
        rw [Nat.beq_eq] at h2
        subst h2
        exact ⟨_, h, fun _ _ _ _ _ _ w => va_ldcS (own := RN 4) (q := E j) C.1 C.2.1 C.2.2.2.1 (C.2.2.2.2.2.2.2.1.2.2.2.2.1 j q hq) hd w⟩
      · cases h2
  | _ => exact absurd h (by simp [opS])
end
section
/-! rows of the instructions that read and write locals -/
def cLL (E : Nat → Nat) (B : Nat) (L : LL) : List (Nat × Value) := L.map (fun q => (q.1, cv E B q.2))
theorem lv_mono {ls : Array Slot} {n : Nat} {l l' : List (Nat × Value)} (h : lv_has ls n l) (hs : ∀ q ∈ l', q ∈ l) : lv_has ls n l' := ⟨h.1, h.2.1, fun q hq => h.2.2 q (hs q hq)⟩
theorem lk_mem {i : Nat} {L : LL} {v : AV} (h : lk i L = some v) : (i, v) ∈ L := by
  induction L with
  | nil => cases h
  | cons q t ih =>
    unfold lk at h
    cases hb : Nat.beq q.1 i with
    | true =>
      rw [hb] at h
      have e : q.1 = i := Nat.eq_of_beq_eq_true hb
      have e2 : q.2 = v := Option.some.inj h
      rw [← e, ← e2]
      exact List.mem_cons_self
    | false =>
      rw [hb] at h
      exact List.mem_cons_of_mem _ (ih h)
theorem lk_has {E : Nat → Nat} {B i n : Nat} {L : LL} {v : AV} {ls : Array Slot} (h : lk i L = some v) (hl : lv_has ls n (cLL E B L)) : ls[i]? = some (.val (cv E B v)) := hl.2.2 (i, cv E B v) (List.mem_map.mpr ⟨(i, v), lk_mem h, rfl⟩)
theorem rs_mem {live : List Nat} {L : LL} {q : Nat × AV} (h : q ∈ rs live L) : q ∈ L := by
  induction live with
  | nil => cases h
  | cons i t ih =>
    unfold rs at h
    split at h
    · rename_i v hv
      rcases List.mem_cons.mp h with rfl | h
      · exact lk_mem hv
      · exact ih h
    · exact ih h
theorem rs_has {E : Nat → Nat} {B n : Nat} {live : List Nat} {L : LL} {ls : Array Slot} (hl : lv_has ls n (cLL E B L)) : lv_has ls n (cLL E B (rs live L)) := by
  refine lv_mono hl fun q hq => ?_
  obtain ⟨a, ha, rfl⟩ := List.mem_map.mp hq
  exact List.mem_map.mpr ⟨a, rs_mem ha, rfl⟩
theorem isL_cat (E : Nat → Nat) (B : Nat) (v : AV) : ((cv E B v).category == 2) = isL v := by
  match v with
  | .inl x => rfl
  | .inr (.inl x) => rfl
  | .inr (.inr (.inl none)) => rfl
  | .inr (.inr (.inl (some n))) => rfl
  | .inr (.inr (.inr e)) => rfl
theorem nbeq (a b : Nat) : Nat.beq a b = (a == b) := by
  by_cases h : a = b
  · subst h; simp
  · rw [beq_false_of_ne h]
    cases hb : Nat.beq a b with
    | false => rfl
    | true => exact absurd (Nat.eq_of_beq_eq_true hb) h
theorem sl_sub1 {E : Nat → Nat} {B i : Nat} {v : AV} {L : LL} : ∀ q ∈ cLL E B (sl false i v L), q ∈ (i, cv E B v) :: (cLL E B L).filter (fun q => !(q.1 == i) && !(q.1 + 1 == i && q.2.category == 2)) := by
  intro q hq
  obtain ⟨a, ha, rfl⟩ := List.mem_map.mp hq
  rcases List.mem_cons.mp ha with rfl | ha
  · exact List.mem_cons_self
  · obtain ⟨h1, h2⟩ := List.mem_filter.mp ha
    refine List.mem_cons_of_mem _ (List.mem_filter.mpr ⟨List.mem_map.mpr ⟨a, h1, rfl⟩, ?_⟩)
    simp only [nbeq, Bool.false_and, Bool.not_false, Bool.and_true] at h2
    simp only [isL_cat]
    exact h2
theorem sl_sub2 {E : Nat → Nat} {B i : Nat} {v : AV} {L : LL} : ∀ q ∈ cLL E B (sl true i v L), q ∈ (i, cv E B v) :: (cLL E B L).filter (fun q => !(q.1 == i) && (!(q.1 == i + 1) && !(q.1 + 1 == i && q.2.category == 2))) := by
  intro q hq
  obtain ⟨a, ha, rfl⟩ := List.mem_map.mp hq
  rcases List.mem_cons.mp ha with rfl | ha
  · exact List.mem_cons_self
  · obtain ⟨h1, h2⟩ := List.mem_filter.mp ha
    refine List.mem_cons_of_mem _ (List.mem_filter.mpr ⟨List.mem_map.mpr ⟨a, h1, rfl⟩, ?_⟩)
    simp only [nbeq, Bool.true_and] at h2
    simp only [isL_cat]
    simp only [Bool.and_eq_true] at h2 ⊢
    exact ⟨h2.1, h2.2.2, h2.2.1⟩
theorem ldI_inv {i : Nat} {L : LL} {S : ST} {k : LL → ST → RR} {x : Option AV × HP} (h : ldI i L S k = some x) : ∃ a, lk i L = some (vI a) ∧ k L (vI a :: S) = some x := by
  unfold ldI at h
  split at h
  · exact ⟨_, by assumption, h⟩
  · cases h
theorem ldL_inv {i : Nat} {L : LL} {S : ST} {k : LL → ST → RR} {x : Option AV × HP} (h : ldL i L S k = some x) : ∃ a, lk i L = some (vL a) ∧ k L (vL a :: S) = some x := by
  unfold ldL at h
  split at h
  · exact ⟨_, by assumption, h⟩
  · cases h
theorem ldP_inv {i : Nat} {L : LL} {S : ST} {k : LL → ST → RR} {x : Option AV × HP} (h : ldP i L S k = some x) : ∃ a, lk i L = some (.inr (.inr a)) ∧ k L (.inr (.inr a) :: S) = some x := by
  unfold ldP at h
  split at h
  · exact ⟨_, by assumption, h⟩
  · cases h
theorem stP_inv {i : Nat} {L : LL} {S : ST} {k : LL → ST → RR} {x : Option AV × HP} (h : stP i L S k = some x) : ∃ a S', S = .inr (.inr a) :: S' ∧ k (sl false i (.inr (.inr a)) L) S' = some x := by
  unfold stP at h
  split at h
  · exact ⟨_, _, rfl, h⟩
  · cases h
theorem bif_inv {b : Bool} {k : RR} {x : Option AV × HP} (h : (bif b then k else none) = some x) : b = true ∧ k = some x := by
  cases b with
  | true => exact ⟨rfl, h⟩
  | false => cases h
set_option maxHeartbeats 4000000 in
theorem opL_ok {T : TT} {own n : Nat} {isI : Bool} {cc : ByteArray} {B N0 : Nat} {D : va_G} {kc : Nat → ClassId} {E V : Nat → Nat} {X : XS} (C : Cx T own n isI cc B N0 D kc E V X) {pc : Nat} {i : Instr} {len : Nat} {ax : List Nat} {cI : Int32} {cL : Int64} (hd : decode cc pc = .ok (i, len)) (hk : len = lenF i len ∧ axOk own isI pc i ax cI cL = true) {L : LL} {S : ST} {k : LL → ST → RR} {x : Option AV × HP} (h : opL n i cI L S k = some x) :
    ∃ L' S', k L' S' = some x ∧ ∀ (Hm : Heap) (locs : List Loc) (cells slots : Nat) (Q : State → Prop) (ls : Array Slot), lv_has ls n (cLL E B L) → (∀ ls' : Array Slot, lv_has ls' n (cLL E B L') → WC T Hm locs cells slots Q (pc + len) ls' (S'.map (cv E B))) → WC T Hm locs cells slots Q pc ls (S.map (cv E B)) := by
  cases i with
  | iload i =>
    obtain rfl : len = 2 := by simpa [lenF] using hk.1
    obtain ⟨a, ha, h1⟩ := ldI_inv h
    exact ⟨_, _, h1, fun _ _ _ _ _ ls hl w => lv_iload C.1 C.2.1 hd (lk_has ha hl) (w ls hl)⟩
  | iload_n i =>
    obtain rfl : len = 1 := by simpa [lenF] using hk.1
    obtain ⟨a, ha, h1⟩ := ldI_inv h
    exact ⟨_, _, h1, fun _ _ _ _ _ ls hl w => lv_iload_n C.1 C.2.1 hd rfl (lk_has ha hl) (w ls hl)⟩
  | lload i =>
    obtain rfl : len = 2 := by simpa [lenF] using hk.1
    obtain ⟨a, ha, h1⟩ := ldL_inv h
    exact ⟨_, _, h1, fun _ _ _ _ _ ls hl w => lv_lload C.1 C.2.1 hd (lk_has ha hl) (w ls hl)⟩
  | lload_n i =>
    obtain rfl : len = 1 := by simpa [lenF] using hk.1
    obtain ⟨a, ha, h1⟩ := ldL_inv h
    exact ⟨_, _, h1, fun _ _ _ _ _ ls hl w => lv_lload_n C.1 C.2.1 hd rfl (lk_has ha hl) (w ls hl)⟩
  | aload i =>
    obtain rfl : len = 2 := by simpa [lenF] using hk.1
    obtain ⟨a, ha, h1⟩ := ldP_inv h
    refine ⟨_, _, h1, fun _ _ _ _ _ ls hl w => ?_⟩
    match a, ha, w with
    | .inl none, ha, w => exact lv_aloadN C.1 C.2.1 hd (lk_has ha hl) (w ls hl)
    | .inl (some q), ha, w => exact lv_aload C.1 C.2.1 hd (lk_has ha hl) (w ls hl)
    | .inr q, ha, w => exact lv_aload C.1 C.2.1 hd (lk_has ha hl) (w ls hl)
  | aload_n i =>
    obtain rfl : len = 1 := by simpa [lenF] using hk.1
    obtain ⟨a, ha, h1⟩ := ldP_inv h
    refine ⟨_, _, h1, fun _ _ _ _ _ ls hl w => ?_⟩
    match a, ha, w with
    | .inl none, ha, w => exact lv_aload_nN C.1 C.2.1 hd rfl (lk_has ha hl) (w ls hl)
    | .inl (some q), ha, w => exact lv_aload_n C.1 C.2.1 hd rfl (lk_has ha hl) (w ls hl)
    | .inr q, ha, w => exact lv_aload_n C.1 C.2.1 hd rfl (lk_has ha hl) (w ls hl)
  | istore i =>
    obtain rfl : len = 2 := by simpa [lenF] using hk.1
    obtain ⟨a, S', rfl, h1⟩ := tI_inv h
    obtain ⟨hb, h2⟩ := bif_inv h1
    exact ⟨_, _, h2, fun _ _ _ _ _ ls hl w => lv_istore C.1 C.2.1 hd hl (Nat.le_of_ble_eq_true hb) rfl (fun ls' hl' => w ls' (lv_mono hl' sl_sub1))⟩
  | istore_n i =>
    obtain rfl : len = 1 := by simpa [lenF] using hk.1
    obtain ⟨a, S', rfl, h1⟩ := tI_inv h
    obtain ⟨hb, h2⟩ := bif_inv h1
    exact ⟨_, _, h2, fun _ _ _ _ _ ls hl w => lv_istore_n C.1 C.2.1 hd rfl hl (Nat.le_of_ble_eq_true hb) rfl (fun ls' hl' => w ls' (lv_mono hl' sl_sub1))⟩
  | lstore i =>
    obtain rfl : len = 2 := by simpa [lenF] using hk.1
    obtain ⟨a, S', rfl, h1⟩ := tL_inv h
    obtain ⟨hb, h2⟩ := bif_inv h1
    exact ⟨_, _, h2, fun _ _ _ _ _ ls hl w => lv_lstore C.1 C.2.1 hd hl (Nat.le_of_ble_eq_true hb) rfl (fun ls' hl' => w ls' (lv_mono hl' sl_sub2))⟩
  | lstore_n i =>
    obtain rfl : len = 1 := by simpa [lenF] using hk.1
    obtain ⟨a, S', rfl, h1⟩ := tL_inv h
    obtain ⟨hb, h2⟩ := bif_inv h1
    exact ⟨_, _, h2, fun _ _ _ _ _ ls hl w => lv_lstore_n C.1 C.2.1 hd rfl hl (Nat.le_of_ble_eq_true hb) rfl (fun ls' hl' => w ls' (lv_mono hl' sl_sub2))⟩
  | astore_n i =>
    obtain rfl : len = 1 := by simpa [lenF] using hk.1
    obtain ⟨hb, h1⟩ := bif_inv h
    obtain ⟨a, S', rfl, h2⟩ := stP_inv h1
    refine ⟨_, _, h2, fun _ _ _ _ _ ls hl w => ?_⟩
    match a, w with
    | .inl none, w => exact lv_astore_nN C.1 C.2.1 hd rfl hl (Nat.le_of_ble_eq_true hb) rfl (fun ls' hl' => w ls' (lv_mono hl' sl_sub1))
    | .inl (some q), w => exact lv_astore_n C.1 C.2.1 hd rfl hl (Nat.le_of_ble_eq_true hb) rfl (fun ls' hl' => w ls' (lv_mono hl' sl_sub1))
    | .inr q, w => exact lv_astore_n C.1 C.2.1 hd rfl hl (Nat.le_of_ble_eq_true hb) rfl (fun ls' hl' => w ls' (lv_mono hl' sl_sub1))
  | iinc i c0 =>
    obtain rfl : len = 3 := by simpa [lenF] using hk.1
    have hc := of_decide_eq_true hk.2
    simp only [opL] at h
    split at h
    · rename_i a ha
      obtain ⟨hb, h2⟩ := bif_inv h
      refine ⟨_, _, h2, fun _ _ _ _ _ ls hl w => ?_⟩
      obtain ⟨k0, hk0⟩ := List.getElem?_of_mem (List.mem_map.mpr ⟨(i, vI a), lk_mem ha, rfl⟩ : (i, Value.int a) ∈ cLL E B L)
      exact lv_iinc C.1 C.2.1 hd hl (k := k0) hk0 (by rw [hc]) (Nat.le_of_ble_eq_true hb) rfl (fun ls' hl' => w ls' (lv_mono hl' sl_sub1))
    · cases h
  | _ => exact absurd h (by simp [opL])
end
section
/-! rows of the instructions that read and write the heap -/
theorem inN0 {c : Nat} (h : c < 12) : ∀ w ∈ u_ws (RN c) (TN c) (NN c), w ∈ lw_tbl := by
  match c, h with
  | 0, _ => exact inX0
  | 1, _ => exact inX1
  | 2, _ => exact inX2
  | 3, _ => exact inX3
  | 4, _ => exact inX4
  | 5, _ => exact inX5
  | 6, _ => exact inX6
  | 7, _ => exact inX7
  | 8, _ => exact inX8
  | 9, _ => exact inX9
  | 10, _ => exact inX10
  | 11, _ => exact inX11
theorem inN {c : Nat} (h : c < 12) : ∀ w ∈ u_ws (RN c) (TN c) (NN c), w ∈ gtb := by
  intro w hw
  refine List.mem_filter.mpr ⟨inN0 h w hw, ?_⟩
  obtain ⟨k, -, rfl⟩ := List.mem_map.mp hw
  unfold u_lay
  split <;> rfl
theorem clsN {c : Nat} (h : c < 12) : CLS[c]? = some (RN c, TN c, NN c) := by
  match c, h with
  | 0, _ => rfl
  | 1, _ => rfl
  | 2, _ => rfl
  | 3, _ => rfl
  | 4, _ => rfl
  | 5, _ => rfl
  | 6, _ => rfl
  | 7, _ => rfl
  | 8, _ => rfl
  | 9, _ => rfl
  | 10, _ => rfl
  | 11, _ => rfl
theorem tyN_ok {c : Nat} (h : c < 12) : ∀ k, k < NN c → parseFieldDescriptor (TN c k).2.2.1 = some (tyN c k) := by
  match c, h with
  | 0, _ => exact tyX0_ok
  | 1, _ => exact tyX1_ok
  | 2, _ => exact tyX2_ok
  | 3, _ => exact tyX3_ok
  | 4, _ => exact tyX4_ok
  | 5, _ => exact tyX5_ok
  | 6, _ => exact tyX6_ok
  | 7, _ => exact tyX7_ok
  | 8, _ => exact tyX8_ok
  | 9, _ => exact tyX9_ok
  | 10, _ => exact tyX10_ok
  | 11, _ => exact tyX11_ok
theorem nmN {c : Nat} (h : c < 12) : ∀ a, a < NN c → ∀ b, b < NN c → a ≠ b → (TN c a).2.1 ≠ (TN c b).2.1 := by
  match c, h with
  | 0, _ => exact nmX0
  | 1, _ => exact nmX1
  | 2, _ => exact nmX2
  | 3, _ => exact nmX3
  | 4, _ => exact nmX4
  | 5, _ => exact nmX5
  | 6, _ => exact nmX6
  | 7, _ => exact nmX7
  | 8, _ => exact nmX8
  | 9, _ => exact nmX9
  | 10, _ => exact nmX10
  | 11, _ => exact nmX11
def tyKk (c k : Nat) : Bool := match KD c k, tyN c k with
  | 0, .int => true
  | 1, .long => true
  | 3, .boolean => true
  | 2, .object _ => true
  | 2, .array _ => true
  | _, _ => false
theorem tyK_all : (List.range 12).all (fun c => (List.range (NN c)).all (fun k => tyKk c k)) = true := by decide +kernel
theorem tyK {c k : Nat} (h : c < 12) (hk : k < NN c) : tyKk c k = true := List.all_eq_true.mp (List.all_eq_true.mp tyK_all c (List.mem_range.mpr h)) k (List.mem_range.mpr hk)
theorem tyK0 {c k : Nat} (h : c < 12) (hk : k < NN c) (h0 : KD c k = 0) : tyN c k = .int := by
  have := tyK h hk
  unfold tyKk at this
  rw [h0] at this
  split at this <;> simp_all
theorem tyK1 {c k : Nat} (h : c < 12) (hk : k < NN c) (h0 : KD c k = 1) : tyN c k = .long := by
  have := tyK h hk
  unfold tyKk at this
  rw [h0] at this
  split at this <;> simp_all
theorem tyK3 {c k : Nat} (h : c < 12) (hk : k < NN c) (h0 : KD c k = 3) : tyN c k = .boolean := by
  have := tyK h hk
  unfold tyKk at this
  rw [h0] at this
  split at this <;> simp_all
theorem tyK2 {c k : Nat} (h : c < 12) (hk : k < NN c) (h0 : KD c k = 2) : (∃ n, tyN c k = .object n) ∨ ∃ t, tyN c k = .array t := by
  have := tyK h hk
  unfold tyKk at this
  rw [h0] at this
  split at this <;> simp_all
theorem KD_lt {c k : Nat} (h : c < 12) (hk : k < NN c) : KD c k < 4 := by
  have := tyK h hk
  unfold tyKk at this
  split at this <;> simp_all
/-- a field's link, out of the table -/
theorem fl_use {own ix ci j : Nat} (h : FLT.any (fun q => Nat.beq q.1 own && Nat.beq q.2.1 ix && Nat.beq q.2.2.1 ci && Nat.beq q.2.2.2.1 j) = true) : Cond.fieldLink (RN own) ix (RN ci) (TN ci j).2.1 (TN ci j).2.2.1 ∈ gtb ∧ ci < 12 ∧ j < NN ci ∧ (TN ci j).1 = RN ci := by
  obtain ⟨q, hq, hf⟩ := any_inv h
  simp only [Bool.and_eq_true, Nat.beq_eq] at hf
  obtain ⟨⟨⟨rfl, rfl⟩, rfl⟩, rfl⟩ := hf
  have hw := List.all_eq_true.mp FLT_ok q hq
  simp only [Bool.and_eq_true, decide_eq_true_eq] at hw
  obtain ⟨⟨⟨h1, h2⟩, h3⟩, h4⟩ := hw
  exact ⟨tblw h1 rfl, Nat.le_of_ble_eq_true h2, Nat.le_of_ble_eq_true h3, h4⟩
theorem oneC_inv {n : Nat} {H : HP} {ci : Nat} {k : List (Option Nat) → RR} {x : Option AV × HP} (h : oneC n H ci k = some x) : ∃ r, H.1[n]? = some (.inl (ci, r)) ∧ k r = some x := by
  unfold oneC at h
  rw [nth_eq] at h
  split at h
  · rename_i c r hr
    obtain ⟨hb, h1⟩ := bif_inv h
    rw [Nat.beq_eq] at hb
    subst hb
    exact ⟨r, hr, h1⟩
  · cases h
theorem oneN_inv {n : Nat} {H : HP} {t : Nat} {k : Nat → RR} {x : Option AV × HP} (h : oneN n H t k = some x) : ∃ m, H.1[n]? = some (.inr (.inl (t, m))) ∧ k m = some x := by
  unfold oneN at h
  rw [nth_eq] at h
  split at h
  · rename_i c r hr
    obtain ⟨hb, h1⟩ := bif_inv h
    rw [Nat.beq_eq] at hb
    subst hb
    exact ⟨r, hr, h1⟩
  · cases h
theorem oneR_inv {n : Nat} {H : HP} {k : List (Option Nat) → RR} {x : Option AV × HP} (h : oneR n H k = some x) : ∃ r, H.1[n]? = some (.inr (.inr r)) ∧ k r = some x := by
  unfold oneR at h
  rw [nth_eq] at h
  split at h
  · exact ⟨_, by assumption, h⟩
  · cases h
theorem inb_inv {i : Int32} {n : Nat} {k : Nat → RR} {x : Option AV × HP} (h : inb i n k = some x) : vp_in i n ∧ k i.toNatClampNeg = some x := ite_inv h
/-- what a heap instruction comes to: the new stack and heap, and the row -/
def HOk (T : TT) (B N0 : Nat) (D : va_G) (kc : Nat → ClassId) (E : Nat → Nat) (pc len : Nat) (S : ST) (H : HP) (S' : ST) (H' : HP) : Prop :=
  (H.1.length ≤ H'.1.length ∧ tot H.1 ≤ tot H'.1) ∧ ∀ (HF : HP) (T0 : Nat), HF.1.length - N0 ≤ T.2.2.2.1.cells → tot HF.1 - T0 ≤ T.2.2.2.1.slots → H'.1.length ≤ HF.1.length → tot H'.1 ≤ tot HF.1 →
  ∀ (Hm : Heap) (locs : List Loc) (cells slots : Nat) (Q : State → Prop) (ls : Array Slot), va_P D CLS (wsO kc B H) Hm → va_S (fun q => B ≤ q) T.2.2.2.2.1.heap Hm locs → H.1.length = N0 + cells → tot H.1 = T0 + slots → ls.size = T.2.2.2.2.2.2.2.2.2.maxLocals →
    (∀ (Hm' : Heap) (locs' : List Loc) (cells' slots' : Nat), va_P D CLS (wsO kc B H') Hm' → va_S (fun q => B ≤ q) T.2.2.2.2.1.heap Hm' locs' → H'.1.length = N0 + cells' → tot H'.1 = T0 + slots' → WC T Hm' locs' cells' slots' Q (pc + len) ls (S'.map (cv E B))) →
    WC T Hm locs cells slots Q pc ls (S.map (cv E B))
/-- an instruction that only reads -/
theorem HOk.read {T : TT} {B N0 : Nat} {D : va_G} {kc : Nat → ClassId} {E : Nat → Nat} {pc len : Nat} {S : ST} {H : HP} {S' : ST}
    (h : ∀ (Hm : Heap) (locs : List Loc) (cells slots : Nat) (Q : State → Prop) (ls : Array Slot), va_P D CLS (wsO kc B H) Hm → va_S (fun q => B ≤ q) T.2.2.2.2.1.heap Hm locs → WC T Hm locs cells slots Q (pc + len) ls (S'.map (cv E B)) → WC T Hm locs cells slots Q pc ls (S.map (cv E B))) : HOk T B N0 D kc E pc len S H S' H :=
  ⟨⟨Nat.le_refl _, Nat.le_refl _⟩, fun _ _ _ _ _ _ Hm locs cells slots Q ls hP hS h1 h2 _ w => h Hm locs cells slots Q ls hP hS (w Hm locs cells slots hP hS h1 h2)⟩
/-- an instruction that writes one cell -/
theorem HOk.write {T : TT} {B N0 : Nat} {D : va_G} {kc : Nat → ClassId} {E : Nat → Nat} {pc len : Nat} {S : ST} {H H' : HP} {S' : ST} (hl : H'.1.length = H.1.length) (ht : tot H'.1 = tot H.1)
    (h : ∀ (Hm : Heap) (locs : List Loc) (cells slots : Nat) (Q : State → Prop) (ls : Array Slot), va_P D CLS (wsO kc B H) Hm → va_S (fun q => B ≤ q) T.2.2.2.2.1.heap Hm locs → ls.size = T.2.2.2.2.2.2.2.2.2.maxLocals → (∀ (Hm' : Heap) (locs' : List Loc), va_P D CLS (wsO kc B H') Hm' → va_S (fun q => B ≤ q) T.2.2.2.2.1.heap Hm' locs' → WC T Hm' locs' cells slots Q (pc + len) ls (S'.map (cv E B))) → WC T Hm locs cells slots Q pc ls (S.map (cv E B))) : HOk T B N0 D kc E pc len S H S' H' :=
  ⟨⟨by omega, by omega⟩, fun _ _ _ _ _ _ Hm locs cells slots Q ls hP hS h1 h2 hs w => h Hm locs cells slots Q ls hP hS hs (fun Hm' locs' hP' hS' => w Hm' locs' cells slots hP' hS' (by omega) (by omega))⟩
theorem sA_row (kc : Nat → ClassId) (B : Nat) (h : DT) (n j m : Nat) (x : Int32) : ce kc B (sA h n j x) n (.inr (.inl (0, m))) = .inl (kc 0, m, .inl (upd (fun j => gA h n j) j x)) := by
  simp only [ce]
  congr 4
  funext b
  simp [gA, sA, up2, upd]
theorem sA_rowZ (kc : Nat → ClassId) (B : Nat) (h : DT) (n j m : Nat) (x : Int32) : ce kc B (sA h n j x) n (.inr (.inl (1, m))) = .inl (kc 1, m, .inl (upd (fun j => gA h n j) j x)) := by
  simp only [ce]
  congr 4
  funext b
  simp [gA, sA, up2, upd]
theorem sB_row (kc : Nat → ClassId) (B : Nat) (h : DT) (n j m : Nat) (x : Int64) : ce kc B (sB h n j x) n (.inr (.inl (2, m))) = .inl (kc 2, m, .inr (.inl (vp_updL (fun j => gB h n j) j x))) := by
  simp only [ce]
  congr 5
  funext b
  simp [gB, sB, up2, vp_updL]
theorem rR_row (kc : Nat → ClassId) (B : Nat) (h : DT) (n j v : Nat) (r : List (Option Nat)) (hj : j < r.length) : ce kc B h n (.inr (.inr (r.set j (some v)))) = .inl (kc 3, r.length, .inr (.inr (.inr (.inr (va_up (fun j => rfB B (r.getD j none)) j (some (B + v))))))) := by
  simp only [ce, List.length_set]
  congr 7
  funext b
  by_cases hb : b = j
  · subst hb
    simp [va_up, hj, rfB]
  · simp [va_up, hb, List.getElem?_set_ne (Ne.symm hb)]
end
section
theorem szN_set {H : HP} {n : Nat} {c c' : SC} (hn : H.1[n]? = some c) (hs : szC c' = szC c) (h' : DT) : (putL H.1 n c', h').1.length = H.1.length ∧ tot (putL H.1 n c', h').1 = tot H.1 := by
  simp only [putL_eq]
  exact ⟨by simp, tot_set hn hs⟩
/-- how large the heap is -/
theorem W_sz {T : TT} {own n : Nat} {isI : Bool} {cc : ByteArray} {B N0 : Nat} {D : va_G} {kc : Nat → ClassId} {E V : Nat → Nat} {X : XS} (C : Cx T own n isI cc B N0 D kc E V X) {H : HP} {Hm : Heap} {locs : List Loc} {cells slots pc : Nat} {Q : State → Prop} {ls : Array Slot} {st : List Value} (hP : va_P D CLS (wsO kc B H) Hm) (hS : va_S (fun q => B ≤ q) T.2.2.2.2.1.heap Hm locs) (hc : H.1.length = N0 + cells)
    (w : Hm.size = B + H.1.length → WC T Hm locs cells slots Q pc ls st) : WC T Hm locs cells slots Q pc ls st := by
  intro t ht X'
  have h1 := X'.heapSize
  rw [ht, C.2.2.2.2.2.2.2.2.1] at h1
  have h2 : B + H.1.length ≤ Hm.size := by
    cases hl : H.1.length with
    | zero =>
      have := hS.1
      rw [C.2.2.2.2.2.2.2.2.1] at this
      omega
    | succ k =>
      have hk : H.1[k]? = some (H.1[k]'(by omega)) := List.getElem?_eq_getElem _
      have := (hP k _ (wsO_at hk)).lt
      simp only at this
      omega
  exact w (by omega) t ht X'
/-- a new cell lies behind the others -/
theorem W_q {T : TT} {own n : Nat} {isI : Bool} {cc : ByteArray} {B N0 : Nat} {D : va_G} {kc : Nat → ClassId} {E V : Nat → Nat} {X : XS} (C : Cx T own n isI cc B N0 D kc E V X) {H : HP} {Hm : Heap} {locs : List Loc} {cells slots pc q : Nat} {e : va_E} {Q : State → Prop} {ls : Array Slot} {st : List Value} (hP : va_P D CLS (wsO kc B H ++ [(q, e)]) Hm) (hD : va_D (fun q => B ≤ q) (wsO kc B H ++ [(q, e)])) (hc : H.1.length = N0 + cells)
    (w : q = B + H.1.length → WC T Hm locs (cells + 1) slots Q pc ls st) : WC T Hm locs (cells + 1) slots Q pc ls st := by
  intro t ht X'
  have h1 := X'.heapSize
  rw [ht, C.2.2.2.2.2.2.2.2.1] at h1
  have hl : (wsO kc B H ++ [(q, e)])[H.1.length]? = some (q, e) := by
    rw [List.getElem?_append_right (by rw [wsO_len]; exact Nat.le_refl _), wsO_len]
    simp
  have h2 := (hP _ _ hl).lt
  have h3 := hD.2 _ _ hl
  simp only at h2 h3
  have h4 : ¬ q < B + H.1.length := by
    intro hq
    have hk : H.1[q - B]? = some (H.1[q - B]'(by omega)) := List.getElem?_eq_getElem _
    have h5 := wsO_at (kc := kc) (B := B) hk
    have h6 : (wsO kc B H ++ [(q, e)])[q - B]? = some (B + (q - B), ce kc B H.2 (q - B) (H.1[q - B]'(by omega))) := by
      rw [List.getElem?_append_left (by rw [wsO_len]; omega)]
      exact h5
    have := hD.1 _ _ _ _ h6 hl (by show B + (q - B) = q; omega)
    omega
  exact w (by omega) t ht X'
theorem n32 {x : Int32} (h : ¬ (x < 0 ∨ 200000 < x)) : ¬ x < 0 ∧ x.toNatClampNeg ≤ 200000 := by
  have h1 : ¬ x < 0 := fun q => h (Or.inl q)
  have h2 : ¬ (200000 : Int32) < x := fun q => h (Or.inr q)
  refine ⟨h1, ?_⟩
  rw [Int32.lt_iff_toInt_lt] at h2
  have h3 : (200000 : Int32).toInt = 200000 := by decide
  rw [h3] at h2
  show x.toInt.toNat ≤ 200000
  omega
theorem zF_fs {B c n : Nat} {h : DT} (h12 : c < 12) : ∀ j, j < NN c → defaultValue (tyN c j) = vp_V (fsv B c (List.replicate (NN c) none) (zF h n) n) j := by
  intro j hj
  have e : vp_V (fsv B c (List.replicate (NN c) none) (zF h n) n) j = fv B c (List.replicate (NN c) none) (zF h n) n j := by
    rw [vp_V, List.getD_eq_getElem?_getD, fsv_at hj]
    rfl
  rw [e]
  have h4 := KD_lt h12 hj
  rcases (show KD c j = 0 ∨ KD c j = 1 ∨ KD c j = 2 ∨ KD c j = 3 by omega) with hk | hk | hk | hk
  · rw [tyK0 h12 hj hk]
    simp [fv, hk, gF, zF, up1, defaultValue]
  · rw [tyK1 h12 hj hk]
    simp [fv, hk, gG, zF, up1, defaultValue]
  · have : (List.replicate (NN c) (none : Option Nat)).getD j none = none := by
      simp only [List.getD_eq_getElem?_getD, List.getElem?_replicate]
      split <;> rfl
    rcases tyK2 h12 hj hk with ⟨t, ht⟩ | ⟨t, ht⟩ <;> rw [ht] <;> simp only [fv, hk, this] <;> rfl
  · rw [tyK3 h12 hj hk]
    simp [fv, hk, gF, zF, up1, defaultValue]
theorem zA_i (kc : Nat → ClassId) (B : Nat) (h : DT) (n m : Nat) : ce kc B (zA h n) n (.inr (.inl (0, m))) = .inl (kc 0, m, .inl (fun _ => 0)) := by
  simp only [ce]
  congr 4
  funext b
  simp [gA, zA, up1]
theorem zA_z (kc : Nat → ClassId) (B : Nat) (h : DT) (n m : Nat) : ce kc B (zA h n) n (.inr (.inl (1, m))) = .inl (kc 1, m, .inl (fun _ => 0)) := by
  simp only [ce]
  congr 4
  funext b
  simp [gA, zA, up1]
theorem zA_l (kc : Nat → ClassId) (B : Nat) (h : DT) (n m : Nat) : ce kc B (zA h n) n (.inr (.inl (2, m))) = .inl (kc 2, m, .inr (.inl (fun _ => 0))) := by
  simp only [ce]
  congr 5
  funext b
  simp [gB, zA, up1]
theorem zR_r (kc : Nat → ClassId) (B : Nat) (h : DT) (n m : Nat) : ce kc B h n (.inr (.inr (List.replicate m none))) = .inl (kc 3, m, .inr (.inr (.inr (.inr (fun _ => none))))) := by
  simp only [ce, List.length_replicate]
  congr 7
  funext b
  simp only [List.getD_eq_getElem?_getD, List.getElem?_replicate, rfB]
  split <;> rfl
theorem tot1 (l : List SC) (c : SC) : (l ++ [c]).length = l.length + 1 ∧ tot (l ++ [c]) = tot l + szC c := by
  simp [tot_app, tot]
set_option maxHeartbeats 8000000 in
theorem opH_ok {T : TT} {own n : Nat} {isI : Bool} {cc : ByteArray} {B N0 : Nat} {D : va_G} {kc : Nat → ClassId} {E V : Nat → Nat} {X : XS} (C : Cx T own n isI cc B N0 D kc E V X) {pc : Nat} {i : Instr} {len : Nat} {ax : List Nat} {cI : Int32} {cL : Int64} (hd : decode cc pc = .ok (i, len)) (hk : len = lenF i len ∧ axOk own isI pc i ax cI cL = true) {S : ST} {H : HP} {k : ST → HP → RR} {x : Option AV × HP} (h : opH X i ax S H k = some x) :
    ∃ S' H', k S' H' = some x ∧ HOk T B N0 D kc E pc len S H S' H' := by
  obtain ⟨hx, hb, hml, hown, hts, hlk, hini, hcw, hsz, hfr, hlo⟩ := id C
  obtain ⟨hK, hZ, hT, hsr, hrr, hcs, hio, hX, hXb, hBs, hNw, hAO⟩ := id hcw
  have hA : ∀ q : Nat, T.2.2.2.2.1.heap.size ≤ q → B ≤ q := fun q hq => by omega
  cases i with
  | getfield ix =>
    obtain rfl : len = 3 := by simpa [lenF] using hk.1
    match ax, h, hk.2 with
    | [], h, h2 => exact absurd h (by simp [opH])
    | [_], h, h2 => exact absurd h (by simp [opH])
    | [_, _], h, h2 => exact absurd h (by simp [opH])
    | ci :: j :: kd :: _ :: _, h, h2 => exact absurd h2 (by simp [axOk])
    | [ci, j, kd], h, h2 =>
      simp only [axOk, Bool.and_eq_true, Nat.beq_eq] at h2
      obtain ⟨hkd, hfl⟩ := h2
      obtain ⟨hw, h12, hj, hre⟩ := fl_use hfl
      simp only [opH] at h
      obtain ⟨a, S1, rfl, h1⟩ := tN_inv h
      obtain ⟨r, hr, h3⟩ := oneC_inv h1
      have row : ∀ v : AV, cv E B v = fv B ci r H.2 a j → HOk T B N0 D kc E pc 3 (vP (some a) :: S1) H (v :: S1) H := fun v hv => HOk.read fun Hm locs cells slots Q ls hP hS w => by
        refine va_get (own := RN own) (ref := RN ci) (T := TN ci) (N := NN ci) hx hb hts (inN h12) hown hK hP a (wsO_at hr) (clsN h12) j hj (hts _ hw) (fun y hy => by rw [hre] at hy; exact hy) (fsv_at hj) hd ?_
        rw [← hv]
        exact w
      match kd, hkd, h3 with
      | 0, hkd, h3 => exact ⟨_, _, h3, row _ (by simp [fv, ← hkd, cv])⟩
      | 1, hkd, h3 => exact ⟨_, _, h3, row _ (by simp [fv, ← hkd, cv])⟩
      | 2, hkd, h3 => exact ⟨_, _, h3, row _ (by rw [cv_P]; simp [fv, ← hkd])⟩
      | kd + 3, hkd, h3 => exact ⟨_, _, h3, row _ (by simp [fv, ← hkd, cv])⟩
  | putfield ix =>
    obtain rfl : len = 3 := by simpa [lenF] using hk.1
    match ax, h, hk.2 with
    | [], h, h2 => exact absurd h (by simp [opH])
    | [_], h, h2 => exact absurd h (by simp [opH])
    | [_, _], h, h2 => exact absurd h (by simp [opH])
    | ci :: j :: kd :: _ :: _, h, h2 => exact absurd h2 (by simp [axOk])
    | [ci, j, kd], h, h2 =>
      simp only [axOk, Bool.and_eq_true, Nat.beq_eq] at h2
      obtain ⟨⟨hkd, hfl⟩, hfin⟩ := h2
      obtain ⟨hw, h12, hj, hre⟩ := fl_use hfl
      have row : ∀ (a : Nat) (r : List (Option Nat)) (v : AV) (S1 : ST) (H' : HP), H.1[a]? = some (.inl (ci, r)) → narrow (tyN ci j) (cv E B v) = cv E B v → fits (tyN ci j) (cv E B v) = true → (H'.1.length = H.1.length ∧ tot H'.1 = tot H.1) → wsO kc B H' = (wsO kc B H).set a (B + a, .inr (ci, (fsv B ci r H.2 a).set j (cv E B v))) → HOk T B N0 D kc E pc 3 (v :: vP (some a) :: S1) H S1 H' := by
        intro a r v S1 H' hr hn hf hl hws
        refine HOk.write hl.1 hl.2 fun Hm locs cells slots Q ls hP hS _ w => ?_
        have hjl : j < (fsv B ci r H.2 a).length := by rw [fsv_len]; exact hj
        cases hfb : (TN ci j).2.2.2 with
        | false =>
          refine va_put (own := RN own) (ref := RN ci) (T := TN ci) (N := NN ci) hx hb hts (inN h12) (tyN ci) (tyN_ok h12) (nmN h12) hown hK hP (wsO_D kc B H) hS a (wsO_at hr) (clsN h12) j hj (hts _ hw) (fun y hy => by rw [hre] at hy; exact hy) hfb (tyN_ok h12 j hj) hn hf hjl hd fun H1 l1 hP1 _ hS1 => w H1 l1 (by rw [hws]; exact hP1) hS1
        | true =>
          rw [hfb] at hfin
          simp only [Bool.not_true, Bool.false_or, Bool.and_eq_true, Nat.beq_eq] at hfin
          refine va_putF (own := RN own) (ref := RN ci) (T := TN ci) (N := NN ci) hx hb hts (inN h12) (tyN ci) (tyN_ok h12) (nmN h12) hown hK hP (wsO_D kc B H) hS a (wsO_at hr) (clsN h12) j hj (hts _ hw) (fun y hy => by rw [hre] at hy; exact hy) hfb (hini hfin.1) (by rw [hre, hfin.2]) (tyN_ok h12 j hj) hn hf hjl hd fun H1 l1 hP1 _ hS1 => w H1 l1 (by rw [hws]; exact hP1) hS1
      simp only [opH] at h
      match kd, hkd, h with
      | 0, hkd, h =>
        obtain ⟨v, S1, rfl, h1⟩ := tI_inv h
        obtain ⟨a, S2, rfl, h3⟩ := tN_inv h1
        obtain ⟨r, hr, h4⟩ := oneC_inv h3
        refine ⟨_, _, h4, row a r (vI v) S2 _ hr (by rw [tyK0 h12 hj hkd.symm]; rfl) (by rw [tyK0 h12 hj hkd.symm]; rfl) ⟨rfl, rfl⟩ ?_⟩
        rw [wsO_set1 hr (agr_sF _ _ _ _)]
        simp only [ce]
        rw [fsv_F v (Or.inl hkd.symm)]
        rfl
      | 1, hkd, h =>
        obtain ⟨v, S1, rfl, h1⟩ := tL_inv h
        obtain ⟨a, S2, rfl, h3⟩ := tN_inv h1
        obtain ⟨r, hr, h4⟩ := oneC_inv h3
        refine ⟨_, _, h4, row a r (vL v) S2 _ hr (by rw [tyK1 h12 hj hkd.symm]; rfl) (by rw [tyK1 h12 hj hkd.symm]; rfl) ⟨rfl, rfl⟩ ?_⟩
        rw [wsO_set1 hr (agr_sG _ _ _ _)]
        simp only [ce]
        rw [fsv_G v hkd.symm]
        rfl
      | 2, hkd, h =>
        obtain ⟨v, S1, rfl, h1⟩ := tP_inv h
        obtain ⟨a, S2, rfl, h3⟩ := tN_inv h1
        obtain ⟨r, hr, h4⟩ := oneC_inv h3
        obtain ⟨hjr, h5⟩ := bif_inv h4
        refine ⟨_, _, h5, row a r (vP v) S2 _ hr ?_ ?_ (szN_set (c' := cO ci (putL r j v)) hr rfl _) ?_⟩
        · rcases tyK2 h12 hj hkd.symm with ⟨t, ht⟩ | ⟨t, ht⟩ <;> rw [ht] <;> cases v <;> rfl
        · rcases tyK2 h12 hj hkd.symm with ⟨t, ht⟩ | ⟨t, ht⟩ <;> rw [ht] <;> cases v <;> rfl
        · rw [wsO_set hr (putL_eq _ _ _) (agr_rf _ _)]
          simp only [ce, putL_eq]
          rw [fsv_R v hkd.symm (Nat.le_of_ble_eq_true hjr), cv_P]
      | kd + 3, hkd, h =>
        obtain rfl : kd = 0 := by have := KD_lt h12 hj; omega
        obtain ⟨v, S1, rfl, h1⟩ := tI_inv h
        obtain ⟨a, S2, rfl, h3⟩ := tN_inv h1
        obtain ⟨r, hr, h4⟩ := oneC_inv h3
        by_cases hv : v = 0 ∨ v = 1
        · rw [if_pos hv] at h4
          refine ⟨_, _, h4, row a r (vI v) S2 _ hr (by rw [tyK3 h12 hj hkd.symm]; rcases hv with rfl | rfl <;> rfl) (by rw [tyK3 h12 hj hkd.symm]; rcases hv with rfl | rfl <;> rfl) ⟨rfl, rfl⟩ ?_⟩
          rw [wsO_set1 hr (agr_sF _ _ _ _)]
          simp only [ce]
          rw [fsv_F v (Or.inr hkd.symm)]
          rfl
        · rw [if_neg hv] at h4; cases h4
  | getstatic ix =>
    obtain rfl : len = 3 := by simpa [lenF] using hk.1
    match ax, h, hk.2 with
    | [], h, h2 => exact absurd h (by simp [opH])
    | j :: r, h, h2 =>
      simp only [axOk, Bool.and_eq_true, Bool.or_eq_true, Nat.beq_eq] at h2
      obtain ⟨rfl, h2⟩ := h2
      refine ⟨_, _, h, HOk.read fun Hm locs cells slots Q ls hP hS w => ?_⟩
      rcases h2 with ⟨rfl, rfl⟩ | ⟨rfl, rfl⟩
      · exact va_gets (own := RN 10) (ref := "ItalicsLean") hx hb hZ hS hown (hts _ (tblw (i := 994) (by decide +kernel) rfl)) (fun y hy => hy) hd w
      · exact va_getsN (own := RN 9) (ref := "ItalicsLean") (host := "ItalicsLean") hx hb hZ hS hown (va_Nw.use rfl (hNw _ (tbw (i := 985) (by decide +kernel)) rfl)) (fun y hy => hy) hd w
  | iaload =>
    obtain rfl : len = 1 := by simpa [lenF] using hk.1
    simp only [opH] at h
    split at h
    · rename_i i0 e S1
      cases he : Nat.beq e 100 with
      | true =>
        rw [he] at h
        simp only [cond_true] at h
        obtain ⟨hi, h1⟩ := inb_inv h
        rw [Nat.beq_eq] at he
        subst he
        exact ⟨_, _, h1, HOk.read fun Hm locs cells slots Q ls hP hS w => va_ti hx hb hT hS hi rfl hd w⟩
      | false =>
        rw [he] at h
        simp only [cond_false] at h
        obtain ⟨he1, h1⟩ := bif_inv h
        rw [Nat.beq_eq] at he1
        subst he1
        obtain ⟨hi, h2⟩ := inb_inv h1
        exact ⟨_, _, h2, HOk.read fun Hm locs cells slots Q ls hP hS w => va_sld hx hb hX (Nat.lt_of_lt_of_le hXb hBs) (Nat.not_le.mpr hXb) hS hi hd w⟩
    · obtain ⟨i0, S1, rfl, h1⟩ := tI_inv h
      obtain ⟨a, S2, rfl, h2⟩ := tN_inv h1
      obtain ⟨m0, hm, h3⟩ := oneN_inv h2
      obtain ⟨hi, h4⟩ := inb_inv h3
      exact ⟨_, _, h4, HOk.read fun Hm locs cells slots Q ls hP hS w => va_iald hx hb hK hP a 0 (wsO_at hm) rfl hi hd w⟩
  | baload =>
    obtain rfl : len = 1 := by simpa [lenF] using hk.1
    obtain ⟨i0, S1, rfl, h1⟩ := tI_inv h
    obtain ⟨a, S2, rfl, h2⟩ := tN_inv h1
    obtain ⟨m0, hm, h3⟩ := oneN_inv h2
    obtain ⟨hi, h4⟩ := inb_inv h3
    exact ⟨_, _, h4, HOk.read fun Hm locs cells slots Q ls hP hS w => va_zald hx hb hK hP a 1 (wsO_at hm) rfl hi hd w⟩
  | laload =>
    obtain rfl : len = 1 := by simpa [lenF] using hk.1
    obtain ⟨i0, S1, rfl, h1⟩ := tI_inv h
    obtain ⟨a, S2, rfl, h2⟩ := tN_inv h1
    obtain ⟨m0, hm, h3⟩ := oneN_inv h2
    obtain ⟨hi, h4⟩ := inb_inv h3
    exact ⟨_, _, h4, HOk.read fun Hm locs cells slots Q ls hP hS w => va_lald hx hb hK hP a 2 (wsO_at hm) rfl hi hd w⟩
  | aaload =>
    obtain rfl : len = 1 := by simpa [lenF] using hk.1
    obtain ⟨i0, S1, rfl, h1⟩ := tI_inv h
    obtain ⟨a, S2, rfl, h2⟩ := tN_inv h1
    obtain ⟨r, hr, h3⟩ := oneR_inv h2
    obtain ⟨hi, h4⟩ := inb_inv h3
    refine ⟨_, _, h4, HOk.read fun Hm locs cells slots Q ls hP hS w => ?_⟩
    refine va_aldq (C := "ItalicsLean$Text") hx hb hK hP a 3 (wsO_at hr) rfl hi hd ?_
    rw [← cv_P E B]
    exact w
  | iastore =>
    obtain rfl : len = 1 := by simpa [lenF] using hk.1
    obtain ⟨v, S0, rfl, h0⟩ := tI_inv h
    obtain ⟨i0, S1, rfl, h1⟩ := tI_inv h0
    obtain ⟨a, S2, rfl, h2⟩ := tN_inv h1
    obtain ⟨m0, hm, h3⟩ := oneN_inv h2
    obtain ⟨hi, h4⟩ := inb_inv h3
    refine ⟨_, _, h4, HOk.write rfl rfl fun Hm locs cells slots Q ls hP hS _ w => ?_⟩
    refine va_iast hx hb hK hP (wsO_D kc B H) hS a 0 (wsO_at hm) rfl hi hd fun H1 l1 hP1 _ hS1 => w H1 l1 ?_ hS1
    rw [wsO_set1 hm (agr_sA _ _ _ _), sA_row]
    exact hP1
  | bastore =>
    obtain rfl : len = 1 := by simpa [lenF] using hk.1
    obtain ⟨v, S0, rfl, h0⟩ := tI_inv h
    obtain ⟨i0, S1, rfl, h1⟩ := tI_inv h0
    obtain ⟨a, S2, rfl, h2⟩ := tN_inv h1
    obtain ⟨m0, hm, h3⟩ := oneN_inv h2
    obtain ⟨hi, h4⟩ := inb_inv h3
    refine ⟨_, _, h4, HOk.write rfl rfl fun Hm locs cells slots Q ls hP hS _ w => ?_⟩
    refine va_zast hx hb hK hP (wsO_D kc B H) hS a 1 (wsO_at hm) rfl hi hd fun H1 l1 hP1 _ hS1 => w H1 l1 ?_ hS1
    rw [wsO_set1 hm (agr_sA _ _ _ _), sA_rowZ]
    exact hP1
  | lastore =>
    obtain rfl : len = 1 := by simpa [lenF] using hk.1
    obtain ⟨v, S0, rfl, h0⟩ := tL_inv h
    obtain ⟨i0, S1, rfl, h1⟩ := tI_inv h0
    obtain ⟨a, S2, rfl, h2⟩ := tN_inv h1
    obtain ⟨m0, hm, h3⟩ := oneN_inv h2
    obtain ⟨hi, h4⟩ := inb_inv h3
    refine ⟨_, _, h4, HOk.write rfl rfl fun Hm locs cells slots Q ls hP hS _ w => ?_⟩
    refine va_last hx hb hK hP (wsO_D kc B H) hS a 2 (wsO_at hm) rfl hi hd fun H1 l1 hP1 _ hS1 => w H1 l1 ?_ hS1
    rw [wsO_set1 hm (agr_sB _ _ _ _), sB_row]
    exact hP1
  | aastore =>
    obtain rfl : len = 1 := by simpa [lenF] using hk.1
    obtain ⟨v, S0, rfl, h0⟩ := tN_inv h
    obtain ⟨i0, S1, rfl, h1⟩ := tI_inv h0
    obtain ⟨a, S2, rfl, h2⟩ := tN_inv h1
    obtain ⟨r, hr, h3⟩ := oneR_inv h2
    obtain ⟨rv, hv, h4⟩ := oneC_inv h3
    obtain ⟨hi, h5⟩ := inb_inv h4
    have hlt : i0.toNatClampNeg < r.length := Nat.not_le.mp fun q => hi (Or.inr q)
    refine ⟨_, _, h5, HOk.write (by simp [putL_eq]) (by rw [putL_eq]; exact tot_set hr (by simp [szC, putL_eq])) fun Hm locs cells slots Q ls hP hS _ w => ?_⟩
    refine va_astq (r := (RX7, TX7, 8)) hx hb hK hP (wsO_D kc B H) hS a 3 v 7 (wsO_at hr) rfl (wsO_at hv) rfl hi hd fun H1 l1 hP1 _ hS1 => w H1 l1 ?_ hS1
    rw [wsO_set hr (putL_eq _ _ _) (agr_rf _ _), putL_eq, rR_row _ _ _ _ _ _ _ hlt]
    exact hP1
  | arraylength =>
    obtain rfl : len = 1 := by simpa [lenF] using hk.1
    simp only [opH] at h
    split at h
    · rename_i e S1
      obtain ⟨he1, h1⟩ := bif_inv h
      rw [Nat.beq_eq] at he1
      subst he1
      exact ⟨_, _, h1, HOk.read fun Hm locs cells slots Q ls hP hS w => va_slen hx hb hX (Nat.lt_of_lt_of_le hXb hBs) (Nat.not_le.mpr hXb) hS hd w⟩
    · cases h
  | new ix =>
    obtain rfl : len = 3 := by simpa [lenF] using hk.1
    match ax, h, hk.2 with
    | [], h, h2 => exact absurd h (by simp [opH])
    | [_], h, h2 => exact absurd h (by simp [opH])
    | ci :: nf :: _, h, h2 =>
      simp only [axOk, Bool.and_eq_true, Nat.beq_eq] at h2
      obtain ⟨rfl, h2⟩ := h2
      obtain ⟨q, hq, hf⟩ := any_inv h2
      simp only [Bool.and_eq_true, Nat.beq_eq] at hf
      obtain ⟨⟨rfl, rfl⟩, rfl⟩ := hf
      have hw := List.all_eq_true.mp CLT_ok q hq
      simp only [Bool.and_eq_true, decide_eq_true_eq] at hw
      obtain ⟨⟨⟨g1, g2⟩, g3⟩, g4⟩ := hw
      have h12 : q.2.2.1 < 12 := Nat.le_of_ble_eq_true g4
      obtain ⟨t1, t2⟩ := tot1 H.1 (cO q.2.2.1 (List.replicate (NN q.2.2.1) none))
      simp only [szC] at t2
      refine ⟨_, _, h, ⟨by simp only [t1]; omega, by simp only [t2]; omega⟩, fun HF T0 hRc hRs hl hs Hm locs cells slots Q ls hP hS h1 h2 _ w => ?_⟩
      simp only [t1] at hl
      simp only [t2] at hs
      refine va_new (ci := q.2.2.1) (fs := fsv B q.2.2.1 (List.replicate (NN q.2.2.1) none) (zF H.2 H.1.length) H.1.length) (own := RN q.1) (T := TN q.2.2.1) (N := NN q.2.2.1) hx hb hts (inN h12) (tyN q.2.2.1) (tyN_ok h12) hown (hts _ (tblw g1 rfl)) (hts _ (tblw g2 rfl)) (hts _ (tblw g3 rfl)) hK hP (wsO_D kc B H) hS hA (clsN h12) (zF_fs h12) (by omega) (by omega) hd fun a H1 hP1 hD1 hS1 => ?_
      refine W_q C hP1 hD1 h1 fun ha => ?_
      subst ha
      refine w H1 locs (cells + 1) (slots + NN q.2.2.1) ?_ hS1 (by simp only [t1]; omega) (by simp only [t2]; omega)
      rw [wsO_push (agr_zF _ _)]
      exact hP1
  | newarray t =>
    obtain rfl : len = 2 := by simpa [lenF] using hk.1
    match ax, h, hk.2 with
    | [], h, h2 => exact absurd h (by simp [opH])
    | k0 :: _, h, h2 =>
      obtain ⟨v, S1, rfl, h1⟩ := tI_inv h
      obtain ⟨hv, h3⟩ := ite_inv h1
      obtain ⟨hv0, hv1⟩ := n32 hv
      obtain ⟨t1, t2⟩ := tot1 H.1 (cN k0 v.toNatClampNeg)
      simp only [szC] at t2
      refine ⟨_, _, h3, ⟨by simp only [t1]; omega, by simp only [t2]; omega⟩, fun HF T0 hRc hRs hl hs Hm locs cells slots Q ls hP hS hc1 hc2 _ w => ?_⟩
      simp only [t1] at hl
      simp only [t2] at hs
      cases t with
      | int =>
        simp only [axOk, Nat.beq_eq] at h2
        subst h2
        refine va_newa (atype := .int) (ty := .int) (a0 := (v.toNatClampNeg, .inl (fun _ => 0))) hx hb (hts _ (tblw (i := 197) (by decide +kernel) rfl)) rfl hK hP (wsO_D kc B H) hS hA (fun _ => rfl) hv0 rfl (by show _ * 4 ≤ _; omega) (by omega) (by omega) hd fun a cA H1 hK1 hP1 hD1 hS1 => ?_
        obtain rfl : cA = kc 0 := Option.some.inj ((show _ = some cA from (hK1.2 4 _ rfl).2).symm.trans (show _ = some (kc 0) from (hK.2 0 _ rfl).2))
        refine W_q C hP1 hD1 hc1 fun ha => ?_
        subst ha
        refine w H1 locs (cells + 1) (slots + v.toNatClampNeg) ?_ hS1 (by simp only [t1]; omega) (by simp only [t2]; omega)
        rw [wsO_push (agr_zA _ _), zA_i]
        exact hP1
      | boolean =>
        simp only [axOk, Nat.beq_eq] at h2
        subst h2
        refine va_newa (atype := .boolean) (ty := .boolean) (a0 := (v.toNatClampNeg, .inl (fun _ => 0))) hx hb (hts _ (tblw (i := 1353) (by decide +kernel) rfl)) rfl hK hP (wsO_D kc B H) hS hA (fun _ => rfl) hv0 rfl (by show _ * 1 ≤ _; omega) (by omega) (by omega) hd fun a cA H1 hK1 hP1 hD1 hS1 => ?_
        obtain rfl : cA = kc 1 := Option.some.inj ((show _ = some cA from (hK1.2 4 _ rfl).2).symm.trans (show _ = some (kc 1) from (hK.2 1 _ rfl).2))
        refine W_q C hP1 hD1 hc1 fun ha => ?_
        subst ha
        refine w H1 locs (cells + 1) (slots + v.toNatClampNeg) ?_ hS1 (by simp only [t1]; omega) (by simp only [t2]; omega)
        rw [wsO_push (agr_zA _ _), zA_z]
        exact hP1
      | long =>
        simp only [axOk, Nat.beq_eq] at h2
        subst h2
        refine va_newa (atype := .long) (ty := .long) (a0 := (v.toNatClampNeg, .inr (.inl (fun _ => 0)))) hx hb (hts _ (tblw (i := 371) (by decide +kernel) rfl)) rfl hK hP (wsO_D kc B H) hS hA (fun _ => rfl) hv0 rfl (by show _ * 8 ≤ _; omega) (by omega) (by omega) hd fun a cA H1 hK1 hP1 hD1 hS1 => ?_
        obtain rfl : cA = kc 2 := Option.some.inj ((show _ = some cA from (hK1.2 4 _ rfl).2).symm.trans (show _ = some (kc 2) from (hK.2 2 _ rfl).2))
        refine W_q C hP1 hD1 hc1 fun ha => ?_
        subst ha
        refine w H1 locs (cells + 1) (slots + v.toNatClampNeg) ?_ hS1 (by simp only [t1]; omega) (by simp only [t2]; omega)
        rw [wsO_push (agr_zA _ _), zA_l]
        exact hP1
      | _ => exact absurd h2 (by simp [axOk])
  | anewarray ix =>
    obtain rfl : len = 3 := by simpa [lenF] using hk.1
    have h2 := hk.2
    simp only [axOk, Bool.and_eq_true, Nat.beq_eq] at h2
    obtain ⟨rfl, rfl⟩ := h2
    obtain ⟨v, S1, rfl, h1⟩ := tI_inv h
    obtain ⟨hv, h3⟩ := ite_inv h1
    obtain ⟨hv0, hv1⟩ := n32 hv
    obtain ⟨t1, t2⟩ := tot1 H.1 (cR (List.replicate v.toNatClampNeg none))
    simp only [szC, List.length_replicate] at t2
    refine ⟨_, _, h3, ⟨by simp only [t1]; omega, by simp only [t2]; omega⟩, fun HF T0 hRc hRs hl hs Hm locs cells slots Q ls hP hS hc1 hc2 _ w => ?_⟩
    simp only [t1] at hl
    simp only [t2] at hs
    refine va_newq (own := RN 10) (C := "ItalicsLean$Text") hx hb hown (hts _ (tblw (i := 275) (by decide +kernel) rfl)) hAO hK hP (wsO_D kc B H) hS hA hv0 rfl (by omega) (by omega) (by omega) hd fun a cA H1 hK1 hP1 hD1 hS1 => ?_
    obtain rfl : cA = kc 3 := by
      obtain ⟨_, _, _, _, _, g1⟩ := (hK1.2 4 _ rfl).2
      obtain ⟨_, _, _, _, _, g2⟩ := (hK.2 3 _ rfl).2
      exact Option.some.inj (g1.symm.trans g2)
    refine W_q C hP1 hD1 hc1 fun ha => ?_
    subst ha
    refine w H1 locs (cells + 1) (slots + v.toNatClampNeg) ?_ hS1 (by simp only [t1]; omega) (by simp only [t2]; omega)
    rw [wsO_push (agr_rf _ _), zR_r]
    exact hP1
  | _ => exact absurd h (by simp [opH])
end
section
/-! CALLS of own methods: what a call that the small machine makes is in the large one -/
theorem CW.to {B : Nat} {D : va_G} {kc : Nat → ClassId} {E V : Nat → Nat} {X : XS} {s U : State} (h : CW B D kc E V X s) (hvm : s.vm.Alike U.vm) (hR : ∀ (own tx : String) (k a : Nat), vk_R own k tx a s → vk_R own k tx a U) (hN : ∀ w, isNest w = true → va_Nw w s → va_Nw w U) (hh : ∀ q : Nat, q < s.heap.size → ¬ B ≤ q → U.heap[q]? = s.heap[q]?) (hz : B ≤ U.heap.size) : CW B D kc E V X U := by
  obtain ⟨hK, hZ, hT, hsr, hrr, hcs, hio, hX, hXb, hBs, hNw, hAO⟩ := h
  refine ⟨va_K.moved hvm hK, (hZ.moved hvm).kept hh, (hT.moved hvm).kept hh, fun i hi => ?_, fun i q hq => hR _ _ _ _ (hrr i q hq), (hcs.moved hvm).kept hh, (hio.moved hvm).kept hh, (hX.moved hvm).kept (hh _ (Nat.lt_of_lt_of_le hXb hBs) (Nat.not_le.mpr hXb)), hXb, hz, fun w hw hn => hN w hn (hNw w hw hn), hAO.moved hvm⟩
  obtain ⟨h1, h2, h3, h4⟩ := hsr i hi
  exact ⟨(h1.moved hvm).kept hh, (h2.moved hvm).kept hh, (h3.moved hvm).kept hh, (h4.moved hvm).kept hh⟩
theorem CW.warm {B : Nat} {D : va_G} {kc : Nat → ClassId} {E V : Nat → Nat} {X : XS} {s U : State} {Hm : Heap} {locs : List Loc} (h : CW B D kc E V X s) (hW : s.WarmedH U.vm) (hU : U.heap = Hm) (hS : va_S (fun q => B ≤ q) s.heap Hm locs) : CW B D kc E V X U := by
  subst hU
  refine h.to hW.alike (fun _ _ _ _ q => q.warm hW) (fun w hn hw => ?_) hS.2.1 (Nat.le_trans h.2.2.2.2.2.2.2.2.2.1 hS.1)
  cases w <;> first | exact hw.warmM hW | exact hw.warmF hW | exact absurd hn (by simp [isNest])
theorem CW.calling {B : Nat} {D : va_G} {kc : Nat → ClassId} {E V : Nat → Nat} {X : XS} {U : State} (h : CW B D kc E V X U) (g : JFrame) (mk : MethodId) (a : Array Value) : CW B D kc E V X (U.calling g mk a) := by
  refine h.to (Vm.Alike.refl U.vm) (fun _ _ _ _ q => q.same rfl) (fun w hn hw => ?_) (fun _ _ _ => rfl) h.2.2.2.2.2.2.2.2.2.1
  cases w <;> first | exact hw.same rfl rfl | exact absurd hn (by simp [isNest])
def PcM (B : Nat) (D : va_G) (kc : Nat → ClassId) (E V : Nat → Nat) (X : XS) (as : List AV) (H : HP) : Array Value → State → Prop := fun v U => v = (as.map (cv E B)).toArray ∧ va_P D CLS (wsO kc B H) U.heap ∧ CW B D kc E V X U ∧ U.heap.size = B + H.1.length
def QcM (B : Nat) (D : va_G) (kc : Nat → ClassId) (E : Nat → Nat) (r : Option AV) (H' : HP) : Array Value → State → Outcome → State → Prop := fun _ st oc t => oc = .returned (r.map (cv E B)) ∧ va_P D CLS (wsO kc B H') t.heap ∧ va_F (fun q => B ≤ q) st t
def rmD (d mc ms : Nat) : Room := { frames := d + 9, cells := mc, slots := ms, locals := 100 * d + 400 }
def wY (q : MethodName × ByteArray × Nat × Option FieldType × Bool × Nat) : List Cond := Cond.code q.1 q.2.1 q.2.2.1 q.2.2.2.1 :: gtb
def CallOk (l : Launch) (B : Nat) (D : va_G) (kc : Nat → ClassId) (E V : Nat → Nat) (X : XS) (d : Nat) (call : Nat → List AV → HP → RR) : Prop :=
  ∀ (y : Nat) (as : List AV) (H : HP) (r : Option AV) (H' : HP), call y as H = some (r, H') → (H.1.length ≤ H'.1.length ∧ tot H.1 ≤ tot H'.1) ∧ ∀ q, nth YL y = some q → y < 300 → Met l q.1 (wY q) (rmD d (H'.1.length - H.1.length) (tot H'.1 - tot H.1)) (PcM B D kc E V X as H) (QcM B D kc E r H') (H'.1.length - H.1.length) (tot H'.1 - tot H.1) (fun a => B ≤ a)
theorem PcM_blind {B : Nat} {D : va_G} {kc : Nat → ClassId} {E V : Nat → Nat} {X : XS} {as : List AV} {H : HP} : FrameBlind (PcM B D kc E V X as H) := fun a U g mk q => ⟨q.1, q.2.1, q.2.2.1.calling g mk a, q.2.2.2⟩
theorem yOk_at {y : Nat} {q : MethodName × ByteArray × Nat × Option FieldType × Bool × Nat} (h : nth YL y = some q) (hy : y < 300) : Cond.code q.1 q.2.1 q.2.2.1 q.2.2.2.1 ∈ gtb ∧ ∃ p, yOk q p = true := by
  have main : ∀ (A : List (MethodName × ByteArray × Nat × Option FieldType × Bool × Nat)) (P : List (Nat × Nat × Nat × Nat)) (n i : Nat), (A.zip P).all (fun q => yOk q.1 q.2) = true → (P.map fun p => lw_tbl[p.1]?) = (A.take n).map (fun q => some (Cond.code q.1 q.2.1 q.2.2.1 q.2.2.2.1)) → i < n → i < P.length → A[i]? = some q → Cond.code q.1 q.2.1 q.2.2.1 q.2.2.2.1 ∈ gtb ∧ ∃ p, yOk q p = true := by
    intro A P n i h1 h2 hin hiP hq
    have hp : P[i]? = some (P[i]'hiP) := List.getElem?_eq_getElem hiP
    refine ⟨?_, P[i]'hiP, ?_⟩
    · have h3 : (P.map fun p => lw_tbl[p.1]?)[i]? = some (lw_tbl[(P[i]'hiP).1]?) := by rw [List.getElem?_map, hp]; rfl
      rw [h2, List.getElem?_map, List.getElem?_take_of_lt hin, hq] at h3
      exact tblw (Option.some.inj h3).symm rfl
    · have : (q, P[i]'hiP) ∈ A.zip P := by
        apply List.mem_of_getElem? (i := i)
        rw [List.getElem?_zip_eq_some]
        exact ⟨hq, hp⟩
      exact List.all_eq_true.mp h1 _ this
  rw [nth_eq] at h
  unfold YL at h
  have l0 : YL0.length = 50 := rfl
  have l1 : YL1.length = 50 := rfl
  have l2 : YL2.length = 50 := rfl
  have l3 : YL3.length = 50 := rfl
  have l4 : YL4.length = 50 := rfl
  have l5 : YL5.length = 50 := rfl
  have p0 : YP0.length = 50 := rfl
  have p1 : YP1.length = 50 := rfl
  have p2 : YP2.length = 50 := rfl
  have p3 : YP3.length = 50 := rfl
  have p4 : YP4.length = 50 := rfl
  have p5 : YP5.length = 50 := rfl
  by_cases c0 : y < 50
  · rw [List.getElem?_append_left (by omega)] at h
    exact main YL0 YP0 50 y YL0_ok YL0_code c0 (by omega) h
  · rw [List.getElem?_append_right (by omega), l0] at h
    by_cases c1 : y < 100
    · rw [List.getElem?_append_left (by omega)] at h
      exact main YL1 YP1 50 (y - 50) YL1_ok YL1_code (by omega) (by omega) h
    · rw [List.getElem?_append_right (by omega), l1] at h
      by_cases c2 : y < 150
      · rw [List.getElem?_append_left (by omega)] at h
        exact main YL2 YP2 50 (y - 50 - 50) YL2_ok YL2_code (by omega) (by omega) h
      · rw [List.getElem?_append_right (by omega), l2] at h
        by_cases c3 : y < 200
        · rw [List.getElem?_append_left (by omega)] at h
          exact main YL3 YP3 50 (y - 50 - 50 - 50) YL3_ok YL3_code (by omega) (by omega) h
        · rw [List.getElem?_append_right (by omega), l3] at h
          by_cases c4 : y < 250
          · rw [List.getElem?_append_left (by omega)] at h
            exact main YL4 YP4 50 (y - 50 - 50 - 50 - 50) YL4_ok YL4_code (by omega) (by omega) h
          · rw [List.getElem?_append_right (by omega), l4] at h
            rw [List.getElem?_append_left (by omega)] at h
            exact main YL5 YP5 50 (y - 50 - 50 - 50 - 50 - 50) YL5_ok YL5_code (by omega) (by omega) h
theorem wY_good {y : Nat} {q : MethodName × ByteArray × Nat × Option FieldType × Bool × Nat} (h : nth YL y = some q) (hy : y < 300) : GoodIn gtb (wY q) := by
  intro w hw
  have hm : w ∈ gtb := by
    rcases List.mem_cons.mp hw with rfl | hw
    · exact (yOk_at h hy).1
    · exact hw
  exact ⟨hm, good_of_word (List.mem_filter.mp hm).2⟩
theorem popN_inv {n : Nat} {S : ST} {acc : List AV} {k : List AV → ST → RR} {x : Option AV × HP} (h : popN n S acc k = some x) : ∃ as S', as.length = n ∧ S = as.reverse ++ S' ∧ k (as ++ acc) S' = some x := by
  induction n generalizing S acc with
  | zero => exact ⟨[], S, rfl, rfl, h⟩
  | succ n ih =>
    unfold popN at h
    split at h
    · rename_i v S1
      obtain ⟨as, S', h1, h2, h3⟩ := ih h
      refine ⟨as ++ [v], S', by simp [h1], by simp [h2], ?_⟩
      rw [List.append_assoc]
      exact h3
    · cases h
theorem words_eq (E : Nat → Nat) (B : Nat) (S : ST) : ((S.map (cv E B)).map fun v => v.category).sum = words S := by
  induction S with
  | nil => rfl
  | cons v S ih =>
    simp only [List.map_cons, List.sum_cons, words, cat_cv]
    rw [ih]
/-- behind a call -/
theorem callg {T : TT} {B : Nat} {D : va_G} {kc : Nat → ClassId} {E : Nat → Nat} {r : Option AV} {H' : HP} {Hm : Heap} {locs : List Loc} {cells slots mc ms pc : Nat} {ls : Array Slot} {st0 rest : List Value} {a : Array Value} {Q : State → Prop} (hsz : B ≤ T.2.2.2.2.1.heap.size)
    (hr : va_Run T.1 T.2.1 T.2.2.1 T.2.2.2.1 T.2.2.2.2.1 T.2.2.2.2.2.1 T.2.2.2.2.2.2.1 T.2.2.2.2.2.2.2.1 T.2.2.2.2.2.2.2.2.1 T.2.2.2.2.2.2.2.2.2 Hm locs cells slots mc ms (F0 T.2.2.2.2.2.1 pc ls st0) rest (QcM B D kc E r H' a) (fun a => B ≤ a)) (hS : va_S (fun q => B ≤ q) T.2.2.2.2.1.heap Hm locs)
    (kk : ∀ (H1 : Heap) (locs1 : List Loc), va_P D CLS (wsO kc B H') H1 → va_S (fun q => B ≤ q) T.2.2.2.2.1.heap H1 locs1 → WC T H1 locs1 (cells + mc) (slots + ms) Q (pc + 3) ls ((r.map (cv E B)).toList ++ rest)) : WC T Hm locs cells slots Q pc ls st0 := by
  intro t ht X'
  obtain ⟨v, st₀, t', T', Lc, h0, X2, hL, e1, e2, ⟨hv, hp, hz, hk⟩, st⟩ := hr t ht X'
  have hv' : v = r.map (cv E B) := by injection hv
  subst hv'
  rw [h0] at hz hk
  obtain ⟨t2, a1, b1⟩ := kk T'.heap (locs ++ Lc) (by rw [e1]; exact hp)
    ⟨Nat.le_trans hS.1 (by rw [e1]; exact hz), fun q h1 h2 => by rw [e1, hk q (Nat.lt_of_lt_of_le h1 hS.1) h2]; exact hS.2.1 q h1 h2, fun q hq => by
      rcases List.mem_append.mp hq with h | h
      · exact hS.2.2 q h
      · exact hL q h⟩ T' rfl X2
  exact ⟨t2, st t2 a1, b1⟩
end
section
set_option maxRecDepth 20000 in
theorem MLT_y : MLT.all (fun q => Nat.blt q.2.2.1 300) = true := by decide +kernel
set_option maxRecDepth 20000 in
theorem Y_own : (List.range 300).all (fun y => decide ((YN y).cls = RN (ownY y))) = true := by decide +kernel
set_option maxRecDepth 20000 in
theorem Y_max : YL.all (fun q => Nat.ble q.2.2.1 80) = true := by decide +kernel
theorem YN_at {y : Nat} {q : MethodName × ByteArray × Nat × Option FieldType × Bool × Nat} (h : nth YL y = some q) : YN y = q.1 := by unfold YN; rw [h]
set_option maxRecDepth 20000 in
theorem YL_len : YL.length = 301 := rfl
theorem mlt_use {own ix y : Nat} (h : MLT.any (fun q => Nat.beq q.1 own && Nat.beq q.2.1 ix && Nat.beq q.2.2.1 y) = true) : y < 300 ∧ ∃ q, nth YL y = some q ∧ (Cond.methodLink (RN own) ix q.1 ∈ gtb ∨ Cond.methodLinkNest (RN own) ix q.1 "ItalicsLean" ∈ lw_tbl) := by
  obtain ⟨q, hq, hf⟩ := any_inv h
  simp only [Bool.and_eq_true, Nat.beq_eq] at hf
  obtain ⟨⟨rfl, rfl⟩, rfl⟩ := hf
  have hy : q.2.2.1 < 300 := Nat.le_of_ble_eq_true (List.all_eq_true.mp MLT_y q hq)
  have hw := of_decide_eq_true (List.all_eq_true.mp MLT_ok q hq)
  have hs : nth YL q.2.2.1 = some (YL[q.2.2.1]'(by rw [YL_len]; omega)) := by rw [nth_eq]; exact List.getElem?_eq_getElem _
  refine ⟨hy, _, hs, ?_⟩
  rw [YN_at hs] at hw
  by_cases h0 : q.2.2.2.1 = 0
  · rw [if_pos h0] at hw; exact Or.inl (tblw hw rfl)
  · rw [if_neg h0] at hw; exact Or.inr (tbw hw)
theorem mlt_use0 {own ix y : Nat} (h : MLT.any (fun q => Nat.beq q.1 own && Nat.beq q.2.1 ix && Nat.beq q.2.2.1 y && Nat.beq q.2.2.2.1 0) = true) : y < 300 ∧ ∃ q, nth YL y = some q ∧ Cond.methodLink (RN own) ix q.1 ∈ gtb := by
  obtain ⟨q, hq, hf⟩ := any_inv h
  simp only [Bool.and_eq_true, Nat.beq_eq] at hf
  obtain ⟨⟨⟨rfl, rfl⟩, rfl⟩, h0⟩ := hf
  have hy : q.2.2.1 < 300 := Nat.le_of_ble_eq_true (List.all_eq_true.mp MLT_y q hq)
  have hw := of_decide_eq_true (List.all_eq_true.mp MLT_ok q hq)
  have hs : nth YL q.2.2.1 = some (YL[q.2.2.1]'(by rw [YL_len]; omega)) := by rw [nth_eq]; exact List.getElem?_eq_getElem _
  refine ⟨hy, _, hs, ?_⟩
  rw [YN_at hs, if_pos h0] at hw
  exact tblw hw rfl
theorem yOk_use {y : Nat} {q : MethodName × ByteArray × Nat × Option FieldType × Bool × Nat} (h : nth YL y = some q) (hy : y < 300) : Cond.initialized q.1.cls ∈ gtb ∧ (q.2.2.2.2.1 = true → Cond.static q.1 ∈ gtb) ∧ (q.2.2.2.2.1 = false → Cond.instanceMethod q.1 ∈ gtb ∧ (q.1.name ≠ "<init>" → Cond.selects q.1.cls q.1 q.1 ∈ gtb)) ∧ (q.1.cls ≠ "java/lang/invoke/MethodHandle" ∧ q.1.cls ≠ "java/lang/invoke/VarHandle" ∧ (parseMethodDescriptor q.1.desc).map (fun d => d.parameters.length) = some q.2.2.2.2.2) ∧ plainName q.1.cls = true ∧ q.2.2.1 ≤ 80 := by
  obtain ⟨-, p, hp⟩ := yOk_at h hy
  simp only [yOk, Bool.and_eq_true, decide_eq_true_eq] at hp
  obtain ⟨⟨⟨⟨⟨h1, h2⟩, h3⟩, h4⟩, h5⟩, h6⟩ := hp
  refine ⟨tblw h1 rfl, fun hs => ?_, fun hs => ?_, ⟨h3, h4, h5⟩, h6, ?_⟩
  · rw [if_pos hs] at h2
    exact tblw (of_decide_eq_true h2) rfl
  · rw [hs] at h2
    simp only [Bool.false_eq_true, if_false, Bool.and_eq_true, Bool.or_eq_true, decide_eq_true_eq] at h2
    refine ⟨tblw h2.1 rfl, fun hn => ?_⟩
    rcases h2.2 with h7 | h7
    · exact absurd h7 hn
    · exact tblw h7 rfl
  · rw [nth_eq] at h
    exact Nat.le_of_ble_eq_true (List.all_eq_true.mp Y_max q (List.mem_of_getElem? h))
set_option maxRecDepth 4000 in
theorem rm_ok {d mc ms fr lo mx : Nat} (h1 : d + 10 ≤ fr) (h2 : 100 * d + 500 ≤ lo) (h3 : mx ≤ 80) : (rmD d mc ms).frames + 1 ≤ fr ∧ 8 + (mx + 11) + (rmD d mc ms).locals ≤ lo := ⟨h1, by simp only [rmD]; omega⟩
set_option maxRecDepth 20000 in
theorem Y_init : YL.all (fun q => !(decide (q.1.name = "<init>")) || decide (q.2.2.2.1 = none)) = true := by decide +kernel
theorem initNone {y : Nat} {q : MethodName × ByteArray × Nat × Option FieldType × Bool × Nat} (h : nth YL y = some q) (hy : y < 300) (hn : q.1.name = "<init>") : q.2.2.2.1 = none := by
  rw [nth_eq] at h
  have := List.all_eq_true.mp Y_init q (List.mem_of_getElem? h)
  simp only [hn, decide_true, Bool.not_true, Bool.false_or, decide_eq_true_eq] at this
  exact this
theorem bV_inv {r : RR} {k : HP → RR} {x : Option AV × HP} (h : bV r k = some x) : ∃ H1, r = some (none, H1) ∧ k H1 = some x := by
  unfold bV at h
  split at h
  · exact ⟨_, rfl, h⟩
  · cases h
theorem bI_inv {r : RR} {k : Int32 → HP → RR} {x : Option AV × HP} (h : bI r k = some x) : ∃ a H1, r = some (some (vI a), H1) ∧ k a H1 = some x := by
  unfold bI at h
  split at h
  · exact ⟨_, _, rfl, h⟩
  · cases h
theorem bL_inv {r : RR} {k : Int64 → HP → RR} {x : Option AV × HP} (h : bL r k = some x) : ∃ a H1, r = some (some (vL a), H1) ∧ k a H1 = some x := by
  unfold bL at h
  split at h
  · exact ⟨_, _, rfl, h⟩
  · cases h
theorem bP_inv {r : RR} {k : Option Nat → HP → RR} {x : Option AV × HP} (h : bP r k = some x) : ∃ a H1, r = some (some (vP a), H1) ∧ k a H1 = some x := by
  unfold bP at h
  split at h
  · exact ⟨_, _, rfl, h⟩
  · cases h
/-- the answer of a call, whatever its kind -/
theorem goC_inv {rt : Nat} {r0 : RR} {S : ST} {k : ST → HP → RR} {x : Option AV × HP} (h : (match rt with
        | 0 => bV r0 fun H => k S H
        | 1 => bI r0 fun x H => k (vI x :: S) H
        | 2 => bL r0 fun x H => k (vL x :: S) H
        | _ => bP r0 fun x H => k (vP x :: S) H) = some x) : ∃ r H1, r0 = some (r, H1) ∧ k (r.toList ++ S) H1 = some x := by
  split at h
  · obtain ⟨H1, h1, h2⟩ := bV_inv h
    exact ⟨none, H1, h1, h2⟩
  · obtain ⟨a, H1, h1, h2⟩ := bI_inv h
    exact ⟨_, H1, h1, h2⟩
  · obtain ⟨a, H1, h1, h2⟩ := bL_inv h
    exact ⟨_, H1, h1, h2⟩
  · obtain ⟨a, H1, h1, h2⟩ := bP_inv h
    exact ⟨_, H1, h1, h2⟩
/-- a call's row out of the callee's run -/
theorem HOk.call {T : TT} {own n : Nat} {isI : Bool} {cc : ByteArray} {B N0 : Nat} {D : va_G} {kc : Nat → ClassId} {E V : Nat → Nat} {X : XS} (C : Cx T own n isI cc B N0 D kc E V X) {pc : Nat} {S S' : ST} {H H1 : HP} {r : Option AV} {a : Array Value} (hm : H.1.length ≤ H1.1.length ∧ tot H.1 ≤ tot H1.1)
    (run : ∀ (Hm : Heap) (locs : List Loc) (cells slots : Nat) (ls : Array Slot), va_P D CLS (wsO kc B H) Hm → va_S (fun q => B ≤ q) T.2.2.2.2.1.heap Hm locs → Hm.size = B + H.1.length → ls.size = T.2.2.2.2.2.2.2.2.2.maxLocals → cells + (H1.1.length - H.1.length) ≤ T.2.2.2.1.cells ∧ slots + (tot H1.1 - tot H.1) ≤ T.2.2.2.1.slots → va_Run T.1 T.2.1 T.2.2.1 T.2.2.2.1 T.2.2.2.2.1 T.2.2.2.2.2.1 T.2.2.2.2.2.2.1 T.2.2.2.2.2.2.2.1 T.2.2.2.2.2.2.2.2.1 T.2.2.2.2.2.2.2.2.2 Hm locs cells slots (H1.1.length - H.1.length) (tot H1.1 - tot H.1) (F0 T.2.2.2.2.2.1 pc ls (S.map (cv E B))) (S'.map (cv E B)) (QcM B D kc E r H1 a) (fun a => B ≤ a)) :
    HOk T B N0 D kc E pc 3 S H (r.toList ++ S') H1 := by
  refine ⟨hm, fun HF T0 hRc hRs hl hs Hm locs cells slots Q ls hP hS h1 h2 hls w => ?_⟩
  refine W_sz C hP hS h1 fun hz => ?_
  refine callg (C.2.2.2.2.2.2.2.1.2.2.2.2.2.2.2.2.2.1) (run Hm locs cells slots ls hP hS hz hls ⟨by omega, by omega⟩) hS fun H1m locs1 hP1 hS1 => ?_
  have := w H1m locs1 _ _ hP1 hS1 (show H1.1.length = N0 + (cells + (H1.1.length - H.1.length)) by omega) (show tot H1.1 = T0 + (slots + (tot H1.1 - tot H.1)) by omega)
  rw [List.map_append] at this
  cases r <;> exact this
set_option maxHeartbeats 4000000 in
theorem opC_st {T : TT} {own n : Nat} {isI : Bool} {cc : ByteArray} {B N0 : Nat} {D : va_G} {kc : Nat → ClassId} {E V : Nat → Nat} {X : XS} (C : Cx T own n isI cc B N0 D kc E V X) {d : Nat} {call : Nat → List AV → HP → RR} (hcall : CallOk T.2.1 B D kc E V X d call) (hR : d + 10 ≤ T.2.2.2.1.frames ∧ 100 * d + 500 ≤ T.2.2.2.1.locals) {pc ix len : Nat} {ax : List Nat} {cI : Int32} {cL : Int64} (hd : decode cc pc = .ok (.invokestatic ix, len)) (hk : len = lenF (.invokestatic ix) len ∧ axOk own isI pc (.invokestatic ix) ax cI cL = true) (hne : ∀ b r, ax ≠ 2 :: b :: r) {S : ST} {H : HP} {k : ST → HP → RR} {x : Option AV × HP} (h : opC call ax S H k = some x) :
    ∃ S' H', k S' H' = some x ∧ HOk T B N0 D kc E pc len S H S' H' := by
  obtain ⟨hx, hb, hml, hown, hts, hlk, hini, hcw, hsz, hfr, hlo⟩ := id C
  obtain ⟨-, -, -, -, -, -, -, -, -, -, hNw, -⟩ := id hcw
  obtain rfl : len = 3 := by simpa [lenF] using hk.1
  have h2 := hk.2
  unfold axOk at h2
  simp only at h2
  split at h2
  · exact absurd rfl (hne _ _)
  · rename_i y na rt
    simp only [Bool.and_eq_true, Nat.beq_eq] at h2
    obtain ⟨⟨⟨hm, hst⟩, hna⟩, hrt⟩ := h2
    obtain ⟨hy, q, hq, hlink⟩ := mlt_use hm
    obtain ⟨u1, u2, -, u4, u5, u6⟩ := yOk_use hq hy
    have hstq : q.2.2.2.2.1 = true := by unfold isStat at hst; rw [hq] at hst; exact hst
    have hnq : na = q.2.2.2.2.2 := by unfold narg at hna; rw [hq] at hna; exact hna
    simp only [opC] at h
    obtain ⟨as, S1, hl, rfl, h3⟩ := popN_inv h
    obtain ⟨hwd, h4⟩ := bif_inv h3
    obtain ⟨r, H1, hr, h5⟩ := goC_inv h4
    rw [List.append_nil] at hr
    obtain ⟨hmo, hMet⟩ := hcall y as H r H1 hr
    have hM := hMet q hq hy
    have hwd' : (((S1.map (cv E B)).map fun v => v.category).sum) ≤ 8 := by rw [words_eq]; exact Nat.le_of_ble_eq_true hwd
    have hrm : (rmD d (H1.1.length - H.1.length) (tot H1.1 - tot H.1)).frames + 1 ≤ T.2.2.2.1.frames ∧ 8 + (q.2.2.1 + 11) + (rmD d (H1.1.length - H.1.length) (tot H1.1 - tot H.1)).locals ≤ T.2.2.2.1.locals := rm_ok hR.1 hR.2 u6
    refine ⟨_, _, h5, HOk.call C (a := (as.map (cv E B)).toArray) hmo fun Hm locs cells slots ls hP hS hz hls hf => ?_⟩
    have hpre : PreS T.2.2.2.2.1 Hm (PcM B D kc E V X as H) (as.map (cv E B)) := ⟨PcM_blind, fun U hU hW => ⟨rfl, by rw [hU]; exact hP, hcw.warm hW hU hS, by rw [hU]; exact hz⟩⟩
    have hstk : (F0 T.2.2.2.2.2.1 pc ls ((as.reverse ++ S1).map (cv E B))).stack = (as.map (cv E B)).reverse ++ S1.map (cv E B) := by simp
    rcases hlink with hlink | hlink
    · exact va_runS (n := q.2.2.2.2.2) ⟨hx, hb, hml, hown, hts⟩ hM ⟨callB_of _ hts (wY_good hq hy) rfl rfl rfl (hts _ u1) (hts _ hlink) u4 hrm, hts _ (u2 hstq)⟩ hpre rfl (by simp [hl, hnq]) (by rw [← hml]; exact hls) hstk (lv_room hwd') hd hf
    · exact va_runSN (n := q.2.2.2.2.2) (host := "ItalicsLean") ⟨hx, hb, hml, hown, hts⟩ hM ⟨va_cnB _ hts (wY_good hq hy) rfl rfl rfl (hNw _ hlink rfl) (hts _ u1) u4 hrm, hts _ (u2 hstq), trivial⟩ hpre rfl (by simp [hl, hnq]) (by rw [← hml]; exact hls) hstk (lv_room hwd') hd hf
  · cases h2
set_option maxHeartbeats 4000000 in
theorem opC_vi {T : TT} {own n : Nat} {isI : Bool} {cc : ByteArray} {B N0 : Nat} {D : va_G} {kc : Nat → ClassId} {E V : Nat → Nat} {X : XS} (C : Cx T own n isI cc B N0 D kc E V X) {d : Nat} {call : Nat → List AV → HP → RR} (hcall : CallOk T.2.1 B D kc E V X d call) (hR : d + 10 ≤ T.2.2.2.1.frames ∧ 100 * d + 500 ≤ T.2.2.2.1.locals) {pc ix len : Nat} {ax : List Nat} {cI : Int32} {cL : Int64} (hd : decode cc pc = .ok (.invokevirtual ix, len)) (hk : len = lenF (.invokevirtual ix) len ∧ axOk own isI pc (.invokevirtual ix) ax cI cL = true) (hne : ∀ b r, ax ≠ 2 :: b :: r) {S : ST} {H : HP} {k : ST → HP → RR} {x : Option AV × HP} (h : opC call ax S H k = some x) :
    ∃ S' H', k S' H' = some x ∧ HOk T B N0 D kc E pc len S H S' H' := by
  obtain ⟨hx, hb, hml, hown, hts, hlk, hini, hcw, hsz, hfr, hlo⟩ := id C
  obtain ⟨hK, -⟩ := id hcw
  obtain rfl : len = 3 := by simpa [lenF] using hk.1
  have h2 := hk.2
  unfold axOk at h2
  simp only at h2
  split at h2
  · exact absurd rfl (hne _ _)
  · rename_i y na rt ci
    simp only [Bool.and_eq_true, Nat.beq_eq, Bool.not_eq_true', decide_eq_false_iff_not] at h2
    obtain ⟨⟨⟨⟨⟨⟨hm, hst⟩, hna⟩, hrt⟩, hci⟩, hc12⟩, hnin⟩ := h2
    obtain ⟨hy, q, hq, hlink⟩ := mlt_use0 hm
    obtain ⟨u1, -, u3, u4, u5, u6⟩ := yOk_use hq hy
    have hstq : q.2.2.2.2.1 = false := by unfold isStat at hst; rw [hq] at hst; exact hst
    have hnq : na = q.2.2.2.2.2 := by unfold narg at hna; rw [hq] at hna; exact hna
    have hcls : q.1.cls = RN ci := by
      have := of_decide_eq_true (List.all_eq_true.mp Y_own y (List.mem_range.mpr hy))
      rw [YN_at hq] at this
      rw [this, hci]
    have h12 : ci < 12 := Nat.le_of_ble_eq_true hc12
    rw [YN_at hq] at hnin
    simp only [opC] at h
    obtain ⟨as, S1, hl, rfl, h3⟩ := popN_inv h
    obtain ⟨b0, S2, rfl, h4⟩ := tN_inv h3
    obtain ⟨rb, hrb, h5⟩ := oneC_inv h4
    obtain ⟨hwd, h6⟩ := bif_inv h5
    obtain ⟨r, H1, hr, h7⟩ := goC_inv h6
    rw [List.append_nil] at hr
    obtain ⟨hmo, hMet⟩ := hcall y _ H r H1 hr
    have hM := hMet q hq hy
    have hwd' : (((S2.map (cv E B)).map fun v => v.category).sum) ≤ 8 := by rw [words_eq]; exact Nat.le_of_ble_eq_true hwd
    have hrm : (rmD d (H1.1.length - H.1.length) (tot H1.1 - tot H.1)).frames + 1 ≤ T.2.2.2.1.frames ∧ 8 + (q.2.2.1 + 11) + (rmD d (H1.1.length - H.1.length) (tot H1.1 - tot H.1)).locals ≤ T.2.2.2.1.locals := rm_ok hR.1 hR.2 u6
    refine ⟨_, _, h7, HOk.call C (a := (Value.ref (B + b0) :: as.map (cv E B)).toArray) hmo fun Hm locs cells slots ls hP hS hz hls hf => ?_⟩
    have hpre : PreV T.2.2.2.2.1 Hm q.1.cls (B + b0) (PcM B D kc E V X (vP (some b0) :: as) H) (as.map (cv E B)) := ⟨PcM_blind, by rw [hcls]; exact va_recv hK hP (clsN h12) (wsO_at hrb), fun U hU hW => ⟨rfl, by rw [hU]; exact hP, hcw.warm hW hU hS, by rw [hU]; exact hz⟩⟩
    have hstk : (F0 T.2.2.2.2.2.1 pc ls ((as.reverse ++ vP (some b0) :: S2).map (cv E B))).stack = (as.map (cv E B)).reverse ++ Value.ref (B + b0) :: S2.map (cv E B) := by simp [cv]
    exact va_runV (n := q.2.2.2.2.2) ⟨hx, hb, hml, hown, hts⟩ hM ⟨callB_of _ hts (wY_good hq hy) rfl rfl rfl (hts _ u1) (hts _ hlink) u4 hrm, hts _ (u3 hstq).1, hts _ ((u3 hstq).2 hnin)⟩ hpre rfl (by simp [hl, hnq]) (by rw [← hml]; exact hls) hstk (lv_room hwd') hd hf
  · cases h2
set_option maxHeartbeats 4000000 in
theorem opC_sp {T : TT} {own n : Nat} {isI : Bool} {cc : ByteArray} {B N0 : Nat} {D : va_G} {kc : Nat → ClassId} {E V : Nat → Nat} {X : XS} (C : Cx T own n isI cc B N0 D kc E V X) {d : Nat} {call : Nat → List AV → HP → RR} (hcall : CallOk T.2.1 B D kc E V X d call) (hR : d + 10 ≤ T.2.2.2.1.frames ∧ 100 * d + 500 ≤ T.2.2.2.1.locals) {pc ix len : Nat} {ax : List Nat} {cI : Int32} {cL : Int64} (hd : decode cc pc = .ok (.invokespecial ix, len)) (hk : len = lenF (.invokespecial ix) len ∧ axOk own isI pc (.invokespecial ix) ax cI cL = true) (hne : ∀ b r, ax ≠ 2 :: b :: r) {S : ST} {H : HP} {k : ST → HP → RR} {x : Option AV × HP} (h : opC call ax S H k = some x) :
    ∃ S' H', k S' H' = some x ∧ HOk T B N0 D kc E pc len S H S' H' := by
  obtain ⟨hx, hb, hml, hown, hts, hlk, hini, hcw, hsz, hfr, hlo⟩ := id C
  obtain ⟨hK, -, -, -, -, -, -, -, -, -, hNw, -⟩ := id hcw
  obtain rfl : len = 3 := by simpa [lenF] using hk.1
  have h2 := hk.2
  unfold axOk at h2
  simp only at h2
  split at h2
  · exact absurd rfl (hne _ _)
  · rename_i y na rt ci
    simp only [Bool.and_eq_true, Nat.beq_eq, Bool.not_eq_true', decide_eq_true_eq] at h2
    obtain ⟨⟨⟨⟨⟨⟨⟨hm, hst⟩, hna⟩, hrt0⟩, hrt⟩, hci⟩, hc12⟩, hnin⟩ := h2
    obtain ⟨hy, q, hq, hlink⟩ := mlt_use hm
    obtain ⟨u1, -, u3, u4, u5, u6⟩ := yOk_use hq hy
    have hstq : q.2.2.2.2.1 = false := by unfold isStat at hst; rw [hq] at hst; exact hst
    have hnq : na = q.2.2.2.2.2 := by unfold narg at hna; rw [hq] at hna; exact hna
    have hret : q.2.2.2.1 = none := initNone hq hy (by rw [← YN_at hq]; exact hnin)
    rw [YN_at hq] at hnin
    simp only [opC] at h
    obtain ⟨as, S1, hl, rfl, h3⟩ := popN_inv h
    obtain ⟨b0, S2, rfl, h4⟩ := tN_inv h3
    obtain ⟨rb, hrb, h5⟩ := oneC_inv h4
    obtain ⟨hwd, h6⟩ := bif_inv h5
    obtain ⟨r, H1, hr, h7⟩ := goC_inv h6
    rw [List.append_nil] at hr
    obtain ⟨hmo, hMet⟩ := hcall y _ H r H1 hr
    have hM := hMet q hq hy
    have hwd' : (((S2.map (cv E B)).map fun v => v.category).sum) ≤ 8 := by rw [words_eq]; exact Nat.le_of_ble_eq_true hwd
    have hrm : (rmD d (H1.1.length - H.1.length) (tot H1.1 - tot H.1)).frames + 1 ≤ T.2.2.2.1.frames ∧ 8 + (q.2.2.1 + 11) + (rmD d (H1.1.length - H.1.length) (tot H1.1 - tot H.1)).locals ≤ T.2.2.2.1.locals := rm_ok hR.1 hR.2 u6
    refine ⟨_, _, h7, HOk.call C (a := (Value.ref (B + b0) :: as.map (cv E B)).toArray) hmo fun Hm locs cells slots ls hP hS hz hls hf => ?_⟩
    have hpre : PreS T.2.2.2.2.1 Hm (PcM B D kc E V X (vP (some b0) :: as) H) (Value.ref (B + b0) :: as.map (cv E B)) := ⟨PcM_blind, fun U hU hW => ⟨rfl, by rw [hU]; exact hP, hcw.warm hW hU hS, by rw [hU]; exact hz⟩⟩
    have hstk : (F0 T.2.2.2.2.2.1 pc ls ((as.reverse ++ vP (some b0) :: S2).map (cv E B))).stack = (as.map (cv E B)).reverse ++ Value.ref (B + b0) :: S2.map (cv E B) := by simp [cv]
    have hwq : wY q = Cond.code q.1 q.2.1 q.2.2.1 none :: gtb := by unfold wY; rw [hret]
    rcases hlink with hlink | hlink
    · exact va_runI (n := q.2.2.2.2.2) ⟨hx, hb, hml, hown, hts⟩ hM ⟨callB_of _ hts (wY_good hq hy) hwq rfl rfl (hts _ u1) (hts _ hlink) u4 hrm, hnin, hts _ (u3 hstq).1⟩ hpre rfl (by simp [hl, hnq]) (by rw [← hml]; exact hls) hstk (lv_room hwd') hd hf
    · exact va_runIN (n := q.2.2.2.2.2) (host := "ItalicsLean") ⟨hx, hb, hml, hown, hts⟩ hM ⟨va_cnB _ hts (wY_good hq hy) hwq rfl rfl (hNw _ hlink rfl) (hts _ u1) u4 hrm, hnin, hts _ (u3 hstq).1⟩ hpre rfl (by simp [hl, hnq]) (by rw [← hml]; exact hls) hstk (lv_room hwd') hd hf
  · cases h2
end
section
/-! the library's own methods: bitCount, and length and charAt of a text constant -/
theorem dj_bit_0 : decode prog_14_method_49_code 0 = .ok (.iload_n 0, 1) := by decide +kernel
theorem dj_bit_1 : decode prog_14_method_49_code 1 = .ok (.iload_n 0, 1) := by decide +kernel
theorem dj_bit_2 : decode prog_14_method_49_code 2 = .ok (.iconst 1, 1) := by decide +kernel
theorem dj_bit_3 : decode prog_14_method_49_code 3 = .ok (.iushr, 1) := by decide +kernel
theorem dj_bit_4 : decode prog_14_method_49_code 4 = .ok (.ldc_w 265, 3) := by decide +kernel
theorem dj_bit_7 : decode prog_14_method_49_code 7 = .ok (.iand, 1) := by decide +kernel
theorem dj_bit_8 : decode prog_14_method_49_code 8 = .ok (.isub, 1) := by decide +kernel
theorem dj_bit_9 : decode prog_14_method_49_code 9 = .ok (.istore_n 0, 1) := by decide +kernel
theorem dj_bit_10 : decode prog_14_method_49_code 10 = .ok (.iload_n 0, 1) := by decide +kernel
theorem dj_bit_11 : decode prog_14_method_49_code 11 = .ok (.ldc_w 266, 3) := by decide +kernel
theorem dj_bit_14 : decode prog_14_method_49_code 14 = .ok (.iand, 1) := by decide +kernel
theorem dj_bit_15 : decode prog_14_method_49_code 15 = .ok (.iload_n 0, 1) := by decide +kernel
theorem dj_bit_16 : decode prog_14_method_49_code 16 = .ok (.iconst 2, 1) := by decide +kernel
theorem dj_bit_17 : decode prog_14_method_49_code 17 = .ok (.iushr, 1) := by decide +kernel
theorem dj_bit_18 : decode prog_14_method_49_code 18 = .ok (.ldc_w 266, 3) := by decide +kernel
theorem dj_bit_21 : decode prog_14_method_49_code 21 = .ok (.iand, 1) := by decide +kernel
theorem dj_bit_22 : decode prog_14_method_49_code 22 = .ok (.iadd, 1) := by decide +kernel
theorem dj_bit_23 : decode prog_14_method_49_code 23 = .ok (.istore_n 0, 1) := by decide +kernel
theorem dj_bit_24 : decode prog_14_method_49_code 24 = .ok (.iload_n 0, 1) := by decide +kernel
theorem dj_bit_25 : decode prog_14_method_49_code 25 = .ok (.iload_n 0, 1) := by decide +kernel
theorem dj_bit_26 : decode prog_14_method_49_code 26 = .ok (.iconst 4, 1) := by decide +kernel
theorem dj_bit_27 : decode prog_14_method_49_code 27 = .ok (.iushr, 1) := by decide +kernel
theorem dj_bit_28 : decode prog_14_method_49_code 28 = .ok (.iadd, 1) := by decide +kernel
theorem dj_bit_29 : decode prog_14_method_49_code 29 = .ok (.ldc_w 267, 3) := by decide +kernel
theorem dj_bit_32 : decode prog_14_method_49_code 32 = .ok (.iand, 1) := by decide +kernel
theorem dj_bit_33 : decode prog_14_method_49_code 33 = .ok (.istore_n 0, 1) := by decide +kernel
theorem dj_bit_34 : decode prog_14_method_49_code 34 = .ok (.iload_n 0, 1) := by decide +kernel
theorem dj_bit_35 : decode prog_14_method_49_code 35 = .ok (.iload_n 0, 1) := by decide +kernel
theorem dj_bit_36 : decode prog_14_method_49_code 36 = .ok (.bipush 8, 2) := by decide +kernel
theorem dj_bit_38 : decode prog_14_method_49_code 38 = .ok (.iushr, 1) := by decide +kernel
theorem dj_bit_39 : decode prog_14_method_49_code 39 = .ok (.iadd, 1) := by decide +kernel
theorem dj_bit_40 : decode prog_14_method_49_code 40 = .ok (.istore_n 0, 1) := by decide +kernel
theorem dj_bit_41 : decode prog_14_method_49_code 41 = .ok (.iload_n 0, 1) := by decide +kernel
theorem dj_bit_42 : decode prog_14_method_49_code 42 = .ok (.iload_n 0, 1) := by decide +kernel
theorem dj_bit_43 : decode prog_14_method_49_code 43 = .ok (.bipush 16, 2) := by decide +kernel
theorem dj_bit_45 : decode prog_14_method_49_code 45 = .ok (.iushr, 1) := by decide +kernel
theorem dj_bit_46 : decode prog_14_method_49_code 46 = .ok (.iadd, 1) := by decide +kernel
theorem dj_bit_47 : decode prog_14_method_49_code 47 = .ok (.istore_n 0, 1) := by decide +kernel
theorem dj_bit_48 : decode prog_14_method_49_code 48 = .ok (.iload_n 0, 1) := by decide +kernel
theorem dj_bit_49 : decode prog_14_method_49_code 49 = .ok (.bipush 63, 2) := by decide +kernel
theorem dj_bit_51 : decode prog_14_method_49_code 51 = .ok (.iand, 1) := by decide +kernel
theorem dj_bit_52 : decode prog_14_method_49_code 52 = .ok (.ireturn, 1) := by decide +kernel
def yj_bit : MethodName := ⟨"java/lang/Integer", "bitCount", "(I)I"⟩
abbrev wj_bit : List Cond := Cond.code yj_bit prog_14_method_49_code 1 (some .int) :: gtb
theorem dj_len_0 : decode prog_16_method_54_code 0 = .ok (.aload_n 0, 1) := by decide +kernel
theorem dj_len_1 : decode prog_16_method_54_code 1 = .ok (.getfield 9, 3) := by decide +kernel
theorem dj_len_4 : decode prog_16_method_54_code 4 = .ok (.arraylength, 1) := by decide +kernel
theorem dj_len_5 : decode prog_16_method_54_code 5 = .ok (.aload_n 0, 1) := by decide +kernel
theorem dj_len_6 : decode prog_16_method_54_code 6 = .ok (.invokevirtual 335, 3) := by decide +kernel
theorem dj_len_9 : decode prog_16_method_54_code 9 = .ok (.ishr, 1) := by decide +kernel
theorem dj_len_10 : decode prog_16_method_54_code 10 = .ok (.ireturn, 1) := by decide +kernel
def yj_len : MethodName := ⟨"java/lang/String", "length", "()I"⟩
abbrev wj_len : List Cond := Cond.code yj_len prog_16_method_54_code 1 (some .int) :: gtb
theorem dj_cod_0 : decode prog_16_method_152_code 0 = .ok (.getstatic 38, 3) := by decide +kernel
theorem dj_cod_3 : decode prog_16_method_152_code 3 = .ok (.ifCond .eq 10, 3) := by decide +kernel
theorem dj_cod_6 : decode prog_16_method_152_code 6 = .ok (.aload_n 0, 1) := by decide +kernel
theorem dj_cod_7 : decode prog_16_method_152_code 7 = .ok (.getfield 15, 3) := by decide +kernel
theorem dj_cod_10 : decode prog_16_method_152_code 10 = .ok (.goto 4, 3) := by decide +kernel
theorem dj_cod_13 : decode prog_16_method_152_code 13 = .ok (.iconst 1, 1) := by decide +kernel
theorem dj_cod_14 : decode prog_16_method_152_code 14 = .ok (.ireturn, 1) := by decide +kernel
def yj_cod : MethodName := ⟨"java/lang/String", "coder", "()B"⟩
abbrev wj_cod : List Cond := Cond.code yj_cod prog_16_method_152_code 1 (some .byte) :: gtb
theorem dj_chr_0 : decode prog_16_method_56_code 0 = .ok (.aload_n 0, 1) := by decide +kernel
theorem dj_chr_1 : decode prog_16_method_56_code 1 = .ok (.invokevirtual 492, 3) := by decide +kernel
theorem dj_chr_4 : decode prog_16_method_56_code 4 = .ok (.ifCond .eq 12, 3) := by decide +kernel
theorem dj_chr_7 : decode prog_16_method_56_code 7 = .ok (.aload_n 0, 1) := by decide +kernel
theorem dj_chr_8 : decode prog_16_method_56_code 8 = .ok (.getfield 9, 3) := by decide +kernel
theorem dj_chr_11 : decode prog_16_method_56_code 11 = .ok (.iload_n 1, 1) := by decide +kernel
theorem dj_chr_12 : decode prog_16_method_56_code 12 = .ok (.invokestatic 495, 3) := by decide +kernel
theorem dj_chr_15 : decode prog_16_method_56_code 15 = .ok (.ireturn, 1) := by decide +kernel
theorem dj_chr_16 : decode prog_16_method_56_code 16 = .ok (.aload_n 0, 1) := by decide +kernel
theorem dj_chr_17 : decode prog_16_method_56_code 17 = .ok (.getfield 9, 3) := by decide +kernel
theorem dj_chr_20 : decode prog_16_method_56_code 20 = .ok (.iload_n 1, 1) := by decide +kernel
theorem dj_chr_21 : decode prog_16_method_56_code 21 = .ok (.invokestatic 498, 3) := by decide +kernel
theorem dj_chr_24 : decode prog_16_method_56_code 24 = .ok (.ireturn, 1) := by decide +kernel
def yj_chr : MethodName := ⟨"java/lang/String", "charAt", "(I)C"⟩
abbrev wj_chr : List Cond := Cond.code yj_chr prog_16_method_56_code 2 (some .char) :: gtb
theorem dj_lat_0 : decode prog_16_method_154_code 0 = .ok (.getstatic 38, 3) := by decide +kernel
theorem dj_lat_3 : decode prog_16_method_154_code 3 = .ok (.ifCond .eq 14, 3) := by decide +kernel
theorem dj_lat_6 : decode prog_16_method_154_code 6 = .ok (.aload_n 0, 1) := by decide +kernel
theorem dj_lat_7 : decode prog_16_method_154_code 7 = .ok (.getfield 15, 3) := by decide +kernel
theorem dj_lat_10 : decode prog_16_method_154_code 10 = .ok (.ifCond .ne 7, 3) := by decide +kernel
theorem dj_lat_13 : decode prog_16_method_154_code 13 = .ok (.iconst 1, 1) := by decide +kernel
theorem dj_lat_14 : decode prog_16_method_154_code 14 = .ok (.goto 4, 3) := by decide +kernel
theorem dj_lat_17 : decode prog_16_method_154_code 17 = .ok (.iconst 0, 1) := by decide +kernel
theorem dj_lat_18 : decode prog_16_method_154_code 18 = .ok (.ireturn, 1) := by decide +kernel
def yj_lat : MethodName := ⟨"java/lang/String", "isLatin1", "()Z"⟩
abbrev wj_lat : List Cond := Cond.code yj_lat prog_16_method_154_code 1 (some .boolean) :: gtb
theorem dj_lch_0 : decode prog_17_method_2_code 0 = .ok (.iload_n 1, 1) := by decide +kernel
theorem dj_lch_1 : decode prog_17_method_2_code 1 = .ok (.aload_n 0, 1) := by decide +kernel
theorem dj_lch_2 : decode prog_17_method_2_code 2 = .ok (.arraylength, 1) := by decide +kernel
theorem dj_lch_3 : decode prog_17_method_2_code 3 = .ok (.invokestatic 9, 3) := by decide +kernel
theorem dj_lch_6 : decode prog_17_method_2_code 6 = .ok (.aload_n 0, 1) := by decide +kernel
theorem dj_lch_7 : decode prog_17_method_2_code 7 = .ok (.iload_n 1, 1) := by decide +kernel
theorem dj_lch_8 : decode prog_17_method_2_code 8 = .ok (.baload, 1) := by decide +kernel
theorem dj_lch_9 : decode prog_17_method_2_code 9 = .ok (.sipush 255, 3) := by decide +kernel
theorem dj_lch_12 : decode prog_17_method_2_code 12 = .ok (.iand, 1) := by decide +kernel
theorem dj_lch_13 : decode prog_17_method_2_code 13 = .ok (.i2c, 1) := by decide +kernel
theorem dj_lch_14 : decode prog_17_method_2_code 14 = .ok (.ireturn, 1) := by decide +kernel
def yj_lch : MethodName := ⟨"java/lang/StringLatin1", "charAt", "([BI)C"⟩
abbrev wj_lch : List Cond := Cond.code yj_lch prog_17_method_2_code 2 (some .char) :: gtb
theorem dj_chk_0 : decode prog_16_method_155_code 0 = .ok (.iload_n 0, 1) := by decide +kernel
theorem dj_chk_1 : decode prog_16_method_155_code 1 = .ok (.iload_n 1, 1) := by decide +kernel
theorem dj_chk_2 : decode prog_16_method_155_code 2 = .ok (.getstatic 1053, 3) := by decide +kernel
theorem dj_chk_5 : decode prog_16_method_155_code 5 = .ok (.invokestatic 1059, 3) := by decide +kernel
theorem dj_chk_8 : decode prog_16_method_155_code 8 = .ok (.pop, 1) := by decide +kernel
theorem dj_chk_9 : decode prog_16_method_155_code 9 = .ok (.return_, 1) := by decide +kernel
def yj_chk : MethodName := ⟨"java/lang/String", "checkIndex", "(II)V"⟩
abbrev wj_chk : List Cond := Cond.code yj_chk prog_16_method_155_code 2 none :: gtb
theorem dj_pre_0 : decode prog_20_method_11_code 0 = .ok (.iload_n 0, 1) := by decide +kernel
theorem dj_pre_1 : decode prog_20_method_11_code 1 = .ok (.ifCond .lt 8, 3) := by decide +kernel
theorem dj_pre_4 : decode prog_20_method_11_code 4 = .ok (.iload_n 0, 1) := by decide +kernel
theorem dj_pre_5 : decode prog_20_method_11_code 5 = .ok (.iload_n 1, 1) := by decide +kernel
theorem dj_pre_6 : decode prog_20_method_11_code 6 = .ok (.if_icmp .lt 10, 3) := by decide +kernel
theorem dj_pre_9 : decode prog_20_method_11_code 9 = .ok (.aload_n 2, 1) := by decide +kernel
theorem dj_pre_10 : decode prog_20_method_11_code 10 = .ok (.iload_n 0, 1) := by decide +kernel
theorem dj_pre_11 : decode prog_20_method_11_code 11 = .ok (.iload_n 1, 1) := by decide +kernel
theorem dj_pre_12 : decode prog_20_method_11_code 12 = .ok (.invokestatic 95, 3) := by decide +kernel
theorem dj_pre_15 : decode prog_20_method_11_code 15 = .ok (.athrow, 1) := by decide +kernel
theorem dj_pre_16 : decode prog_20_method_11_code 16 = .ok (.iload_n 0, 1) := by decide +kernel
theorem dj_pre_17 : decode prog_20_method_11_code 17 = .ok (.ireturn, 1) := by decide +kernel
def yj_pre : MethodName := ⟨"jdk/internal/util/Preconditions", "checkIndex", "(IILjava/util/function/BiFunction;)I"⟩
abbrev wj_pre : List Cond := Cond.code yj_pre prog_20_method_11_code 3 (some .int) :: gtb
def PcV (B : Nat) (D : va_G) (kc : Nat → ClassId) (E V : Nat → Nat) (X : XS) (vs : List Value) (H : HP) : Array Value → State → Prop := fun v U => v = vs.toArray ∧ va_P D CLS (wsO kc B H) U.heap ∧ CW B D kc E V X U ∧ U.heap.size = B + H.1.length
theorem PcV_blind {B : Nat} {D : va_G} {kc : Nat → ClassId} {E V : Nat → Nat} {X : XS} {vs : List Value} {H : HP} : FrameBlind (PcV B D kc E V X vs H) := fun a U g mk q => ⟨q.1, q.2.1, q.2.2.1.calling g mk a, q.2.2.2⟩
def rmJ (k : Nat) : Room := { frames := k, cells := 0, slots := 0, locals := 40 * k }
def MetJ (l : Launch) (B : Nat) (D : va_G) (kc : Nat → ClassId) (E V : Nat → Nat) (X : XS) (y : MethodName) (ws : List Cond) (k : Nat) (vs : List Value) (r : Option AV) (H : HP) : Prop := Met l y ws (rmJ k) (PcV B D kc E V X vs H) (QcM B D kc E r H) 0 0 (fun a => B ≤ a)
theorem gt_good {w : Cond} (h : w ∈ gtb) : w ∈ gtb ∧ ((w.onTables && w.keeps) = true ∨ ∃ ty, w = .arrayClass ty) := ⟨h, good_of_word (List.mem_filter.mp h).2⟩
theorem wj_good {y : MethodName} {bytes : ByteArray} {n i : Nat} {ret : Option FieldType} (h : lw_tbl[i]? = some (Cond.code y bytes n ret)) : GoodIn gtb (Cond.code y bytes n ret :: gtb) := by
  intro w hw
  rcases List.mem_cons.mp hw with rfl | hw
  · exact gt_good (tblw h rfl)
  · exact gt_good hw
set_option maxRecDepth 20000 in
set_option maxHeartbeats 4000000 in
theorem cj_bit (l : Launch) (B : Nat) (D : va_G) (kc : Nat → ClassId) (E V : Nat → Nat) (X : XS) (v : Int32) (H : HP) : MetJ l B D kc E V X yj_bit wj_bit 1 [.int v] (some (vI (bitC v))) H := by
  refine Met.ofW (cc := prog_14_method_49_code) (maxL := 1) (ret := (some .int)) (ws' := gtb) (by decide) rfl ?_
  intro p e s m args below meth c s₁ Bd hml hv
  obtain ⟨rfl, hP, hcw, hz⟩ := hv
  have hx := Bd.exec
  have hb := Bd.bytes
  have hr := Bd.returns
  have hlk := Bd.notSynchronized
  have hts : ∀ w ∈ gtb, w.before _ s = true := fun w hw => atoms_spec (ws := wj_bit) Bd.pre w (List.mem_cons_of_mem _ hw)
  have hown : s.vm.findClass "java/lang/Integer" = some m.cls := findClass_of_methodNamed Bd.named
  have hl := lv_entry [.int v] (n := 1) (Nat.le_of_ble_eq_true rfl)
  rw [lg_entry_eq]
  generalize (lg_sl [.int v] ++ List.replicate (1 - (lg_sl [.int v]).length) Slot.unset).toArray = ls at hl ⊢
  have hl : lv_has ls 1 [(0, .int v)] := hl
  have hS : va_S (fun q => B ≤ q) s.heap s.heap [] := va_S.rf
  refine lv_iload_n hx hb dj_bit_0 rfl (lv_at hl 0 rfl) ?_
  refine lv_iload_n hx hb dj_bit_1 rfl (lv_at hl 0 rfl) ?_
  refine lv_iconst (v := 1) hx hb dj_bit_2 (by decide) ?_
  refine lv_iushr hx hb dj_bit_3 rfl ?_
  refine lv_ldcw (v := 1431655765) hx hb hown (hts _ (tblw (i := 1138) (by decide +kernel) rfl)) dj_bit_4 ?_
  refine lv_iand hx hb dj_bit_7 ?_
  refine lv_isub hx hb dj_bit_8 ?_
  refine lv_topi (fun a1 ea1 => ?_)
  refine lv_istore_n (lv' := [(0, .int a1)]) hx hb dj_bit_9 rfl hl (by decide) rfl (fun ls hl => ?_)
  refine lv_iload_n hx hb dj_bit_10 rfl (lv_at hl 0 rfl) ?_
  refine lv_ldcw (v := 858993459) hx hb hown (hts _ (tblw (i := 1139) (by decide +kernel) rfl)) dj_bit_11 ?_
  refine lv_iand hx hb dj_bit_14 ?_
  refine lv_iload_n hx hb dj_bit_15 rfl (lv_at hl 0 rfl) ?_
  refine lv_iconst (v := 2) hx hb dj_bit_16 (by decide) ?_
  refine lv_iushr hx hb dj_bit_17 rfl ?_
  refine lv_ldcw (v := 858993459) hx hb hown (hts _ (tblw (i := 1139) (by decide +kernel) rfl)) dj_bit_18 ?_
  refine lv_iand hx hb dj_bit_21 ?_
  refine lv_iadd hx hb dj_bit_22 ?_
  refine lv_topi (fun a2 ea2 => ?_)
  refine lv_istore_n (lv' := [(0, .int a2)]) hx hb dj_bit_23 rfl hl (by decide) rfl (fun ls hl => ?_)
  refine lv_iload_n hx hb dj_bit_24 rfl (lv_at hl 0 rfl) ?_
  refine lv_iload_n hx hb dj_bit_25 rfl (lv_at hl 0 rfl) ?_
  refine lv_iconst (v := 4) hx hb dj_bit_26 (by decide) ?_
  refine lv_iushr hx hb dj_bit_27 rfl ?_
  refine lv_iadd hx hb dj_bit_28 ?_
  refine lv_ldcw (v := 252645135) hx hb hown (hts _ (tblw (i := 1140) (by decide +kernel) rfl)) dj_bit_29 ?_
  refine lv_iand hx hb dj_bit_32 ?_
  refine lv_topi (fun a3 ea3 => ?_)
  refine lv_istore_n (lv' := [(0, .int a3)]) hx hb dj_bit_33 rfl hl (by decide) rfl (fun ls hl => ?_)
  refine lv_iload_n hx hb dj_bit_34 rfl (lv_at hl 0 rfl) ?_
  refine lv_iload_n hx hb dj_bit_35 rfl (lv_at hl 0 rfl) ?_
  refine lv_bipush (v := 8) hx hb dj_bit_36 (by decide) ?_
  refine lv_iushr hx hb dj_bit_38 rfl ?_
  refine lv_iadd hx hb dj_bit_39 ?_
  refine lv_topi (fun a4 ea4 => ?_)
  refine lv_istore_n (lv' := [(0, .int a4)]) hx hb dj_bit_40 rfl hl (by decide) rfl (fun ls hl => ?_)
  refine lv_iload_n hx hb dj_bit_41 rfl (lv_at hl 0 rfl) ?_
  refine lv_iload_n hx hb dj_bit_42 rfl (lv_at hl 0 rfl) ?_
  refine lv_bipush (v := 16) hx hb dj_bit_43 (by decide) ?_
  refine lv_iushr hx hb dj_bit_45 rfl ?_
  refine lv_iadd hx hb dj_bit_46 ?_
  refine lv_topi (fun a5 ea5 => ?_)
  refine lv_istore_n (lv' := [(0, .int a5)]) hx hb dj_bit_47 rfl hl (by decide) rfl (fun ls hl => ?_)
  refine lv_iload_n hx hb dj_bit_48 rfl (lv_at hl 0 rfl) ?_
  refine lv_bipush (v := 63) hx hb dj_bit_49 (by decide) ?_
  refine lv_iand hx hb dj_bit_51 ?_
  refine lv_topi (fun z ez => ?_)
  have ev : z = bitC v := by subst ez; subst ea5; subst ea4; subst ea3; subst ea2; subst ea1; rfl
  subst ev
  exact W.iret hx hb hr (fun t ht _ => ⟨rfl, by rw [ht]; exact hP, hS.F ht⟩) hS.2.2 dj_bit_52 hlk
theorem cj_cod (l : Launch) (B : Nat) (D : va_G) (kc : Nat → ClassId) (E V : Nat → Nat) (X : XS) (i : Nat) (hi : i < 29) (H : HP) : MetJ l B D kc E V X yj_cod wj_cod 1 [.ref (E i)] (some (vI 0)) H := by
  refine Met.ofW (cc := prog_16_method_152_code) (maxL := 1) (ret := (some .byte)) (ws' := gtb) (by decide) rfl ?_
  intro p e s m args below meth c s₁ Bd hml hv
  obtain ⟨rfl, hP, hcw, hz⟩ := hv
  have hx := Bd.exec
  have hb := Bd.bytes
  have hr := Bd.returns
  have hlk := Bd.notSynchronized
  have hts : ∀ w ∈ gtb, w.before _ s = true := fun w hw => atoms_spec (ws := wj_cod) Bd.pre w (List.mem_cons_of_mem _ hw)
  have hown : s.vm.findClass "java/lang/String" = some m.cls := findClass_of_methodNamed Bd.named
  have hl := lv_entry [.ref (E i)] (n := 1) (Nat.le_of_ble_eq_true rfl)
  rw [lg_entry_eq]
  generalize (lg_sl [.ref (E i)] ++ List.replicate (1 - (lg_sl [.ref (E i)]).length) Slot.unset).toArray = ls at hl ⊢
  have hl : lv_has ls 1 [(0, .ref (E i))] := hl
  have hS : va_S (fun q => B ≤ q) s.heap s.heap [] := va_S.rf
  obtain ⟨hK, hZ, hT, hsr, hrr, hcs, hio, -⟩ := id hcw
  obtain ⟨g1, g2, g3, g4⟩ := hsr i hi
  refine va_gets (ref := "java/lang/String") hx hb hcs hS hown (hts _ (tblw (i := 544) (by decide +kernel) rfl)) (fun y hy => hy) dj_cod_0 ?_
  refine lv_if_eq (tgt := 13) hx hb dj_cod_3 (by decide) (fun c0 => absurd c0 (by decide)) (fun _ => ?_)
  refine lv_aload_n hx hb dj_cod_6 rfl (lv_at hl 0 rfl) ?_
  refine vk_getf (ref := "java/lang/String") hx hb g2 hS hown (hts _ (tblw (i := 1900) (by decide +kernel) rfl)) (fun y hy => hy) dj_cod_7 ?_
  refine lv_goto (tgt := 14) hx hb dj_cod_10 (by decide) ?_
  exact W.zret hx hb hr rfl (fun t ht _ => ⟨rfl, by rw [ht]; exact hP, hS.F ht⟩) hS.2.2 dj_cod_14 hlk
theorem cj_lat (l : Launch) (B : Nat) (D : va_G) (kc : Nat → ClassId) (E V : Nat → Nat) (X : XS) (i : Nat) (hi : i < 29) (H : HP) : MetJ l B D kc E V X yj_lat wj_lat 1 [.ref (E i)] (some (vI 1)) H := by
  refine Met.ofW (cc := prog_16_method_154_code) (maxL := 1) (ret := (some .boolean)) (ws' := gtb) (by decide) rfl ?_
  intro p e s m args below meth c s₁ Bd hml hv
  obtain ⟨rfl, hP, hcw, hz⟩ := hv
  have hx := Bd.exec
  have hb := Bd.bytes
  have hr := Bd.returns
  have hlk := Bd.notSynchronized
  have hts : ∀ w ∈ gtb, w.before _ s = true := fun w hw => atoms_spec (ws := wj_lat) Bd.pre w (List.mem_cons_of_mem _ hw)
  have hown : s.vm.findClass "java/lang/String" = some m.cls := findClass_of_methodNamed Bd.named
  have hl := lv_entry [.ref (E i)] (n := 1) (Nat.le_of_ble_eq_true rfl)
  rw [lg_entry_eq]
  generalize (lg_sl [.ref (E i)] ++ List.replicate (1 - (lg_sl [.ref (E i)]).length) Slot.unset).toArray = ls at hl ⊢
  have hl : lv_has ls 1 [(0, .ref (E i))] := hl
  have hS : va_S (fun q => B ≤ q) s.heap s.heap [] := va_S.rf
  obtain ⟨hK, hZ, hT, hsr, hrr, hcs, hio, -⟩ := id hcw
  obtain ⟨g1, g2, g3, g4⟩ := hsr i hi
  refine va_gets (ref := "java/lang/String") hx hb hcs hS hown (hts _ (tblw (i := 544) (by decide +kernel) rfl)) (fun y hy => hy) dj_lat_0 ?_
  refine lv_if_eq (tgt := 17) hx hb dj_lat_3 (by decide) (fun c0 => absurd c0 (by decide)) (fun _ => ?_)
  refine lv_aload_n hx hb dj_lat_6 rfl (lv_at hl 0 rfl) ?_
  refine vk_getf (ref := "java/lang/String") hx hb g2 hS hown (hts _ (tblw (i := 1900) (by decide +kernel) rfl)) (fun y hy => hy) dj_lat_7 ?_
  refine lv_if_ne (tgt := 17) hx hb dj_lat_10 (by decide) (fun c0 => absurd rfl c0) (fun _ => ?_)
  refine lv_iconst (v := 1) hx hb dj_lat_13 (by decide) ?_
  refine lv_goto (tgt := 18) hx hb dj_lat_14 (by decide) ?_
  exact W.zret hx hb hr rfl (fun t ht _ => ⟨rfl, by rw [ht]; exact hP, hS.F ht⟩) hS.2.2 dj_lat_18 hlk
theorem cj_pre (l : Launch) (B : Nat) (D : va_G) (kc : Nat → ClassId) (E V : Nat → Nat) (X : XS) (a b : Int32) (f : Value) (hf : f = .null ∨ ∃ q, f = .ref q) (h0 : ¬ a < 0) (h1 : a < b) (H : HP) : MetJ l B D kc E V X yj_pre wj_pre 1 [.int a, .int b, f] (some (vI a)) H := by
  have hfc : f.category = 1 := by rcases hf with rfl | ⟨q, rfl⟩ <;> rfl
  refine Met.ofW (cc := prog_20_method_11_code) (maxL := 3) (ret := some .int) (ws' := gtb) (by decide) rfl ?_
  intro p e s m args below meth c s₁ Bd hml hv
  obtain ⟨rfl, hP, hcw, hz⟩ := hv
  have hx := Bd.exec
  have hb := Bd.bytes
  have hr := Bd.returns
  have hlk := Bd.notSynchronized
  have hl := lv_entry [.int a, .int b, f] (n := 3) (by rcases hf with rfl | ⟨q, rfl⟩ <;> exact Nat.le_of_ble_eq_true rfl)
  rw [lg_entry_eq]
  generalize (lg_sl [.int a, .int b, f] ++ List.replicate (3 - (lg_sl [.int a, .int b, f]).length) Slot.unset).toArray = ls at hl ⊢
  have hl : lv_has ls 3 [(0, .int a), (1, .int b), (2, f)] := hl
  have hS : va_S (fun q => B ≤ q) s.heap s.heap [] := va_S.rf
  refine lv_iload_n hx hb dj_pre_0 rfl (lv_at hl 0 rfl) ?_
  refine lv_if_lt (tgt := 9) hx hb dj_pre_1 (by decide) (fun c0 => absurd c0 h0) (fun _ => ?_)
  refine lv_iload_n hx hb dj_pre_4 rfl (lv_at hl 0 rfl) ?_
  refine lv_iload_n hx hb dj_pre_5 rfl (lv_at hl 1 rfl) ?_
  refine lv_icmp_lt (tgt := 16) hx hb dj_pre_6 (by decide) (fun _ => ?_) (fun c0 => absurd h1 c0)
  refine lv_iload_n hx hb dj_pre_16 rfl (lv_at hl 0 rfl) ?_
  exact W.iret hx hb hr (fun t ht _ => ⟨rfl, by rw [ht]; exact hP, hS.F ht⟩) hS.2.2 dj_pre_17 hlk
theorem W_sz0 {T : TT} {B : Nat} {Hm : Heap} {locs : List Loc} {slots pc : Nat} {Q : State → Prop} {ls : Array Slot} {st : List Value} (hS : va_S (fun q => B ≤ q) T.2.2.2.2.1.heap Hm locs) (w : Hm.size = T.2.2.2.2.1.heap.size → WC T Hm locs (0 + 0) slots Q pc ls st) : WC T Hm locs (0 + 0) slots Q pc ls st := fun t ht X' => w (by
  have h1 := X'.heapSize
  rw [ht] at h1
  have h2 := hS.1
  omega) t ht X'
theorem sRecv {s : State} {Hm : Heap} {locs : List Loc} {a B : Nat} (h : va_O "java/lang/String" a (fun q => B ≤ q) s s.heap) (hS : va_S (fun q => B ≤ q) s.heap Hm locs) : ∃ cell : Cell, Hm[a]? = some cell ∧ cell.vm.isStatics = false ∧ s.vm.findClass "java/lang/String" = some cell.cls := by
  obtain ⟨cell, h1, h2, h3, -⟩ := h.kept hS.2.1
  exact ⟨cell, h1, h2, h3⟩
set_option maxRecDepth 20000 in
set_option maxHeartbeats 4000000 in
theorem cj_chk (l : Launch) (B : Nat) (D : va_G) (kc : Nat → ClassId) (E V : Nat → Nat) (X : XS) (a b : Int32) (h0 : ¬ a < 0) (h1 : a < b) (H : HP) : MetJ l B D kc E V X yj_chk wj_chk 2 [.int a, .int b] none H := by
  refine Met.ofW (cc := prog_16_method_155_code) (maxL := 2) (ret := none) (ws' := gtb) (by decide) rfl ?_
  intro p e s m args below meth c s₁ Bd hml hv
  obtain ⟨rfl, hP, hcw, hz⟩ := hv
  have hx := Bd.exec
  have hb := Bd.bytes
  have hr := Bd.returns
  have hlk := Bd.notSynchronized
  have hts : ∀ w ∈ gtb, w.before _ s = true := fun w hw => atoms_spec (ws := wj_chk) Bd.pre w (List.mem_cons_of_mem _ hw)
  have hown : s.vm.findClass "java/lang/String" = some m.cls := findClass_of_methodNamed Bd.named
  have hl := lv_entry [.int a, .int b] (n := 2) (Nat.le_of_ble_eq_true rfl)
  rw [lg_entry_eq]
  generalize (lg_sl [.int a, .int b] ++ List.replicate (2 - (lg_sl [.int a, .int b]).length) Slot.unset).toArray = ls at hl ⊢
  have hl : lv_has ls 2 [(0, .int a), (1, .int b)] := hl
  have hS : va_S (fun q => B ≤ q) s.heap s.heap [] := va_S.rf
  obtain ⟨f, hf, hfz⟩ : ∃ f : Value, (f = .null ∨ ∃ q, f = .ref q) ∧ va_Z "jdk/internal/util/Preconditions" "SIOOBE_FORMATTER" "Ljava/util/function/BiFunction;" f (fun q => B ≤ q) s s.heap := by
    rcases hcw.2.2.2.2.2.2.1 with h | ⟨t, h⟩
    · exact ⟨_, Or.inl rfl, h⟩
    · exact ⟨_, Or.inr ⟨t, rfl⟩, h⟩
  refine lv_iload_n hx hb dj_chk_0 rfl (lv_at hl 0 rfl) ?_
  refine lv_iload_n hx hb dj_chk_1 rfl (lv_at hl 1 rfl) ?_
  refine va_gets (ref := "jdk/internal/util/Preconditions") hx hb hfz hS hown (hts _ (tblw (i := 560) (by decide +kernel) rfl)) (fun y hy => hy) dj_chk_2 ?_
  refine callg (T := (p, l, e, (headSpec wj_chk (rmJ 2)).room, s, m, _, below, meth, c)) (H' := H) (r := some (vI a)) (mc := 0) (ms := 0) hcw.2.2.2.2.2.2.2.2.2.1 (va_runS (n := 3) (As := [.int a, .int b, f]) (rest := []) ⟨hx, hb, hml, hown, hts⟩ (cj_pre l B D kc E V X a b f hf h0 h1 H) ⟨callB_of _ hts (wj_good (i := 564) rfl) rfl rfl rfl (hts _ (tblw (i := 125) (by decide +kernel) rfl)) (hts _ (tblw (i := 562) (by decide +kernel) rfl)) ⟨by decide, by decide, by decide +kernel⟩ ⟨Nat.le_of_ble_eq_true rfl, Nat.le_of_ble_eq_true rfl⟩, hts _ (tblw (i := 563) (by decide +kernel) rfl)⟩ ⟨PcV_blind, fun U hU hW => ⟨rfl, by rw [hU]; exact hP, hcw.warm hW hU hS, by rw [hU]; exact hz⟩⟩ rfl rfl hl.1 rfl (lv_room (Nat.le_of_ble_eq_true rfl)) dj_chk_5 ⟨Nat.le_of_ble_eq_true rfl, Nat.le_of_ble_eq_true rfl⟩) hS fun H1 locs1 hP1 hS1 => ?_
  refine lv_pop hx hb dj_chk_8 rfl ?_
  exact W.vret hx hb hr (fun t ht _ => ⟨rfl, by rw [ht]; exact hP1, hS1.F ht⟩) hS1.2.2 dj_chk_9 hlk
theorem tx_all : (List.range 29).all (fun i => decide ((texts0.getD i []).length < 100) && (texts0.getD i []).all (fun x => decide (((x &&& 255).toUInt32 % 65536).toInt32 = x) && decide (narrow .char (.int x) = .int x))) = true := by decide +kernel
theorem tx_len (i : Nat) (hi : i < 29) : (texts0.getD i []).length < 2 ^ 31 := by
  have h := List.all_eq_true.mp tx_all i (List.mem_range.mpr hi)
  simp only [Bool.and_eq_true, decide_eq_true_eq] at h
  exact Nat.lt_of_lt_of_le h.1 (Nat.le_of_ble_eq_true rfl)
theorem tx_chr (i k : Nat) (hi : i < 29) : (((texts0.getD i []).getD k 0 &&& 255).toUInt32 % 65536).toInt32 = (texts0.getD i []).getD k 0 ∧ narrow .char (.int ((texts0.getD i []).getD k 0)) = .int ((texts0.getD i []).getD k 0) := by
  have h := List.all_eq_true.mp tx_all i (List.mem_range.mpr hi)
  simp only [Bool.and_eq_true, List.all_eq_true, decide_eq_true_eq] at h
  generalize texts0.getD i [] = tx at h ⊢
  by_cases hk : k < tx.length
  · have hm : tx.getD k 0 ∈ tx := by
      rw [List.getD_eq_getElem?_getD, List.getElem?_eq_getElem hk]
      exact List.getElem_mem hk
    exact h.2 _ hm
  · rw [List.getD_eq_getElem?_getD, List.getElem?_eq_none (Nat.not_lt.mp hk)]
    exact ⟨by decide, by decide⟩
set_option maxRecDepth 20000 in
set_option maxHeartbeats 4000000 in
theorem cj_lch (l : Launch) (B : Nat) (D : va_G) (kc : Nat → ClassId) (E V : Nat → Nat) (X : XS) (i : Nat) (hi : i < 29) (j : Int32) (hj : vp_in j (texts0.getD i []).length) (H : HP) : MetJ l B D kc E V X yj_lch wj_lch 3 [.ref (V i), .int j] (some (vI ((texts0.getD i []).getD j.toNatClampNeg 0))) H := by
  refine Met.ofW (cc := prog_17_method_2_code) (maxL := 2) (ret := (some .char)) (ws' := gtb) (by decide) rfl ?_
  intro p e s m args below meth c s₁ Bd hml hv
  obtain ⟨rfl, hP, hcw, hz⟩ := hv
  have hx := Bd.exec
  have hb := Bd.bytes
  have hr := Bd.returns
  have hlk := Bd.notSynchronized
  have hts : ∀ w ∈ gtb, w.before _ s = true := fun w hw => atoms_spec (ws := wj_lch) Bd.pre w (List.mem_cons_of_mem _ hw)
  have hown : s.vm.findClass "java/lang/StringLatin1" = some m.cls := findClass_of_methodNamed Bd.named
  have hl := lv_entry [.ref (V i), .int j] (n := 2) (Nat.le_of_ble_eq_true rfl)
  rw [lg_entry_eq]
  generalize (lg_sl [.ref (V i), .int j] ++ List.replicate (2 - (lg_sl [.ref (V i), .int j]).length) Slot.unset).toArray = ls at hl ⊢
  have hl : lv_has ls 2 [(0, .ref (V i)), (1, .int j)] := hl
  have hS : va_S (fun q => B ≤ q) s.heap s.heap [] := va_S.rf
  obtain ⟨hK, hZ, hT, hsr, hrr, hcs, hio, -⟩ := id hcw
  obtain ⟨g1, g2, g3, g4⟩ := hsr i hi
  have hn0 : ¬ j < 0 := fun q => hj (Or.inl q)
  have hlen : (texts0.getD i []).length < 2 ^ 31 := tx_len i hi
  have hlt : j < Int32.ofNat (texts0.getD i []).length := by
    rw [Int32.lt_iff_toInt_lt]
    have e1 : (Int32.ofNat (texts0.getD i []).length).toInt = ((texts0.getD i []).length : Int) := nI_toInt hlen
    rw [e1]
    have := vp_in_iff.mp hj
    exact this.2
  refine lv_iload_n hx hb dj_lch_0 rfl (lv_at hl 1 rfl) ?_
  refine lv_aload_n hx hb dj_lch_1 rfl (lv_at hl 0 rfl) ?_
  refine va_tlen hx hb g4 hS rfl dj_lch_2 ?_
  refine callg (T := (p, l, e, (headSpec wj_lch (rmJ 3)).room, s, m, _, below, meth, c)) (H' := H) (r := none) (mc := 0) (ms := 0) hcw.2.2.2.2.2.2.2.2.2.1 (va_runS (n := 2) (As := [.int j, .int (Int32.ofNat (texts0.getD i []).length)]) (rest := []) ⟨hx, hb, hml, hown, hts⟩ (cj_chk l B D kc E V X j _ hn0 hlt H) ⟨callB_of _ hts (wj_good (i := 559) rfl) rfl rfl rfl (hts _ (tblw (i := 123) (by decide +kernel) rfl)) (hts _ (tblw (i := 557) (by decide +kernel) rfl)) ⟨by decide, by decide, by decide +kernel⟩ ⟨Nat.le_of_ble_eq_true rfl, Nat.le_of_ble_eq_true rfl⟩, hts _ (tblw (i := 558) (by decide +kernel) rfl)⟩ ⟨PcV_blind, fun U hU hW => ⟨rfl, by rw [hU]; exact hP, hcw.warm hW hU hS, by rw [hU]; exact hz⟩⟩ rfl rfl hl.1 rfl (lv_room (Nat.le_of_ble_eq_true rfl)) dj_lch_3 ⟨Nat.le_of_ble_eq_true rfl, Nat.le_of_ble_eq_true rfl⟩) hS fun H1 locs1 hP1 hS1 => ?_
  refine lv_aload_n hx hb dj_lch_6 rfl (lv_at hl 0 rfl) ?_
  refine lv_iload_n hx hb dj_lch_7 rfl (lv_at hl 1 rfl) ?_
  refine va_tb hx hb g4 hS1 hj rfl dj_lch_8 ?_
  refine lv_sipush (v := 255) hx hb dj_lch_9 (by decide) ?_
  refine lv_iand hx hb dj_lch_12 ?_
  refine lv_i2c hx hb dj_lch_13 rfl ?_
  obtain ⟨e1, e2⟩ := tx_chr i j.toNatClampNeg hi
  rw [e1]
  exact W.zret hx hb hr e2 (fun t ht _ => ⟨rfl, by rw [ht]; exact hP1, hS1.F ht⟩) hS1.2.2 dj_lch_14 hlk
set_option maxRecDepth 20000 in
set_option maxHeartbeats 4000000 in
theorem cj_len (l : Launch) (B : Nat) (D : va_G) (kc : Nat → ClassId) (E V : Nat → Nat) (X : XS) (i : Nat) (hi : i < 29) (H : HP) : MetJ l B D kc E V X yj_len wj_len 2 [.ref (E i)] (some (vI (Int32.ofNat (texts0.getD i []).length))) H := by
  refine Met.ofW (cc := prog_16_method_54_code) (maxL := 1) (ret := (some .int)) (ws' := gtb) (by decide) rfl ?_
  intro p e s m args below meth c s₁ Bd hml hv
  obtain ⟨rfl, hP, hcw, hz⟩ := hv
  have hx := Bd.exec
  have hb := Bd.bytes
  have hr := Bd.returns
  have hlk := Bd.notSynchronized
  have hts : ∀ w ∈ gtb, w.before _ s = true := fun w hw => atoms_spec (ws := wj_len) Bd.pre w (List.mem_cons_of_mem _ hw)
  have hown : s.vm.findClass "java/lang/String" = some m.cls := findClass_of_methodNamed Bd.named
  have hl := lv_entry [.ref (E i)] (n := 1) (Nat.le_of_ble_eq_true rfl)
  rw [lg_entry_eq]
  generalize (lg_sl [.ref (E i)] ++ List.replicate (1 - (lg_sl [.ref (E i)]).length) Slot.unset).toArray = ls at hl ⊢
  have hl : lv_has ls 1 [(0, .ref (E i))] := hl
  have hS : va_S (fun q => B ≤ q) s.heap s.heap [] := va_S.rf
  obtain ⟨hK, hZ, hT, hsr, hrr, hcs, hio, -⟩ := id hcw
  obtain ⟨g1, g2, g3, g4⟩ := hsr i hi
  refine lv_aload_n hx hb dj_len_0 rfl (lv_at hl 0 rfl) ?_
  refine vk_getf (ref := "java/lang/String") hx hb g3 hS hown (hts _ (tblw (i := 1899) (by decide +kernel) rfl)) (fun y hy => hy) dj_len_1 ?_
  refine va_tlen hx hb g4 hS rfl dj_len_4 ?_
  refine lv_aload_n hx hb dj_len_5 rfl (lv_at hl 0 rfl) ?_
  refine callg (T := (p, l, e, (headSpec wj_len (rmJ 2)).room, s, m, _, below, meth, c)) (H' := H) (r := some (vI 0)) (mc := 0) (ms := 0) hcw.2.2.2.2.2.2.2.2.2.1 (va_runV (n := 0) (b := E i) (As := []) (rest := [.int (Int32.ofNat (texts0.getD i []).length)]) ⟨hx, hb, hml, hown, hts⟩ (cj_cod l B D kc E V X i hi H) ⟨callB_of _ hts (wj_good (i := 543) rfl) rfl rfl rfl (hts _ (tblw (i := 123) (by decide +kernel) rfl)) (hts _ (tblw (i := 540) (by decide +kernel) rfl)) ⟨by decide, by decide, by decide +kernel⟩ ⟨Nat.le_of_ble_eq_true rfl, Nat.le_of_ble_eq_true rfl⟩, hts _ (tblw (i := 541) (by decide +kernel) rfl), hts _ (tblw (i := 542) (by decide +kernel) rfl)⟩ ⟨PcV_blind, sRecv g1 hS, fun U hU hW => ⟨rfl, by rw [hU]; exact hP, hcw.warm hW hU hS, by rw [hU]; exact hz⟩⟩ rfl rfl hl.1 rfl (lv_room (Nat.le_of_ble_eq_true rfl)) dj_len_6 ⟨Nat.le_of_ble_eq_true rfl, Nat.le_of_ble_eq_true rfl⟩) hS fun H1 locs1 hP1 hS1 => ?_
  refine lv_ishr hx hb dj_len_9 ?_
  have ez : ∀ x : Int32, x >>> ((0 : Int32) &&& 31) = x := fun x => by simp
  rw [ez]
  exact W.iret hx hb hr (fun t ht _ => ⟨rfl, by rw [ht]; exact hP1, hS1.F ht⟩) hS1.2.2 dj_len_10 hlk
set_option maxRecDepth 20000 in
set_option maxHeartbeats 4000000 in
theorem cj_chr (l : Launch) (B : Nat) (D : va_G) (kc : Nat → ClassId) (E V : Nat → Nat) (X : XS) (i : Nat) (hi : i < 29) (j : Int32) (hj : vp_in j (texts0.getD i []).length) (H : HP) : MetJ l B D kc E V X yj_chr wj_chr 4 [.ref (E i), .int j] (some (vI ((texts0.getD i []).getD j.toNatClampNeg 0))) H := by
  refine Met.ofW (cc := prog_16_method_56_code) (maxL := 2) (ret := (some .char)) (ws' := gtb) (by decide) rfl ?_
  intro p e s m args below meth c s₁ Bd hml hv
  obtain ⟨rfl, hP, hcw, hz⟩ := hv
  have hx := Bd.exec
  have hb := Bd.bytes
  have hr := Bd.returns
  have hlk := Bd.notSynchronized
  have hts : ∀ w ∈ gtb, w.before _ s = true := fun w hw => atoms_spec (ws := wj_chr) Bd.pre w (List.mem_cons_of_mem _ hw)
  have hown : s.vm.findClass "java/lang/String" = some m.cls := findClass_of_methodNamed Bd.named
  have hl := lv_entry [.ref (E i), .int j] (n := 2) (Nat.le_of_ble_eq_true rfl)
  rw [lg_entry_eq]
  generalize (lg_sl [.ref (E i), .int j] ++ List.replicate (2 - (lg_sl [.ref (E i), .int j]).length) Slot.unset).toArray = ls at hl ⊢
  have hl : lv_has ls 2 [(0, .ref (E i)), (1, .int j)] := hl
  have hS : va_S (fun q => B ≤ q) s.heap s.heap [] := va_S.rf
  obtain ⟨hK, hZ, hT, hsr, hrr, hcs, hio, -⟩ := id hcw
  obtain ⟨g1, g2, g3, g4⟩ := hsr i hi
  refine lv_aload_n hx hb dj_chr_0 rfl (lv_at hl 0 rfl) ?_
  refine callg (T := (p, l, e, (headSpec wj_chr (rmJ 4)).room, s, m, _, below, meth, c)) (H' := H) (r := some (vI 1)) (mc := 0) (ms := 0) hcw.2.2.2.2.2.2.2.2.2.1 (va_runV (n := 0) (b := E i) (As := []) (rest := []) ⟨hx, hb, hml, hown, hts⟩ (cj_lat l B D kc E V X i hi H) ⟨callB_of _ hts (wj_good (i := 553) rfl) rfl rfl rfl (hts _ (tblw (i := 123) (by decide +kernel) rfl)) (hts _ (tblw (i := 550) (by decide +kernel) rfl)) ⟨by decide, by decide, by decide +kernel⟩ ⟨Nat.le_of_ble_eq_true rfl, Nat.le_of_ble_eq_true rfl⟩, hts _ (tblw (i := 551) (by decide +kernel) rfl), hts _ (tblw (i := 552) (by decide +kernel) rfl)⟩ ⟨PcV_blind, sRecv g1 hS, fun U hU hW => ⟨rfl, by rw [hU]; exact hP, hcw.warm hW hU hS, by rw [hU]; exact hz⟩⟩ rfl rfl hl.1 rfl (lv_room (Nat.le_of_ble_eq_true rfl)) dj_chr_1 ⟨Nat.le_of_ble_eq_true rfl, Nat.le_of_ble_eq_true rfl⟩) hS fun H1 locs1 hP1 hS1 => ?_
  refine lv_if_eq (tgt := 16) hx hb dj_chr_4 (by decide) (fun c0 => absurd c0 (by decide)) (fun _ => ?_)
  refine lv_aload_n hx hb dj_chr_7 rfl (lv_at hl 0 rfl) ?_
  refine vk_getf (ref := "java/lang/String") hx hb g3 hS1 hown (hts _ (tblw (i := 1899) (by decide +kernel) rfl)) (fun y hy => hy) dj_chr_8 ?_
  refine lv_iload_n hx hb dj_chr_11 rfl (lv_at hl 1 rfl) ?_
  refine W_sz0 (T := (p, l, e, (headSpec wj_chr (rmJ 4)).room, s, m, _, below, meth, c)) hS1 fun hz1 => ?_
  have hz2 := hz1.trans hz
  refine callg (T := (p, l, e, (headSpec wj_chr (rmJ 4)).room, s, m, _, below, meth, c)) (H' := H) (r := some (vI ((texts0.getD i []).getD j.toNatClampNeg 0))) (mc := 0) (ms := 0) hcw.2.2.2.2.2.2.2.2.2.1 (va_runS (n := 2) (As := [.ref (V i), .int j]) (rest := []) ⟨hx, hb, hml, hown, hts⟩ (cj_lch l B D kc E V X i hi j hj H) ⟨callB_of _ hts (wj_good (i := 556) rfl) rfl rfl rfl (hts _ (tblw (i := 124) (by decide +kernel) rfl)) (hts _ (tblw (i := 554) (by decide +kernel) rfl)) ⟨by decide, by decide, by decide +kernel⟩ ⟨Nat.le_of_ble_eq_true rfl, Nat.le_of_ble_eq_true rfl⟩, hts _ (tblw (i := 555) (by decide +kernel) rfl)⟩ ⟨PcV_blind, fun U hU hW => ⟨rfl, by rw [hU]; exact hP1, hcw.warm hW hU hS1, by rw [hU]; exact hz2⟩⟩ rfl rfl hl.1 rfl (lv_room (Nat.le_of_ble_eq_true rfl)) dj_chr_12 ⟨Nat.le_of_ble_eq_true rfl, Nat.le_of_ble_eq_true rfl⟩) hS1 fun H2 locs2 hP2 hS2 => ?_
  exact W.zret hx hb hr (tx_chr i j.toNatClampNeg hi).2 (fun t ht _ => ⟨rfl, by rw [ht]; exact hP2, hS2.F ht⟩) hS2.2.2 dj_chr_15 hlk
end
section
/-! calls of the library's methods -/
theorem blt_use {own ix b : Nat} (h : BLT.any (fun q => Nat.beq q.1 own && Nat.beq q.2.1 ix && Nat.beq q.2.2.1 b) = true) : Cond.methodLink (RN own) ix (BN b) ∈ gtb := by
  obtain ⟨q, hq, hf⟩ := any_inv h
  simp only [Bool.and_eq_true, Nat.beq_eq] at hf
  obtain ⟨⟨rfl, rfl⟩, rfl⟩ := hf
  exact tblw (of_decide_eq_true (List.all_eq_true.mp BLT_ok q hq)) rfl
theorem HOk.lib {T : TT} {B N0 : Nat} {D : va_G} {kc : Nat → ClassId} {E : Nat → Nat} {pc len : Nat} {S : ST} {H : HP} {S' : ST}
    (h : ∀ (Hm : Heap) (locs : List Loc) (cells slots : Nat) (Q : State → Prop) (ls : Array Slot), va_P D CLS (wsO kc B H) Hm → va_S (fun q => B ≤ q) T.2.2.2.2.1.heap Hm locs → T.2.2.2.2.2.2.2.2.2.maxLocals = ls.size → cells ≤ T.2.2.2.1.cells → slots ≤ T.2.2.2.1.slots → WC T Hm locs cells slots Q (pc + len) ls (S'.map (cv E B)) → WC T Hm locs cells slots Q pc ls (S.map (cv E B))) : HOk T B N0 D kc E pc len S H S' H :=
  ⟨⟨Nat.le_refl _, Nat.le_refl _⟩, fun HF T0 hRc hRs hl hs Hm locs cells slots Q ls hP hS h1 h2 hls w => h Hm locs cells slots Q ls hP hS hls.symm (by omega) (by omega) (w Hm locs cells slots hP hS h1 h2)⟩
theorem wd_le {E : Nat → Nat} {B k c : Nat} {S : ST} (h : words S ≤ 8) (hk : 400 ≤ k) (hc : c ≤ 300) : ((S.map (cv E B)).map fun v => v.category).sum + c ≤ k := by
  rw [words_eq]
  omega
theorem words_tl {v : AV} {S : ST} (h : words (v :: S) ≤ 8) : words S ≤ 8 := Nat.le_trans (Nat.le_add_left _ _) h
theorem yA_row (kc : Nat → ClassId) (B : Nat) (h : DT) (a n sp dp m l : Nat) : ce kc B (yA h a n sp dp l) n (.inr (.inl (0, m))) = .inl (kc 0, m, .inl (va_cpy (fun j => gA h a j) (fun j => gA h n j) sp dp l)) := by
  simp only [ce]
  congr 4
  funext b
  simp [gA, yA, up1, va_cpy]
theorem yB_row (kc : Nat → ClassId) (B : Nat) (h : DT) (a n sp dp m l : Nat) : ce kc B (yB h a n sp dp l) n (.inr (.inl (2, m))) = .inl (kc 2, m, .inr (.inl (va_cpy (fun j => gB h a j) (fun j => gB h n j) sp dp l))) := by
  simp only [ce]
  congr 5
  funext b
  simp [gB, yB, up1, va_cpy]
theorem nfw : nativeFrameWords "java/lang/System" "arraycopy" 5 + 11 ≤ 300 := by decide +kernel
set_option maxRecDepth 20000 in
set_option maxHeartbeats 4000000 in
theorem j_bit {T : TT} {own n : Nat} {isI : Bool} {cc : ByteArray} {B N0 : Nat} {D : va_G} {kc : Nat → ClassId} {E V : Nat → Nat} {X : XS} (C : Cx T own n isI cc B N0 D kc E V X) {pc ix : Nat} (hd : decode cc pc = .ok (.invokestatic ix, 3)) (hl : Cond.methodLink (RN own) ix (BN 3) ∈ gtb) (v : Int32) (S : ST) (H : HP) (hw : words S ≤ 8) : HOk T B N0 D kc E pc 3 (vI v :: S) H (vI (bitC v) :: S) H := by
  obtain ⟨hx, hb, hml, hown, hts, hlk, hini, hcw, hsz, hfr, hlo⟩ := id C
  have hwd : (((S.map (cv E B)).map fun v => v.category).sum) ≤ 8 := by rw [words_eq]; exact hw
  have h0 := HOk.call (r := some (vI (bitC v))) (S := vI v :: S) (S' := S) (H1 := H) (a := [Value.int v].toArray) (pc := pc) C ⟨Nat.le_refl _, Nat.le_refl _⟩ fun Hm locs cells slots ls hP hS hz hls hf => by
    rw [Nat.sub_self, Nat.sub_self] at hf ⊢
    exact va_runS (n := 1) (As := [.int v]) ⟨hx, hb, hml, hown, hts⟩ (cj_bit T.2.1 B D kc E V X v H) ⟨callB_of _ hts (wj_good (i := 1137) rfl) rfl rfl rfl (hts _ (tblw (i := 130) (by decide +kernel) rfl)) (hts _ hl) ⟨by decide, by decide, by decide +kernel⟩ ⟨Nat.le_trans (Nat.le_of_ble_eq_true rfl) hfr, Nat.le_trans (Nat.le_of_ble_eq_true rfl) hlo⟩, hts _ (tblw (i := 1136) (by decide +kernel) rfl)⟩ ⟨PcV_blind, fun U hU hW => ⟨rfl, by rw [hU]; exact hP, hcw.warm hW hU hS, by rw [hU]; exact hz⟩⟩ rfl rfl (by rw [← hml]; exact hls) rfl (lv_room hwd) hd hf
  exact h0
set_option maxRecDepth 20000 in
set_option maxHeartbeats 4000000 in
theorem j_len {T : TT} {own n : Nat} {isI : Bool} {cc : ByteArray} {B N0 : Nat} {D : va_G} {kc : Nat → ClassId} {E V : Nat → Nat} {X : XS} (C : Cx T own n isI cc B N0 D kc E V X) {pc ix : Nat} (hd : decode cc pc = .ok (.invokevirtual ix, 3)) (hl : Cond.methodLink (RN own) ix (BN 6) ∈ gtb) (i : Nat) (hi : i < 29) (S : ST) (H : HP) (hw : words S ≤ 8) : HOk T B N0 D kc E pc 3 (vE i :: S) H (vI (Int32.ofNat (texts0.getD i []).length) :: S) H := by
  obtain ⟨hx, hb, hml, hown, hts, hlk, hini, hcw, hsz, hfr, hlo⟩ := id C
  obtain ⟨g1, -⟩ := hcw.2.2.2.1 i hi
  have hwd : (((S.map (cv E B)).map fun v => v.category).sum) ≤ 8 := by rw [words_eq]; exact hw
  have h0 := HOk.call (r := some (vI (Int32.ofNat (texts0.getD i []).length))) (S := vE i :: S) (S' := S) (H1 := H) (a := [Value.ref (E i)].toArray) (pc := pc) C ⟨Nat.le_refl _, Nat.le_refl _⟩ fun Hm locs cells slots ls hP hS hz hls hf => by
    rw [Nat.sub_self, Nat.sub_self] at hf ⊢
    exact va_runV (n := 0) (b := E i) (As := []) ⟨hx, hb, hml, hown, hts⟩ (cj_len T.2.1 B D kc E V X i hi H) ⟨callB_of _ hts (wj_good (i := 539) rfl) rfl rfl rfl (hts _ (tblw (i := 123) (by decide +kernel) rfl)) (hts _ hl) ⟨by decide, by decide, by decide +kernel⟩ ⟨Nat.le_trans (Nat.le_of_ble_eq_true rfl) hfr, Nat.le_trans (Nat.le_of_ble_eq_true rfl) hlo⟩, hts _ (tblw (i := 537) (by decide +kernel) rfl), hts _ (tblw (i := 538) (by decide +kernel) rfl)⟩ ⟨PcV_blind, sRecv g1 hS, fun U hU hW => ⟨rfl, by rw [hU]; exact hP, hcw.warm hW hU hS, by rw [hU]; exact hz⟩⟩ rfl rfl (by rw [← hml]; exact hls) rfl (lv_room hwd) hd hf
  exact h0
set_option maxRecDepth 20000 in
set_option maxHeartbeats 4000000 in
theorem j_chr {T : TT} {own n : Nat} {isI : Bool} {cc : ByteArray} {B N0 : Nat} {D : va_G} {kc : Nat → ClassId} {E V : Nat → Nat} {X : XS} (C : Cx T own n isI cc B N0 D kc E V X) {pc ix : Nat} (hd : decode cc pc = .ok (.invokevirtual ix, 3)) (hl : Cond.methodLink (RN own) ix (BN 7) ∈ gtb) (i : Nat) (hi : i < 29) (j : Int32) (hj : vp_in j (texts0.getD i []).length) (S : ST) (H : HP) (hw : words S ≤ 8) : HOk T B N0 D kc E pc 3 (vI j :: vE i :: S) H (vI ((texts0.getD i []).getD j.toNatClampNeg 0) :: S) H := by
  obtain ⟨hx, hb, hml, hown, hts, hlk, hini, hcw, hsz, hfr, hlo⟩ := id C
  obtain ⟨g1, -⟩ := hcw.2.2.2.1 i hi
  have hwd : (((S.map (cv E B)).map fun v => v.category).sum) ≤ 8 := by rw [words_eq]; exact hw
  have h0 := HOk.call (r := some (vI ((texts0.getD i []).getD j.toNatClampNeg 0))) (S := vI j :: vE i :: S) (S' := S) (H1 := H) (a := [Value.ref (E i), Value.int j].toArray) (pc := pc) C ⟨Nat.le_refl _, Nat.le_refl _⟩ fun Hm locs cells slots ls hP hS hz hls hf => by
    rw [Nat.sub_self, Nat.sub_self] at hf ⊢
    exact va_runV (n := 1) (b := E i) (As := [.int j]) ⟨hx, hb, hml, hown, hts⟩ (cj_chr T.2.1 B D kc E V X i hi j hj H) ⟨callB_of _ hts (wj_good (i := 549) rfl) rfl rfl rfl (hts _ (tblw (i := 123) (by decide +kernel) rfl)) (hts _ hl) ⟨by decide, by decide, by decide +kernel⟩ ⟨Nat.le_trans (Nat.le_of_ble_eq_true rfl) hfr, Nat.le_trans (Nat.le_of_ble_eq_true rfl) hlo⟩, hts _ (tblw (i := 547) (by decide +kernel) rfl), hts _ (tblw (i := 548) (by decide +kernel) rfl)⟩ ⟨PcV_blind, sRecv g1 hS, fun U hU hW => ⟨rfl, by rw [hU]; exact hP, hcw.warm hW hU hS, by rw [hU]; exact hz⟩⟩ rfl rfl (by rw [← hml]; exact hls) rfl (lv_room hwd) hd hf
  exact h0
set_option maxHeartbeats 4000000 in
theorem opJ_st {T : TT} {own n : Nat} {isI : Bool} {cc : ByteArray} {B N0 : Nat} {D : va_G} {kc : Nat → ClassId} {E V : Nat → Nat} {X : XS} (C : Cx T own n isI cc B N0 D kc E V X) {pc ix b : Nat} (hd : decode cc pc = .ok (.invokestatic ix, 3)) (hl : Cond.methodLink (RN own) ix (BN b) ∈ gtb) (hb0 : b < 6 ∨ b = 9 ∨ b = 10) {S : ST} {H : HP} {k : ST → HP → RR} {x : Option AV × HP} (hw : words S ≤ 8) (h : opJ b S H k = some x) :
    ∃ S' H', k S' H' = some x ∧ HOk T B N0 D kc E pc 3 S H S' H' := by
  obtain ⟨hx, hb, hml, hown, hts, hlk, hini, hcw, hsz, hfr, hlo⟩ := id C
  obtain ⟨hK, -⟩ := id hcw
  have hf1 : 1 ≤ T.2.2.2.1.frames := Nat.le_trans (Nat.le_of_ble_eq_true rfl) hfr
  match b, hl, hb0, h with
  | 0, hl, _, h =>
    simp only [opJ] at h
    obtain ⟨a, c, S', rfl, h1⟩ := i2_inv h
    refine ⟨_, _, h1, HOk.lib fun Hm locs cells slots Q ls hP hS hls hc hs w => ?_⟩
    exact va_mmax hx hb hls hown (hts _ hl) (hts _ (tblw (i := 1065) (by decide +kernel) rfl)) (hts _ (tblw (i := 122) (by decide +kernel) rfl)) (hts _ (tblw (i := 1066) (by decide +kernel) rfl)) hf1 (wd_le (words_tl (words_tl hw)) hlo (Nat.le_of_ble_eq_true rfl)) hc hs hd w
  | 1, hl, _, h =>
    simp only [opJ] at h
    obtain ⟨a, c, S', rfl, h1⟩ := i2_inv h
    refine ⟨_, _, h1, HOk.lib fun Hm locs cells slots Q ls hP hS hls hc hs w => ?_⟩
    exact va_mmin hx hb hls hown (hts _ hl) (hts _ (tblw (i := 517) (by decide +kernel) rfl)) (hts _ (tblw (i := 122) (by decide +kernel) rfl)) (hts _ (tblw (i := 518) (by decide +kernel) rfl)) hf1 (wd_le (words_tl (words_tl hw)) hlo (Nat.le_of_ble_eq_true rfl)) hc hs hd w
  | 2, hl, _, h =>
    obtain ⟨a, S', rfl, h1⟩ := tI_inv h
    refine ⟨_, _, h1, HOk.lib fun Hm locs cells slots Q ls hP hS hls hc hs w => ?_⟩
    exact va_mabs hx hb hls hown (hts _ hl) (hts _ (tblw (i := 1024) (by decide +kernel) rfl)) (hts _ (tblw (i := 122) (by decide +kernel) rfl)) (hts _ (tblw (i := 1025) (by decide +kernel) rfl)) hf1 (wd_le (words_tl hw) hlo (Nat.le_of_ble_eq_true rfl)) hc hs hd w
  | 3, hl, _, h =>
    obtain ⟨a, S', rfl, h1⟩ := tI_inv h
    exact ⟨_, _, h1, j_bit C hd hl a S' H (words_tl hw)⟩
  | 4, hl, _, h =>
    obtain ⟨m0, S0, rfl, h1⟩ := tI_inv h
    obtain ⟨dp, S1, rfl, h2⟩ := tI_inv h1
    obtain ⟨b1, S2, rfl, h3⟩ := tN_inv h2
    obtain ⟨sp, S3, rfl, h4⟩ := tI_inv h3
    obtain ⟨a1, S4, rfl, h5⟩ := tN_inv h4
    obtain ⟨n0, hn0, h6⟩ := oneN_inv h5
    obtain ⟨n1, hn1, h7⟩ := oneN_inv h6
    obtain ⟨hc, h8⟩ := ite_inv h7
    simp only [not_or, Nat.not_lt] at hc
    obtain ⟨c1, c2, c3, c4, c5⟩ := hc
    refine ⟨_, _, h8, HOk.write rfl rfl fun Hm locs cells slots Q ls hP hS hls w => ?_⟩
    refine va_copyi (ty := .int) hx hb hls.symm hown (hts _ hl) (hts _ (tblw (i := 747) (by decide +kernel) rfl)) (hts _ (tblw (i := 746) (by decide +kernel) rfl)) (hts _ (tblw (i := 127) (by decide +kernel) rfl)) hK hP (wsO_D kc B H) hS a1 b1 0 0 (wsO_at hn0) (wsO_at hn1) rfl rfl rfl c1 c2 c3 c4 c5 (fun _ _ => rfl) hf1 (wd_le (words_tl (words_tl (words_tl (words_tl (words_tl hw))))) hlo nfw) hd fun H1 l1 hP1 _ hS1 => w H1 l1 ?_ hS1
    rw [wsO_set1 hn1 (agr_yA _ _ _ _ _ _), yA_row]
    exact hP1
  | 5, hl, _, h =>
    obtain ⟨m0, S0, rfl, h1⟩ := tI_inv h
    obtain ⟨dp, S1, rfl, h2⟩ := tI_inv h1
    obtain ⟨b1, S2, rfl, h3⟩ := tN_inv h2
    obtain ⟨sp, S3, rfl, h4⟩ := tI_inv h3
    obtain ⟨a1, S4, rfl, h5⟩ := tN_inv h4
    obtain ⟨n0, hn0, h6⟩ := oneN_inv h5
    obtain ⟨n1, hn1, h7⟩ := oneN_inv h6
    obtain ⟨hc, h8⟩ := ite_inv h7
    simp only [not_or, Nat.not_lt] at hc
    obtain ⟨c1, c2, c3, c4, c5⟩ := hc
    refine ⟨_, _, h8, HOk.write rfl rfl fun Hm locs cells slots Q ls hP hS hls w => ?_⟩
    refine va_copyl (ty := .long) hx hb hls.symm hown (hts _ hl) (hts _ (tblw (i := 747) (by decide +kernel) rfl)) (hts _ (tblw (i := 746) (by decide +kernel) rfl)) (hts _ (tblw (i := 127) (by decide +kernel) rfl)) hK hP (wsO_D kc B H) hS a1 b1 2 2 (wsO_at hn0) (wsO_at hn1) rfl rfl rfl c1 c2 c3 c4 c5 (fun _ _ => rfl) hf1 (wd_le (words_tl (words_tl (words_tl (words_tl (words_tl hw))))) hlo nfw) hd fun H1 l1 hP1 _ hS1 => w H1 l1 ?_ hS1
    rw [wsO_set1 hn1 (agr_yB _ _ _ _ _ _), yB_row]
    exact hP1
  | 6, _, hb0, _ => omega
  | 7, _, hb0, _ => omega
  | 8, _, hb0, _ => omega
  | 9, hl, _, h =>
    simp only [opJ] at h
    obtain ⟨a, c, S', rfl, h1⟩ := l2_inv h
    refine ⟨_, _, h1, HOk.lib fun Hm locs cells slots Q ls hP hS hls hc hs w => ?_⟩
    exact va_mmax_long hx hb hls hown (hts _ hl) (hts _ (tblw (i := 853) (by decide +kernel) rfl)) (hts _ (tblw (i := 122) (by decide +kernel) rfl)) (hts _ (tblw (i := 854) (by decide +kernel) rfl)) hf1 (wd_le (words_tl (words_tl hw)) hlo (Nat.le_of_ble_eq_true rfl)) hc hs hd w
  | 10, hl, _, h =>
    simp only [opJ] at h
    obtain ⟨a, c, S', rfl, h1⟩ := l2_inv h
    refine ⟨_, _, h1, HOk.lib fun Hm locs cells slots Q ls hP hS hls hc hs w => ?_⟩
    exact va_mmin_long hx hb hls hown (hts _ hl) (hts _ (tblw (i := 850) (by decide +kernel) rfl)) (hts _ (tblw (i := 122) (by decide +kernel) rfl)) (hts _ (tblw (i := 851) (by decide +kernel) rfl)) hf1 (wd_le (words_tl (words_tl hw)) hlo (Nat.le_of_ble_eq_true rfl)) hc hs hd w
  | b + 11, _, hb0, _ => omega
theorem opJ_vi {T : TT} {own n : Nat} {isI : Bool} {cc : ByteArray} {B N0 : Nat} {D : va_G} {kc : Nat → ClassId} {E V : Nat → Nat} {X : XS} (C : Cx T own n isI cc B N0 D kc E V X) {pc ix b : Nat} (hd : decode cc pc = .ok (.invokevirtual ix, 3)) (hl : Cond.methodLink (RN own) ix (BN b) ∈ gtb) (hb0 : b = 6 ∨ b = 7) {S : ST} {H : HP} {k : ST → HP → RR} {x : Option AV × HP} (hw : words S ≤ 8) (h : opJ b S H k = some x) :
    ∃ S' H', k S' H' = some x ∧ HOk T B N0 D kc E pc 3 S H S' H' := by
  rcases hb0 with rfl | rfl
  · simp only [opJ] at h
    split at h
    · rename_i e S1
      obtain ⟨he, h1⟩ := bif_inv h
      exact ⟨_, _, h1, j_len C hd hl e (Nat.le_of_ble_eq_true he) S1 H (words_tl hw)⟩
    · cases h
  · simp only [opJ] at h
    obtain ⟨j, S0, rfl, h0⟩ := tI_inv h
    split at h0
    · rename_i e S1
      obtain ⟨he, h1⟩ := bif_inv h0
      obtain ⟨hj, h2⟩ := inb_inv h1
      exact ⟨_, _, h2, j_chr C hd hl e (Nat.le_of_ble_eq_true he) j hj S1 H (words_tl (words_tl hw))⟩
    · cases h0
theorem opJ_sp {T : TT} {own n : Nat} {isI : Bool} {cc : ByteArray} {B N0 : Nat} {D : va_G} {kc : Nat → ClassId} {E V : Nat → Nat} {X : XS} (C : Cx T own n isI cc B N0 D kc E V X) {pc ix : Nat} (hd : decode cc pc = .ok (.invokespecial ix, 3)) (hl : Cond.methodLink (RN own) ix (BN 8) ∈ gtb) {S : ST} {H : HP} {k : ST → HP → RR} {x : Option AV × HP} (hw : words S ≤ 8) (h : opJ 8 S H k = some x) :
    ∃ S' H', k S' H' = some x ∧ HOk T B N0 D kc E pc 3 S H S' H' := by
  obtain ⟨hx, hb, hml, hown, hts, hlk, hini, hcw, hsz, hfr, hlo⟩ := id C
  have hf1 : 1 ≤ T.2.2.2.1.frames := Nat.le_trans (Nat.le_of_ble_eq_true rfl) hfr
  obtain ⟨a, S', rfl, h1⟩ := tN_inv h
  refine ⟨_, _, h1, HOk.lib fun Hm locs cells slots Q ls hP hS hls hc hs w => ?_⟩
  refine W.objInit hx hb hown (hts _ hl) (hts _ (tblw (i := 137) (by decide +kernel) rfl)) (hts _ (tblw (i := 138) (by decide +kernel) rfl)) rfl hls.symm rfl hd hf1 ?_ w
  have := wd_le (E := E) (B := B) (words_tl hw) hlo (c := 12) (Nat.le_of_ble_eq_true rfl)
  show 2 * 0 + _ + 12 ≤ _
  omega
end
section
/-! ONE INSTRUCTION of the small machine is the large one's -/
def hdP : List EN → Nat
  | [] => 0
  | e :: _ => e.1
theorem gd_cons {own : Nat} {isI : Bool} {cc : ByteArray} {pc : Nat} {cut : Option (List Nat)} {i : Instr} {len : Nat} {ax : List Nat} {cI : Int32} {cL : Int64} {is : List EN} (h : gd own isI cc ((pc, cut, i, len, ax, cI, cL) :: is) = true) : decode cc pc = .ok (i, len) ∧ (len = lenF i len ∧ axOk own isI pc i ax cI cL = true) ∧ (is ≠ [] → hdP is = pc + len) ∧ gd own isI cc is = true := by
  unfold gd at h
  simp only [Bool.and_eq_true, decide_eq_true_eq, chk, Nat.beq_eq] at h
  obtain ⟨⟨⟨h1, h2⟩, h3⟩, h4⟩ := h
  refine ⟨h1, h2, fun hne => ?_, h4⟩
  match is, hne, h3 with
  | e :: r, _, h3 =>
    simp only [Nat.beq_eq] at h3
    exact h3
theorem gd_jt {own : Nat} {isI : Bool} {cc : ByteArray} {t : Nat} : ∀ {code : List EN}, gd own isI cc code = true → gd own isI cc (jt t code) = true
  | [], h => h
  | e :: r, h => by
    unfold jt
    cases hb : Nat.beq e.1 t with
    | true => exact h
    | false => exact gd_jt (gd_cons h).2.2.2
theorem jt_hd {t : Nat} : ∀ {code : List EN}, jt t code ≠ [] → hdP (jt t code) = t
  | [], h => absurd rfl h
  | e :: r, h => by
    unfold jt at h ⊢
    cases hb : Nat.beq e.1 t with
    | true => exact Nat.eq_of_beq_eq_true hb
    | false =>
      rw [hb] at h
      exact jt_hd h
def Pnt (T : TT) (B N0 T0 n : Nat) (D : va_G) (kc : Nat → ClassId) (E : Nat → Nat) (Q : State → Prop) (HF : HP) (pc : Nat) (L : LL) (S : ST) (H : HP) : Prop :=
  (H.1.length ≤ HF.1.length ∧ tot H.1 ≤ tot HF.1) ∧ ∀ (Hm : Heap) (locs : List Loc) (cells slots : Nat) (ls : Array Slot), va_P D CLS (wsO kc B H) Hm → va_S (fun q => B ≤ q) T.2.2.2.2.1.heap Hm locs → H.1.length = N0 + cells → tot H.1 = T0 + slots → lv_has ls n (cLL E B L) → WC T Hm locs cells slots Q pc ls (S.map (cv E B))
theorem jmp_inv {go : List EN → LL → ST → HP → RR} {code : List EN} {ax : List Nat} {L : LL} {S : ST} {H : HP} {pc : Nat} {off : Int} {x : Option AV × HP} (ht : tgOk pc off ax = true) (h : (match (generalizing := false) ax with
    | t :: _ => go (jt t code) L S H
    | [] => none) = some x) : ∃ t : Nat, (pc : Int) + off = (t : Int) ∧ go (jt t code) L S H = some x := by
  match ax, ht, h with
  | t :: _, ht, h => exact ⟨t, of_decide_eq_true ht, h⟩
theorem swT_inv {x : Int32} {k : Nat → RR} {d : RR} {v : Option AV × HP} : ∀ {ts : List Nat} {lo : Nat}, swT x k d lo ts = some v → (∃ i t, ts[i]? = some t ∧ x = Int32.ofNat (lo + i) ∧ k t = some v) ∨ (d = some v ∧ ∀ i, i < ts.length → x ≠ Int32.ofNat (lo + i))
  | [], lo, h => Or.inr ⟨h, fun i hi => absurd hi (Nat.not_lt_zero i)⟩
  | t :: r, lo, h => by
    unfold swT at h
    by_cases hx : x = Int32.ofNat lo
    · rw [if_pos hx] at h
      exact Or.inl ⟨0, t, rfl, hx, h⟩
    · rw [if_neg hx] at h
      rcases swT_inv h with ⟨i, t', h1, h2, h3⟩ | ⟨h1, h2⟩
      · exact Or.inl ⟨i + 1, t', h1, by rw [h2]; congr 1; omega, h3⟩
      · refine Or.inr ⟨h1, fun i hi => ?_⟩
        cases i with
        | zero => exact hx
        | succ i =>
          have := h2 i (by simp at hi; omega)
          intro q
          exact this (by rw [q]; congr 1; omega)
theorem tsOk_at {pc : Nat} : ∀ {os : List Int} {ts : List Nat}, tsOk pc os ts = true → os.length = ts.length ∧ ∀ (i t : Nat), ts[i]? = some t → ∃ o, os[i]? = some o ∧ (pc : Int) + o = (t : Int)
  | [], [], _ => ⟨rfl, fun i t h => by simp at h⟩
  | o :: os, t :: ts, h => by
    simp only [tsOk, Bool.and_eq_true, decide_eq_true_eq] at h
    obtain ⟨h1, h2⟩ := tsOk_at h.2
    refine ⟨by simp [h1], fun i t' hi => ?_⟩
    cases i with
    | zero => simp at hi; subst hi; exact ⟨o, rfl, h.1⟩
    | succ i => exact h2 i t' (by simpa using hi)
  | [], _ :: _, h => by cases h
  | _ :: _, [], h => by cases h
theorem i32n {a : Nat} (h : a < 2000000) : (Int32.ofNat a).toInt = (a : Int) := nI_toInt (by omega)
theorem lkT_inv {pc : Nat} {x : Int32} {k : Nat → RR} {d : RR} {v : Option AV × HP} {dflt : Int} : ∀ {ps : List (Int × Int)} {ts : List Nat}, lsOk pc ps ts = true → lkT x k d ts = some v → (∃ o t, Op.lookupswitch.offset ps dflt x.toInt = o ∧ (pc : Int) + o = ((t : Nat) : Int) ∧ k t = some v) ∨ (d = some v ∧ Op.lookupswitch.offset ps dflt x.toInt = dflt)
  | [], [], _, h => Or.inr ⟨h, rfl⟩
  | (a0, o) :: r, a :: t :: ts, hl, h => by
    simp only [lsOk, Bool.and_eq_true, decide_eq_true_eq] at hl
    obtain ⟨⟨⟨h1, h2⟩, h3⟩, h4⟩ := hl
    have hlt : a < 1000000 := Nat.le_of_ble_eq_true h2
    unfold lkT at h
    rw [Op.lookupswitch.offset_cons]
    by_cases hx : x = Int32.ofNat a
    · rw [if_pos hx] at h
      have e : a0 = x.toInt := by rw [hx, i32n (by omega), h1]
      rw [if_pos (by first | exact e | exact e.symm)]
      exact Or.inl ⟨o, t, rfl, h3, h⟩
    · rw [if_neg hx] at h
      have e : ¬ a0 = x.toInt := fun q => hx (Int32.toInt_inj.mp (by rw [← q, h1, i32n (by omega)]))
      rw [if_neg (by first | exact e | exact fun q => e q.symm)]
      exact lkT_inv h4 h
  | [], _ :: _, hl, _ => by cases hl
  | _ :: _, [], hl, _ => by cases hl
  | _ :: _, [_], hl, _ => by cases hl
set_option maxHeartbeats 16000000 in
theorem stp_ok {T : TT} {own n : Nat} {isI : Bool} {cc : ByteArray} {B N0 T0 : Nat} {D : va_G} {kc : Nat → ClassId} {E V : Nat → Nat} {X : XS} (C : Cx T own n isI cc B N0 D kc E V X) {d rt : Nat} {call : Nat → List AV → HP → RR} (hcall : CallOk T.2.1 B D kc E V X d call) (hR : d + 10 ≤ T.2.2.2.1.frames ∧ 100 * d + 500 ≤ T.2.2.2.1.locals) {Q : State → Prop} {HF : HP} {r : Option AV} (hRc : HF.1.length - N0 ≤ T.2.2.2.1.cells) (hRs : tot HF.1 - T0 ≤ T.2.2.2.1.slots) {code : List EN} (hg : gd own isI cc code = true)
    (hret : ∀ (pc : Nat) (i : Instr) (L : LL) (S : ST) (H : HP), decode cc pc = .ok (i, 1) → opR rt i S H = some (r, HF) → Pnt T B N0 T0 n D kc E Q HF pc L S H)
    {pc : Nat} {cut : Option (List Nat)} {i : Instr} {len : Nat} {ax : List Nat} {cI : Int32} {cL : Int64} {is : List EN} (hgd : gd own isI cc ((pc, cut, i, len, ax, cI, cL) :: is) = true) {go : List EN → LL → ST → HP → RR}
    (hgo : ∀ (is' : List EN) (L' : LL) (S' : ST) (H' : HP), gd own isI cc is' = true → go is' L' S' H' = some (r, HF) → is' ≠ [] ∧ Pnt T B N0 T0 n D kc E Q HF (hdP is') L' S' H') {L : LL} {S : ST} {H : HP} (h : stp X call n rt go code is i ax cI cL L S H = some (r, HF)) : Pnt T B N0 T0 n D kc E Q HF pc L S H := by
  obtain ⟨hd, hk, hnx, hgs⟩ := gd_cons hgd
  obtain ⟨hx, hb, hml, -⟩ := id C
  have nxt : ∀ (L' : LL) (S' : ST) (H' : HP), go is L' S' H' = some (r, HF) → Pnt T B N0 T0 n D kc E Q HF (pc + len) L' S' H' := fun L' S' H' h1 => by
    obtain ⟨hne, w⟩ := hgo is L' S' H' hgs h1
    rw [hnx hne] at w
    exact w
  have jmp : ∀ (t : Nat) (L' : LL) (S' : ST) (H' : HP), go (jt t code) L' S' H' = some (r, HF) → Pnt T B N0 T0 n D kc E Q HF t L' S' H' := fun t L' S' H' h1 => by
    obtain ⟨hne, w⟩ := hgo (jt t code) L' S' H' (gd_jt hg) h1
    rw [jt_hd hne] at w
    exact w
  have fS : opS i ax cI cL S (fun S => go is L S H) = some (r, HF) → Pnt T B N0 T0 n D kc E Q HF pc L S H := fun h => by
    obtain ⟨S', h1, row⟩ := opS_ok C hd hk h
    obtain ⟨hm, w⟩ := nxt _ _ _ h1
    exact ⟨hm, fun Hm locs cells slots ls hP hS hc hs hl => row Hm locs cells slots Q ls (w Hm locs cells slots ls hP hS hc hs hl)⟩
  have fL : opL n i cI L S (fun L S => go is L S H) = some (r, HF) → Pnt T B N0 T0 n D kc E Q HF pc L S H := fun h => by
    obtain ⟨L', S', h1, row⟩ := opL_ok C hd hk h
    obtain ⟨hm, w⟩ := nxt _ _ _ h1
    exact ⟨hm, fun Hm locs cells slots ls hP hS hc hs hl => row Hm locs cells slots Q ls hl (fun ls' hl' => w Hm locs cells slots ls' hP hS hc hs hl')⟩
  have fK : (∃ S' H', go is L S' H' = some (r, HF) ∧ HOk T B N0 D kc E pc len S H S' H') → Pnt T B N0 T0 n D kc E Q HF pc L S H := fun h => by
    obtain ⟨S', H', h1, hm1, row⟩ := h
    obtain ⟨hm, w⟩ := nxt _ _ _ h1
    exact ⟨⟨Nat.le_trans hm1.1 hm.1, Nat.le_trans hm1.2 hm.2⟩, fun Hm locs cells slots ls hP hS hc hs hl => row HF T0 hRc hRs hm.1 hm.2 Hm locs cells slots Q ls hP hS hc hs (hl.1.trans hml.symm) (fun Hm' locs' cells' slots' hP' hS' hc' hs' => w Hm' locs' cells' slots' ls hP' hS' hc' hs' hl)⟩
  have fH : opH X i ax S H (fun S H => go is L S H) = some (r, HF) → Pnt T B N0 T0 n D kc E Q HF pc L S H := fun h => fK (opH_ok C hd hk h)
  have fR : len = 1 → opR rt i S H = some (r, HF) → Pnt T B N0 T0 n D kc E Q HF pc L S H := fun hl h => hret pc i L S H (by rw [hl] at hd; exact hd) h
  have con : ∀ (S' : ST) (c : Prop) (dc : Decidable c) (off : Int), tgOk pc off ax = true → (@ite _ c dc (match (generalizing := false) ax with
      | t :: _ => go (jt t code) L S' H
      | [] => none) (go is L S' H)) = some (r, HF) → (∀ (tgt : Nat), (pc : Int) + off = (tgt : Int) → ∀ (Hm : Heap) (locs : List Loc) (cells slots : Nat) (ls : Array Slot), (c → WC T Hm locs cells slots Q tgt ls (S'.map (cv E B))) → (¬ c → WC T Hm locs cells slots Q (pc + len) ls (S'.map (cv E B))) → WC T Hm locs cells slots Q pc ls (S.map (cv E B))) → Pnt T B N0 T0 n D kc E Q HF pc L S H := fun S' c dc off ht h row => by
    by_cases hc : c
    · rw [if_pos hc] at h
      obtain ⟨t, h1, h2⟩ := jmp_inv ht h
      obtain ⟨hm, w⟩ := jmp _ _ _ _ h2
      exact ⟨hm, fun Hm locs cells slots ls hP hS hce hs hl => row t h1 Hm locs cells slots ls (fun _ => w Hm locs cells slots ls hP hS hce hs hl) (fun q => absurd hc q)⟩
    · rw [if_neg hc] at h
      obtain ⟨hm, w⟩ := nxt _ _ _ h
      obtain ⟨t, ht'⟩ : ∃ t : Nat, (pc : Int) + off = (t : Int) := by
        match ax, ht with
        | t :: _, ht => exact ⟨t, of_decide_eq_true ht⟩
      exact ⟨hm, fun Hm locs cells slots ls hP hS hce hs hl => row t ht' Hm locs cells slots ls (fun q => absurd q hc) (fun _ => w Hm locs cells slots ls hP hS hce hs hl)⟩
  have con' : ∀ (S' : ST) (c : Prop) (dc : Decidable c) (off : Int), tgOk pc off ax = true → (@ite _ c dc (go is L S' H) (match (generalizing := false) ax with
      | t :: _ => go (jt t code) L S' H
      | [] => none)) = some (r, HF) → (∀ (tgt : Nat), (pc : Int) + off = (tgt : Int) → ∀ (Hm : Heap) (locs : List Loc) (cells slots : Nat) (ls : Array Slot), (¬ c → WC T Hm locs cells slots Q tgt ls (S'.map (cv E B))) → (c → WC T Hm locs cells slots Q (pc + len) ls (S'.map (cv E B))) → WC T Hm locs cells slots Q pc ls (S.map (cv E B))) → Pnt T B N0 T0 n D kc E Q HF pc L S H := fun S' c dc off ht h row => by
    by_cases hc : c
    · rw [if_pos hc] at h
      obtain ⟨hm, w⟩ := nxt _ _ _ h
      obtain ⟨t, ht'⟩ : ∃ t : Nat, (pc : Int) + off = (t : Int) := by
        match ax, ht with
        | t :: _, ht => exact ⟨t, of_decide_eq_true ht⟩
      exact ⟨hm, fun Hm locs cells slots ls hP hS hce hs hl => row t ht' Hm locs cells slots ls (fun q => absurd hc q) (fun _ => w Hm locs cells slots ls hP hS hce hs hl)⟩
    · rw [if_neg hc] at h
      obtain ⟨t, h1, h2⟩ := jmp_inv ht h
      obtain ⟨hm, w⟩ := jmp _ _ _ _ h2
      exact ⟨hm, fun Hm locs cells slots ls hP hS hce hs hl => row t h1 Hm locs cells slots ls (fun _ => w Hm locs cells slots ls hP hS hce hs hl) (fun q => absurd q hc)⟩
  cases i with
  | goto off =>
    obtain rfl : len = 3 := by simpa [lenF] using hk.1
    obtain ⟨t, h1, h2⟩ := jmp_inv hk.2 h
    obtain ⟨hm, w⟩ := jmp _ _ _ _ h2
    exact ⟨hm, fun Hm locs cells slots ls hP hS hc hs hl => lv_goto hx hb hd h1 (w Hm locs cells slots ls hP hS hc hs hl)⟩
  | ifCond c off =>
    obtain rfl : len = 3 := by simpa [lenF] using hk.1
    cases c with
    | eq =>
      simp only [stp] at h
      obtain ⟨a, S1, rfl, h1⟩ := tI_inv h
      exact con S1 _ _ off hk.2 h1 (fun t ht Hm locs cells slots ls w1 w2 => lv_if_eq hx hb hd ht w1 w2)
    | ne =>
      simp only [stp] at h
      obtain ⟨a, S1, rfl, h1⟩ := tI_inv h
      exact con' S1 _ _ off hk.2 h1 (fun t ht Hm locs cells slots ls w1 w2 => lv_if_ne hx hb hd ht w1 w2)
    | lt =>
      simp only [stp] at h
      obtain ⟨a, S1, rfl, h1⟩ := tI_inv h
      exact con S1 _ _ off hk.2 h1 (fun t ht Hm locs cells slots ls w1 w2 => lv_if_lt hx hb hd ht w1 w2)
    | ge =>
      simp only [stp] at h
      obtain ⟨a, S1, rfl, h1⟩ := tI_inv h
      exact con S1 _ _ off hk.2 h1 (fun t ht Hm locs cells slots ls w1 w2 => lv_if_ge hx hb hd ht w1 w2)
    | gt =>
      simp only [stp] at h
      obtain ⟨a, S1, rfl, h1⟩ := tI_inv h
      exact con S1 _ _ off hk.2 h1 (fun t ht Hm locs cells slots ls w1 w2 => lv_if_gt hx hb hd ht w1 w2)
    | le =>
      simp only [stp] at h
      obtain ⟨a, S1, rfl, h1⟩ := tI_inv h
      exact con S1 _ _ off hk.2 h1 (fun t ht Hm locs cells slots ls w1 w2 => lv_if_le hx hb hd ht w1 w2)
  | if_icmp c off =>
    obtain rfl : len = 3 := by simpa [lenF] using hk.1
    cases c with
    | eq =>
      simp only [stp] at h
      obtain ⟨a, S1, rfl, h1⟩ := tI_inv h
      obtain ⟨a2, S2, rfl, h2⟩ := tI_inv h1
      exact con S2 _ _ off hk.2 h2 (fun t ht Hm locs cells slots ls w1 w2 => lv_icmp_eq hx hb hd ht w1 w2)
    | ne =>
      simp only [stp] at h
      obtain ⟨a, S1, rfl, h1⟩ := tI_inv h
      obtain ⟨a2, S2, rfl, h2⟩ := tI_inv h1
      exact con' S2 _ _ off hk.2 h2 (fun t ht Hm locs cells slots ls w1 w2 => lv_icmp_ne hx hb hd ht w1 w2)
    | lt =>
      simp only [stp] at h
      obtain ⟨a, S1, rfl, h1⟩ := tI_inv h
      obtain ⟨a2, S2, rfl, h2⟩ := tI_inv h1
      exact con S2 _ _ off hk.2 h2 (fun t ht Hm locs cells slots ls w1 w2 => lv_icmp_lt hx hb hd ht w1 w2)
    | ge =>
      simp only [stp] at h
      obtain ⟨a, S1, rfl, h1⟩ := tI_inv h
      obtain ⟨a2, S2, rfl, h2⟩ := tI_inv h1
      exact con S2 _ _ off hk.2 h2 (fun t ht Hm locs cells slots ls w1 w2 => lv_icmp_ge hx hb hd ht w1 w2)
    | gt =>
      simp only [stp] at h
      obtain ⟨a, S1, rfl, h1⟩ := tI_inv h
      obtain ⟨a2, S2, rfl, h2⟩ := tI_inv h1
      exact con S2 _ _ off hk.2 h2 (fun t ht Hm locs cells slots ls w1 w2 => lv_icmp_gt hx hb hd ht w1 w2)
    | le =>
      simp only [stp] at h
      obtain ⟨a, S1, rfl, h1⟩ := tI_inv h
      obtain ⟨a2, S2, rfl, h2⟩ := tI_inv h1
      exact con S2 _ _ off hk.2 h2 (fun t ht Hm locs cells slots ls w1 w2 => lv_icmp_le hx hb hd ht w1 w2)
  | ifnull off =>
    obtain rfl : len = 3 := by simpa [lenF] using hk.1
    simp only [stp] at h
    obtain ⟨a, S1, rfl, h1⟩ := tP_inv h
    cases a with
    | none =>
      obtain ⟨t, h2, h3⟩ := jmp_inv hk.2 h1
      obtain ⟨hm, w⟩ := jmp _ _ _ _ h3
      exact ⟨hm, fun Hm locs cells slots ls hP hS hc hs hl => lv_ifnullN hx hb hd h2 (w Hm locs cells slots ls hP hS hc hs hl)⟩
    | some q =>
      obtain ⟨hm, w⟩ := nxt _ _ _ h1
      exact ⟨hm, fun Hm locs cells slots ls hP hS hc hs hl => lv_ifnull hx hb hd (w Hm locs cells slots ls hP hS hc hs hl)⟩
  | ifnonnull off =>
    obtain rfl : len = 3 := by simpa [lenF] using hk.1
    simp only [stp] at h
    obtain ⟨a, S1, rfl, h1⟩ := tP_inv h
    cases a with
    | none =>
      obtain ⟨hm, w⟩ := nxt _ _ _ h1
      exact ⟨hm, fun Hm locs cells slots ls hP hS hc hs hl => lv_ifnonnullN hx hb hd (w Hm locs cells slots ls hP hS hc hs hl)⟩
    | some q =>
      obtain ⟨t, h2, h3⟩ := jmp_inv hk.2 h1
      obtain ⟨hm, w⟩ := jmp _ _ _ _ h3
      exact ⟨hm, fun Hm locs cells slots ls hP hS hc hs hl => lv_ifnonnull hx hb hd h2 (w Hm locs cells slots ls hP hS hc hs hl)⟩
  | tableswitch dflt lo hi os =>
    have h2 := hk.2
    match ax, h, h2 with
    | [], h, _ => exact absurd h (by simp [stp])
    | [_], h, _ => exact absurd h (by simp [stp])
    | t0 :: a0 :: ts, h, h2 =>
      simp only [axOk, Bool.and_eq_true, decide_eq_true_eq] at h2
      obtain ⟨⟨⟨⟨⟨g1, g2⟩, g3⟩, g4⟩, g5⟩, g6⟩ := h2
      have ha : a0 < 1000000 := Nat.le_of_ble_eq_true g3
      have hos : os.size < 1000 := Nat.le_of_ble_eq_true g5
      obtain ⟨q1, q2⟩ := tsOk_at g6
      simp only [Array.length_toList] at q1
      simp only [stp] at h
      obtain ⟨v, S1, rfl, h1⟩ := tI_inv h
      rcases swT_inv h1 with ⟨i0, t, hi0, hv, h3⟩ | ⟨h3, hno⟩
      · obtain ⟨hm, w⟩ := jmp _ _ _ _ h3
        obtain ⟨o0, ho0, ho1⟩ := q2 i0 t hi0
        have hil : i0 < ts.length := (List.getElem?_eq_some_iff.mp hi0).1
        have hvi : v.toInt = ((a0 + i0 : Nat) : Int) := by rw [hv]; exact i32n (by omega)
        refine ⟨hm, fun Hm locs cells slots ls hP hS hc hs hl => lv_tableIn hx hb hd (by omega) (by omega) (off := o0) ?_ ho1 (w Hm locs cells slots ls hP hS hc hs hl)⟩
        have e : (v.toInt - lo).toNat = i0 := by omega
        rw [e, ← Array.getElem?_toList]
        exact ho0
      · obtain ⟨hm, w⟩ := jmp _ _ _ _ h3
        refine ⟨hm, fun Hm locs cells slots ls hP hS hc hs hl => lv_tableOut hx hb hd ?_ g1 (w Hm locs cells slots ls hP hS hc hs hl)⟩
        apply Classical.byContradiction
        intro hn
        have e1 : ¬ v.toInt < lo := fun q => hn (Or.inl q)
        have e2 : ¬ hi < v.toInt := fun q => hn (Or.inr q)
        have := hno (v.toInt - lo).toNat (by omega)
        refine this (Int32.toInt_inj.mp ?_)
        rw [i32n (by omega)]
        omega
  | lookupswitch dflt ps =>
    have h2 := hk.2
    match ax, h, h2 with
    | [], h, _ => exact absurd h (by simp [stp])
    | t0 :: ts, h, h2 =>
      simp only [axOk, Bool.and_eq_true, decide_eq_true_eq] at h2
      obtain ⟨⟨g1, g2⟩, g3⟩ := h2
      simp only [stp] at h
      obtain ⟨v, S1, rfl, h1⟩ := tI_inv h
      rcases lkT_inv (dflt := dflt) g3 h1 with ⟨o0, t, ho, ho1, h3⟩ | ⟨h3, ho⟩
      · obtain ⟨hm, w⟩ := jmp _ _ _ _ h3
        exact ⟨hm, fun Hm locs cells slots ls hP hS hc hs hl => lv_lookup hx hb hd g2 ho ho1 (w Hm locs cells slots ls hP hS hc hs hl)⟩
      · obtain ⟨hm, w⟩ := jmp _ _ _ _ h3
        exact ⟨hm, fun Hm locs cells slots ls hP hS hc hs hl => lv_lookup hx hb hd g2 ho g1 (w Hm locs cells slots ls hP hS hc hs hl)⟩
  | invokestatic ix =>
    have hl3 : len = 3 := by simpa [lenF] using hk.1
    by_cases hax : ∃ b r, ax = 2 :: b :: r
    · obtain ⟨b, r0, rfl⟩ := hax
      have h2 := hk.2
      obtain ⟨hw, h3⟩ := bif_inv h
      match r0, h2 with
      | [], h2 =>
        simp only [axOk, Bool.and_eq_true, Bool.or_eq_true, Nat.beq_eq] at h2
        subst hl3
        exact fK (opJ_st C hd (blt_use h2.1) (h2.2.elim (fun q => q.elim (fun g => Or.inl (Nat.le_of_ble_eq_true g)) (fun g => Or.inr (Or.inl g))) (fun g => Or.inr (Or.inr g))) (Nat.le_of_ble_eq_true hw) h3)
      | _ :: _, h2 => exact absurd h2 (by simp [axOk])
    · have hne : ∀ b r, ax ≠ 2 :: b :: r := fun b r q => hax ⟨b, r, q⟩
      refine fK (opC_st C hcall hR hd hk hne ?_)
      simp only [stp] at h
      exact h
  | invokevirtual ix =>
    have hl3 : len = 3 := by simpa [lenF] using hk.1
    by_cases hax : ∃ b r, ax = 2 :: b :: r
    · obtain ⟨b, r0, rfl⟩ := hax
      have h2 := hk.2
      obtain ⟨hw, h3⟩ := bif_inv h
      match r0, h2 with
      | [], h2 =>
        simp only [axOk, Bool.and_eq_true, Bool.or_eq_true, Nat.beq_eq] at h2
        subst hl3
        exact fK (opJ_vi C hd (blt_use h2.1) h2.2 (Nat.le_of_ble_eq_true hw) h3)
      | _ :: _, h2 => exact absurd h2 (by simp [axOk])
    · have hne : ∀ b r, ax ≠ 2 :: b :: r := fun b r q => hax ⟨b, r, q⟩
      refine fK (opC_vi C hcall hR hd hk hne ?_)
      simp only [stp] at h
      exact h
  | invokespecial ix =>
    have hl3 : len = 3 := by simpa [lenF] using hk.1
    by_cases hax : ∃ b r, ax = 2 :: b :: r
    · obtain ⟨b, r0, rfl⟩ := hax
      have h2 := hk.2
      obtain ⟨hw, h3⟩ := bif_inv h
      match r0, h2 with
      | [], h2 =>
        simp only [axOk, Bool.and_eq_true, Nat.beq_eq] at h2
        obtain ⟨h2, rfl⟩ := h2
        subst hl3
        exact fK (opJ_sp C hd (blt_use h2) (Nat.le_of_ble_eq_true hw) h3)
      | _ :: _, h2 => exact absurd h2 (by simp [axOk])
    · have hne : ∀ b r, ax ≠ 2 :: b :: r := fun b r q => hax ⟨b, r, q⟩
      refine fK (opC_sp C hcall hR hd hk hne ?_)
      simp only [stp] at h
      exact h
  | ireturn => exact fR (by simpa [lenF] using hk.1) h
  | lreturn => exact fR (by simpa [lenF] using hk.1) h
  | areturn => exact fR (by simpa [lenF] using hk.1) h
  | return_ => exact fR (by simpa [lenF] using hk.1) h
  | iload i0 => exact fL h
  | iload_n i0 => exact fL h
  | lload i0 => exact fL h
  | lload_n i0 => exact fL h
  | aload i0 => exact fL h
  | aload_n i0 => exact fL h
  | istore i0 => exact fL h
  | istore_n i0 => exact fL h
  | lstore i0 => exact fL h
  | lstore_n i0 => exact fL h
  | astore_n i0 => exact fL h
  | iinc i0 c0 => exact fL h
  | getfield ix => exact fH h
  | putfield ix => exact fH h
  | getstatic ix => exact fH h
  | iaload => exact fH h
  | baload => exact fH h
  | laload => exact fH h
  | aaload => exact fH h
  | iastore => exact fH h
  | bastore => exact fH h
  | lastore => exact fH h
  | aastore => exact fH h
  | arraylength => exact fH h
  | new ix => exact fH h
  | newarray t => exact fH h
  | anewarray ix => exact fH h
  | _ => exact fS h
end
section
/-! cells are never fewer -/
def mno (H H' : HP) : Prop := H.1.length ≤ H'.1.length ∧ tot H.1 ≤ tot H'.1
theorem mno.rf (H : HP) : mno H H := ⟨Nat.le_refl _, Nat.le_refl _⟩
theorem mno.tr {a b c : HP} (h : mno a b) (h' : mno b c) : mno a c := ⟨Nat.le_trans h.1 h'.1, Nat.le_trans h.2 h'.2⟩
theorem opS_mono {i : Instr} {ax : List Nat} {cI : Int32} {cL : Int64} {S : ST} {k : ST → RR} {x : Option AV × HP} (h : opS i ax cI cL S k = some x) : ∃ S', k S' = some x := by
  cases i <;> simp only [opS] at h <;> first
    | exact ⟨_, h⟩
    | exact (let ⟨_, _, _, _, h1⟩ := i2_inv h; ⟨_, h1⟩)
    | exact (let ⟨_, _, _, _, h1⟩ := l2_inv h; ⟨_, h1⟩)
    | exact (let ⟨_, _, _, _, h1⟩ := ls2_inv h; ⟨_, h1⟩)
    | exact (let ⟨_, _, _, h1⟩ := tI_inv h; let ⟨_, _, _, h2⟩ := tI_inv h1; ⟨_, (ite_inv h2).2⟩)
    | exact (let ⟨_, _, _, h1⟩ := tL_inv h; let ⟨_, _, _, h2⟩ := tL_inv h1; ⟨_, (ite_inv h2).2⟩)
    | exact (let ⟨_, _, _, h1⟩ := tL_inv h; let ⟨_, _, _, h2⟩ := tL_inv h1; ⟨_, h2⟩)
    | exact (let ⟨_, _, _, h1⟩ := tI_inv h; ⟨_, h1⟩)
    | exact (let ⟨_, _, _, h1⟩ := tL_inv h; ⟨_, h1⟩)
    | exact (let ⟨_, _, _, _, h1⟩ := t1_inv h; let ⟨_, _, _, _, h2⟩ := t1_inv h1; ⟨_, h2⟩)
    | exact (let ⟨_, _, _, _, h1⟩ := t1_inv h; ⟨_, h1⟩)
    | cases h
    | (split at h <;> exact ⟨_, h⟩)
theorem opL_mono {n : Nat} {i : Instr} {cI : Int32} {L : LL} {S : ST} {k : LL → ST → RR} {x : Option AV × HP} (h : opL n i cI L S k = some x) : ∃ L' S', k L' S' = some x := by
  cases i <;> simp only [opL] at h <;> first
    | exact (let ⟨_, _, h1⟩ := ldI_inv h; ⟨_, _, h1⟩)
    | exact (let ⟨_, _, h1⟩ := ldL_inv h; ⟨_, _, h1⟩)
    | exact (let ⟨_, _, h1⟩ := ldP_inv h; ⟨_, _, h1⟩)
    | exact (let ⟨_, _, _, h1⟩ := tI_inv h; ⟨_, _, (bif_inv h1).2⟩)
    | exact (let ⟨_, _, _, h1⟩ := tL_inv h; ⟨_, _, (bif_inv h1).2⟩)
    | exact (let ⟨_, _, _, h1⟩ := stP_inv (bif_inv h).2; ⟨_, _, h1⟩)
    | cases h
    | (split at h; exact ⟨_, _, (bif_inv h).2⟩; cases h)
theorem mno_put {H : HP} {n : Nat} {c c' : SC} {h' : DT} (hn : H.1[n]? = some c) (hs : szC c' = szC c) : mno H (putL H.1 n c', h') := by
  obtain ⟨a, b⟩ := szN_set hn hs h'
  exact ⟨Nat.le_of_eq a.symm, Nat.le_of_eq b.symm⟩
theorem mno_app (H : HP) (c : SC) (h' : DT) : mno H (H.1 ++ [c], h') := by
  obtain ⟨a, b⟩ := tot1 H.1 c
  exact ⟨by show _ ≤ (H.1 ++ [c]).length; omega, by show _ ≤ tot (H.1 ++ [c]); omega⟩
theorem opH_mono {X : XS} {i : Instr} {ax : List Nat} {S : ST} {H : HP} {k : ST → HP → RR} {x : Option AV × HP} (h : opH X i ax S H k = some x) : ∃ S' H', k S' H' = some x ∧ mno H H' := by
  cases i <;> simp only [opH] at h <;> first
    | cases h
    | exact (let ⟨_, _, _, h0⟩ := tI_inv h; let ⟨_, _, _, h1⟩ := tI_inv h0; let ⟨_, _, _, h2⟩ := tN_inv h1; let ⟨_, _, h3⟩ := oneN_inv h2; ⟨_, _, (inb_inv h3).2, mno.rf _⟩)
    | exact (let ⟨_, _, _, h0⟩ := tL_inv h; let ⟨_, _, _, h1⟩ := tI_inv h0; let ⟨_, _, _, h2⟩ := tN_inv h1; let ⟨_, _, h3⟩ := oneN_inv h2; ⟨_, _, (inb_inv h3).2, mno.rf _⟩)
    | exact (let ⟨_, _, _, h1⟩ := tI_inv h; let ⟨_, _, _, h2⟩ := tN_inv h1; let ⟨_, _, h3⟩ := oneN_inv h2; ⟨_, _, (inb_inv h3).2, mno.rf _⟩)
    | exact (let ⟨_, _, _, h1⟩ := tI_inv h; let ⟨_, _, _, h2⟩ := tN_inv h1; let ⟨_, _, h3⟩ := oneR_inv h2; ⟨_, _, (inb_inv h3).2, mno.rf _⟩)
    | exact (let ⟨_, _, _, h1⟩ := tI_inv h; ⟨_, _, (ite_inv h1).2, mno_app _ _ _⟩)
    | skip
  · -- aastore
    obtain ⟨_, _, _, h0⟩ := tN_inv h
    obtain ⟨_, _, _, h1⟩ := tI_inv h0
    obtain ⟨_, _, _, h2⟩ := tN_inv h1
    obtain ⟨r, hr, h3⟩ := oneR_inv h2
    obtain ⟨_, _, h4⟩ := oneC_inv h3
    exact ⟨_, _, (inb_inv h4).2, mno_put hr (by simp [szC, putL_eq])⟩
  · -- arraylength
    split at h
    · exact ⟨_, _, (bif_inv h).2, mno.rf _⟩
    · cases h
  · -- getfield
    split at h
    · obtain ⟨_, _, _, h1⟩ := tN_inv h
      obtain ⟨_, _, h2⟩ := oneC_inv h1
      split at h2 <;> exact ⟨_, _, h2, mno.rf _⟩
    · cases h
  · -- getstatic
    split at h
    · exact ⟨_, _, h, mno.rf _⟩
    · cases h
  · -- iaload
    split at h
    · rename_i i0 e S1
      cases he : Nat.beq e 100 with
      | true =>
        rw [he] at h
        simp only [cond_true] at h
        exact ⟨_, _, (inb_inv h).2, mno.rf _⟩
      | false =>
        rw [he] at h
        simp only [cond_false] at h
        exact ⟨_, _, (inb_inv (bif_inv h).2).2, mno.rf _⟩
    · obtain ⟨_, _, _, h1⟩ := tI_inv h
      obtain ⟨_, _, _, h2⟩ := tN_inv h1
      obtain ⟨_, _, h3⟩ := oneN_inv h2
      exact ⟨_, _, (inb_inv h3).2, mno.rf _⟩
  · -- new
    split at h
    · exact ⟨_, _, h, mno_app _ _ _⟩
    · cases h
  · -- newarray
    split at h
    · obtain ⟨_, _, _, h1⟩ := tI_inv h
      exact ⟨_, _, (ite_inv h1).2, mno_app _ _ _⟩
    · cases h
  · -- putfield
    split at h
    · split at h
      · obtain ⟨_, _, _, h1⟩ := tI_inv h
        obtain ⟨_, _, _, h2⟩ := tN_inv h1
        obtain ⟨_, _, h3⟩ := oneC_inv h2
        exact ⟨_, _, h3, mno.rf _⟩
      · obtain ⟨_, _, _, h1⟩ := tL_inv h
        obtain ⟨_, _, _, h2⟩ := tN_inv h1
        obtain ⟨_, _, h3⟩ := oneC_inv h2
        exact ⟨_, _, h3, mno.rf _⟩
      · obtain ⟨_, _, _, h1⟩ := tP_inv h
        obtain ⟨_, _, _, h2⟩ := tN_inv h1
        obtain ⟨_, hr, h3⟩ := oneC_inv h2
        exact ⟨_, _, (bif_inv h3).2, mno_put hr rfl⟩
      · obtain ⟨_, _, _, h1⟩ := tI_inv h
        obtain ⟨_, _, _, h2⟩ := tN_inv h1
        obtain ⟨_, _, h3⟩ := oneC_inv h2
        split at h3
        · exact ⟨_, _, h3, mno.rf _⟩
        · cases h3
    · cases h
theorem opJ_mono {b : Nat} {S : ST} {H : HP} {k : ST → HP → RR} {x : Option AV × HP} (h : opJ b S H k = some x) : ∃ S' H', k S' H' = some x ∧ mno H H' := by
  unfold opJ at h
  split at h
  · obtain ⟨_, _, _, _, h1⟩ := i2_inv h; exact ⟨_, _, h1, mno.rf _⟩
  · obtain ⟨_, _, _, _, h1⟩ := i2_inv h; exact ⟨_, _, h1, mno.rf _⟩
  · obtain ⟨_, _, _, h1⟩ := tI_inv h; exact ⟨_, _, h1, mno.rf _⟩
  · obtain ⟨_, _, _, h1⟩ := tI_inv h; exact ⟨_, _, h1, mno.rf _⟩
  · obtain ⟨_, _, _, h1⟩ := tI_inv h
    obtain ⟨_, _, _, h2⟩ := tI_inv h1
    obtain ⟨_, _, _, h3⟩ := tN_inv h2
    obtain ⟨_, _, _, h4⟩ := tI_inv h3
    obtain ⟨_, _, _, h5⟩ := tN_inv h4
    obtain ⟨_, _, h6⟩ := oneN_inv h5
    obtain ⟨_, _, h7⟩ := oneN_inv h6
    exact ⟨_, _, (ite_inv h7).2, mno.rf _⟩
  · obtain ⟨_, _, _, h1⟩ := tI_inv h
    obtain ⟨_, _, _, h2⟩ := tI_inv h1
    obtain ⟨_, _, _, h3⟩ := tN_inv h2
    obtain ⟨_, _, _, h4⟩ := tI_inv h3
    obtain ⟨_, _, _, h5⟩ := tN_inv h4
    obtain ⟨_, _, h6⟩ := oneN_inv h5
    obtain ⟨_, _, h7⟩ := oneN_inv h6
    exact ⟨_, _, (ite_inv h7).2, mno.rf _⟩
  · split at h
    · exact ⟨_, _, (bif_inv h).2, mno.rf _⟩
    · cases h
  · obtain ⟨_, _, _, h1⟩ := tI_inv h
    split at h1
    · exact ⟨_, _, (inb_inv (bif_inv h1).2).2, mno.rf _⟩
    · cases h1
  · obtain ⟨_, _, _, h1⟩ := tN_inv h; exact ⟨_, _, h1, mno.rf _⟩
  · obtain ⟨_, _, _, _, h1⟩ := l2_inv h; exact ⟨_, _, h1, mno.rf _⟩
  · obtain ⟨_, _, _, _, h1⟩ := l2_inv h; exact ⟨_, _, h1, mno.rf _⟩
  · cases h
theorem opC_mono {call : Nat → List AV → HP → RR} (hc : ∀ y as H r H', call y as H = some (r, H') → mno H H') {ax : List Nat} {S : ST} {H : HP} {k : ST → HP → RR} {x : Option AV × HP} (h : opC call ax S H k = some x) : ∃ S' H', k S' H' = some x ∧ mno H H' := by
  unfold opC at h
  split at h
  · obtain ⟨as, S1, -, -, h1⟩ := popN_inv h
    simp only at h1
    split at h1
    · obtain ⟨_, h2⟩ := bif_inv h1
      obtain ⟨r, H1, hr, h3⟩ := goC_inv h2
      exact ⟨_, _, h3, hc _ _ _ _ _ hr⟩
    · obtain ⟨_, _, _, h2⟩ := tN_inv h1
      obtain ⟨_, _, h3⟩ := oneC_inv h2
      obtain ⟨_, h4⟩ := bif_inv h3
      obtain ⟨r, H1, hr, h5⟩ := goC_inv h4
      exact ⟨_, _, h5, hc _ _ _ _ _ hr⟩
    · cases h1
  · cases h
theorem opR_eq {rt : Nat} {i : Instr} {S : ST} {H : HP} {x : Option AV × HP} (h : opR rt i S H = some x) : x.2 = H := by
  unfold opR at h
  split at h <;> (try (split at h)) <;> (try (split at h)) <;> first | (cases h; rfl) | cases h
theorem swT_any {x : Int32} {k : Nat → RR} {d : RR} {v : Option AV × HP} {ts : List Nat} {lo : Nat} (h : swT x k d lo ts = some v) : (∃ t, k t = some v) ∨ d = some v := by
  rcases swT_inv h with ⟨_, t, _, _, h1⟩ | ⟨h1, _⟩
  · exact Or.inl ⟨t, h1⟩
  · exact Or.inr h1
theorem lkT_any {x : Int32} {k : Nat → RR} {d : RR} {v : Option AV × HP} : ∀ {ts : List Nat}, lkT x k d ts = some v → (∃ t, k t = some v) ∨ d = some v
  | [], h => Or.inr h
  | [_], h => Or.inr h
  | a :: t :: r, h => by
    unfold lkT at h
    split at h
    · exact Or.inl ⟨t, h⟩
    · exact lkT_any h
set_option maxHeartbeats 8000000 in
theorem stp_mono {X : XS} {call : Nat → List AV → HP → RR} (hc : ∀ y as H r H', call y as H = some (r, H') → mno H H') {n rt : Nat} {go : List EN → LL → ST → HP → RR} {code is : List EN} {i : Instr} {ax : List Nat} {cI : Int32} {cL : Int64} {L : LL} {S : ST} {H : HP} {x : Option AV × HP} (h : stp X call n rt go code is i ax cI cL L S H = some x) : x.2 = H ∨ ∃ is' L' S' H', go is' L' S' H' = some x ∧ mno H H' := by
  have fS : opS i ax cI cL S (fun S => go is L S H) = some x → x.2 = H ∨ ∃ is' L' S' H', go is' L' S' H' = some x ∧ mno H H' := fun h => by
    obtain ⟨S', h1⟩ := opS_mono h
    exact Or.inr ⟨_, _, _, _, h1, mno.rf _⟩
  have fL : opL n i cI L S (fun L S => go is L S H) = some x → x.2 = H ∨ ∃ is' L' S' H', go is' L' S' H' = some x ∧ mno H H' := fun h => by
    obtain ⟨L', S', h1⟩ := opL_mono h
    exact Or.inr ⟨_, _, _, _, h1, mno.rf _⟩
  have fH : opH X i ax S H (fun S H => go is L S H) = some x → x.2 = H ∨ ∃ is' L' S' H', go is' L' S' H' = some x ∧ mno H H' := fun h => by
    obtain ⟨S', H', h1, h2⟩ := opH_mono h
    exact Or.inr ⟨_, _, _, _, h1, h2⟩
  have fJ : ∀ b, opJ b S H (fun S H => go is L S H) = some x → x.2 = H ∨ ∃ is' L' S' H', go is' L' S' H' = some x ∧ mno H H' := fun b h => by
    obtain ⟨S', H', h1, h2⟩ := opJ_mono h
    exact Or.inr ⟨_, _, _, _, h1, h2⟩
  have fC : opC call ax S H (fun S H => go is L S H) = some x → x.2 = H ∨ ∃ is' L' S' H', go is' L' S' H' = some x ∧ mno H H' := fun h => by
    obtain ⟨S', H', h1, h2⟩ := opC_mono hc h
    exact Or.inr ⟨_, _, _, _, h1, h2⟩
  have fG : ∀ is' L' S', go is' L' S' H = some x → x.2 = H ∨ ∃ is' L' S' H', go is' L' S' H' = some x ∧ mno H H' := fun _ _ _ h => Or.inr ⟨_, _, _, _, h, mno.rf _⟩
  have fM : ∀ S', (match (generalizing := false) ax with
      | t :: _ => go (jt t code) L S' H
      | [] => none) = some x → x.2 = H ∨ ∃ is' L' S' H', go is' L' S' H' = some x ∧ mno H H' := fun S' h => by
    split at h
    · exact fG _ _ _ h
    · cases h
  cases i with
  | goto off => exact fM S h
  | ifCond c off =>
    cases c <;> (simp only [stp] at h; obtain ⟨_, S1, _, h1⟩ := tI_inv h; split at h1 <;> first | exact fG _ _ _ h1 | exact fM S1 h1)
  | if_icmp c off =>
    cases c <;> (simp only [stp] at h; obtain ⟨_, S0, _, h0⟩ := tI_inv h; obtain ⟨_, S1, _, h1⟩ := tI_inv h0; split at h1 <;> first | exact fG _ _ _ h1 | exact fM S1 h1)
  | ifnull off =>
    simp only [stp] at h
    obtain ⟨o, S1, _, h1⟩ := tP_inv h
    cases o with
    | none => exact fM S1 h1
    | some q => exact fG _ _ _ h1
  | ifnonnull off =>
    simp only [stp] at h
    obtain ⟨o, S1, _, h1⟩ := tP_inv h
    cases o with
    | none => exact fG _ _ _ h1
    | some q => exact fM S1 h1
  | tableswitch d0 lo hi os =>
    simp only [stp] at h
    split at h
    · obtain ⟨_, S1, _, h1⟩ := tI_inv h
      rcases swT_any h1 with ⟨t, h2⟩ | h2 <;> exact fG _ _ _ h2
    · cases h
  | lookupswitch d0 ps =>
    simp only [stp] at h
    split at h
    · obtain ⟨_, S1, _, h1⟩ := tI_inv h
      rcases lkT_any h1 with ⟨t, h2⟩ | h2 <;> exact fG _ _ _ h2
    · cases h
  | invokestatic ix =>
    simp only [stp] at h
    split at h
    · exact fJ _ (bif_inv h).2
    · exact fC h
  | invokevirtual ix =>
    simp only [stp] at h
    split at h
    · exact fJ _ (bif_inv h).2
    · exact fC h
  | invokespecial ix =>
    simp only [stp] at h
    split at h
    · exact fJ _ (bif_inv h).2
    · exact fC h
  | ireturn => exact Or.inl (opR_eq (i := .ireturn) h)
  | lreturn => exact Or.inl (opR_eq (i := .lreturn) h)
  | areturn => exact Or.inl (opR_eq (i := .areturn) h)
  | return_ => exact Or.inl (opR_eq (i := .return_) h)
  | iload i0 => exact fL h
  | iload_n i0 => exact fL h
  | lload i0 => exact fL h
  | lload_n i0 => exact fL h
  | aload i0 => exact fL h
  | aload_n i0 => exact fL h
  | istore i0 => exact fL h
  | istore_n i0 => exact fL h
  | lstore i0 => exact fL h
  | lstore_n i0 => exact fL h
  | astore_n i0 => exact fL h
  | iinc i0 c0 => exact fL h
  | getfield ix => exact fH h
  | putfield ix => exact fH h
  | getstatic ix => exact fH h
  | iaload => exact fH h
  | baload => exact fH h
  | laload => exact fH h
  | aaload => exact fH h
  | iastore => exact fH h
  | bastore => exact fH h
  | lastore => exact fH h
  | aastore => exact fH h
  | arraylength => exact fH h
  | new ix => exact fH h
  | newarray t => exact fH h
  | anewarray ix => exact fH h
  | _ => exact fS h
theorem exm_mono {X : XS} {call : Nat → List AV → HP → RR} (hc : ∀ y as H r H', call y as H = some (r, H') → mno H H') {n rt : Nat} {code : List EN} {K : Nat → LL → ST → HP → RR} {x : Option AV × HP} (hK : ∀ pc L S H, K pc L S H = some x → mno H x.2) : ∀ (f : Nat) (b : Bool) (is : List EN) (L : LL) (S : ST) (H : HP), exm X call n rt code f b is L S H K = some x → mno H x.2
  | 0, b, is, L, S, H, h => by cases h
  | f + 1, b, [], L, S, H, h => by cases h
  | f + 1, b, (pc, cut, i, len, ax, cI, cL) :: is, L, S, H, h => by
    unfold exm at h
    split at h
    · exact hK _ _ _ _ h
    · rcases stp_mono hc h with h1 | ⟨is', L', S', H', h1, h2⟩
      · rw [h1]; exact mno.rf _
      · exact h2.tr (exm_mono hc hK f false is' L' S' H' h1)
theorem rcm_mono {X : XS} {call : Nat → List AV → HP → RR} (hc : ∀ y as H r H', call y as H = some (r, H') → mno H H') {n rt : Nat} {code : List EN} {x : Option AV × HP} : ∀ (f pc : Nat) (L : LL) (S : ST) (H : HP), rcm X call n rt code f pc L S H = some x → mno H x.2
  | 0, pc, L, S, H, h => by cases h
  | f + 1, pc, L, S, H, h => exm_mono hc (fun pc L S H h' => rcm_mono hc f pc L S H h') 5000 true _ L S H h
theorem cal_mono {X : XS} : ∀ (d y : Nat) (as : List AV) (H : HP) (r : Option AV) (H' : HP), cal X d y as H = some (r, H') → mno H H'
  | 0, y, as, H, r, H', h => by cases h
  | d + 1, y, as, H, r, H', h => by
    unfold cal at h
    split at h
    · exact rcm_mono (cal_mono d) _ _ _ _ _ (bif_inv h).2
    · cases h
end
section
/-! A METHOD of the small machine is the large one's -/
theorem exm_ok {T : TT} {own n : Nat} {isI : Bool} {cc : ByteArray} {B N0 T0 : Nat} {D : va_G} {kc : Nat → ClassId} {E V : Nat → Nat} {X : XS} (C : Cx T own n isI cc B N0 D kc E V X) {d rt : Nat} {call : Nat → List AV → HP → RR} (hcall : CallOk T.2.1 B D kc E V X d call) (hR : d + 10 ≤ T.2.2.2.1.frames ∧ 100 * d + 500 ≤ T.2.2.2.1.locals) {Q : State → Prop} {HF : HP} {r : Option AV} (hRc : HF.1.length - N0 ≤ T.2.2.2.1.cells) (hRs : tot HF.1 - T0 ≤ T.2.2.2.1.slots) {code : List EN} (hg : gd own isI cc code = true)
    (hret : ∀ (pc : Nat) (i : Instr) (L : LL) (S : ST) (H : HP), decode cc pc = .ok (i, 1) → opR rt i S H = some (r, HF) → Pnt T B N0 T0 n D kc E Q HF pc L S H) {K : Nat → LL → ST → HP → RR} (hK : ∀ (pc : Nat) (L : LL) (S : ST) (H : HP), K pc L S H = some (r, HF) → Pnt T B N0 T0 n D kc E Q HF pc L S H) :
    ∀ (f : Nat) (b : Bool) (is : List EN) (L : LL) (S : ST) (H : HP), gd own isI cc is = true → exm X call n rt code f b is L S H K = some (r, HF) → is ≠ [] ∧ Pnt T B N0 T0 n D kc E Q HF (hdP is) L S H
  | 0, b, is, L, S, H, hgd, h => by cases h
  | f + 1, b, [], L, S, H, hgd, h => by cases h
  | f + 1, b, (pc, cut, i, len, ax, cI, cL) :: is, L, S, H, hgd, h => by
    refine ⟨List.cons_ne_nil _ _, ?_⟩
    unfold exm at h
    split at h
    · obtain ⟨hm, w⟩ := hK _ _ _ _ h
      exact ⟨hm, fun Hm locs cells slots ls hP hS hc hs hl => w Hm locs cells slots ls hP hS hc hs (rs_has hl)⟩
    · exact stp_ok C hcall hR hRc hRs hg hret hgd (fun is' L' S' H' hg' h' => exm_ok C hcall hR hRc hRs hg hret hK f false is' L' S' H' hg' h') h
theorem rcm_ok {T : TT} {own n : Nat} {isI : Bool} {cc : ByteArray} {B N0 T0 : Nat} {D : va_G} {kc : Nat → ClassId} {E V : Nat → Nat} {X : XS} (C : Cx T own n isI cc B N0 D kc E V X) {d rt : Nat} {call : Nat → List AV → HP → RR} (hcall : CallOk T.2.1 B D kc E V X d call) (hR : d + 10 ≤ T.2.2.2.1.frames ∧ 100 * d + 500 ≤ T.2.2.2.1.locals) {Q : State → Prop} {HF : HP} {r : Option AV} (hRc : HF.1.length - N0 ≤ T.2.2.2.1.cells) (hRs : tot HF.1 - T0 ≤ T.2.2.2.1.slots) {code : List EN} (hg : gd own isI cc code = true)
    (hret : ∀ (pc : Nat) (i : Instr) (L : LL) (S : ST) (H : HP), decode cc pc = .ok (i, 1) → opR rt i S H = some (r, HF) → Pnt T B N0 T0 n D kc E Q HF pc L S H) :
    ∀ (f pc : Nat) (L : LL) (S : ST) (H : HP), rcm X call n rt code f pc L S H = some (r, HF) → Pnt T B N0 T0 n D kc E Q HF pc L S H
  | 0, pc, L, S, H, h => by cases h
  | f + 1, pc, L, S, H, h => by
    obtain ⟨hne, w⟩ := exm_ok C hcall hR hRc hRs hg hret (fun pc L S H h' => rcm_ok C hcall hR hRc hRs hg hret f pc L S H h') 5000 true (jt pc code) L S H (gd_jt hg) h
    rw [jt_hd hne] at w
    exact w
theorem iniL_args (E : Nat → Nat) (B : Nat) : ∀ (as : List AV) (i : Nat), cLL E B (iniL i as) = lv_args i (as.map (cv E B))
  | [], i => rfl
  | v :: as, i => by
    have e : (if (cv E B v).category = 2 then i + 2 else i + 1) = i + cat1 v := by
      rw [cat_cv]
      match v with
      | .inl x => rfl
      | .inr (.inl x) => rfl
      | .inr (.inr x) => rfl
    show (i, cv E B v) :: cLL E B (iniL (i + cat1 v) as) = (i, cv E B v) :: lv_args (if (cv E B v).category = 2 then i + 2 else i + 1) (as.map (cv E B))
    rw [e, iniL_args E B as]
theorem lg_len (E : Nat → Nat) (B : Nat) (as : List AV) : (lg_sl (as.map (cv E B))).length = words as := by
  induction as with
  | nil => rfl
  | cons v as ih =>
    have e : lg_sl ((v :: as).map (cv E B)) = (if (cv E B v).category = 2 then [.val (cv E B v), .second] else [.val (cv E B v)]) ++ lg_sl (as.map (cv E B)) := rfl
    rw [e, List.length_append, ih, cat_cv]
    show _ = cat1 v + words as
    congr 1
    match v with
    | .inl x => rfl
    | .inr (.inl x) => rfl
    | .inr (.inr x) => rfl
/-- a method's return -/
theorem ret_ok {T : TT} {own n : Nat} {isI : Bool} {cc : ByteArray} {B N0 T0 : Nat} {D : va_G} {kc : Nat → ClassId} {E V : Nat → Nat} {X : XS} (C : Cx T own n isI cc B N0 D kc E V X) {rt : Nat} {ret : Option FieldType} (hrt : rtOk rt ret = true) (hr : T.2.2.2.2.2.2.2.2.1.sig.returnType = ret) {HF : HP} {r : Option AV} {pc : Nat} {i : Instr} {L : LL} {S : ST} {H : HP} (hd : decode cc pc = .ok (i, 1)) (h : opR rt i S H = some (r, HF)) :
    Pnt T B N0 T0 n D kc E (MQ T.2.2.2.2.2.2.2.1 (QcM B D kc E r HF) T.2.2.2.2.2.2.1 T.2.2.2.2.1 (HF.1.length - N0) (tot HF.1 - T0) (fun a => B ≤ a)) HF pc L S H := by
  obtain ⟨hx, hb, hml, hown, hts, hlk, -⟩ := id C
  have hH : HF = H := opR_eq h
  subst hH
  refine ⟨⟨Nat.le_refl _, Nat.le_refl _⟩, fun Hm locs cells slots ls hP hS hc hs hl => ?_⟩
  have e1 : cells = HF.1.length - N0 := by omega
  have e2 : slots = tot HF.1 - T0 := by omega
  subst e1
  subst e2
  have hf : ∀ q ∈ locs, B ≤ q.base := hS.2.2
  have hq : ∀ (v : Option AV) (t : State), v = r → t.heap = Hm → QcM B D kc E r HF T.2.2.2.2.2.2.1 T.2.2.2.2.1 (.returned (v.map (cv E B))) t := fun v t hv ht => by
    subst hv
    exact ⟨rfl, by rw [ht]; exact hP, hS.F ht⟩
  unfold opR at h
  split at h
  · split at h
    · cases h
      have hrn : ret = none := by
        unfold rtOk at hrt
        split at hrt <;> simp_all
      exact W.vret hx hb (by rw [hr, hrn]) (fun t ht _ => hq none t rfl ht) hf hd hlk
    · cases h
  · split at h
    · cases h
      have hrn : ret = some .int := by
        unfold rtOk at hrt
        split at hrt <;> simp_all
      exact W.iret hx hb (by rw [hr, hrn]) (fun t ht _ => hq (some _) t rfl ht) hf hd hlk
    · split at h
      · rename_i x hx01
        cases h
        have hrn : ret = some .boolean := by
          unfold rtOk at hrt
          split at hrt <;> simp_all
        exact W.zret hx hb (by rw [hr, hrn]) (by rcases hx01 with rfl | rfl <;> rfl) (fun t ht _ => hq (some _) t rfl ht) hf hd hlk
      · cases h
    · cases h
  · split at h
    · cases h
      have hrn : ret = some .long := by
        unfold rtOk at hrt
        split at hrt <;> simp_all
      exact W.lret hx hb (by rw [hr, hrn]) (fun t ht _ => hq (some _) t rfl ht) hf hd hlk
    · cases h
  · split at h
    · rename_i x
      cases h
      obtain ⟨rty, hrn, hk⟩ : ∃ rty, ret = some rty ∧ ((∃ n, rty = .object n) ∨ ∃ t, rty = .array t) := by
        unfold rtOk at hrt
        split at hrt <;> simp_all
      exact W.aret (v := cv E B (vP x)) hx hb (by rw [hr, hrn]) hk (by cases x with
        | none => exact Or.inl rfl
        | some q => exact Or.inr ⟨_, rfl⟩) (fun t ht _ => hq (some _) t rfl ht) hf hd hlk
    · cases h
  · cases h
set_option maxHeartbeats 4000000 in
/-- EVERY CALL of the small machine is the large one's -/
theorem cal_ok (l : Launch) (B : Nat) (D : va_G) (kc : Nat → ClassId) (E V : Nat → Nat) (X : XS) : ∀ d : Nat, CallOk l B D kc E V X d (cal X d)
  | 0 => fun y as H r H' h => by cases h
  | d + 1 => fun y as H r H' h => by
    refine ⟨cal_mono (d + 1) y as H r H' h, fun q hq hy => ?_⟩
    have hok := okY_all hy
    unfold okY at hok
    unfold cal at h
    rw [hq] at hok
    cases hm : nth MT y with
    | none => rw [hm] at h; cases h
    | some mm =>
      obtain ⟨o, n, rt, code⟩ := mm
      rw [hm] at h hok
      simp only [Bool.and_eq_true, Nat.beq_eq, decide_eq_true_eq] at hok
      obtain ⟨⟨⟨hgd, hn⟩, hrt⟩, hcls⟩ := hok
      obtain ⟨hwd, h⟩ := bif_inv h
      obtain ⟨u1, u2, u3, u4, u5, u6⟩ := yOk_use hq hy
      refine Met.ofW (cc := q.2.1) (maxL := q.2.2.1) (ret := q.2.2.2.1) (ws' := gtb) u5 rfl ?_
      intro p e s m args below meth c s₁ Bd hml hv
      obtain ⟨rfl, hP, hcw, hz⟩ := hv
      have hts : ∀ w ∈ gtb, w.before (as.map (cv E B)).toArray s = true := fun w hw => atoms_spec (ws := wY q) Bd.pre w (List.mem_cons_of_mem _ hw)
      have hown : s.vm.findClass (RN o) = some m.cls := by rw [← hcls]; exact findClass_of_methodNamed Bd.named
      have C : Cx (p, l, e, (headSpec (wY q) (rmD (d + 1) (H'.1.length - H.1.length) (tot H'.1 - tot H.1))).room, s, m, (as.map (cv E B)).toArray, below, meth, c) o n (decide (q.1.name = "<init>")) q.2.1 B H.1.length D kc E V X :=
        ⟨Bd.exec, Bd.bytes, hml.trans hn, hown, hts, Bd.notSynchronized, fun hi => by rw [(name_of_methodNamed Bd.named Bd.method).1]; exact of_decide_eq_true hi, hcw, hz, by show 9 ≤ d + 1 + 9; omega, by show 400 ≤ 100 * (d + 1) + 400; omega⟩
      obtain ⟨-, w⟩ := rcm_ok (T0 := tot H.1) C (cal_ok l B D kc E V X d) ⟨by show d + 10 ≤ d + 1 + 9; omega, by show 100 * d + 500 ≤ 100 * (d + 1) + 400; omega⟩ (HF := H') (r := r) (Nat.le_refl _) (Nat.le_refl _) hgd (fun pc i L S H1 hd1 h1 => ret_ok C hrt Bd.returns hd1 h1) 1000000 0 (iniL 0 as) [] H h
      have hl := lv_entry (as.map (cv E B)) (n := q.2.2.1) (by rw [lg_len, hn]; exact Nat.le_of_ble_eq_true hwd)
      rw [← iniL_args, hn] at hl
      have w2 := w s.heap [] 0 0 _ hP va_S.rf rfl rfl hl
      rw [lg_entry_eq, hn]
      exact w2
end
section
/-! THE CONSTANTS at the law's entry -/
def nar : List Cond := flatC (Jvm.Cond.and given_1 narrow_1)
def SO : List Nat := [18, 27, 36, 46, 54, 62, 70, 78, 86, 94, 102, 108, 116, 122, 129, 136, 142, 150, 158, 165, 173, 183, 190, 199, 207, 216, 224, 232, 238]
def sT (i : Nat) : Term := .string "ItalicsLean$Reader" ((STL.getD i (0, "", 0)).1)
def sV (i : Nat) : Term := .field (sT i) "java/lang/String" "value" "[B"
def sChk (i : Nat) : Bool :=
  decide (nar[SO.getD i 0]? = some (.exactly (sT i) "java/lang/String")) && decide (nar[SO.getD i 0 + 1]? = some (.eq (.field (sT i) "java/lang/String" "coder" "B") (.int 0))) && decide (nar[SO.getD i 0 + 2]? = some (.arrayOf (sV i) .byte)) && decide (nar[SO.getD i 0 + 3]? = some (.eq (.length (sV i)) (.int (Int32.ofNat (texts0.getD i []).length)))) &&
  (List.range (texts0.getD i []).length).all (fun j => decide (nar[SO.getD i 0 + 4 + j]? = some (.eq (.elem (sV i) (.int (Int32.ofNat j))) (.int ((texts0.getD i []).getD j 0)))))
set_option maxRecDepth 20000 in
theorem sChk_all : (List.range 29).all sChk = true := by decide +kernel
set_option maxRecDepth 20000 in
theorem fChk : (decide (nar[10]? = some (.arrayOf (.static "ItalicsLean" "FACTORIAL" "[I") .int)) && decide (nar[11]? = some (.eq (.length (.static "ItalicsLean" "FACTORIAL" "[I")) (.int 6))) && (List.range 6).all (fun j => decide (nar[12 + j]? = some (.eq (.elem (.static "ItalicsLean" "FACTORIAL" "[I") (.int (Int32.ofNat j))) (.int (facN.getD j 0))))) && decide (nar[4]? = some (.eq (.static "java/lang/String" "COMPACT_STRINGS" "Z") (.int 1))) && decide (nar[5]? = some (.isRef (.static "jdk/internal/util/Preconditions" "SIOOBE_FORMATTER" "Ljava/util/function/BiFunction;")))) = true := by decide +kernel
/-- a text constant at the start -/
theorem sOk_of {args : Array Value} {s : State} {A : Nat → Prop} (hn : ∀ c ∈ nar, c.before args s = true) (hA : ∀ a : Nat, a < s.heap.size → ¬ A a) (i : Nat) (hi : i < 29) : ∃ q : Nat × Nat, (sT i).eval args s none [] s = some (.ref q.1) ∧ va_O "java/lang/String" q.1 A s s.heap ∧ va_OF "java/lang/String" "coder" "B" (.int 0) q.1 A s s.heap ∧ va_OF "java/lang/String" "value" "[B" (.ref q.2) q.1 A s s.heap ∧ va_T .byte q.2 (texts0.getD i []).length (fun j => .int ((texts0.getD i []).getD j 0)) A s s.heap := by
  have h := List.all_eq_true.mp sChk_all i (List.mem_range.mpr hi)
  simp only [sChk, Bool.and_eq_true, decide_eq_true_eq, List.all_eq_true, List.mem_range] at h
  obtain ⟨⟨⟨⟨h1, h2⟩, h3⟩, h4⟩, h5⟩ := h
  have g1 := hn _ (List.mem_of_getElem? h1)
  have g2 := hn _ (List.mem_of_getElem? h2)
  have g3 := hn _ (List.mem_of_getElem? h3)
  have g4 := hn _ (List.mem_of_getElem? h4)
  obtain ⟨a, c, cA, kA, q1, q2, q3, q4, q5, q6, -⟩ := Cond.exactly_spec (args := args) (first := s) (o := none) (s := s) (idx := []) (t := sT i) (cls := "java/lang/String") g1
  obtain ⟨t, ht, hT⟩ := va_Tof (f := fun j => .int ((texts0.getD i []).getD j 0)) (A := A) (tx_len i hi) g3 (va_eqt g4) (fun j hj => va_eqt (hn _ (List.mem_of_getElem? (h5 j hj)))) hA
  exact ⟨(a, t), q1, ⟨cA, q3, q5, by rw [q6]; exact q2, hA a (Array.getElem?_eq_some_iff.mp q3).1⟩, vk_OFof q1 (va_eqt g2) hA, vk_OFof q1 ht hA, hT⟩
theorem arrK {args : Array Value} {s : State} {ty : FieldType} (h : (Cond.arrayClass ty).before args s = true) (hp : ∀ C, ty ≠ .object C) : ∃ cA : ClassId, ArrOfT s cA ty ∧ va_RA s cA ty := by
  obtain ⟨cA, kA, comp, h1, h2, h3⟩ := Cond.arrayClass_spec h
  refine ⟨cA, fun n z => ⟨fun k h => (by cases h), kA, h2, comp, h3⟩, ?_⟩
  cases ty with
  | object C => exact absurd rfl (hp C)
  | _ => exact h1
set_option maxRecDepth 20000 in
theorem instN_all : (List.range 12).all (fun c => decide (lw_tbl[([1083, 322, 359, 338, 278, 140, 199, 372, 216, 959, 132, 1226] : List Nat).getD c 0]? = some (.instantiable (RN c) (NN c)))) = true := by decide +kernel
theorem CLS_at {c : Nat} {q : vw_C} (h : CLS[c]? = some q) : c < 12 ∧ q = (RN c, TN c, NN c) := by
  have hl : c < 12 := (List.getElem?_eq_some_iff.mp h).1
  exact ⟨hl, Option.some.inj (h.symm.trans (clsN hl))⟩
set_option maxRecDepth 20000 in
set_option maxHeartbeats 4000000 in
theorem CW_start {s : State} {b L : Nat} {xs : Nat → Int32} (hts : ∀ w ∈ lw_tbl, w.before #[Value.ref b] s = true) (hX : va_X b L xs s s.heap) (hbl : b < s.heap.size) (hgv : (Jvm.Cond.and given_1 narrow_1).before #[Value.ref b] s = true) :
    ∃ (D : va_G) (kc : Nat → ClassId) (E V : Nat → Nat), E 101 = b ∧ CW s.heap.size D kc E V (L, xs) s := by
  have hn : ∀ c ∈ nar, c.before #[Value.ref b] s = true := flat_of_before _ hgv
  have hA : ∀ a : Nat, a < s.heap.size → ¬ (fun q => s.heap.size ≤ q) a := fun a ha => Nat.not_le.mpr ha
  have hkn : ∀ c : Nat, ∃ q : ClassId × (Nat → Nat), c < 12 → u_Kn s (RN c) (TN c) (NN c) q.1 q.2 := by
    intro c
    by_cases hc : c < 12
    · have hi := of_decide_eq_true (List.all_eq_true.mp instN_all c (List.mem_range.mpr hc))
      obtain ⟨cC, iS, h⟩ := u_known (C := RN c) (T := TN c) (N := NN c) (n := NN c) hts (inN0 hc) (hts _ (tbw hi))
      exact ⟨(cC, iS), fun _ => h⟩
    · exact ⟨(0, fun _ => 0), fun h => absurd h hc⟩
  obtain ⟨fD, hD⟩ := Classical.axiomOfChoice hkn
  obtain ⟨k0, a0, b0⟩ := arrK (hts _ (tbw (i := 197) (by decide +kernel) : Cond.arrayClass .int ∈ lw_tbl)) (fun C h => by cases h)
  obtain ⟨k1, a1, b1⟩ := arrK (hts _ (tbw (i := 1353) (by decide +kernel) : Cond.arrayClass .boolean ∈ lw_tbl)) (fun C h => by cases h)
  obtain ⟨k2, a2, b2⟩ := arrK (hts _ (tbw (i := 371) (by decide +kernel) : Cond.arrayClass .long ∈ lw_tbl)) (fun C h => by cases h)
  have hover := hts _ (tbw (i := 276) (by decide +kernel) : Cond.arrayOver (.object "ItalicsLean$Text") ∈ lw_tbl)
  obtain ⟨comp, k3, kA, f1, -, f2, f3, f4⟩ := Cond.arrayOver_spec hover
  have hst : ∀ i : Nat, ∃ q : Nat × Nat, i < 29 → (sT i).eval #[Value.ref b] s none [] s = some (.ref q.1) ∧ va_O "java/lang/String" q.1 (fun q => s.heap.size ≤ q) s s.heap ∧ va_OF "java/lang/String" "coder" "B" (.int 0) q.1 (fun q => s.heap.size ≤ q) s s.heap ∧ va_OF "java/lang/String" "value" "[B" (.ref q.2) q.1 (fun q => s.heap.size ≤ q) s s.heap ∧ va_T .byte q.2 (texts0.getD i []).length (fun j => .int ((texts0.getD i []).getD j 0)) (fun q => s.heap.size ≤ q) s s.heap := by
    intro i
    by_cases hi : i < 29
    · obtain ⟨q, hq⟩ := sOk_of hn hA i hi
      exact ⟨q, fun _ => hq⟩
    · exact ⟨(0, 0), fun h => absurd h hi⟩
  obtain ⟨fS, hS⟩ := Classical.axiomOfChoice hst
  have hf := fChk
  simp only [Bool.and_eq_true, decide_eq_true_eq, List.all_eq_true, List.mem_range] at hf
  obtain ⟨⟨⟨⟨g1, g2⟩, g3⟩, g4⟩, g5⟩ := hf
  obtain ⟨fa, hfa, hfT⟩ := va_Tof (N := 6) (f := fun j => .int (facN.getD j 0)) (A := fun q => s.heap.size ≤ q) (Nat.le_of_ble_eq_true rfl) (hn _ (List.mem_of_getElem? g1)) (va_eqt (hn _ (List.mem_of_getElem? g2))) (fun j hj => va_eqt (hn _ (List.mem_of_getElem? (g3 j hj)))) hA
  refine ⟨(fun c => (fD c).1, fun c => (fD c).2), fun t => match t with
    | 0 => k0
    | 1 => k1
    | 2 => k2
    | _ => k3, fun j => if j = 100 then fa else if j = 101 then b else (fS j).1, fun j => (fS j).2, rfl, ⟨fun c q hq => ?_, fun k q hq => ?_⟩, ?_, hfT, fun i hi => ?_, fun i q hq => ?_, ?_, ?_, ?_, hbl, Nat.le_refl _, fun w hw hnw => ?_, va_AO.of hover⟩
  · obtain ⟨hc, rfl⟩ := CLS_at hq
    exact hD c hc
  · match k, hq with
    | 0, hq => cases hq; exact ⟨a0, b0⟩
    | 1, hq => cases hq; exact ⟨a1, b1⟩
    | 2, hq => cases hq; exact ⟨a2, b2⟩
    | 3, hq => cases hq; exact ⟨fun N z => ⟨(fun k h => by cases h), kA, f2, comp, f3⟩, kA, comp, f2, f3, f1, f4⟩
    | k + 4, hq => simp at hq
  · exact va_Zof (hts _ (tbw (i := 986) (by decide +kernel))) (hts _ (tbw (i := 112) (by decide +kernel))) hfa hA
  · have e : (if i = 100 then fa else if i = 101 then b else (fS i).1) = (fS i).1 := by
      rw [if_neg (by omega), if_neg (by omega)]
    obtain ⟨-, h2, h3, h4, h5⟩ := hS i hi
    exact ⟨by simp only [e]; exact h2, by simp only [e]; exact h3, by simp only [e]; exact h4, h5⟩
  · have hi : i < 29 := (List.getElem?_eq_some_iff.mp hq).1
    have e : (if i = 100 then fa else if i = 101 then b else (fS i).1) = (fS i).1 := by
      rw [if_neg (by omega), if_neg (by omega)]
    have hw := of_decide_eq_true (List.all_eq_true.mp STL_ok q (List.mem_of_getElem? hq))
    have hev := (hS i hi).1
    have e2 : STL.getD i (0, "", 0) = q := by rw [List.getD_eq_getElem?_getD, hq]; rfl
    unfold sT at hev
    rw [e2] at hev
    simp only [e]
    exact vk_R.of (hts _ (tbw hw)) hev
  · exact va_Zof (hts _ (tbw (i := 545) (by decide +kernel))) (hts _ (tbw (i := 123) (by decide +kernel))) (va_eqi (hn _ (List.mem_of_getElem? g4))) hA
  · exact va_Zqof (hts _ (tbw (i := 561) (by decide +kernel))) (hts _ (tbw (i := 125) (by decide +kernel))) (hn _ (List.mem_of_getElem? g5)) hA
  · exact hX
  · have ho : w.onTables = true := by
      cases w <;> first | rfl | exact absurd hnw (by simp [isNest])
    exact va_Nw.of ho (hts w hw)
end
section
/-! THE CLAIM OUT OF ONE WALK OF THE LAW'S BODY. Your part is whole_start (and what it stands on); all else here is the same for every law, but numbers. -/
def R_law : String := "ItalicsLeanLaw"
def lw_P (b : Addr) (xs : List Int32) (args : Array Value) (s : State) : Prop := args = #[.ref b] ∧ s.IntsAt b xs ∧ xs.length ≤ 3072 ∧ (Jvm.Cond.and given_1 narrow_1).before args s = true
def lw_Q (_ : Array Value) (s : State) (o : Outcome) (t : State) : Prop := o = .returned (some (.int 1)) ∧ Framed s o t [] 1200000 5502250
def lw_Z (below : List Frame) (a : Array Value) (s : State) : State → Prop := fun t => ∃ o, t.status = .running ∧ Ended t below o ∧ lw_Q a s o t
/-- the law's own end, with 1 on the stack, nothing written that was there before, its room as the claim has it -/
theorem lw_ret {p : Program} {l : Launch} {e : Env} {s : State} {m : MethodId} {below : List Frame} {meth : Method} {c : Code} {b : Nat} (hx : p.tables.exec = Jvm.exec) (hb : c.code = code) (hr : meth.sig.returnType = ret) (hlocks : meth.locks = false) {pc : Nat} {H : Heap} {ls : Array Slot} (hdg : decode code pc = .ok (.ireturn, 1)) : W p l e room_1 s m #[Value.ref b] below meth c H [] 1200000 5502250 (lw_Z below #[Value.ref b] s) (F0 m pc ls [.int 1]) := by
  intro T hT X
  obtain ⟨fs, hret, hrun, hended, hW, hframe⟩ := X.leave (v := some (.int 1)) (hlocks := hlocks) (fun h => by rw [hr] at h; cases h)
  have hmeth' : T.vm.method? m = some meth := X.method'
  refine ⟨T.setFrames fs, ?_, .returned (some (.int 1)), hrun, hended, rfl, ⟨_, rfl⟩, hW, hframe⟩
  jvm_step X.here [X.here.top, hx, hb, hdg, hmeth', hr, ret, narrow_b1]
  (try refine ⟨rfl, ?_⟩); (try refine ⟨rfl, ?_⟩)
  first | (intro acts; rw [hret _ acts rfl rfl rfl]) | rw [hret _ _ rfl rfl rfl]
  exact Steps.refl _
/-- what holds at the law's entry: the machine, the code, the tables' words (any of lw_tbl by 'hts w (by decide +kernel)'), the script of L ints xs at the cell b, what the Statement gives of the start (any of its parts by flat_of_before) -/
def lw_At (p : Program) (s : State) (m : MethodId) (meth : Method) (c : Code) (b L : Nat) (xs : Nat → Int32) : Prop :=
  p.tables.exec = Jvm.exec ∧ c.code = code ∧ meth.sig.returnType = ret ∧ c.maxLocals = 4 ∧ s.vm.findClass R_law = some m.cls ∧ (∀ w ∈ lw_tbl, w.before #[Value.ref b] s = true) ∧ va_X b L xs s s.heap ∧ b < s.heap.size ∧ meth.locks = false ∧ (Jvm.Cond.and given_1 narrow_1).before #[Value.ref b] s = true
set_option maxRecDepth 4000 in
/-- THE MATHEMATICS: for every script the small machine's law comes to 1 -/
theorem law_run (X : XS) (hL : X.1 ≤ 3072) (h : DT) : ∃ HF : HP, rcm X (cal X 100) 4 4 k_L_law 1000000 0 [(0, vE 101)] [] ([], h) = some (some (vI 1), HF) ∧ HF.1.length ≤ 1200000 ∧ tot HF.1 ≤ 5502250 := sorry
set_option maxRecDepth 20000 in
set_option maxHeartbeats 4000000 in
theorem whole_start {p : Program} {e : Env} {s : State} {m : MethodId} {below : List Frame} {meth : Method} {c : Code} (l : Launch) (hflags : l.flags = flags0) {b L : Nat} {xs : Nat → Int32} (hL : L ≤ 3072) (C0 : lw_At p s m meth c b L xs) : W p l e room_1 s m #[Value.ref b] below meth c s.heap [] 0 0 (lw_Z below #[Value.ref b] s) (entryFrame m ([Value.ref b] : List Value).toArray 4) := by
  obtain ⟨hx, hb, hr, hml, hown, hts, hX, hbl, hlocks, hgv⟩ := id C0
  obtain ⟨D, kc, E, V, hE, hcw⟩ := CW_start hts hX hbl hgv
  obtain ⟨HF, hrun, hc, ht⟩ := law_run (L, xs) hL (fun _ _ => 0, fun _ _ => 0, fun _ _ => 0, fun _ _ => 0)
  have C : Cx (p, l, e, room_1, s, m, #[Value.ref b], below, meth, c) 12 4 false code s.heap.size 0 D kc E V (L, xs) := ⟨hx, hb, hml, hown, fun w hw => hts w (List.mem_filter.mp hw).1, hlocks, (fun h => by cases h), hcw, rfl, Nat.le_of_ble_eq_true rfl, Nat.le_of_ble_eq_true rfl⟩
  obtain ⟨-, w⟩ := rcm_ok (T0 := 0) (Q := lw_Z below #[Value.ref b] s) C (cal_ok l s.heap.size D kc E V (L, xs) 100) ⟨Nat.le_of_ble_eq_true rfl, Nat.le_of_ble_eq_true rfl⟩ (HF := HF) (r := some (vI 1)) hc ht g_law (fun pc i L' S H hd h => by
    have hH : HF = H := opR_eq h
    subst hH
    refine ⟨⟨Nat.le_refl _, Nat.le_refl _⟩, fun Hm locs cells slots ls hP hS hce hsl hl => ?_⟩
    obtain ⟨rfl, rfl⟩ : i = .ireturn ∧ S = [vI 1] := by
      unfold opR at h
      split at h
      · cases h
      · split at h
        · rename_i q1 q2; cases q2
        · split at h
          · cases h; exact ⟨rfl, rfl⟩
          · cases h
        · cases h
      · split at h
        · rename_i q1 q2; cases q2
        · cases h
      · split at h
        · rename_i q1 q2; cases q2
        · cases h
      · cases h
    refine va_forget (fun q hq => hS.2.2 q hq) ?_
    refine W.widen (k := 1200000) (n := 5502250) (Nat.le_trans (by omega) hc) (Nat.le_trans (by omega) ht) ?_
    exact lw_ret hx hb hr hlocks hd) 1000000 0 [(0, vE 101)] [] ([], _) hrun
  have hl := lv_entry ([.ref b]) (n := 4) (Nat.le_of_ble_eq_true rfl)
  rw [lg_entry_eq]
  refine w s.heap [] 0 0 _ (fun k q h => by simp [wsO] at h) va_S.rf rfl rfl ?_
  show lv_has _ 4 [(0, .ref (E 101))]
  rw [hE]
  exact hl
-- ===== YOUR PART ENDS =====
set_option maxHeartbeats 4000000 in
theorem lw_walk (l : Launch) (hflags : l.flags = flags0) (b : Addr) (xs : List Int32) : MetFree l x (headSpec (Jvm.Cond.code x code maxLocals ret :: tables_1) room_1) (lw_P b xs) (fun _ _ _ _ _ => True) lw_Q := by
  refine MetFree.of_bodyS (code := code) (maxLocals := maxLocals) (ret := ret) (by decide) ?_ ?_
  · intro args s m h hn
    obtain ⟨meth, c, h1, h2, h3, h4, h5, h6, -, -⟩ := Cond.code_spec hn (atoms_spec (ws := Jvm.Cond.code x code maxLocals ret :: tables_1) h _ List.mem_cons_self)
    exact ⟨meth, c, h1, h2, h3, h4, h5, h6⟩
  · intro p e s m args below meth c s₁ B hml0 hP _
    obtain ⟨rfl, hx, hbd, hgv⟩ := hP
    obtain ⟨scr, harrAt, hlist, hof, hsmall⟩ := hx
    obtain ⟨hcb, hkn, -, -⟩ := State.arrayAt?_spec harrAt
    have hown : s.vm.findClass R_law = some m.cls := findClass_of_methodNamed B.named
    have hts0 : ∀ c ∈ (Jvm.Cond.code x code maxLocals ret :: tables_1), c.before #[Value.ref b] s = true := atoms_spec (ws := Jvm.Cond.code x code maxLocals ret :: tables_1) B.pre
    have hts : ∀ w ∈ lw_tbl, w.before #[Value.ref b] s = true := k2_hts_sels lw_privs (fun w hw => hts0 w (List.mem_cons_of_mem _ hw)) lw_privs_ok
    have hml : c.maxLocals = 4 := B.maxLocals_eq (hts0 _ List.mem_cons_self)
    have X₀ : Stand p l e room_1 s m #[Value.ref b] below meth c s₁ [] 0 0 := Stand.of_body B
    have hh0 : s₁.heap = s.heap := by rw [B.state]; rfl
    have hsz : scr.slots.size = xs.length := by rw [← Array.length_toList, hlist, List.length_map]
    have hval : ∀ j : Nat, j < xs.length → scr.slots[j]? = some (.int (xs.getD j 0)) := fun j hj => by
      rw [← Array.getElem?_toList, hlist]
      simp [hj]
    have hbl : b < s.heap.size := (Array.getElem?_eq_some_iff.mp hcb).1
    have hX : va_X b xs.length (fun j => xs.getD j 0) s s.heap := ⟨scr, hcb, hof, hkn, hsz, hval⟩
    have K : W p l e room_1 s m #[Value.ref b] below meth c s₁.heap [] 0 0 (lw_Z below #[Value.ref b] s) (entryFrame m ([Value.ref b] : List Value).toArray 4) := by
      rw [hh0]
      exact whole_start l hflags hbd ⟨B.exec, B.bytes, B.returns, hml, hown, hts, hX, hbl, B.notSynchronized, hgv⟩
    obtain ⟨t, a1, o, b1, b2, b3⟩ := K s₁ rfl X₀
    exact ⟨t, o, a1, b1, b2, b3⟩
theorem lw_pre_spec {args : Array Value} {s : State} (h : (Jvm.Cond.and given_1 narrow_1).before args s = true) (hr : rest_1_c.before args s = true) : ∃ (b : Addr) (xs : List Int32), lw_P b xs args s := by
  have hs := flat_of_before _ h
  have hq := flat_of_before _ hr
  have hc : (Cond.count 1).before args s = true := hs _ (by decide +kernel)
  have harr : (Cond.arrayOf (.arg 0) .int).before args s = true := hs _ (by decide +kernel)
  have hle : (Cond.le (.length (.arg 0)) (.int 3072)).before args s = true := hs _ (by decide +kernel)
  have hlen : (Cond.isInt (.length (.arg 0))).before args s = true := hq _ (by decide +kernel)
  have hall : (Cond.all (.arg 0) (.isInt (.elem (.arg 0) (.index 0)))).before args s = true := hq _ (by decide +kernel)
  obtain ⟨b, xs, hb, hx⟩ := State.ints_of_pre rfl harr hlen hall
  have hsm : xs.length < 2 ^ 31 := hx.choose_spec.2.2.2
  have hev : (Term.length (.arg 0)).eval args s none [] s = some (.int xs.length.toInt32) := hx.length_eval hb
  have hv := Cond.le_ints hev (show (Term.int 3072).eval args s none [] s = some (.int 3072) from rfl)
  have hd : xs.length.toInt32 ≤ 3072 := by
    simpa [Cond.before, Cond.holds, hv] using hle
  have hN : xs.length ≤ 3072 := (Int32.ofNat_le_ofNat hsm (by decide)).mp (show Int32.ofNat xs.length ≤ Int32.ofNat 3072 from hd)
  exact ⟨b, xs, Cond.one_arg hc (show args[0]? = some (.ref b) from hb), hx, hN, h⟩
theorem lw_comes (l : Launch) (hflags : l.flags = flags0) : Comes l x (Jvm.Cond.code x code maxLocals ret :: tables_1) room_1 (fun tb e args s => Calls_1 tb e args s ∧ rest_1 tb e args s ∧ Pre_1 tb e args s)
    (fun _ _ args s o t => lw_Q args s o t) := by
  intro p e ha hc hk s m args below hf hfit hheap happ hpre
  obtain ⟨b, xs, hP⟩ := lw_pre_spec hpre.2.2 hpre.2.1
  obtain ⟨k, o, h1, h2, h3, hQ⟩ := lw_walk l hflags b xs p e ha hc hk s m args below hf ((Spec.applies_iff_loose hf).mp happ).1 hP trivial
  exact ⟨k, o, h1, h2, h3, hQ⟩
theorem lw_frame {s t : State} {o : Outcome} {args : Array Value} (h : Framed s o t [] 1200000 5502250) :
    Framed s o t (fieldLocs frame_1_writes args s ++ arrayLocs frame_1_arrays args s ++ staticLocs frame_1_statics s) 1200000 5502250 := h
theorem lw_limb (L : Cond) (hL : ∀ (args : Array Value) (s t : State), L.after args s (.returned (some (.int 1))) t = true) :
    ArmFor flags0 classFile x code maxLocals ret World_1 tables_1 room_1 Calls_1 rest_1 Pre_1
      (fun tb e a s o t => postC L tb e a s o t ∧ Framed s o t (fieldLocs frame_1_writes a s ++ arrayLocs frame_1_arrays a s ++ staticLocs frame_1_statics s) 1200000 5502250) := by
  intro l hflags _ _ p e ha hc hk s m args below hf hfit hheap happ hpre
  obtain ⟨k, o, h1, h2, h3, rfl, hF⟩ := lw_comes l hflags p e ha hc hk s m args below hf hfit hheap happ hpre
  exact ⟨k, _, h1, h2, h3, hL args s _, lw_frame hF⟩
theorem i_vc : Claimed_1_1 ∧ Claimed_1_2 := ⟨lw_limb limb_1_1 (fun args s t => by simp [limb_1_1, Cond.after, Cond.holds, Cond.value]), lw_limb limb_1_2 (fun args s t => Cond.after_iff.mpr (by
  first | (rw [show limb_1_2 = Cond.eq .result (.int 1) from rfl, Cond.eq_ints (x := 1) (y := 1) rfl rfl]; simp; done) | (simp [limb_1_2, Cond.value, Term.eval]; done)))⟩
end
