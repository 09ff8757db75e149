-- ===== PART A: goes FIRST, ahead of the names: the tables' words, and 'selects' of the private methods out of them =====
/-- a private method of a class that the tables say can be made, by its rows of tables_1 -/
def lw_okq (q : MethodName × Nat) : Prop := (q.1.cls ≠ "java/lang/invoke/MethodHandle" ∧ q.1.cls ≠ "java/lang/invoke/VarHandle") ∧ Cond.instantiable q.1.cls q.2 ∈ tables_1 ∧ Cond.privateMethod q.1 ∈ tables_1 ∧ Cond.instanceMethod q.1 ∈ tables_1
theorem lw_p0 : lw_okq (⟨"MetreDesk", "putBytes", "(I)V"⟩, 16) := ⟨⟨by decide +kernel, by decide +kernel⟩, List.mem_of_getElem? (i := 19) (by decide +kernel), List.mem_of_getElem? (i := 418) (by decide +kernel), List.mem_of_getElem? (i := 419) (by decide +kernel)⟩
theorem lw_p1 : lw_okq (⟨"MetreDesk", "takeTape", "()I"⟩, 16) := ⟨⟨by decide +kernel, by decide +kernel⟩, List.mem_of_getElem? (i := 19) (by decide +kernel), List.mem_of_getElem? (i := 446) (by decide +kernel), List.mem_of_getElem? (i := 447) (by decide +kernel)⟩
theorem lw_p2 : lw_okq (⟨"MetreDesk$Book", "readTold", "([II)Z"⟩, 4) := ⟨⟨by decide +kernel, by decide +kernel⟩, List.mem_of_getElem? (i := 48) (by decide +kernel), List.mem_of_getElem? (i := 454) (by decide +kernel), List.mem_of_getElem? (i := 455) (by decide +kernel)⟩
theorem lw_p3 : lw_okq (⟨"MetreDesk$Language", "pairAt", "([III)I"⟩, 4) := ⟨⟨by decide +kernel, by decide +kernel⟩, List.mem_of_getElem? (i := 27) (by decide +kernel), List.mem_of_getElem? (i := 476) (by decide +kernel), List.mem_of_getElem? (i := 477) (by decide +kernel)⟩
theorem lw_p4 : lw_okq (⟨"MetreDesk$Book", "placeFor", "([III)I"⟩, 4) := ⟨⟨by decide +kernel, by decide +kernel⟩, List.mem_of_getElem? (i := 48) (by decide +kernel), List.mem_of_getElem? (i := 513) (by decide +kernel), List.mem_of_getElem? (i := 514) (by decide +kernel)⟩
theorem lw_p5 : lw_okq (⟨"MetreDesk$Book", "isAt", "(I[III)Z"⟩, 4) := ⟨⟨by decide +kernel, by decide +kernel⟩, List.mem_of_getElem? (i := 48) (by decide +kernel), List.mem_of_getElem? (i := 525) (by decide +kernel), List.mem_of_getElem? (i := 526) (by decide +kernel)⟩
theorem lw_p6 : lw_okq (⟨"MetreDesk$Foot", "buildFree", "(II)V"⟩, 7) := ⟨⟨by decide +kernel, by decide +kernel⟩, List.mem_of_getElem? (i := 550) (by decide +kernel), List.mem_of_getElem? (i := 557) (by decide +kernel), List.mem_of_getElem? (i := 558) (by decide +kernel)⟩
theorem lw_p7 : lw_okq (⟨"MetreDesk$Foot", "addChoice", "(III)V"⟩, 7) := ⟨⟨by decide +kernel, by decide +kernel⟩, List.mem_of_getElem? (i := 550) (by decide +kernel), List.mem_of_getElem? (i := 561) (by decide +kernel), List.mem_of_getElem? (i := 562) (by decide +kernel)⟩
theorem lw_p8 : lw_okq (⟨"MetreDesk$Foot", "buildPlaces", "(II)V"⟩, 7) := ⟨⟨by decide +kernel, by decide +kernel⟩, List.mem_of_getElem? (i := 550) (by decide +kernel), List.mem_of_getElem? (i := 568) (by decide +kernel), List.mem_of_getElem? (i := 569) (by decide +kernel)⟩
theorem lw_p9 : lw_okq (⟨"MetreDesk$LineReader", "addWord", "([III)I"⟩, 5) := ⟨⟨by decide +kernel, by decide +kernel⟩, List.mem_of_getElem? (i := 111) (by decide +kernel), List.mem_of_getElem? (i := 629) (by decide +kernel), List.mem_of_getElem? (i := 630) (by decide +kernel)⟩
theorem lw_p10 : lw_okq (⟨"MetreDesk$LineReader", "addEntry", "(ILMetreDesk$Syllables;)Z"⟩, 5) := ⟨⟨by decide +kernel, by decide +kernel⟩, List.mem_of_getElem? (i := 111) (by decide +kernel), List.mem_of_getElem? (i := 642) (by decide +kernel), List.mem_of_getElem? (i := 643) (by decide +kernel)⟩
theorem lw_p11 : lw_okq (⟨"MetreDesk$LineReader", "addByRules", "(I[III)Z"⟩, 5) := ⟨⟨by decide +kernel, by decide +kernel⟩, List.mem_of_getElem? (i := 111) (by decide +kernel), List.mem_of_getElem? (i := 655) (by decide +kernel), List.mem_of_getElem? (i := 656) (by decide +kernel)⟩
theorem lw_p12 : lw_okq (⟨"MetreDesk$LineReader", "addRuled", "(I[IIIZ)Z"⟩, 5) := ⟨⟨by decide +kernel, by decide +kernel⟩, List.mem_of_getElem? (i := 111) (by decide +kernel), List.mem_of_getElem? (i := 660) (by decide +kernel), List.mem_of_getElem? (i := 661) (by decide +kernel)⟩
theorem lw_p13 : lw_okq (⟨"MetreDesk$LineReader", "setFault", "(II)V"⟩, 5) := ⟨⟨by decide +kernel, by decide +kernel⟩, List.mem_of_getElem? (i := 111) (by decide +kernel), List.mem_of_getElem? (i := 667) (by decide +kernel), List.mem_of_getElem? (i := 668) (by decide +kernel)⟩
theorem lw_p14 : lw_okq (⟨"MetreDesk", "cannotScan", "(I)Z"⟩, 16) := ⟨⟨by decide +kernel, by decide +kernel⟩, List.mem_of_getElem? (i := 19) (by decide +kernel), List.mem_of_getElem? (i := 722) (by decide +kernel), List.mem_of_getElem? (i := 723) (by decide +kernel)⟩
theorem lw_p15 : lw_okq (⟨"MetreDesk$Scanner", "fill", "(LMetreDesk$Syllables;IZ)Z"⟩, 12) := ⟨⟨by decide +kernel, by decide +kernel⟩, List.mem_of_getElem? (i := 162) (by decide +kernel), List.mem_of_getElem? (i := 734) (by decide +kernel), List.mem_of_getElem? (i := 735) (by decide +kernel)⟩
def lw_privs_1 : List (MethodName × Nat) := [(⟨"MetreDesk", "putBytes", "(I)V"⟩, 16), (⟨"MetreDesk", "takeTape", "()I"⟩, 16), (⟨"MetreDesk$Book", "readTold", "([II)Z"⟩, 4), (⟨"MetreDesk$Language", "pairAt", "([III)I"⟩, 4), (⟨"MetreDesk$Book", "placeFor", "([III)I"⟩, 4), (⟨"MetreDesk$Book", "isAt", "(I[III)Z"⟩, 4), (⟨"MetreDesk$Foot", "buildFree", "(II)V"⟩, 7), (⟨"MetreDesk$Foot", "addChoice", "(III)V"⟩, 7), (⟨"MetreDesk$Foot", "buildPlaces", "(II)V"⟩, 7), (⟨"MetreDesk$LineReader", "addWord", "([III)I"⟩, 5), (⟨"MetreDesk$LineReader", "addEntry", "(ILMetreDesk$Syllables;)Z"⟩, 5), (⟨"MetreDesk$LineReader", "addByRules", "(I[III)Z"⟩, 5), (⟨"MetreDesk$LineReader", "addRuled", "(I[IIIZ)Z"⟩, 5), (⟨"MetreDesk$LineReader", "setFault", "(II)V"⟩, 5), (⟨"MetreDesk", "cannotScan", "(I)Z"⟩, 16), (⟨"MetreDesk$Scanner", "fill", "(LMetreDesk$Syllables;IZ)Z"⟩, 12)]
theorem lw_r1 : ∀ q ∈ lw_privs_1, lw_okq q := List.forall_mem_cons.mpr ⟨lw_p0, List.forall_mem_cons.mpr ⟨lw_p1, List.forall_mem_cons.mpr ⟨lw_p2, List.forall_mem_cons.mpr ⟨lw_p3, List.forall_mem_cons.mpr ⟨lw_p4, List.forall_mem_cons.mpr ⟨lw_p5, List.forall_mem_cons.mpr ⟨lw_p6, List.forall_mem_cons.mpr ⟨lw_p7, List.forall_mem_cons.mpr ⟨lw_p8, List.forall_mem_cons.mpr ⟨lw_p9, List.forall_mem_cons.mpr ⟨lw_p10, List.forall_mem_cons.mpr ⟨lw_p11, List.forall_mem_cons.mpr ⟨lw_p12, List.forall_mem_cons.mpr ⟨lw_p13, List.forall_mem_cons.mpr ⟨lw_p14, List.forall_mem_cons.mpr ⟨lw_p15, fun _ h => absurd h List.not_mem_nil⟩⟩⟩⟩⟩⟩⟩⟩⟩⟩⟩⟩⟩⟩⟩⟩
theorem lw_p16 : lw_okq (⟨"MetreDesk$Scanner", "priceSyllables", "()V"⟩, 12) := ⟨⟨by decide +kernel, by decide +kernel⟩, List.mem_of_getElem? (i := 162) (by decide +kernel), List.mem_of_getElem? (i := 740) (by decide +kernel), List.mem_of_getElem? (i := 741) (by decide +kernel)⟩
theorem lw_p17 : lw_okq (⟨"MetreDesk$Syllables", "meetsVowels", "(I)Z"⟩, 7) := ⟨⟨by decide +kernel, by decide +kernel⟩, List.mem_of_getElem? (i := 55) (by decide +kernel), List.mem_of_getElem? (i := 752) (by decide +kernel), List.mem_of_getElem? (i := 753) (by decide +kernel)⟩
theorem lw_p18 : lw_okq (⟨"MetreDesk$Scanner", "numberFeet", "()V"⟩, 12) := ⟨⟨by decide +kernel, by decide +kernel⟩, List.mem_of_getElem? (i := 162) (by decide +kernel), List.mem_of_getElem? (i := 764) (by decide +kernel), List.mem_of_getElem? (i := 765) (by decide +kernel)⟩
theorem lw_p19 : lw_okq (⟨"MetreDesk$Scanner", "fillFoot", "(LMetreDesk$Foot;II)V"⟩, 12) := ⟨⟨by decide +kernel, by decide +kernel⟩, List.mem_of_getElem? (i := 162) (by decide +kernel), List.mem_of_getElem? (i := 793) (by decide +kernel), List.mem_of_getElem? (i := 794) (by decide +kernel)⟩
theorem lw_p20 : lw_okq (⟨"MetreDesk$Scanner", "stateValue", "(LMetreDesk$Foot;IIII)I"⟩, 12) := ⟨⟨by decide +kernel, by decide +kernel⟩, List.mem_of_getElem? (i := 162) (by decide +kernel), List.mem_of_getElem? (i := 797) (by decide +kernel), List.mem_of_getElem? (i := 798) (by decide +kernel)⟩
theorem lw_p21 : lw_okq (⟨"MetreDesk$Scanner", "cell", "(II)I"⟩, 12) := ⟨⟨by decide +kernel, by decide +kernel⟩, List.mem_of_getElem? (i := 162) (by decide +kernel), List.mem_of_getElem? (i := 801) (by decide +kernel), List.mem_of_getElem? (i := 802) (by decide +kernel)⟩
theorem lw_p22 : lw_okq (⟨"MetreDesk$Scanner", "join", "(III)I"⟩, 12) := ⟨⟨by decide +kernel, by decide +kernel⟩, List.mem_of_getElem? (i := 162) (by decide +kernel), List.mem_of_getElem? (i := 805) (by decide +kernel), List.mem_of_getElem? (i := 806) (by decide +kernel)⟩
theorem lw_p23 : lw_okq (⟨"MetreDesk$Scanner", "addChoices", "(ILMetreDesk$Foot;III)I"⟩, 12) := ⟨⟨by decide +kernel, by decide +kernel⟩, List.mem_of_getElem? (i := 162) (by decide +kernel), List.mem_of_getElem? (i := 816) (by decide +kernel), List.mem_of_getElem? (i := 817) (by decide +kernel)⟩
theorem lw_p24 : lw_okq (⟨"MetreDesk$Scanner", "finish", "(I)I"⟩, 12) := ⟨⟨by decide +kernel, by decide +kernel⟩, List.mem_of_getElem? (i := 162) (by decide +kernel), List.mem_of_getElem? (i := 840) (by decide +kernel), List.mem_of_getElem? (i := 841) (by decide +kernel)⟩
theorem lw_p25 : lw_okq (⟨"MetreDesk$Walker", "listPosition", "(I)V"⟩, 11) := ⟨⟨by decide +kernel, by decide +kernel⟩, List.mem_of_getElem? (i := 205) (by decide +kernel), List.mem_of_getElem? (i := 882) (by decide +kernel), List.mem_of_getElem? (i := 883) (by decide +kernel)⟩
theorem lw_p26 : lw_okq (⟨"MetreDesk$Walker", "listChoices", "(LMetreDesk$Foot;III)V"⟩, 11) := ⟨⟨by decide +kernel, by decide +kernel⟩, List.mem_of_getElem? (i := 205) (by decide +kernel), List.mem_of_getElem? (i := 887) (by decide +kernel), List.mem_of_getElem? (i := 888) (by decide +kernel)⟩
theorem lw_p27 : lw_okq (⟨"MetreDesk$Walker", "stepOf", "(I)I"⟩, 11) := ⟨⟨by decide +kernel, by decide +kernel⟩, List.mem_of_getElem? (i := 205) (by decide +kernel), List.mem_of_getElem? (i := 893) (by decide +kernel), List.mem_of_getElem? (i := 894) (by decide +kernel)⟩
theorem lw_p28 : lw_okq (⟨"MetreDesk$Walker", "addMove", "(IIII)V"⟩, 11) := ⟨⟨by decide +kernel, by decide +kernel⟩, List.mem_of_getElem? (i := 205) (by decide +kernel), List.mem_of_getElem? (i := 901) (by decide +kernel), List.mem_of_getElem? (i := 902) (by decide +kernel)⟩
theorem lw_p29 : lw_okq (⟨"MetreDesk$Walker", "valueOf", "(I)I"⟩, 11) := ⟨⟨by decide +kernel, by decide +kernel⟩, List.mem_of_getElem? (i := 205) (by decide +kernel), List.mem_of_getElem? (i := 919) (by decide +kernel), List.mem_of_getElem? (i := 920) (by decide +kernel)⟩
theorem lw_p30 : lw_okq (⟨"MetreDesk$Walker", "take", "(I)I"⟩, 11) := ⟨⟨by decide +kernel, by decide +kernel⟩, List.mem_of_getElem? (i := 205) (by decide +kernel), List.mem_of_getElem? (i := 927) (by decide +kernel), List.mem_of_getElem? (i := 928) (by decide +kernel)⟩
theorem lw_p31 : lw_okq (⟨"MetreDesk$Readings", "priceOfSteps", "(II)I"⟩, 8) := ⟨⟨by decide +kernel, by decide +kernel⟩, List.mem_of_getElem? (i := 245) (by decide +kernel), List.mem_of_getElem? (i := 931) (by decide +kernel), List.mem_of_getElem? (i := 932) (by decide +kernel)⟩
def lw_privs_2 : List (MethodName × Nat) := [(⟨"MetreDesk$Scanner", "priceSyllables", "()V"⟩, 12), (⟨"MetreDesk$Syllables", "meetsVowels", "(I)Z"⟩, 7), (⟨"MetreDesk$Scanner", "numberFeet", "()V"⟩, 12), (⟨"MetreDesk$Scanner", "fillFoot", "(LMetreDesk$Foot;II)V"⟩, 12), (⟨"MetreDesk$Scanner", "stateValue", "(LMetreDesk$Foot;IIII)I"⟩, 12), (⟨"MetreDesk$Scanner", "cell", "(II)I"⟩, 12), (⟨"MetreDesk$Scanner", "join", "(III)I"⟩, 12), (⟨"MetreDesk$Scanner", "addChoices", "(ILMetreDesk$Foot;III)I"⟩, 12), (⟨"MetreDesk$Scanner", "finish", "(I)I"⟩, 12), (⟨"MetreDesk$Walker", "listPosition", "(I)V"⟩, 11), (⟨"MetreDesk$Walker", "listChoices", "(LMetreDesk$Foot;III)V"⟩, 11), (⟨"MetreDesk$Walker", "stepOf", "(I)I"⟩, 11), (⟨"MetreDesk$Walker", "addMove", "(IIII)V"⟩, 11), (⟨"MetreDesk$Walker", "valueOf", "(I)I"⟩, 11), (⟨"MetreDesk$Walker", "take", "(I)I"⟩, 11), (⟨"MetreDesk$Readings", "priceOfSteps", "(II)I"⟩, 8)]
theorem lw_r2 : ∀ q ∈ lw_privs_2, lw_okq q := List.forall_mem_cons.mpr ⟨lw_p16, List.forall_mem_cons.mpr ⟨lw_p17, List.forall_mem_cons.mpr ⟨lw_p18, List.forall_mem_cons.mpr ⟨lw_p19, List.forall_mem_cons.mpr ⟨lw_p20, List.forall_mem_cons.mpr ⟨lw_p21, List.forall_mem_cons.mpr ⟨lw_p22, List.forall_mem_cons.mpr ⟨lw_p23, List.forall_mem_cons.mpr ⟨lw_p24, List.forall_mem_cons.mpr ⟨lw_p25, List.forall_mem_cons.mpr ⟨lw_p26, List.forall_mem_cons.mpr ⟨lw_p27, List.forall_mem_cons.mpr ⟨lw_p28, List.forall_mem_cons.mpr ⟨lw_p29, List.forall_mem_cons.mpr ⟨lw_p30, List.forall_mem_cons.mpr ⟨lw_p31, fun _ h => absurd h List.not_mem_nil⟩⟩⟩⟩⟩⟩⟩⟩⟩⟩⟩⟩⟩⟩⟩⟩
theorem lw_p32 : lw_okq (⟨"MetreDesk$Readings", "putInOrder", "(I)V"⟩, 8) := ⟨⟨by decide +kernel, by decide +kernel⟩, List.mem_of_getElem? (i := 245) (by decide +kernel), List.mem_of_getElem? (i := 942) (by decide +kernel), List.mem_of_getElem? (i := 943) (by decide +kernel)⟩
theorem lw_p33 : lw_okq (⟨"MetreDesk$Readings", "isAhead", "(II)Z"⟩, 8) := ⟨⟨by decide +kernel, by decide +kernel⟩, List.mem_of_getElem? (i := 245) (by decide +kernel), List.mem_of_getElem? (i := 946) (by decide +kernel), List.mem_of_getElem? (i := 947) (by decide +kernel)⟩
theorem lw_p34 : lw_okq (⟨"MetreDesk$Near", "fillGate", "(I)V"⟩, 5) := ⟨⟨by decide +kernel, by decide +kernel⟩, List.mem_of_getElem? (i := 276) (by decide +kernel), List.mem_of_getElem? (i := 984) (by decide +kernel), List.mem_of_getElem? (i := 985) (by decide +kernel)⟩
theorem lw_p35 : lw_okq (⟨"MetreDesk$Near", "fillFoot", "(LMetreDesk$Foot;I)V"⟩, 5) := ⟨⟨by decide +kernel, by decide +kernel⟩, List.mem_of_getElem? (i := 276) (by decide +kernel), List.mem_of_getElem? (i := 990) (by decide +kernel), List.mem_of_getElem? (i := 991) (by decide +kernel)⟩
theorem lw_p36 : lw_okq (⟨"MetreDesk$Near", "stateValue", "(LMetreDesk$Foot;IIZI)I"⟩, 5) := ⟨⟨by decide +kernel, by decide +kernel⟩, List.mem_of_getElem? (i := 276) (by decide +kernel), List.mem_of_getElem? (i := 995) (by decide +kernel), List.mem_of_getElem? (i := 996) (by decide +kernel)⟩
theorem lw_p37 : lw_okq (⟨"MetreDesk$Near", "cell", "(IZI)I"⟩, 5) := ⟨⟨by decide +kernel, by decide +kernel⟩, List.mem_of_getElem? (i := 276) (by decide +kernel), List.mem_of_getElem? (i := 999) (by decide +kernel), List.mem_of_getElem? (i := 1000) (by decide +kernel)⟩
theorem lw_p38 : lw_okq (⟨"MetreDesk$Near", "leastChoice", "(LMetreDesk$Foot;II)I"⟩, 5) := ⟨⟨by decide +kernel, by decide +kernel⟩, List.mem_of_getElem? (i := 276) (by decide +kernel), List.mem_of_getElem? (i := 1004) (by decide +kernel), List.mem_of_getElem? (i := 1005) (by decide +kernel)⟩
theorem lw_p39 : lw_okq (⟨"MetreDesk$Near", "setCell", "(IZII)V"⟩, 5) := ⟨⟨by decide +kernel, by decide +kernel⟩, List.mem_of_getElem? (i := 276) (by decide +kernel), List.mem_of_getElem? (i := 1014) (by decide +kernel), List.mem_of_getElem? (i := 1015) (by decide +kernel)⟩
theorem lw_p40 : lw_okq (⟨"MetreDesk$Poem", "lineAt", "(I)LMetreDesk$Syllables;"⟩, 19) := ⟨⟨by decide +kernel, by decide +kernel⟩, List.mem_of_getElem? (i := 298) (by decide +kernel), List.mem_of_getElem? (i := 1059) (by decide +kernel), List.mem_of_getElem? (i := 1060) (by decide +kernel)⟩
theorem lw_p41 : lw_okq (⟨"MetreDesk$Syllables", "vowelFrom", "(I)I"⟩, 7) := ⟨⟨by decide +kernel, by decide +kernel⟩, List.mem_of_getElem? (i := 55) (by decide +kernel), List.mem_of_getElem? (i := 1071) (by decide +kernel), List.mem_of_getElem? (i := 1072) (by decide +kernel)⟩
theorem lw_p42 : lw_okq (⟨"MetreDesk$Syllables", "seenLength", "()I"⟩, 7) := ⟨⟨by decide +kernel, by decide +kernel⟩, List.mem_of_getElem? (i := 55) (by decide +kernel), List.mem_of_getElem? (i := 1079) (by decide +kernel), List.mem_of_getElem? (i := 1080) (by decide +kernel)⟩
theorem lw_p43 : lw_okq (⟨"MetreDesk$Poem", "firstOfRhyme", "(I)I"⟩, 19) := ⟨⟨by decide +kernel, by decide +kernel⟩, List.mem_of_getElem? (i := 298) (by decide +kernel), List.mem_of_getElem? (i := 1092) (by decide +kernel), List.mem_of_getElem? (i := 1093) (by decide +kernel)⟩
theorem lw_p44 : lw_okq (⟨"MetreDesk$Poem", "mayLieOn", "(II)Z"⟩, 19) := ⟨⟨by decide +kernel, by decide +kernel⟩, List.mem_of_getElem? (i := 298) (by decide +kernel), List.mem_of_getElem? (i := 1119) (by decide +kernel), List.mem_of_getElem? (i := 1120) (by decide +kernel)⟩
theorem lw_p45 : lw_okq (⟨"MetreDesk$Poem", "layWithout", "(I)V"⟩, 19) := ⟨⟨by decide +kernel, by decide +kernel⟩, List.mem_of_getElem? (i := 298) (by decide +kernel), List.mem_of_getElem? (i := 1124) (by decide +kernel), List.mem_of_getElem? (i := 1125) (by decide +kernel)⟩
theorem lw_p46 : lw_okq (⟨"MetreDesk$Poem", "nextLine", "(I)I"⟩, 19) := ⟨⟨by decide +kernel, by decide +kernel⟩, List.mem_of_getElem? (i := 298) (by decide +kernel), List.mem_of_getElem? (i := 1128) (by decide +kernel), List.mem_of_getElem? (i := 1129) (by decide +kernel)⟩
theorem lw_p47 : lw_okq (⟨"MetreDesk$Poem", "weighLine", "(II)V"⟩, 19) := ⟨⟨by decide +kernel, by decide +kernel⟩, List.mem_of_getElem? (i := 298) (by decide +kernel), List.mem_of_getElem? (i := 1132) (by decide +kernel), List.mem_of_getElem? (i := 1133) (by decide +kernel)⟩
def lw_privs_3 : List (MethodName × Nat) := [(⟨"MetreDesk$Readings", "putInOrder", "(I)V"⟩, 8), (⟨"MetreDesk$Readings", "isAhead", "(II)Z"⟩, 8), (⟨"MetreDesk$Near", "fillGate", "(I)V"⟩, 5), (⟨"MetreDesk$Near", "fillFoot", "(LMetreDesk$Foot;I)V"⟩, 5), (⟨"MetreDesk$Near", "stateValue", "(LMetreDesk$Foot;IIZI)I"⟩, 5), (⟨"MetreDesk$Near", "cell", "(IZI)I"⟩, 5), (⟨"MetreDesk$Near", "leastChoice", "(LMetreDesk$Foot;II)I"⟩, 5), (⟨"MetreDesk$Near", "setCell", "(IZII)V"⟩, 5), (⟨"MetreDesk$Poem", "lineAt", "(I)LMetreDesk$Syllables;"⟩, 19), (⟨"MetreDesk$Syllables", "vowelFrom", "(I)I"⟩, 7), (⟨"MetreDesk$Syllables", "seenLength", "()I"⟩, 7), (⟨"MetreDesk$Poem", "firstOfRhyme", "(I)I"⟩, 19), (⟨"MetreDesk$Poem", "mayLieOn", "(II)Z"⟩, 19), (⟨"MetreDesk$Poem", "layWithout", "(I)V"⟩, 19), (⟨"MetreDesk$Poem", "nextLine", "(I)I"⟩, 19), (⟨"MetreDesk$Poem", "weighLine", "(II)V"⟩, 19)]
theorem lw_r3 : ∀ q ∈ lw_privs_3, lw_okq q := List.forall_mem_cons.mpr ⟨lw_p32, List.forall_mem_cons.mpr ⟨lw_p33, List.forall_mem_cons.mpr ⟨lw_p34, List.forall_mem_cons.mpr ⟨lw_p35, List.forall_mem_cons.mpr ⟨lw_p36, List.forall_mem_cons.mpr ⟨lw_p37, List.forall_mem_cons.mpr ⟨lw_p38, List.forall_mem_cons.mpr ⟨lw_p39, List.forall_mem_cons.mpr ⟨lw_p40, List.forall_mem_cons.mpr ⟨lw_p41, List.forall_mem_cons.mpr ⟨lw_p42, List.forall_mem_cons.mpr ⟨lw_p43, List.forall_mem_cons.mpr ⟨lw_p44, List.forall_mem_cons.mpr ⟨lw_p45, List.forall_mem_cons.mpr ⟨lw_p46, List.forall_mem_cons.mpr ⟨lw_p47, fun _ h => absurd h List.not_mem_nil⟩⟩⟩⟩⟩⟩⟩⟩⟩⟩⟩⟩⟩⟩⟩⟩
theorem lw_p48 : lw_okq (⟨"MetreDesk$Syllables", "lettersThrough", "(I)I"⟩, 7) := ⟨⟨by decide +kernel, by decide +kernel⟩, List.mem_of_getElem? (i := 55) (by decide +kernel), List.mem_of_getElem? (i := 1143) (by decide +kernel), List.mem_of_getElem? (i := 1144) (by decide +kernel)⟩
theorem lw_p49 : lw_okq (⟨"MetreDesk$Poem", "countUses", "([I)I"⟩, 19) := ⟨⟨by decide +kernel, by decide +kernel⟩, List.mem_of_getElem? (i := 298) (by decide +kernel), List.mem_of_getElem? (i := 1190) (by decide +kernel), List.mem_of_getElem? (i := 1191) (by decide +kernel)⟩
theorem lw_p50 : lw_okq (⟨"MetreDeskModel", "pairOf", "(II)I"⟩, 87) := ⟨⟨by decide +kernel, by decide +kernel⟩, List.mem_of_getElem? (i := 1228) (by decide +kernel), List.mem_of_getElem? (i := 1523) (by decide +kernel), List.mem_of_getElem? (i := 1524) (by decide +kernel)⟩
theorem lw_p51 : lw_okq (⟨"MetreDeskModel", "readWord", "(I)I"⟩, 87) := ⟨⟨by decide +kernel, by decide +kernel⟩, List.mem_of_getElem? (i := 1228) (by decide +kernel), List.mem_of_getElem? (i := 1531) (by decide +kernel), List.mem_of_getElem? (i := 1532) (by decide +kernel)⟩
theorem lw_p52 : lw_okq (⟨"MetreDeskModel", "cutSounds", "([BII)V"⟩, 87) := ⟨⟨by decide +kernel, by decide +kernel⟩, List.mem_of_getElem? (i := 1228) (by decide +kernel), List.mem_of_getElem? (i := 1538) (by decide +kernel), List.mem_of_getElem? (i := 1539) (by decide +kernel)⟩
theorem lw_p53 : lw_okq (⟨"MetreDeskModel", "find", "([BII)I"⟩, 87) := ⟨⟨by decide +kernel, by decide +kernel⟩, List.mem_of_getElem? (i := 1228) (by decide +kernel), List.mem_of_getElem? (i := 1542) (by decide +kernel), List.mem_of_getElem? (i := 1543) (by decide +kernel)⟩
theorem lw_p54 : lw_okq (⟨"MetreDeskModel", "isWord", "(I[BII)Z"⟩, 87) := ⟨⟨by decide +kernel, by decide +kernel⟩, List.mem_of_getElem? (i := 1228) (by decide +kernel), List.mem_of_getElem? (i := 1546) (by decide +kernel), List.mem_of_getElem? (i := 1547) (by decide +kernel)⟩
theorem lw_p55 : lw_okq (⟨"MetreDeskModel", "readLine", "(I)Z"⟩, 87) := ⟨⟨by decide +kernel, by decide +kernel⟩, List.mem_of_getElem? (i := 1228) (by decide +kernel), List.mem_of_getElem? (i := 1558) (by decide +kernel), List.mem_of_getElem? (i := 1559) (by decide +kernel)⟩
theorem lw_p56 : lw_okq (⟨"MetreDeskModel", "wrong", "(II)Z"⟩, 87) := ⟨⟨by decide +kernel, by decide +kernel⟩, List.mem_of_getElem? (i := 1228) (by decide +kernel), List.mem_of_getElem? (i := 1562) (by decide +kernel), List.mem_of_getElem? (i := 1563) (by decide +kernel)⟩
theorem lw_p57 : lw_okq (⟨"MetreDeskModel", "byRules", "(II)I"⟩, 87) := ⟨⟨by decide +kernel, by decide +kernel⟩, List.mem_of_getElem? (i := 1228) (by decide +kernel), List.mem_of_getElem? (i := 1566) (by decide +kernel), List.mem_of_getElem? (i := 1567) (by decide +kernel)⟩
theorem lw_p58 : lw_okq (⟨"MetreDeskModel", "closes", "(IIIII)V"⟩, 87) := ⟨⟨by decide +kernel, by decide +kernel⟩, List.mem_of_getElem? (i := 1228) (by decide +kernel), List.mem_of_getElem? (i := 1570) (by decide +kernel), List.mem_of_getElem? (i := 1571) (by decide +kernel)⟩
theorem lw_p59 : lw_okq (⟨"MetreDeskModel", "addWord", "(II)Z"⟩, 87) := ⟨⟨by decide +kernel, by decide +kernel⟩, List.mem_of_getElem? (i := 1228) (by decide +kernel), List.mem_of_getElem? (i := 1574) (by decide +kernel), List.mem_of_getElem? (i := 1575) (by decide +kernel)⟩
theorem lw_p60 : lw_okq (⟨"MetreDeskModel", "addSyllable", "(IIII)V"⟩, 87) := ⟨⟨by decide +kernel, by decide +kernel⟩, List.mem_of_getElem? (i := 1228) (by decide +kernel), List.mem_of_getElem? (i := 1578) (by decide +kernel), List.mem_of_getElem? (i := 1579) (by decide +kernel)⟩
theorem lw_p61 : lw_okq (⟨"MetreDeskModel", "copyLine", "(II)V"⟩, 87) := ⟨⟨by decide +kernel, by decide +kernel⟩, List.mem_of_getElem? (i := 1228) (by decide +kernel), List.mem_of_getElem? (i := 1582) (by decide +kernel), List.mem_of_getElem? (i := 1583) (by decide +kernel)⟩
theorem lw_p62 : lw_okq (⟨"MetreDeskModel", "copyWord", "(III)V"⟩, 87) := ⟨⟨by decide +kernel, by decide +kernel⟩, List.mem_of_getElem? (i := 1228) (by decide +kernel), List.mem_of_getElem? (i := 1586) (by decide +kernel), List.mem_of_getElem? (i := 1587) (by decide +kernel)⟩
theorem lw_p63 : lw_okq (⟨"MetreDeskModel", "copySyllable", "(II)V"⟩, 87) := ⟨⟨by decide +kernel, by decide +kernel⟩, List.mem_of_getElem? (i := 1228) (by decide +kernel), List.mem_of_getElem? (i := 1590) (by decide +kernel), List.mem_of_getElem? (i := 1591) (by decide +kernel)⟩
def lw_privs_4 : List (MethodName × Nat) := [(⟨"MetreDesk$Syllables", "lettersThrough", "(I)I"⟩, 7), (⟨"MetreDesk$Poem", "countUses", "([I)I"⟩, 19), (⟨"MetreDeskModel", "pairOf", "(II)I"⟩, 87), (⟨"MetreDeskModel", "readWord", "(I)I"⟩, 87), (⟨"MetreDeskModel", "cutSounds", "([BII)V"⟩, 87), (⟨"MetreDeskModel", "find", "([BII)I"⟩, 87), (⟨"MetreDeskModel", "isWord", "(I[BII)Z"⟩, 87), (⟨"MetreDeskModel", "readLine", "(I)Z"⟩, 87), (⟨"MetreDeskModel", "wrong", "(II)Z"⟩, 87), (⟨"MetreDeskModel", "byRules", "(II)I"⟩, 87), (⟨"MetreDeskModel", "closes", "(IIIII)V"⟩, 87), (⟨"MetreDeskModel", "addWord", "(II)Z"⟩, 87), (⟨"MetreDeskModel", "addSyllable", "(IIII)V"⟩, 87), (⟨"MetreDeskModel", "copyLine", "(II)V"⟩, 87), (⟨"MetreDeskModel", "copyWord", "(III)V"⟩, 87), (⟨"MetreDeskModel", "copySyllable", "(II)V"⟩, 87)]
theorem lw_r4 : ∀ q ∈ lw_privs_4, lw_okq q := List.forall_mem_cons.mpr ⟨lw_p48, List.forall_mem_cons.mpr ⟨lw_p49, List.forall_mem_cons.mpr ⟨lw_p50, List.forall_mem_cons.mpr ⟨lw_p51, List.forall_mem_cons.mpr ⟨lw_p52, List.forall_mem_cons.mpr ⟨lw_p53, List.forall_mem_cons.mpr ⟨lw_p54, List.forall_mem_cons.mpr ⟨lw_p55, List.forall_mem_cons.mpr ⟨lw_p56, List.forall_mem_cons.mpr ⟨lw_p57, List.forall_mem_cons.mpr ⟨lw_p58, List.forall_mem_cons.mpr ⟨lw_p59, List.forall_mem_cons.mpr ⟨lw_p60, List.forall_mem_cons.mpr ⟨lw_p61, List.forall_mem_cons.mpr ⟨lw_p62, List.forall_mem_cons.mpr ⟨lw_p63, fun _ h => absurd h List.not_mem_nil⟩⟩⟩⟩⟩⟩⟩⟩⟩⟩⟩⟩⟩⟩⟩⟩
theorem lw_p64 : lw_okq (⟨"MetreDeskModel", "isForm", "(I)Z"⟩, 87) := ⟨⟨by decide +kernel, by decide +kernel⟩, List.mem_of_getElem? (i := 1228) (by decide +kernel), List.mem_of_getElem? (i := 1622) (by decide +kernel), List.mem_of_getElem? (i := 1623) (by decide +kernel)⟩
theorem lw_p65 : lw_okq (⟨"MetreDeskModel", "begin", "(II)V"⟩, 87) := ⟨⟨by decide +kernel, by decide +kernel⟩, List.mem_of_getElem? (i := 1228) (by decide +kernel), List.mem_of_getElem? (i := 1626) (by decide +kernel), List.mem_of_getElem? (i := 1627) (by decide +kernel)⟩
theorem lw_p66 : lw_okq (⟨"MetreDeskModel", "waysFrom", "(I)I"⟩, 87) := ⟨⟨by decide +kernel, by decide +kernel⟩, List.mem_of_getElem? (i := 1228) (by decide +kernel), List.mem_of_getElem? (i := 1630) (by decide +kernel), List.mem_of_getElem? (i := 1631) (by decide +kernel)⟩
theorem lw_p67 : lw_okq (⟨"MetreDeskModel", "mayEnd", "(I)Z"⟩, 87) := ⟨⟨by decide +kernel, by decide +kernel⟩, List.mem_of_getElem? (i := 1228) (by decide +kernel), List.mem_of_getElem? (i := 1634) (by decide +kernel), List.mem_of_getElem? (i := 1635) (by decide +kernel)⟩
theorem lw_p68 : lw_okq (⟨"MetreDeskModel", "isOver", "(III)Z"⟩, 87) := ⟨⟨by decide +kernel, by decide +kernel⟩, List.mem_of_getElem? (i := 1228) (by decide +kernel), List.mem_of_getElem? (i := 1639) (by decide +kernel), List.mem_of_getElem? (i := 1640) (by decide +kernel)⟩
theorem lw_p69 : lw_okq (⟨"MetreDeskModel", "list", "(I)V"⟩, 87) := ⟨⟨by decide +kernel, by decide +kernel⟩, List.mem_of_getElem? (i := 1228) (by decide +kernel), List.mem_of_getElem? (i := 1643) (by decide +kernel), List.mem_of_getElem? (i := 1644) (by decide +kernel)⟩
theorem lw_p70 : lw_okq (⟨"MetreDeskModel", "canLose", "(I)Z"⟩, 87) := ⟨⟨by decide +kernel, by decide +kernel⟩, List.mem_of_getElem? (i := 1228) (by decide +kernel), List.mem_of_getElem? (i := 1647) (by decide +kernel), List.mem_of_getElem? (i := 1648) (by decide +kernel)⟩
theorem lw_p71 : lw_okq (⟨"MetreDeskModel", "isLast", "(I)Z"⟩, 87) := ⟨⟨by decide +kernel, by decide +kernel⟩, List.mem_of_getElem? (i := 1228) (by decide +kernel), List.mem_of_getElem? (i := 1651) (by decide +kernel), List.mem_of_getElem? (i := 1652) (by decide +kernel)⟩
theorem lw_p72 : lw_okq (⟨"MetreDeskModel", "isFirst", "(I)Z"⟩, 87) := ⟨⟨by decide +kernel, by decide +kernel⟩, List.mem_of_getElem? (i := 1228) (by decide +kernel), List.mem_of_getElem? (i := 1655) (by decide +kernel), List.mem_of_getElem? (i := 1656) (by decide +kernel)⟩
theorem lw_p73 : lw_okq (⟨"MetreDeskModel", "endsByVowel", "(I)Z"⟩, 87) := ⟨⟨by decide +kernel, by decide +kernel⟩, List.mem_of_getElem? (i := 1228) (by decide +kernel), List.mem_of_getElem? (i := 1659) (by decide +kernel), List.mem_of_getElem? (i := 1660) (by decide +kernel)⟩
theorem lw_p74 : lw_okq (⟨"MetreDeskModel", "beginsByVowel", "(I)Z"⟩, 87) := ⟨⟨by decide +kernel, by decide +kernel⟩, List.mem_of_getElem? (i := 1228) (by decide +kernel), List.mem_of_getElem? (i := 1663) (by decide +kernel), List.mem_of_getElem? (i := 1664) (by decide +kernel)⟩
theorem lw_p75 : lw_okq (⟨"MetreDeskModel", "add", "(IIIIIII)V"⟩, 87) := ⟨⟨by decide +kernel, by decide +kernel⟩, List.mem_of_getElem? (i := 1228) (by decide +kernel), List.mem_of_getElem? (i := 1670) (by decide +kernel), List.mem_of_getElem? (i := 1671) (by decide +kernel)⟩
theorem lw_p76 : lw_okq (⟨"MetreDeskModel", "isBehind", "(IIIIII)Z"⟩, 87) := ⟨⟨by decide +kernel, by decide +kernel⟩, List.mem_of_getElem? (i := 1228) (by decide +kernel), List.mem_of_getElem? (i := 1674) (by decide +kernel), List.mem_of_getElem? (i := 1675) (by decide +kernel)⟩
theorem lw_p77 : lw_okq (⟨"MetreDeskModel", "addPosition", "(II)V"⟩, 87) := ⟨⟨by decide +kernel, by decide +kernel⟩, List.mem_of_getElem? (i := 1228) (by decide +kernel), List.mem_of_getElem? (i := 1678) (by decide +kernel), List.mem_of_getElem? (i := 1679) (by decide +kernel)⟩
theorem lw_p78 : lw_okq (⟨"MetreDeskModel", "mayStand", "(III)Z"⟩, 87) := ⟨⟨by decide +kernel, by decide +kernel⟩, List.mem_of_getElem? (i := 1228) (by decide +kernel), List.mem_of_getElem? (i := 1682) (by decide +kernel), List.mem_of_getElem? (i := 1683) (by decide +kernel)⟩
theorem lw_p79 : lw_okq (⟨"MetreDeskModel", "addPlace", "(IIII)V"⟩, 87) := ⟨⟨by decide +kernel, by decide +kernel⟩, List.mem_of_getElem? (i := 1228) (by decide +kernel), List.mem_of_getElem? (i := 1686) (by decide +kernel), List.mem_of_getElem? (i := 1687) (by decide +kernel)⟩
def lw_privs_5 : List (MethodName × Nat) := [(⟨"MetreDeskModel", "isForm", "(I)Z"⟩, 87), (⟨"MetreDeskModel", "begin", "(II)V"⟩, 87), (⟨"MetreDeskModel", "waysFrom", "(I)I"⟩, 87), (⟨"MetreDeskModel", "mayEnd", "(I)Z"⟩, 87), (⟨"MetreDeskModel", "isOver", "(III)Z"⟩, 87), (⟨"MetreDeskModel", "list", "(I)V"⟩, 87), (⟨"MetreDeskModel", "canLose", "(I)Z"⟩, 87), (⟨"MetreDeskModel", "isLast", "(I)Z"⟩, 87), (⟨"MetreDeskModel", "isFirst", "(I)Z"⟩, 87), (⟨"MetreDeskModel", "endsByVowel", "(I)Z"⟩, 87), (⟨"MetreDeskModel", "beginsByVowel", "(I)Z"⟩, 87), (⟨"MetreDeskModel", "add", "(IIIIIII)V"⟩, 87), (⟨"MetreDeskModel", "isBehind", "(IIIIII)Z"⟩, 87), (⟨"MetreDeskModel", "addPosition", "(II)V"⟩, 87), (⟨"MetreDeskModel", "mayStand", "(III)Z"⟩, 87), (⟨"MetreDeskModel", "addPlace", "(IIII)V"⟩, 87)]
theorem lw_r5 : ∀ q ∈ lw_privs_5, lw_okq q := List.forall_mem_cons.mpr ⟨lw_p64, List.forall_mem_cons.mpr ⟨lw_p65, List.forall_mem_cons.mpr ⟨lw_p66, List.forall_mem_cons.mpr ⟨lw_p67, List.forall_mem_cons.mpr ⟨lw_p68, List.forall_mem_cons.mpr ⟨lw_p69, List.forall_mem_cons.mpr ⟨lw_p70, List.forall_mem_cons.mpr ⟨lw_p71, List.forall_mem_cons.mpr ⟨lw_p72, List.forall_mem_cons.mpr ⟨lw_p73, List.forall_mem_cons.mpr ⟨lw_p74, List.forall_mem_cons.mpr ⟨lw_p75, List.forall_mem_cons.mpr ⟨lw_p76, List.forall_mem_cons.mpr ⟨lw_p77, List.forall_mem_cons.mpr ⟨lw_p78, List.forall_mem_cons.mpr ⟨lw_p79, fun _ h => absurd h List.not_mem_nil⟩⟩⟩⟩⟩⟩⟩⟩⟩⟩⟩⟩⟩⟩⟩⟩
theorem lw_p80 : lw_okq (⟨"MetreDeskModel", "addHeavy", "(IIIIZ)V"⟩, 87) := ⟨⟨by decide +kernel, by decide +kernel⟩, List.mem_of_getElem? (i := 1228) (by decide +kernel), List.mem_of_getElem? (i := 1690) (by decide +kernel), List.mem_of_getElem? (i := 1691) (by decide +kernel)⟩
theorem lw_p81 : lw_okq (⟨"MetreDeskModel", "markOf", "(I)I"⟩, 87) := ⟨⟨by decide +kernel, by decide +kernel⟩, List.mem_of_getElem? (i := 1228) (by decide +kernel), List.mem_of_getElem? (i := 1694) (by decide +kernel), List.mem_of_getElem? (i := 1695) (by decide +kernel)⟩
theorem lw_p82 : lw_okq (⟨"MetreDeskModel", "canMelt", "(I)Z"⟩, 87) := ⟨⟨by decide +kernel, by decide +kernel⟩, List.mem_of_getElem? (i := 1228) (by decide +kernel), List.mem_of_getElem? (i := 1698) (by decide +kernel), List.mem_of_getElem? (i := 1699) (by decide +kernel)⟩
theorem lw_p83 : lw_okq (⟨"MetreDeskModel", "addLight", "(IIIIIZ)V"⟩, 87) := ⟨⟨by decide +kernel, by decide +kernel⟩, List.mem_of_getElem? (i := 1228) (by decide +kernel), List.mem_of_getElem? (i := 1702) (by decide +kernel), List.mem_of_getElem? (i := 1703) (by decide +kernel)⟩
theorem lw_p84 : lw_okq (⟨"MetreDeskModel", "isCut", "(II)Z"⟩, 87) := ⟨⟨by decide +kernel, by decide +kernel⟩, List.mem_of_getElem? (i := 1228) (by decide +kernel), List.mem_of_getElem? (i := 1706) (by decide +kernel), List.mem_of_getElem? (i := 1707) (by decide +kernel)⟩
theorem lw_p85 : lw_okq (⟨"MetreDeskModel", "cheapest", "(II)I"⟩, 87) := ⟨⟨by decide +kernel, by decide +kernel⟩, List.mem_of_getElem? (i := 1228) (by decide +kernel), List.mem_of_getElem? (i := 1716) (by decide +kernel), List.mem_of_getElem? (i := 1717) (by decide +kernel)⟩
theorem lw_p86 : lw_okq (⟨"MetreDeskModel", "layFrom", "(III)V"⟩, 87) := ⟨⟨by decide +kernel, by decide +kernel⟩, List.mem_of_getElem? (i := 1228) (by decide +kernel), List.mem_of_getElem? (i := 1724) (by decide +kernel), List.mem_of_getElem? (i := 1725) (by decide +kernel)⟩
theorem lw_p87 : lw_okq (⟨"MetreDeskModel", "write", "(III)V"⟩, 87) := ⟨⟨by decide +kernel, by decide +kernel⟩, List.mem_of_getElem? (i := 1228) (by decide +kernel), List.mem_of_getElem? (i := 1728) (by decide +kernel), List.mem_of_getElem? (i := 1729) (by decide +kernel)⟩
theorem lw_p88 : lw_okq (⟨"MetreDeskModel", "isTold", "(III)Z"⟩, 87) := ⟨⟨by decide +kernel, by decide +kernel⟩, List.mem_of_getElem? (i := 1228) (by decide +kernel), List.mem_of_getElem? (i := 1748) (by decide +kernel), List.mem_of_getElem? (i := 1749) (by decide +kernel)⟩
theorem lw_p89 : lw_okq (⟨"MetreDeskModel", "changesFrom", "(IIIIIZ)I"⟩, 87) := ⟨⟨by decide +kernel, by decide +kernel⟩, List.mem_of_getElem? (i := 1228) (by decide +kernel), List.mem_of_getElem? (i := 1756) (by decide +kernel), List.mem_of_getElem? (i := 1757) (by decide +kernel)⟩
theorem lw_p90 : lw_okq (⟨"MetreDeskModel", "toPosition", "(II)I"⟩, 87) := ⟨⟨by decide +kernel, by decide +kernel⟩, List.mem_of_getElem? (i := 1228) (by decide +kernel), List.mem_of_getElem? (i := 1763) (by decide +kernel), List.mem_of_getElem? (i := 1764) (by decide +kernel)⟩
theorem lw_p91 : lw_okq (⟨"MetreDeskModel", "toPlace", "(IIII)I"⟩, 87) := ⟨⟨by decide +kernel, by decide +kernel⟩, List.mem_of_getElem? (i := 1228) (by decide +kernel), List.mem_of_getElem? (i := 1767) (by decide +kernel), List.mem_of_getElem? (i := 1768) (by decide +kernel)⟩
theorem lw_p92 : lw_okq (⟨"MetreDeskModel", "fill", "(IIIIII)I"⟩, 87) := ⟨⟨by decide +kernel, by decide +kernel⟩, List.mem_of_getElem? (i := 1228) (by decide +kernel), List.mem_of_getElem? (i := 1771) (by decide +kernel), List.mem_of_getElem? (i := 1772) (by decide +kernel)⟩
theorem lw_p93 : lw_okq (⟨"MetreDeskModel", "within", "(IIIIIZ)I"⟩, 87) := ⟨⟨by decide +kernel, by decide +kernel⟩, List.mem_of_getElem? (i := 1228) (by decide +kernel), List.mem_of_getElem? (i := 1775) (by decide +kernel), List.mem_of_getElem? (i := 1776) (by decide +kernel)⟩
theorem lw_p94 : lw_okq (⟨"MetreDeskModel", "hasLine", "(I)Z"⟩, 87) := ⟨⟨by decide +kernel, by decide +kernel⟩, List.mem_of_getElem? (i := 1228) (by decide +kernel), List.mem_of_getElem? (i := 1791) (by decide +kernel), List.mem_of_getElem? (i := 1792) (by decide +kernel)⟩
theorem lw_p95 : lw_okq (⟨"MetreDeskModel", "ending", "(II)V"⟩, 87) := ⟨⟨by decide +kernel, by decide +kernel⟩, List.mem_of_getElem? (i := 1228) (by decide +kernel), List.mem_of_getElem? (i := 1795) (by decide +kernel), List.mem_of_getElem? (i := 1796) (by decide +kernel)⟩
def lw_privs_6 : List (MethodName × Nat) := [(⟨"MetreDeskModel", "addHeavy", "(IIIIZ)V"⟩, 87), (⟨"MetreDeskModel", "markOf", "(I)I"⟩, 87), (⟨"MetreDeskModel", "canMelt", "(I)Z"⟩, 87), (⟨"MetreDeskModel", "addLight", "(IIIIIZ)V"⟩, 87), (⟨"MetreDeskModel", "isCut", "(II)Z"⟩, 87), (⟨"MetreDeskModel", "cheapest", "(II)I"⟩, 87), (⟨"MetreDeskModel", "layFrom", "(III)V"⟩, 87), (⟨"MetreDeskModel", "write", "(III)V"⟩, 87), (⟨"MetreDeskModel", "isTold", "(III)Z"⟩, 87), (⟨"MetreDeskModel", "changesFrom", "(IIIIIZ)I"⟩, 87), (⟨"MetreDeskModel", "toPosition", "(II)I"⟩, 87), (⟨"MetreDeskModel", "toPlace", "(IIII)I"⟩, 87), (⟨"MetreDeskModel", "fill", "(IIIIII)I"⟩, 87), (⟨"MetreDeskModel", "within", "(IIIIIZ)I"⟩, 87), (⟨"MetreDeskModel", "hasLine", "(I)Z"⟩, 87), (⟨"MetreDeskModel", "ending", "(II)V"⟩, 87)]
theorem lw_r6 : ∀ q ∈ lw_privs_6, lw_okq q := List.forall_mem_cons.mpr ⟨lw_p80, List.forall_mem_cons.mpr ⟨lw_p81, List.forall_mem_cons.mpr ⟨lw_p82, List.forall_mem_cons.mpr ⟨lw_p83, List.forall_mem_cons.mpr ⟨lw_p84, List.forall_mem_cons.mpr ⟨lw_p85, List.forall_mem_cons.mpr ⟨lw_p86, List.forall_mem_cons.mpr ⟨lw_p87, List.forall_mem_cons.mpr ⟨lw_p88, List.forall_mem_cons.mpr ⟨lw_p89, List.forall_mem_cons.mpr ⟨lw_p90, List.forall_mem_cons.mpr ⟨lw_p91, List.forall_mem_cons.mpr ⟨lw_p92, List.forall_mem_cons.mpr ⟨lw_p93, List.forall_mem_cons.mpr ⟨lw_p94, List.forall_mem_cons.mpr ⟨lw_p95, fun _ h => absurd h List.not_mem_nil⟩⟩⟩⟩⟩⟩⟩⟩⟩⟩⟩⟩⟩⟩⟩⟩
theorem lw_p96 : lw_okq (⟨"MetreDeskModel", "sameEndings", "(Z)Z"⟩, 87) := ⟨⟨by decide +kernel, by decide +kernel⟩, List.mem_of_getElem? (i := 1228) (by decide +kernel), List.mem_of_getElem? (i := 1799) (by decide +kernel), List.mem_of_getElem? (i := 1800) (by decide +kernel)⟩
theorem lw_p97 : lw_okq (⟨"MetreDeskModel", "sameLook", "(II)Z"⟩, 87) := ⟨⟨by decide +kernel, by decide +kernel⟩, List.mem_of_getElem? (i := 1228) (by decide +kernel), List.mem_of_getElem? (i := 1803) (by decide +kernel), List.mem_of_getElem? (i := 1804) (by decide +kernel)⟩
theorem lw_p98 : lw_okq (⟨"MetreDeskModel", "layOn", "(I)J"⟩, 87) := ⟨⟨by decide +kernel, by decide +kernel⟩, List.mem_of_getElem? (i := 1228) (by decide +kernel), List.mem_of_getElem? (i := 1821) (by decide +kernel), List.mem_of_getElem? (i := 1822) (by decide +kernel)⟩
theorem lw_p99 : lw_okq (⟨"MetreDeskModel", "isOffRhyme", "(I)Z"⟩, 87) := ⟨⟨by decide +kernel, by decide +kernel⟩, List.mem_of_getElem? (i := 1228) (by decide +kernel), List.mem_of_getElem? (i := 1825) (by decide +kernel), List.mem_of_getElem? (i := 1826) (by decide +kernel)⟩
theorem lw_p100 : lw_okq (⟨"MetreDeskModel", "sameWords", "(II)Z"⟩, 87) := ⟨⟨by decide +kernel, by decide +kernel⟩, List.mem_of_getElem? (i := 1228) (by decide +kernel), List.mem_of_getElem? (i := 1829) (by decide +kernel), List.mem_of_getElem? (i := 1830) (by decide +kernel)⟩
theorem lw_p101 : lw_okq (⟨"MetreDeskModel", "isAhead", "(II)Z"⟩, 87) := ⟨⟨by decide +kernel, by decide +kernel⟩, List.mem_of_getElem? (i := 1228) (by decide +kernel), List.mem_of_getElem? (i := 1842) (by decide +kernel), List.mem_of_getElem? (i := 1843) (by decide +kernel)⟩
theorem lw_p102 : lw_okq (⟨"MetreDeskModel", "takesPlace", "(II)Z"⟩, 87) := ⟨⟨by decide +kernel, by decide +kernel⟩, List.mem_of_getElem? (i := 1228) (by decide +kernel), List.mem_of_getElem? (i := 1846) (by decide +kernel), List.mem_of_getElem? (i := 1847) (by decide +kernel)⟩
def lw_privs_7 : List (MethodName × Nat) := [(⟨"MetreDeskModel", "sameEndings", "(Z)Z"⟩, 87), (⟨"MetreDeskModel", "sameLook", "(II)Z"⟩, 87), (⟨"MetreDeskModel", "layOn", "(I)J"⟩, 87), (⟨"MetreDeskModel", "isOffRhyme", "(I)Z"⟩, 87), (⟨"MetreDeskModel", "sameWords", "(II)Z"⟩, 87), (⟨"MetreDeskModel", "isAhead", "(II)Z"⟩, 87), (⟨"MetreDeskModel", "takesPlace", "(II)Z"⟩, 87)]
theorem lw_r7 : ∀ q ∈ lw_privs_7, lw_okq q := List.forall_mem_cons.mpr ⟨lw_p96, List.forall_mem_cons.mpr ⟨lw_p97, List.forall_mem_cons.mpr ⟨lw_p98, List.forall_mem_cons.mpr ⟨lw_p99, List.forall_mem_cons.mpr ⟨lw_p100, List.forall_mem_cons.mpr ⟨lw_p101, List.forall_mem_cons.mpr ⟨lw_p102, fun _ h => absurd h List.not_mem_nil⟩⟩⟩⟩⟩⟩⟩
def lw_privs : List (MethodName × Nat) := lw_privs_1 ++ (lw_privs_2 ++ (lw_privs_3 ++ (lw_privs_4 ++ (lw_privs_5 ++ (lw_privs_6 ++ (lw_privs_7))))))
def lw_tbl : List Cond := k2_sels lw_privs ++ tables_1
theorem lw_privs_ok : ∀ q ∈ lw_privs, lw_okq q := by
  show ∀ q ∈ lw_privs_1 ++ (lw_privs_2 ++ (lw_privs_3 ++ (lw_privs_4 ++ (lw_privs_5 ++ (lw_privs_6 ++ (lw_privs_7)))))), lw_okq q
  exact List.forall_mem_append.mpr ⟨lw_r1, List.forall_mem_append.mpr ⟨lw_r2, List.forall_mem_append.mpr ⟨lw_r3, List.forall_mem_append.mpr ⟨lw_r4, List.forall_mem_append.mpr ⟨lw_r5, List.forall_mem_append.mpr ⟨lw_r6, lw_r7⟩⟩⟩⟩⟩⟩
/-- the streams that the claim lets the run draw from -/
abbrev lw_cs : List Choice := [Jvm.Choice.named "NaN.bits"]
theorem lw_bits : nanBits ∈ lw_cs := by first | decide | exact List.mem_cons_self | simp [lw_cs, nanBits]

/-! names of the classes, their fields in the order of the slots, their types -/
def RX0 : String := "MetreDesk$Book"
def TX0 : u_T := fun k => match k with
  | 0 => ("MetreDesk$Book", "language", "LMetreDesk$Language;", true)
  | 1 => ("MetreDesk$Book", "entries", "[LMetreDesk$Syllables;", true)
  | 2 => ("MetreDesk$Book", "size", "I", false)
  | _ => ("MetreDesk$Book", "draft", "LMetreDesk$Syllables;", true)
def tyX0 : Nat → FieldType := fun k => match k with
  | 0 => .object "MetreDesk$Language"
  | 1 => .array (.object "MetreDesk$Syllables")
  | 2 => .int
  | _ => .object "MetreDesk$Syllables"
abbrev wsX00 : List Cond := u_ws RX0 TX0 4
theorem nmX0 : ∀ a, a < 4 → ∀ b, b < 4 → a ≠ b → (TX0 a).2.1 ≠ (TX0 b).2.1 := by decide +kernel
theorem tyX0_ok : ∀ k, k < 4 → parseFieldDescriptor (TX0 k).2.2.1 = some (tyX0 k) := by decide +kernel
def RX1 : String := "MetreDesk$Foot"
def TX1 : u_T := fun k => match k with
  | 0 => ("MetreDesk$Foot", "sort", "I", true)
  | 1 => ("MetreDesk$Foot", "size", "I", true)
  | 2 => ("MetreDesk$Foot", "needs", "[I", true)
  | 3 => ("MetreDesk$Foot", "nexts", "[I", true)
  | 4 => ("MetreDesk$Foot", "asks", "[Z", true)
  | 5 => ("MetreDesk$Foot", "ends", "[Z", true)
  | _ => ("MetreDesk$Foot", "codes", "I", false)
def tyX1 : Nat → FieldType := fun k => match k with
  | 0 => .int
  | 1 => .int
  | 2 => .array .int
  | 3 => .array .int
  | 4 => .array .boolean
  | 5 => .array .boolean
  | _ => .int
abbrev wsX10 : List Cond := u_ws RX1 TX1 7
theorem nmX1 : ∀ a, a < 7 → ∀ b, b < 7 → a ≠ b → (TX1 a).2.1 ≠ (TX1 b).2.1 := by decide +kernel
theorem tyX1_ok : ∀ k, k < 7 → parseFieldDescriptor (TX1 k).2.2.1 = some (tyX1 k) := by decide +kernel
def RX2 : String := "MetreDesk$Language"
def TX2 : u_T := fun k => match k with
  | 0 => ("MetreDesk$Language", "vowels", "[Z", true)
  | 1 => ("MetreDesk$Language", "vowelCount", "I", false)
  | 2 => ("MetreDesk$Language", "pairs", "[I", true)
  | _ => ("MetreDesk$Language", "pairCount", "I", false)
def tyX2 : Nat → FieldType := fun k => match k with
  | 0 => .array .boolean
  | 1 => .int
  | 2 => .array .int
  | _ => .int
abbrev wsX20 : List Cond := u_ws RX2 TX2 4
theorem nmX2 : ∀ a, a < 4 → ∀ b, b < 4 → a ≠ b → (TX2 a).2.1 ≠ (TX2 b).2.1 := by decide +kernel
theorem tyX2_ok : ∀ k, k < 4 → parseFieldDescriptor (TX2 k).2.2.1 = some (tyX2 k) := by decide +kernel
def RX3 : String := "MetreDesk$LineReader"
def TX3 : u_T := fun k => match k with
  | 0 => ("MetreDesk$LineReader", "language", "LMetreDesk$Language;", true)
  | 1 => ("MetreDesk$LineReader", "book", "LMetreDesk$Book;", true)
  | 2 => ("MetreDesk$LineReader", "draft", "LMetreDesk$Syllables;", true)
  | 3 => ("MetreDesk$LineReader", "fault", "I", false)
  | _ => ("MetreDesk$LineReader", "place", "I", false)
def tyX3 : Nat → FieldType := fun k => match k with
  | 0 => .object "MetreDesk$Language"
  | 1 => .object "MetreDesk$Book"
  | 2 => .object "MetreDesk$Syllables"
  | 3 => .int
  | _ => .int
abbrev wsX30 : List Cond := u_ws RX3 TX3 5
theorem nmX3 : ∀ a, a < 5 → ∀ b, b < 5 → a ≠ b → (TX3 a).2.1 ≠ (TX3 b).2.1 := by decide +kernel
theorem tyX3_ok : ∀ k, k < 5 → parseFieldDescriptor (TX3 k).2.2.1 = some (tyX3 k) := by decide +kernel
def RX4 : String := "MetreDesk$Metre"
def TX4 : u_T := fun k => match k with
  | 0 => ("MetreDesk$Metre", "feet", "[LMetreDesk$Foot;", true)
  | 1 => ("MetreDesk$Metre", "sets", "[I", true)
  | 2 => ("MetreDesk$Metre", "sizes", "[I", true)
  | 3 => ("MetreDesk$Metre", "cuts", "[I", true)
  | _ => ("MetreDesk$Metre", "prices", "[I", true)
def tyX4 : Nat → FieldType := fun k => match k with
  | 0 => .array (.object "MetreDesk$Foot")
  | 1 => .array .int
  | 2 => .array .int
  | 3 => .array .int
  | _ => .array .int
abbrev wsX40 : List Cond := u_ws RX4 TX4 5
theorem nmX4 : ∀ a, a < 5 → ∀ b, b < 5 → a ≠ b → (TX4 a).2.1 ≠ (TX4 b).2.1 := by decide +kernel
theorem tyX4_ok : ∀ k, k < 5 → parseFieldDescriptor (TX4 k).2.2.1 = some (tyX4 k) := by decide +kernel
def RX5 : String := "MetreDesk$Near"
def TX5 : u_T := fun k => match k with
  | 0 => ("MetreDesk$Near", "metre", "LMetreDesk$Metre;", true)
  | 1 => ("MetreDesk$Near", "gates", "[I", true)
  | 2 => ("MetreDesk$Near", "cells", "[I", true)
  | 3 => ("MetreDesk$Near", "line", "LMetreDesk$Syllables;", false)
  | _ => ("MetreDesk$Near", "form", "I", false)
def tyX5 : Nat → FieldType := fun k => match k with
  | 0 => .object "MetreDesk$Metre"
  | 1 => .array .int
  | 2 => .array .int
  | 3 => .object "MetreDesk$Syllables"
  | _ => .int
abbrev wsX50 : List Cond := u_ws RX5 TX5 5
theorem nmX5 : ∀ a, a < 5 → ∀ b, b < 5 → a ≠ b → (TX5 a).2.1 ≠ (TX5 b).2.1 := by decide +kernel
theorem tyX5_ok : ∀ k, k < 5 → parseFieldDescriptor (TX5 k).2.2.1 = some (tyX5 k) := by decide +kernel
def RX6 : String := "MetreDesk$Poem"
def TX6 : u_T := fun k => match k with
  | 0 => ("MetreDesk$Poem", "metre", "LMetreDesk$Metre;", true)
  | 1 => ("MetreDesk$Poem", "scanner", "LMetreDesk$Scanner;", true)
  | 2 => ("MetreDesk$Poem", "walker", "LMetreDesk$Walker;", true)
  | 3 => ("MetreDesk$Poem", "lines", "[LMetreDesk$Syllables;", true)
  | 4 => ("MetreDesk$Poem", "lineCount", "I", false)
  | 5 => ("MetreDesk$Poem", "forms", "[I", true)
  | 6 => ("MetreDesk$Poem", "letters", "[I", true)
  | 7 => ("MetreDesk$Poem", "agains", "[I", true)
  | 8 => ("MetreDesk$Poem", "mayMiss", "I", false)
  | 9 => ("MetreDesk$Poem", "placeCount", "I", false)
  | 10 => ("MetreDesk$Poem", "costs", "[I", true)
  | 11 => ("MetreDesk$Poem", "trial", "[I", true)
  | 12 => ("MetreDesk$Poem", "trialFaults", "I", false)
  | 13 => ("MetreDesk$Poem", "trialPrice", "I", false)
  | 14 => ("MetreDesk$Poem", "laid", "[I", true)
  | 15 => ("MetreDesk$Poem", "faults", "I", false)
  | 16 => ("MetreDesk$Poem", "price", "I", false)
  | 17 => ("MetreDesk$Poem", "leftOut", "I", false)
  | _ => ("MetreDesk$Poem", "firsts", "[I", true)
def tyX6 : Nat → FieldType := fun k => match k with
  | 0 => .object "MetreDesk$Metre"
  | 1 => .object "MetreDesk$Scanner"
  | 2 => .object "MetreDesk$Walker"
  | 3 => .array (.object "MetreDesk$Syllables")
  | 4 => .int
  | 5 => .array .int
  | 6 => .array .int
  | 7 => .array .int
  | 8 => .int
  | 9 => .int
  | 10 => .array .int
  | 11 => .array .int
  | 12 => .int
  | 13 => .int
  | 14 => .array .int
  | 15 => .int
  | 16 => .int
  | 17 => .int
  | _ => .array .int
abbrev wsX60 : List Cond := u_ws RX6 TX6 19
theorem nmX6 : ∀ a, a < 19 → ∀ b, b < 19 → a ≠ b → (TX6 a).2.1 ≠ (TX6 b).2.1 := by decide +kernel
theorem tyX6_ok : ∀ k, k < 19 → parseFieldDescriptor (TX6 k).2.2.1 = some (tyX6 k) := by decide +kernel
def RX7 : String := "MetreDesk$Readings"
def TX7 : u_T := fun k => match k with
  | 0 => ("MetreDesk$Readings", "metre", "LMetreDesk$Metre;", true)
  | 1 => ("MetreDesk$Readings", "scanner", "LMetreDesk$Scanner;", true)
  | 2 => ("MetreDesk$Readings", "walker", "LMetreDesk$Walker;", true)
  | 3 => ("MetreDesk$Readings", "steps", "[I", false)
  | 4 => ("MetreDesk$Readings", "starts", "[I", true)
  | 5 => ("MetreDesk$Readings", "prices", "[I", true)
  | 6 => ("MetreDesk$Readings", "order", "[I", true)
  | _ => ("MetreDesk$Readings", "size", "I", false)
def tyX7 : Nat → FieldType := fun k => match k with
  | 0 => .object "MetreDesk$Metre"
  | 1 => .object "MetreDesk$Scanner"
  | 2 => .object "MetreDesk$Walker"
  | 3 => .array .int
  | 4 => .array .int
  | 5 => .array .int
  | 6 => .array .int
  | _ => .int
abbrev wsX70 : List Cond := u_ws RX7 TX7 8
theorem nmX7 : ∀ a, a < 8 → ∀ b, b < 8 → a ≠ b → (TX7 a).2.1 ≠ (TX7 b).2.1 := by decide +kernel
theorem tyX7_ok : ∀ k, k < 8 → parseFieldDescriptor (TX7 k).2.2.1 = some (tyX7 k) := by decide +kernel
def RX8 : String := "MetreDesk$Scanner"
def TX8 : u_T := fun k => match k with
  | 0 => ("MetreDesk$Scanner", "metre", "LMetreDesk$Metre;", true)
  | 1 => ("MetreDesk$Scanner", "gates", "[I", true)
  | 2 => ("MetreDesk$Scanner", "bases", "[I", true)
  | 3 => ("MetreDesk$Scanner", "own", "[I", true)
  | 4 => ("MetreDesk$Scanner", "melt", "[I", true)
  | 5 => ("MetreDesk$Scanner", "lost", "[I", true)
  | 6 => ("MetreDesk$Scanner", "table", "[I", false)
  | 7 => ("MetreDesk$Scanner", "line", "LMetreDesk$Syllables;", false)
  | 8 => ("MetreDesk$Scanner", "form", "I", false)
  | 9 => ("MetreDesk$Scanner", "counting", "Z", false)
  | 10 => ("MetreDesk$Scanner", "nothing", "I", false)
  | _ => ("MetreDesk$Scanner", "extra", "I", false)
def tyX8 : Nat → FieldType := fun k => match k with
  | 0 => .object "MetreDesk$Metre"
  | 1 => .array .int
  | 2 => .array .int
  | 3 => .array .int
  | 4 => .array .int
  | 5 => .array .int
  | 6 => .array .int
  | 7 => .object "MetreDesk$Syllables"
  | 8 => .int
  | 9 => .boolean
  | 10 => .int
  | _ => .int
abbrev wsX80 : List Cond := u_ws RX8 TX8 12
theorem nmX8 : ∀ a, a < 12 → ∀ b, b < 12 → a ≠ b → (TX8 a).2.1 ≠ (TX8 b).2.1 := by decide +kernel
theorem tyX8_ok : ∀ k, k < 12 → parseFieldDescriptor (TX8 k).2.2.1 = some (tyX8 k) := by decide +kernel
def RX9 : String := "MetreDesk$Syllables"
def TX9 : u_T := fun k => match k with
  | 0 => ("MetreDesk$Syllables", "letters", "[I", true)
  | 1 => ("MetreDesk$Syllables", "from", "[I", true)
  | 2 => ("MetreDesk$Syllables", "words", "[I", true)
  | 3 => ("MetreDesk$Syllables", "marks", "[I", true)
  | 4 => ("MetreDesk$Syllables", "traits", "[I", true)
  | 5 => ("MetreDesk$Syllables", "ending", "[I", false)
  | _ => ("MetreDesk$Syllables", "size", "I", false)
def tyX9 : Nat → FieldType := fun k => match k with
  | 0 => .array .int
  | 1 => .array .int
  | 2 => .array .int
  | 3 => .array .int
  | 4 => .array .int
  | 5 => .array .int
  | _ => .int
abbrev wsX90 : List Cond := u_ws RX9 TX9 7
theorem nmX9 : ∀ a, a < 7 → ∀ b, b < 7 → a ≠ b → (TX9 a).2.1 ≠ (TX9 b).2.1 := by decide +kernel
theorem tyX9_ok : ∀ k, k < 7 → parseFieldDescriptor (TX9 k).2.2.1 = some (tyX9 k) := by decide +kernel
def RX10 : String := "MetreDesk$Walker"
def TX10 : u_T := fun k => match k with
  | 0 => ("MetreDesk$Walker", "metre", "LMetreDesk$Metre;", true)
  | 1 => ("MetreDesk$Walker", "scanner", "LMetreDesk$Scanner;", true)
  | 2 => ("MetreDesk$Walker", "line", "LMetreDesk$Syllables;", false)
  | 3 => ("MetreDesk$Walker", "form", "I", false)
  | 4 => ("MetreDesk$Walker", "at", "I", false)
  | 5 => ("MetreDesk$Walker", "state", "I", false)
  | 6 => ("MetreDesk$Walker", "steps", "[I", true)
  | 7 => ("MetreDesk$Walker", "nexts", "[I", true)
  | 8 => ("MetreDesk$Walker", "spans", "[I", true)
  | 9 => ("MetreDesk$Walker", "prices", "[I", true)
  | _ => ("MetreDesk$Walker", "moves", "I", false)
def tyX10 : Nat → FieldType := fun k => match k with
  | 0 => .object "MetreDesk$Metre"
  | 1 => .object "MetreDesk$Scanner"
  | 2 => .object "MetreDesk$Syllables"
  | 3 => .int
  | 4 => .int
  | 5 => .int
  | 6 => .array .int
  | 7 => .array .int
  | 8 => .array .int
  | 9 => .array .int
  | _ => .int
abbrev wsX100 : List Cond := u_ws RX10 TX10 11
theorem nmX10 : ∀ a, a < 11 → ∀ b, b < 11 → a ≠ b → (TX10 a).2.1 ≠ (TX10 b).2.1 := by decide +kernel
theorem tyX10_ok : ∀ k, k < 11 → parseFieldDescriptor (TX10 k).2.2.1 = some (tyX10 k) := by decide +kernel
def RX11 : String := "MetreDesk"
def TX11 : u_T := fun k => match k with
  | 0 => ("MetreDesk", "tape", "[I", true)
  | 1 => ("MetreDesk", "tapeSize", "I", false)
  | 2 => ("MetreDesk", "language", "LMetreDesk$Language;", true)
  | 3 => ("MetreDesk", "book", "LMetreDesk$Book;", true)
  | 4 => ("MetreDesk", "reader", "LMetreDesk$LineReader;", true)
  | 5 => ("MetreDesk", "metre", "LMetreDesk$Metre;", true)
  | 6 => ("MetreDesk", "scanner", "LMetreDesk$Scanner;", true)
  | 7 => ("MetreDesk", "walker", "LMetreDesk$Walker;", true)
  | 8 => ("MetreDesk", "readings", "LMetreDesk$Readings;", true)
  | 9 => ("MetreDesk", "nearest", "LMetreDesk$Near;", true)
  | 10 => ("MetreDesk", "poem", "LMetreDesk$Poem;", true)
  | 11 => ("MetreDesk", "told", "[I", true)
  | 12 => ("MetreDesk", "toldSize", "I", false)
  | 13 => ("MetreDesk", "line", "LMetreDesk$Syllables;", false)
  | 14 => ("MetreDesk", "found", "[LMetreDesk$Syllables;", true)
  | _ => ("MetreDesk", "foundSize", "I", false)
def tyX11 : Nat → FieldType := fun k => match k with
  | 0 => .array .int
  | 1 => .int
  | 2 => .object "MetreDesk$Language"
  | 3 => .object "MetreDesk$Book"
  | 4 => .object "MetreDesk$LineReader"
  | 5 => .object "MetreDesk$Metre"
  | 6 => .object "MetreDesk$Scanner"
  | 7 => .object "MetreDesk$Walker"
  | 8 => .object "MetreDesk$Readings"
  | 9 => .object "MetreDesk$Near"
  | 10 => .object "MetreDesk$Poem"
  | 11 => .array .int
  | 12 => .int
  | 13 => .object "MetreDesk$Syllables"
  | 14 => .array (.object "MetreDesk$Syllables")
  | _ => .int
abbrev wsX110 : List Cond := u_ws RX11 TX11 16
theorem nmX11 : ∀ a, a < 16 → ∀ b, b < 16 → a ≠ b → (TX11 a).2.1 ≠ (TX11 b).2.1 := by decide +kernel
theorem tyX11_ok : ∀ k, k < 16 → parseFieldDescriptor (TX11 k).2.2.1 = some (tyX11 k) := by decide +kernel
def RX12 : String := "MetreDeskModel"
def TX12 : u_T := fun k => match k with
  | 0 => ("MetreDeskModel", "tape", "[B", true)
  | 1 => ("MetreDeskModel", "taped", "I", false)
  | 2 => ("MetreDeskModel", "vowels", "[Z", true)
  | 3 => ("MetreDeskModel", "pairA", "[I", true)
  | 4 => ("MetreDeskModel", "pairB", "[I", true)
  | 5 => ("MetreDeskModel", "pairSort", "[I", true)
  | 6 => ("MetreDeskModel", "pairs", "I", false)
  | 7 => ("MetreDeskModel", "sound", "[I", true)
  | 8 => ("MetreDeskModel", "isVowel", "[Z", true)
  | 9 => ("MetreDeskModel", "soundAt", "[I", true)
  | 10 => ("MetreDeskModel", "sounds", "I", false)
  | 11 => ("MetreDeskModel", "bText", "[B", true)
  | 12 => ("MetreDeskModel", "bSize", "[I", true)
  | 13 => ("MetreDeskModel", "bMany", "[I", true)
  | 14 => ("MetreDeskModel", "bLength", "[I", true)
  | 15 => ("MetreDeskModel", "bMark", "[I", true)
  | 16 => ("MetreDeskModel", "book", "I", false)
  | 17 => ("MetreDeskModel", "letters", "[B", true)
  | 18 => ("MetreDeskModel", "length", "[I", true)
  | 19 => ("MetreDeskModel", "mark", "[I", true)
  | 20 => ("MetreDeskModel", "total", "I", false)
  | 21 => ("MetreDeskModel", "isLine", "[Z", true)
  | 22 => ("MetreDeskModel", "wMany", "[I", true)
  | 23 => ("MetreDeskModel", "wText", "[B", true)
  | 24 => ("MetreDeskModel", "wSize", "[I", true)
  | 25 => ("MetreDeskModel", "wBook", "[Z", true)
  | 26 => ("MetreDeskModel", "yMany", "[I", true)
  | 27 => ("MetreDeskModel", "yWord", "[I", true)
  | 28 => ("MetreDeskModel", "yFrom", "[I", true)
  | 29 => ("MetreDeskModel", "yLength", "[I", true)
  | 30 => ("MetreDeskModel", "yMark", "[I", true)
  | 31 => ("MetreDeskModel", "zSound", "[I", true)
  | 32 => ("MetreDeskModel", "zMany", "[I", true)
  | 33 => ("MetreDeskModel", "zVowels", "[I", true)
  | 34 => ("MetreDeskModel", "faultKind", "I", false)
  | 35 => ("MetreDeskModel", "faultPlace", "I", false)
  | 36 => ("MetreDeskModel", "footSort", "[I", true)
  | 37 => ("MetreDeskModel", "footRow", "[I", true)
  | 38 => ("MetreDeskModel", "footMany", "[I", true)
  | 39 => ("MetreDeskModel", "footX", "[I", true)
  | 40 => ("MetreDeskModel", "footY", "[I", true)
  | 41 => ("MetreDeskModel", "formSet", "[I", true)
  | 42 => ("MetreDeskModel", "formMany", "[I", true)
  | 43 => ("MetreDeskModel", "formCut", "[I", true)
  | 44 => ("MetreDeskModel", "price", "[I", true)
  | 45 => ("MetreDeskModel", "ofLine", "I", false)
  | 46 => ("MetreDeskModel", "ofForm", "I", false)
  | 47 => ("MetreDeskModel", "oWay", "[I", true)
  | 48 => ("MetreDeskModel", "oPosition", "[I", true)
  | 49 => ("MetreDeskModel", "oFoot", "[I", true)
  | 50 => ("MetreDeskModel", "oPlace", "[I", true)
  | 51 => ("MetreDeskModel", "oMark", "[I", true)
  | 52 => ("MetreDeskModel", "oNext", "[I", true)
  | 53 => ("MetreDeskModel", "oPrice", "[I", true)
  | 54 => ("MetreDeskModel", "oMany", "[I", true)
  | 55 => ("MetreDeskModel", "level", "I", false)
  | 56 => ("MetreDeskModel", "ways", "[I", true)
  | 57 => ("MetreDeskModel", "least", "[I", true)
  | 58 => ("MetreDeskModel", "rPrice", "[I", true)
  | 59 => ("MetreDeskModel", "rSteps", "[I", true)
  | 60 => ("MetreDeskModel", "rStep", "[I", true)
  | 61 => ("MetreDeskModel", "readings", "I", false)
  | 62 => ("MetreDeskModel", "step", "[I", true)
  | 63 => ("MetreDeskModel", "row", "[I", true)
  | 64 => ("MetreDeskModel", "rows", "I", false)
  | 65 => ("MetreDeskModel", "changes", "[I", true)
  | 66 => ("MetreDeskModel", "eSound", "[I", true)
  | 67 => ("MetreDeskModel", "eVowel", "[Z", true)
  | 68 => ("MetreDeskModel", "eMany", "[I", true)
  | 69 => ("MetreDeskModel", "letterOf", "[I", true)
  | 70 => ("MetreDeskModel", "pForm", "[I", true)
  | 71 => ("MetreDeskModel", "pLetter", "[I", true)
  | 72 => ("MetreDeskModel", "pAgain", "[I", true)
  | 73 => ("MetreDeskModel", "pMay", "[Z", true)
  | 74 => ("MetreDeskModel", "places", "I", false)
  | 75 => ("MetreDeskModel", "costs", "[I", true)
  | 76 => ("MetreDeskModel", "onPlace", "[I", true)
  | 77 => ("MetreDeskModel", "bestPlace", "[I", true)
  | 78 => ("MetreDeskModel", "bestFaults", "I", false)
  | 79 => ("MetreDeskModel", "bestPrice", "I", false)
  | 80 => ("MetreDeskModel", "bestSet", "I", false)
  | 81 => ("MetreDeskModel", "fText", "[B", true)
  | 82 => ("MetreDeskModel", "fSize", "[I", true)
  | 83 => ("MetreDeskModel", "fMany", "[I", true)
  | 84 => ("MetreDeskModel", "fitMany", "I", false)
  | 85 => ("MetreDeskModel", "order", "[I", true)
  | _ => ("MetreDeskModel", "used", "[I", true)
def tyX12 : Nat → FieldType := fun k => match k with
  | 0 => .array .byte
  | 1 => .int
  | 2 => .array .boolean
  | 3 => .array .int
  | 4 => .array .int
  | 5 => .array .int
  | 6 => .int
  | 7 => .array .int
  | 8 => .array .boolean
  | 9 => .array .int
  | 10 => .int
  | 11 => .array .byte
  | 12 => .array .int
  | 13 => .array .int
  | 14 => .array .int
  | 15 => .array .int
  | 16 => .int
  | 17 => .array .byte
  | 18 => .array .int
  | 19 => .array .int
  | 20 => .int
  | 21 => .array .boolean
  | 22 => .array .int
  | 23 => .array .byte
  | 24 => .array .int
  | 25 => .array .boolean
  | 26 => .array .int
  | 27 => .array .int
  | 28 => .array .int
  | 29 => .array .int
  | 30 => .array .int
  | 31 => .array .int
  | 32 => .array .int
  | 33 => .array .int
  | 34 => .int
  | 35 => .int
  | 36 => .array .int
  | 37 => .array .int
  | 38 => .array .int
  | 39 => .array .int
  | 40 => .array .int
  | 41 => .array .int
  | 42 => .array .int
  | 43 => .array .int
  | 44 => .array .int
  | 45 => .int
  | 46 => .int
  | 47 => .array .int
  | 48 => .array .int
  | 49 => .array .int
  | 50 => .array .int
  | 51 => .array .int
  | 52 => .array .int
  | 53 => .array .int
  | 54 => .array .int
  | 55 => .int
  | 56 => .array .int
  | 57 => .array .int
  | 58 => .array .int
  | 59 => .array .int
  | 60 => .array .int
  | 61 => .int
  | 62 => .array .int
  | 63 => .array .int
  | 64 => .int
  | 65 => .array .int
  | 66 => .array .int
  | 67 => .array .boolean
  | 68 => .array .int
  | 69 => .array .int
  | 70 => .array .int
  | 71 => .array .int
  | 72 => .array .int
  | 73 => .array .boolean
  | 74 => .int
  | 75 => .array .int
  | 76 => .array .int
  | 77 => .array .int
  | 78 => .int
  | 79 => .int
  | 80 => .int
  | 81 => .array .byte
  | 82 => .array .int
  | 83 => .array .int
  | 84 => .int
  | 85 => .array .int
  | _ => .array .int
abbrev wsX120 : List Cond := u_ws RX12 TX12 87
theorem nmX12 : ∀ a, a < 87 → ∀ b, b < 87 → a ≠ b → (TX12 a).2.1 ≠ (TX12 b).2.1 := by decide +kernel
theorem tyX12_ok : ∀ k, k < 87 → parseFieldDescriptor (TX12 k).2.2.1 = some (tyX12 k) := by decide +kernel
abbrev vwCl : List vw_C := [(RX0, TX0, 4), (RX1, TX1, 7), (RX2, TX2, 4), (RX3, TX3, 5), (RX4, TX4, 5), (RX5, TX5, 5), (RX6, TX6, 19), (RX7, TX7, 8), (RX8, TX8, 12), (RX9, TX9, 7), (RX10, TX10, 11), (RX11, TX11, 16), (RX12, TX12, 87)]
