section
-- ===== PART A: goes FIRST, ahead of the names: the tables' words, and 'selects' of the private methods out of them =====
/-- a private method of a class that the tables say can be made, by its rows of tables_1 -/
def lw_okq (q : MethodName × Nat) : Prop := (q.1.cls ≠ "java/lang/invoke/MethodHandle" ∧ q.1.cls ≠ "java/lang/invoke/VarHandle") ∧ Cond.instantiable q.1.cls q.2 ∈ tables_1 ∧ Cond.privateMethod q.1 ∈ tables_1 ∧ Cond.instanceMethod q.1 ∈ tables_1
theorem lw_p0 : lw_okq (⟨"EverySecondWord", "refused", "(I)I"⟩, 11) := ⟨⟨by decide +kernel, by decide +kernel⟩, List.mem_of_getElem? (i := 17) (by decide +kernel), List.mem_of_getElem? (i := 311) (by decide +kernel), List.mem_of_getElem? (i := 312) (by decide +kernel)⟩
theorem lw_p1 : lw_okq (⟨"EverySecondWord$Reader", "isWellFormed", "()Z"⟩, 4) := ⟨⟨by decide +kernel, by decide +kernel⟩, List.mem_of_getElem? (i := 160) (by decide +kernel), List.mem_of_getElem? (i := 331) (by decide +kernel), List.mem_of_getElem? (i := 332) (by decide +kernel)⟩
theorem lw_p2 : lw_okq (⟨"EverySecondWord$Reader", "isStatement", "()Z"⟩, 4) := ⟨⟨by decide +kernel, by decide +kernel⟩, List.mem_of_getElem? (i := 160) (by decide +kernel), List.mem_of_getElem? (i := 335) (by decide +kernel), List.mem_of_getElem? (i := 336) (by decide +kernel)⟩
theorem lw_p3 : lw_okq (⟨"EverySecondWord$Reader", "take", "(II)Z"⟩, 4) := ⟨⟨by decide +kernel, by decide +kernel⟩, List.mem_of_getElem? (i := 160) (by decide +kernel), List.mem_of_getElem? (i := 339) (by decide +kernel), List.mem_of_getElem? (i := 340) (by decide +kernel)⟩
theorem lw_p4 : lw_okq (⟨"EverySecondWord$Reader", "letter", "(I)I"⟩, 4) := ⟨⟨by decide +kernel, by decide +kernel⟩, List.mem_of_getElem? (i := 160) (by decide +kernel), List.mem_of_getElem? (i := 343) (by decide +kernel), List.mem_of_getElem? (i := 344) (by decide +kernel)⟩
theorem lw_p5 : lw_okq (⟨"EverySecondWord$Reader", "isEndOfRule", "()Z"⟩, 4) := ⟨⟨by decide +kernel, by decide +kernel⟩, List.mem_of_getElem? (i := 160) (by decide +kernel), List.mem_of_getElem? (i := 347) (by decide +kernel), List.mem_of_getElem? (i := 348) (by decide +kernel)⟩
theorem lw_p6 : lw_okq (⟨"EverySecondWord$Reader", "isEndOfPerson", "()Z"⟩, 4) := ⟨⟨by decide +kernel, by decide +kernel⟩, List.mem_of_getElem? (i := 160) (by decide +kernel), List.mem_of_getElem? (i := 351) (by decide +kernel), List.mem_of_getElem? (i := 352) (by decide +kernel)⟩
theorem lw_p7 : lw_okq (⟨"EverySecondWord$Reader", "applyAll", "()I"⟩, 4) := ⟨⟨by decide +kernel, by decide +kernel⟩, List.mem_of_getElem? (i := 160) (by decide +kernel), List.mem_of_getElem? (i := 376) (by decide +kernel), List.mem_of_getElem? (i := 377) (by decide +kernel)⟩
theorem lw_p8 : lw_okq (⟨"EverySecondWord$Reader", "applies", "(I)Z"⟩, 4) := ⟨⟨by decide +kernel, by decide +kernel⟩, List.mem_of_getElem? (i := 160) (by decide +kernel), List.mem_of_getElem? (i := 380) (by decide +kernel), List.mem_of_getElem? (i := 381) (by decide +kernel)⟩
theorem lw_p9 : lw_okq (⟨"EverySecondWord$Reader", "markAt", "(I)I"⟩, 4) := ⟨⟨by decide +kernel, by decide +kernel⟩, List.mem_of_getElem? (i := 160) (by decide +kernel), List.mem_of_getElem? (i := 384) (by decide +kernel), List.mem_of_getElem? (i := 385) (by decide +kernel)⟩
theorem lw_p10 : lw_okq (⟨"EverySecondWord$Reader", "wordsFrom", "(I)I"⟩, 4) := ⟨⟨by decide +kernel, by decide +kernel⟩, List.mem_of_getElem? (i := 160) (by decide +kernel), List.mem_of_getElem? (i := 403) (by decide +kernel), List.mem_of_getElem? (i := 404) (by decide +kernel)⟩
theorem lw_p11 : lw_okq (⟨"EverySecondWord$Reader", "signedDigitAt", "(I)I"⟩, 4) := ⟨⟨by decide +kernel, by decide +kernel⟩, List.mem_of_getElem? (i := 160) (by decide +kernel), List.mem_of_getElem? (i := 411) (by decide +kernel), List.mem_of_getElem? (i := 412) (by decide +kernel)⟩
theorem lw_p12 : lw_okq (⟨"EverySecondWord", "isNobody", "(I)Z"⟩, 11) := ⟨⟨by decide +kernel, by decide +kernel⟩, List.mem_of_getElem? (i := 17) (by decide +kernel), List.mem_of_getElem? (i := 444) (by decide +kernel), List.mem_of_getElem? (i := 445) (by decide +kernel)⟩
theorem lw_p13 : lw_okq (⟨"EverySecondWord", "worthRefused", "(I)I"⟩, 11) := ⟨⟨by decide +kernel, by decide +kernel⟩, List.mem_of_getElem? (i := 17) (by decide +kernel), List.mem_of_getElem? (i := 467) (by decide +kernel), List.mem_of_getElem? (i := 468) (by decide +kernel)⟩
theorem lw_p14 : lw_okq (⟨"EverySecondWord", "sayNow", "(I)I"⟩, 11) := ⟨⟨by decide +kernel, by decide +kernel⟩, List.mem_of_getElem? (i := 17) (by decide +kernel), List.mem_of_getElem? (i := 560) (by decide +kernel), List.mem_of_getElem? (i := 561) (by decide +kernel)⟩
theorem lw_p15 : lw_okq (⟨"EverySecondWord", "howTheTalkStands", "()I"⟩, 11) := ⟨⟨by decide +kernel, by decide +kernel⟩, List.mem_of_getElem? (i := 17) (by decide +kernel), List.mem_of_getElem? (i := 612) (by decide +kernel), List.mem_of_getElem? (i := 613) (by decide +kernel)⟩
def lw_privs_1 : List (MethodName × Nat) := [(⟨"EverySecondWord", "refused", "(I)I"⟩, 11), (⟨"EverySecondWord$Reader", "isWellFormed", "()Z"⟩, 4), (⟨"EverySecondWord$Reader", "isStatement", "()Z"⟩, 4), (⟨"EverySecondWord$Reader", "take", "(II)Z"⟩, 4), (⟨"EverySecondWord$Reader", "letter", "(I)I"⟩, 4), (⟨"EverySecondWord$Reader", "isEndOfRule", "()Z"⟩, 4), (⟨"EverySecondWord$Reader", "isEndOfPerson", "()Z"⟩, 4), (⟨"EverySecondWord$Reader", "applyAll", "()I"⟩, 4), (⟨"EverySecondWord$Reader", "applies", "(I)Z"⟩, 4), (⟨"EverySecondWord$Reader", "markAt", "(I)I"⟩, 4), (⟨"EverySecondWord$Reader", "wordsFrom", "(I)I"⟩, 4), (⟨"EverySecondWord$Reader", "signedDigitAt", "(I)I"⟩, 4), (⟨"EverySecondWord", "isNobody", "(I)Z"⟩, 11), (⟨"EverySecondWord", "worthRefused", "(I)I"⟩, 11), (⟨"EverySecondWord", "sayNow", "(I)I"⟩, 11), (⟨"EverySecondWord", "howTheTalkStands", "()I"⟩, 11)]
theorem lw_r1 : ∀ q ∈ lw_privs_1, lw_okq q := List.forall_mem_cons.mpr ⟨lw_p0, List.forall_mem_cons.mpr ⟨lw_p1, List.forall_mem_cons.mpr ⟨lw_p2, List.forall_mem_cons.mpr ⟨lw_p3, List.forall_mem_cons.mpr ⟨lw_p4, List.forall_mem_cons.mpr ⟨lw_p5, List.forall_mem_cons.mpr ⟨lw_p6, List.forall_mem_cons.mpr ⟨lw_p7, List.forall_mem_cons.mpr ⟨lw_p8, List.forall_mem_cons.mpr ⟨lw_p9, List.forall_mem_cons.mpr ⟨lw_p10, List.forall_mem_cons.mpr ⟨lw_p11, List.forall_mem_cons.mpr ⟨lw_p12, List.forall_mem_cons.mpr ⟨lw_p13, List.forall_mem_cons.mpr ⟨lw_p14, List.forall_mem_cons.mpr ⟨lw_p15, fun _ h => absurd h List.not_mem_nil⟩⟩⟩⟩⟩⟩⟩⟩⟩⟩⟩⟩⟩⟩⟩⟩
theorem lw_p16 : lw_okq (⟨"EverySecondWord$Mind", "weighAllEnds", "()V"⟩, 5) := ⟨⟨by decide +kernel, by decide +kernel⟩, List.mem_of_getElem? (i := 182) (by decide +kernel), List.mem_of_getElem? (i := 634) (by decide +kernel), List.mem_of_getElem? (i := 635) (by decide +kernel)⟩
theorem lw_p17 : lw_okq (⟨"EverySecondWord$Mind", "weighMeaning", "(II)I"⟩, 5) := ⟨⟨by decide +kernel, by decide +kernel⟩, List.mem_of_getElem? (i := 182) (by decide +kernel), List.mem_of_getElem? (i := 638) (by decide +kernel), List.mem_of_getElem? (i := 639) (by decide +kernel)⟩
theorem lw_p18 : lw_okq (⟨"EverySecondWord$Mind", "worthAt", "(II)I"⟩, 5) := ⟨⟨by decide +kernel, by decide +kernel⟩, List.mem_of_getElem? (i := 182) (by decide +kernel), List.mem_of_getElem? (i := 646) (by decide +kernel), List.mem_of_getElem? (i := 647) (by decide +kernel)⟩
theorem lw_p19 : lw_okq (⟨"EverySecondWord$Mind", "deedAt", "(I)I"⟩, 5) := ⟨⟨by decide +kernel, by decide +kernel⟩, List.mem_of_getElem? (i := 182) (by decide +kernel), List.mem_of_getElem? (i := 656) (by decide +kernel), List.mem_of_getElem? (i := 657) (by decide +kernel)⟩
theorem lw_p20 : lw_okq (⟨"EverySecondWord$Mind", "bestDeed", "(IIII)I"⟩, 5) := ⟨⟨by decide +kernel, by decide +kernel⟩, List.mem_of_getElem? (i := 182) (by decide +kernel), List.mem_of_getElem? (i := 666) (by decide +kernel), List.mem_of_getElem? (i := 667) (by decide +kernel)⟩
theorem lw_p21 : lw_okq (⟨"EverySecondWord$Mind", "weigh", "(IIII)I"⟩, 5) := ⟨⟨by decide +kernel, by decide +kernel⟩, List.mem_of_getElem? (i := 182) (by decide +kernel), List.mem_of_getElem? (i := 670) (by decide +kernel), List.mem_of_getElem? (i := 671) (by decide +kernel)⟩
theorem lw_p22 : lw_okq (⟨"EverySecondWord$Mind", "dreamAfter", "(III)I"⟩, 5) := ⟨⟨by decide +kernel, by decide +kernel⟩, List.mem_of_getElem? (i := 182) (by decide +kernel), List.mem_of_getElem? (i := 676) (by decide +kernel), List.mem_of_getElem? (i := 677) (by decide +kernel)⟩
theorem lw_p23 : lw_okq (⟨"EverySecondWord$Mind", "dreamFrom", "(II)I"⟩, 5) := ⟨⟨by decide +kernel, by decide +kernel⟩, List.mem_of_getElem? (i := 182) (by decide +kernel), List.mem_of_getElem? (i := 688) (by decide +kernel), List.mem_of_getElem? (i := 689) (by decide +kernel)⟩
theorem lw_p24 : lw_okq (⟨"EverySecondWord$Mind", "endAfter", "(II)I"⟩, 5) := ⟨⟨by decide +kernel, by decide +kernel⟩, List.mem_of_getElem? (i := 182) (by decide +kernel), List.mem_of_getElem? (i := 706) (by decide +kernel), List.mem_of_getElem? (i := 707) (by decide +kernel)⟩
theorem lw_p25 : lw_okq (⟨"EverySecondWord$Mind", "endFrom", "(I)I"⟩, 5) := ⟨⟨by decide +kernel, by decide +kernel⟩, List.mem_of_getElem? (i := 182) (by decide +kernel), List.mem_of_getElem? (i := 710) (by decide +kernel), List.mem_of_getElem? (i := 711) (by decide +kernel)⟩
theorem lw_p26 : lw_okq (⟨"EverySecondWord$Power", "ask", "(IJZ)V"⟩, 8) := ⟨⟨by decide +kernel, by decide +kernel⟩, List.mem_of_getElem? (i := 220) (by decide +kernel), List.mem_of_getElem? (i := 756) (by decide +kernel), List.mem_of_getElem? (i := 757) (by decide +kernel)⟩
theorem lw_p27 : lw_okq (⟨"EverySecondWord$Power", "ensuresFrom", "(I)Z"⟩, 8) := ⟨⟨by decide +kernel, by decide +kernel⟩, List.mem_of_getElem? (i := 220) (by decide +kernel), List.mem_of_getElem? (i := 762) (by decide +kernel), List.mem_of_getElem? (i := 763) (by decide +kernel)⟩
theorem lw_p28 : lw_okq (⟨"EverySecondWord$Power", "fillSets", "(I)V"⟩, 8) := ⟨⟨by decide +kernel, by decide +kernel⟩, List.mem_of_getElem? (i := 220) (by decide +kernel), List.mem_of_getElem? (i := 770) (by decide +kernel), List.mem_of_getElem? (i := 771) (by decide +kernel)⟩
theorem lw_p29 : lw_okq (⟨"EverySecondWord$Power", "withEnd", "(JIZZ)J"⟩, 8) := ⟨⟨by decide +kernel, by decide +kernel⟩, List.mem_of_getElem? (i := 220) (by decide +kernel), List.mem_of_getElem? (i := 783) (by decide +kernel), List.mem_of_getElem? (i := 784) (by decide +kernel)⟩
theorem lw_p30 : lw_okq (⟨"EverySecondWord$Power", "fillLengths", "(I)V"⟩, 8) := ⟨⟨by decide +kernel, by decide +kernel⟩, List.mem_of_getElem? (i := 220) (by decide +kernel), List.mem_of_getElem? (i := 806) (by decide +kernel), List.mem_of_getElem? (i := 807) (by decide +kernel)⟩
theorem lw_p31 : lw_okq (⟨"EverySecondWord$Power", "meaningsWorth", "(II)J"⟩, 8) := ⟨⟨by decide +kernel, by decide +kernel⟩, List.mem_of_getElem? (i := 220) (by decide +kernel), List.mem_of_getElem? (i := 825) (by decide +kernel), List.mem_of_getElem? (i := 826) (by decide +kernel)⟩
def lw_privs_2 : List (MethodName × Nat) := [(⟨"EverySecondWord$Mind", "weighAllEnds", "()V"⟩, 5), (⟨"EverySecondWord$Mind", "weighMeaning", "(II)I"⟩, 5), (⟨"EverySecondWord$Mind", "worthAt", "(II)I"⟩, 5), (⟨"EverySecondWord$Mind", "deedAt", "(I)I"⟩, 5), (⟨"EverySecondWord$Mind", "bestDeed", "(IIII)I"⟩, 5), (⟨"EverySecondWord$Mind", "weigh", "(IIII)I"⟩, 5), (⟨"EverySecondWord$Mind", "dreamAfter", "(III)I"⟩, 5), (⟨"EverySecondWord$Mind", "dreamFrom", "(II)I"⟩, 5), (⟨"EverySecondWord$Mind", "endAfter", "(II)I"⟩, 5), (⟨"EverySecondWord$Mind", "endFrom", "(I)I"⟩, 5), (⟨"EverySecondWord$Power", "ask", "(IJZ)V"⟩, 8), (⟨"EverySecondWord$Power", "ensuresFrom", "(I)Z"⟩, 8), (⟨"EverySecondWord$Power", "fillSets", "(I)V"⟩, 8), (⟨"EverySecondWord$Power", "withEnd", "(JIZZ)J"⟩, 8), (⟨"EverySecondWord$Power", "fillLengths", "(I)V"⟩, 8), (⟨"EverySecondWord$Power", "meaningsWorth", "(II)J"⟩, 8)]
theorem lw_r2 : ∀ q ∈ lw_privs_2, lw_okq q := List.forall_mem_cons.mpr ⟨lw_p16, List.forall_mem_cons.mpr ⟨lw_p17, List.forall_mem_cons.mpr ⟨lw_p18, List.forall_mem_cons.mpr ⟨lw_p19, List.forall_mem_cons.mpr ⟨lw_p20, List.forall_mem_cons.mpr ⟨lw_p21, List.forall_mem_cons.mpr ⟨lw_p22, List.forall_mem_cons.mpr ⟨lw_p23, List.forall_mem_cons.mpr ⟨lw_p24, List.forall_mem_cons.mpr ⟨lw_p25, List.forall_mem_cons.mpr ⟨lw_p26, List.forall_mem_cons.mpr ⟨lw_p27, List.forall_mem_cons.mpr ⟨lw_p28, List.forall_mem_cons.mpr ⟨lw_p29, List.forall_mem_cons.mpr ⟨lw_p30, List.forall_mem_cons.mpr ⟨lw_p31, fun _ h => absurd h List.not_mem_nil⟩⟩⟩⟩⟩⟩⟩⟩⟩⟩⟩⟩⟩⟩⟩⟩
theorem lw_p32 : lw_okq (⟨"EverySecondWord$Reach", "goOn", "(I)V"⟩, 4) := ⟨⟨by decide +kernel, by decide +kernel⟩, List.mem_of_getElem? (i := 252) (by decide +kernel), List.mem_of_getElem? (i := 846) (by decide +kernel), List.mem_of_getElem? (i := 847) (by decide +kernel)⟩
theorem lw_p33 : lw_okq (⟨"EverySecondWord$Beginnings", "digitsOf", "(I)I"⟩, 3) := ⟨⟨by decide +kernel, by decide +kernel⟩, List.mem_of_getElem? (i := 204) (by decide +kernel), List.mem_of_getElem? (i := 894) (by decide +kernel), List.mem_of_getElem? (i := 895) (by decide +kernel)⟩
theorem lw_p34 : lw_okq (⟨"EverySecondWord$Power", "ensuresWithout", "(I)Z"⟩, 8) := ⟨⟨by decide +kernel, by decide +kernel⟩, List.mem_of_getElem? (i := 220) (by decide +kernel), List.mem_of_getElem? (i := 948) (by decide +kernel), List.mem_of_getElem? (i := 949) (by decide +kernel)⟩
theorem lw_p35 : lw_okq (⟨"EverySecondWord$Mind", "fits", "(I)Z"⟩, 5) := ⟨⟨by decide +kernel, by decide +kernel⟩, List.mem_of_getElem? (i := 182) (by decide +kernel), List.mem_of_getElem? (i := 961) (by decide +kernel), List.mem_of_getElem? (i := 962) (by decide +kernel)⟩
theorem lw_p36 : lw_okq (⟨"EverySecondWord$Beginnings", "endBySeed", "()I"⟩, 3) := ⟨⟨by decide +kernel, by decide +kernel⟩, List.mem_of_getElem? (i := 204) (by decide +kernel), List.mem_of_getElem? (i := 989) (by decide +kernel), List.mem_of_getElem? (i := 990) (by decide +kernel)⟩
theorem lw_p37 : lw_okq (⟨"EverySecondWord$Beginnings", "draw", "(I)I"⟩, 3) := ⟨⟨by decide +kernel, by decide +kernel⟩, List.mem_of_getElem? (i := 204) (by decide +kernel), List.mem_of_getElem? (i := 1000) (by decide +kernel), List.mem_of_getElem? (i := 1001) (by decide +kernel)⟩
theorem lw_p38 : lw_okq (⟨"EverySecondWordModel", "no", "(I)I"⟩, 47) := ⟨⟨by decide +kernel, by decide +kernel⟩, List.mem_of_getElem? (i := 1025) (by decide +kernel), List.mem_of_getElem? (i := 1181) (by decide +kernel), List.mem_of_getElem? (i := 1182) (by decide +kernel)⟩
theorem lw_p39 : lw_okq (⟨"EverySecondWordModel", "statement", "()Z"⟩, 47) := ⟨⟨by decide +kernel, by decide +kernel⟩, List.mem_of_getElem? (i := 1025) (by decide +kernel), List.mem_of_getElem? (i := 1189) (by decide +kernel), List.mem_of_getElem? (i := 1190) (by decide +kernel)⟩
theorem lw_p40 : lw_okq (⟨"EverySecondWordModel", "next", "()I"⟩, 47) := ⟨⟨by decide +kernel, by decide +kernel⟩, List.mem_of_getElem? (i := 1025) (by decide +kernel), List.mem_of_getElem? (i := 1193) (by decide +kernel), List.mem_of_getElem? (i := 1194) (by decide +kernel)⟩
theorem lw_p41 : lw_okq (⟨"EverySecondWordModel", "readsRule", "(I)Z"⟩, 47) := ⟨⟨by decide +kernel, by decide +kernel⟩, List.mem_of_getElem? (i := 1025) (by decide +kernel), List.mem_of_getElem? (i := 1197) (by decide +kernel), List.mem_of_getElem? (i := 1198) (by decide +kernel)⟩
theorem lw_p42 : lw_okq (⟨"EverySecondWordModel", "takes", "(II)I"⟩, 47) := ⟨⟨by decide +kernel, by decide +kernel⟩, List.mem_of_getElem? (i := 1025) (by decide +kernel), List.mem_of_getElem? (i := 1201) (by decide +kernel), List.mem_of_getElem? (i := 1202) (by decide +kernel)⟩
theorem lw_p43 : lw_okq (⟨"EverySecondWordModel", "readsPerson", "(I)Z"⟩, 47) := ⟨⟨by decide +kernel, by decide +kernel⟩, List.mem_of_getElem? (i := 1025) (by decide +kernel), List.mem_of_getElem? (i := 1208) (by decide +kernel), List.mem_of_getElem? (i := 1209) (by decide +kernel)⟩
theorem lw_p44 : lw_okq (⟨"EverySecondWordModel", "readsWorth", "(I)Z"⟩, 47) := ⟨⟨by decide +kernel, by decide +kernel⟩, List.mem_of_getElem? (i := 1025) (by decide +kernel), List.mem_of_getElem? (i := 1212) (by decide +kernel), List.mem_of_getElem? (i := 1213) (by decide +kernel)⟩
theorem lw_p45 : lw_okq (⟨"EverySecondWordModel", "passesAll", "(IZ)V"⟩, 47) := ⟨⟨by decide +kernel, by decide +kernel⟩, List.mem_of_getElem? (i := 1025) (by decide +kernel), List.mem_of_getElem? (i := 1216) (by decide +kernel), List.mem_of_getElem? (i := 1217) (by decide +kernel)⟩
theorem lw_p46 : lw_okq (⟨"EverySecondWordModel", "passes", "([I)V"⟩, 47) := ⟨⟨by decide +kernel, by decide +kernel⟩, List.mem_of_getElem? (i := 1025) (by decide +kernel), List.mem_of_getElem? (i := 1220) (by decide +kernel), List.mem_of_getElem? (i := 1221) (by decide +kernel)⟩
theorem lw_p47 : lw_okq (⟨"EverySecondWordModel", "passOne", "(I)I"⟩, 47) := ⟨⟨by decide +kernel, by decide +kernel⟩, List.mem_of_getElem? (i := 1025) (by decide +kernel), List.mem_of_getElem? (i := 1224) (by decide +kernel), List.mem_of_getElem? (i := 1225) (by decide +kernel)⟩
def lw_privs_3 : List (MethodName × Nat) := [(⟨"EverySecondWord$Reach", "goOn", "(I)V"⟩, 4), (⟨"EverySecondWord$Beginnings", "digitsOf", "(I)I"⟩, 3), (⟨"EverySecondWord$Power", "ensuresWithout", "(I)Z"⟩, 8), (⟨"EverySecondWord$Mind", "fits", "(I)Z"⟩, 5), (⟨"EverySecondWord$Beginnings", "endBySeed", "()I"⟩, 3), (⟨"EverySecondWord$Beginnings", "draw", "(I)I"⟩, 3), (⟨"EverySecondWordModel", "no", "(I)I"⟩, 47), (⟨"EverySecondWordModel", "statement", "()Z"⟩, 47), (⟨"EverySecondWordModel", "next", "()I"⟩, 47), (⟨"EverySecondWordModel", "readsRule", "(I)Z"⟩, 47), (⟨"EverySecondWordModel", "takes", "(II)I"⟩, 47), (⟨"EverySecondWordModel", "readsPerson", "(I)Z"⟩, 47), (⟨"EverySecondWordModel", "readsWorth", "(I)Z"⟩, 47), (⟨"EverySecondWordModel", "passesAll", "(IZ)V"⟩, 47), (⟨"EverySecondWordModel", "passes", "([I)V"⟩, 47), (⟨"EverySecondWordModel", "passOne", "(I)I"⟩, 47)]
theorem lw_r3 : ∀ q ∈ lw_privs_3, lw_okq q := List.forall_mem_cons.mpr ⟨lw_p32, List.forall_mem_cons.mpr ⟨lw_p33, List.forall_mem_cons.mpr ⟨lw_p34, List.forall_mem_cons.mpr ⟨lw_p35, List.forall_mem_cons.mpr ⟨lw_p36, List.forall_mem_cons.mpr ⟨lw_p37, List.forall_mem_cons.mpr ⟨lw_p38, List.forall_mem_cons.mpr ⟨lw_p39, List.forall_mem_cons.mpr ⟨lw_p40, List.forall_mem_cons.mpr ⟨lw_p41, List.forall_mem_cons.mpr ⟨lw_p42, List.forall_mem_cons.mpr ⟨lw_p43, List.forall_mem_cons.mpr ⟨lw_p44, List.forall_mem_cons.mpr ⟨lw_p45, List.forall_mem_cons.mpr ⟨lw_p46, List.forall_mem_cons.mpr ⟨lw_p47, fun _ h => absurd h List.not_mem_nil⟩⟩⟩⟩⟩⟩⟩⟩⟩⟩⟩⟩⟩⟩⟩⟩
theorem lw_p48 : lw_okq (⟨"EverySecondWordModel", "comes", "(I)Z"⟩, 47) := ⟨⟨by decide +kernel, by decide +kernel⟩, List.mem_of_getElem? (i := 1025) (by decide +kernel), List.mem_of_getElem? (i := 1228) (by decide +kernel), List.mem_of_getElem? (i := 1229) (by decide +kernel)⟩
theorem lw_p49 : lw_okq (⟨"EverySecondWordModel", "ruleAt", "(II)I"⟩, 47) := ⟨⟨by decide +kernel, by decide +kernel⟩, List.mem_of_getElem? (i := 1025) (by decide +kernel), List.mem_of_getElem? (i := 1232) (by decide +kernel), List.mem_of_getElem? (i := 1233) (by decide +kernel)⟩
theorem lw_p50 : lw_okq (⟨"EverySecondWordModel", "isEnd", "(I)Z"⟩, 47) := ⟨⟨by decide +kernel, by decide +kernel⟩, List.mem_of_getElem? (i := 1025) (by decide +kernel), List.mem_of_getElem? (i := 1236) (by decide +kernel), List.mem_of_getElem? (i := 1237) (by decide +kernel)⟩
theorem lw_p51 : lw_okq (⟨"EverySecondWordModel", "isOne", "(I)Z"⟩, 47) := ⟨⟨by decide +kernel, by decide +kernel⟩, List.mem_of_getElem? (i := 1025) (by decide +kernel), List.mem_of_getElem? (i := 1240) (by decide +kernel), List.mem_of_getElem? (i := 1241) (by decide +kernel)⟩
theorem lw_p52 : lw_okq (⟨"EverySecondWordModel", "placeOf", "(I)I"⟩, 47) := ⟨⟨by decide +kernel, by decide +kernel⟩, List.mem_of_getElem? (i := 1025) (by decide +kernel), List.mem_of_getElem? (i := 1264) (by decide +kernel), List.mem_of_getElem? (i := 1265) (by decide +kernel)⟩
theorem lw_p53 : lw_okq (⟨"EverySecondWordModel", "lower", "(I)I"⟩, 47) := ⟨⟨by decide +kernel, by decide +kernel⟩, List.mem_of_getElem? (i := 1025) (by decide +kernel), List.mem_of_getElem? (i := 1272) (by decide +kernel), List.mem_of_getElem? (i := 1273) (by decide +kernel)⟩
theorem lw_p54 : lw_okq (⟨"EverySecondWordModel", "orderDigits", "()I"⟩, 47) := ⟨⟨by decide +kernel, by decide +kernel⟩, List.mem_of_getElem? (i := 1025) (by decide +kernel), List.mem_of_getElem? (i := 1297) (by decide +kernel), List.mem_of_getElem? (i := 1298) (by decide +kernel)⟩
theorem lw_p55 : lw_okq (⟨"EverySecondWordModel", "findTables", "()V"⟩, 47) := ⟨⟨by decide +kernel, by decide +kernel⟩, List.mem_of_getElem? (i := 1025) (by decide +kernel), List.mem_of_getElem? (i := 1305) (by decide +kernel), List.mem_of_getElem? (i := 1306) (by decide +kernel)⟩
theorem lw_p56 : lw_okq (⟨"EverySecondWordModel", "ruleNow", "(II)I"⟩, 47) := ⟨⟨by decide +kernel, by decide +kernel⟩, List.mem_of_getElem? (i := 1025) (by decide +kernel), List.mem_of_getElem? (i := 1309) (by decide +kernel), List.mem_of_getElem? (i := 1310) (by decide +kernel)⟩
theorem lw_p57 : lw_okq (⟨"EverySecondWordModel", "mayAt", "(II)I"⟩, 47) := ⟨⟨by decide +kernel, by decide +kernel⟩, List.mem_of_getElem? (i := 1025) (by decide +kernel), List.mem_of_getElem? (i := 1313) (by decide +kernel), List.mem_of_getElem? (i := 1314) (by decide +kernel)⟩
theorem lw_p58 : lw_okq (⟨"EverySecondWordModel", "turnAt", "(I)I"⟩, 47) := ⟨⟨by decide +kernel, by decide +kernel⟩, List.mem_of_getElem? (i := 1025) (by decide +kernel), List.mem_of_getElem? (i := 1317) (by decide +kernel), List.mem_of_getElem? (i := 1318) (by decide +kernel)⟩
theorem lw_p59 : lw_okq (⟨"EverySecondWordModel", "says", "(I)V"⟩, 47) := ⟨⟨by decide +kernel, by decide +kernel⟩, List.mem_of_getElem? (i := 1025) (by decide +kernel), List.mem_of_getElem? (i := 1321) (by decide +kernel), List.mem_of_getElem? (i := 1322) (by decide +kernel)⟩
theorem lw_p60 : lw_okq (⟨"EverySecondWordModel", "mayStop", "()Z"⟩, 47) := ⟨⟨by decide +kernel, by decide +kernel⟩, List.mem_of_getElem? (i := 1025) (by decide +kernel), List.mem_of_getElem? (i := 1329) (by decide +kernel), List.mem_of_getElem? (i := 1330) (by decide +kernel)⟩
theorem lw_p61 : lw_okq (⟨"EverySecondWordModel", "replays", "(I)V"⟩, 47) := ⟨⟨by decide +kernel, by decide +kernel⟩, List.mem_of_getElem? (i := 1025) (by decide +kernel), List.mem_of_getElem? (i := 1337) (by decide +kernel), List.mem_of_getElem? (i := 1338) (by decide +kernel)⟩
theorem lw_p62 : lw_okq (⟨"EverySecondWordModel", "howIs", "()I"⟩, 47) := ⟨⟨by decide +kernel, by decide +kernel⟩, List.mem_of_getElem? (i := 1025) (by decide +kernel), List.mem_of_getElem? (i := 1349) (by decide +kernel), List.mem_of_getElem? (i := 1350) (by decide +kernel)⟩
theorem lw_p63 : lw_okq (⟨"EverySecondWordModel", "fillAll", "()V"⟩, 47) := ⟨⟨by decide +kernel, by decide +kernel⟩, List.mem_of_getElem? (i := 1025) (by decide +kernel), List.mem_of_getElem? (i := 1357) (by decide +kernel), List.mem_of_getElem? (i := 1358) (by decide +kernel)⟩
def lw_privs_4 : List (MethodName × Nat) := [(⟨"EverySecondWordModel", "comes", "(I)Z"⟩, 47), (⟨"EverySecondWordModel", "ruleAt", "(II)I"⟩, 47), (⟨"EverySecondWordModel", "isEnd", "(I)Z"⟩, 47), (⟨"EverySecondWordModel", "isOne", "(I)Z"⟩, 47), (⟨"EverySecondWordModel", "placeOf", "(I)I"⟩, 47), (⟨"EverySecondWordModel", "lower", "(I)I"⟩, 47), (⟨"EverySecondWordModel", "orderDigits", "()I"⟩, 47), (⟨"EverySecondWordModel", "findTables", "()V"⟩, 47), (⟨"EverySecondWordModel", "ruleNow", "(II)I"⟩, 47), (⟨"EverySecondWordModel", "mayAt", "(II)I"⟩, 47), (⟨"EverySecondWordModel", "turnAt", "(I)I"⟩, 47), (⟨"EverySecondWordModel", "says", "(I)V"⟩, 47), (⟨"EverySecondWordModel", "mayStop", "()Z"⟩, 47), (⟨"EverySecondWordModel", "replays", "(I)V"⟩, 47), (⟨"EverySecondWordModel", "howIs", "()I"⟩, 47), (⟨"EverySecondWordModel", "fillAll", "()V"⟩, 47)]
theorem lw_r4 : ∀ q ∈ lw_privs_4, lw_okq q := List.forall_mem_cons.mpr ⟨lw_p48, List.forall_mem_cons.mpr ⟨lw_p49, List.forall_mem_cons.mpr ⟨lw_p50, List.forall_mem_cons.mpr ⟨lw_p51, List.forall_mem_cons.mpr ⟨lw_p52, List.forall_mem_cons.mpr ⟨lw_p53, List.forall_mem_cons.mpr ⟨lw_p54, List.forall_mem_cons.mpr ⟨lw_p55, List.forall_mem_cons.mpr ⟨lw_p56, List.forall_mem_cons.mpr ⟨lw_p57, List.forall_mem_cons.mpr ⟨lw_p58, List.forall_mem_cons.mpr ⟨lw_p59, List.forall_mem_cons.mpr ⟨lw_p60, List.forall_mem_cons.mpr ⟨lw_p61, List.forall_mem_cons.mpr ⟨lw_p62, List.forall_mem_cons.mpr ⟨lw_p63, fun _ h => absurd h List.not_mem_nil⟩⟩⟩⟩⟩⟩⟩⟩⟩⟩⟩⟩⟩⟩⟩⟩
theorem lw_p64 : lw_okq (⟨"EverySecondWordModel", "fillMind", "(I)V"⟩, 47) := ⟨⟨by decide +kernel, by decide +kernel⟩, List.mem_of_getElem? (i := 1025) (by decide +kernel), List.mem_of_getElem? (i := 1361) (by decide +kernel), List.mem_of_getElem? (i := 1362) (by decide +kernel)⟩
theorem lw_p65 : lw_okq (⟨"EverySecondWordModel", "endAt", "(II)I"⟩, 47) := ⟨⟨by decide +kernel, by decide +kernel⟩, List.mem_of_getElem? (i := 1025) (by decide +kernel), List.mem_of_getElem? (i := 1368) (by decide +kernel), List.mem_of_getElem? (i := 1369) (by decide +kernel)⟩
theorem lw_p66 : lw_okq (⟨"EverySecondWordModel", "blindChoice", "(IIII)I"⟩, 47) := ⟨⟨by decide +kernel, by decide +kernel⟩, List.mem_of_getElem? (i := 1025) (by decide +kernel), List.mem_of_getElem? (i := 1372) (by decide +kernel), List.mem_of_getElem? (i := 1373) (by decide +kernel)⟩
theorem lw_p67 : lw_okq (⟨"EverySecondWordModel", "afterWord", "(IIII)I"⟩, 47) := ⟨⟨by decide +kernel, by decide +kernel⟩, List.mem_of_getElem? (i := 1025) (by decide +kernel), List.mem_of_getElem? (i := 1376) (by decide +kernel), List.mem_of_getElem? (i := 1377) (by decide +kernel)⟩
theorem lw_p68 : lw_okq (⟨"EverySecondWordModel", "endWorth", "(II)I"⟩, 47) := ⟨⟨by decide +kernel, by decide +kernel⟩, List.mem_of_getElem? (i := 1025) (by decide +kernel), List.mem_of_getElem? (i := 1380) (by decide +kernel), List.mem_of_getElem? (i := 1381) (by decide +kernel)⟩
theorem lw_p69 : lw_okq (⟨"EverySecondWordModel", "choiceAt", "(III)I"⟩, 47) := ⟨⟨by decide +kernel, by decide +kernel⟩, List.mem_of_getElem? (i := 1025) (by decide +kernel), List.mem_of_getElem? (i := 1387) (by decide +kernel), List.mem_of_getElem? (i := 1388) (by decide +kernel)⟩
theorem lw_p70 : lw_okq (⟨"EverySecondWordModel", "greedyChoice", "(IIII)I"⟩, 47) := ⟨⟨by decide +kernel, by decide +kernel⟩, List.mem_of_getElem? (i := 1025) (by decide +kernel), List.mem_of_getElem? (i := 1391) (by decide +kernel), List.mem_of_getElem? (i := 1392) (by decide +kernel)⟩
theorem lw_p71 : lw_okq (⟨"EverySecondWordModel", "aheadChoice", "(IIIII)I"⟩, 47) := ⟨⟨by decide +kernel, by decide +kernel⟩, List.mem_of_getElem? (i := 1025) (by decide +kernel), List.mem_of_getElem? (i := 1395) (by decide +kernel), List.mem_of_getElem? (i := 1396) (by decide +kernel)⟩
theorem lw_p72 : lw_okq (⟨"EverySecondWordModel", "goodTo", "(III)I"⟩, 47) := ⟨⟨by decide +kernel, by decide +kernel⟩, List.mem_of_getElem? (i := 1025) (by decide +kernel), List.mem_of_getElem? (i := 1399) (by decide +kernel), List.mem_of_getElem? (i := 1400) (by decide +kernel)⟩
theorem lw_p73 : lw_okq (⟨"EverySecondWordModel", "endNow", "()I"⟩, 47) := ⟨⟨by decide +kernel, by decide +kernel⟩, List.mem_of_getElem? (i := 1025) (by decide +kernel), List.mem_of_getElem? (i := 1411) (by decide +kernel), List.mem_of_getElem? (i := 1412) (by decide +kernel)⟩
theorem lw_p74 : lw_okq (⟨"EverySecondWordModel", "sureNow", "(III)I"⟩, 47) := ⟨⟨by decide +kernel, by decide +kernel⟩, List.mem_of_getElem? (i := 1025) (by decide +kernel), List.mem_of_getElem? (i := 1423) (by decide +kernel), List.mem_of_getElem? (i := 1424) (by decide +kernel)⟩
theorem lw_p75 : lw_okq (⟨"EverySecondWordModel", "fillGame", "(III)V"⟩, 47) := ⟨⟨by decide +kernel, by decide +kernel⟩, List.mem_of_getElem? (i := 1025) (by decide +kernel), List.mem_of_getElem? (i := 1427) (by decide +kernel), List.mem_of_getElem? (i := 1428) (by decide +kernel)⟩
theorem lw_p76 : lw_okq (⟨"EverySecondWordModel", "gameAt", "(IIIIII)I"⟩, 47) := ⟨⟨by decide +kernel, by decide +kernel⟩, List.mem_of_getElem? (i := 1025) (by decide +kernel), List.mem_of_getElem? (i := 1431) (by decide +kernel), List.mem_of_getElem? (i := 1432) (by decide +kernel)⟩
theorem lw_p77 : lw_okq (⟨"EverySecondWordModel", "counts", "(IIIII)I"⟩, 47) := ⟨⟨by decide +kernel, by decide +kernel⟩, List.mem_of_getElem? (i := 1025) (by decide +kernel), List.mem_of_getElem? (i := 1435) (by decide +kernel), List.mem_of_getElem? (i := 1436) (by decide +kernel)⟩
theorem lw_p78 : lw_okq (⟨"EverySecondWordModel", "fillMeant", "()V"⟩, 47) := ⟨⟨by decide +kernel, by decide +kernel⟩, List.mem_of_getElem? (i := 1025) (by decide +kernel), List.mem_of_getElem? (i := 1459) (by decide +kernel), List.mem_of_getElem? (i := 1460) (by decide +kernel)⟩
theorem lw_p79 : lw_okq (⟨"EverySecondWordModel", "fromStart", "(I)I"⟩, 47) := ⟨⟨by decide +kernel, by decide +kernel⟩, List.mem_of_getElem? (i := 1025) (by decide +kernel), List.mem_of_getElem? (i := 1471) (by decide +kernel), List.mem_of_getElem? (i := 1472) (by decide +kernel)⟩
def lw_privs_5 : List (MethodName × Nat) := [(⟨"EverySecondWordModel", "fillMind", "(I)V"⟩, 47), (⟨"EverySecondWordModel", "endAt", "(II)I"⟩, 47), (⟨"EverySecondWordModel", "blindChoice", "(IIII)I"⟩, 47), (⟨"EverySecondWordModel", "afterWord", "(IIII)I"⟩, 47), (⟨"EverySecondWordModel", "endWorth", "(II)I"⟩, 47), (⟨"EverySecondWordModel", "choiceAt", "(III)I"⟩, 47), (⟨"EverySecondWordModel", "greedyChoice", "(IIII)I"⟩, 47), (⟨"EverySecondWordModel", "aheadChoice", "(IIIII)I"⟩, 47), (⟨"EverySecondWordModel", "goodTo", "(III)I"⟩, 47), (⟨"EverySecondWordModel", "endNow", "()I"⟩, 47), (⟨"EverySecondWordModel", "sureNow", "(III)I"⟩, 47), (⟨"EverySecondWordModel", "fillGame", "(III)V"⟩, 47), (⟨"EverySecondWordModel", "gameAt", "(IIIIII)I"⟩, 47), (⟨"EverySecondWordModel", "counts", "(IIIII)I"⟩, 47), (⟨"EverySecondWordModel", "fillMeant", "()V"⟩, 47), (⟨"EverySecondWordModel", "fromStart", "(I)I"⟩, 47)]
theorem lw_r5 : ∀ q ∈ lw_privs_5, lw_okq q := List.forall_mem_cons.mpr ⟨lw_p64, List.forall_mem_cons.mpr ⟨lw_p65, List.forall_mem_cons.mpr ⟨lw_p66, List.forall_mem_cons.mpr ⟨lw_p67, List.forall_mem_cons.mpr ⟨lw_p68, List.forall_mem_cons.mpr ⟨lw_p69, List.forall_mem_cons.mpr ⟨lw_p70, List.forall_mem_cons.mpr ⟨lw_p71, List.forall_mem_cons.mpr ⟨lw_p72, List.forall_mem_cons.mpr ⟨lw_p73, List.forall_mem_cons.mpr ⟨lw_p74, List.forall_mem_cons.mpr ⟨lw_p75, List.forall_mem_cons.mpr ⟨lw_p76, List.forall_mem_cons.mpr ⟨lw_p77, List.forall_mem_cons.mpr ⟨lw_p78, List.forall_mem_cons.mpr ⟨lw_p79, fun _ h => absurd h List.not_mem_nil⟩⟩⟩⟩⟩⟩⟩⟩⟩⟩⟩⟩⟩⟩⟩⟩
theorem lw_p80 : lw_okq (⟨"EverySecondWordModel", "nextOrder", "()Z"⟩, 47) := ⟨⟨by decide +kernel, by decide +kernel⟩, List.mem_of_getElem? (i := 1025) (by decide +kernel), List.mem_of_getElem? (i := 1479) (by decide +kernel), List.mem_of_getElem? (i := 1480) (by decide +kernel)⟩
theorem lw_p81 : lw_okq (⟨"EverySecondWordModel", "worthWith", "(IIZ)I"⟩, 47) := ⟨⟨by decide +kernel, by decide +kernel⟩, List.mem_of_getElem? (i := 1025) (by decide +kernel), List.mem_of_getElem? (i := 1487) (by decide +kernel), List.mem_of_getElem? (i := 1488) (by decide +kernel)⟩
theorem lw_p82 : lw_okq (⟨"EverySecondWordModel", "canForce", "(III)Z"⟩, 47) := ⟨⟨by decide +kernel, by decide +kernel⟩, List.mem_of_getElem? (i := 1025) (by decide +kernel), List.mem_of_getElem? (i := 1511) (by decide +kernel), List.mem_of_getElem? (i := 1512) (by decide +kernel)⟩
theorem lw_p83 : lw_okq (⟨"EverySecondWordModel", "didAs", "(I)Z"⟩, 47) := ⟨⟨by decide +kernel, by decide +kernel⟩, List.mem_of_getElem? (i := 1025) (by decide +kernel), List.mem_of_getElem? (i := 1519) (by decide +kernel), List.mem_of_getElem? (i := 1520) (by decide +kernel)⟩
theorem lw_p84 : lw_okq (⟨"EverySecondWordModel", "drawnEnd", "()I"⟩, 47) := ⟨⟨by decide +kernel, by decide +kernel⟩, List.mem_of_getElem? (i := 1025) (by decide +kernel), List.mem_of_getElem? (i := 1535) (by decide +kernel), List.mem_of_getElem? (i := 1536) (by decide +kernel)⟩
theorem lw_p85 : lw_okq (⟨"EverySecondWordModel", "draw", "(I)I"⟩, 47) := ⟨⟨by decide +kernel, by decide +kernel⟩, List.mem_of_getElem? (i := 1025) (by decide +kernel), List.mem_of_getElem? (i := 1542) (by decide +kernel), List.mem_of_getElem? (i := 1543) (by decide +kernel)⟩
def lw_privs_6 : List (MethodName × Nat) := [(⟨"EverySecondWordModel", "nextOrder", "()Z"⟩, 47), (⟨"EverySecondWordModel", "worthWith", "(IIZ)I"⟩, 47), (⟨"EverySecondWordModel", "canForce", "(III)Z"⟩, 47), (⟨"EverySecondWordModel", "didAs", "(I)Z"⟩, 47), (⟨"EverySecondWordModel", "drawnEnd", "()I"⟩, 47), (⟨"EverySecondWordModel", "draw", "(I)I"⟩, 47)]
theorem lw_r6 : ∀ q ∈ lw_privs_6, lw_okq q := List.forall_mem_cons.mpr ⟨lw_p80, List.forall_mem_cons.mpr ⟨lw_p81, List.forall_mem_cons.mpr ⟨lw_p82, List.forall_mem_cons.mpr ⟨lw_p83, List.forall_mem_cons.mpr ⟨lw_p84, List.forall_mem_cons.mpr ⟨lw_p85, fun _ h => absurd h List.not_mem_nil⟩⟩⟩⟩⟩⟩
def lw_privs : List (MethodName × Nat) := lw_privs_1 ++ (lw_privs_2 ++ (lw_privs_3 ++ (lw_privs_4 ++ (lw_privs_5 ++ (lw_privs_6)))))
def lw_tbl : List Cond := k2_sels lw_privs ++ tables_1
theorem lw_privs_ok : ∀ q ∈ lw_privs, lw_okq q := by
  show ∀ q ∈ lw_privs_1 ++ (lw_privs_2 ++ (lw_privs_3 ++ (lw_privs_4 ++ (lw_privs_5 ++ (lw_privs_6))))), lw_okq q
  exact List.forall_mem_append.mpr ⟨lw_r1, List.forall_mem_append.mpr ⟨lw_r2, List.forall_mem_append.mpr ⟨lw_r3, List.forall_mem_append.mpr ⟨lw_r4, List.forall_mem_append.mpr ⟨lw_r5, lw_r6⟩⟩⟩⟩⟩
def RX0 : String := "EverySecondWord$Beginnings"
def TX0 : u_T := fun k => match k with
  | 0 => ("EverySecondWord$Beginnings", "world", "LEverySecondWord$World;", true)
  | 1 => ("EverySecondWord$Beginnings", "mind", "LEverySecondWord$Mind;", true)
  | _ => ("EverySecondWord$Beginnings", "seed", "I", false)
def tyX0 : Nat → FieldType := fun k => match k with
  | 0 => .object "EverySecondWord$World"
  | 1 => .object "EverySecondWord$Mind"
  | _ => .int
theorem nmX0 : ∀ a, a < 3 → ∀ b, b < 3 → a ≠ b → (TX0 a).2.1 ≠ (TX0 b).2.1 := by decide +kernel
theorem tyX0_ok : ∀ k, k < 3 → parseFieldDescriptor (TX0 k).2.2.1 = some (tyX0 k) := by decide +kernel
abbrev cX0_init : ByteArray := prog_2_method_1_code
def yX0_init : MethodName := ⟨RX0, "<init>", "(LEverySecondWord$World;LEverySecondWord$Mind;)V"⟩
abbrev cX0_bestTurning : ByteArray := prog_2_method_2_code
def yX0_bestTurning : MethodName := ⟨RX0, "bestTurning", "(I)I"⟩
abbrev cX0_bestOrder : ByteArray := prog_2_method_3_code
def yX0_bestOrder : MethodName := ⟨RX0, "bestOrder", "(I)I"⟩
abbrev cX0_digitsOf : ByteArray := prog_2_method_4_code
def yX0_digitsOf : MethodName := ⟨RX0, "digitsOf", "(I)I"⟩
abbrev cX0_bestWord : ByteArray := prog_2_method_5_code
def yX0_bestWord : MethodName := ⟨RX0, "bestWord", "(I)I"⟩
abbrev cX0_gain : ByteArray := prog_2_method_6_code
def yX0_gain : MethodName := ⟨RX0, "gain", "(IIZ)I"⟩
abbrev cX0_gainOfSight : ByteArray := prog_2_method_7_code
def yX0_gainOfSight : MethodName := ⟨RX0, "gainOfSight", "(I)I"⟩
abbrev cX0_bestKind : ByteArray := prog_2_method_8_code
def yX0_bestKind : MethodName := ⟨RX0, "bestKind", "(I)I"⟩
abbrev cX0_sumOfTalks : ByteArray := prog_2_method_9_code
def yX0_sumOfTalks : MethodName := ⟨RX0, "sumOfTalks", "(III)I"⟩
abbrev cX0_endBySeed : ByteArray := prog_2_method_10_code
def yX0_endBySeed : MethodName := ⟨RX0, "endBySeed", "()I"⟩
abbrev cX0_draw : ByteArray := prog_2_method_11_code
def yX0_draw : MethodName := ⟨RX0, "draw", "(I)I"⟩
def RX1 : String := "EverySecondWord$Grammar"
def TX1 : u_T := fun k => match k with
  | 0 => ("EverySecondWord$Grammar", "from", "[I", true)
  | 1 => ("EverySecondWord$Grammar", "by", "[I", true)
  | 2 => ("EverySecondWord$Grammar", "to", "[I", true)
  | 3 => ("EverySecondWord$Grammar", "mark", "[I", true)
  | 4 => ("EverySecondWord$Grammar", "ruleBy", "[I", true)
  | 5 => ("EverySecondWord$Grammar", "wordsFrom", "[I", true)
  | 6 => ("EverySecondWord$Grammar", "size", "I", false)
  | _ => ("EverySecondWord$Grammar", "ends", "I", false)
def tyX1 : Nat → FieldType := fun k => match k with
  | 0 => .array .int
  | 1 => .array .int
  | 2 => .array .int
  | 3 => .array .int
  | 4 => .array .int
  | 5 => .array .int
  | 6 => .int
  | _ => .int
theorem nmX1 : ∀ a, a < 8 → ∀ b, b < 8 → a ≠ b → (TX1 a).2.1 ≠ (TX1 b).2.1 := by decide +kernel
theorem tyX1_ok : ∀ k, k < 8 → parseFieldDescriptor (TX1 k).2.2.1 = some (tyX1 k) := by decide +kernel
abbrev cX1_init : ByteArray := prog_3_method_1_code
def yX1_init : MethodName := ⟨RX1, "<init>", "()V"⟩
abbrev cX1_copyFrom : ByteArray := prog_3_method_2_code
def yX1_copyFrom : MethodName := ⟨RX1, "copyFrom", "(LEverySecondWord$Grammar;)V"⟩
abbrev cX1_addRule : ByteArray := prog_3_method_3_code
def yX1_addRule : MethodName := ⟨RX1, "addRule", "(IIII)Z"⟩
abbrev cX1_addEnd : ByteArray := prog_3_method_4_code
def yX1_addEnd : MethodName := ⟨RX1, "addEnd", "(I)Z"⟩
abbrev cX1_isEnd : ByteArray := prog_3_method_5_code
def yX1_isEnd : MethodName := ⟨RX1, "isEnd", "(I)Z"⟩
abbrev cX1_wordsFrom : ByteArray := prog_3_method_6_code
def yX1_wordsFrom : MethodName := ⟨RX1, "wordsFrom", "(I)I"⟩
abbrev cX1_tells : ByteArray := prog_3_method_7_code
def yX1_tells : MethodName := ⟨RX1, "tells", "(II)I"⟩
abbrev cX1_spotBehind : ByteArray := prog_3_method_8_code
def yX1_spotBehind : MethodName := ⟨RX1, "spotBehind", "(II)I"⟩
abbrev cX1_acrossRule : ByteArray := prog_3_method_9_code
def yX1_acrossRule : MethodName := ⟨RX1, "acrossRule", "(IJ)J"⟩
abbrev cX1_meaningsWithout : ByteArray := prog_3_method_10_code
def yX1_meaningsWithout : MethodName := ⟨RX1, "meaningsWithout", "(I)J"⟩
abbrev cX1_isState : ByteArray := prog_3_method_11_code
def yX1_isState : MethodName := ⟨RX1, "isState", "(I)Z"⟩
def RX2 : String := "EverySecondWord$Mind"
def TX2 : u_T := fun k => match k with
  | 0 => ("EverySecondWord$Mind", "world", "LEverySecondWord$World;", true)
  | 1 => ("EverySecondWord$Mind", "ends", "[I", true)
  | 2 => ("EverySecondWord$Mind", "dreams", "[I", true)
  | 3 => ("EverySecondWord$Mind", "worths", "[I", true)
  | _ => ("EverySecondWord$Mind", "age", "I", false)
def tyX2 : Nat → FieldType := fun k => match k with
  | 0 => .object "EverySecondWord$World"
  | 1 => .array .int
  | 2 => .array .int
  | 3 => .array .int
  | _ => .int
theorem nmX2 : ∀ a, a < 5 → ∀ b, b < 5 → a ≠ b → (TX2 a).2.1 ≠ (TX2 b).2.1 := by decide +kernel
theorem tyX2_ok : ∀ k, k < 5 → parseFieldDescriptor (TX2 k).2.2.1 = some (tyX2 k) := by decide +kernel
abbrev cX2_init : ByteArray := prog_4_method_1_code
def yX2_init : MethodName := ⟨RX2, "<init>", "(LEverySecondWord$World;)V"⟩
abbrev cX2_renew : ByteArray := prog_4_method_2_code
def yX2_renew : MethodName := ⟨RX2, "renew", "()V"⟩
abbrev cX2_deedNow : ByteArray := prog_4_method_3_code
def yX2_deedNow : MethodName := ⟨RX2, "deedNow", "()I"⟩
abbrev cX2_endNow : ByteArray := prog_4_method_4_code
def yX2_endNow : MethodName := ⟨RX2, "endNow", "()I"⟩
abbrev cX2_worthFromBeginning : ByteArray := prog_4_method_5_code
def yX2_worthFromBeginning : MethodName := ⟨RX2, "worthFromBeginning", "(I)I"⟩
abbrev cX2_worthOfEnd : ByteArray := prog_4_method_6_code
def yX2_worthOfEnd : MethodName := ⟨RX2, "worthOfEnd", "(II)I"⟩
abbrev cX2_kindsFitting : ByteArray := prog_4_method_7_code
def yX2_kindsFitting : MethodName := ⟨RX2, "kindsFitting", "(I)I"⟩
abbrev cX2_fits : ByteArray := prog_4_method_8_code
def yX2_fits : MethodName := ⟨RX2, "fits", "(I)Z"⟩
abbrev cX2_weighAllEnds : ByteArray := prog_4_method_9_code
def yX2_weighAllEnds : MethodName := ⟨RX2, "weighAllEnds", "()V"⟩
abbrev cX2_weighMeaning : ByteArray := prog_4_method_10_code
def yX2_weighMeaning : MethodName := ⟨RX2, "weighMeaning", "(II)I"⟩
abbrev cX2_worthAt : ByteArray := prog_4_method_11_code
def yX2_worthAt : MethodName := ⟨RX2, "worthAt", "(II)I"⟩
abbrev cX2_deedAt : ByteArray := prog_4_method_12_code
def yX2_deedAt : MethodName := ⟨RX2, "deedAt", "(I)I"⟩
abbrev cX2_bestDeed : ByteArray := prog_4_method_13_code
def yX2_bestDeed : MethodName := ⟨RX2, "bestDeed", "(IIII)I"⟩
abbrev cX2_weigh : ByteArray := prog_4_method_14_code
def yX2_weigh : MethodName := ⟨RX2, "weigh", "(IIII)I"⟩
abbrev cX2_endFrom : ByteArray := prog_4_method_15_code
def yX2_endFrom : MethodName := ⟨RX2, "endFrom", "(I)I"⟩
abbrev cX2_endAfter : ByteArray := prog_4_method_16_code
def yX2_endAfter : MethodName := ⟨RX2, "endAfter", "(II)I"⟩
abbrev cX2_dreamFrom : ByteArray := prog_4_method_17_code
def yX2_dreamFrom : MethodName := ⟨RX2, "dreamFrom", "(II)I"⟩
abbrev cX2_dreamAfter : ByteArray := prog_4_method_18_code
def yX2_dreamAfter : MethodName := ⟨RX2, "dreamAfter", "(III)I"⟩
abbrev cX2_leastOf : ByteArray := prog_4_method_19_code
def yX2_leastOf : MethodName := ⟨RX2, "leastOf", "(I)I"⟩
def RX3 : String := "EverySecondWord$People"
def TX3 : u_T := fun k => match k with
  | 0 => ("EverySecondWord$People", "kinds", "[I", true)
  | 1 => ("EverySecondWord$People", "words", "[I", true)
  | 2 => ("EverySecondWord$People", "worths", "[I", true)
  | 3 => ("EverySecondWord$People", "turns", "[I", true)
  | _ => ("EverySecondWord$People", "size", "I", false)
def tyX3 : Nat → FieldType := fun k => match k with
  | 0 => .array .int
  | 1 => .array .int
  | 2 => .array .int
  | 3 => .array .int
  | _ => .int
theorem nmX3 : ∀ a, a < 5 → ∀ b, b < 5 → a ≠ b → (TX3 a).2.1 ≠ (TX3 b).2.1 := by decide +kernel
theorem tyX3_ok : ∀ k, k < 5 → parseFieldDescriptor (TX3 k).2.2.1 = some (tyX3 k) := by decide +kernel
abbrev cX3_init : ByteArray := prog_5_method_1_code
def yX3_init : MethodName := ⟨RX3, "<init>", "()V"⟩
abbrev cX3_copyFrom : ByteArray := prog_5_method_2_code
def yX3_copyFrom : MethodName := ⟨RX3, "copyFrom", "(LEverySecondWord$People;)V"⟩
abbrev cX3_add : ByteArray := prog_5_method_3_code
def yX3_add : MethodName := ⟨RX3, "add", "(II)Z"⟩
abbrev cX3_has : ByteArray := prog_5_method_4_code
def yX3_has : MethodName := ⟨RX3, "has", "(I)Z"⟩
abbrev cX3_kindOf : ByteArray := prog_5_method_5_code
def yX3_kindOf : MethodName := ⟨RX3, "kindOf", "(I)I"⟩
abbrev cX3_putKind : ByteArray := prog_5_method_6_code
def yX3_putKind : MethodName := ⟨RX3, "putKind", "(II)V"⟩
abbrev cX3_wordsOf : ByteArray := prog_5_method_7_code
def yX3_wordsOf : MethodName := ⟨RX3, "wordsOf", "(I)I"⟩
abbrev cX3_putWord : ByteArray := prog_5_method_8_code
def yX3_putWord : MethodName := ⟨RX3, "putWord", "(IIZ)Z"⟩
abbrev cX3_worthOf : ByteArray := prog_5_method_9_code
def yX3_worthOf : MethodName := ⟨RX3, "worthOf", "(II)I"⟩
abbrev cX3_putWorth : ByteArray := prog_5_method_10_code
def yX3_putWorth : MethodName := ⟨RX3, "putWorth", "(III)Z"⟩
abbrev cX3_atTurn : ByteArray := prog_5_method_11_code
def yX3_atTurn : MethodName := ⟨RX3, "atTurn", "(I)I"⟩
abbrev cX3_placeOf : ByteArray := prog_5_method_12_code
def yX3_placeOf : MethodName := ⟨RX3, "placeOf", "(I)I"⟩
abbrev cX3_orderDigits : ByteArray := prog_5_method_13_code
def yX3_orderDigits : MethodName := ⟨RX3, "orderDigits", "()I"⟩
abbrev cX3_isOrder : ByteArray := prog_5_method_14_code
def yX3_isOrder : MethodName := ⟨RX3, "isOrder", "(I)Z"⟩
abbrev cX3_putOrder : ByteArray := prog_5_method_15_code
def yX3_putOrder : MethodName := ⟨RX3, "putOrder", "(I)V"⟩
abbrev cX3_turnByOne : ByteArray := prog_5_method_16_code
def yX3_turnByOne : MethodName := ⟨RX3, "turnByOne", "()V"⟩
def RX4 : String := "EverySecondWord$Power"
def TX4 : u_T := fun k => match k with
  | 0 => ("EverySecondWord$Power", "world", "LEverySecondWord$World;", true)
  | 1 => ("EverySecondWord$Power", "mind", "LEverySecondWord$Mind;", true)
  | 2 => ("EverySecondWord$Power", "sets", "[J", true)
  | 3 => ("EverySecondWord$Power", "lengths", "[I", true)
  | 4 => ("EverySecondWord$Power", "person", "I", false)
  | 5 => ("EverySecondWord$Power", "goodMeanings", "J", false)
  | 6 => ("EverySecondWord$Power", "stuckIsGood", "Z", false)
  | _ => ("EverySecondWord$Power", "goneRules", "I", false)
def tyX4 : Nat → FieldType := fun k => match k with
  | 0 => .object "EverySecondWord$World"
  | 1 => .object "EverySecondWord$Mind"
  | 2 => .array .long
  | 3 => .array .int
  | 4 => .int
  | 5 => .long
  | 6 => .boolean
  | _ => .int
theorem nmX4 : ∀ a, a < 8 → ∀ b, b < 8 → a ≠ b → (TX4 a).2.1 ≠ (TX4 b).2.1 := by decide +kernel
theorem tyX4_ok : ∀ k, k < 8 → parseFieldDescriptor (TX4 k).2.2.1 = some (tyX4 k) := by decide +kernel
abbrev cX4_init : ByteArray := prog_6_method_1_code
def yX4_init : MethodName := ⟨RX4, "<init>", "(LEverySecondWord$World;LEverySecondWord$Mind;)V"⟩
abbrev cX4_meaningsWith : ByteArray := prog_6_method_2_code
def yX4_meaningsWith : MethodName := ⟨RX4, "meaningsWith", "(I)J"⟩
abbrev cX4_ensuresNow : ByteArray := prog_6_method_3_code
def yX4_ensuresNow : MethodName := ⟨RX4, "ensuresNow", "(IJZ)Z"⟩
abbrev cX4_surestWorth : ByteArray := prog_6_method_4_code
def yX4_surestWorth : MethodName := ⟨RX4, "surestWorth", "(I)I"⟩
abbrev cX4_fewestRules : ByteArray := prog_6_method_5_code
def yX4_fewestRules : MethodName := ⟨RX4, "fewestRules", "(II)I"⟩
abbrev cX4_mostWords : ByteArray := prog_6_method_6_code
def yX4_mostWords : MethodName := ⟨RX4, "mostWords", "(I)I"⟩
abbrev cX4_ask : ByteArray := prog_6_method_7_code
def yX4_ask : MethodName := ⟨RX4, "ask", "(IJZ)V"⟩
abbrev cX4_meaningsWorth : ByteArray := prog_6_method_8_code
def yX4_meaningsWorth : MethodName := ⟨RX4, "meaningsWorth", "(II)J"⟩
abbrev cX4_ensuresWithout : ByteArray := prog_6_method_9_code
def yX4_ensuresWithout : MethodName := ⟨RX4, "ensuresWithout", "(I)Z"⟩
abbrev cX4_ensuresFrom : ByteArray := prog_6_method_10_code
def yX4_ensuresFrom : MethodName := ⟨RX4, "ensuresFrom", "(I)Z"⟩
abbrev cX4_fillSets : ByteArray := prog_6_method_11_code
def yX4_fillSets : MethodName := ⟨RX4, "fillSets", "(I)V"⟩
abbrev cX4_withEnd : ByteArray := prog_6_method_12_code
def yX4_withEnd : MethodName := ⟨RX4, "withEnd", "(JIZZ)J"⟩
abbrev cX4_fillLengths : ByteArray := prog_6_method_13_code
def yX4_fillLengths : MethodName := ⟨RX4, "fillLengths", "(I)V"⟩
def RX5 : String := "EverySecondWord$Reach"
def TX5 : u_T := fun k => match k with
  | 0 => ("EverySecondWord$Reach", "world", "LEverySecondWord$World;", true)
  | 1 => ("EverySecondWord$Reach", "sets", "[J", true)
  | 2 => ("EverySecondWord$Reach", "meanings", "J", false)
  | _ => ("EverySecondWord$Reach", "stuck", "Z", false)
def tyX5 : Nat → FieldType := fun k => match k with
  | 0 => .object "EverySecondWord$World"
  | 1 => .array .long
  | 2 => .long
  | _ => .boolean
theorem nmX5 : ∀ a, a < 4 → ∀ b, b < 4 → a ≠ b → (TX5 a).2.1 ≠ (TX5 b).2.1 := by decide +kernel
theorem tyX5_ok : ∀ k, k < 4 → parseFieldDescriptor (TX5 k).2.2.1 = some (tyX5 k) := by decide +kernel
abbrev cX5_init : ByteArray := prog_7_method_1_code
def yX5_init : MethodName := ⟨RX5, "<init>", "(LEverySecondWord$World;)V"⟩
abbrev cX5_look : ByteArray := prog_7_method_2_code
def yX5_look : MethodName := ⟨RX5, "look", "()V"⟩
abbrev cX5_goOn : ByteArray := prog_7_method_3_code
def yX5_goOn : MethodName := ⟨RX5, "goOn", "(I)V"⟩
def RX6 : String := "EverySecondWord$Reader"
def TX6 : u_T := fun k => match k with
  | 0 => ("EverySecondWord$Reader", "letters", "[I", true)
  | 1 => ("EverySecondWord$Reader", "trial", "LEverySecondWord$World;", true)
  | 2 => ("EverySecondWord$Reader", "size", "I", false)
  | _ => ("EverySecondWord$Reader", "at", "I", false)
def tyX6 : Nat → FieldType := fun k => match k with
  | 0 => .array .int
  | 1 => .object "EverySecondWord$World"
  | 2 => .int
  | _ => .int
theorem nmX6 : ∀ a, a < 4 → ∀ b, b < 4 → a ≠ b → (TX6 a).2.1 ≠ (TX6 b).2.1 := by decide +kernel
theorem tyX6_ok : ∀ k, k < 4 → parseFieldDescriptor (TX6 k).2.2.1 = some (tyX6 k) := by decide +kernel
abbrev cX6_init : ByteArray := prog_8_method_1_code
def yX6_init : MethodName := ⟨RX6, "<init>", "()V"⟩
abbrev cX6_isFull : ByteArray := prog_8_method_2_code
def yX6_isFull : MethodName := ⟨RX6, "isFull", "()Z"⟩
abbrev cX6_accept : ByteArray := prog_8_method_3_code
def yX6_accept : MethodName := ⟨RX6, "accept", "(I)I"⟩
abbrev cX6_readInto : ByteArray := prog_8_method_4_code
def yX6_readInto : MethodName := ⟨RX6, "readInto", "(LEverySecondWord$World;)I"⟩
abbrev cX6_isWellFormed : ByteArray := prog_8_method_5_code
def yX6_isWellFormed : MethodName := ⟨RX6, "isWellFormed", "()Z"⟩
abbrev cX6_isStatement : ByteArray := prog_8_method_6_code
def yX6_isStatement : MethodName := ⟨RX6, "isStatement", "()Z"⟩
abbrev cX6_take : ByteArray := prog_8_method_7_code
def yX6_take : MethodName := ⟨RX6, "take", "(II)Z"⟩
abbrev cX6_isEndOfRule : ByteArray := prog_8_method_8_code
def yX6_isEndOfRule : MethodName := ⟨RX6, "isEndOfRule", "()Z"⟩
abbrev cX6_isEndOfPerson : ByteArray := prog_8_method_9_code
def yX6_isEndOfPerson : MethodName := ⟨RX6, "isEndOfPerson", "()Z"⟩
abbrev cX6_applyAll : ByteArray := prog_8_method_10_code
def yX6_applyAll : MethodName := ⟨RX6, "applyAll", "()I"⟩
abbrev cX6_applies : ByteArray := prog_8_method_11_code
def yX6_applies : MethodName := ⟨RX6, "applies", "(I)Z"⟩
abbrev cX6_letter : ByteArray := prog_8_method_12_code
def yX6_letter : MethodName := ⟨RX6, "letter", "(I)I"⟩
abbrev cX6_markAt : ByteArray := prog_8_method_13_code
def yX6_markAt : MethodName := ⟨RX6, "markAt", "(I)I"⟩
abbrev cX6_signedDigitAt : ByteArray := prog_8_method_14_code
def yX6_signedDigitAt : MethodName := ⟨RX6, "signedDigitAt", "(I)I"⟩
abbrev cX6_wordsFrom : ByteArray := prog_8_method_15_code
def yX6_wordsFrom : MethodName := ⟨RX6, "wordsFrom", "(I)I"⟩
def RX7 : String := "EverySecondWord$Talk"
def TX7 : u_T := fun k => match k with
  | 0 => ("EverySecondWord$Talk", "words", "[I", true)
  | 1 => ("EverySecondWord$Talk", "spots", "[I", true)
  | 2 => ("EverySecondWord$Talk", "size", "I", false)
  | _ => ("EverySecondWord$Talk", "stopped", "Z", false)
def tyX7 : Nat → FieldType := fun k => match k with
  | 0 => .array .int
  | 1 => .array .int
  | 2 => .int
  | _ => .boolean
theorem nmX7 : ∀ a, a < 4 → ∀ b, b < 4 → a ≠ b → (TX7 a).2.1 ≠ (TX7 b).2.1 := by decide +kernel
theorem tyX7_ok : ∀ k, k < 4 → parseFieldDescriptor (TX7 k).2.2.1 = some (tyX7 k) := by decide +kernel
abbrev cX7_init : ByteArray := prog_9_method_1_code
def yX7_init : MethodName := ⟨RX7, "<init>", "()V"⟩
abbrev cX7_copyFrom : ByteArray := prog_9_method_2_code
def yX7_copyFrom : MethodName := ⟨RX7, "copyFrom", "(LEverySecondWord$Talk;)V"⟩
abbrev cX7_spot : ByteArray := prog_9_method_3_code
def yX7_spot : MethodName := ⟨RX7, "spot", "()I"⟩
abbrev cX7_spotBefore : ByteArray := prog_9_method_4_code
def yX7_spotBefore : MethodName := ⟨RX7, "spotBefore", "(I)I"⟩
abbrev cX7_wordAt : ByteArray := prog_9_method_5_code
def yX7_wordAt : MethodName := ⟨RX7, "wordAt", "(I)I"⟩
abbrev cX7_add : ByteArray := prog_9_method_6_code
def yX7_add : MethodName := ⟨RX7, "add", "(II)V"⟩
abbrev cX7_takeBack : ByteArray := prog_9_method_7_code
def yX7_takeBack : MethodName := ⟨RX7, "takeBack", "()Z"⟩
abbrev cX7_beginAnew : ByteArray := prog_9_method_8_code
def yX7_beginAnew : MethodName := ⟨RX7, "beginAnew", "()V"⟩
def RX8 : String := "EverySecondWord$World"
def TX8 : u_T := fun k => match k with
  | 0 => ("EverySecondWord$World", "grammar", "LEverySecondWord$Grammar;", true)
  | 1 => ("EverySecondWord$World", "people", "LEverySecondWord$People;", true)
  | 2 => ("EverySecondWord$World", "talk", "LEverySecondWord$Talk;", true)
  | 3 => ("EverySecondWord$World", "length", "I", false)
  | _ => ("EverySecondWord$World", "loss", "I", false)
def tyX8 : Nat → FieldType := fun k => match k with
  | 0 => .object "EverySecondWord$Grammar"
  | 1 => .object "EverySecondWord$People"
  | 2 => .object "EverySecondWord$Talk"
  | 3 => .int
  | _ => .int
theorem nmX8 : ∀ a, a < 5 → ∀ b, b < 5 → a ≠ b → (TX8 a).2.1 ≠ (TX8 b).2.1 := by decide +kernel
theorem tyX8_ok : ∀ k, k < 5 → parseFieldDescriptor (TX8 k).2.2.1 = some (tyX8 k) := by decide +kernel
abbrev cX8_init : ByteArray := prog_10_method_1_code
def yX8_init : MethodName := ⟨RX8, "<init>", "()V"⟩
abbrev cX8_copyFrom : ByteArray := prog_10_method_2_code
def yX8_copyFrom : MethodName := ⟨RX8, "copyFrom", "(LEverySecondWord$World;)V"⟩
abbrev cX8_putLength : ByteArray := prog_10_method_3_code
def yX8_putLength : MethodName := ⟨RX8, "putLength", "(I)Z"⟩
abbrev cX8_sayer : ByteArray := prog_10_method_4_code
def yX8_sayer : MethodName := ⟨RX8, "sayer", "(I)I"⟩
abbrev cX8_wordsAt : ByteArray := prog_10_method_5_code
def yX8_wordsAt : MethodName := ⟨RX8, "wordsAt", "(I)I"⟩
abbrev cX8_options : ByteArray := prog_10_method_6_code
def yX8_options : MethodName := ⟨RX8, "options", "(I)I"⟩
abbrev cX8_optionsNow : ByteArray := prog_10_method_7_code
def yX8_optionsNow : MethodName := ⟨RX8, "optionsNow", "()I"⟩
abbrev cX8_sayerNow : ByteArray := prog_10_method_8_code
def yX8_sayerNow : MethodName := ⟨RX8, "sayerNow", "()I"⟩
abbrev cX8_after : ByteArray := prog_10_method_9_code
def yX8_after : MethodName := ⟨RX8, "after", "(II)I"⟩
abbrev cX8_endByStop : ByteArray := prog_10_method_10_code
def yX8_endByStop : MethodName := ⟨RX8, "endByStop", "(I)I"⟩
abbrev cX8_endByItself : ByteArray := prog_10_method_11_code
def yX8_endByItself : MethodName := ⟨RX8, "endByItself", "(I)I"⟩
def RX9 : String := "EverySecondWord"
def TX9 : u_T := fun k => match k with
  | 0 => ("EverySecondWord", "world", "LEverySecondWord$World;", true)
  | 1 => ("EverySecondWord", "image", "LEverySecondWord$World;", true)
  | 2 => ("EverySecondWord", "reader", "LEverySecondWord$Reader;", true)
  | 3 => ("EverySecondWord", "mind", "LEverySecondWord$Mind;", true)
  | 4 => ("EverySecondWord", "beginnings", "LEverySecondWord$Beginnings;", true)
  | 5 => ("EverySecondWord", "power", "LEverySecondWord$Power;", true)
  | 6 => ("EverySecondWord", "reach", "LEverySecondWord$Reach;", true)
  | 7 => ("EverySecondWord", "row", "[I", true)
  | 8 => ("EverySecondWord", "refusals", "[I", true)
  | 9 => ("EverySecondWord", "rowSize", "I", false)
  | _ => ("EverySecondWord", "hasImage", "Z", false)
def tyX9 : Nat → FieldType := fun k => match k with
  | 0 => .object "EverySecondWord$World"
  | 1 => .object "EverySecondWord$World"
  | 2 => .object "EverySecondWord$Reader"
  | 3 => .object "EverySecondWord$Mind"
  | 4 => .object "EverySecondWord$Beginnings"
  | 5 => .object "EverySecondWord$Power"
  | 6 => .object "EverySecondWord$Reach"
  | 7 => .array .int
  | 8 => .array .int
  | 9 => .int
  | _ => .boolean
theorem nmX9 : ∀ a, a < 11 → ∀ b, b < 11 → a ≠ b → (TX9 a).2.1 ≠ (TX9 b).2.1 := by decide +kernel
theorem tyX9_ok : ∀ k, k < 11 → parseFieldDescriptor (TX9 k).2.2.1 = some (tyX9 k) := by decide +kernel
abbrev cX9_init : ByteArray := prog_1_method_1_code
def yX9_init : MethodName := ⟨RX9, "<init>", "()V"⟩
abbrev cX9_feed : ByteArray := prog_1_method_2_code
def yX9_feed : MethodName := ⟨RX9, "feed", "(I)I"⟩
abbrev cX9_tongue : ByteArray := prog_1_method_3_code
def yX9_tongue : MethodName := ⟨RX9, "tongue", "()I"⟩
abbrev cX9_rule : ByteArray := prog_1_method_4_code
def yX9_rule : MethodName := ⟨RX9, "rule", "(II)I"⟩
abbrev cX9_end : ByteArray := prog_1_method_5_code
def yX9_end : MethodName := ⟨RX9, "end", "(I)I"⟩
abbrev cX9_person : ByteArray := prog_1_method_6_code
def yX9_person : MethodName := ⟨RX9, "person", "(II)I"⟩
abbrev cX9_worth : ByteArray := prog_1_method_7_code
def yX9_worth : MethodName := ⟨RX9, "worth", "(II)I"⟩
abbrev cX9_values : ByteArray := prog_1_method_8_code
def yX9_values : MethodName := ⟨RX9, "values", "(III)I"⟩
abbrev cX9_kind : ByteArray := prog_1_method_9_code
def yX9_kind : MethodName := ⟨RX9, "kind", "(II)I"⟩
abbrev cX9_word : ByteArray := prog_1_method_10_code
def yX9_word : MethodName := ⟨RX9, "word", "(IIZ)I"⟩
abbrev cX9_set : ByteArray := prog_1_method_11_code
def yX9_set : MethodName := ⟨RX9, "set", "(II)I"⟩
abbrev cX9_order : ByteArray := prog_1_method_12_code
def yX9_order : MethodName := ⟨RX9, "order", "(I)I"⟩
abbrev cX9_say : ByteArray := prog_1_method_13_code
def yX9_say : MethodName := ⟨RX9, "say", "(I)I"⟩
abbrev cX9_stop : ByteArray := prog_1_method_14_code
def yX9_stop : MethodName := ⟨RX9, "stop", "()I"⟩
abbrev cX9_back : ByteArray := prog_1_method_15_code
def yX9_back : MethodName := ⟨RX9, "back", "()I"⟩
abbrev cX9_anew : ByteArray := prog_1_method_16_code
def yX9_anew : MethodName := ⟨RX9, "anew", "()I"⟩
abbrev cX9_talk : ByteArray := prog_1_method_17_code
def yX9_talk : MethodName := ⟨RX9, "talk", "(I)I"⟩
abbrev cX9_does : ByteArray := prog_1_method_18_code
def yX9_does : MethodName := ⟨RX9, "does", "()I"⟩
abbrev cX9_goes : ByteArray := prog_1_method_19_code
def yX9_goes : MethodName := ⟨RX9, "goes", "()I"⟩
abbrev cX9_ends : ByteArray := prog_1_method_20_code
def yX9_ends : MethodName := ⟨RX9, "ends", "(I)I"⟩
abbrev cX9_value : ByteArray := prog_1_method_21_code
def yX9_value : MethodName := ⟨RX9, "value", "(I)I"⟩
abbrev cX9_forces : ByteArray := prog_1_method_22_code
def yX9_forces : MethodName := ⟨RX9, "forces", "(II)I"⟩
abbrev cX9_keeps : ByteArray := prog_1_method_23_code
def yX9_keeps : MethodName := ⟨RX9, "keeps", "(II)I"⟩
abbrev cX9_sticks : ByteArray := prog_1_method_24_code
def yX9_sticks : MethodName := ⟨RX9, "sticks", "(I)I"⟩
abbrev cX9_holds : ByteArray := prog_1_method_25_code
def yX9_holds : MethodName := ⟨RX9, "holds", "(I)I"⟩
abbrev cX9_sure : ByteArray := prog_1_method_26_code
def yX9_sure : MethodName := ⟨RX9, "sure", "(I)I"⟩
abbrev cX9_meanings : ByteArray := prog_1_method_27_code
def yX9_meanings : MethodName := ⟨RX9, "meanings", "(I)I"⟩
abbrev cX9_canStick : ByteArray := prog_1_method_28_code
def yX9_canStick : MethodName := ⟨RX9, "canStick", "()I"⟩
abbrev cX9_begins : ByteArray := prog_1_method_29_code
def yX9_begins : MethodName := ⟨RX9, "begins", "(I)I"⟩
abbrev cX9_turns : ByteArray := prog_1_method_30_code
def yX9_turns : MethodName := ⟨RX9, "turns", "(I)I"⟩
abbrev cX9_buys : ByteArray := prog_1_method_31_code
def yX9_buys : MethodName := ⟨RX9, "buys", "(I)I"⟩
abbrev cX9_price : ByteArray := prog_1_method_32_code
def yX9_price : MethodName := ⟨RX9, "price", "(II)I"⟩
abbrev cX9_lacks : ByteArray := prog_1_method_33_code
def yX9_lacks : MethodName := ⟨RX9, "lacks", "(II)I"⟩
abbrev cX9_knows : ByteArray := prog_1_method_34_code
def yX9_knows : MethodName := ⟨RX9, "knows", "(I)I"⟩
abbrev cX9_as : ByteArray := prog_1_method_35_code
def yX9_as : MethodName := ⟨RX9, "as", "(I)I"⟩
abbrev cX9_least : ByteArray := prog_1_method_36_code
def yX9_least : MethodName := ⟨RX9, "least", "(II)I"⟩
abbrev cX9_kinds : ByteArray := prog_1_method_37_code
def yX9_kinds : MethodName := ⟨RX9, "kinds", "(I)I"⟩
abbrev cX9_row : ByteArray := prog_1_method_38_code
def yX9_row : MethodName := ⟨RX9, "row", "(I)I"⟩
abbrev cX9_judge : ByteArray := prog_1_method_39_code
def yX9_judge : MethodName := ⟨RX9, "judge", "()I"⟩
abbrev cX9_seeds : ByteArray := prog_1_method_40_code
def yX9_seeds : MethodName := ⟨RX9, "seeds", "(III)I"⟩
abbrev cX9_image : ByteArray := prog_1_method_41_code
def yX9_image : MethodName := ⟨RX9, "image", "()I"⟩
abbrev cX9_restore : ByteArray := prog_1_method_42_code
def yX9_restore : MethodName := ⟨RX9, "restore", "()I"⟩
abbrev cX9_count : ByteArray := prog_1_method_43_code
def yX9_count : MethodName := ⟨RX9, "count", "(I)I"⟩
abbrev cX9_refused : ByteArray := prog_1_method_44_code
def yX9_refused : MethodName := ⟨RX9, "refused", "(I)I"⟩
abbrev cX9_worthRefused : ByteArray := prog_1_method_45_code
def yX9_worthRefused : MethodName := ⟨RX9, "worthRefused", "(I)I"⟩
abbrev cX9_isNobody : ByteArray := prog_1_method_46_code
def yX9_isNobody : MethodName := ⟨RX9, "isNobody", "(I)Z"⟩
abbrev cX9_isNoMark : ByteArray := prog_1_method_47_code
def yX9_isNoMark : MethodName := ⟨RX9, "isNoMark", "(I)Z"⟩
abbrev cX9_isNoWord : ByteArray := prog_1_method_48_code
def yX9_isNoWord : MethodName := ⟨RX9, "isNoWord", "(I)Z"⟩
abbrev cX9_sayNow : ByteArray := prog_1_method_49_code
def yX9_sayNow : MethodName := ⟨RX9, "sayNow", "(I)I"⟩
abbrev cX9_howTheTalkStands : ByteArray := prog_1_method_50_code
def yX9_howTheTalkStands : MethodName := ⟨RX9, "howTheTalkStands", "()I"⟩
abbrev cX9_spotOf : ByteArray := prog_1_method_51_code
def yX9_spotOf : MethodName := ⟨RX9, "spotOf", "(III)I"⟩
abbrev cX9_countAt : ByteArray := prog_1_method_52_code
def yX9_countAt : MethodName := ⟨RX9, "countAt", "(I)I"⟩
abbrev cX9_stateAt : ByteArray := prog_1_method_53_code
def yX9_stateAt : MethodName := ⟨RX9, "stateAt", "(I)I"⟩
abbrev cX9_meaningAt : ByteArray := prog_1_method_54_code
def yX9_meaningAt : MethodName := ⟨RX9, "meaningAt", "(I)I"⟩
abbrev cX9_rowOf : ByteArray := prog_1_method_55_code
def yX9_rowOf : MethodName := ⟨RX9, "rowOf", "(I)I"⟩
abbrev cX9_bitInRow : ByteArray := prog_1_method_56_code
def yX9_bitInRow : MethodName := ⟨RX9, "bitInRow", "(JI)I"⟩
abbrev cX9_endOf : ByteArray := prog_1_method_57_code
def yX9_endOf : MethodName := ⟨RX9, "endOf", "(IZI)I"⟩
abbrev cX9_endCount : ByteArray := prog_1_method_58_code
def yX9_endCount : MethodName := ⟨RX9, "endCount", "(I)I"⟩
abbrev cX9_endStuck : ByteArray := prog_1_method_59_code
def yX9_endStuck : MethodName := ⟨RX9, "endStuck", "(I)I"⟩
abbrev cX9_endMeaning : ByteArray := prog_1_method_60_code
def yX9_endMeaning : MethodName := ⟨RX9, "endMeaning", "(I)I"⟩
def RX10 : String := "EverySecondWordModel"
def TX10 : u_T := fun k => match k with
  | 0 => ("EverySecondWordModel", "refused", "[I", true)
  | 1 => ("EverySecondWordModel", "ruleFrom", "[I", true)
  | 2 => ("EverySecondWordModel", "ruleBy", "[I", true)
  | 3 => ("EverySecondWordModel", "ruleTo", "[I", true)
  | 4 => ("EverySecondWordModel", "ruleMark", "[I", true)
  | 5 => ("EverySecondWordModel", "kind", "[I", true)
  | 6 => ("EverySecondWordModel", "words", "[I", true)
  | 7 => ("EverySecondWordModel", "worth", "[I", true)
  | 8 => ("EverySecondWordModel", "order", "[I", true)
  | 9 => ("EverySecondWordModel", "said", "[I", true)
  | 10 => ("EverySecondWordModel", "rules", "I", false)
  | 11 => ("EverySecondWordModel", "ends", "I", false)
  | 12 => ("EverySecondWordModel", "people", "I", false)
  | 13 => ("EverySecondWordModel", "length", "I", false)
  | 14 => ("EverySecondWordModel", "loss", "I", false)
  | 15 => ("EverySecondWordModel", "many", "I", false)
  | 16 => ("EverySecondWordModel", "state", "I", false)
  | 17 => ("EverySecondWordModel", "meaning", "I", false)
  | 18 => ("EverySecondWordModel", "isStopped", "I", false)
  | 19 => ("EverySecondWordModel", "tape", "[I", true)
  | 20 => ("EverySecondWordModel", "letter", "[I", true)
  | 21 => ("EverySecondWordModel", "letterAt", "[I", true)
  | 22 => ("EverySecondWordModel", "one", "[I", true)
  | 23 => ("EverySecondWordModel", "two", "[I", true)
  | 24 => ("EverySecondWordModel", "three", "[I", true)
  | 25 => ("EverySecondWordModel", "four", "[I", true)
  | 26 => ("EverySecondWordModel", "taped", "I", false)
  | 27 => ("EverySecondWordModel", "at", "I", false)
  | 28 => ("EverySecondWordModel", "statements", "I", false)
  | 29 => ("EverySecondWordModel", "kept", "[I", true)
  | 30 => ("EverySecondWordModel", "hasImage", "Z", false)
  | 31 => ("EverySecondWordModel", "isKeeping", "Z", false)
  | 32 => ("EverySecondWordModel", "cursor", "I", false)
  | 33 => ("EverySecondWordModel", "gone", "I", false)
  | 34 => ("EverySecondWordModel", "mayTable", "[I", true)
  | 35 => ("EverySecondWordModel", "toTable", "[I", true)
  | 36 => ("EverySecondWordModel", "markTable", "[I", true)
  | 37 => ("EverySecondWordModel", "worthTable", "[I", true)
  | 38 => ("EverySecondWordModel", "endOf", "[I", true)
  | 39 => ("EverySecondWordModel", "wordsOf", "[I", true)
  | 40 => ("EverySecondWordModel", "mindOf", "[I", true)
  | 41 => ("EverySecondWordModel", "sureOf", "[I", true)
  | 42 => ("EverySecondWordModel", "meant", "[J", true)
  | 43 => ("EverySecondWordModel", "mayStick", "[Z", true)
  | 44 => ("EverySecondWordModel", "row", "[I", true)
  | 45 => ("EverySecondWordModel", "rowMany", "I", false)
  | _ => ("EverySecondWordModel", "lots", "I", false)
def tyX10 : Nat → FieldType := fun k => match k with
  | 0 => .array .int
  | 1 => .array .int
  | 2 => .array .int
  | 3 => .array .int
  | 4 => .array .int
  | 5 => .array .int
  | 6 => .array .int
  | 7 => .array .int
  | 8 => .array .int
  | 9 => .array .int
  | 10 => .int
  | 11 => .int
  | 12 => .int
  | 13 => .int
  | 14 => .int
  | 15 => .int
  | 16 => .int
  | 17 => .int
  | 18 => .int
  | 19 => .array .int
  | 20 => .array .int
  | 21 => .array .int
  | 22 => .array .int
  | 23 => .array .int
  | 24 => .array .int
  | 25 => .array .int
  | 26 => .int
  | 27 => .int
  | 28 => .int
  | 29 => .array .int
  | 30 => .boolean
  | 31 => .boolean
  | 32 => .int
  | 33 => .int
  | 34 => .array .int
  | 35 => .array .int
  | 36 => .array .int
  | 37 => .array .int
  | 38 => .array .int
  | 39 => .array .int
  | 40 => .array .int
  | 41 => .array .int
  | 42 => .array .long
  | 43 => .array .boolean
  | 44 => .array .int
  | 45 => .int
  | _ => .int
theorem nmX10 : ∀ a, a < 47 → ∀ b, b < 47 → a ≠ b → (TX10 a).2.1 ≠ (TX10 b).2.1 := by decide +kernel
theorem tyX10_ok : ∀ k, k < 47 → parseFieldDescriptor (TX10 k).2.2.1 = some (tyX10 k) := by decide +kernel
abbrev cX10_init : ByteArray := prog_12_method_1_code
def yX10_init : MethodName := ⟨RX10, "<init>", "()V"⟩
abbrev cX10_no : ByteArray := prog_12_method_2_code
def yX10_no : MethodName := ⟨RX10, "no", "(I)I"⟩
abbrev cX10_lower : ByteArray := prog_12_method_3_code
def yX10_lower : MethodName := ⟨RX10, "lower", "(I)I"⟩
abbrev cX10_isIn : ByteArray := prog_12_method_4_code
def yX10_isIn : MethodName := ⟨RX10, "isIn", "(III)Z"⟩
abbrev cX10_bound : ByteArray := prog_12_method_5_code
def yX10_bound : MethodName := ⟨RX10, "bound", "(III)I"⟩
abbrev cX10_isOne : ByteArray := prog_12_method_6_code
def yX10_isOne : MethodName := ⟨RX10, "isOne", "(I)Z"⟩
abbrev cX10_isEnd : ByteArray := prog_12_method_7_code
def yX10_isEnd : MethodName := ⟨RX10, "isEnd", "(I)Z"⟩
abbrev cX10_feed : ByteArray := prog_12_method_8_code
def yX10_feed : MethodName := ⟨RX10, "feed", "(I)I"⟩
abbrev cX10_next : ByteArray := prog_12_method_9_code
def yX10_next : MethodName := ⟨RX10, "next", "()I"⟩
abbrev cX10_takes : ByteArray := prog_12_method_10_code
def yX10_takes : MethodName := ⟨RX10, "takes", "(II)I"⟩
abbrev cX10_readsRule : ByteArray := prog_12_method_11_code
def yX10_readsRule : MethodName := ⟨RX10, "readsRule", "(I)Z"⟩
abbrev cX10_readsPerson : ByteArray := prog_12_method_12_code
def yX10_readsPerson : MethodName := ⟨RX10, "readsPerson", "(I)Z"⟩
abbrev cX10_readsWorth : ByteArray := prog_12_method_13_code
def yX10_readsWorth : MethodName := ⟨RX10, "readsWorth", "(I)Z"⟩
abbrev cX10_statement : ByteArray := prog_12_method_14_code
def yX10_statement : MethodName := ⟨RX10, "statement", "()Z"⟩
abbrev cX10_ruleAt : ByteArray := prog_12_method_15_code
def yX10_ruleAt : MethodName := ⟨RX10, "ruleAt", "(II)I"⟩
abbrev cX10_comes : ByteArray := prog_12_method_16_code
def yX10_comes : MethodName := ⟨RX10, "comes", "(I)Z"⟩
abbrev cX10_tongue : ByteArray := prog_12_method_17_code
def yX10_tongue : MethodName := ⟨RX10, "tongue", "()I"⟩
abbrev cX10_passes : ByteArray := prog_12_method_18_code
def yX10_passes : MethodName := ⟨RX10, "passes", "([I)V"⟩
abbrev cX10_passOne : ByteArray := prog_12_method_19_code
def yX10_passOne : MethodName := ⟨RX10, "passOne", "(I)I"⟩
abbrev cX10_passesAll : ByteArray := prog_12_method_20_code
def yX10_passesAll : MethodName := ⟨RX10, "passesAll", "(IZ)V"⟩
abbrev cX10_image : ByteArray := prog_12_method_21_code
def yX10_image : MethodName := ⟨RX10, "image", "()I"⟩
abbrev cX10_restore : ByteArray := prog_12_method_22_code
def yX10_restore : MethodName := ⟨RX10, "restore", "()I"⟩
abbrev cX10_rule : ByteArray := prog_12_method_23_code
def yX10_rule : MethodName := ⟨RX10, "rule", "(II)I"⟩
abbrev cX10_end : ByteArray := prog_12_method_24_code
def yX10_end : MethodName := ⟨RX10, "end", "(I)I"⟩
abbrev cX10_placeOf : ByteArray := prog_12_method_25_code
def yX10_placeOf : MethodName := ⟨RX10, "placeOf", "(I)I"⟩
abbrev cX10_person : ByteArray := prog_12_method_26_code
def yX10_person : MethodName := ⟨RX10, "person", "(II)I"⟩
abbrev cX10_worth : ByteArray := prog_12_method_27_code
def yX10_worth : MethodName := ⟨RX10, "worth", "(II)I"⟩
abbrev cX10_values : ByteArray := prog_12_method_28_code
def yX10_values : MethodName := ⟨RX10, "values", "(III)I"⟩
abbrev cX10_kind : ByteArray := prog_12_method_29_code
def yX10_kind : MethodName := ⟨RX10, "kind", "(II)I"⟩
abbrev cX10_word : ByteArray := prog_12_method_30_code
def yX10_word : MethodName := ⟨RX10, "word", "(IIZ)I"⟩
abbrev cX10_set : ByteArray := prog_12_method_31_code
def yX10_set : MethodName := ⟨RX10, "set", "(II)I"⟩
abbrev cX10_orderDigits : ByteArray := prog_12_method_32_code
def yX10_orderDigits : MethodName := ⟨RX10, "orderDigits", "()I"⟩
abbrev cX10_order : ByteArray := prog_12_method_33_code
def yX10_order : MethodName := ⟨RX10, "order", "(I)I"⟩
abbrev cX10_ruleNow : ByteArray := prog_12_method_34_code
def yX10_ruleNow : MethodName := ⟨RX10, "ruleNow", "(II)I"⟩
abbrev cX10_endWorth : ByteArray := prog_12_method_35_code
def yX10_endWorth : MethodName := ⟨RX10, "endWorth", "(II)I"⟩
abbrev cX10_findTables : ByteArray := prog_12_method_36_code
def yX10_findTables : MethodName := ⟨RX10, "findTables", "()V"⟩
abbrev cX10_turnAt : ByteArray := prog_12_method_37_code
def yX10_turnAt : MethodName := ⟨RX10, "turnAt", "(I)I"⟩
abbrev cX10_mayAt : ByteArray := prog_12_method_38_code
def yX10_mayAt : MethodName := ⟨RX10, "mayAt", "(II)I"⟩
abbrev cX10_placeAt : ByteArray := prog_12_method_39_code
def yX10_placeAt : MethodName := ⟨RX10, "placeAt", "(III)I"⟩
abbrev cX10_afterWord : ByteArray := prog_12_method_40_code
def yX10_afterWord : MethodName := ⟨RX10, "afterWord", "(IIII)I"⟩
abbrev cX10_endAt : ByteArray := prog_12_method_41_code
def yX10_endAt : MethodName := ⟨RX10, "endAt", "(II)I"⟩
abbrev cX10_say : ByteArray := prog_12_method_42_code
def yX10_say : MethodName := ⟨RX10, "say", "(I)I"⟩
abbrev cX10_says : ByteArray := prog_12_method_43_code
def yX10_says : MethodName := ⟨RX10, "says", "(I)V"⟩
abbrev cX10_mayStop : ByteArray := prog_12_method_44_code
def yX10_mayStop : MethodName := ⟨RX10, "mayStop", "()Z"⟩
abbrev cX10_stop : ByteArray := prog_12_method_45_code
def yX10_stop : MethodName := ⟨RX10, "stop", "()I"⟩
abbrev cX10_replays : ByteArray := prog_12_method_46_code
def yX10_replays : MethodName := ⟨RX10, "replays", "(I)V"⟩
abbrev cX10_back : ByteArray := prog_12_method_47_code
def yX10_back : MethodName := ⟨RX10, "back", "()I"⟩
abbrev cX10_anew : ByteArray := prog_12_method_48_code
def yX10_anew : MethodName := ⟨RX10, "anew", "()I"⟩
abbrev cX10_howIs : ByteArray := prog_12_method_49_code
def yX10_howIs : MethodName := ⟨RX10, "howIs", "()I"⟩
abbrev cX10_talk : ByteArray := prog_12_method_50_code
def yX10_talk : MethodName := ⟨RX10, "talk", "(I)I"⟩
abbrev cX10_lowest : ByteArray := prog_12_method_51_code
def yX10_lowest : MethodName := ⟨RX10, "lowest", "(I)I"⟩
abbrev cX10_blindChoice : ByteArray := prog_12_method_52_code
def yX10_blindChoice : MethodName := ⟨RX10, "blindChoice", "(IIII)I"⟩
abbrev cX10_fillMind : ByteArray := prog_12_method_53_code
def yX10_fillMind : MethodName := ⟨RX10, "fillMind", "(I)V"⟩
abbrev cX10_goodTo : ByteArray := prog_12_method_54_code
def yX10_goodTo : MethodName := ⟨RX10, "goodTo", "(III)I"⟩
abbrev cX10_aheadChoice : ByteArray := prog_12_method_55_code
def yX10_aheadChoice : MethodName := ⟨RX10, "aheadChoice", "(IIIII)I"⟩
abbrev cX10_greedyChoice : ByteArray := prog_12_method_56_code
def yX10_greedyChoice : MethodName := ⟨RX10, "greedyChoice", "(IIII)I"⟩
abbrev cX10_choiceAt : ByteArray := prog_12_method_57_code
def yX10_choiceAt : MethodName := ⟨RX10, "choiceAt", "(III)I"⟩
abbrev cX10_fillAll : ByteArray := prog_12_method_58_code
def yX10_fillAll : MethodName := ⟨RX10, "fillAll", "()V"⟩
abbrev cX10_does : ByteArray := prog_12_method_59_code
def yX10_does : MethodName := ⟨RX10, "does", "()I"⟩
abbrev cX10_goes : ByteArray := prog_12_method_60_code
def yX10_goes : MethodName := ⟨RX10, "goes", "()I"⟩
abbrev cX10_endNow : ByteArray := prog_12_method_61_code
def yX10_endNow : MethodName := ⟨RX10, "endNow", "()I"⟩
abbrev cX10_ends : ByteArray := prog_12_method_62_code
def yX10_ends : MethodName := ⟨RX10, "ends", "(I)I"⟩
abbrev cX10_value : ByteArray := prog_12_method_63_code
def yX10_value : MethodName := ⟨RX10, "value", "(I)I"⟩
abbrev cX10_counts : ByteArray := prog_12_method_64_code
def yX10_counts : MethodName := ⟨RX10, "counts", "(IIIII)I"⟩
abbrev cX10_gameAt : ByteArray := prog_12_method_65_code
def yX10_gameAt : MethodName := ⟨RX10, "gameAt", "(IIIIII)I"⟩
abbrev cX10_fillGame : ByteArray := prog_12_method_66_code
def yX10_fillGame : MethodName := ⟨RX10, "fillGame", "(III)V"⟩
abbrev cX10_sureNow : ByteArray := prog_12_method_67_code
def yX10_sureNow : MethodName := ⟨RX10, "sureNow", "(III)I"⟩
abbrev cX10_forces : ByteArray := prog_12_method_68_code
def yX10_forces : MethodName := ⟨RX10, "forces", "(II)I"⟩
abbrev cX10_keeps : ByteArray := prog_12_method_69_code
def yX10_keeps : MethodName := ⟨RX10, "keeps", "(II)I"⟩
abbrev cX10_sticks : ByteArray := prog_12_method_70_code
def yX10_sticks : MethodName := ⟨RX10, "sticks", "(I)I"⟩
abbrev cX10_holds : ByteArray := prog_12_method_71_code
def yX10_holds : MethodName := ⟨RX10, "holds", "(I)I"⟩
abbrev cX10_sure : ByteArray := prog_12_method_72_code
def yX10_sure : MethodName := ⟨RX10, "sure", "(I)I"⟩
abbrev cX10_fillMeant : ByteArray := prog_12_method_73_code
def yX10_fillMeant : MethodName := ⟨RX10, "fillMeant", "()V"⟩
abbrev cX10_meanings : ByteArray := prog_12_method_74_code
def yX10_meanings : MethodName := ⟨RX10, "meanings", "(I)I"⟩
abbrev cX10_canStick : ByteArray := prog_12_method_75_code
def yX10_canStick : MethodName := ⟨RX10, "canStick", "()I"⟩
abbrev cX10_fromStart : ByteArray := prog_12_method_76_code
def yX10_fromStart : MethodName := ⟨RX10, "fromStart", "(I)I"⟩
abbrev cX10_begins : ByteArray := prog_12_method_77_code
def yX10_begins : MethodName := ⟨RX10, "begins", "(I)I"⟩
abbrev cX10_nextOrder : ByteArray := prog_12_method_78_code
def yX10_nextOrder : MethodName := ⟨RX10, "nextOrder", "()Z"⟩
abbrev cX10_turns : ByteArray := prog_12_method_79_code
def yX10_turns : MethodName := ⟨RX10, "turns", "(I)I"⟩
abbrev cX10_worthWith : ByteArray := prog_12_method_80_code
def yX10_worthWith : MethodName := ⟨RX10, "worthWith", "(IIZ)I"⟩
abbrev cX10_buys : ByteArray := prog_12_method_81_code
def yX10_buys : MethodName := ⟨RX10, "buys", "(I)I"⟩
abbrev cX10_price : ByteArray := prog_12_method_82_code
def yX10_price : MethodName := ⟨RX10, "price", "(II)I"⟩
abbrev cX10_lacks : ByteArray := prog_12_method_83_code
def yX10_lacks : MethodName := ⟨RX10, "lacks", "(II)I"⟩
abbrev cX10_knows : ByteArray := prog_12_method_84_code
def yX10_knows : MethodName := ⟨RX10, "knows", "(I)I"⟩
abbrev cX10_as : ByteArray := prog_12_method_85_code
def yX10_as : MethodName := ⟨RX10, "as", "(I)I"⟩
abbrev cX10_canForce : ByteArray := prog_12_method_86_code
def yX10_canForce : MethodName := ⟨RX10, "canForce", "(III)Z"⟩
abbrev cX10_least : ByteArray := prog_12_method_87_code
def yX10_least : MethodName := ⟨RX10, "least", "(II)I"⟩
abbrev cX10_didAs : ByteArray := prog_12_method_88_code
def yX10_didAs : MethodName := ⟨RX10, "didAs", "(I)Z"⟩
abbrev cX10_kinds : ByteArray := prog_12_method_89_code
def yX10_kinds : MethodName := ⟨RX10, "kinds", "(I)I"⟩
abbrev cX10_row : ByteArray := prog_12_method_90_code
def yX10_row : MethodName := ⟨RX10, "row", "(I)I"⟩
abbrev cX10_judge : ByteArray := prog_12_method_91_code
def yX10_judge : MethodName := ⟨RX10, "judge", "()I"⟩
abbrev cX10_bits : ByteArray := prog_12_method_92_code
def yX10_bits : MethodName := ⟨RX10, "bits", "(I)I"⟩
abbrev cX10_draw : ByteArray := prog_12_method_93_code
def yX10_draw : MethodName := ⟨RX10, "draw", "(I)I"⟩
abbrev cX10_drawnEnd : ByteArray := prog_12_method_94_code
def yX10_drawnEnd : MethodName := ⟨RX10, "drawnEnd", "()I"⟩
abbrev cX10_seeds : ByteArray := prog_12_method_95_code
def yX10_seeds : MethodName := ⟨RX10, "seeds", "(III)I"⟩
abbrev cX10_count : ByteArray := prog_12_method_96_code
def yX10_count : MethodName := ⟨RX10, "count", "(I)I"⟩
def RJ6 : String := "java/lang/Integer"
abbrev cJ6_numberOfTrailingZeros_0f7a4 : ByteArray := prog_13_method_48_code
def yJ6_numberOfTrailingZeros_0f7a4 : MethodName := ⟨RJ6, "numberOfTrailingZeros", "(I)I"⟩
abbrev cJ6_bitCount_0f7a4 : ByteArray := prog_13_method_49_code
def yJ6_bitCount_0f7a4 : MethodName := ⟨RJ6, "bitCount", "(I)I"⟩
def RJ13 : String := "java/lang/Long"
abbrev cJ13_bitCount_95d88 : ByteArray := prog_14_method_50_code
def yJ13_bitCount_95d88 : MethodName := ⟨RJ13, "bitCount", "(J)I"⟩
def RJ9 : String := "java/lang/Math"
abbrev cJ9_floorDiv_7cf53 : ByteArray := prog_15_method_47_code
def yJ9_floorDiv_7cf53 : MethodName := ⟨RJ9, "floorDiv", "(II)I"⟩
abbrev cJ9_max_7cf53 : ByteArray := prog_15_method_65_code
def yJ9_max_7cf53 : MethodName := ⟨RJ9, "max", "(II)I"⟩
abbrev cJ9_min_7cf53 : ByteArray := prog_15_method_69_code
def yJ9_min_7cf53 : MethodName := ⟨RJ9, "min", "(II)I"⟩
def RJ10 : String := "java/lang/System"
abbrev vwCl : List vw_C := [(RX0, TX0, 3), (RX1, TX1, 8), (RX2, TX2, 5), (RX3, TX3, 5), (RX4, TX4, 8), (RX5, TX5, 4), (RX6, TX6, 4), (RX7, TX7, 4), (RX8, TX8, 5), (RX9, TX9, 11), (RX10, TX10, 47)]
end
section
/-! ===== A SMALL MACHINE: the methods that make no object, over a world of 93 cells whose shape stays ===== -/
abbrev zA : Type := Nat → Nat → Int32
abbrev zL : Type := Nat → Nat → Int64
abbrev zR : Type := Option Value × zA × zL
abbrev zLv : Type := List (Nat × Value)
/-- an instruction, its length, a place, a second one, places, choices, an int, a long -/
abbrev zO : Type := Instr × Nat × Nat × Nat × List Nat × List (Int32 × Nat) × Int32 × Int64
/-- a block: its start, the locals that it needs, its instructions, the block behind it -/
abbrev zBk : Type := Nat × List Nat × List zO × Nat
/-- a method: its name, bytes, locals, answer, blocks -/
abbrev zM : Type := MethodName × ByteArray × Nat × Option FieldType × List zBk
/-- a cell's shape: an array (kind, length), or an object (its place in vwCl, its fields: .int an int, .float a boolean, .long a long, .ref a cell's place) -/
abbrev zS : Type := (Nat × Nat) ⊕ (Nat × List Value)
def zSH : List zS := [.inr (9, [.ref 1, .ref 17, .ref 33, .ref 51, .ref 55, .ref 56, .ref 59, .ref 61, .ref 62, .int 0, .float 0]), .inr (8, [.ref 2, .ref 9, .ref 14, .int 0, .int 0]), .inr (1, [.ref 3, .ref 4, .ref 5, .ref 6, .ref 7, .ref 8, .int 0, .int 0]), .inl (0, 24), .inl (0, 24), .inl (0, 24), .inl (0, 24), .inl (0, 64), .inl (0, 8), .inr (3, [.ref 10, .ref 11, .ref 12, .ref 13, .int 0]), .inl (0, 4), .inl (0, 4), .inl (0, 24), .inl (0, 4), .inr (7, [.ref 15, .ref 16, .int 0, .float 0]), .inl (0, 8), .inl (0, 9), .inr (8, [.ref 18, .ref 25, .ref 30, .int 0, .int 0]), .inr (1, [.ref 19, .ref 20, .ref 21, .ref 22, .ref 23, .ref 24, .int 0, .int 0]), .inl (0, 24), .inl (0, 24), .inl (0, 24), .inl (0, 24), .inl (0, 64), .inl (0, 8), .inr (3, [.ref 26, .ref 27, .ref 28, .ref 29, .int 0]), .inl (0, 4), .inl (0, 4), .inl (0, 24), .inl (0, 4), .inr (7, [.ref 31, .ref 32, .int 0, .float 0]), .inl (0, 8), .inl (0, 9), .inr (6, [.ref 34, .ref 35, .int 0, .int 0]), .inl (0, 64), .inr (8, [.ref 36, .ref 43, .ref 48, .int 0, .int 0]), .inr (1, [.ref 37, .ref 38, .ref 39, .ref 40, .ref 41, .ref 42, .int 0, .int 0]), .inl (0, 24), .inl (0, 24), .inl (0, 24), .inl (0, 24), .inl (0, 64), .inl (0, 8), .inr (3, [.ref 44, .ref 45, .ref 46, .ref 47, .int 0]), .inl (0, 4), .inl (0, 4), .inl (0, 24), .inl (0, 4), .inr (7, [.ref 49, .ref 50, .int 0, .float 0]), .inl (0, 8), .inl (0, 9), .inr (2, [.ref 1, .ref 52, .ref 53, .ref 54, .int 0]), .inl (0, 4096), .inl (0, 4096), .inl (0, 325), .inr (0, [.ref 1, .ref 51, .int 0]), .inr (4, [.ref 1, .ref 51, .ref 57, .ref 58, .int 0, .long 0, .float 0, .int 0]), .inl (1, 16), .inl (0, 16), .inr (5, [.ref 1, .ref 60, .long 0, .float 0]), .inl (1, 16), .inl (0, 8), .inl (0, 7), .inr (10, [.ref 64, .ref 65, .ref 66, .ref 67, .ref 68, .ref 69, .ref 70, .ref 71, .ref 72, .ref 73, .int 0, .int 0, .int 0, .int 0, .int 0, .int 0, .int 0, .int 0, .int 0, .ref 74, .ref 75, .ref 76, .ref 77, .ref 78, .ref 79, .ref 80, .int 0, .int 0, .int 0, .ref 81, .float 0, .float 0, .int 0, .int 0, .ref 82, .ref 83, .ref 84, .ref 85, .ref 86, .ref 87, .ref 88, .ref 89, .ref 90, .ref 91, .ref 92, .int 0, .int 0]), .inl (0, 7), .inl (0, 24), .inl (0, 24), .inl (0, 24), .inl (0, 24), .inl (0, 4), .inl (0, 4), .inl (0, 24), .inl (0, 4), .inl (0, 8), .inl (0, 64), .inl (0, 32), .inl (0, 32), .inl (0, 32), .inl (0, 32), .inl (0, 32), .inl (0, 32), .inl (0, 400), .inl (0, 32), .inl (0, 64), .inl (0, 64), .inl (0, 256), .inl (0, 4608), .inl (0, 4608), .inl (0, 18432), .inl (0, 4608), .inl (1, 4608), .inl (2, 4608), .inl (0, 8)]
def zMW : Nat → Int64 := fun j => [6148914691236517205, 3689348814741910323, 1085102592571150095, 71777214294589695, 281470681808895, 4294967295].getD j 0
def zset (A : zA) (c : Nat) (f : Nat → Int32) : zA := fun i => if i = c then f else A i
def zsetL (L : zL) (c : Nat) (f : Nat → Int64) : zL := fun i => if i = c then f else L i
theorem zset_s (A : zA) (c : Nat) (f : Nat → Int32) : zset A c f c = f := by simp [zset]
theorem zset_n {A : zA} {c i : Nat} {f : Nat → Int32} (h : i ≠ c) : zset A c f i = A i := by simp [zset, h]
theorem zsetL_s (L : zL) (c : Nat) (f : Nat → Int64) : zsetL L c f c = f := by simp [zsetL]
theorem zsetL_n {L : zL} {c i : Nat} {f : Nat → Int64} (h : i ≠ c) : zsetL L c f i = L i := by simp [zsetL, h]
def zget (lv : zLv) (i : Nat) : Option Value := match lv with
  | [] => none
  | q :: r => bif q.1 == i then some q.2 else zget r i
def zpick (lv : zLv) (is : List Nat) : Option zLv := match is with
  | [] => some []
  | i :: r => match zget lv i with
    | some v => match zpick lv r with
      | some vs => some ((i, v) :: vs)
      | none => none
    | none => none
def zst1 (lv : zLv) (i : Nat) (v : Value) : zLv := (i, v) :: lv.filter (fun q => !(q.1 == i) && !(q.1 + 1 == i && q.2.category == 2))
def zst2 (lv : zLv) (i : Nat) (v : Value) : zLv := (i, v) :: lv.filter (fun q => !(q.1 == i) && (!(q.1 == i + 1) && !(q.1 + 1 == i && q.2.category == 2)))
/-- an index is within, else nothing -/
def zck (i : Int32) (n : Nat) (k : Option zR) : Option zR := if i < 0 ∨ n ≤ i.toNatClampNeg then none else k
/-- an int is a boolean, else nothing -/
def zcb (x : Int32) (k : Option zR) : Option zR := if x = 0 ∨ x = 1 then k else none
/-- a divisor isn't 0, else nothing -/
def zcd (x : Int32) (k : Option zR) : Option zR := if x = 0 then none else k
/-- so much can be copied from the start of a row of n0 to the start of one of n1 -/
def zcc (sp dp n : Int32) (n0 n1 : Nat) (k : Option zR) : Option zR := if sp = 0 ∧ dp = 0 ∧ ¬ n < 0 ∧ n.toNatClampNeg ≤ n0 ∧ n.toNatClampNeg ≤ n1 then k else none
def zbi (r : Option zR) (k : Int32 → zA → zL → Option zR) : Option zR := match r with
  | some (some (.int v), A, L) => k v A L
  | _ => none
def zbl (r : Option zR) (k : Int64 → zA → zL → Option zR) : Option zR := match r with
  | some (some (.long v), A, L) => k v A L
  | _ => none
def zbv (r : Option zR) (k : zA → zL → Option zR) : Option zR := match r with
  | some (none, A, L) => k A L
  | _ => none
def zushr (x y : Int32) : Int32 := (x.toUInt32 >>> (y.toUInt32 &&& Int32.toUInt32 31)).toInt32
def zlushr (x : Int64) (y : Int32) : Int64 := (x.toUInt64 >>> (y.toInt64.toUInt64 &&& Int64.toUInt64 63)).toInt64
def zlshl (x : Int64) (y : Int32) : Int64 := x <<< (y.toInt64 &&& 63)
def zshl (x y : Int32) : Int32 := x <<< (y &&& 31)
def zshr (x y : Int32) : Int32 := x >>> (y &&& 31)
def zrem (x y : Int32) : Int32 := x - x / y * y
def zsw (x : Int32) (ps : List (Int32 × Nat)) (j : Nat → Option zR) (k : Option zR) : Option zR := match ps with
  | [] => k
  | q :: r => if x = q.1 then j q.2 else zsw x r j k
def zcat (st : List Value) : Nat := (st.map fun v => v.category).sum
/-- instructions that look at the stack alone -/
def zpure (i : Instr) (c : Int32) (d : Int64) (st : List Value) : Option (List Value) := match i with
  | .iconst _ => some (.int c :: st)
  | .bipush _ => some (.int c :: st)
  | .sipush _ => some (.int c :: st)
  | .ldc _ => some (.int c :: st)
  | .ldc_w _ => some (.int c :: st)
  | .lconst _ => some (.long d :: st)
  | .ldc2_w _ => some (.long d :: st)
  | .iadd => match st with | .int y :: .int x :: st => some (.int (x + y) :: st) | _ => none
  | .isub => match st with | .int y :: .int x :: st => some (.int (x - y) :: st) | _ => none
  | .imul => match st with | .int y :: .int x :: st => some (.int (x * y) :: st) | _ => none
  | .iand => match st with | .int y :: .int x :: st => some (.int (x &&& y) :: st) | _ => none
  | .ior => match st with | .int y :: .int x :: st => some (.int (x ||| y) :: st) | _ => none
  | .ixor => match st with | .int y :: .int x :: st => some (.int (x ^^^ y) :: st) | _ => none
  | .ishl => match st with | .int y :: .int x :: st => some (.int (zshl x y) :: st) | _ => none
  | .ishr => match st with | .int y :: .int x :: st => some (.int (zshr x y) :: st) | _ => none
  | .iushr => match st with | .int y :: .int x :: st => some (.int (zushr x y) :: st) | _ => none
  | .ineg => match st with | .int x :: st => some (.int (-x) :: st) | _ => none
  | .land => match st with | .long y :: .long x :: st => some (.long (x &&& y) :: st) | _ => none
  | .lor => match st with | .long y :: .long x :: st => some (.long (x ||| y) :: st) | _ => none
  | .lxor => match st with | .long y :: .long x :: st => some (.long (x ^^^ y) :: st) | _ => none
  | .lshl => match st with | .int y :: .long x :: st => some (.long (zlshl x y) :: st) | _ => none
  | .lushr => match st with | .int y :: .long x :: st => some (.long (zlushr x y) :: st) | _ => none
  | .lcmp => match st with | .long y :: .long x :: st => some (.int (lg_cmp x y) :: st) | _ => none
  | .i2l => match st with | .int x :: st => some (.long x.toInt64 :: st) | _ => none
  | .l2i => match st with | .long x :: st => some (.int x.toInt32 :: st) | _ => none
  | .ladd => match st with | .long y :: .long x :: st => some (.long (x + y) :: st) | _ => none
  | .lsub => match st with | .long y :: .long x :: st => some (.long (x - y) :: st) | _ => none
  | .dup => match st with | .int x :: st => some (.int x :: .int x :: st) | .ref x :: st => some (.ref x :: .ref x :: st) | _ => none
  | .dup2 => match st with | .int x :: .ref y :: st => some (.int x :: .ref y :: .int x :: .ref y :: st) | .long x :: st => some (.long x :: .long x :: st) | _ => none
  | .pop => match st with | .int _ :: st => some st | .ref _ :: st => some st | _ => none
  | _ => none
/-- a call: a the method, b how many arguments (the receiver too), r what it answers (0 nothing, 1 an int, 2 a long) -/
def zcl (C : Nat → List Value → zA → zL → Option zR) (k : List Value → zA → zL → Option zR) (a b r : Nat) (st : List Value) (A : zA) (L : zL) : Option zR :=
  bif (Nat.ble b st.length && Nat.ble (zcat (st.drop b)) 8) then match r with
    | 0 => zbv (C a (st.take b).reverse A L) (fun A L => k (st.drop b) A L)
    | 1 => zbi (C a (st.take b).reverse A L) (fun v A L => k (.int v :: st.drop b) A L)
    | _ => zbl (C a (st.take b).reverse A L) (fun v A L => k (.long v :: st.drop b) A L)
  else none
def zop (sc : Nat × (Nat → Int32)) (o : zO) (lv : zLv) (st : List Value) (A : zA) (L : zL)
    (k : zLv → List Value → zA → zL → Option zR) (j : Nat → zLv → List Value → zA → zL → Option zR) (C : Nat → List Value → zA → zL → Option zR) : Option zR :=
  match o with
  | (i, _, a, b, ns, ps, c, d) => match i with
  | .iload _ => match zget lv a with | some (.int x) => k lv (.int x :: st) A L | _ => none
  | .iload_n _ => match zget lv a with | some (.int x) => k lv (.int x :: st) A L | _ => none
  | .lload _ => match zget lv a with | some (.long x) => k lv (.long x :: st) A L | _ => none
  | .lload_n _ => match zget lv a with | some (.long x) => k lv (.long x :: st) A L | _ => none
  | .aload _ => match zget lv a with | some (.ref x) => k lv (.ref x :: st) A L | _ => none
  | .aload_n _ => match zget lv a with | some (.ref x) => k lv (.ref x :: st) A L | _ => none
  | .istore _ => match st with | .int x :: st => k (zst1 lv a (.int x)) st A L | _ => none
  | .istore_n _ => match st with | .int x :: st => k (zst1 lv a (.int x)) st A L | _ => none
  | .astore _ => match st with | .ref x :: st => k (zst1 lv a (.ref x)) st A L | _ => none
  | .astore_n _ => match st with | .ref x :: st => k (zst1 lv a (.ref x)) st A L | _ => none
  | .lstore _ => match st with | .long x :: st => k (zst2 lv a (.long x)) st A L | _ => none
  | .lstore_n _ => match st with | .long x :: st => k (zst2 lv a (.long x)) st A L | _ => none
  | .iinc _ _ => match zget lv a with | some (.int x) => k (zst1 lv a (.int (x + c))) st A L | _ => none
  | .idiv => match st with | .int y :: .int x :: st => zcd y (k lv (.int (x / y) :: st) A L) | _ => none
  | .irem => match st with | .int y :: .int x :: st => zcd y (k lv (.int (zrem x y) :: st) A L) | _ => none
  | .getfield _ => match st with
    | .ref q :: st => match zSH[q]? with
      | some (.inr (ci, fs)) => bif ci == a then match fs[b]? with
        | some (.int _) => k lv (.int (A q b) :: st) A L
        | some (.float _) => k lv (.int (A q b) :: st) A L
        | some (.long _) => k lv (.long (L q b) :: st) A L
        | some (.ref t) => k lv (.ref t :: st) A L
        | _ => none else none
      | _ => none
    | _ => none
  | .putfield _ => match st with
    | .int x :: .ref q :: st => match zSH[q]? with
      | some (.inr (ci, fs)) => bif ci == a then match fs[b]? with
        | some (.int _) => k lv st (zset A q (upd (A q) b x)) L
        | some (.float _) => zcb x (k lv st (zset A q (upd (A q) b x)) L)
        | _ => none else none
      | _ => none
    | .long x :: .ref q :: st => match zSH[q]? with
      | some (.inr (ci, fs)) => bif ci == a then match fs[b]? with
        | some (.long _) => k lv st A (zsetL L q (vp_updL (L q) b x))
        | _ => none else none
      | _ => none
    | _ => none
  | .getstatic _ => k lv (.ref 1001 :: st) A L
  | .iaload => match st with
    | .int i :: .ref q :: st => bif q == 1000 then zck i sc.1 (k lv (.int (sc.2 i.toNatClampNeg) :: st) A L) else match zSH[q]? with
      | some (.inl (0, n)) => zck i n (k lv (.int (A q i.toNatClampNeg) :: st) A L)
      | _ => none
    | _ => none
  | .baload => match st with
    | .int i :: .ref q :: st => match zSH[q]? with
      | some (.inl (2, n)) => zck i n (k lv (.int (A q i.toNatClampNeg) :: st) A L)
      | _ => none
    | _ => none
  | .laload => match st with
    | .int i :: .ref q :: st => bif q == 1001 then zck i 6 (k lv (.long (zMW i.toNatClampNeg) :: st) A L) else match zSH[q]? with
      | some (.inl (1, n)) => zck i n (k lv (.long (L q i.toNatClampNeg) :: st) A L)
      | _ => none
    | _ => none
  | .iastore => match st with
    | .int x :: .int i :: .ref q :: st => match zSH[q]? with
      | some (.inl (0, n)) => zck i n (k lv st (zset A q (upd (A q) i.toNatClampNeg x)) L)
      | _ => none
    | _ => none
  | .bastore => match st with
    | .int x :: .int i :: .ref q :: st => match zSH[q]? with
      | some (.inl (2, n)) => zck i n (zcb x (k lv st (zset A q (upd (A q) i.toNatClampNeg x)) L))
      | _ => none
    | _ => none
  | .lastore => match st with
    | .long x :: .int i :: .ref q :: st => match zSH[q]? with
      | some (.inl (1, n)) => zck i n (k lv st A (zsetL L q (vp_updL (L q) i.toNatClampNeg x)))
      | _ => none
    | _ => none
  | .arraylength => match st with
    | .ref q :: st => bif q == 1000 then k lv (.int (nI sc.1) :: st) A L else match zSH[q]? with
      | some (.inl (_, n)) => bif nI n == c then k lv (.int c :: st) A L else none
      | _ => none
    | _ => none
  | .ifCond cc _ => match st with
    | .int x :: st => match cc with
      | .eq => if x = 0 then j a lv st A L else k lv st A L
      | .ne => if x = 0 then k lv st A L else j a lv st A L
      | .lt => if x < 0 then j a lv st A L else k lv st A L
      | .ge => if 0 ≤ x then j a lv st A L else k lv st A L
      | .gt => if 0 < x then j a lv st A L else k lv st A L
      | .le => if x ≤ 0 then j a lv st A L else k lv st A L
    | _ => none
  | .if_icmp cc _ => match st with
    | .int y :: .int x :: st => match cc with
      | .eq => if x = y then j a lv st A L else k lv st A L
      | .ne => if x = y then k lv st A L else j a lv st A L
      | .lt => if x < y then j a lv st A L else k lv st A L
      | .ge => if y ≤ x then j a lv st A L else k lv st A L
      | .gt => if y < x then j a lv st A L else k lv st A L
      | .le => if x ≤ y then j a lv st A L else k lv st A L
    | _ => none
  | .goto _ => j a lv st A L
  | .tableswitch _ _ _ _ => match st with
    | .int x :: st => zsw x ps (fun b => j b lv st A L) (j a lv st A L)
    | _ => none
  | .lookupswitch _ _ => match st with
    | .int x :: st => zsw x ps (fun b => j b lv st A L) (j a lv st A L)
    | _ => none
  | .ireturn => match st with
    | [.int x] => match a with
      | 0 => some (some (.int x), A, L)
      | _ => zcb x (some (some (.int x), A, L))
    | _ => none
  | .lreturn => match st with
    | [.long x] => some (some (.long x), A, L)
    | _ => none
  | .return_ => match st with
    | [] => some (none, A, L)
    | _ => none
  | .invokevirtual _ => zcl C (fun st A L => k lv st A L) a b (ns.headD 0) st A L
  | .invokestatic _ => match ns.headD 0 with
    | 9 => match st with
      | .int n :: .int dp :: .ref q1 :: .int sp :: .ref q0 :: st => match zSH[q0]?, zSH[q1]? with
        | some (.inl (0, n0)), some (.inl (0, n1)) => bif Nat.ble (zcat st) 8 then zcc sp dp n n0 n1 (k lv st (zset A q1 (va_cpy (A q0) (A q1) 0 0 n.toNatClampNeg)) L) else none
        | _, _ => none
      | _ => none
    | r => zcl C (fun st A L => k lv st A L) a b r st A L
  | i => match zpure i c d st with
    | some st => k lv st A L
    | none => none
/-- to a block, with the locals that it needs -/
def zjmp (J : Nat → zLv → List Value → zA → zL → Option zR) (bs : List zBk) (b : Nat) (lv : zLv) (st : List Value) (A : zA) (L : zL) : Option zR :=
  match bs[b]? with
  | some bk => match zpick lv bk.2.1 with
    | some lv => J b lv st A L
    | none => none
  | none => none
def zgo (sc : Nat × (Nat → Int32)) (J : Nat → zLv → List Value → zA → zL → Option zR) (C : Nat → List Value → zA → zL → Option zR) (bs : List zBk) (nx : Nat) (os : List zO) (lv : zLv) (st : List Value) (A : zA) (L : zL) : Option zR :=
  match os with
  | [] => zjmp J bs nx lv st A L
  | o :: r => zop sc o lv st A L (fun lv st A L => zgo sc J C bs nx r lv st A L) (fun b lv st A L => zjmp J bs b lv st A L) C
def zno : Nat × (Nat → Int32) := (0, fun _ => 0)
def zex (T : List zM) (n d m b : Nat) (lv : zLv) (st : List Value) (A : zA) (L : zL) : Option zR :=
  match n with
  | 0 => none
  | n + 1 => match T[m]? with
    | some M => match M.2.2.2.2[b]? with
      | some bk => zgo zno (fun b lv st A L => zex T n d m b lv st A L) (fun k as A L => match d with
          | 0 => none
          | d + 1 => zex T n d k 0 (lv_args 0 as) [] A L) M.2.2.2.2 bk.2.2.2 bk.2.2.1 lv st A L
      | none => none
    | none => none
end
section
/-! ===== the machine's limit: 'zrun' is what 'zex' comes to, and it goes by blocks ===== -/
/-- F goes on answering what it answers, and f answers just what F answers from some place on -/
def zLm (F : Nat → Option zR) (f : Option zR) : Prop := (∀ n r, F n = some r → F (n + 1) = some r) ∧ ∀ r, f = some r ↔ ∃ N, F N = some r
theorem zLm.up {F : Nat → Option zR} {f : Option zR} (h : zLm F f) {n m : Nat} {r : zR} (hr : F n = some r) (hm : n ≤ m) : F m = some r := by
  induction hm with
  | refl => exact hr
  | step _ ih => exact h.1 _ _ ih
theorem zLm_c (x : Option zR) : zLm (fun _ => x) x := ⟨fun _ _ h => h, fun r => ⟨fun h => ⟨0, h⟩, fun ⟨_, h⟩ => h⟩⟩
theorem zLm_if {c : Prop} [Decidable c] {F G : Nat → Option zR} {f g : Option zR} (h1 : zLm F f) (h2 : zLm G g) : zLm (fun n => if c then F n else G n) (if c then f else g) := by
  by_cases h : c
  · simp only [h, if_true]; exact h1
  · simp only [h, if_false]; exact h2
theorem zLm_b {c : Bool} {F G : Nat → Option zR} {f g : Option zR} (h1 : zLm F f) (h2 : zLm G g) : zLm (fun n => bif c then F n else G n) (bif c then f else g) := by
  cases c
  · exact h2
  · exact h1
theorem zLm_ck {i : Int32} {m : Nat} {F : Nat → Option zR} {f : Option zR} (h1 : zLm F f) : zLm (fun n => zck i m (F n)) (zck i m f) := zLm_if (zLm_c _) h1
theorem zLm_cb {x : Int32} {F : Nat → Option zR} {f : Option zR} (h1 : zLm F f) : zLm (fun n => zcb x (F n)) (zcb x f) := zLm_if h1 (zLm_c _)
theorem zLm_cd {x : Int32} {F : Nat → Option zR} {f : Option zR} (h1 : zLm F f) : zLm (fun n => zcd x (F n)) (zcd x f) := zLm_if (zLm_c _) h1
theorem zLm_cc {sp dp m : Int32} {n0 n1 : Nat} {F : Nat → Option zR} {f : Option zR} (h1 : zLm F f) : zLm (fun n => zcc sp dp m n0 n1 (F n)) (zcc sp dp m n0 n1 f) := zLm_if h1 (zLm_c _)
/-- what is bound to an answer: 'p' takes an answer apart -/
theorem zLm_bind {α : Type} {C : Nat → Option zR} {c : Option zR} (p : zR → Option α) {K : Nat → α → Option zR} {k : α → Option zR} (B : Option zR → (α → Option zR) → Option zR)
    (hB : ∀ (x : Option zR) (g : α → Option zR) (r : zR), B x g = some r ↔ ∃ y a, x = some y ∧ p y = some a ∧ g a = some r) (hC : zLm C c) (hK : ∀ a, zLm (fun n => K n a) (k a)) : zLm (fun n => B (C n) (K n)) (B c k) := by
  constructor
  · intro n r h
    obtain ⟨y, a, h1, h2, h3⟩ := (hB _ _ _).mp h
    exact (hB _ _ _).mpr ⟨y, a, hC.1 n y h1, h2, (hK a).1 n r h3⟩
  · intro r
    constructor
    · intro h
      obtain ⟨y, a, h1, h2, h3⟩ := (hB _ _ _).mp h
      obtain ⟨N1, g1⟩ := (hC.2 y).mp h1
      obtain ⟨N2, g2⟩ := ((hK a).2 r).mp h3
      exact ⟨max N1 N2, (hB _ _ _).mpr ⟨y, a, hC.up g1 (Nat.le_max_left _ _), h2, (hK a).up g2 (Nat.le_max_right _ _)⟩⟩
    · intro ⟨N, h⟩
      obtain ⟨y, a, h1, h2, h3⟩ := (hB _ _ _).mp h
      exact (hB _ _ _).mpr ⟨y, a, (hC.2 y).mpr ⟨N, h1⟩, h2, ((hK a).2 r).mpr ⟨N, h3⟩⟩
theorem zLm_bv {C : Nat → Option zR} {c : Option zR} {K : Nat → zA → zL → Option zR} {k : zA → zL → Option zR} (hC : zLm C c) (hK : ∀ A L, zLm (fun n => K n A L) (k A L)) : zLm (fun n => zbv (C n) (K n)) (zbv c k) := by
  have h := zLm_bind (α := zA × zL) (fun y => match y with | (none, A, L) => some (A, L) | _ => none) (K := fun n a => K n a.1 a.2) (k := fun a => k a.1 a.2) (fun x g => zbv x (fun A L => g (A, L))) (fun x g r => by
    rcases x with _ | ⟨_ | v, A, L⟩ <;> simp [zbv]) hC (fun a => hK a.1 a.2)
  exact h
theorem zLm_bi {C : Nat → Option zR} {c : Option zR} {K : Nat → Int32 → zA → zL → Option zR} {k : Int32 → zA → zL → Option zR} (hC : zLm C c) (hK : ∀ v A L, zLm (fun n => K n v A L) (k v A L)) : zLm (fun n => zbi (C n) (K n)) (zbi c k) := by
  have h := zLm_bind (α := Int32 × zA × zL) (fun y => match y with | (some (.int v), A, L) => some (v, A, L) | _ => none) (K := fun n a => K n a.1 a.2.1 a.2.2) (k := fun a => k a.1 a.2.1 a.2.2) (fun x g => zbi x (fun v A L => g (v, A, L))) (fun x g r => by
    rcases x with _ | ⟨_ | v, A, L⟩ <;> first | (simp [zbi]; done) | (cases v <;> simp [zbi])) hC (fun a => hK a.1 a.2.1 a.2.2)
  exact h
theorem zLm_bl {C : Nat → Option zR} {c : Option zR} {K : Nat → Int64 → zA → zL → Option zR} {k : Int64 → zA → zL → Option zR} (hC : zLm C c) (hK : ∀ v A L, zLm (fun n => K n v A L) (k v A L)) : zLm (fun n => zbl (C n) (K n)) (zbl c k) := by
  have h := zLm_bind (α := Int64 × zA × zL) (fun y => match y with | (some (.long v), A, L) => some (v, A, L) | _ => none) (K := fun n a => K n a.1 a.2.1 a.2.2) (k := fun a => k a.1 a.2.1 a.2.2) (fun x g => zbl x (fun v A L => g (v, A, L))) (fun x g r => by
    rcases x with _ | ⟨_ | v, A, L⟩ <;> first | (simp [zbl]; done) | (cases v <;> simp [zbl])) hC (fun a => hK a.1 a.2.1 a.2.2)
  exact h
theorem zLm_sw {x : Int32} {F : Nat → Nat → Option zR} {f : Nat → Option zR} {G : Nat → Option zR} {g : Option zR} (hF : ∀ b, zLm (fun n => F n b) (f b)) (hG : zLm G g) : ∀ ps : List (Int32 × Nat), zLm (fun n => zsw x ps (F n) (G n)) (zsw x ps f g)
  | [] => hG
  | q :: r => zLm_if (hF q.2) (zLm_sw hF hG r)
abbrev zK : Type := zLv → List Value → zA → zL → Option zR
theorem zLm_cl {C : Nat → Nat → List Value → zA → zL → Option zR} {c : Nat → List Value → zA → zL → Option zR} {K : Nat → List Value → zA → zL → Option zR} {k : List Value → zA → zL → Option zR} (hC : ∀ a as A L, zLm (fun n => C n a as A L) (c a as A L)) (hK : ∀ st A L, zLm (fun n => K n st A L) (k st A L)) (a b r : Nat) (st : List Value) (A : zA) (L : zL) :
    zLm (fun n => zcl (C n) (K n) a b r st A L) (zcl c k a b r st A L) := by
  unfold zcl
  refine zLm_b ?_ (zLm_c _)
  match r with
  | 0 => exact zLm_bv (hC _ _ _ _) (fun A L => hK _ A L)
  | 1 => exact zLm_bi (hC _ _ _ _) (fun v A L => hK _ A L)
  | r + 2 => exact zLm_bl (hC _ _ _ _) (fun v A L => hK _ A L)
theorem zLm_op (sc : Nat × (Nat → Int32)) (o : zO) (lv : zLv) (st : List Value) (A : zA) (L : zL) {K : Nat → zK} {k : zK} {J : Nat → Nat → zK} {j : Nat → zK} {C : Nat → Nat → List Value → zA → zL → Option zR} {c : Nat → List Value → zA → zL → Option zR}
    (hk : ∀ lv st A L, zLm (fun n => K n lv st A L) (k lv st A L)) (hj : ∀ b lv st A L, zLm (fun n => J n b lv st A L) (j b lv st A L)) (hC : ∀ a as A L, zLm (fun n => C n a as A L) (c a as A L)) :
    zLm (fun n => zop sc o lv st A L (K n) (J n) (C n)) (zop sc o lv st A L k j c) := by
  obtain ⟨i, len, a, b, ns, ps, ci, cl⟩ := o
  have hz : ∀ i' : Instr, zLm (fun n => match zpure i' ci cl st with | some st => K n lv st A L | none => none) (match zpure i' ci cl st with | some st => k lv st A L | none => none) := by
    intro i'
    cases zpure i' ci cl st with
    | none => exact zLm_c _
    | some st => exact hk _ _ _ _
  cases i
  case iload =>
    cases h : zget lv a with
    | none => simp only [zop, h]; exact zLm_c _
    | some v => cases v <;> simp only [zop, h] <;> first | exact hk _ _ _ _ | exact zLm_c _
  case iload_n =>
    cases h : zget lv a with
    | none => simp only [zop, h]; exact zLm_c _
    | some v => cases v <;> simp only [zop, h] <;> first | exact hk _ _ _ _ | exact zLm_c _
  case lload =>
    cases h : zget lv a with
    | none => simp only [zop, h]; exact zLm_c _
    | some v => cases v <;> simp only [zop, h] <;> first | exact hk _ _ _ _ | exact zLm_c _
  case lload_n =>
    cases h : zget lv a with
    | none => simp only [zop, h]; exact zLm_c _
    | some v => cases v <;> simp only [zop, h] <;> first | exact hk _ _ _ _ | exact zLm_c _
  case aload =>
    cases h : zget lv a with
    | none => simp only [zop, h]; exact zLm_c _
    | some v => cases v <;> simp only [zop, h] <;> first | exact hk _ _ _ _ | exact zLm_c _
  case aload_n =>
    cases h : zget lv a with
    | none => simp only [zop, h]; exact zLm_c _
    | some v => cases v <;> simp only [zop, h] <;> first | exact hk _ _ _ _ | exact zLm_c _
  case iinc =>
    cases h : zget lv a with
    | none => simp only [zop, h]; exact zLm_c _
    | some v => cases v <;> simp only [zop, h] <;> first | exact hk _ _ _ _ | exact zLm_c _
  case istore =>
    rcases st with _ | ⟨v, st⟩
    · exact zLm_c _
    · cases v <;> first | exact hk _ _ _ _ | exact zLm_c _
  case istore_n =>
    rcases st with _ | ⟨v, st⟩
    · exact zLm_c _
    · cases v <;> first | exact hk _ _ _ _ | exact zLm_c _
  case astore =>
    rcases st with _ | ⟨v, st⟩
    · exact zLm_c _
    · cases v <;> first | exact hk _ _ _ _ | exact zLm_c _
  case astore_n =>
    rcases st with _ | ⟨v, st⟩
    · exact zLm_c _
    · cases v <;> first | exact hk _ _ _ _ | exact zLm_c _
  case lstore =>
    rcases st with _ | ⟨v, st⟩
    · exact zLm_c _
    · cases v <;> first | exact hk _ _ _ _ | exact zLm_c _
  case lstore_n =>
    rcases st with _ | ⟨v, st⟩
    · exact zLm_c _
    · cases v <;> first | exact hk _ _ _ _ | exact zLm_c _
  case idiv =>
    rcases st with _ | ⟨v, _ | ⟨w, st⟩⟩
    · exact zLm_c _
    · cases v <;> exact zLm_c _
    · cases v <;> cases w <;> first | exact zLm_cd (hk _ _ _ _) | exact zLm_c _
  case irem =>
    rcases st with _ | ⟨v, _ | ⟨w, st⟩⟩
    · exact zLm_c _
    · cases v <;> exact zLm_c _
    · cases v <;> cases w <;> first | exact zLm_cd (hk _ _ _ _) | exact zLm_c _
  case getfield =>
    rcases st with _ | ⟨v, st⟩
    · exact zLm_c _
    · cases v <;> try exact zLm_c _
      rename_i q
      cases h : zSH[q]? with
      | none => simp only [zop, h]; exact zLm_c _
      | some s => 
        rcases s with s | ⟨c', fs⟩
        · simp only [zop, h]; exact zLm_c _
        · simp only [zop, h]
          refine zLm_b ?_ (zLm_c _)
          cases h2 : fs[b]? with
          | none => exact zLm_c _
          | some v => cases v <;> first | exact hk _ _ _ _ | exact zLm_c _
  case putfield =>
    rcases st with _ | ⟨v, _ | ⟨w, st⟩⟩
    · exact zLm_c _
    · cases v <;> exact zLm_c _
    · cases w <;> (try (cases v <;> exact zLm_c _))
      rename_i q
      cases v <;> try exact zLm_c _
      · cases h : zSH[q]? with
        | none => simp only [zop, h]; exact zLm_c _
        | some s => 
          rcases s with s | ⟨c', fs⟩
          · simp only [zop, h]; exact zLm_c _
          · simp only [zop, h]
            refine zLm_b ?_ (zLm_c _)
            cases h2 : fs[b]? with
            | none => exact zLm_c _
            | some v => cases v <;> first | exact hk _ _ _ _ | exact zLm_cb (hk _ _ _ _) | exact zLm_c _
      · cases h : zSH[q]? with
        | none => simp only [zop, h]; exact zLm_c _
        | some s => 
          rcases s with s | ⟨c', fs⟩
          · simp only [zop, h]; exact zLm_c _
          · simp only [zop, h]
            refine zLm_b ?_ (zLm_c _)
            cases h2 : fs[b]? with
            | none => exact zLm_c _
            | some v => cases v <;> first | exact hk _ _ _ _ | exact zLm_c _
  case getstatic =>
    exact hk _ _ _ _
  case iaload =>
    rcases st with _ | ⟨v, _ | ⟨w, st⟩⟩
    · exact zLm_c _
    · cases v <;> exact zLm_c _
    · cases v <;> (try (cases w <;> exact zLm_c _))
      cases w <;> try exact zLm_c _
      rename_i q
      refine zLm_b (zLm_ck (hk _ _ _ _)) ?_
      cases h : zSH[q]? with
      | none => exact zLm_c _
      | some s =>
        rcases s with ⟨kd, n⟩ | s
        · match kd with
          | 0 => first | exact zLm_ck (hk _ _ _ _) | exact zLm_c _
          | 1 => first | exact zLm_ck (hk _ _ _ _) | exact zLm_c _
          | 2 => first | exact zLm_ck (hk _ _ _ _) | exact zLm_c _
          | kd + 3 => exact zLm_c _
        · exact zLm_c _
  case laload =>
    rcases st with _ | ⟨v, _ | ⟨w, st⟩⟩
    · exact zLm_c _
    · cases v <;> exact zLm_c _
    · cases v <;> (try (cases w <;> exact zLm_c _))
      cases w <;> try exact zLm_c _
      rename_i q
      refine zLm_b (zLm_ck (hk _ _ _ _)) ?_
      cases h : zSH[q]? with
      | none => exact zLm_c _
      | some s =>
        rcases s with ⟨kd, n⟩ | s
        · match kd with
          | 0 => first | exact zLm_ck (hk _ _ _ _) | exact zLm_c _
          | 1 => first | exact zLm_ck (hk _ _ _ _) | exact zLm_c _
          | 2 => first | exact zLm_ck (hk _ _ _ _) | exact zLm_c _
          | kd + 3 => exact zLm_c _
        · exact zLm_c _
  case baload =>
    rcases st with _ | ⟨v, _ | ⟨w, st⟩⟩
    · exact zLm_c _
    · cases v <;> exact zLm_c _
    · cases v <;> (try (cases w <;> exact zLm_c _))
      cases w <;> try exact zLm_c _
      rename_i q
      cases h : zSH[q]? with
      | none => simp only [zop, h]; exact zLm_c _
      | some s =>
        rcases s with ⟨kd, n⟩ | s
        · simp only [zop, h]; match kd with
          | 0 => first | exact zLm_ck (hk _ _ _ _) | exact zLm_c _
          | 1 => first | exact zLm_ck (hk _ _ _ _) | exact zLm_c _
          | 2 => first | exact zLm_ck (hk _ _ _ _) | exact zLm_c _
          | kd + 3 => exact zLm_c _
        · simp only [zop, h]; exact zLm_c _
  case iastore =>
    rcases st with _ | ⟨v, _ | ⟨w, _ | ⟨u, st⟩⟩⟩
    · exact zLm_c _
    · cases v <;> exact zLm_c _
    · cases v <;> first | exact zLm_c _ | (cases w <;> exact zLm_c _)
    · cases v <;> (try exact zLm_c _)
      cases w <;> (try exact zLm_c _)
      cases u <;> (try exact zLm_c _)
      rename_i q
      cases h : zSH[q]? with
      | none => simp only [zop, h]; exact zLm_c _
      | some s =>
        rcases s with ⟨kd, n⟩ | s
        · simp only [zop, h]; match kd with
          | 0 => first | exact zLm_ck (hk _ _ _ _) | exact zLm_c _
          | 1 => first | exact zLm_ck (hk _ _ _ _) | exact zLm_c _
          | 2 => first | exact zLm_ck (zLm_cb (hk _ _ _ _)) | exact zLm_c _
          | kd + 3 => exact zLm_c _
        · simp only [zop, h]; exact zLm_c _
  case bastore =>
    rcases st with _ | ⟨v, _ | ⟨w, _ | ⟨u, st⟩⟩⟩
    · exact zLm_c _
    · cases v <;> exact zLm_c _
    · cases v <;> first | exact zLm_c _ | (cases w <;> exact zLm_c _)
    · cases v <;> (try exact zLm_c _)
      cases w <;> (try exact zLm_c _)
      cases u <;> (try exact zLm_c _)
      rename_i q
      cases h : zSH[q]? with
      | none => simp only [zop, h]; exact zLm_c _
      | some s =>
        rcases s with ⟨kd, n⟩ | s
        · simp only [zop, h]; match kd with
          | 0 => first | exact zLm_ck (hk _ _ _ _) | exact zLm_c _
          | 1 => first | exact zLm_ck (hk _ _ _ _) | exact zLm_c _
          | 2 => first | exact zLm_ck (zLm_cb (hk _ _ _ _)) | exact zLm_c _
          | kd + 3 => exact zLm_c _
        · simp only [zop, h]; exact zLm_c _
  case lastore =>
    rcases st with _ | ⟨v, _ | ⟨w, _ | ⟨u, st⟩⟩⟩
    · exact zLm_c _
    · cases v <;> exact zLm_c _
    · cases v <;> first | exact zLm_c _ | (cases w <;> exact zLm_c _)
    · cases v <;> (try exact zLm_c _)
      cases w <;> (try exact zLm_c _)
      cases u <;> (try exact zLm_c _)
      rename_i q
      cases h : zSH[q]? with
      | none => simp only [zop, h]; exact zLm_c _
      | some s =>
        rcases s with ⟨kd, n⟩ | s
        · simp only [zop, h]; match kd with
          | 0 => first | exact zLm_ck (hk _ _ _ _) | exact zLm_c _
          | 1 => first | exact zLm_ck (hk _ _ _ _) | exact zLm_c _
          | 2 => first | exact zLm_ck (zLm_cb (hk _ _ _ _)) | exact zLm_c _
          | kd + 3 => exact zLm_c _
        · simp only [zop, h]; exact zLm_c _
  case arraylength =>
    rcases st with _ | ⟨v, st⟩
    · exact zLm_c _
    · cases v <;> try exact zLm_c _
      rename_i q
      refine zLm_b (hk _ _ _ _) ?_
      cases h : zSH[q]? with
      | none => exact zLm_c _
      | some s =>
        rcases s with ⟨kd, n⟩ | s
        · exact zLm_b (hk _ _ _ _) (zLm_c _)
        · exact zLm_c _
  case ifCond =>
    rename_i cc off
    rcases st with _ | ⟨v, st⟩
    · exact zLm_c _
    · cases v <;> try exact zLm_c _
      cases cc <;> first | exact zLm_if (hj _ _ _ _ _) (hk _ _ _ _) | exact zLm_if (hk _ _ _ _) (hj _ _ _ _ _)
  case if_icmp =>
    rename_i cc off
    rcases st with _ | ⟨v, _ | ⟨w, st⟩⟩
    · exact zLm_c _
    · cases v <;> exact zLm_c _
    · cases v <;> cases w <;> try exact zLm_c _
      cases cc <;> first | exact zLm_if (hj _ _ _ _ _) (hk _ _ _ _) | exact zLm_if (hk _ _ _ _) (hj _ _ _ _ _)
  case goto =>
    exact hj _ _ _ _ _
  case tableswitch =>
    rcases st with _ | ⟨v, st⟩
    · exact zLm_c _
    · cases v <;> first | exact zLm_sw (fun b => hj _ _ _ _ _) (hj _ _ _ _ _) ps | exact zLm_c _
  case lookupswitch =>
    rcases st with _ | ⟨v, st⟩
    · exact zLm_c _
    · cases v <;> first | exact zLm_sw (fun b => hj _ _ _ _ _) (hj _ _ _ _ _) ps | exact zLm_c _
  case ireturn =>
    exact zLm_c _
  case lreturn =>
    exact zLm_c _
  case return_ =>
    exact zLm_c _
  case invokevirtual =>
    exact zLm_cl (K := fun n st A L => K n lv st A L) (k := fun st A L => k lv st A L) hC (fun st A L => hk lv st A L) a b (ns.headD 0) st A L
  case invokestatic =>
    by_cases h9 : ns.headD 0 = 9
    · rcases st with _ | ⟨v1, _ | ⟨v2, _ | ⟨v3, _ | ⟨v4, _ | ⟨v5, st⟩⟩⟩⟩⟩
      · simp only [zop, h9]; exact zLm_c _
      · simp only [zop, h9]; exact zLm_c _
      · simp only [zop, h9]; exact zLm_c _
      · simp only [zop, h9]; exact zLm_c _
      · simp only [zop, h9]; exact zLm_c _
      · cases v1 <;> (try (simp only [zop, h9]; exact zLm_c _))
        cases v2 <;> (try (simp only [zop, h9]; exact zLm_c _))
        cases v3 <;> (try (simp only [zop, h9]; exact zLm_c _))
        cases v4 <;> (try (simp only [zop, h9]; exact zLm_c _))
        cases v5 <;> (try (simp only [zop, h9]; exact zLm_c _))
        rename_i q1 _ q0
        cases h0 : zSH[q0]? with
        | none => simp only [zop, h9, h0]; exact zLm_c _
        | some s0 =>
          cases h1 : zSH[q1]? with
          | none => simp only [zop, h9, h0, h1]; rcases s0 with ⟨kd0, n0⟩ | s0 <;> first | exact zLm_c _ | (match kd0 with | 0 => exact zLm_c _ | kd + 1 => exact zLm_c _)
          | some s1 =>
            simp only [zop, h9, h0, h1]
            rcases s0 with ⟨kd0, n0⟩ | s0
            · rcases s1 with ⟨kd1, n1⟩ | s1
              · match kd0, kd1 with
                | 0, 0 => exact zLm_b (zLm_cc (hk _ _ _ _)) (zLm_c _)
                | 0, k1 + 1 => exact zLm_c _
                | k0 + 1, _ => exact zLm_c _
              · match kd0 with
                | 0 => exact zLm_c _
                | k0 + 1 => exact zLm_c _
            · exact zLm_c _
    · have e : ∀ (k : zK) (j : Nat → zK) (c : Nat → List Value → zA → zL → Option zR) x, zop sc (Instr.invokestatic x, len, a, b, ns, ps, ci, cl) lv st A L k j c = zcl c (fun st A L => k lv st A L) a b (ns.headD 0) st A L := by
        intro k j c x
        first
          | (simp only [zop]; done)
          | (simp only [zop]; split
             · rename_i e; exact absurd e h9
             · rfl)
      simp only [e]
      exact zLm_cl (K := fun n st A L => K n lv st A L) (k := fun st A L => k lv st A L) hC (fun st A L => hk lv st A L) a b (ns.headD 0) st A L
  case aaload => exact hz (Instr.aaload )
  case aastore => exact hz (Instr.aastore )
  case aconst_null => exact hz (Instr.aconst_null )
  case anewarray x0 => exact hz (Instr.anewarray x0)
  case areturn => exact hz (Instr.areturn )
  case athrow => exact hz (Instr.athrow )
  case bipush x0 => exact hz (Instr.bipush x0)
  case caload => exact hz (Instr.caload )
  case castore => exact hz (Instr.castore )
  case checkcast x0 => exact hz (Instr.checkcast x0)
  case d2f => exact hz (Instr.d2f )
  case d2i => exact hz (Instr.d2i )
  case d2l => exact hz (Instr.d2l )
  case dadd => exact hz (Instr.dadd )
  case daload => exact hz (Instr.daload )
  case dastore => exact hz (Instr.dastore )
  case dcmp x0 => exact hz (Instr.dcmp x0)
  case dconst x0 => exact hz (Instr.dconst x0)
  case ddiv => exact hz (Instr.ddiv )
  case dload x0 => exact hz (Instr.dload x0)
  case dload_n x0 => exact hz (Instr.dload_n x0)
  case dmul => exact hz (Instr.dmul )
  case dneg => exact hz (Instr.dneg )
  case drem => exact hz (Instr.drem )
  case dreturn => exact hz (Instr.dreturn )
  case dstore x0 => exact hz (Instr.dstore x0)
  case dstore_n x0 => exact hz (Instr.dstore_n x0)
  case dsub => exact hz (Instr.dsub )
  case dup => exact hz (Instr.dup )
  case dup_x1 => exact hz (Instr.dup_x1 )
  case dup_x2 => exact hz (Instr.dup_x2 )
  case dup2 => exact hz (Instr.dup2 )
  case dup2_x1 => exact hz (Instr.dup2_x1 )
  case dup2_x2 => exact hz (Instr.dup2_x2 )
  case f2d => exact hz (Instr.f2d )
  case f2i => exact hz (Instr.f2i )
  case f2l => exact hz (Instr.f2l )
  case fadd => exact hz (Instr.fadd )
  case faload => exact hz (Instr.faload )
  case fastore => exact hz (Instr.fastore )
  case fcmp x0 => exact hz (Instr.fcmp x0)
  case fconst x0 => exact hz (Instr.fconst x0)
  case fdiv => exact hz (Instr.fdiv )
  case fload x0 => exact hz (Instr.fload x0)
  case fload_n x0 => exact hz (Instr.fload_n x0)
  case fmul => exact hz (Instr.fmul )
  case fneg => exact hz (Instr.fneg )
  case frem => exact hz (Instr.frem )
  case freturn => exact hz (Instr.freturn )
  case fstore x0 => exact hz (Instr.fstore x0)
  case fstore_n x0 => exact hz (Instr.fstore_n x0)
  case fsub => exact hz (Instr.fsub )
  case goto_w x0 => exact hz (Instr.goto_w x0)
  case i2b => exact hz (Instr.i2b )
  case i2c => exact hz (Instr.i2c )
  case i2d => exact hz (Instr.i2d )
  case i2f => exact hz (Instr.i2f )
  case i2l => exact hz (Instr.i2l )
  case i2s => exact hz (Instr.i2s )
  case iadd => exact hz (Instr.iadd )
  case iand => exact hz (Instr.iand )
  case iconst x0 => exact hz (Instr.iconst x0)
  case if_acmp x0 x1 => exact hz (Instr.if_acmp x0 x1)
  case ifnonnull x0 => exact hz (Instr.ifnonnull x0)
  case ifnull x0 => exact hz (Instr.ifnull x0)
  case imul => exact hz (Instr.imul )
  case ineg => exact hz (Instr.ineg )
  case instanceof x0 => exact hz (Instr.instanceof x0)
  case invokedynamic x0 => exact hz (Instr.invokedynamic x0)
  case invokeinterface x0 x1 => exact hz (Instr.invokeinterface x0 x1)
  case invokespecial x0 => exact hz (Instr.invokespecial x0)
  case ior => exact hz (Instr.ior )
  case ishl => exact hz (Instr.ishl )
  case ishr => exact hz (Instr.ishr )
  case isub => exact hz (Instr.isub )
  case iushr => exact hz (Instr.iushr )
  case ixor => exact hz (Instr.ixor )
  case jsr x0 => exact hz (Instr.jsr x0)
  case jsr_w x0 => exact hz (Instr.jsr_w x0)
  case l2d => exact hz (Instr.l2d )
  case l2f => exact hz (Instr.l2f )
  case l2i => exact hz (Instr.l2i )
  case ladd => exact hz (Instr.ladd )
  case land => exact hz (Instr.land )
  case lcmp => exact hz (Instr.lcmp )
  case lconst x0 => exact hz (Instr.lconst x0)
  case ldc x0 => exact hz (Instr.ldc x0)
  case ldc_w x0 => exact hz (Instr.ldc_w x0)
  case ldc2_w x0 => exact hz (Instr.ldc2_w x0)
  case ldiv => exact hz (Instr.ldiv )
  case lmul => exact hz (Instr.lmul )
  case lneg => exact hz (Instr.lneg )
  case lor => exact hz (Instr.lor )
  case lrem => exact hz (Instr.lrem )
  case lshl => exact hz (Instr.lshl )
  case lshr => exact hz (Instr.lshr )
  case lsub => exact hz (Instr.lsub )
  case lushr => exact hz (Instr.lushr )
  case lxor => exact hz (Instr.lxor )
  case monitorenter => exact hz (Instr.monitorenter )
  case monitorexit => exact hz (Instr.monitorexit )
  case multianewarray x0 x1 => exact hz (Instr.multianewarray x0 x1)
  case new x0 => exact hz (Instr.new x0)
  case newarray x0 => exact hz (Instr.newarray x0)
  case nop => exact hz (Instr.nop )
  case pop => exact hz (Instr.pop )
  case pop2 => exact hz (Instr.pop2 )
  case putstatic x0 => exact hz (Instr.putstatic x0)
  case ret x0 => exact hz (Instr.ret x0)
  case saload => exact hz (Instr.saload )
  case sastore => exact hz (Instr.sastore )
  case sipush x0 => exact hz (Instr.sipush x0)
  case swap => exact hz (Instr.swap )
theorem zLm_jmp {J : Nat → Nat → zK} {j : Nat → zK} (hj : ∀ b lv st A L, zLm (fun n => J n b lv st A L) (j b lv st A L)) (bs : List zBk) (b : Nat) (lv : zLv) (st : List Value) (A : zA) (L : zL) : zLm (fun n => zjmp (J n) bs b lv st A L) (zjmp j bs b lv st A L) := by
  unfold zjmp
  cases bs[b]? with
  | none => exact zLm_c _
  | some bk =>
    cases h : zpick lv bk.2.1 with
    | none => simp only [h]; exact zLm_c _
    | some lv => simp only [h]; exact hj _ _ _ _ _
theorem zLm_go (sc : Nat × (Nat → Int32)) {J : Nat → Nat → zK} {j : Nat → zK} {C : Nat → Nat → List Value → zA → zL → Option zR} {c : Nat → List Value → zA → zL → Option zR}
    (hj : ∀ b lv st A L, zLm (fun n => J n b lv st A L) (j b lv st A L)) (hC : ∀ a as A L, zLm (fun n => C n a as A L) (c a as A L)) (bs : List zBk) (nx : Nat) :
    ∀ (os : List zO) (lv : zLv) (st : List Value) (A : zA) (L : zL), zLm (fun n => zgo sc (J n) (C n) bs nx os lv st A L) (zgo sc j c bs nx os lv st A L)
  | [], lv, st, A, L => zLm_jmp hj bs nx lv st A L
  | o :: r, lv, st, A, L => zLm_op sc o lv st A L (fun lv st A L => zLm_go sc hj hC bs nx r lv st A L) (fun b lv st A L => zLm_jmp hj bs b lv st A L) hC
/-- the callees of a depth -/
def zcx (T : List zM) (n d k : Nat) (as : List Value) (A : zA) (L : zL) : Option zR := match d with
  | 0 => none
  | d + 1 => zex T n d k 0 (lv_args 0 as) [] A L
theorem zex_s (T : List zM) (n d m b : Nat) (lv : zLv) (st : List Value) (A : zA) (L : zL) : zex T (n + 1) d m b lv st A L = match T[m]? with
    | some M => match M.2.2.2.2[b]? with
      | some bk => zgo zno (zex T n d m) (zcx T n d) M.2.2.2.2 bk.2.2.2 bk.2.2.1 lv st A L
      | none => none
    | none => none := rfl
theorem zex_up (T : List zM) : ∀ (n d m b : Nat) (lv : zLv) (st : List Value) (A : zA) (L : zL) (r : zR), zex T n d m b lv st A L = some r → zex T (n + 1) d m b lv st A L = some r := by
  intro n
  induction n with
  | zero => intro d m b lv st A L r h; cases h
  | succ n ih =>
    -- the family that stands still from n + 1 on
    have hup : ∀ i, i ≤ n → ∀ (d m b : Nat) (lv : zLv) (st : List Value) (A : zA) (L : zL) (r : zR), zex T i d m b lv st A L = some r → zex T (i + 1) d m b lv st A L = some r → True := fun _ _ _ _ _ _ _ _ _ _ _ _ => trivial
    intro d m b lv st A L r h
    have hf : ∀ (d m b : Nat) (lv : zLv) (st : List Value) (A : zA) (L : zL), zLm (fun i => if i = 0 then zex T n d m b lv st A L else zex T (n + 1) d m b lv st A L) (zex T (n + 1) d m b lv st A L) := by
      intro d m b lv st A L
      refine ⟨fun i r h => ?_, fun r => ⟨fun h => ⟨1, by simpa using h⟩, fun ⟨N, h⟩ => ?_⟩⟩
      · simp only [Nat.succ_ne_zero, if_false]
        dsimp only at h
        split at h
        · exact ih _ _ _ _ _ _ _ _ h
        · exact h
      · dsimp only at h
        split at h
        · exact ih _ _ _ _ _ _ _ _ h
        · exact h
    have hc : ∀ (k : Nat) (as : List Value) (A : zA) (L : zL), zLm (fun i => if i = 0 then zcx T n d k as A L else zcx T (n + 1) d k as A L) (zcx T (n + 1) d k as A L) := by
      intro k as A L
      cases d with
      | zero => simpa [zcx] using zLm_c none
      | succ d => exact hf d k 0 (lv_args 0 as) [] A L
    rw [zex_s] at h ⊢
    cases hM : T[m]? with
    | none => rw [hM] at h; cases h
    | some M =>
      rw [hM] at h
      simp only at h ⊢
      cases hb : M.2.2.2.2[b]? with
      | none => rw [hb] at h; cases h
      | some bk =>
        rw [hb] at h
        simp only at h ⊢
        have hg := zLm_go zno (J := fun i => fun b lv st A L => if i = 0 then zex T n d m b lv st A L else zex T (n + 1) d m b lv st A L) (C := fun i k as A L => if i = 0 then zcx T n d k as A L else zcx T (n + 1) d k as A L) (hf d m) hc M.2.2.2.2 bk.2.2.2 bk.2.2.1 lv st A L
        exact hg.1 0 r h
noncomputable def zrun (T : List zM) (d m b : Nat) (lv : zLv) (st : List Value) (A : zA) (L : zL) : Option zR :=
  @dite _ (∃ r N, zex T N d m b lv st A L = some r) (Classical.propDecidable _) (fun h => some (Classical.choose h)) (fun _ => none)
theorem zrun_lm (T : List zM) (d m b : Nat) (lv : zLv) (st : List Value) (A : zA) (L : zL) : zLm (fun n => zex T n d m b lv st A L) (zrun T d m b lv st A L) := by
  refine ⟨fun n r h => zex_up T n d m b lv st A L r h, fun r => ?_⟩
  have hup : ∀ {n k : Nat} {r : zR}, zex T n d m b lv st A L = some r → n ≤ k → zex T k d m b lv st A L = some r := by
    intro n k r h hk
    induction hk with
    | refl => exact h
    | step _ ih => exact zex_up T _ d m b lv st A L r ih
  unfold zrun
  by_cases h : ∃ r N, zex T N d m b lv st A L = some r
  · rw [dif_pos h]
    obtain ⟨N, hN⟩ := Classical.choose_spec h
    constructor
    · intro e
      cases e
      exact ⟨N, hN⟩
    · intro ⟨K, hK⟩
      have e1 := hup hN (Nat.le_max_left N K)
      have e2 := hup hK (Nat.le_max_right N K)
      rw [e1] at e2
      exact e2
  · rw [dif_neg h]
    exact ⟨fun e => absurd e (by simp), fun ⟨K, hK⟩ => absurd ⟨r, K, hK⟩ h⟩
noncomputable def zcal (T : List zM) (d k : Nat) (as : List Value) (A : zA) (L : zL) : Option zR := match d with
  | 0 => none
  | d + 1 => zrun T d k 0 (lv_args 0 as) [] A L
theorem zcal_lm (T : List zM) (d k : Nat) (as : List Value) (A : zA) (L : zL) : zLm (fun n => zcx T n d k as A L) (zcal T d k as A L) := by
  cases d with
  | zero => exact zLm_c none
  | succ d => exact zrun_lm T d k 0 _ _ A L
/-- a block is walked as it is written -/
theorem zrun_q (T : List zM) (d : Nat) {m b : Nat} {M : zM} {bk : zBk} (hM : T[m]? = some M) (hb : M.2.2.2.2[b]? = some bk) (lv : zLv) (st : List Value) (A : zA) (L : zL) :
    zrun T d m b lv st A L = zgo zno (zrun T d m) (zcal T d) M.2.2.2.2 bk.2.2.2 bk.2.2.1 lv st A L := by
  have h1 := zrun_lm T d m b lv st A L
  have h2 := zLm_go zno (J := fun n => zex T n d m) (j := zrun T d m) (C := fun n => zcx T n d) (c := zcal T d) (fun b lv st A L => zrun_lm T d m b lv st A L) (fun k as A L => zcal_lm T d k as A L) M.2.2.2.2 bk.2.2.2 bk.2.2.1 lv st A L
  have key : ∀ r, zrun T d m b lv st A L = some r ↔ zgo zno (zrun T d m) (zcal T d) M.2.2.2.2 bk.2.2.2 bk.2.2.1 lv st A L = some r := by
    intro r
    rw [h1.2 r, h2.2 r]
    constructor
    · intro ⟨N, h⟩
      have h := zex_up T N d m b lv st A L r h
      rw [zex_s, hM] at h
      simp only [hb] at h
      exact ⟨N, h⟩
    · intro ⟨N, h⟩
      refine ⟨N + 1, ?_⟩
      dsimp only
      rw [zex_s, hM]
      simp only [hb]
      exact h
  cases h : zrun T d m b lv st A L with
  | some r => exact ((key r).mp h).symm
  | none =>
    cases h2 : zgo zno (zrun T d m) (zcal T d) M.2.2.2.2 bk.2.2.2 bk.2.2.1 lv st A L with
    | none => rfl
    | some r => rw [(key r).mpr h2] at h; cases h
end
