-- ===== PART A: goes FIRST, ahead of the names: the tables' words, and 'selects' of the private methods out of them =====
/-- a private method of a class that the tables say can be made, by its rows of tables_1 -/
def lw_okq (q : MethodName × Nat) : Prop := (q.1.cls ≠ "java/lang/invoke/MethodHandle" ∧ q.1.cls ≠ "java/lang/invoke/VarHandle") ∧ Cond.instantiable q.1.cls q.2 ∈ tables_1 ∧ Cond.privateMethod q.1 ∈ tables_1 ∧ Cond.instanceMethod q.1 ∈ tables_1
theorem lw_p0 : lw_okq (⟨"EverySecondWord", "refused", "(I)I"⟩, 11) := ⟨⟨by decide +kernel, by decide +kernel⟩, List.mem_of_getElem? (i := 17) (by decide +kernel), List.mem_of_getElem? (i := 307) (by decide +kernel), List.mem_of_getElem? (i := 308) (by decide +kernel)⟩
theorem lw_p1 : lw_okq (⟨"EverySecondWord$Reader", "isWellFormed", "()Z"⟩, 4) := ⟨⟨by decide +kernel, by decide +kernel⟩, List.mem_of_getElem? (i := 156) (by decide +kernel), List.mem_of_getElem? (i := 327) (by decide +kernel), List.mem_of_getElem? (i := 328) (by decide +kernel)⟩
theorem lw_p2 : lw_okq (⟨"EverySecondWord$Reader", "isStatement", "()Z"⟩, 4) := ⟨⟨by decide +kernel, by decide +kernel⟩, List.mem_of_getElem? (i := 156) (by decide +kernel), List.mem_of_getElem? (i := 331) (by decide +kernel), List.mem_of_getElem? (i := 332) (by decide +kernel)⟩
theorem lw_p3 : lw_okq (⟨"EverySecondWord$Reader", "take", "(II)Z"⟩, 4) := ⟨⟨by decide +kernel, by decide +kernel⟩, List.mem_of_getElem? (i := 156) (by decide +kernel), List.mem_of_getElem? (i := 335) (by decide +kernel), List.mem_of_getElem? (i := 336) (by decide +kernel)⟩
theorem lw_p4 : lw_okq (⟨"EverySecondWord$Reader", "letter", "(I)I"⟩, 4) := ⟨⟨by decide +kernel, by decide +kernel⟩, List.mem_of_getElem? (i := 156) (by decide +kernel), List.mem_of_getElem? (i := 339) (by decide +kernel), List.mem_of_getElem? (i := 340) (by decide +kernel)⟩
theorem lw_p5 : lw_okq (⟨"EverySecondWord$Reader", "isEndOfRule", "()Z"⟩, 4) := ⟨⟨by decide +kernel, by decide +kernel⟩, List.mem_of_getElem? (i := 156) (by decide +kernel), List.mem_of_getElem? (i := 343) (by decide +kernel), List.mem_of_getElem? (i := 344) (by decide +kernel)⟩
theorem lw_p6 : lw_okq (⟨"EverySecondWord$Reader", "isEndOfPerson", "()Z"⟩, 4) := ⟨⟨by decide +kernel, by decide +kernel⟩, List.mem_of_getElem? (i := 156) (by decide +kernel), List.mem_of_getElem? (i := 347) (by decide +kernel), List.mem_of_getElem? (i := 348) (by decide +kernel)⟩
theorem lw_p7 : lw_okq (⟨"EverySecondWord$Reader", "applyAll", "()I"⟩, 4) := ⟨⟨by decide +kernel, by decide +kernel⟩, List.mem_of_getElem? (i := 156) (by decide +kernel), List.mem_of_getElem? (i := 372) (by decide +kernel), List.mem_of_getElem? (i := 373) (by decide +kernel)⟩
theorem lw_p8 : lw_okq (⟨"EverySecondWord$Reader", "applies", "(I)Z"⟩, 4) := ⟨⟨by decide +kernel, by decide +kernel⟩, List.mem_of_getElem? (i := 156) (by decide +kernel), List.mem_of_getElem? (i := 376) (by decide +kernel), List.mem_of_getElem? (i := 377) (by decide +kernel)⟩
theorem lw_p9 : lw_okq (⟨"EverySecondWord$Reader", "markAt", "(I)I"⟩, 4) := ⟨⟨by decide +kernel, by decide +kernel⟩, List.mem_of_getElem? (i := 156) (by decide +kernel), List.mem_of_getElem? (i := 380) (by decide +kernel), List.mem_of_getElem? (i := 381) (by decide +kernel)⟩
theorem lw_p10 : lw_okq (⟨"EverySecondWord$Reader", "wordsFrom", "(I)I"⟩, 4) := ⟨⟨by decide +kernel, by decide +kernel⟩, List.mem_of_getElem? (i := 156) (by decide +kernel), List.mem_of_getElem? (i := 399) (by decide +kernel), List.mem_of_getElem? (i := 400) (by decide +kernel)⟩
theorem lw_p11 : lw_okq (⟨"EverySecondWord$Reader", "signedDigitAt", "(I)I"⟩, 4) := ⟨⟨by decide +kernel, by decide +kernel⟩, List.mem_of_getElem? (i := 156) (by decide +kernel), List.mem_of_getElem? (i := 407) (by decide +kernel), List.mem_of_getElem? (i := 408) (by decide +kernel)⟩
theorem lw_p12 : lw_okq (⟨"EverySecondWord", "isNobody", "(I)Z"⟩, 11) := ⟨⟨by decide +kernel, by decide +kernel⟩, List.mem_of_getElem? (i := 17) (by decide +kernel), List.mem_of_getElem? (i := 440) (by decide +kernel), List.mem_of_getElem? (i := 441) (by decide +kernel)⟩
theorem lw_p13 : lw_okq (⟨"EverySecondWord", "worthRefused", "(I)I"⟩, 11) := ⟨⟨by decide +kernel, by decide +kernel⟩, List.mem_of_getElem? (i := 17) (by decide +kernel), List.mem_of_getElem? (i := 463) (by decide +kernel), List.mem_of_getElem? (i := 464) (by decide +kernel)⟩
theorem lw_p14 : lw_okq (⟨"EverySecondWord", "sayNow", "(I)I"⟩, 11) := ⟨⟨by decide +kernel, by decide +kernel⟩, List.mem_of_getElem? (i := 17) (by decide +kernel), List.mem_of_getElem? (i := 556) (by decide +kernel), List.mem_of_getElem? (i := 557) (by decide +kernel)⟩
theorem lw_p15 : lw_okq (⟨"EverySecondWord", "howTheTalkStands", "()I"⟩, 11) := ⟨⟨by decide +kernel, by decide +kernel⟩, List.mem_of_getElem? (i := 17) (by decide +kernel), List.mem_of_getElem? (i := 608) (by decide +kernel), List.mem_of_getElem? (i := 609) (by decide +kernel)⟩
def lw_privs_1 : List (MethodName × Nat) := [(⟨"EverySecondWord", "refused", "(I)I"⟩, 11), (⟨"EverySecondWord$Reader", "isWellFormed", "()Z"⟩, 4), (⟨"EverySecondWord$Reader", "isStatement", "()Z"⟩, 4), (⟨"EverySecondWord$Reader", "take", "(II)Z"⟩, 4), (⟨"EverySecondWord$Reader", "letter", "(I)I"⟩, 4), (⟨"EverySecondWord$Reader", "isEndOfRule", "()Z"⟩, 4), (⟨"EverySecondWord$Reader", "isEndOfPerson", "()Z"⟩, 4), (⟨"EverySecondWord$Reader", "applyAll", "()I"⟩, 4), (⟨"EverySecondWord$Reader", "applies", "(I)Z"⟩, 4), (⟨"EverySecondWord$Reader", "markAt", "(I)I"⟩, 4), (⟨"EverySecondWord$Reader", "wordsFrom", "(I)I"⟩, 4), (⟨"EverySecondWord$Reader", "signedDigitAt", "(I)I"⟩, 4), (⟨"EverySecondWord", "isNobody", "(I)Z"⟩, 11), (⟨"EverySecondWord", "worthRefused", "(I)I"⟩, 11), (⟨"EverySecondWord", "sayNow", "(I)I"⟩, 11), (⟨"EverySecondWord", "howTheTalkStands", "()I"⟩, 11)]
theorem lw_r1 : ∀ q ∈ lw_privs_1, lw_okq q := List.forall_mem_cons.mpr ⟨lw_p0, List.forall_mem_cons.mpr ⟨lw_p1, List.forall_mem_cons.mpr ⟨lw_p2, List.forall_mem_cons.mpr ⟨lw_p3, List.forall_mem_cons.mpr ⟨lw_p4, List.forall_mem_cons.mpr ⟨lw_p5, List.forall_mem_cons.mpr ⟨lw_p6, List.forall_mem_cons.mpr ⟨lw_p7, List.forall_mem_cons.mpr ⟨lw_p8, List.forall_mem_cons.mpr ⟨lw_p9, List.forall_mem_cons.mpr ⟨lw_p10, List.forall_mem_cons.mpr ⟨lw_p11, List.forall_mem_cons.mpr ⟨lw_p12, List.forall_mem_cons.mpr ⟨lw_p13, List.forall_mem_cons.mpr ⟨lw_p14, List.forall_mem_cons.mpr ⟨lw_p15, fun _ h => absurd h List.not_mem_nil⟩⟩⟩⟩⟩⟩⟩⟩⟩⟩⟩⟩⟩⟩⟩⟩
theorem lw_p16 : lw_okq (⟨"EverySecondWord$Mind", "weighAllEnds", "()V"⟩, 5) := ⟨⟨by decide +kernel, by decide +kernel⟩, List.mem_of_getElem? (i := 178) (by decide +kernel), List.mem_of_getElem? (i := 630) (by decide +kernel), List.mem_of_getElem? (i := 631) (by decide +kernel)⟩
theorem lw_p17 : lw_okq (⟨"EverySecondWord$Mind", "weighMeaning", "(II)I"⟩, 5) := ⟨⟨by decide +kernel, by decide +kernel⟩, List.mem_of_getElem? (i := 178) (by decide +kernel), List.mem_of_getElem? (i := 634) (by decide +kernel), List.mem_of_getElem? (i := 635) (by decide +kernel)⟩
theorem lw_p18 : lw_okq (⟨"EverySecondWord$Mind", "worthAt", "(II)I"⟩, 5) := ⟨⟨by decide +kernel, by decide +kernel⟩, List.mem_of_getElem? (i := 178) (by decide +kernel), List.mem_of_getElem? (i := 642) (by decide +kernel), List.mem_of_getElem? (i := 643) (by decide +kernel)⟩
theorem lw_p19 : lw_okq (⟨"EverySecondWord$Mind", "deedAt", "(I)I"⟩, 5) := ⟨⟨by decide +kernel, by decide +kernel⟩, List.mem_of_getElem? (i := 178) (by decide +kernel), List.mem_of_getElem? (i := 652) (by decide +kernel), List.mem_of_getElem? (i := 653) (by decide +kernel)⟩
theorem lw_p20 : lw_okq (⟨"EverySecondWord$Mind", "bestDeed", "(IIII)I"⟩, 5) := ⟨⟨by decide +kernel, by decide +kernel⟩, List.mem_of_getElem? (i := 178) (by decide +kernel), List.mem_of_getElem? (i := 662) (by decide +kernel), List.mem_of_getElem? (i := 663) (by decide +kernel)⟩
theorem lw_p21 : lw_okq (⟨"EverySecondWord$Mind", "weigh", "(IIII)I"⟩, 5) := ⟨⟨by decide +kernel, by decide +kernel⟩, List.mem_of_getElem? (i := 178) (by decide +kernel), List.mem_of_getElem? (i := 666) (by decide +kernel), List.mem_of_getElem? (i := 667) (by decide +kernel)⟩
theorem lw_p22 : lw_okq (⟨"EverySecondWord$Mind", "dreamAfter", "(III)I"⟩, 5) := ⟨⟨by decide +kernel, by decide +kernel⟩, List.mem_of_getElem? (i := 178) (by decide +kernel), List.mem_of_getElem? (i := 672) (by decide +kernel), List.mem_of_getElem? (i := 673) (by decide +kernel)⟩
theorem lw_p23 : lw_okq (⟨"EverySecondWord$Mind", "dreamFrom", "(II)I"⟩, 5) := ⟨⟨by decide +kernel, by decide +kernel⟩, List.mem_of_getElem? (i := 178) (by decide +kernel), List.mem_of_getElem? (i := 684) (by decide +kernel), List.mem_of_getElem? (i := 685) (by decide +kernel)⟩
theorem lw_p24 : lw_okq (⟨"EverySecondWord$Mind", "endAfter", "(II)I"⟩, 5) := ⟨⟨by decide +kernel, by decide +kernel⟩, List.mem_of_getElem? (i := 178) (by decide +kernel), List.mem_of_getElem? (i := 702) (by decide +kernel), List.mem_of_getElem? (i := 703) (by decide +kernel)⟩
theorem lw_p25 : lw_okq (⟨"EverySecondWord$Mind", "endFrom", "(I)I"⟩, 5) := ⟨⟨by decide +kernel, by decide +kernel⟩, List.mem_of_getElem? (i := 178) (by decide +kernel), List.mem_of_getElem? (i := 706) (by decide +kernel), List.mem_of_getElem? (i := 707) (by decide +kernel)⟩
theorem lw_p26 : lw_okq (⟨"EverySecondWord$Power", "ask", "(IJZ)V"⟩, 8) := ⟨⟨by decide +kernel, by decide +kernel⟩, List.mem_of_getElem? (i := 216) (by decide +kernel), List.mem_of_getElem? (i := 752) (by decide +kernel), List.mem_of_getElem? (i := 753) (by decide +kernel)⟩
theorem lw_p27 : lw_okq (⟨"EverySecondWord$Power", "ensuresFrom", "(I)Z"⟩, 8) := ⟨⟨by decide +kernel, by decide +kernel⟩, List.mem_of_getElem? (i := 216) (by decide +kernel), List.mem_of_getElem? (i := 758) (by decide +kernel), List.mem_of_getElem? (i := 759) (by decide +kernel)⟩
theorem lw_p28 : lw_okq (⟨"EverySecondWord$Power", "fillSets", "(I)V"⟩, 8) := ⟨⟨by decide +kernel, by decide +kernel⟩, List.mem_of_getElem? (i := 216) (by decide +kernel), List.mem_of_getElem? (i := 766) (by decide +kernel), List.mem_of_getElem? (i := 767) (by decide +kernel)⟩
theorem lw_p29 : lw_okq (⟨"EverySecondWord$Power", "withEnd", "(JIZZ)J"⟩, 8) := ⟨⟨by decide +kernel, by decide +kernel⟩, List.mem_of_getElem? (i := 216) (by decide +kernel), List.mem_of_getElem? (i := 787) (by decide +kernel), List.mem_of_getElem? (i := 788) (by decide +kernel)⟩
theorem lw_p30 : lw_okq (⟨"EverySecondWord$Power", "fillLengths", "(I)V"⟩, 8) := ⟨⟨by decide +kernel, by decide +kernel⟩, List.mem_of_getElem? (i := 216) (by decide +kernel), List.mem_of_getElem? (i := 810) (by decide +kernel), List.mem_of_getElem? (i := 811) (by decide +kernel)⟩
theorem lw_p31 : lw_okq (⟨"EverySecondWord$Power", "meaningsWorth", "(II)J"⟩, 8) := ⟨⟨by decide +kernel, by decide +kernel⟩, List.mem_of_getElem? (i := 216) (by decide +kernel), List.mem_of_getElem? (i := 829) (by decide +kernel), List.mem_of_getElem? (i := 830) (by decide +kernel)⟩
def lw_privs_2 : List (MethodName × Nat) := [(⟨"EverySecondWord$Mind", "weighAllEnds", "()V"⟩, 5), (⟨"EverySecondWord$Mind", "weighMeaning", "(II)I"⟩, 5), (⟨"EverySecondWord$Mind", "worthAt", "(II)I"⟩, 5), (⟨"EverySecondWord$Mind", "deedAt", "(I)I"⟩, 5), (⟨"EverySecondWord$Mind", "bestDeed", "(IIII)I"⟩, 5), (⟨"EverySecondWord$Mind", "weigh", "(IIII)I"⟩, 5), (⟨"EverySecondWord$Mind", "dreamAfter", "(III)I"⟩, 5), (⟨"EverySecondWord$Mind", "dreamFrom", "(II)I"⟩, 5), (⟨"EverySecondWord$Mind", "endAfter", "(II)I"⟩, 5), (⟨"EverySecondWord$Mind", "endFrom", "(I)I"⟩, 5), (⟨"EverySecondWord$Power", "ask", "(IJZ)V"⟩, 8), (⟨"EverySecondWord$Power", "ensuresFrom", "(I)Z"⟩, 8), (⟨"EverySecondWord$Power", "fillSets", "(I)V"⟩, 8), (⟨"EverySecondWord$Power", "withEnd", "(JIZZ)J"⟩, 8), (⟨"EverySecondWord$Power", "fillLengths", "(I)V"⟩, 8), (⟨"EverySecondWord$Power", "meaningsWorth", "(II)J"⟩, 8)]
theorem lw_r2 : ∀ q ∈ lw_privs_2, lw_okq q := List.forall_mem_cons.mpr ⟨lw_p16, List.forall_mem_cons.mpr ⟨lw_p17, List.forall_mem_cons.mpr ⟨lw_p18, List.forall_mem_cons.mpr ⟨lw_p19, List.forall_mem_cons.mpr ⟨lw_p20, List.forall_mem_cons.mpr ⟨lw_p21, List.forall_mem_cons.mpr ⟨lw_p22, List.forall_mem_cons.mpr ⟨lw_p23, List.forall_mem_cons.mpr ⟨lw_p24, List.forall_mem_cons.mpr ⟨lw_p25, List.forall_mem_cons.mpr ⟨lw_p26, List.forall_mem_cons.mpr ⟨lw_p27, List.forall_mem_cons.mpr ⟨lw_p28, List.forall_mem_cons.mpr ⟨lw_p29, List.forall_mem_cons.mpr ⟨lw_p30, List.forall_mem_cons.mpr ⟨lw_p31, fun _ h => absurd h List.not_mem_nil⟩⟩⟩⟩⟩⟩⟩⟩⟩⟩⟩⟩⟩⟩⟩⟩
theorem lw_p32 : lw_okq (⟨"EverySecondWord$Reach", "goOn", "(I)V"⟩, 4) := ⟨⟨by decide +kernel, by decide +kernel⟩, List.mem_of_getElem? (i := 248) (by decide +kernel), List.mem_of_getElem? (i := 850) (by decide +kernel), List.mem_of_getElem? (i := 851) (by decide +kernel)⟩
theorem lw_p33 : lw_okq (⟨"EverySecondWord$Beginnings", "digitsOf", "(I)I"⟩, 3) := ⟨⟨by decide +kernel, by decide +kernel⟩, List.mem_of_getElem? (i := 200) (by decide +kernel), List.mem_of_getElem? (i := 900) (by decide +kernel), List.mem_of_getElem? (i := 901) (by decide +kernel)⟩
theorem lw_p34 : lw_okq (⟨"EverySecondWord$Power", "ensuresWithout", "(I)Z"⟩, 8) := ⟨⟨by decide +kernel, by decide +kernel⟩, List.mem_of_getElem? (i := 216) (by decide +kernel), List.mem_of_getElem? (i := 954) (by decide +kernel), List.mem_of_getElem? (i := 955) (by decide +kernel)⟩
theorem lw_p35 : lw_okq (⟨"EverySecondWord$Mind", "fits", "(I)Z"⟩, 5) := ⟨⟨by decide +kernel, by decide +kernel⟩, List.mem_of_getElem? (i := 178) (by decide +kernel), List.mem_of_getElem? (i := 967) (by decide +kernel), List.mem_of_getElem? (i := 968) (by decide +kernel)⟩
theorem lw_p36 : lw_okq (⟨"EverySecondWord$Beginnings", "endBySeed", "()I"⟩, 3) := ⟨⟨by decide +kernel, by decide +kernel⟩, List.mem_of_getElem? (i := 200) (by decide +kernel), List.mem_of_getElem? (i := 995) (by decide +kernel), List.mem_of_getElem? (i := 996) (by decide +kernel)⟩
theorem lw_p37 : lw_okq (⟨"EverySecondWord$Beginnings", "draw", "(I)I"⟩, 3) := ⟨⟨by decide +kernel, by decide +kernel⟩, List.mem_of_getElem? (i := 200) (by decide +kernel), List.mem_of_getElem? (i := 1006) (by decide +kernel), List.mem_of_getElem? (i := 1007) (by decide +kernel)⟩
theorem lw_p38 : lw_okq (⟨"EverySecondWordModel", "no", "(I)I"⟩, 47) := ⟨⟨by decide +kernel, by decide +kernel⟩, List.mem_of_getElem? (i := 1031) (by decide +kernel), List.mem_of_getElem? (i := 1187) (by decide +kernel), List.mem_of_getElem? (i := 1188) (by decide +kernel)⟩
theorem lw_p39 : lw_okq (⟨"EverySecondWordModel", "statement", "()Z"⟩, 47) := ⟨⟨by decide +kernel, by decide +kernel⟩, List.mem_of_getElem? (i := 1031) (by decide +kernel), List.mem_of_getElem? (i := 1195) (by decide +kernel), List.mem_of_getElem? (i := 1196) (by decide +kernel)⟩
theorem lw_p40 : lw_okq (⟨"EverySecondWordModel", "next", "()I"⟩, 47) := ⟨⟨by decide +kernel, by decide +kernel⟩, List.mem_of_getElem? (i := 1031) (by decide +kernel), List.mem_of_getElem? (i := 1199) (by decide +kernel), List.mem_of_getElem? (i := 1200) (by decide +kernel)⟩
theorem lw_p41 : lw_okq (⟨"EverySecondWordModel", "readsRule", "(I)Z"⟩, 47) := ⟨⟨by decide +kernel, by decide +kernel⟩, List.mem_of_getElem? (i := 1031) (by decide +kernel), List.mem_of_getElem? (i := 1203) (by decide +kernel), List.mem_of_getElem? (i := 1204) (by decide +kernel)⟩
theorem lw_p42 : lw_okq (⟨"EverySecondWordModel", "takes", "(II)I"⟩, 47) := ⟨⟨by decide +kernel, by decide +kernel⟩, List.mem_of_getElem? (i := 1031) (by decide +kernel), List.mem_of_getElem? (i := 1207) (by decide +kernel), List.mem_of_getElem? (i := 1208) (by decide +kernel)⟩
theorem lw_p43 : lw_okq (⟨"EverySecondWordModel", "readsPerson", "(I)Z"⟩, 47) := ⟨⟨by decide +kernel, by decide +kernel⟩, List.mem_of_getElem? (i := 1031) (by decide +kernel), List.mem_of_getElem? (i := 1214) (by decide +kernel), List.mem_of_getElem? (i := 1215) (by decide +kernel)⟩
theorem lw_p44 : lw_okq (⟨"EverySecondWordModel", "readsWorth", "(I)Z"⟩, 47) := ⟨⟨by decide +kernel, by decide +kernel⟩, List.mem_of_getElem? (i := 1031) (by decide +kernel), List.mem_of_getElem? (i := 1218) (by decide +kernel), List.mem_of_getElem? (i := 1219) (by decide +kernel)⟩
theorem lw_p45 : lw_okq (⟨"EverySecondWordModel", "passesAll", "(IZ)V"⟩, 47) := ⟨⟨by decide +kernel, by decide +kernel⟩, List.mem_of_getElem? (i := 1031) (by decide +kernel), List.mem_of_getElem? (i := 1222) (by decide +kernel), List.mem_of_getElem? (i := 1223) (by decide +kernel)⟩
theorem lw_p46 : lw_okq (⟨"EverySecondWordModel", "passes", "([I)V"⟩, 47) := ⟨⟨by decide +kernel, by decide +kernel⟩, List.mem_of_getElem? (i := 1031) (by decide +kernel), List.mem_of_getElem? (i := 1226) (by decide +kernel), List.mem_of_getElem? (i := 1227) (by decide +kernel)⟩
theorem lw_p47 : lw_okq (⟨"EverySecondWordModel", "passOne", "(I)I"⟩, 47) := ⟨⟨by decide +kernel, by decide +kernel⟩, List.mem_of_getElem? (i := 1031) (by decide +kernel), List.mem_of_getElem? (i := 1230) (by decide +kernel), List.mem_of_getElem? (i := 1231) (by decide +kernel)⟩
def lw_privs_3 : List (MethodName × Nat) := [(⟨"EverySecondWord$Reach", "goOn", "(I)V"⟩, 4), (⟨"EverySecondWord$Beginnings", "digitsOf", "(I)I"⟩, 3), (⟨"EverySecondWord$Power", "ensuresWithout", "(I)Z"⟩, 8), (⟨"EverySecondWord$Mind", "fits", "(I)Z"⟩, 5), (⟨"EverySecondWord$Beginnings", "endBySeed", "()I"⟩, 3), (⟨"EverySecondWord$Beginnings", "draw", "(I)I"⟩, 3), (⟨"EverySecondWordModel", "no", "(I)I"⟩, 47), (⟨"EverySecondWordModel", "statement", "()Z"⟩, 47), (⟨"EverySecondWordModel", "next", "()I"⟩, 47), (⟨"EverySecondWordModel", "readsRule", "(I)Z"⟩, 47), (⟨"EverySecondWordModel", "takes", "(II)I"⟩, 47), (⟨"EverySecondWordModel", "readsPerson", "(I)Z"⟩, 47), (⟨"EverySecondWordModel", "readsWorth", "(I)Z"⟩, 47), (⟨"EverySecondWordModel", "passesAll", "(IZ)V"⟩, 47), (⟨"EverySecondWordModel", "passes", "([I)V"⟩, 47), (⟨"EverySecondWordModel", "passOne", "(I)I"⟩, 47)]
theorem lw_r3 : ∀ q ∈ lw_privs_3, lw_okq q := List.forall_mem_cons.mpr ⟨lw_p32, List.forall_mem_cons.mpr ⟨lw_p33, List.forall_mem_cons.mpr ⟨lw_p34, List.forall_mem_cons.mpr ⟨lw_p35, List.forall_mem_cons.mpr ⟨lw_p36, List.forall_mem_cons.mpr ⟨lw_p37, List.forall_mem_cons.mpr ⟨lw_p38, List.forall_mem_cons.mpr ⟨lw_p39, List.forall_mem_cons.mpr ⟨lw_p40, List.forall_mem_cons.mpr ⟨lw_p41, List.forall_mem_cons.mpr ⟨lw_p42, List.forall_mem_cons.mpr ⟨lw_p43, List.forall_mem_cons.mpr ⟨lw_p44, List.forall_mem_cons.mpr ⟨lw_p45, List.forall_mem_cons.mpr ⟨lw_p46, List.forall_mem_cons.mpr ⟨lw_p47, fun _ h => absurd h List.not_mem_nil⟩⟩⟩⟩⟩⟩⟩⟩⟩⟩⟩⟩⟩⟩⟩⟩
theorem lw_p48 : lw_okq (⟨"EverySecondWordModel", "comes", "(I)Z"⟩, 47) := ⟨⟨by decide +kernel, by decide +kernel⟩, List.mem_of_getElem? (i := 1031) (by decide +kernel), List.mem_of_getElem? (i := 1234) (by decide +kernel), List.mem_of_getElem? (i := 1235) (by decide +kernel)⟩
theorem lw_p49 : lw_okq (⟨"EverySecondWordModel", "ruleAt", "(II)I"⟩, 47) := ⟨⟨by decide +kernel, by decide +kernel⟩, List.mem_of_getElem? (i := 1031) (by decide +kernel), List.mem_of_getElem? (i := 1238) (by decide +kernel), List.mem_of_getElem? (i := 1239) (by decide +kernel)⟩
theorem lw_p50 : lw_okq (⟨"EverySecondWordModel", "isEnd", "(I)Z"⟩, 47) := ⟨⟨by decide +kernel, by decide +kernel⟩, List.mem_of_getElem? (i := 1031) (by decide +kernel), List.mem_of_getElem? (i := 1242) (by decide +kernel), List.mem_of_getElem? (i := 1243) (by decide +kernel)⟩
theorem lw_p51 : lw_okq (⟨"EverySecondWordModel", "isOne", "(I)Z"⟩, 47) := ⟨⟨by decide +kernel, by decide +kernel⟩, List.mem_of_getElem? (i := 1031) (by decide +kernel), List.mem_of_getElem? (i := 1246) (by decide +kernel), List.mem_of_getElem? (i := 1247) (by decide +kernel)⟩
theorem lw_p52 : lw_okq (⟨"EverySecondWordModel", "placeOf", "(I)I"⟩, 47) := ⟨⟨by decide +kernel, by decide +kernel⟩, List.mem_of_getElem? (i := 1031) (by decide +kernel), List.mem_of_getElem? (i := 1270) (by decide +kernel), List.mem_of_getElem? (i := 1271) (by decide +kernel)⟩
theorem lw_p53 : lw_okq (⟨"EverySecondWordModel", "lower", "(I)I"⟩, 47) := ⟨⟨by decide +kernel, by decide +kernel⟩, List.mem_of_getElem? (i := 1031) (by decide +kernel), List.mem_of_getElem? (i := 1278) (by decide +kernel), List.mem_of_getElem? (i := 1279) (by decide +kernel)⟩
theorem lw_p54 : lw_okq (⟨"EverySecondWordModel", "orderDigits", "()I"⟩, 47) := ⟨⟨by decide +kernel, by decide +kernel⟩, List.mem_of_getElem? (i := 1031) (by decide +kernel), List.mem_of_getElem? (i := 1303) (by decide +kernel), List.mem_of_getElem? (i := 1304) (by decide +kernel)⟩
theorem lw_p55 : lw_okq (⟨"EverySecondWordModel", "findTables", "()V"⟩, 47) := ⟨⟨by decide +kernel, by decide +kernel⟩, List.mem_of_getElem? (i := 1031) (by decide +kernel), List.mem_of_getElem? (i := 1311) (by decide +kernel), List.mem_of_getElem? (i := 1312) (by decide +kernel)⟩
theorem lw_p56 : lw_okq (⟨"EverySecondWordModel", "ruleNow", "(II)I"⟩, 47) := ⟨⟨by decide +kernel, by decide +kernel⟩, List.mem_of_getElem? (i := 1031) (by decide +kernel), List.mem_of_getElem? (i := 1315) (by decide +kernel), List.mem_of_getElem? (i := 1316) (by decide +kernel)⟩
theorem lw_p57 : lw_okq (⟨"EverySecondWordModel", "mayAt", "(II)I"⟩, 47) := ⟨⟨by decide +kernel, by decide +kernel⟩, List.mem_of_getElem? (i := 1031) (by decide +kernel), List.mem_of_getElem? (i := 1319) (by decide +kernel), List.mem_of_getElem? (i := 1320) (by decide +kernel)⟩
theorem lw_p58 : lw_okq (⟨"EverySecondWordModel", "turnAt", "(I)I"⟩, 47) := ⟨⟨by decide +kernel, by decide +kernel⟩, List.mem_of_getElem? (i := 1031) (by decide +kernel), List.mem_of_getElem? (i := 1323) (by decide +kernel), List.mem_of_getElem? (i := 1324) (by decide +kernel)⟩
theorem lw_p59 : lw_okq (⟨"EverySecondWordModel", "says", "(I)V"⟩, 47) := ⟨⟨by decide +kernel, by decide +kernel⟩, List.mem_of_getElem? (i := 1031) (by decide +kernel), List.mem_of_getElem? (i := 1327) (by decide +kernel), List.mem_of_getElem? (i := 1328) (by decide +kernel)⟩
theorem lw_p60 : lw_okq (⟨"EverySecondWordModel", "mayStop", "()Z"⟩, 47) := ⟨⟨by decide +kernel, by decide +kernel⟩, List.mem_of_getElem? (i := 1031) (by decide +kernel), List.mem_of_getElem? (i := 1335) (by decide +kernel), List.mem_of_getElem? (i := 1336) (by decide +kernel)⟩
theorem lw_p61 : lw_okq (⟨"EverySecondWordModel", "replays", "(I)V"⟩, 47) := ⟨⟨by decide +kernel, by decide +kernel⟩, List.mem_of_getElem? (i := 1031) (by decide +kernel), List.mem_of_getElem? (i := 1343) (by decide +kernel), List.mem_of_getElem? (i := 1344) (by decide +kernel)⟩
theorem lw_p62 : lw_okq (⟨"EverySecondWordModel", "howIs", "()I"⟩, 47) := ⟨⟨by decide +kernel, by decide +kernel⟩, List.mem_of_getElem? (i := 1031) (by decide +kernel), List.mem_of_getElem? (i := 1355) (by decide +kernel), List.mem_of_getElem? (i := 1356) (by decide +kernel)⟩
theorem lw_p63 : lw_okq (⟨"EverySecondWordModel", "fillAll", "()V"⟩, 47) := ⟨⟨by decide +kernel, by decide +kernel⟩, List.mem_of_getElem? (i := 1031) (by decide +kernel), List.mem_of_getElem? (i := 1363) (by decide +kernel), List.mem_of_getElem? (i := 1364) (by decide +kernel)⟩
def lw_privs_4 : List (MethodName × Nat) := [(⟨"EverySecondWordModel", "comes", "(I)Z"⟩, 47), (⟨"EverySecondWordModel", "ruleAt", "(II)I"⟩, 47), (⟨"EverySecondWordModel", "isEnd", "(I)Z"⟩, 47), (⟨"EverySecondWordModel", "isOne", "(I)Z"⟩, 47), (⟨"EverySecondWordModel", "placeOf", "(I)I"⟩, 47), (⟨"EverySecondWordModel", "lower", "(I)I"⟩, 47), (⟨"EverySecondWordModel", "orderDigits", "()I"⟩, 47), (⟨"EverySecondWordModel", "findTables", "()V"⟩, 47), (⟨"EverySecondWordModel", "ruleNow", "(II)I"⟩, 47), (⟨"EverySecondWordModel", "mayAt", "(II)I"⟩, 47), (⟨"EverySecondWordModel", "turnAt", "(I)I"⟩, 47), (⟨"EverySecondWordModel", "says", "(I)V"⟩, 47), (⟨"EverySecondWordModel", "mayStop", "()Z"⟩, 47), (⟨"EverySecondWordModel", "replays", "(I)V"⟩, 47), (⟨"EverySecondWordModel", "howIs", "()I"⟩, 47), (⟨"EverySecondWordModel", "fillAll", "()V"⟩, 47)]
theorem lw_r4 : ∀ q ∈ lw_privs_4, lw_okq q := List.forall_mem_cons.mpr ⟨lw_p48, List.forall_mem_cons.mpr ⟨lw_p49, List.forall_mem_cons.mpr ⟨lw_p50, List.forall_mem_cons.mpr ⟨lw_p51, List.forall_mem_cons.mpr ⟨lw_p52, List.forall_mem_cons.mpr ⟨lw_p53, List.forall_mem_cons.mpr ⟨lw_p54, List.forall_mem_cons.mpr ⟨lw_p55, List.forall_mem_cons.mpr ⟨lw_p56, List.forall_mem_cons.mpr ⟨lw_p57, List.forall_mem_cons.mpr ⟨lw_p58, List.forall_mem_cons.mpr ⟨lw_p59, List.forall_mem_cons.mpr ⟨lw_p60, List.forall_mem_cons.mpr ⟨lw_p61, List.forall_mem_cons.mpr ⟨lw_p62, List.forall_mem_cons.mpr ⟨lw_p63, fun _ h => absurd h List.not_mem_nil⟩⟩⟩⟩⟩⟩⟩⟩⟩⟩⟩⟩⟩⟩⟩⟩
theorem lw_p64 : lw_okq (⟨"EverySecondWordModel", "fillMind", "(I)V"⟩, 47) := ⟨⟨by decide +kernel, by decide +kernel⟩, List.mem_of_getElem? (i := 1031) (by decide +kernel), List.mem_of_getElem? (i := 1367) (by decide +kernel), List.mem_of_getElem? (i := 1368) (by decide +kernel)⟩
theorem lw_p65 : lw_okq (⟨"EverySecondWordModel", "endAt", "(II)I"⟩, 47) := ⟨⟨by decide +kernel, by decide +kernel⟩, List.mem_of_getElem? (i := 1031) (by decide +kernel), List.mem_of_getElem? (i := 1374) (by decide +kernel), List.mem_of_getElem? (i := 1375) (by decide +kernel)⟩
theorem lw_p66 : lw_okq (⟨"EverySecondWordModel", "blindChoice", "(IIII)I"⟩, 47) := ⟨⟨by decide +kernel, by decide +kernel⟩, List.mem_of_getElem? (i := 1031) (by decide +kernel), List.mem_of_getElem? (i := 1378) (by decide +kernel), List.mem_of_getElem? (i := 1379) (by decide +kernel)⟩
theorem lw_p67 : lw_okq (⟨"EverySecondWordModel", "afterWord", "(IIII)I"⟩, 47) := ⟨⟨by decide +kernel, by decide +kernel⟩, List.mem_of_getElem? (i := 1031) (by decide +kernel), List.mem_of_getElem? (i := 1382) (by decide +kernel), List.mem_of_getElem? (i := 1383) (by decide +kernel)⟩
theorem lw_p68 : lw_okq (⟨"EverySecondWordModel", "endWorth", "(II)I"⟩, 47) := ⟨⟨by decide +kernel, by decide +kernel⟩, List.mem_of_getElem? (i := 1031) (by decide +kernel), List.mem_of_getElem? (i := 1386) (by decide +kernel), List.mem_of_getElem? (i := 1387) (by decide +kernel)⟩
theorem lw_p69 : lw_okq (⟨"EverySecondWordModel", "choiceAt", "(III)I"⟩, 47) := ⟨⟨by decide +kernel, by decide +kernel⟩, List.mem_of_getElem? (i := 1031) (by decide +kernel), List.mem_of_getElem? (i := 1393) (by decide +kernel), List.mem_of_getElem? (i := 1394) (by decide +kernel)⟩
theorem lw_p70 : lw_okq (⟨"EverySecondWordModel", "greedyChoice", "(IIII)I"⟩, 47) := ⟨⟨by decide +kernel, by decide +kernel⟩, List.mem_of_getElem? (i := 1031) (by decide +kernel), List.mem_of_getElem? (i := 1397) (by decide +kernel), List.mem_of_getElem? (i := 1398) (by decide +kernel)⟩
theorem lw_p71 : lw_okq (⟨"EverySecondWordModel", "aheadChoice", "(IIIII)I"⟩, 47) := ⟨⟨by decide +kernel, by decide +kernel⟩, List.mem_of_getElem? (i := 1031) (by decide +kernel), List.mem_of_getElem? (i := 1401) (by decide +kernel), List.mem_of_getElem? (i := 1402) (by decide +kernel)⟩
theorem lw_p72 : lw_okq (⟨"EverySecondWordModel", "goodTo", "(III)I"⟩, 47) := ⟨⟨by decide +kernel, by decide +kernel⟩, List.mem_of_getElem? (i := 1031) (by decide +kernel), List.mem_of_getElem? (i := 1405) (by decide +kernel), List.mem_of_getElem? (i := 1406) (by decide +kernel)⟩
theorem lw_p73 : lw_okq (⟨"EverySecondWordModel", "endNow", "()I"⟩, 47) := ⟨⟨by decide +kernel, by decide +kernel⟩, List.mem_of_getElem? (i := 1031) (by decide +kernel), List.mem_of_getElem? (i := 1417) (by decide +kernel), List.mem_of_getElem? (i := 1418) (by decide +kernel)⟩
theorem lw_p74 : lw_okq (⟨"EverySecondWordModel", "sureNow", "(III)I"⟩, 47) := ⟨⟨by decide +kernel, by decide +kernel⟩, List.mem_of_getElem? (i := 1031) (by decide +kernel), List.mem_of_getElem? (i := 1429) (by decide +kernel), List.mem_of_getElem? (i := 1430) (by decide +kernel)⟩
theorem lw_p75 : lw_okq (⟨"EverySecondWordModel", "fillGame", "(III)V"⟩, 47) := ⟨⟨by decide +kernel, by decide +kernel⟩, List.mem_of_getElem? (i := 1031) (by decide +kernel), List.mem_of_getElem? (i := 1433) (by decide +kernel), List.mem_of_getElem? (i := 1434) (by decide +kernel)⟩
theorem lw_p76 : lw_okq (⟨"EverySecondWordModel", "gameAt", "(IIIIII)I"⟩, 47) := ⟨⟨by decide +kernel, by decide +kernel⟩, List.mem_of_getElem? (i := 1031) (by decide +kernel), List.mem_of_getElem? (i := 1437) (by decide +kernel), List.mem_of_getElem? (i := 1438) (by decide +kernel)⟩
theorem lw_p77 : lw_okq (⟨"EverySecondWordModel", "counts", "(IIIII)I"⟩, 47) := ⟨⟨by decide +kernel, by decide +kernel⟩, List.mem_of_getElem? (i := 1031) (by decide +kernel), List.mem_of_getElem? (i := 1441) (by decide +kernel), List.mem_of_getElem? (i := 1442) (by decide +kernel)⟩
theorem lw_p78 : lw_okq (⟨"EverySecondWordModel", "fillMeant", "()V"⟩, 47) := ⟨⟨by decide +kernel, by decide +kernel⟩, List.mem_of_getElem? (i := 1031) (by decide +kernel), List.mem_of_getElem? (i := 1465) (by decide +kernel), List.mem_of_getElem? (i := 1466) (by decide +kernel)⟩
theorem lw_p79 : lw_okq (⟨"EverySecondWordModel", "fromStart", "(I)I"⟩, 47) := ⟨⟨by decide +kernel, by decide +kernel⟩, List.mem_of_getElem? (i := 1031) (by decide +kernel), List.mem_of_getElem? (i := 1477) (by decide +kernel), List.mem_of_getElem? (i := 1478) (by decide +kernel)⟩
def lw_privs_5 : List (MethodName × Nat) := [(⟨"EverySecondWordModel", "fillMind", "(I)V"⟩, 47), (⟨"EverySecondWordModel", "endAt", "(II)I"⟩, 47), (⟨"EverySecondWordModel", "blindChoice", "(IIII)I"⟩, 47), (⟨"EverySecondWordModel", "afterWord", "(IIII)I"⟩, 47), (⟨"EverySecondWordModel", "endWorth", "(II)I"⟩, 47), (⟨"EverySecondWordModel", "choiceAt", "(III)I"⟩, 47), (⟨"EverySecondWordModel", "greedyChoice", "(IIII)I"⟩, 47), (⟨"EverySecondWordModel", "aheadChoice", "(IIIII)I"⟩, 47), (⟨"EverySecondWordModel", "goodTo", "(III)I"⟩, 47), (⟨"EverySecondWordModel", "endNow", "()I"⟩, 47), (⟨"EverySecondWordModel", "sureNow", "(III)I"⟩, 47), (⟨"EverySecondWordModel", "fillGame", "(III)V"⟩, 47), (⟨"EverySecondWordModel", "gameAt", "(IIIIII)I"⟩, 47), (⟨"EverySecondWordModel", "counts", "(IIIII)I"⟩, 47), (⟨"EverySecondWordModel", "fillMeant", "()V"⟩, 47), (⟨"EverySecondWordModel", "fromStart", "(I)I"⟩, 47)]
theorem lw_r5 : ∀ q ∈ lw_privs_5, lw_okq q := List.forall_mem_cons.mpr ⟨lw_p64, List.forall_mem_cons.mpr ⟨lw_p65, List.forall_mem_cons.mpr ⟨lw_p66, List.forall_mem_cons.mpr ⟨lw_p67, List.forall_mem_cons.mpr ⟨lw_p68, List.forall_mem_cons.mpr ⟨lw_p69, List.forall_mem_cons.mpr ⟨lw_p70, List.forall_mem_cons.mpr ⟨lw_p71, List.forall_mem_cons.mpr ⟨lw_p72, List.forall_mem_cons.mpr ⟨lw_p73, List.forall_mem_cons.mpr ⟨lw_p74, List.forall_mem_cons.mpr ⟨lw_p75, List.forall_mem_cons.mpr ⟨lw_p76, List.forall_mem_cons.mpr ⟨lw_p77, List.forall_mem_cons.mpr ⟨lw_p78, List.forall_mem_cons.mpr ⟨lw_p79, fun _ h => absurd h List.not_mem_nil⟩⟩⟩⟩⟩⟩⟩⟩⟩⟩⟩⟩⟩⟩⟩⟩
theorem lw_p80 : lw_okq (⟨"EverySecondWordModel", "nextOrder", "()Z"⟩, 47) := ⟨⟨by decide +kernel, by decide +kernel⟩, List.mem_of_getElem? (i := 1031) (by decide +kernel), List.mem_of_getElem? (i := 1485) (by decide +kernel), List.mem_of_getElem? (i := 1486) (by decide +kernel)⟩
theorem lw_p81 : lw_okq (⟨"EverySecondWordModel", "worthWith", "(IIZ)I"⟩, 47) := ⟨⟨by decide +kernel, by decide +kernel⟩, List.mem_of_getElem? (i := 1031) (by decide +kernel), List.mem_of_getElem? (i := 1493) (by decide +kernel), List.mem_of_getElem? (i := 1494) (by decide +kernel)⟩
theorem lw_p82 : lw_okq (⟨"EverySecondWordModel", "canForce", "(III)Z"⟩, 47) := ⟨⟨by decide +kernel, by decide +kernel⟩, List.mem_of_getElem? (i := 1031) (by decide +kernel), List.mem_of_getElem? (i := 1517) (by decide +kernel), List.mem_of_getElem? (i := 1518) (by decide +kernel)⟩
theorem lw_p83 : lw_okq (⟨"EverySecondWordModel", "didAs", "(I)Z"⟩, 47) := ⟨⟨by decide +kernel, by decide +kernel⟩, List.mem_of_getElem? (i := 1031) (by decide +kernel), List.mem_of_getElem? (i := 1525) (by decide +kernel), List.mem_of_getElem? (i := 1526) (by decide +kernel)⟩
theorem lw_p84 : lw_okq (⟨"EverySecondWordModel", "drawnEnd", "()I"⟩, 47) := ⟨⟨by decide +kernel, by decide +kernel⟩, List.mem_of_getElem? (i := 1031) (by decide +kernel), List.mem_of_getElem? (i := 1541) (by decide +kernel), List.mem_of_getElem? (i := 1542) (by decide +kernel)⟩
theorem lw_p85 : lw_okq (⟨"EverySecondWordModel", "draw", "(I)I"⟩, 47) := ⟨⟨by decide +kernel, by decide +kernel⟩, List.mem_of_getElem? (i := 1031) (by decide +kernel), List.mem_of_getElem? (i := 1548) (by decide +kernel), List.mem_of_getElem? (i := 1549) (by decide +kernel)⟩
def lw_privs_6 : List (MethodName × Nat) := [(⟨"EverySecondWordModel", "nextOrder", "()Z"⟩, 47), (⟨"EverySecondWordModel", "worthWith", "(IIZ)I"⟩, 47), (⟨"EverySecondWordModel", "canForce", "(III)Z"⟩, 47), (⟨"EverySecondWordModel", "didAs", "(I)Z"⟩, 47), (⟨"EverySecondWordModel", "drawnEnd", "()I"⟩, 47), (⟨"EverySecondWordModel", "draw", "(I)I"⟩, 47)]
theorem lw_r6 : ∀ q ∈ lw_privs_6, lw_okq q := List.forall_mem_cons.mpr ⟨lw_p80, List.forall_mem_cons.mpr ⟨lw_p81, List.forall_mem_cons.mpr ⟨lw_p82, List.forall_mem_cons.mpr ⟨lw_p83, List.forall_mem_cons.mpr ⟨lw_p84, List.forall_mem_cons.mpr ⟨lw_p85, fun _ h => absurd h List.not_mem_nil⟩⟩⟩⟩⟩⟩
def lw_privs : List (MethodName × Nat) := lw_privs_1 ++ (lw_privs_2 ++ (lw_privs_3 ++ (lw_privs_4 ++ (lw_privs_5 ++ (lw_privs_6)))))
def lw_tbl : List Cond := k2_sels lw_privs ++ tables_1
theorem lw_privs_ok : ∀ q ∈ lw_privs, lw_okq q := by
  show ∀ q ∈ lw_privs_1 ++ (lw_privs_2 ++ (lw_privs_3 ++ (lw_privs_4 ++ (lw_privs_5 ++ (lw_privs_6))))), lw_okq q
  exact List.forall_mem_append.mpr ⟨lw_r1, List.forall_mem_append.mpr ⟨lw_r2, List.forall_mem_append.mpr ⟨lw_r3, List.forall_mem_append.mpr ⟨lw_r4, List.forall_mem_append.mpr ⟨lw_r5, lw_r6⟩⟩⟩⟩⟩
def RX0 : String := "EverySecondWord$Beginnings"
def TX0 : u_T := fun k => match k with
  | 0 => ("EverySecondWord$Beginnings", "world", "LEverySecondWord$World;", true)
  | 1 => ("EverySecondWord$Beginnings", "mind", "LEverySecondWord$Mind;", true)
  | _ => ("EverySecondWord$Beginnings", "seed", "I", false)
def tyX0 : Nat → FieldType := fun k => match k with
  | 0 => .object "EverySecondWord$World"
  | 1 => .object "EverySecondWord$Mind"
  | _ => .int
theorem nmX0 : ∀ a, a < 3 → ∀ b, b < 3 → a ≠ b → (TX0 a).2.1 ≠ (TX0 b).2.1 := by decide +kernel
theorem tyX0_ok : ∀ k, k < 3 → parseFieldDescriptor (TX0 k).2.2.1 = some (tyX0 k) := by decide +kernel
abbrev cX0_init : ByteArray := prog_2_method_1_code
def yX0_init : MethodName := ⟨RX0, "<init>", "(LEverySecondWord$World;LEverySecondWord$Mind;)V"⟩
abbrev cX0_bestTurning : ByteArray := prog_2_method_2_code
def yX0_bestTurning : MethodName := ⟨RX0, "bestTurning", "(I)I"⟩
abbrev cX0_bestOrder : ByteArray := prog_2_method_3_code
def yX0_bestOrder : MethodName := ⟨RX0, "bestOrder", "(I)I"⟩
abbrev cX0_digitsOf : ByteArray := prog_2_method_4_code
def yX0_digitsOf : MethodName := ⟨RX0, "digitsOf", "(I)I"⟩
abbrev cX0_bestWord : ByteArray := prog_2_method_5_code
def yX0_bestWord : MethodName := ⟨RX0, "bestWord", "(I)I"⟩
abbrev cX0_gain : ByteArray := prog_2_method_6_code
def yX0_gain : MethodName := ⟨RX0, "gain", "(IIZ)I"⟩
abbrev cX0_gainOfSight : ByteArray := prog_2_method_7_code
def yX0_gainOfSight : MethodName := ⟨RX0, "gainOfSight", "(I)I"⟩
abbrev cX0_bestKind : ByteArray := prog_2_method_8_code
def yX0_bestKind : MethodName := ⟨RX0, "bestKind", "(I)I"⟩
abbrev cX0_sumOfTalks : ByteArray := prog_2_method_9_code
def yX0_sumOfTalks : MethodName := ⟨RX0, "sumOfTalks", "(III)I"⟩
abbrev cX0_endBySeed : ByteArray := prog_2_method_10_code
def yX0_endBySeed : MethodName := ⟨RX0, "endBySeed", "()I"⟩
abbrev cX0_draw : ByteArray := prog_2_method_11_code
def yX0_draw : MethodName := ⟨RX0, "draw", "(I)I"⟩
def RX1 : String := "EverySecondWord$Grammar"
def TX1 : u_T := fun k => match k with
  | 0 => ("EverySecondWord$Grammar", "from", "[I", true)
  | 1 => ("EverySecondWord$Grammar", "by", "[I", true)
  | 2 => ("EverySecondWord$Grammar", "to", "[I", true)
  | 3 => ("EverySecondWord$Grammar", "mark", "[I", true)
  | 4 => ("EverySecondWord$Grammar", "ruleBy", "[I", true)
  | 5 => ("EverySecondWord$Grammar", "wordsFrom", "[I", true)
  | 6 => ("EverySecondWord$Grammar", "size", "I", false)
  | _ => ("EverySecondWord$Grammar", "ends", "I", false)
def tyX1 : Nat → FieldType := fun k => match k with
  | 0 => .array .int
  | 1 => .array .int
  | 2 => .array .int
  | 3 => .array .int
  | 4 => .array .int
  | 5 => .array .int
  | 6 => .int
  | _ => .int
theorem nmX1 : ∀ a, a < 8 → ∀ b, b < 8 → a ≠ b → (TX1 a).2.1 ≠ (TX1 b).2.1 := by decide +kernel
theorem tyX1_ok : ∀ k, k < 8 → parseFieldDescriptor (TX1 k).2.2.1 = some (tyX1 k) := by decide +kernel
abbrev cX1_init : ByteArray := prog_3_method_1_code
def yX1_init : MethodName := ⟨RX1, "<init>", "()V"⟩
abbrev cX1_copyFrom : ByteArray := prog_3_method_2_code
def yX1_copyFrom : MethodName := ⟨RX1, "copyFrom", "(LEverySecondWord$Grammar;)V"⟩
abbrev cX1_addRule : ByteArray := prog_3_method_3_code
def yX1_addRule : MethodName := ⟨RX1, "addRule", "(IIII)Z"⟩
abbrev cX1_addEnd : ByteArray := prog_3_method_4_code
def yX1_addEnd : MethodName := ⟨RX1, "addEnd", "(I)Z"⟩
abbrev cX1_isEnd : ByteArray := prog_3_method_5_code
def yX1_isEnd : MethodName := ⟨RX1, "isEnd", "(I)Z"⟩
abbrev cX1_wordsFrom : ByteArray := prog_3_method_6_code
def yX1_wordsFrom : MethodName := ⟨RX1, "wordsFrom", "(I)I"⟩
abbrev cX1_tells : ByteArray := prog_3_method_7_code
def yX1_tells : MethodName := ⟨RX1, "tells", "(II)I"⟩
abbrev cX1_stateFrom : ByteArray := prog_3_method_8_code
def yX1_stateFrom : MethodName := ⟨RX1, "stateFrom", "(I)I"⟩
abbrev cX1_stateTo : ByteArray := prog_3_method_9_code
def yX1_stateTo : MethodName := ⟨RX1, "stateTo", "(I)I"⟩
abbrev cX1_spotBehind : ByteArray := prog_3_method_10_code
def yX1_spotBehind : MethodName := ⟨RX1, "spotBehind", "(II)I"⟩
abbrev cX1_acrossRule : ByteArray := prog_3_method_11_code
def yX1_acrossRule : MethodName := ⟨RX1, "acrossRule", "(IJ)J"⟩
abbrev cX1_meaningsWithout : ByteArray := prog_3_method_12_code
def yX1_meaningsWithout : MethodName := ⟨RX1, "meaningsWithout", "(I)J"⟩
abbrev cX1_isState : ByteArray := prog_3_method_13_code
def yX1_isState : MethodName := ⟨RX1, "isState", "(I)Z"⟩
def RX2 : String := "EverySecondWord$Mind"
def TX2 : u_T := fun k => match k with
  | 0 => ("EverySecondWord$Mind", "world", "LEverySecondWord$World;", true)
  | 1 => ("EverySecondWord$Mind", "ends", "[I", true)
  | 2 => ("EverySecondWord$Mind", "dreams", "[I", true)
  | 3 => ("EverySecondWord$Mind", "worths", "[I", true)
  | _ => ("EverySecondWord$Mind", "age", "I", false)
def tyX2 : Nat → FieldType := fun k => match k with
  | 0 => .object "EverySecondWord$World"
  | 1 => .array .int
  | 2 => .array .int
  | 3 => .array .int
  | _ => .int
theorem nmX2 : ∀ a, a < 5 → ∀ b, b < 5 → a ≠ b → (TX2 a).2.1 ≠ (TX2 b).2.1 := by decide +kernel
theorem tyX2_ok : ∀ k, k < 5 → parseFieldDescriptor (TX2 k).2.2.1 = some (tyX2 k) := by decide +kernel
abbrev cX2_init : ByteArray := prog_4_method_1_code
def yX2_init : MethodName := ⟨RX2, "<init>", "(LEverySecondWord$World;)V"⟩
abbrev cX2_renew : ByteArray := prog_4_method_2_code
def yX2_renew : MethodName := ⟨RX2, "renew", "()V"⟩
abbrev cX2_deedNow : ByteArray := prog_4_method_3_code
def yX2_deedNow : MethodName := ⟨RX2, "deedNow", "()I"⟩
abbrev cX2_endNow : ByteArray := prog_4_method_4_code
def yX2_endNow : MethodName := ⟨RX2, "endNow", "()I"⟩
abbrev cX2_worthFromBeginning : ByteArray := prog_4_method_5_code
def yX2_worthFromBeginning : MethodName := ⟨RX2, "worthFromBeginning", "(I)I"⟩
abbrev cX2_worthOfEnd : ByteArray := prog_4_method_6_code
def yX2_worthOfEnd : MethodName := ⟨RX2, "worthOfEnd", "(II)I"⟩
abbrev cX2_kindsFitting : ByteArray := prog_4_method_7_code
def yX2_kindsFitting : MethodName := ⟨RX2, "kindsFitting", "(I)I"⟩
abbrev cX2_fits : ByteArray := prog_4_method_8_code
def yX2_fits : MethodName := ⟨RX2, "fits", "(I)Z"⟩
abbrev cX2_weighAllEnds : ByteArray := prog_4_method_9_code
def yX2_weighAllEnds : MethodName := ⟨RX2, "weighAllEnds", "()V"⟩
abbrev cX2_weighMeaning : ByteArray := prog_4_method_10_code
def yX2_weighMeaning : MethodName := ⟨RX2, "weighMeaning", "(II)I"⟩
abbrev cX2_worthAt : ByteArray := prog_4_method_11_code
def yX2_worthAt : MethodName := ⟨RX2, "worthAt", "(II)I"⟩
abbrev cX2_deedAt : ByteArray := prog_4_method_12_code
def yX2_deedAt : MethodName := ⟨RX2, "deedAt", "(I)I"⟩
abbrev cX2_bestDeed : ByteArray := prog_4_method_13_code
def yX2_bestDeed : MethodName := ⟨RX2, "bestDeed", "(IIII)I"⟩
abbrev cX2_weigh : ByteArray := prog_4_method_14_code
def yX2_weigh : MethodName := ⟨RX2, "weigh", "(IIII)I"⟩
abbrev cX2_endFrom : ByteArray := prog_4_method_15_code
def yX2_endFrom : MethodName := ⟨RX2, "endFrom", "(I)I"⟩
abbrev cX2_endAfter : ByteArray := prog_4_method_16_code
def yX2_endAfter : MethodName := ⟨RX2, "endAfter", "(II)I"⟩
abbrev cX2_dreamFrom : ByteArray := prog_4_method_17_code
def yX2_dreamFrom : MethodName := ⟨RX2, "dreamFrom", "(II)I"⟩
abbrev cX2_dreamAfter : ByteArray := prog_4_method_18_code
def yX2_dreamAfter : MethodName := ⟨RX2, "dreamAfter", "(III)I"⟩
abbrev cX2_leastOf : ByteArray := prog_4_method_19_code
def yX2_leastOf : MethodName := ⟨RX2, "leastOf", "(I)I"⟩
def RX3 : String := "EverySecondWord$People"
def TX3 : u_T := fun k => match k with
  | 0 => ("EverySecondWord$People", "kinds", "[I", true)
  | 1 => ("EverySecondWord$People", "words", "[I", true)
  | 2 => ("EverySecondWord$People", "worths", "[I", true)
  | 3 => ("EverySecondWord$People", "turns", "[I", true)
  | _ => ("EverySecondWord$People", "size", "I", false)
def tyX3 : Nat → FieldType := fun k => match k with
  | 0 => .array .int
  | 1 => .array .int
  | 2 => .array .int
  | 3 => .array .int
  | _ => .int
theorem nmX3 : ∀ a, a < 5 → ∀ b, b < 5 → a ≠ b → (TX3 a).2.1 ≠ (TX3 b).2.1 := by decide +kernel
theorem tyX3_ok : ∀ k, k < 5 → parseFieldDescriptor (TX3 k).2.2.1 = some (tyX3 k) := by decide +kernel
abbrev cX3_init : ByteArray := prog_5_method_1_code
def yX3_init : MethodName := ⟨RX3, "<init>", "()V"⟩
abbrev cX3_copyFrom : ByteArray := prog_5_method_2_code
def yX3_copyFrom : MethodName := ⟨RX3, "copyFrom", "(LEverySecondWord$People;)V"⟩
abbrev cX3_add : ByteArray := prog_5_method_3_code
def yX3_add : MethodName := ⟨RX3, "add", "(II)Z"⟩
abbrev cX3_has : ByteArray := prog_5_method_4_code
def yX3_has : MethodName := ⟨RX3, "has", "(I)Z"⟩
abbrev cX3_kindOf : ByteArray := prog_5_method_5_code
def yX3_kindOf : MethodName := ⟨RX3, "kindOf", "(I)I"⟩
abbrev cX3_putKind : ByteArray := prog_5_method_6_code
def yX3_putKind : MethodName := ⟨RX3, "putKind", "(II)V"⟩
abbrev cX3_wordsOf : ByteArray := prog_5_method_7_code
def yX3_wordsOf : MethodName := ⟨RX3, "wordsOf", "(I)I"⟩
abbrev cX3_putWord : ByteArray := prog_5_method_8_code
def yX3_putWord : MethodName := ⟨RX3, "putWord", "(IIZ)Z"⟩
abbrev cX3_worthOf : ByteArray := prog_5_method_9_code
def yX3_worthOf : MethodName := ⟨RX3, "worthOf", "(II)I"⟩
abbrev cX3_putWorth : ByteArray := prog_5_method_10_code
def yX3_putWorth : MethodName := ⟨RX3, "putWorth", "(III)Z"⟩
abbrev cX3_atTurn : ByteArray := prog_5_method_11_code
def yX3_atTurn : MethodName := ⟨RX3, "atTurn", "(I)I"⟩
abbrev cX3_placeOf : ByteArray := prog_5_method_12_code
def yX3_placeOf : MethodName := ⟨RX3, "placeOf", "(I)I"⟩
abbrev cX3_orderDigits : ByteArray := prog_5_method_13_code
def yX3_orderDigits : MethodName := ⟨RX3, "orderDigits", "()I"⟩
abbrev cX3_isOrder : ByteArray := prog_5_method_14_code
def yX3_isOrder : MethodName := ⟨RX3, "isOrder", "(I)Z"⟩
abbrev cX3_putOrder : ByteArray := prog_5_method_15_code
def yX3_putOrder : MethodName := ⟨RX3, "putOrder", "(I)V"⟩
abbrev cX3_turnByOne : ByteArray := prog_5_method_16_code
def yX3_turnByOne : MethodName := ⟨RX3, "turnByOne", "()V"⟩
def RX4 : String := "EverySecondWord$Power"
def TX4 : u_T := fun k => match k with
  | 0 => ("EverySecondWord$Power", "world", "LEverySecondWord$World;", true)
  | 1 => ("EverySecondWord$Power", "mind", "LEverySecondWord$Mind;", true)
  | 2 => ("EverySecondWord$Power", "sets", "[J", true)
  | 3 => ("EverySecondWord$Power", "lengths", "[I", true)
  | 4 => ("EverySecondWord$Power", "person", "I", false)
  | 5 => ("EverySecondWord$Power", "goodMeanings", "J", false)
  | 6 => ("EverySecondWord$Power", "stuckIsGood", "Z", false)
  | _ => ("EverySecondWord$Power", "goneRules", "I", false)
def tyX4 : Nat → FieldType := fun k => match k with
  | 0 => .object "EverySecondWord$World"
  | 1 => .object "EverySecondWord$Mind"
  | 2 => .array .long
  | 3 => .array .int
  | 4 => .int
  | 5 => .long
  | 6 => .boolean
  | _ => .int
theorem nmX4 : ∀ a, a < 8 → ∀ b, b < 8 → a ≠ b → (TX4 a).2.1 ≠ (TX4 b).2.1 := by decide +kernel
theorem tyX4_ok : ∀ k, k < 8 → parseFieldDescriptor (TX4 k).2.2.1 = some (tyX4 k) := by decide +kernel
abbrev cX4_init : ByteArray := prog_6_method_1_code
def yX4_init : MethodName := ⟨RX4, "<init>", "(LEverySecondWord$World;LEverySecondWord$Mind;)V"⟩
abbrev cX4_meaningsWith : ByteArray := prog_6_method_2_code
def yX4_meaningsWith : MethodName := ⟨RX4, "meaningsWith", "(I)J"⟩
abbrev cX4_ensuresNow : ByteArray := prog_6_method_3_code
def yX4_ensuresNow : MethodName := ⟨RX4, "ensuresNow", "(IJZ)Z"⟩
abbrev cX4_surestWorth : ByteArray := prog_6_method_4_code
def yX4_surestWorth : MethodName := ⟨RX4, "surestWorth", "(I)I"⟩
abbrev cX4_fewestRules : ByteArray := prog_6_method_5_code
def yX4_fewestRules : MethodName := ⟨RX4, "fewestRules", "(II)I"⟩
abbrev cX4_mostWords : ByteArray := prog_6_method_6_code
def yX4_mostWords : MethodName := ⟨RX4, "mostWords", "(I)I"⟩
abbrev cX4_ask : ByteArray := prog_6_method_7_code
def yX4_ask : MethodName := ⟨RX4, "ask", "(IJZ)V"⟩
abbrev cX4_meaningsWorth : ByteArray := prog_6_method_8_code
def yX4_meaningsWorth : MethodName := ⟨RX4, "meaningsWorth", "(II)J"⟩
abbrev cX4_ensuresWithout : ByteArray := prog_6_method_9_code
def yX4_ensuresWithout : MethodName := ⟨RX4, "ensuresWithout", "(I)Z"⟩
abbrev cX4_ensuresFrom : ByteArray := prog_6_method_10_code
def yX4_ensuresFrom : MethodName := ⟨RX4, "ensuresFrom", "(I)Z"⟩
abbrev cX4_fillSets : ByteArray := prog_6_method_11_code
def yX4_fillSets : MethodName := ⟨RX4, "fillSets", "(I)V"⟩
abbrev cX4_withEnd : ByteArray := prog_6_method_12_code
def yX4_withEnd : MethodName := ⟨RX4, "withEnd", "(JIZZ)J"⟩
abbrev cX4_fillLengths : ByteArray := prog_6_method_13_code
def yX4_fillLengths : MethodName := ⟨RX4, "fillLengths", "(I)V"⟩
def RX5 : String := "EverySecondWord$Reach"
def TX5 : u_T := fun k => match k with
  | 0 => ("EverySecondWord$Reach", "world", "LEverySecondWord$World;", true)
  | 1 => ("EverySecondWord$Reach", "sets", "[J", true)
  | 2 => ("EverySecondWord$Reach", "meanings", "J", false)
  | _ => ("EverySecondWord$Reach", "stuck", "Z", false)
def tyX5 : Nat → FieldType := fun k => match k with
  | 0 => .object "EverySecondWord$World"
  | 1 => .array .long
  | 2 => .long
  | _ => .boolean
theorem nmX5 : ∀ a, a < 4 → ∀ b, b < 4 → a ≠ b → (TX5 a).2.1 ≠ (TX5 b).2.1 := by decide +kernel
theorem tyX5_ok : ∀ k, k < 4 → parseFieldDescriptor (TX5 k).2.2.1 = some (tyX5 k) := by decide +kernel
abbrev cX5_init : ByteArray := prog_7_method_1_code
def yX5_init : MethodName := ⟨RX5, "<init>", "(LEverySecondWord$World;)V"⟩
abbrev cX5_look : ByteArray := prog_7_method_2_code
def yX5_look : MethodName := ⟨RX5, "look", "()V"⟩
abbrev cX5_goOn : ByteArray := prog_7_method_3_code
def yX5_goOn : MethodName := ⟨RX5, "goOn", "(I)V"⟩
def RX6 : String := "EverySecondWord$Reader"
def TX6 : u_T := fun k => match k with
  | 0 => ("EverySecondWord$Reader", "letters", "[I", true)
  | 1 => ("EverySecondWord$Reader", "trial", "LEverySecondWord$World;", true)
  | 2 => ("EverySecondWord$Reader", "size", "I", false)
  | _ => ("EverySecondWord$Reader", "at", "I", false)
def tyX6 : Nat → FieldType := fun k => match k with
  | 0 => .array .int
  | 1 => .object "EverySecondWord$World"
  | 2 => .int
  | _ => .int
theorem nmX6 : ∀ a, a < 4 → ∀ b, b < 4 → a ≠ b → (TX6 a).2.1 ≠ (TX6 b).2.1 := by decide +kernel
theorem tyX6_ok : ∀ k, k < 4 → parseFieldDescriptor (TX6 k).2.2.1 = some (tyX6 k) := by decide +kernel
abbrev cX6_init : ByteArray := prog_8_method_1_code
def yX6_init : MethodName := ⟨RX6, "<init>", "()V"⟩
abbrev cX6_isFull : ByteArray := prog_8_method_2_code
def yX6_isFull : MethodName := ⟨RX6, "isFull", "()Z"⟩
abbrev cX6_accept : ByteArray := prog_8_method_3_code
def yX6_accept : MethodName := ⟨RX6, "accept", "(I)I"⟩
abbrev cX6_readInto : ByteArray := prog_8_method_4_code
def yX6_readInto : MethodName := ⟨RX6, "readInto", "(LEverySecondWord$World;)I"⟩
abbrev cX6_isWellFormed : ByteArray := prog_8_method_5_code
def yX6_isWellFormed : MethodName := ⟨RX6, "isWellFormed", "()Z"⟩
abbrev cX6_isStatement : ByteArray := prog_8_method_6_code
def yX6_isStatement : MethodName := ⟨RX6, "isStatement", "()Z"⟩
abbrev cX6_take : ByteArray := prog_8_method_7_code
def yX6_take : MethodName := ⟨RX6, "take", "(II)Z"⟩
abbrev cX6_isEndOfRule : ByteArray := prog_8_method_8_code
def yX6_isEndOfRule : MethodName := ⟨RX6, "isEndOfRule", "()Z"⟩
abbrev cX6_isEndOfPerson : ByteArray := prog_8_method_9_code
def yX6_isEndOfPerson : MethodName := ⟨RX6, "isEndOfPerson", "()Z"⟩
abbrev cX6_applyAll : ByteArray := prog_8_method_10_code
def yX6_applyAll : MethodName := ⟨RX6, "applyAll", "()I"⟩
abbrev cX6_applies : ByteArray := prog_8_method_11_code
def yX6_applies : MethodName := ⟨RX6, "applies", "(I)Z"⟩
abbrev cX6_letter : ByteArray := prog_8_method_12_code
def yX6_letter : MethodName := ⟨RX6, "letter", "(I)I"⟩
abbrev cX6_markAt : ByteArray := prog_8_method_13_code
def yX6_markAt : MethodName := ⟨RX6, "markAt", "(I)I"⟩
abbrev cX6_signedDigitAt : ByteArray := prog_8_method_14_code
def yX6_signedDigitAt : MethodName := ⟨RX6, "signedDigitAt", "(I)I"⟩
abbrev cX6_wordsFrom : ByteArray := prog_8_method_15_code
def yX6_wordsFrom : MethodName := ⟨RX6, "wordsFrom", "(I)I"⟩
def RX7 : String := "EverySecondWord$Talk"
def TX7 : u_T := fun k => match k with
  | 0 => ("EverySecondWord$Talk", "words", "[I", true)
  | 1 => ("EverySecondWord$Talk", "spots", "[I", true)
  | 2 => ("EverySecondWord$Talk", "size", "I", false)
  | _ => ("EverySecondWord$Talk", "stopped", "Z", false)
def tyX7 : Nat → FieldType := fun k => match k with
  | 0 => .array .int
  | 1 => .array .int
  | 2 => .int
  | _ => .boolean
theorem nmX7 : ∀ a, a < 4 → ∀ b, b < 4 → a ≠ b → (TX7 a).2.1 ≠ (TX7 b).2.1 := by decide +kernel
theorem tyX7_ok : ∀ k, k < 4 → parseFieldDescriptor (TX7 k).2.2.1 = some (tyX7 k) := by decide +kernel
abbrev cX7_init : ByteArray := prog_9_method_1_code
def yX7_init : MethodName := ⟨RX7, "<init>", "()V"⟩
abbrev cX7_copyFrom : ByteArray := prog_9_method_2_code
def yX7_copyFrom : MethodName := ⟨RX7, "copyFrom", "(LEverySecondWord$Talk;)V"⟩
abbrev cX7_spot : ByteArray := prog_9_method_3_code
def yX7_spot : MethodName := ⟨RX7, "spot", "()I"⟩
abbrev cX7_spotBefore : ByteArray := prog_9_method_4_code
def yX7_spotBefore : MethodName := ⟨RX7, "spotBefore", "(I)I"⟩
abbrev cX7_wordAt : ByteArray := prog_9_method_5_code
def yX7_wordAt : MethodName := ⟨RX7, "wordAt", "(I)I"⟩
abbrev cX7_add : ByteArray := prog_9_method_6_code
def yX7_add : MethodName := ⟨RX7, "add", "(II)V"⟩
abbrev cX7_takeBack : ByteArray := prog_9_method_7_code
def yX7_takeBack : MethodName := ⟨RX7, "takeBack", "()Z"⟩
abbrev cX7_beginAnew : ByteArray := prog_9_method_8_code
def yX7_beginAnew : MethodName := ⟨RX7, "beginAnew", "()V"⟩
def RX8 : String := "EverySecondWord$World"
def TX8 : u_T := fun k => match k with
  | 0 => ("EverySecondWord$World", "grammar", "LEverySecondWord$Grammar;", true)
  | 1 => ("EverySecondWord$World", "people", "LEverySecondWord$People;", true)
  | 2 => ("EverySecondWord$World", "talk", "LEverySecondWord$Talk;", true)
  | 3 => ("EverySecondWord$World", "length", "I", false)
  | _ => ("EverySecondWord$World", "loss", "I", false)
def tyX8 : Nat → FieldType := fun k => match k with
  | 0 => .object "EverySecondWord$Grammar"
  | 1 => .object "EverySecondWord$People"
  | 2 => .object "EverySecondWord$Talk"
  | 3 => .int
  | _ => .int
theorem nmX8 : ∀ a, a < 5 → ∀ b, b < 5 → a ≠ b → (TX8 a).2.1 ≠ (TX8 b).2.1 := by decide +kernel
theorem tyX8_ok : ∀ k, k < 5 → parseFieldDescriptor (TX8 k).2.2.1 = some (tyX8 k) := by decide +kernel
abbrev cX8_init : ByteArray := prog_10_method_1_code
def yX8_init : MethodName := ⟨RX8, "<init>", "()V"⟩
abbrev cX8_copyFrom : ByteArray := prog_10_method_2_code
def yX8_copyFrom : MethodName := ⟨RX8, "copyFrom", "(LEverySecondWord$World;)V"⟩
abbrev cX8_putLength : ByteArray := prog_10_method_3_code
def yX8_putLength : MethodName := ⟨RX8, "putLength", "(I)Z"⟩
abbrev cX8_sayer : ByteArray := prog_10_method_4_code
def yX8_sayer : MethodName := ⟨RX8, "sayer", "(I)I"⟩
abbrev cX8_wordsAt : ByteArray := prog_10_method_5_code
def yX8_wordsAt : MethodName := ⟨RX8, "wordsAt", "(I)I"⟩
abbrev cX8_options : ByteArray := prog_10_method_6_code
def yX8_options : MethodName := ⟨RX8, "options", "(I)I"⟩
abbrev cX8_optionsNow : ByteArray := prog_10_method_7_code
def yX8_optionsNow : MethodName := ⟨RX8, "optionsNow", "()I"⟩
abbrev cX8_sayerNow : ByteArray := prog_10_method_8_code
def yX8_sayerNow : MethodName := ⟨RX8, "sayerNow", "()I"⟩
abbrev cX8_after : ByteArray := prog_10_method_9_code
def yX8_after : MethodName := ⟨RX8, "after", "(II)I"⟩
abbrev cX8_endByStop : ByteArray := prog_10_method_10_code
def yX8_endByStop : MethodName := ⟨RX8, "endByStop", "(I)I"⟩
abbrev cX8_endByItself : ByteArray := prog_10_method_11_code
def yX8_endByItself : MethodName := ⟨RX8, "endByItself", "(I)I"⟩
def RX9 : String := "EverySecondWord"
def TX9 : u_T := fun k => match k with
  | 0 => ("EverySecondWord", "world", "LEverySecondWord$World;", true)
  | 1 => ("EverySecondWord", "image", "LEverySecondWord$World;", true)
  | 2 => ("EverySecondWord", "reader", "LEverySecondWord$Reader;", true)
  | 3 => ("EverySecondWord", "mind", "LEverySecondWord$Mind;", true)
  | 4 => ("EverySecondWord", "beginnings", "LEverySecondWord$Beginnings;", true)
  | 5 => ("EverySecondWord", "power", "LEverySecondWord$Power;", true)
  | 6 => ("EverySecondWord", "reach", "LEverySecondWord$Reach;", true)
  | 7 => ("EverySecondWord", "row", "[I", true)
  | 8 => ("EverySecondWord", "refusals", "[I", true)
  | 9 => ("EverySecondWord", "rowSize", "I", false)
  | _ => ("EverySecondWord", "hasImage", "Z", false)
def tyX9 : Nat → FieldType := fun k => match k with
  | 0 => .object "EverySecondWord$World"
  | 1 => .object "EverySecondWord$World"
  | 2 => .object "EverySecondWord$Reader"
  | 3 => .object "EverySecondWord$Mind"
  | 4 => .object "EverySecondWord$Beginnings"
  | 5 => .object "EverySecondWord$Power"
  | 6 => .object "EverySecondWord$Reach"
  | 7 => .array .int
  | 8 => .array .int
  | 9 => .int
  | _ => .boolean
theorem nmX9 : ∀ a, a < 11 → ∀ b, b < 11 → a ≠ b → (TX9 a).2.1 ≠ (TX9 b).2.1 := by decide +kernel
theorem tyX9_ok : ∀ k, k < 11 → parseFieldDescriptor (TX9 k).2.2.1 = some (tyX9 k) := by decide +kernel
abbrev cX9_init : ByteArray := prog_1_method_1_code
def yX9_init : MethodName := ⟨RX9, "<init>", "()V"⟩
abbrev cX9_feed : ByteArray := prog_1_method_2_code
def yX9_feed : MethodName := ⟨RX9, "feed", "(I)I"⟩
abbrev cX9_tongue : ByteArray := prog_1_method_3_code
def yX9_tongue : MethodName := ⟨RX9, "tongue", "()I"⟩
abbrev cX9_rule : ByteArray := prog_1_method_4_code
def yX9_rule : MethodName := ⟨RX9, "rule", "(II)I"⟩
abbrev cX9_end : ByteArray := prog_1_method_5_code
def yX9_end : MethodName := ⟨RX9, "end", "(I)I"⟩
abbrev cX9_person : ByteArray := prog_1_method_6_code
def yX9_person : MethodName := ⟨RX9, "person", "(II)I"⟩
abbrev cX9_worth : ByteArray := prog_1_method_7_code
def yX9_worth : MethodName := ⟨RX9, "worth", "(II)I"⟩
abbrev cX9_values : ByteArray := prog_1_method_8_code
def yX9_values : MethodName := ⟨RX9, "values", "(III)I"⟩
abbrev cX9_kind : ByteArray := prog_1_method_9_code
def yX9_kind : MethodName := ⟨RX9, "kind", "(II)I"⟩
abbrev cX9_word : ByteArray := prog_1_method_10_code
def yX9_word : MethodName := ⟨RX9, "word", "(IIZ)I"⟩
abbrev cX9_set : ByteArray := prog_1_method_11_code
def yX9_set : MethodName := ⟨RX9, "set", "(II)I"⟩
abbrev cX9_order : ByteArray := prog_1_method_12_code
def yX9_order : MethodName := ⟨RX9, "order", "(I)I"⟩
abbrev cX9_say : ByteArray := prog_1_method_13_code
def yX9_say : MethodName := ⟨RX9, "say", "(I)I"⟩
abbrev cX9_stop : ByteArray := prog_1_method_14_code
def yX9_stop : MethodName := ⟨RX9, "stop", "()I"⟩
abbrev cX9_back : ByteArray := prog_1_method_15_code
def yX9_back : MethodName := ⟨RX9, "back", "()I"⟩
abbrev cX9_anew : ByteArray := prog_1_method_16_code
def yX9_anew : MethodName := ⟨RX9, "anew", "()I"⟩
abbrev cX9_talk : ByteArray := prog_1_method_17_code
def yX9_talk : MethodName := ⟨RX9, "talk", "(I)I"⟩
abbrev cX9_does : ByteArray := prog_1_method_18_code
def yX9_does : MethodName := ⟨RX9, "does", "()I"⟩
abbrev cX9_goes : ByteArray := prog_1_method_19_code
def yX9_goes : MethodName := ⟨RX9, "goes", "()I"⟩
abbrev cX9_ends : ByteArray := prog_1_method_20_code
def yX9_ends : MethodName := ⟨RX9, "ends", "(I)I"⟩
abbrev cX9_value : ByteArray := prog_1_method_21_code
def yX9_value : MethodName := ⟨RX9, "value", "(I)I"⟩
abbrev cX9_forces : ByteArray := prog_1_method_22_code
def yX9_forces : MethodName := ⟨RX9, "forces", "(II)I"⟩
abbrev cX9_keeps : ByteArray := prog_1_method_23_code
def yX9_keeps : MethodName := ⟨RX9, "keeps", "(II)I"⟩
abbrev cX9_sticks : ByteArray := prog_1_method_24_code
def yX9_sticks : MethodName := ⟨RX9, "sticks", "(I)I"⟩
abbrev cX9_holds : ByteArray := prog_1_method_25_code
def yX9_holds : MethodName := ⟨RX9, "holds", "(I)I"⟩
abbrev cX9_sure : ByteArray := prog_1_method_26_code
def yX9_sure : MethodName := ⟨RX9, "sure", "(I)I"⟩
abbrev cX9_meanings : ByteArray := prog_1_method_27_code
def yX9_meanings : MethodName := ⟨RX9, "meanings", "(I)I"⟩
abbrev cX9_canStick : ByteArray := prog_1_method_28_code
def yX9_canStick : MethodName := ⟨RX9, "canStick", "()I"⟩
abbrev cX9_begins : ByteArray := prog_1_method_29_code
def yX9_begins : MethodName := ⟨RX9, "begins", "(I)I"⟩
abbrev cX9_turns : ByteArray := prog_1_method_30_code
def yX9_turns : MethodName := ⟨RX9, "turns", "(I)I"⟩
abbrev cX9_buys : ByteArray := prog_1_method_31_code
def yX9_buys : MethodName := ⟨RX9, "buys", "(I)I"⟩
abbrev cX9_price : ByteArray := prog_1_method_32_code
def yX9_price : MethodName := ⟨RX9, "price", "(II)I"⟩
abbrev cX9_lacks : ByteArray := prog_1_method_33_code
def yX9_lacks : MethodName := ⟨RX9, "lacks", "(II)I"⟩
abbrev cX9_knows : ByteArray := prog_1_method_34_code
def yX9_knows : MethodName := ⟨RX9, "knows", "(I)I"⟩
abbrev cX9_as : ByteArray := prog_1_method_35_code
def yX9_as : MethodName := ⟨RX9, "as", "(I)I"⟩
abbrev cX9_least : ByteArray := prog_1_method_36_code
def yX9_least : MethodName := ⟨RX9, "least", "(II)I"⟩
abbrev cX9_kinds : ByteArray := prog_1_method_37_code
def yX9_kinds : MethodName := ⟨RX9, "kinds", "(I)I"⟩
abbrev cX9_row : ByteArray := prog_1_method_38_code
def yX9_row : MethodName := ⟨RX9, "row", "(I)I"⟩
abbrev cX9_judge : ByteArray := prog_1_method_39_code
def yX9_judge : MethodName := ⟨RX9, "judge", "()I"⟩
abbrev cX9_seeds : ByteArray := prog_1_method_40_code
def yX9_seeds : MethodName := ⟨RX9, "seeds", "(III)I"⟩
abbrev cX9_image : ByteArray := prog_1_method_41_code
def yX9_image : MethodName := ⟨RX9, "image", "()I"⟩
abbrev cX9_restore : ByteArray := prog_1_method_42_code
def yX9_restore : MethodName := ⟨RX9, "restore", "()I"⟩
abbrev cX9_count : ByteArray := prog_1_method_43_code
def yX9_count : MethodName := ⟨RX9, "count", "(I)I"⟩
abbrev cX9_refused : ByteArray := prog_1_method_44_code
def yX9_refused : MethodName := ⟨RX9, "refused", "(I)I"⟩
abbrev cX9_worthRefused : ByteArray := prog_1_method_45_code
def yX9_worthRefused : MethodName := ⟨RX9, "worthRefused", "(I)I"⟩
abbrev cX9_isNobody : ByteArray := prog_1_method_46_code
def yX9_isNobody : MethodName := ⟨RX9, "isNobody", "(I)Z"⟩
abbrev cX9_isNoMark : ByteArray := prog_1_method_47_code
def yX9_isNoMark : MethodName := ⟨RX9, "isNoMark", "(I)Z"⟩
abbrev cX9_isNoWord : ByteArray := prog_1_method_48_code
def yX9_isNoWord : MethodName := ⟨RX9, "isNoWord", "(I)Z"⟩
abbrev cX9_sayNow : ByteArray := prog_1_method_49_code
def yX9_sayNow : MethodName := ⟨RX9, "sayNow", "(I)I"⟩
abbrev cX9_howTheTalkStands : ByteArray := prog_1_method_50_code
def yX9_howTheTalkStands : MethodName := ⟨RX9, "howTheTalkStands", "()I"⟩
abbrev cX9_spotOf : ByteArray := prog_1_method_51_code
def yX9_spotOf : MethodName := ⟨RX9, "spotOf", "(III)I"⟩
abbrev cX9_countAt : ByteArray := prog_1_method_52_code
def yX9_countAt : MethodName := ⟨RX9, "countAt", "(I)I"⟩
abbrev cX9_stateAt : ByteArray := prog_1_method_53_code
def yX9_stateAt : MethodName := ⟨RX9, "stateAt", "(I)I"⟩
abbrev cX9_meaningAt : ByteArray := prog_1_method_54_code
def yX9_meaningAt : MethodName := ⟨RX9, "meaningAt", "(I)I"⟩
abbrev cX9_rowOf : ByteArray := prog_1_method_55_code
def yX9_rowOf : MethodName := ⟨RX9, "rowOf", "(I)I"⟩
abbrev cX9_bitInRow : ByteArray := prog_1_method_56_code
def yX9_bitInRow : MethodName := ⟨RX9, "bitInRow", "(JI)I"⟩
abbrev cX9_endOf : ByteArray := prog_1_method_57_code
def yX9_endOf : MethodName := ⟨RX9, "endOf", "(IZI)I"⟩
abbrev cX9_endCount : ByteArray := prog_1_method_58_code
def yX9_endCount : MethodName := ⟨RX9, "endCount", "(I)I"⟩
abbrev cX9_endStuck : ByteArray := prog_1_method_59_code
def yX9_endStuck : MethodName := ⟨RX9, "endStuck", "(I)I"⟩
abbrev cX9_endMeaning : ByteArray := prog_1_method_60_code
def yX9_endMeaning : MethodName := ⟨RX9, "endMeaning", "(I)I"⟩
def RX10 : String := "EverySecondWordModel"
def TX10 : u_T := fun k => match k with
  | 0 => ("EverySecondWordModel", "refused", "[I", true)
  | 1 => ("EverySecondWordModel", "ruleFrom", "[I", true)
  | 2 => ("EverySecondWordModel", "ruleBy", "[I", true)
  | 3 => ("EverySecondWordModel", "ruleTo", "[I", true)
  | 4 => ("EverySecondWordModel", "ruleMark", "[I", true)
  | 5 => ("EverySecondWordModel", "kind", "[I", true)
  | 6 => ("EverySecondWordModel", "words", "[I", true)
  | 7 => ("EverySecondWordModel", "worth", "[I", true)
  | 8 => ("EverySecondWordModel", "order", "[I", true)
  | 9 => ("EverySecondWordModel", "said", "[I", true)
  | 10 => ("EverySecondWordModel", "rules", "I", false)
  | 11 => ("EverySecondWordModel", "ends", "I", false)
  | 12 => ("EverySecondWordModel", "people", "I", false)
  | 13 => ("EverySecondWordModel", "length", "I", false)
  | 14 => ("EverySecondWordModel", "loss", "I", false)
  | 15 => ("EverySecondWordModel", "many", "I", false)
  | 16 => ("EverySecondWordModel", "state", "I", false)
  | 17 => ("EverySecondWordModel", "meaning", "I", false)
  | 18 => ("EverySecondWordModel", "isStopped", "I", false)
  | 19 => ("EverySecondWordModel", "tape", "[I", true)
  | 20 => ("EverySecondWordModel", "letter", "[I", true)
  | 21 => ("EverySecondWordModel", "letterAt", "[I", true)
  | 22 => ("EverySecondWordModel", "one", "[I", true)
  | 23 => ("EverySecondWordModel", "two", "[I", true)
  | 24 => ("EverySecondWordModel", "three", "[I", true)
  | 25 => ("EverySecondWordModel", "four", "[I", true)
  | 26 => ("EverySecondWordModel", "taped", "I", false)
  | 27 => ("EverySecondWordModel", "at", "I", false)
  | 28 => ("EverySecondWordModel", "statements", "I", false)
  | 29 => ("EverySecondWordModel", "kept", "[I", true)
  | 30 => ("EverySecondWordModel", "hasImage", "Z", false)
  | 31 => ("EverySecondWordModel", "isKeeping", "Z", false)
  | 32 => ("EverySecondWordModel", "cursor", "I", false)
  | 33 => ("EverySecondWordModel", "gone", "I", false)
  | 34 => ("EverySecondWordModel", "mayTable", "[I", true)
  | 35 => ("EverySecondWordModel", "toTable", "[I", true)
  | 36 => ("EverySecondWordModel", "markTable", "[I", true)
  | 37 => ("EverySecondWordModel", "worthTable", "[I", true)
  | 38 => ("EverySecondWordModel", "endOf", "[I", true)
  | 39 => ("EverySecondWordModel", "wordsOf", "[I", true)
  | 40 => ("EverySecondWordModel", "mindOf", "[I", true)
  | 41 => ("EverySecondWordModel", "sureOf", "[I", true)
  | 42 => ("EverySecondWordModel", "meant", "[J", true)
  | 43 => ("EverySecondWordModel", "mayStick", "[Z", true)
  | 44 => ("EverySecondWordModel", "row", "[I", true)
  | 45 => ("EverySecondWordModel", "rowMany", "I", false)
  | _ => ("EverySecondWordModel", "lots", "I", false)
def tyX10 : Nat → FieldType := fun k => match k with
  | 0 => .array .int
  | 1 => .array .int
  | 2 => .array .int
  | 3 => .array .int
  | 4 => .array .int
  | 5 => .array .int
  | 6 => .array .int
  | 7 => .array .int
  | 8 => .array .int
  | 9 => .array .int
  | 10 => .int
  | 11 => .int
  | 12 => .int
  | 13 => .int
  | 14 => .int
  | 15 => .int
  | 16 => .int
  | 17 => .int
  | 18 => .int
  | 19 => .array .int
  | 20 => .array .int
  | 21 => .array .int
  | 22 => .array .int
  | 23 => .array .int
  | 24 => .array .int
  | 25 => .array .int
  | 26 => .int
  | 27 => .int
  | 28 => .int
  | 29 => .array .int
  | 30 => .boolean
  | 31 => .boolean
  | 32 => .int
  | 33 => .int
  | 34 => .array .int
  | 35 => .array .int
  | 36 => .array .int
  | 37 => .array .int
  | 38 => .array .int
  | 39 => .array .int
  | 40 => .array .int
  | 41 => .array .int
  | 42 => .array .long
  | 43 => .array .boolean
  | 44 => .array .int
  | 45 => .int
  | _ => .int
theorem nmX10 : ∀ a, a < 47 → ∀ b, b < 47 → a ≠ b → (TX10 a).2.1 ≠ (TX10 b).2.1 := by decide +kernel
theorem tyX10_ok : ∀ k, k < 47 → parseFieldDescriptor (TX10 k).2.2.1 = some (tyX10 k) := by decide +kernel
abbrev cX10_init : ByteArray := prog_12_method_1_code
def yX10_init : MethodName := ⟨RX10, "<init>", "()V"⟩
abbrev cX10_no : ByteArray := prog_12_method_2_code
def yX10_no : MethodName := ⟨RX10, "no", "(I)I"⟩
abbrev cX10_lower : ByteArray := prog_12_method_3_code
def yX10_lower : MethodName := ⟨RX10, "lower", "(I)I"⟩
abbrev cX10_isIn : ByteArray := prog_12_method_4_code
def yX10_isIn : MethodName := ⟨RX10, "isIn", "(III)Z"⟩
abbrev cX10_bound : ByteArray := prog_12_method_5_code
def yX10_bound : MethodName := ⟨RX10, "bound", "(III)I"⟩
abbrev cX10_isOne : ByteArray := prog_12_method_6_code
def yX10_isOne : MethodName := ⟨RX10, "isOne", "(I)Z"⟩
abbrev cX10_isEnd : ByteArray := prog_12_method_7_code
def yX10_isEnd : MethodName := ⟨RX10, "isEnd", "(I)Z"⟩
abbrev cX10_feed : ByteArray := prog_12_method_8_code
def yX10_feed : MethodName := ⟨RX10, "feed", "(I)I"⟩
abbrev cX10_next : ByteArray := prog_12_method_9_code
def yX10_next : MethodName := ⟨RX10, "next", "()I"⟩
abbrev cX10_takes : ByteArray := prog_12_method_10_code
def yX10_takes : MethodName := ⟨RX10, "takes", "(II)I"⟩
abbrev cX10_readsRule : ByteArray := prog_12_method_11_code
def yX10_readsRule : MethodName := ⟨RX10, "readsRule", "(I)Z"⟩
abbrev cX10_readsPerson : ByteArray := prog_12_method_12_code
def yX10_readsPerson : MethodName := ⟨RX10, "readsPerson", "(I)Z"⟩
abbrev cX10_readsWorth : ByteArray := prog_12_method_13_code
def yX10_readsWorth : MethodName := ⟨RX10, "readsWorth", "(I)Z"⟩
abbrev cX10_statement : ByteArray := prog_12_method_14_code
def yX10_statement : MethodName := ⟨RX10, "statement", "()Z"⟩
abbrev cX10_ruleAt : ByteArray := prog_12_method_15_code
def yX10_ruleAt : MethodName := ⟨RX10, "ruleAt", "(II)I"⟩
abbrev cX10_comes : ByteArray := prog_12_method_16_code
def yX10_comes : MethodName := ⟨RX10, "comes", "(I)Z"⟩
abbrev cX10_tongue : ByteArray := prog_12_method_17_code
def yX10_tongue : MethodName := ⟨RX10, "tongue", "()I"⟩
abbrev cX10_passes : ByteArray := prog_12_method_18_code
def yX10_passes : MethodName := ⟨RX10, "passes", "([I)V"⟩
abbrev cX10_passOne : ByteArray := prog_12_method_19_code
def yX10_passOne : MethodName := ⟨RX10, "passOne", "(I)I"⟩
abbrev cX10_passesAll : ByteArray := prog_12_method_20_code
def yX10_passesAll : MethodName := ⟨RX10, "passesAll", "(IZ)V"⟩
abbrev cX10_image : ByteArray := prog_12_method_21_code
def yX10_image : MethodName := ⟨RX10, "image", "()I"⟩
abbrev cX10_restore : ByteArray := prog_12_method_22_code
def yX10_restore : MethodName := ⟨RX10, "restore", "()I"⟩
abbrev cX10_rule : ByteArray := prog_12_method_23_code
def yX10_rule : MethodName := ⟨RX10, "rule", "(II)I"⟩
abbrev cX10_end : ByteArray := prog_12_method_24_code
def yX10_end : MethodName := ⟨RX10, "end", "(I)I"⟩
abbrev cX10_placeOf : ByteArray := prog_12_method_25_code
def yX10_placeOf : MethodName := ⟨RX10, "placeOf", "(I)I"⟩
abbrev cX10_person : ByteArray := prog_12_method_26_code
def yX10_person : MethodName := ⟨RX10, "person", "(II)I"⟩
abbrev cX10_worth : ByteArray := prog_12_method_27_code
def yX10_worth : MethodName := ⟨RX10, "worth", "(II)I"⟩
abbrev cX10_values : ByteArray := prog_12_method_28_code
def yX10_values : MethodName := ⟨RX10, "values", "(III)I"⟩
abbrev cX10_kind : ByteArray := prog_12_method_29_code
def yX10_kind : MethodName := ⟨RX10, "kind", "(II)I"⟩
abbrev cX10_word : ByteArray := prog_12_method_30_code
def yX10_word : MethodName := ⟨RX10, "word", "(IIZ)I"⟩
abbrev cX10_set : ByteArray := prog_12_method_31_code
def yX10_set : MethodName := ⟨RX10, "set", "(II)I"⟩
abbrev cX10_orderDigits : ByteArray := prog_12_method_32_code
def yX10_orderDigits : MethodName := ⟨RX10, "orderDigits", "()I"⟩
abbrev cX10_order : ByteArray := prog_12_method_33_code
def yX10_order : MethodName := ⟨RX10, "order", "(I)I"⟩
abbrev cX10_ruleNow : ByteArray := prog_12_method_34_code
def yX10_ruleNow : MethodName := ⟨RX10, "ruleNow", "(II)I"⟩
abbrev cX10_endWorth : ByteArray := prog_12_method_35_code
def yX10_endWorth : MethodName := ⟨RX10, "endWorth", "(II)I"⟩
abbrev cX10_findTables : ByteArray := prog_12_method_36_code
def yX10_findTables : MethodName := ⟨RX10, "findTables", "()V"⟩
abbrev cX10_turnAt : ByteArray := prog_12_method_37_code
def yX10_turnAt : MethodName := ⟨RX10, "turnAt", "(I)I"⟩
abbrev cX10_mayAt : ByteArray := prog_12_method_38_code
def yX10_mayAt : MethodName := ⟨RX10, "mayAt", "(II)I"⟩
abbrev cX10_placeAt : ByteArray := prog_12_method_39_code
def yX10_placeAt : MethodName := ⟨RX10, "placeAt", "(III)I"⟩
abbrev cX10_afterWord : ByteArray := prog_12_method_40_code
def yX10_afterWord : MethodName := ⟨RX10, "afterWord", "(IIII)I"⟩
abbrev cX10_endAt : ByteArray := prog_12_method_41_code
def yX10_endAt : MethodName := ⟨RX10, "endAt", "(II)I"⟩
abbrev cX10_say : ByteArray := prog_12_method_42_code
def yX10_say : MethodName := ⟨RX10, "say", "(I)I"⟩
abbrev cX10_says : ByteArray := prog_12_method_43_code
def yX10_says : MethodName := ⟨RX10, "says", "(I)V"⟩
abbrev cX10_mayStop : ByteArray := prog_12_method_44_code
def yX10_mayStop : MethodName := ⟨RX10, "mayStop", "()Z"⟩
abbrev cX10_stop : ByteArray := prog_12_method_45_code
def yX10_stop : MethodName := ⟨RX10, "stop", "()I"⟩
abbrev cX10_replays : ByteArray := prog_12_method_46_code
def yX10_replays : MethodName := ⟨RX10, "replays", "(I)V"⟩
abbrev cX10_back : ByteArray := prog_12_method_47_code
def yX10_back : MethodName := ⟨RX10, "back", "()I"⟩
abbrev cX10_anew : ByteArray := prog_12_method_48_code
def yX10_anew : MethodName := ⟨RX10, "anew", "()I"⟩
abbrev cX10_howIs : ByteArray := prog_12_method_49_code
def yX10_howIs : MethodName := ⟨RX10, "howIs", "()I"⟩
abbrev cX10_talk : ByteArray := prog_12_method_50_code
def yX10_talk : MethodName := ⟨RX10, "talk", "(I)I"⟩
abbrev cX10_lowest : ByteArray := prog_12_method_51_code
def yX10_lowest : MethodName := ⟨RX10, "lowest", "(I)I"⟩
abbrev cX10_blindChoice : ByteArray := prog_12_method_52_code
def yX10_blindChoice : MethodName := ⟨RX10, "blindChoice", "(IIII)I"⟩
abbrev cX10_fillMind : ByteArray := prog_12_method_53_code
def yX10_fillMind : MethodName := ⟨RX10, "fillMind", "(I)V"⟩
abbrev cX10_goodTo : ByteArray := prog_12_method_54_code
def yX10_goodTo : MethodName := ⟨RX10, "goodTo", "(III)I"⟩
abbrev cX10_aheadChoice : ByteArray := prog_12_method_55_code
def yX10_aheadChoice : MethodName := ⟨RX10, "aheadChoice", "(IIIII)I"⟩
abbrev cX10_greedyChoice : ByteArray := prog_12_method_56_code
def yX10_greedyChoice : MethodName := ⟨RX10, "greedyChoice", "(IIII)I"⟩
abbrev cX10_choiceAt : ByteArray := prog_12_method_57_code
def yX10_choiceAt : MethodName := ⟨RX10, "choiceAt", "(III)I"⟩
abbrev cX10_fillAll : ByteArray := prog_12_method_58_code
def yX10_fillAll : MethodName := ⟨RX10, "fillAll", "()V"⟩
abbrev cX10_does : ByteArray := prog_12_method_59_code
def yX10_does : MethodName := ⟨RX10, "does", "()I"⟩
abbrev cX10_goes : ByteArray := prog_12_method_60_code
def yX10_goes : MethodName := ⟨RX10, "goes", "()I"⟩
abbrev cX10_endNow : ByteArray := prog_12_method_61_code
def yX10_endNow : MethodName := ⟨RX10, "endNow", "()I"⟩
abbrev cX10_ends : ByteArray := prog_12_method_62_code
def yX10_ends : MethodName := ⟨RX10, "ends", "(I)I"⟩
abbrev cX10_value : ByteArray := prog_12_method_63_code
def yX10_value : MethodName := ⟨RX10, "value", "(I)I"⟩
abbrev cX10_counts : ByteArray := prog_12_method_64_code
def yX10_counts : MethodName := ⟨RX10, "counts", "(IIIII)I"⟩
abbrev cX10_gameAt : ByteArray := prog_12_method_65_code
def yX10_gameAt : MethodName := ⟨RX10, "gameAt", "(IIIIII)I"⟩
abbrev cX10_fillGame : ByteArray := prog_12_method_66_code
def yX10_fillGame : MethodName := ⟨RX10, "fillGame", "(III)V"⟩
abbrev cX10_sureNow : ByteArray := prog_12_method_67_code
def yX10_sureNow : MethodName := ⟨RX10, "sureNow", "(III)I"⟩
abbrev cX10_forces : ByteArray := prog_12_method_68_code
def yX10_forces : MethodName := ⟨RX10, "forces", "(II)I"⟩
abbrev cX10_keeps : ByteArray := prog_12_method_69_code
def yX10_keeps : MethodName := ⟨RX10, "keeps", "(II)I"⟩
abbrev cX10_sticks : ByteArray := prog_12_method_70_code
def yX10_sticks : MethodName := ⟨RX10, "sticks", "(I)I"⟩
abbrev cX10_holds : ByteArray := prog_12_method_71_code
def yX10_holds : MethodName := ⟨RX10, "holds", "(I)I"⟩
abbrev cX10_sure : ByteArray := prog_12_method_72_code
def yX10_sure : MethodName := ⟨RX10, "sure", "(I)I"⟩
abbrev cX10_fillMeant : ByteArray := prog_12_method_73_code
def yX10_fillMeant : MethodName := ⟨RX10, "fillMeant", "()V"⟩
abbrev cX10_meanings : ByteArray := prog_12_method_74_code
def yX10_meanings : MethodName := ⟨RX10, "meanings", "(I)I"⟩
abbrev cX10_canStick : ByteArray := prog_12_method_75_code
def yX10_canStick : MethodName := ⟨RX10, "canStick", "()I"⟩
abbrev cX10_fromStart : ByteArray := prog_12_method_76_code
def yX10_fromStart : MethodName := ⟨RX10, "fromStart", "(I)I"⟩
abbrev cX10_begins : ByteArray := prog_12_method_77_code
def yX10_begins : MethodName := ⟨RX10, "begins", "(I)I"⟩
abbrev cX10_nextOrder : ByteArray := prog_12_method_78_code
def yX10_nextOrder : MethodName := ⟨RX10, "nextOrder", "()Z"⟩
abbrev cX10_turns : ByteArray := prog_12_method_79_code
def yX10_turns : MethodName := ⟨RX10, "turns", "(I)I"⟩
abbrev cX10_worthWith : ByteArray := prog_12_method_80_code
def yX10_worthWith : MethodName := ⟨RX10, "worthWith", "(IIZ)I"⟩
abbrev cX10_buys : ByteArray := prog_12_method_81_code
def yX10_buys : MethodName := ⟨RX10, "buys", "(I)I"⟩
abbrev cX10_price : ByteArray := prog_12_method_82_code
def yX10_price : MethodName := ⟨RX10, "price", "(II)I"⟩
abbrev cX10_lacks : ByteArray := prog_12_method_83_code
def yX10_lacks : MethodName := ⟨RX10, "lacks", "(II)I"⟩
abbrev cX10_knows : ByteArray := prog_12_method_84_code
def yX10_knows : MethodName := ⟨RX10, "knows", "(I)I"⟩
abbrev cX10_as : ByteArray := prog_12_method_85_code
def yX10_as : MethodName := ⟨RX10, "as", "(I)I"⟩
abbrev cX10_canForce : ByteArray := prog_12_method_86_code
def yX10_canForce : MethodName := ⟨RX10, "canForce", "(III)Z"⟩
abbrev cX10_least : ByteArray := prog_12_method_87_code
def yX10_least : MethodName := ⟨RX10, "least", "(II)I"⟩
abbrev cX10_didAs : ByteArray := prog_12_method_88_code
def yX10_didAs : MethodName := ⟨RX10, "didAs", "(I)Z"⟩
abbrev cX10_kinds : ByteArray := prog_12_method_89_code
def yX10_kinds : MethodName := ⟨RX10, "kinds", "(I)I"⟩
abbrev cX10_row : ByteArray := prog_12_method_90_code
def yX10_row : MethodName := ⟨RX10, "row", "(I)I"⟩
abbrev cX10_judge : ByteArray := prog_12_method_91_code
def yX10_judge : MethodName := ⟨RX10, "judge", "()I"⟩
abbrev cX10_bits : ByteArray := prog_12_method_92_code
def yX10_bits : MethodName := ⟨RX10, "bits", "(I)I"⟩
abbrev cX10_draw : ByteArray := prog_12_method_93_code
def yX10_draw : MethodName := ⟨RX10, "draw", "(I)I"⟩
abbrev cX10_drawnEnd : ByteArray := prog_12_method_94_code
def yX10_drawnEnd : MethodName := ⟨RX10, "drawnEnd", "()I"⟩
abbrev cX10_seeds : ByteArray := prog_12_method_95_code
def yX10_seeds : MethodName := ⟨RX10, "seeds", "(III)I"⟩
abbrev cX10_count : ByteArray := prog_12_method_96_code
def yX10_count : MethodName := ⟨RX10, "count", "(I)I"⟩
def RJ6 : String := "java/lang/Integer"
abbrev cJ6_numberOfTrailingZeros_0f7a4 : ByteArray := prog_13_method_48_code
def yJ6_numberOfTrailingZeros_0f7a4 : MethodName := ⟨RJ6, "numberOfTrailingZeros", "(I)I"⟩
abbrev cJ6_bitCount_0f7a4 : ByteArray := prog_13_method_49_code
def yJ6_bitCount_0f7a4 : MethodName := ⟨RJ6, "bitCount", "(I)I"⟩
def RJ13 : String := "java/lang/Long"
abbrev cJ13_bitCount_95d88 : ByteArray := prog_14_method_50_code
def yJ13_bitCount_95d88 : MethodName := ⟨RJ13, "bitCount", "(J)I"⟩
def RJ9 : String := "java/lang/Math"
abbrev cJ9_floorDiv_7cf53 : ByteArray := prog_15_method_47_code
def yJ9_floorDiv_7cf53 : MethodName := ⟨RJ9, "floorDiv", "(II)I"⟩
abbrev cJ9_max_7cf53 : ByteArray := prog_15_method_65_code
def yJ9_max_7cf53 : MethodName := ⟨RJ9, "max", "(II)I"⟩
abbrev cJ9_min_7cf53 : ByteArray := prog_15_method_69_code
def yJ9_min_7cf53 : MethodName := ⟨RJ9, "min", "(II)I"⟩
def RJ10 : String := "java/lang/System"
abbrev vwCl : List vw_C := [(RX0, TX0, 3), (RX1, TX1, 8), (RX2, TX2, 5), (RX3, TX3, 5), (RX4, TX4, 8), (RX5, TX5, 4), (RX6, TX6, 4), (RX7, TX7, 4), (RX8, TX8, 5), (RX9, TX9, 11), (RX10, TX10, 47)]
