-- began as the skeleton's PART A and the printed names
-- ===== PART A: goes FIRST, ahead of the names: the tables' words, and 'selects' of the private methods out of them =====
/-- a private method of a class that the tables say can be made, by its rows of tables_1 -/
def lw_okq (q : MethodName × Nat) : Prop := (q.1.cls ≠ "java/lang/invoke/MethodHandle" ∧ q.1.cls ≠ "java/lang/invoke/VarHandle") ∧ Cond.instantiable q.1.cls q.2 ∈ tables_1 ∧ Cond.privateMethod q.1 ∈ tables_1 ∧ Cond.instanceMethod q.1 ∈ tables_1
theorem lw_p0 : lw_okq (⟨"HeapEnds", "isNoRow", "(I)Z"⟩, 12) := ⟨⟨by decide +kernel, by decide +kernel⟩, List.mem_of_getElem? (i := 18) (by decide +kernel), List.mem_of_getElem? (i := 300) (by decide +kernel), List.mem_of_getElem? (i := 301) (by decide +kernel)⟩
theorem lw_p1 : lw_okq (⟨"HeapEnds", "found", "(I)I"⟩, 12) := ⟨⟨by decide +kernel, by decide +kernel⟩, List.mem_of_getElem? (i := 18) (by decide +kernel), List.mem_of_getElem? (i := 305) (by decide +kernel), List.mem_of_getElem? (i := 306) (by decide +kernel)⟩
theorem lw_p2 : lw_okq (⟨"HeapEnds", "unfound", "(I)I"⟩, 12) := ⟨⟨by decide +kernel, by decide +kernel⟩, List.mem_of_getElem? (i := 18) (by decide +kernel), List.mem_of_getElem? (i := 317) (by decide +kernel), List.mem_of_getElem? (i := 318) (by decide +kernel)⟩
theorem lw_p3 : lw_okq (⟨"HeapEnds", "findingOf", "(III)I"⟩, 12) := ⟨⟨by decide +kernel, by decide +kernel⟩, List.mem_of_getElem? (i := 18) (by decide +kernel), List.mem_of_getElem? (i := 325) (by decide +kernel), List.mem_of_getElem? (i := 326) (by decide +kernel)⟩
theorem lw_p4 : lw_okq (⟨"HeapEnds$Row", "cutToLane", "(I)I"⟩, 4) := ⟨⟨by decide +kernel, by decide +kernel⟩, List.mem_of_getElem? (i := 235) (by decide +kernel), List.mem_of_getElem? (i := 337) (by decide +kernel), List.mem_of_getElem? (i := 338) (by decide +kernel)⟩
theorem lw_p5 : lw_okq (⟨"HeapEnds$Tape", "step", "()V"⟩, 8) := ⟨⟨by decide +kernel, by decide +kernel⟩, List.mem_of_getElem? (i := 28) (by decide +kernel), List.mem_of_getElem? (i := 373) (by decide +kernel), List.mem_of_getElem? (i := 374) (by decide +kernel)⟩
theorem lw_p6 : lw_okq (⟨"HeapEnds$Tape", "stepName", "()V"⟩, 8) := ⟨⟨by decide +kernel, by decide +kernel⟩, List.mem_of_getElem? (i := 28) (by decide +kernel), List.mem_of_getElem? (i := 383) (by decide +kernel), List.mem_of_getElem? (i := 384) (by decide +kernel)⟩
theorem lw_p7 : lw_okq (⟨"HeapEnds$Tape", "stepNumber", "()V"⟩, 8) := ⟨⟨by decide +kernel, by decide +kernel⟩, List.mem_of_getElem? (i := 28) (by decide +kernel), List.mem_of_getElem? (i := 390) (by decide +kernel), List.mem_of_getElem? (i := 391) (by decide +kernel)⟩
theorem lw_p8 : lw_okq (⟨"HeapEnds$Tape", "readLaw", "(LHeapEnds$Market;)V"⟩, 8) := ⟨⟨by decide +kernel, by decide +kernel⟩, List.mem_of_getElem? (i := 28) (by decide +kernel), List.mem_of_getElem? (i := 394) (by decide +kernel), List.mem_of_getElem? (i := 395) (by decide +kernel)⟩
theorem lw_p9 : lw_okq (⟨"HeapEnds$Tape", "isWord", "(Ljava/lang/String;)Z"⟩, 8) := ⟨⟨by decide +kernel, by decide +kernel⟩, List.mem_of_getElem? (i := 28) (by decide +kernel), List.mem_of_getElem? (i := 399) (by decide +kernel), List.mem_of_getElem? (i := 400) (by decide +kernel)⟩
theorem lw_p10 : lw_okq (⟨"HeapEnds$Tape", "fail", "(I)V"⟩, 8) := ⟨⟨by decide +kernel, by decide +kernel⟩, List.mem_of_getElem? (i := 28) (by decide +kernel), List.mem_of_getElem? (i := 451) (by decide +kernel), List.mem_of_getElem? (i := 452) (by decide +kernel)⟩
theorem lw_p11 : lw_okq (⟨"HeapEnds$Tape", "readNumber", "(I)I"⟩, 8) := ⟨⟨by decide +kernel, by decide +kernel⟩, List.mem_of_getElem? (i := 28) (by decide +kernel), List.mem_of_getElem? (i := 455) (by decide +kernel), List.mem_of_getElem? (i := 456) (by decide +kernel)⟩
theorem lw_p12 : lw_okq (⟨"HeapEnds$Tape", "readSign", "()V"⟩, 8) := ⟨⟨by decide +kernel, by decide +kernel⟩, List.mem_of_getElem? (i := 28) (by decide +kernel), List.mem_of_getElem? (i := 459) (by decide +kernel), List.mem_of_getElem? (i := 460) (by decide +kernel)⟩
theorem lw_p13 : lw_okq (⟨"HeapEnds$Tape", "readBuyer", "(LHeapEnds$Market;)V"⟩, 8) := ⟨⟨by decide +kernel, by decide +kernel⟩, List.mem_of_getElem? (i := 28) (by decide +kernel), List.mem_of_getElem? (i := 464) (by decide +kernel), List.mem_of_getElem? (i := 465) (by decide +kernel)⟩
theorem lw_p14 : lw_okq (⟨"HeapEnds$Tape", "readWare", "(LHeapEnds$Market;)V"⟩, 8) := ⟨⟨by decide +kernel, by decide +kernel⟩, List.mem_of_getElem? (i := 28) (by decide +kernel), List.mem_of_getElem? (i := 473) (by decide +kernel), List.mem_of_getElem? (i := 474) (by decide +kernel)⟩
theorem lw_p15 : lw_okq (⟨"HeapEnds$Tape", "readSort", "()I"⟩, 8) := ⟨⟨by decide +kernel, by decide +kernel⟩, List.mem_of_getElem? (i := 28) (by decide +kernel), List.mem_of_getElem? (i := 477) (by decide +kernel), List.mem_of_getElem? (i := 478) (by decide +kernel)⟩
def lw_privs_1 : List (MethodName × Nat) := [(⟨"HeapEnds", "isNoRow", "(I)Z"⟩, 12), (⟨"HeapEnds", "found", "(I)I"⟩, 12), (⟨"HeapEnds", "unfound", "(I)I"⟩, 12), (⟨"HeapEnds", "findingOf", "(III)I"⟩, 12), (⟨"HeapEnds$Row", "cutToLane", "(I)I"⟩, 4), (⟨"HeapEnds$Tape", "step", "()V"⟩, 8), (⟨"HeapEnds$Tape", "stepName", "()V"⟩, 8), (⟨"HeapEnds$Tape", "stepNumber", "()V"⟩, 8), (⟨"HeapEnds$Tape", "readLaw", "(LHeapEnds$Market;)V"⟩, 8), (⟨"HeapEnds$Tape", "isWord", "(Ljava/lang/String;)Z"⟩, 8), (⟨"HeapEnds$Tape", "fail", "(I)V"⟩, 8), (⟨"HeapEnds$Tape", "readNumber", "(I)I"⟩, 8), (⟨"HeapEnds$Tape", "readSign", "()V"⟩, 8), (⟨"HeapEnds$Tape", "readBuyer", "(LHeapEnds$Market;)V"⟩, 8), (⟨"HeapEnds$Tape", "readWare", "(LHeapEnds$Market;)V"⟩, 8), (⟨"HeapEnds$Tape", "readSort", "()I"⟩, 8)]
theorem lw_r1 : ∀ q ∈ lw_privs_1, lw_okq q := List.forall_mem_cons.mpr ⟨lw_p0, List.forall_mem_cons.mpr ⟨lw_p1, List.forall_mem_cons.mpr ⟨lw_p2, List.forall_mem_cons.mpr ⟨lw_p3, List.forall_mem_cons.mpr ⟨lw_p4, List.forall_mem_cons.mpr ⟨lw_p5, List.forall_mem_cons.mpr ⟨lw_p6, List.forall_mem_cons.mpr ⟨lw_p7, List.forall_mem_cons.mpr ⟨lw_p8, List.forall_mem_cons.mpr ⟨lw_p9, List.forall_mem_cons.mpr ⟨lw_p10, List.forall_mem_cons.mpr ⟨lw_p11, List.forall_mem_cons.mpr ⟨lw_p12, List.forall_mem_cons.mpr ⟨lw_p13, List.forall_mem_cons.mpr ⟨lw_p14, List.forall_mem_cons.mpr ⟨lw_p15, fun _ h => absurd h List.not_mem_nil⟩⟩⟩⟩⟩⟩⟩⟩⟩⟩⟩⟩⟩⟩⟩⟩
theorem lw_p16 : lw_okq (⟨"HeapEnds$Market", "putAt", "(II)V"⟩, 15) := ⟨⟨by decide +kernel, by decide +kernel⟩, List.mem_of_getElem? (i := 63) (by decide +kernel), List.mem_of_getElem? (i := 494) (by decide +kernel), List.mem_of_getElem? (i := 495) (by decide +kernel)⟩
theorem lw_p17 : lw_okq (⟨"HeapEnds", "isNoBuyer", "(I)Z"⟩, 12) := ⟨⟨by decide +kernel, by decide +kernel⟩, List.mem_of_getElem? (i := 18) (by decide +kernel), List.mem_of_getElem? (i := 517) (by decide +kernel), List.mem_of_getElem? (i := 518) (by decide +kernel)⟩
theorem lw_p18 : lw_okq (⟨"HeapEnds", "isNoEnd", "(I)Z"⟩, 12) := ⟨⟨by decide +kernel, by decide +kernel⟩, List.mem_of_getElem? (i := 18) (by decide +kernel), List.mem_of_getElem? (i := 521) (by decide +kernel), List.mem_of_getElem? (i := 522) (by decide +kernel)⟩
theorem lw_p19 : lw_okq (⟨"HeapEnds$Market", "removeAt", "(I)V"⟩, 15) := ⟨⟨by decide +kernel, by decide +kernel⟩, List.mem_of_getElem? (i := 63) (by decide +kernel), List.mem_of_getElem? (i := 562) (by decide +kernel), List.mem_of_getElem? (i := 563) (by decide +kernel)⟩
theorem lw_p20 : lw_okq (⟨"HeapEnds", "isNoWare", "(I)Z"⟩, 12) := ⟨⟨by decide +kernel, by decide +kernel⟩, List.mem_of_getElem? (i := 18) (by decide +kernel), List.mem_of_getElem? (i := 604) (by decide +kernel), List.mem_of_getElem? (i := 605) (by decide +kernel)⟩
theorem lw_p21 : lw_okq (⟨"HeapEnds", "areNoTwo", "(II)Z"⟩, 12) := ⟨⟨by decide +kernel, by decide +kernel⟩, List.mem_of_getElem? (i := 18) (by decide +kernel), List.mem_of_getElem? (i := 625) (by decide +kernel), List.mem_of_getElem? (i := 626) (by decide +kernel)⟩
theorem lw_p22 : lw_okq (⟨"HeapEnds$Duel", "clearGains", "([I[I)V"⟩, 14) := ⟨⟨by decide +kernel, by decide +kernel⟩, List.mem_of_getElem? (i := 163) (by decide +kernel), List.mem_of_getElem? (i := 643) (by decide +kernel), List.mem_of_getElem? (i := 644) (by decide +kernel)⟩
theorem lw_p23 : lw_okq (⟨"HeapEnds$Duel", "isTurnOfA", "(I)Z"⟩, 14) := ⟨⟨by decide +kernel, by decide +kernel⟩, List.mem_of_getElem? (i := 163) (by decide +kernel), List.mem_of_getElem? (i := 647) (by decide +kernel), List.mem_of_getElem? (i := 648) (by decide +kernel)⟩
theorem lw_p24 : lw_okq (⟨"HeapEnds$Duel", "takeEnd", "([I[IIIZ)I"⟩, 14) := ⟨⟨by decide +kernel, by decide +kernel⟩, List.mem_of_getElem? (i := 163) (by decide +kernel), List.mem_of_getElem? (i := 651) (by decide +kernel), List.mem_of_getElem? (i := 652) (by decide +kernel)⟩
theorem lw_p25 : lw_okq (⟨"HeapEnds$Duel", "sortHeap", "()V"⟩, 14) := ⟨⟨by decide +kernel, by decide +kernel⟩, List.mem_of_getElem? (i := 163) (by decide +kernel), List.mem_of_getElem? (i := 680) (by decide +kernel), List.mem_of_getElem? (i := 681) (by decide +kernel)⟩
theorem lw_p26 : lw_okq (⟨"HeapEnds$Duel", "swap", "(II)V"⟩, 14) := ⟨⟨by decide +kernel, by decide +kernel⟩, List.mem_of_getElem? (i := 163) (by decide +kernel), List.mem_of_getElem? (i := 684) (by decide +kernel), List.mem_of_getElem? (i := 685) (by decide +kernel)⟩
theorem lw_p27 : lw_okq (⟨"HeapEnds$Duel", "goToNextOrder", "()Z"⟩, 14) := ⟨⟨by decide +kernel, by decide +kernel⟩, List.mem_of_getElem? (i := 163) (by decide +kernel), List.mem_of_getElem? (i := 691) (by decide +kernel), List.mem_of_getElem? (i := 692) (by decide +kernel)⟩
theorem lw_p28 : lw_okq (⟨"HeapEnds$Seer", "isLeft", "(LHeapEnds$Market;IIII)Z"⟩, 4) := ⟨⟨by decide +kernel, by decide +kernel⟩, List.mem_of_getElem? (i := 215) (by decide +kernel), List.mem_of_getElem? (i := 771) (by decide +kernel), List.mem_of_getElem? (i := 772) (by decide +kernel)⟩
theorem lw_p29 : lw_okq (⟨"HeapEnds$Seer", "isRight", "(LHeapEnds$Market;IIII)Z"⟩, 4) := ⟨⟨by decide +kernel, by decide +kernel⟩, List.mem_of_getElem? (i := 215) (by decide +kernel), List.mem_of_getElem? (i := 775) (by decide +kernel), List.mem_of_getElem? (i := 776) (by decide +kernel)⟩
theorem lw_p30 : lw_okq (⟨"HeapEnds$Seer", "bitsOf", "(LHeapEnds$Market;II)I"⟩, 4) := ⟨⟨by decide +kernel, by decide +kernel⟩, List.mem_of_getElem? (i := 215) (by decide +kernel), List.mem_of_getElem? (i := 787) (by decide +kernel), List.mem_of_getElem? (i := 788) (by decide +kernel)⟩
theorem lw_p31 : lw_okq (⟨"HeapEnds$Seer", "addUp", "(LHeapEnds$Market;I)V"⟩, 4) := ⟨⟨by decide +kernel, by decide +kernel⟩, List.mem_of_getElem? (i := 215) (by decide +kernel), List.mem_of_getElem? (i := 799) (by decide +kernel), List.mem_of_getElem? (i := 800) (by decide +kernel)⟩
def lw_privs_2 : List (MethodName × Nat) := [(⟨"HeapEnds$Market", "putAt", "(II)V"⟩, 15), (⟨"HeapEnds", "isNoBuyer", "(I)Z"⟩, 12), (⟨"HeapEnds", "isNoEnd", "(I)Z"⟩, 12), (⟨"HeapEnds$Market", "removeAt", "(I)V"⟩, 15), (⟨"HeapEnds", "isNoWare", "(I)Z"⟩, 12), (⟨"HeapEnds", "areNoTwo", "(II)Z"⟩, 12), (⟨"HeapEnds$Duel", "clearGains", "([I[I)V"⟩, 14), (⟨"HeapEnds$Duel", "isTurnOfA", "(I)Z"⟩, 14), (⟨"HeapEnds$Duel", "takeEnd", "([I[IIIZ)I"⟩, 14), (⟨"HeapEnds$Duel", "sortHeap", "()V"⟩, 14), (⟨"HeapEnds$Duel", "swap", "(II)V"⟩, 14), (⟨"HeapEnds$Duel", "goToNextOrder", "()Z"⟩, 14), (⟨"HeapEnds$Seer", "isLeft", "(LHeapEnds$Market;IIII)Z"⟩, 4), (⟨"HeapEnds$Seer", "isRight", "(LHeapEnds$Market;IIII)Z"⟩, 4), (⟨"HeapEnds$Seer", "bitsOf", "(LHeapEnds$Market;II)I"⟩, 4), (⟨"HeapEnds$Seer", "addUp", "(LHeapEnds$Market;I)V"⟩, 4)]
theorem lw_r2 : ∀ q ∈ lw_privs_2, lw_okq q := List.forall_mem_cons.mpr ⟨lw_p16, List.forall_mem_cons.mpr ⟨lw_p17, List.forall_mem_cons.mpr ⟨lw_p18, List.forall_mem_cons.mpr ⟨lw_p19, List.forall_mem_cons.mpr ⟨lw_p20, List.forall_mem_cons.mpr ⟨lw_p21, List.forall_mem_cons.mpr ⟨lw_p22, List.forall_mem_cons.mpr ⟨lw_p23, List.forall_mem_cons.mpr ⟨lw_p24, List.forall_mem_cons.mpr ⟨lw_p25, List.forall_mem_cons.mpr ⟨lw_p26, List.forall_mem_cons.mpr ⟨lw_p27, List.forall_mem_cons.mpr ⟨lw_p28, List.forall_mem_cons.mpr ⟨lw_p29, List.forall_mem_cons.mpr ⟨lw_p30, List.forall_mem_cons.mpr ⟨lw_p31, fun _ h => absurd h List.not_mem_nil⟩⟩⟩⟩⟩⟩⟩⟩⟩⟩⟩⟩⟩⟩⟩⟩
theorem lw_p32 : lw_okq (⟨"HeapEnds$Seer", "mostOfStall", "(III)I"⟩, 4) := ⟨⟨by decide +kernel, by decide +kernel⟩, List.mem_of_getElem? (i := 215) (by decide +kernel), List.mem_of_getElem? (i := 803) (by decide +kernel), List.mem_of_getElem? (i := 804) (by decide +kernel)⟩
theorem lw_p33 : lw_okq (⟨"HeapEnds", "sizeOfFruit", "(I)I"⟩, 12) := ⟨⟨by decide +kernel, by decide +kernel⟩, List.mem_of_getElem? (i := 18) (by decide +kernel), List.mem_of_getElem? (i := 828) (by decide +kernel), List.mem_of_getElem? (i := 829) (by decide +kernel)⟩
theorem lw_p34 : lw_okq (⟨"HeapEnds", "leave", "(I)V"⟩, 12) := ⟨⟨by decide +kernel, by decide +kernel⟩, List.mem_of_getElem? (i := 18) (by decide +kernel), List.mem_of_getElem? (i := 832) (by decide +kernel), List.mem_of_getElem? (i := 833) (by decide +kernel)⟩
theorem lw_p35 : lw_okq (⟨"HeapEnds", "sizeLent", "(I)I"⟩, 12) := ⟨⟨by decide +kernel, by decide +kernel⟩, List.mem_of_getElem? (i := 18) (by decide +kernel), List.mem_of_getElem? (i := 836) (by decide +kernel), List.mem_of_getElem? (i := 837) (by decide +kernel)⟩
theorem lw_p36 : lw_okq (⟨"HeapEnds", "markOfFruit", "(I)I"⟩, 12) := ⟨⟨by decide +kernel, by decide +kernel⟩, List.mem_of_getElem? (i := 18) (by decide +kernel), List.mem_of_getElem? (i := 840) (by decide +kernel), List.mem_of_getElem? (i := 841) (by decide +kernel)⟩
theorem lw_p37 : lw_okq (⟨"HeapEnds", "markLent", "(I)I"⟩, 12) := ⟨⟨by decide +kernel, by decide +kernel⟩, List.mem_of_getElem? (i := 18) (by decide +kernel), List.mem_of_getElem? (i := 844) (by decide +kernel), List.mem_of_getElem? (i := 845) (by decide +kernel)⟩
theorem lw_p38 : lw_okq (⟨"HeapEnds", "sizeOfCloth", "(I)I"⟩, 12) := ⟨⟨by decide +kernel, by decide +kernel⟩, List.mem_of_getElem? (i := 18) (by decide +kernel), List.mem_of_getElem? (i := 848) (by decide +kernel), List.mem_of_getElem? (i := 849) (by decide +kernel)⟩
theorem lw_p39 : lw_okq (⟨"HeapEnds", "markOfCloth", "(I)I"⟩, 12) := ⟨⟨by decide +kernel, by decide +kernel⟩, List.mem_of_getElem? (i := 18) (by decide +kernel), List.mem_of_getElem? (i := 852) (by decide +kernel), List.mem_of_getElem? (i := 853) (by decide +kernel)⟩
theorem lw_p40 : lw_okq (⟨"HeapEnds", "rowsThere", "()I"⟩, 12) := ⟨⟨by decide +kernel, by decide +kernel⟩, List.mem_of_getElem? (i := 18) (by decide +kernel), List.mem_of_getElem? (i := 864) (by decide +kernel), List.mem_of_getElem? (i := 865) (by decide +kernel)⟩
theorem lw_p41 : lw_okq (⟨"HeapEndsModel", "finds", "(I)I"⟩, 30) := ⟨⟨by decide +kernel, by decide +kernel⟩, List.mem_of_getElem? (i := 872) (by decide +kernel), List.mem_of_getElem? (i := 981) (by decide +kernel), List.mem_of_getElem? (i := 982) (by decide +kernel)⟩
theorem lw_p42 : lw_okq (⟨"HeapEndsModel", "did", "(I)I"⟩, 30) := ⟨⟨by decide +kernel, by decide +kernel⟩, List.mem_of_getElem? (i := 872) (by decide +kernel), List.mem_of_getElem? (i := 986) (by decide +kernel), List.mem_of_getElem? (i := 987) (by decide +kernel)⟩
theorem lw_p43 : lw_okq (⟨"HeapEndsModel", "isNull", "(I)Z"⟩, 30) := ⟨⟨by decide +kernel, by decide +kernel⟩, List.mem_of_getElem? (i := 872) (by decide +kernel), List.mem_of_getElem? (i := 994) (by decide +kernel), List.mem_of_getElem? (i := 995) (by decide +kernel)⟩
theorem lw_p44 : lw_okq (⟨"HeapEndsModel", "isRead", "()Z"⟩, 30) := ⟨⟨by decide +kernel, by decide +kernel⟩, List.mem_of_getElem? (i := 872) (by decide +kernel), List.mem_of_getElem? (i := 1016) (by decide +kernel), List.mem_of_getElem? (i := 1017) (by decide +kernel)⟩
theorem lw_p45 : lw_okq (⟨"HeapEndsModel", "nextToken", "()V"⟩, 30) := ⟨⟨by decide +kernel, by decide +kernel⟩, List.mem_of_getElem? (i := 872) (by decide +kernel), List.mem_of_getElem? (i := 1020) (by decide +kernel), List.mem_of_getElem? (i := 1021) (by decide +kernel)⟩
theorem lw_p46 : lw_okq (⟨"HeapEndsModel", "fails", "(I)Z"⟩, 30) := ⟨⟨by decide +kernel, by decide +kernel⟩, List.mem_of_getElem? (i := 872) (by decide +kernel), List.mem_of_getElem? (i := 1031) (by decide +kernel), List.mem_of_getElem? (i := 1032) (by decide +kernel)⟩
theorem lw_p47 : lw_okq (⟨"HeapEndsModel", "isNext", "(II)Z"⟩, 30) := ⟨⟨by decide +kernel, by decide +kernel⟩, List.mem_of_getElem? (i := 872) (by decide +kernel), List.mem_of_getElem? (i := 1035) (by decide +kernel), List.mem_of_getElem? (i := 1036) (by decide +kernel)⟩
def lw_privs_3 : List (MethodName × Nat) := [(⟨"HeapEnds$Seer", "mostOfStall", "(III)I"⟩, 4), (⟨"HeapEnds", "sizeOfFruit", "(I)I"⟩, 12), (⟨"HeapEnds", "leave", "(I)V"⟩, 12), (⟨"HeapEnds", "sizeLent", "(I)I"⟩, 12), (⟨"HeapEnds", "markOfFruit", "(I)I"⟩, 12), (⟨"HeapEnds", "markLent", "(I)I"⟩, 12), (⟨"HeapEnds", "sizeOfCloth", "(I)I"⟩, 12), (⟨"HeapEnds", "markOfCloth", "(I)I"⟩, 12), (⟨"HeapEnds", "rowsThere", "()I"⟩, 12), (⟨"HeapEndsModel", "finds", "(I)I"⟩, 30), (⟨"HeapEndsModel", "did", "(I)I"⟩, 30), (⟨"HeapEndsModel", "isNull", "(I)Z"⟩, 30), (⟨"HeapEndsModel", "isRead", "()Z"⟩, 30), (⟨"HeapEndsModel", "nextToken", "()V"⟩, 30), (⟨"HeapEndsModel", "fails", "(I)Z"⟩, 30), (⟨"HeapEndsModel", "isNext", "(II)Z"⟩, 30)]
theorem lw_r3 : ∀ q ∈ lw_privs_3, lw_okq q := List.forall_mem_cons.mpr ⟨lw_p32, List.forall_mem_cons.mpr ⟨lw_p33, List.forall_mem_cons.mpr ⟨lw_p34, List.forall_mem_cons.mpr ⟨lw_p35, List.forall_mem_cons.mpr ⟨lw_p36, List.forall_mem_cons.mpr ⟨lw_p37, List.forall_mem_cons.mpr ⟨lw_p38, List.forall_mem_cons.mpr ⟨lw_p39, List.forall_mem_cons.mpr ⟨lw_p40, List.forall_mem_cons.mpr ⟨lw_p41, List.forall_mem_cons.mpr ⟨lw_p42, List.forall_mem_cons.mpr ⟨lw_p43, List.forall_mem_cons.mpr ⟨lw_p44, List.forall_mem_cons.mpr ⟨lw_p45, List.forall_mem_cons.mpr ⟨lw_p46, List.forall_mem_cons.mpr ⟨lw_p47, fun _ h => absurd h List.not_mem_nil⟩⟩⟩⟩⟩⟩⟩⟩⟩⟩⟩⟩⟩⟩⟩⟩
theorem lw_p48 : lw_okq (⟨"HeapEndsModel", "ends", "()Z"⟩, 30) := ⟨⟨by decide +kernel, by decide +kernel⟩, List.mem_of_getElem? (i := 872) (by decide +kernel), List.mem_of_getElem? (i := 1039) (by decide +kernel), List.mem_of_getElem? (i := 1040) (by decide +kernel)⟩
theorem lw_p49 : lw_okq (⟨"HeapEndsModel", "isBuyer", "()Z"⟩, 30) := ⟨⟨by decide +kernel, by decide +kernel⟩, List.mem_of_getElem? (i := 872) (by decide +kernel), List.mem_of_getElem? (i := 1044) (by decide +kernel), List.mem_of_getElem? (i := 1045) (by decide +kernel)⟩
theorem lw_p50 : lw_okq (⟨"HeapEndsModel", "isWare", "()Z"⟩, 30) := ⟨⟨by decide +kernel, by decide +kernel⟩, List.mem_of_getElem? (i := 872) (by decide +kernel), List.mem_of_getElem? (i := 1049) (by decide +kernel), List.mem_of_getElem? (i := 1050) (by decide +kernel)⟩
theorem lw_p51 : lw_okq (⟨"HeapEndsModel", "isBuyerAt", "(I)Z"⟩, 30) := ⟨⟨by decide +kernel, by decide +kernel⟩, List.mem_of_getElem? (i := 872) (by decide +kernel), List.mem_of_getElem? (i := 1068) (by decide +kernel), List.mem_of_getElem? (i := 1069) (by decide +kernel)⟩
theorem lw_p52 : lw_okq (⟨"HeapEndsModel", "heap", "(I)I"⟩, 30) := ⟨⟨by decide +kernel, by decide +kernel⟩, List.mem_of_getElem? (i := 872) (by decide +kernel), List.mem_of_getElem? (i := 1073) (by decide +kernel), List.mem_of_getElem? (i := 1074) (by decide +kernel)⟩
theorem lw_p53 : lw_okq (⟨"HeapEndsModel", "valueOf", "(II)I"⟩, 30) := ⟨⟨by decide +kernel, by decide +kernel⟩, List.mem_of_getElem? (i := 872) (by decide +kernel), List.mem_of_getElem? (i := 1077) (by decide +kernel), List.mem_of_getElem? (i := 1078) (by decide +kernel)⟩
theorem lw_p54 : lw_okq (⟨"HeapEndsModel", "kindOf", "(I)I"⟩, 30) := ⟨⟨by decide +kernel, by decide +kernel⟩, List.mem_of_getElem? (i := 872) (by decide +kernel), List.mem_of_getElem? (i := 1081) (by decide +kernel), List.mem_of_getElem? (i := 1082) (by decide +kernel)⟩
theorem lw_p55 : lw_okq (⟨"HeapEndsModel", "worthOf", "(III)I"⟩, 30) := ⟨⟨by decide +kernel, by decide +kernel⟩, List.mem_of_getElem? (i := 872) (by decide +kernel), List.mem_of_getElem? (i := 1085) (by decide +kernel), List.mem_of_getElem? (i := 1086) (by decide +kernel)⟩
theorem lw_p56 : lw_okq (⟨"HeapEndsModel", "takeAt", "(I)I"⟩, 30) := ⟨⟨by decide +kernel, by decide +kernel⟩, List.mem_of_getElem? (i := 872) (by decide +kernel), List.mem_of_getElem? (i := 1092) (by decide +kernel), List.mem_of_getElem? (i := 1093) (by decide +kernel)⟩
theorem lw_p57 : lw_okq (⟨"HeapEndsModel", "noteAct", "(IIIII)V"⟩, 30) := ⟨⟨by decide +kernel, by decide +kernel⟩, List.mem_of_getElem? (i := 872) (by decide +kernel), List.mem_of_getElem? (i := 1096) (by decide +kernel), List.mem_of_getElem? (i := 1097) (by decide +kernel)⟩
theorem lw_p58 : lw_okq (⟨"HeapEndsModel", "putAt", "(II)V"⟩, 30) := ⟨⟨by decide +kernel, by decide +kernel⟩, List.mem_of_getElem? (i := 872) (by decide +kernel), List.mem_of_getElem? (i := 1104) (by decide +kernel), List.mem_of_getElem? (i := 1105) (by decide +kernel)⟩
theorem lw_p59 : lw_okq (⟨"HeapEndsModel", "rotten", "(I)I"⟩, 30) := ⟨⟨by decide +kernel, by decide +kernel⟩, List.mem_of_getElem? (i := 872) (by decide +kernel), List.mem_of_getElem? (i := 1112) (by decide +kernel), List.mem_of_getElem? (i := 1113) (by decide +kernel)⟩
theorem lw_p60 : lw_okq (⟨"HeapEndsModel", "grow", "(I)V"⟩, 30) := ⟨⟨by decide +kernel, by decide +kernel⟩, List.mem_of_getElem? (i := 872) (by decide +kernel), List.mem_of_getElem? (i := 1116) (by decide +kernel), List.mem_of_getElem? (i := 1117) (by decide +kernel)⟩
theorem lw_p61 : lw_okq (⟨"HeapEndsModel", "isWareAt", "(I)Z"⟩, 30) := ⟨⟨by decide +kernel, by decide +kernel⟩, List.mem_of_getElem? (i := 872) (by decide +kernel), List.mem_of_getElem? (i := 1128) (by decide +kernel), List.mem_of_getElem? (i := 1129) (by decide +kernel)⟩
theorem lw_p62 : lw_okq (⟨"HeapEndsModel", "placeOf", "(I)I"⟩, 30) := ⟨⟨by decide +kernel, by decide +kernel⟩, List.mem_of_getElem? (i := 872) (by decide +kernel), List.mem_of_getElem? (i := 1132) (by decide +kernel), List.mem_of_getElem? (i := 1133) (by decide +kernel)⟩
theorem lw_p63 : lw_okq (⟨"HeapEndsModel", "areUnlike", "(II)Z"⟩, 30) := ⟨⟨by decide +kernel, by decide +kernel⟩, List.mem_of_getElem? (i := 872) (by decide +kernel), List.mem_of_getElem? (i := 1148) (by decide +kernel), List.mem_of_getElem? (i := 1149) (by decide +kernel)⟩
def lw_privs_4 : List (MethodName × Nat) := [(⟨"HeapEndsModel", "ends", "()Z"⟩, 30), (⟨"HeapEndsModel", "isBuyer", "()Z"⟩, 30), (⟨"HeapEndsModel", "isWare", "()Z"⟩, 30), (⟨"HeapEndsModel", "isBuyerAt", "(I)Z"⟩, 30), (⟨"HeapEndsModel", "heap", "(I)I"⟩, 30), (⟨"HeapEndsModel", "valueOf", "(II)I"⟩, 30), (⟨"HeapEndsModel", "kindOf", "(I)I"⟩, 30), (⟨"HeapEndsModel", "worthOf", "(III)I"⟩, 30), (⟨"HeapEndsModel", "takeAt", "(I)I"⟩, 30), (⟨"HeapEndsModel", "noteAct", "(IIIII)V"⟩, 30), (⟨"HeapEndsModel", "putAt", "(II)V"⟩, 30), (⟨"HeapEndsModel", "rotten", "(I)I"⟩, 30), (⟨"HeapEndsModel", "grow", "(I)V"⟩, 30), (⟨"HeapEndsModel", "isWareAt", "(I)Z"⟩, 30), (⟨"HeapEndsModel", "placeOf", "(I)I"⟩, 30), (⟨"HeapEndsModel", "areUnlike", "(II)Z"⟩, 30)]
theorem lw_r4 : ∀ q ∈ lw_privs_4, lw_okq q := List.forall_mem_cons.mpr ⟨lw_p48, List.forall_mem_cons.mpr ⟨lw_p49, List.forall_mem_cons.mpr ⟨lw_p50, List.forall_mem_cons.mpr ⟨lw_p51, List.forall_mem_cons.mpr ⟨lw_p52, List.forall_mem_cons.mpr ⟨lw_p53, List.forall_mem_cons.mpr ⟨lw_p54, List.forall_mem_cons.mpr ⟨lw_p55, List.forall_mem_cons.mpr ⟨lw_p56, List.forall_mem_cons.mpr ⟨lw_p57, List.forall_mem_cons.mpr ⟨lw_p58, List.forall_mem_cons.mpr ⟨lw_p59, List.forall_mem_cons.mpr ⟨lw_p60, List.forall_mem_cons.mpr ⟨lw_p61, List.forall_mem_cons.mpr ⟨lw_p62, List.forall_mem_cons.mpr ⟨lw_p63, fun _ h => absurd h List.not_mem_nil⟩⟩⟩⟩⟩⟩⟩⟩⟩⟩⟩⟩⟩⟩⟩⟩
theorem lw_p64 : lw_okq (⟨"HeapEndsModel", "layHeap", "()V"⟩, 30) := ⟨⟨by decide +kernel, by decide +kernel⟩, List.mem_of_getElem? (i := 872) (by decide +kernel), List.mem_of_getElem? (i := 1152) (by decide +kernel), List.mem_of_getElem? (i := 1153) (by decide +kernel)⟩
theorem lw_p65 : lw_okq (⟨"HeapEndsModel", "layBest", "(IIII)V"⟩, 30) := ⟨⟨by decide +kernel, by decide +kernel⟩, List.mem_of_getElem? (i := 872) (by decide +kernel), List.mem_of_getElem? (i := 1156) (by decide +kernel), List.mem_of_getElem? (i := 1157) (by decide +kernel)⟩
theorem lw_p66 : lw_okq (⟨"HeapEndsModel", "turnOf", "(I)I"⟩, 30) := ⟨⟨by decide +kernel, by decide +kernel⟩, List.mem_of_getElem? (i := 872) (by decide +kernel), List.mem_of_getElem? (i := 1160) (by decide +kernel), List.mem_of_getElem? (i := 1161) (by decide +kernel)⟩
theorem lw_p67 : lw_okq (⟨"HeapEndsModel", "mostLaid", "(III)I"⟩, 30) := ⟨⟨by decide +kernel, by decide +kernel⟩, List.mem_of_getElem? (i := 872) (by decide +kernel), List.mem_of_getElem? (i := 1172) (by decide +kernel), List.mem_of_getElem? (i := 1173) (by decide +kernel)⟩
theorem lw_p68 : lw_okq (⟨"HeapEndsModel", "whyNot", "(III)I"⟩, 30) := ⟨⟨by decide +kernel, by decide +kernel⟩, List.mem_of_getElem? (i := 872) (by decide +kernel), List.mem_of_getElem? (i := 1184) (by decide +kernel), List.mem_of_getElem? (i := 1185) (by decide +kernel)⟩
theorem lw_p69 : lw_okq (⟨"HeapEndsModel", "mostOf", "(IIII)I"⟩, 30) := ⟨⟨by decide +kernel, by decide +kernel⟩, List.mem_of_getElem? (i := 872) (by decide +kernel), List.mem_of_getElem? (i := 1215) (by decide +kernel), List.mem_of_getElem? (i := 1216) (by decide +kernel)⟩
theorem lw_p70 : lw_okq (⟨"HeapEndsModel", "sizeOf", "(I)I"⟩, 30) := ⟨⟨by decide +kernel, by decide +kernel⟩, List.mem_of_getElem? (i := 872) (by decide +kernel), List.mem_of_getElem? (i := 1239) (by decide +kernel), List.mem_of_getElem? (i := 1240) (by decide +kernel)⟩
theorem lw_p71 : lw_okq (⟨"HeapEndsModel", "sizeBy", "(II)I"⟩, 30) := ⟨⟨by decide +kernel, by decide +kernel⟩, List.mem_of_getElem? (i := 872) (by decide +kernel), List.mem_of_getElem? (i := 1243) (by decide +kernel), List.mem_of_getElem? (i := 1244) (by decide +kernel)⟩
theorem lw_p72 : lw_okq (⟨"HeapEndsModel", "leave", "(I)V"⟩, 30) := ⟨⟨by decide +kernel, by decide +kernel⟩, List.mem_of_getElem? (i := 872) (by decide +kernel), List.mem_of_getElem? (i := 1247) (by decide +kernel), List.mem_of_getElem? (i := 1248) (by decide +kernel)⟩
theorem lw_p73 : lw_okq (⟨"HeapEndsModel", "fruitMark", "(I)I"⟩, 30) := ⟨⟨by decide +kernel, by decide +kernel⟩, List.mem_of_getElem? (i := 872) (by decide +kernel), List.mem_of_getElem? (i := 1251) (by decide +kernel), List.mem_of_getElem? (i := 1252) (by decide +kernel)⟩
def lw_privs_5 : List (MethodName × Nat) := [(⟨"HeapEndsModel", "layHeap", "()V"⟩, 30), (⟨"HeapEndsModel", "layBest", "(IIII)V"⟩, 30), (⟨"HeapEndsModel", "turnOf", "(I)I"⟩, 30), (⟨"HeapEndsModel", "mostLaid", "(III)I"⟩, 30), (⟨"HeapEndsModel", "whyNot", "(III)I"⟩, 30), (⟨"HeapEndsModel", "mostOf", "(IIII)I"⟩, 30), (⟨"HeapEndsModel", "sizeOf", "(I)I"⟩, 30), (⟨"HeapEndsModel", "sizeBy", "(II)I"⟩, 30), (⟨"HeapEndsModel", "leave", "(I)V"⟩, 30), (⟨"HeapEndsModel", "fruitMark", "(I)I"⟩, 30)]
theorem lw_r5 : ∀ q ∈ lw_privs_5, lw_okq q := List.forall_mem_cons.mpr ⟨lw_p64, List.forall_mem_cons.mpr ⟨lw_p65, List.forall_mem_cons.mpr ⟨lw_p66, List.forall_mem_cons.mpr ⟨lw_p67, List.forall_mem_cons.mpr ⟨lw_p68, List.forall_mem_cons.mpr ⟨lw_p69, List.forall_mem_cons.mpr ⟨lw_p70, List.forall_mem_cons.mpr ⟨lw_p71, List.forall_mem_cons.mpr ⟨lw_p72, List.forall_mem_cons.mpr ⟨lw_p73, fun _ h => absurd h List.not_mem_nil⟩⟩⟩⟩⟩⟩⟩⟩⟩⟩
def lw_privs : List (MethodName × Nat) := lw_privs_1 ++ (lw_privs_2 ++ (lw_privs_3 ++ (lw_privs_4 ++ (lw_privs_5))))
def lw_tbl : List Cond := k2_sels lw_privs ++ tables_1
theorem lw_privs_ok : ∀ q ∈ lw_privs, lw_okq q := by
  show ∀ q ∈ lw_privs_1 ++ (lw_privs_2 ++ (lw_privs_3 ++ (lw_privs_4 ++ (lw_privs_5)))), lw_okq q
  exact List.forall_mem_append.mpr ⟨lw_r1, List.forall_mem_append.mpr ⟨lw_r2, List.forall_mem_append.mpr ⟨lw_r3, List.forall_mem_append.mpr ⟨lw_r4, lw_r5⟩⟩⟩⟩
def RX0 : String := "HeapEnds$Acts"
def TX0 : u_T := fun k => match k with
  | 0 => ("HeapEnds$Acts", "deeds", "[I", true)
  | 1 => ("HeapEnds$Acts", "ends", "[I", true)
  | 2 => ("HeapEnds$Acts", "wares", "[I", true)
  | 3 => ("HeapEnds$Acts", "kept", "I", false)
  | _ => ("HeapEnds$Acts", "next", "I", false)
def tyX0 : Nat → FieldType := fun k => match k with
  | 0 => .array .int
  | 1 => .array .int
  | 2 => .array .int
  | 3 => .int
  | _ => .int
abbrev wsX00 : List Cond := u_ws RX0 TX0 5
theorem nmX0 : ∀ a, a < 5 → ∀ b, b < 5 → a ≠ b → (TX0 a).2.1 ≠ (TX0 b).2.1 := by decide +kernel
theorem tyX0_ok : ∀ k, k < 5 → parseFieldDescriptor (TX0 k).2.2.1 = some (tyX0 k) := by decide +kernel
abbrev cX0_init : ByteArray := prog_2_method_1_code
def yX0_init : MethodName := ⟨RX0, "<init>", "()V"⟩
abbrev cX0_keep : ByteArray := prog_2_method_2_code
def yX0_keep : MethodName := ⟨RX0, "keep", "(III)V"⟩
abbrev cX0_takeBack : ByteArray := prog_2_method_3_code
def yX0_takeBack : MethodName := ⟨RX0, "takeBack", "()I"⟩
abbrev cX0_forget : ByteArray := prog_2_method_4_code
def yX0_forget : MethodName := ⟨RX0, "forget", "()V"⟩
def RX1 : String := "HeapEnds$Duel"
def TX1 : u_T := fun k => match k with
  | 0 => ("HeapEnds$Duel", "laid", "[I", true)
  | 1 => ("HeapEnds$Duel", "cut", "I", false)
  | 2 => ("HeapEnds$Duel", "firstEnd", "I", false)
  | 3 => ("HeapEnds$Duel", "turn", "I", false)
  | 4 => ("HeapEnds$Duel", "lying", "I", false)
  | 5 => ("HeapEnds$Duel", "heap", "[I", true)
  | 6 => ("HeapEnds$Duel", "toA", "[I", true)
  | 7 => ("HeapEnds$Duel", "toB", "[I", true)
  | 8 => ("HeapEnds$Duel", "rowToA", "[I", true)
  | 9 => ("HeapEnds$Duel", "rowToB", "[I", true)
  | 10 => ("HeapEnds$Duel", "gainA", "[I", true)
  | 11 => ("HeapEnds$Duel", "gainB", "[I", true)
  | 12 => ("HeapEnds$Duel", "passedA", "[I", true)
  | _ => ("HeapEnds$Duel", "passedB", "[I", true)
def tyX1 : Nat → FieldType := fun k => match k with
  | 0 => .array .int
  | 1 => .int
  | 2 => .int
  | 3 => .int
  | 4 => .int
  | 5 => .array .int
  | 6 => .array .int
  | 7 => .array .int
  | 8 => .array .int
  | 9 => .array .int
  | 10 => .array .int
  | 11 => .array .int
  | 12 => .array .int
  | _ => .array .int
abbrev wsX10 : List Cond := u_ws RX1 TX1 14
theorem nmX1 : ∀ a, a < 14 → ∀ b, b < 14 → a ≠ b → (TX1 a).2.1 ≠ (TX1 b).2.1 := by decide +kernel
theorem tyX1_ok : ∀ k, k < 14 → parseFieldDescriptor (TX1 k).2.2.1 = some (tyX1 k) := by decide +kernel
abbrev cX1_init : ByteArray := prog_3_method_1_code
def yX1_init : MethodName := ⟨RX1, "<init>", "()V"⟩
abbrev cX1_seat : ByteArray := prog_3_method_2_code
def yX1_seat : MethodName := ⟨RX1, "seat", "(LHeapEnds$Market;II)V"⟩
abbrev cX1_lineUpFrom : ByteArray := prog_3_method_3_code
def yX1_lineUpFrom : MethodName := ⟨RX1, "lineUpFrom", "(I)V"⟩
abbrev cX1_gainOfA : ByteArray := prog_3_method_4_code
def yX1_gainOfA : MethodName := ⟨RX1, "gainOfA", "()I"⟩
abbrev cX1_gainOfB : ByteArray := prog_3_method_5_code
def yX1_gainOfB : MethodName := ⟨RX1, "gainOfB", "()I"⟩
abbrev cX1_play : ByteArray := prog_3_method_6_code
def yX1_play : MethodName := ⟨RX1, "play", "()V"⟩
abbrev cX1_playWithPass : ByteArray := prog_3_method_7_code
def yX1_playWithPass : MethodName := ⟨RX1, "playWithPass", "()V"⟩
abbrev cX1_findLaid : ByteArray := prog_3_method_8_code
def yX1_findLaid : MethodName := ⟨RX1, "findLaid", "()I"⟩
abbrev cX1_findCut : ByteArray := prog_3_method_9_code
def yX1_findCut : MethodName := ⟨RX1, "findCut", "()I"⟩
abbrev cX1_clearGains : ByteArray := prog_3_method_10_code
def yX1_clearGains : MethodName := ⟨RX1, "clearGains", "([I[I)V"⟩
abbrev cX1_isTurnOfA : ByteArray := prog_3_method_11_code
def yX1_isTurnOfA : MethodName := ⟨RX1, "isTurnOfA", "(I)Z"⟩
abbrev cX1_takeEnd : ByteArray := prog_3_method_12_code
def yX1_takeEnd : MethodName := ⟨RX1, "takeEnd", "([I[IIIZ)I"⟩
abbrev cX1_sortHeap : ByteArray := prog_3_method_13_code
def yX1_sortHeap : MethodName := ⟨RX1, "sortHeap", "()V"⟩
abbrev cX1_goToNextOrder : ByteArray := prog_3_method_14_code
def yX1_goToNextOrder : MethodName := ⟨RX1, "goToNextOrder", "()Z"⟩
abbrev cX1_swap : ByteArray := prog_3_method_15_code
def yX1_swap : MethodName := ⟨RX1, "swap", "(II)V"⟩
def RX2 : String := "HeapEnds$Market"
def TX2 : u_T := fun k => match k with
  | 0 => ("HeapEnds$Market", "stands", "Z", false)
  | 1 => ("HeapEnds$Market", "turn", "I", false)
  | 2 => ("HeapEnds$Market", "day", "I", false)
  | 3 => ("HeapEnds$Market", "buyers", "I", false)
  | 4 => ("HeapEnds$Market", "wares", "I", false)
  | 5 => ("HeapEnds$Market", "lying", "I", false)
  | 6 => ("HeapEnds$Market", "taste", "[I", true)
  | 7 => ("HeapEnds$Market", "purse", "[I", true)
  | 8 => ("HeapEnds$Market", "gained", "[I", true)
  | 9 => ("HeapEnds$Market", "bought", "[I", true)
  | 10 => ("HeapEnds$Market", "kind", "[I", true)
  | 11 => ("HeapEnds$Market", "worth", "[I", true)
  | 12 => ("HeapEnds$Market", "age", "[I", true)
  | 13 => ("HeapEnds$Market", "taker", "[I", true)
  | _ => ("HeapEnds$Market", "heap", "[I", true)
def tyX2 : Nat → FieldType := fun k => match k with
  | 0 => .boolean
  | 1 => .int
  | 2 => .int
  | 3 => .int
  | 4 => .int
  | 5 => .int
  | 6 => .array .int
  | 7 => .array .int
  | 8 => .array .int
  | 9 => .array .int
  | 10 => .array .int
  | 11 => .array .int
  | 12 => .array .int
  | 13 => .array .int
  | _ => .array .int
abbrev wsX20 : List Cond := u_ws RX2 TX2 15
theorem nmX2 : ∀ a, a < 15 → ∀ b, b < 15 → a ≠ b → (TX2 a).2.1 ≠ (TX2 b).2.1 := by decide +kernel
theorem tyX2_ok : ∀ k, k < 15 → parseFieldDescriptor (TX2 k).2.2.1 = some (tyX2 k) := by decide +kernel
abbrev cX2_init : ByteArray := prog_4_method_1_code
def yX2_init : MethodName := ⟨RX2, "<init>", "()V"⟩
abbrev cX2_clear : ByteArray := prog_4_method_2_code
def yX2_clear : MethodName := ⟨RX2, "clear", "()V"⟩
abbrev cX2_become : ByteArray := prog_4_method_3_code
def yX2_become : MethodName := ⟨RX2, "become", "(LHeapEnds$Market;)V"⟩
abbrev cX2_addBuyer : ByteArray := prog_4_method_4_code
def yX2_addBuyer : MethodName := ⟨RX2, "addBuyer", "(II)V"⟩
abbrev cX2_addWare : ByteArray := prog_4_method_5_code
def yX2_addWare : MethodName := ⟨RX2, "addWare", "(IIII)I"⟩
abbrev cX2_removeNewest : ByteArray := prog_4_method_6_code
def yX2_removeNewest : MethodName := ⟨RX2, "removeNewest", "(I)V"⟩
abbrev cX2_sell : ByteArray := prog_4_method_7_code
def yX2_sell : MethodName := ⟨RX2, "sell", "(II)I"⟩
abbrev cX2_unsell : ByteArray := prog_4_method_8_code
def yX2_unsell : MethodName := ⟨RX2, "unsell", "(II)V"⟩
abbrev cX2_passDays : ByteArray := prog_4_method_9_code
def yX2_passDays : MethodName := ⟨RX2, "passDays", "(I)V"⟩
abbrev cX2_wareAt : ByteArray := prog_4_method_10_code
def yX2_wareAt : MethodName := ⟨RX2, "wareAt", "(I)I"⟩
abbrev cX2_placeOf : ByteArray := prog_4_method_11_code
def yX2_placeOf : MethodName := ⟨RX2, "placeOf", "(I)I"⟩
abbrev cX2_bitsAtEnds : ByteArray := prog_4_method_12_code
def yX2_bitsAtEnds : MethodName := ⟨RX2, "bitsAtEnds", "()I"⟩
abbrev cX2_rottenIn : ByteArray := prog_4_method_13_code
def yX2_rottenIn : MethodName := ⟨RX2, "rottenIn", "(I)I"⟩
abbrev cX2_valueIn : ByteArray := prog_4_method_14_code
def yX2_valueIn : MethodName := ⟨RX2, "valueIn", "(II)I"⟩
abbrev cX2_valueTo : ByteArray := prog_4_method_15_code
def yX2_valueTo : MethodName := ⟨RX2, "valueTo", "(III)I"⟩
abbrev cX2_ripened : ByteArray := prog_4_method_16_code
def yX2_ripened : MethodName := ⟨RX2, "ripened", "(III)I"⟩
abbrev cX2_putAt : ByteArray := prog_4_method_17_code
def yX2_putAt : MethodName := ⟨RX2, "putAt", "(II)V"⟩
abbrev cX2_removeAt : ByteArray := prog_4_method_18_code
def yX2_removeAt : MethodName := ⟨RX2, "removeAt", "(I)V"⟩
def RX3 : String := "HeapEnds$Row"
def TX3 : u_T := fun k => match k with
  | 0 => ("HeapEnds$Row", "items", "[I", true)
  | 1 => ("HeapEnds$Row", "there", "Z", false)
  | 2 => ("HeapEnds$Row", "lane", "I", false)
  | _ => ("HeapEnds$Row", "size", "I", false)
def tyX3 : Nat → FieldType := fun k => match k with
  | 0 => .array .int
  | 1 => .boolean
  | 2 => .int
  | _ => .int
abbrev wsX30 : List Cond := u_ws RX3 TX3 4
theorem nmX3 : ∀ a, a < 4 → ∀ b, b < 4 → a ≠ b → (TX3 a).2.1 ≠ (TX3 b).2.1 := by decide +kernel
theorem tyX3_ok : ∀ k, k < 4 → parseFieldDescriptor (TX3 k).2.2.1 = some (tyX3 k) := by decide +kernel
abbrev cX3_init : ByteArray := prog_5_method_1_code
def yX3_init : MethodName := ⟨RX3, "<init>", "()V"⟩
abbrev cX3_begin : ByteArray := prog_5_method_2_code
def yX3_begin : MethodName := ⟨RX3, "begin", "(II)V"⟩
abbrev cX3_put : ByteArray := prog_5_method_3_code
def yX3_put : MethodName := ⟨RX3, "put", "(II)I"⟩
abbrev cX3_cutToLane : ByteArray := prog_5_method_4_code
def yX3_cutToLane : MethodName := ⟨RX3, "cutToLane", "(I)I"⟩
abbrev cX3_reaches : ByteArray := prog_5_method_5_code
def yX3_reaches : MethodName := ⟨RX3, "reaches", "(II)Z"⟩
abbrev cX3_isBelow : ByteArray := prog_5_method_6_code
def yX3_isBelow : MethodName := ⟨RX3, "isBelow", "(III)Z"⟩
def RX4 : String := "HeapEnds$Seer"
def TX4 : u_T := fun k => match k with
  | 0 => ("HeapEnds$Seer", "most", "[I", true)
  | 1 => ("HeapEnds$Seer", "ends", "[I", true)
  | 2 => ("HeapEnds$Seer", "ways", "[I", true)
  | _ => ("HeapEnds$Seer", "sums", "[I", true)
def tyX4 : Nat → FieldType := fun k => match k with
  | 0 => .array .int
  | 1 => .array .int
  | 2 => .array .int
  | _ => .array .int
abbrev wsX40 : List Cond := u_ws RX4 TX4 4
theorem nmX4 : ∀ a, a < 4 → ∀ b, b < 4 → a ≠ b → (TX4 a).2.1 ≠ (TX4 b).2.1 := by decide +kernel
theorem tyX4_ok : ∀ k, k < 4 → parseFieldDescriptor (TX4 k).2.2.1 = some (tyX4 k) := by decide +kernel
abbrev cX4_init : ByteArray := prog_6_method_1_code
def yX4_init : MethodName := ⟨RX4, "<init>", "()V"⟩
abbrev cX4_behindLine : ByteArray := prog_6_method_2_code
def yX4_behindLine : MethodName := ⟨RX4, "behindLine", "(LHeapEnds$Market;LHeapEnds$Row;III)I"⟩
abbrev cX4_fewestTill : ByteArray := prog_6_method_3_code
def yX4_fewestTill : MethodName := ⟨RX4, "fewestTill", "(LHeapEnds$Market;I)I"⟩
abbrev cX4_leastAhead : ByteArray := prog_6_method_4_code
def yX4_leastAhead : MethodName := ⟨RX4, "leastAhead", "(LHeapEnds$Market;I)I"⟩
abbrev cX4_harvestFor : ByteArray := prog_6_method_5_code
def yX4_harvestFor : MethodName := ⟨RX4, "harvestFor", "(LHeapEnds$Market;I)V"⟩
abbrev cX4_firstWrong : ByteArray := prog_6_method_6_code
def yX4_firstWrong : MethodName := ⟨RX4, "firstWrong", "(LHeapEnds$Market;LHeapEnds$Row;II)I"⟩
abbrev cX4_hear : ByteArray := prog_6_method_7_code
def yX4_hear : MethodName := ⟨RX4, "hear", "(LHeapEnds$Market;ILHeapEnds$Row;II)V"⟩
abbrev cX4_isLeft : ByteArray := prog_6_method_8_code
def yX4_isLeft : MethodName := ⟨RX4, "isLeft", "(LHeapEnds$Market;IIII)Z"⟩
abbrev cX4_isRight : ByteArray := prog_6_method_9_code
def yX4_isRight : MethodName := ⟨RX4, "isRight", "(LHeapEnds$Market;IIII)Z"⟩
abbrev cX4_waysOf : ByteArray := prog_6_method_10_code
def yX4_waysOf : MethodName := ⟨RX4, "waysOf", "(I)I"⟩
abbrev cX4_surelyTaken : ByteArray := prog_6_method_11_code
def yX4_surelyTaken : MethodName := ⟨RX4, "surelyTaken", "(LHeapEnds$Market;I)I"⟩
abbrev cX4_bitsOf : ByteArray := prog_6_method_12_code
def yX4_bitsOf : MethodName := ⟨RX4, "bitsOf", "(LHeapEnds$Market;II)I"⟩
abbrev cX4_mostApart : ByteArray := prog_6_method_13_code
def yX4_mostApart : MethodName := ⟨RX4, "mostApart", "(LHeapEnds$Market;III)I"⟩
abbrev cX4_addUp : ByteArray := prog_6_method_14_code
def yX4_addUp : MethodName := ⟨RX4, "addUp", "(LHeapEnds$Market;I)V"⟩
abbrev cX4_mostOfStall : ByteArray := prog_6_method_15_code
def yX4_mostOfStall : MethodName := ⟨RX4, "mostOfStall", "(III)I"⟩
def RX5 : String := "HeapEnds$Tape"
def TX5 : u_T := fun k => match k with
  | 0 => ("HeapEnds$Tape", "length", "I", false)
  | 1 => ("HeapEnds$Tape", "fault", "I", false)
  | 2 => ("HeapEnds$Tape", "faultAt", "I", false)
  | 3 => ("HeapEnds$Tape", "bytes", "[I", true)
  | 4 => ("HeapEnds$Tape", "start", "I", false)
  | 5 => ("HeapEnds$Tape", "end", "I", false)
  | 6 => ("HeapEnds$Tape", "token", "I", false)
  | _ => ("HeapEnds$Tape", "value", "I", false)
def tyX5 : Nat → FieldType := fun k => match k with
  | 0 => .int
  | 1 => .int
  | 2 => .int
  | 3 => .array .int
  | 4 => .int
  | 5 => .int
  | 6 => .int
  | _ => .int
abbrev wsX50 : List Cond := u_ws RX5 TX5 8
theorem nmX5 : ∀ a, a < 8 → ∀ b, b < 8 → a ≠ b → (TX5 a).2.1 ≠ (TX5 b).2.1 := by decide +kernel
theorem tyX5_ok : ∀ k, k < 8 → parseFieldDescriptor (TX5 k).2.2.1 = some (tyX5 k) := by decide +kernel
abbrev cX5_init : ByteArray := prog_7_method_1_code
def yX5_init : MethodName := ⟨RX5, "<init>", "()V"⟩
abbrev cX5_append : ByteArray := prog_7_method_2_code
def yX5_append : MethodName := ⟨RX5, "append", "(I)V"⟩
abbrev cX5_readInto : ByteArray := prog_7_method_3_code
def yX5_readInto : MethodName := ⟨RX5, "readInto", "(LHeapEnds$Market;)Z"⟩
abbrev cX5_readLaw : ByteArray := prog_7_method_4_code
def yX5_readLaw : MethodName := ⟨RX5, "readLaw", "(LHeapEnds$Market;)V"⟩
abbrev cX5_readBuyer : ByteArray := prog_7_method_5_code
def yX5_readBuyer : MethodName := ⟨RX5, "readBuyer", "(LHeapEnds$Market;)V"⟩
abbrev cX5_readWare : ByteArray := prog_7_method_6_code
def yX5_readWare : MethodName := ⟨RX5, "readWare", "(LHeapEnds$Market;)V"⟩
abbrev cX5_readSort : ByteArray := prog_7_method_7_code
def yX5_readSort : MethodName := ⟨RX5, "readSort", "()I"⟩
abbrev cX5_wordOf : ByteArray := prog_7_method_8_code
def yX5_wordOf : MethodName := ⟨RX5, "wordOf", "(I)Ljava/lang/String;"⟩
abbrev cX5_readNumber : ByteArray := prog_7_method_9_code
def yX5_readNumber : MethodName := ⟨RX5, "readNumber", "(I)I"⟩
abbrev cX5_readSign : ByteArray := prog_7_method_10_code
def yX5_readSign : MethodName := ⟨RX5, "readSign", "()V"⟩
abbrev cX5_fail : ByteArray := prog_7_method_11_code
def yX5_fail : MethodName := ⟨RX5, "fail", "(I)V"⟩
abbrev cX5_isWord : ByteArray := prog_7_method_12_code
def yX5_isWord : MethodName := ⟨RX5, "isWord", "(Ljava/lang/String;)Z"⟩
abbrev cX5_step : ByteArray := prog_7_method_13_code
def yX5_step : MethodName := ⟨RX5, "step", "()V"⟩
abbrev cX5_stepName : ByteArray := prog_7_method_14_code
def yX5_stepName : MethodName := ⟨RX5, "stepName", "()V"⟩
abbrev cX5_stepNumber : ByteArray := prog_7_method_15_code
def yX5_stepNumber : MethodName := ⟨RX5, "stepNumber", "()V"⟩
abbrev cX5_isBlank : ByteArray := prog_7_method_16_code
def yX5_isBlank : MethodName := ⟨RX5, "isBlank", "(I)Z"⟩
abbrev cX5_isLetter : ByteArray := prog_7_method_17_code
def yX5_isLetter : MethodName := ⟨RX5, "isLetter", "(I)Z"⟩
abbrev cX5_isFigure : ByteArray := prog_7_method_18_code
def yX5_isFigure : MethodName := ⟨RX5, "isFigure", "(I)Z"⟩
def RX6 : String := "HeapEnds"
def TX6 : u_T := fun k => match k with
  | 0 => ("HeapEnds", "rows", "[LHeapEnds$Row;", true)
  | 1 => ("HeapEnds", "tape", "LHeapEnds$Tape;", true)
  | 2 => ("HeapEnds", "now", "LHeapEnds$Market;", true)
  | 3 => ("HeapEnds", "draft", "LHeapEnds$Market;", true)
  | 4 => ("HeapEnds", "images", "[LHeapEnds$Market;", true)
  | 5 => ("HeapEnds", "acts", "LHeapEnds$Acts;", true)
  | 6 => ("HeapEnds", "duel", "LHeapEnds$Duel;", true)
  | 7 => ("HeapEnds", "seer", "LHeapEnds$Seer;", true)
  | 8 => ("HeapEnds", "bodies", "[I", true)
  | 9 => ("HeapEnds", "begun", "I", false)
  | 10 => ("HeapEnds", "latestFault", "I", false)
  | _ => ("HeapEnds", "latestFinding", "I", false)
def tyX6 : Nat → FieldType := fun k => match k with
  | 0 => .array (.object "HeapEnds$Row")
  | 1 => .object "HeapEnds$Tape"
  | 2 => .object "HeapEnds$Market"
  | 3 => .object "HeapEnds$Market"
  | 4 => .array (.object "HeapEnds$Market")
  | 5 => .object "HeapEnds$Acts"
  | 6 => .object "HeapEnds$Duel"
  | 7 => .object "HeapEnds$Seer"
  | 8 => .array .int
  | 9 => .int
  | 10 => .int
  | _ => .int
abbrev wsX60 : List Cond := u_ws RX6 TX6 12
theorem nmX6 : ∀ a, a < 12 → ∀ b, b < 12 → a ≠ b → (TX6 a).2.1 ≠ (TX6 b).2.1 := by decide +kernel
theorem tyX6_ok : ∀ k, k < 12 → parseFieldDescriptor (TX6 k).2.2.1 = some (tyX6 k) := by decide +kernel
abbrev cX6_init : ByteArray := prog_1_method_1_code
def yX6_init : MethodName := ⟨RX6, "<init>", "()V"⟩
abbrev cX6_row : ByteArray := prog_1_method_2_code
def yX6_row : MethodName := ⟨RX6, "row", "(III)I"⟩
abbrev cX6_set : ByteArray := prog_1_method_3_code
def yX6_set : MethodName := ⟨RX6, "set", "(III)I"⟩
abbrev cX6_copy : ByteArray := prog_1_method_4_code
def yX6_copy : MethodName := ⟨RX6, "copy", "(IIIII)I"⟩
abbrev cX6_drop : ByteArray := prog_1_method_5_code
def yX6_drop : MethodName := ⟨RX6, "drop", "(I)I"⟩
abbrev cX6_feed : ByteArray := prog_1_method_6_code
def yX6_feed : MethodName := ⟨RX6, "feed", "(JI)I"⟩
abbrev cX6_market : ByteArray := prog_1_method_7_code
def yX6_market : MethodName := ⟨RX6, "market", "()I"⟩
abbrev cX6_fault : ByteArray := prog_1_method_8_code
def yX6_fault : MethodName := ⟨RX6, "fault", "()I"⟩
abbrev cX6_take : ByteArray := prog_1_method_9_code
def yX6_take : MethodName := ⟨RX6, "take", "(II)I"⟩
abbrev cX6_lay : ByteArray := prog_1_method_10_code
def yX6_lay : MethodName := ⟨RX6, "lay", "(III)I"⟩
abbrev cX6_day : ByteArray := prog_1_method_11_code
def yX6_day : MethodName := ⟨RX6, "day", "()I"⟩
abbrev cX6_undo : ByteArray := prog_1_method_12_code
def yX6_undo : MethodName := ⟨RX6, "undo", "()I"⟩
abbrev cX6_ware : ByteArray := prog_1_method_13_code
def yX6_ware : MethodName := ⟨RX6, "ware", "(II)I"⟩
abbrev cX6_buyer : ByteArray := prog_1_method_14_code
def yX6_buyer : MethodName := ⟨RX6, "buyer", "(II)I"⟩
abbrev cX6_worth : ByteArray := prog_1_method_15_code
def yX6_worth : MethodName := ⟨RX6, "worth", "(II)I"⟩
abbrev cX6_best : ByteArray := prog_1_method_16_code
def yX6_best : MethodName := ⟨RX6, "best", "(III)I"⟩
abbrev cX6_passBy : ByteArray := prog_1_method_17_code
def yX6_passBy : MethodName := ⟨RX6, "passBy", "(II)I"⟩
abbrev cX6_laid : ByteArray := prog_1_method_18_code
def yX6_laid : MethodName := ⟨RX6, "laid", "(III)I"⟩
abbrev cX6_ring : ByteArray := prog_1_method_19_code
def yX6_ring : MethodName := ⟨RX6, "ring", "(III)I"⟩
abbrev cX6_line : ByteArray := prog_1_method_20_code
def yX6_line : MethodName := ⟨RX6, "line", "(IIII)I"⟩
abbrev cX6_rots : ByteArray := prog_1_method_21_code
def yX6_rots : MethodName := ⟨RX6, "rots", "(II)I"⟩
abbrev cX6_reach : ByteArray := prog_1_method_22_code
def yX6_reach : MethodName := ⟨RX6, "reach", "(II)I"⟩
abbrev cX6_harvest : ByteArray := prog_1_method_23_code
def yX6_harvest : MethodName := ⟨RX6, "harvest", "(II)I"⟩
abbrev cX6_judge : ByteArray := prog_1_method_24_code
def yX6_judge : MethodName := ⟨RX6, "judge", "(III)I"⟩
abbrev cX6_heard : ByteArray := prog_1_method_25_code
def yX6_heard : MethodName := ⟨RX6, "heard", "(IIIII)I"⟩
abbrev cX6_apart : ByteArray := prog_1_method_26_code
def yX6_apart : MethodName := ⟨RX6, "apart", "(III)I"⟩
abbrev cX6_image : ByteArray := prog_1_method_27_code
def yX6_image : MethodName := ⟨RX6, "image", "(I)I"⟩
abbrev cX6_restore : ByteArray := prog_1_method_28_code
def yX6_restore : MethodName := ⟨RX6, "restore", "(I)I"⟩
abbrev cX6_kind : ByteArray := prog_1_method_29_code
def yX6_kind : MethodName := ⟨RX6, "kind", "(I)I"⟩
abbrev cX6_as : ByteArray := prog_1_method_30_code
def yX6_as : MethodName := ⟨RX6, "as", "(II)I"⟩
abbrev cX6_ask : ByteArray := prog_1_method_31_code
def yX6_ask : MethodName := ⟨RX6, "ask", "(II)I"⟩
abbrev cX6_trace : ByteArray := prog_1_method_32_code
def yX6_trace : MethodName := ⟨RX6, "trace", "(I)I"⟩
abbrev cX6_count : ByteArray := prog_1_method_33_code
def yX6_count : MethodName := ⟨RX6, "count", "(I)I"⟩
abbrev cX6_status : ByteArray := prog_1_method_34_code
def yX6_status : MethodName := ⟨RX6, "status", "()I"⟩
abbrev cX6_found : ByteArray := prog_1_method_35_code
def yX6_found : MethodName := ⟨RX6, "found", "(I)I"⟩
abbrev cX6_unfound : ByteArray := prog_1_method_36_code
def yX6_unfound : MethodName := ⟨RX6, "unfound", "(I)I"⟩
abbrev cX6_findingOf : ByteArray := prog_1_method_37_code
def yX6_findingOf : MethodName := ⟨RX6, "findingOf", "(III)I"⟩
abbrev cX6_rowsThere : ByteArray := prog_1_method_38_code
def yX6_rowsThere : MethodName := ⟨RX6, "rowsThere", "()I"⟩
abbrev cX6_isNoRow : ByteArray := prog_1_method_39_code
def yX6_isNoRow : MethodName := ⟨RX6, "isNoRow", "(I)Z"⟩
abbrev cX6_isNoBuyer : ByteArray := prog_1_method_40_code
def yX6_isNoBuyer : MethodName := ⟨RX6, "isNoBuyer", "(I)Z"⟩
abbrev cX6_areNoTwo : ByteArray := prog_1_method_41_code
def yX6_areNoTwo : MethodName := ⟨RX6, "areNoTwo", "(II)Z"⟩
abbrev cX6_isNoWare : ByteArray := prog_1_method_42_code
def yX6_isNoWare : MethodName := ⟨RX6, "isNoWare", "(I)Z"⟩
abbrev cX6_isNoEnd : ByteArray := prog_1_method_43_code
def yX6_isNoEnd : MethodName := ⟨RX6, "isNoEnd", "(I)Z"⟩
abbrev cX6_isSuch : ByteArray := prog_1_method_44_code
def yX6_isSuch : MethodName := ⟨RX6, "isSuch", "(II)Z"⟩
abbrev cX6_leave : ByteArray := prog_1_method_45_code
def yX6_leave : MethodName := ⟨RX6, "leave", "(I)V"⟩
abbrev cX6_sizeLent : ByteArray := prog_1_method_46_code
def yX6_sizeLent : MethodName := ⟨RX6, "sizeLent", "(I)I"⟩
abbrev cX6_sizeOfFruit : ByteArray := prog_1_method_47_code
def yX6_sizeOfFruit : MethodName := ⟨RX6, "sizeOfFruit", "(I)I"⟩
abbrev cX6_sizeOfCloth : ByteArray := prog_1_method_48_code
def yX6_sizeOfCloth : MethodName := ⟨RX6, "sizeOfCloth", "(I)I"⟩
abbrev cX6_markLent : ByteArray := prog_1_method_49_code
def yX6_markLent : MethodName := ⟨RX6, "markLent", "(I)I"⟩
abbrev cX6_markOfFruit : ByteArray := prog_1_method_50_code
def yX6_markOfFruit : MethodName := ⟨RX6, "markOfFruit", "(I)I"⟩
abbrev cX6_markOfCloth : ByteArray := prog_1_method_51_code
def yX6_markOfCloth : MethodName := ⟨RX6, "markOfCloth", "(I)I"⟩
def RX7 : String := "HeapEndsModel"
def TX7 : u_T := fun k => match k with
  | 0 => ("HeapEndsModel", "lane", "[I", true)
  | 1 => ("HeapEndsModel", "items", "[I", true)
  | 2 => ("HeapEndsModel", "cell", "[I", true)
  | 3 => ("HeapEndsModel", "status", "I", false)
  | 4 => ("HeapEndsModel", "bytes", "I", false)
  | 5 => ("HeapEndsModel", "tape", "[I", true)
  | 6 => ("HeapEndsModel", "position", "I", false)
  | 7 => ("HeapEndsModel", "tokenAt", "I", false)
  | 8 => ("HeapEndsModel", "token", "J", false)
  | 9 => ("HeapEndsModel", "digits", "I", false)
  | 10 => ("HeapEndsModel", "number", "I", false)
  | 11 => ("HeapEndsModel", "faultIs", "I", false)
  | 12 => ("HeapEndsModel", "readTurn", "I", false)
  | 13 => ("HeapEndsModel", "readBuyers", "I", false)
  | 14 => ("HeapEndsModel", "readWares", "I", false)
  | 15 => ("HeapEndsModel", "readBuyer", "[I", true)
  | 16 => ("HeapEndsModel", "readWare", "[I", true)
  | 17 => ("HeapEndsModel", "now", "[I", true)
  | 18 => ("HeapEndsModel", "image", "[I", true)
  | 19 => ("HeapEndsModel", "isKept", "[Z", true)
  | 20 => ("HeapEndsModel", "acts", "I", false)
  | 21 => ("HeapEndsModel", "act", "[I", true)
  | 22 => ("HeapEndsModel", "traces", "I", false)
  | 23 => ("HeapEndsModel", "trace", "[I", true)
  | 24 => ("HeapEndsModel", "line", "[I", true)
  | 25 => ("HeapEndsModel", "gainA", "[I", true)
  | 26 => ("HeapEndsModel", "gainB", "[I", true)
  | 27 => ("HeapEndsModel", "onceA", "[I", true)
  | 28 => ("HeapEndsModel", "onceB", "[I", true)
  | _ => ("HeapEndsModel", "row", "[I", true)
def tyX7 : Nat → FieldType := fun k => match k with
  | 0 => .array .int
  | 1 => .array .int
  | 2 => .array .int
  | 3 => .int
  | 4 => .int
  | 5 => .array .int
  | 6 => .int
  | 7 => .int
  | 8 => .long
  | 9 => .int
  | 10 => .int
  | 11 => .int
  | 12 => .int
  | 13 => .int
  | 14 => .int
  | 15 => .array .int
  | 16 => .array .int
  | 17 => .array .int
  | 18 => .array .int
  | 19 => .array .boolean
  | 20 => .int
  | 21 => .array .int
  | 22 => .int
  | 23 => .array .int
  | 24 => .array .int
  | 25 => .array .int
  | 26 => .array .int
  | 27 => .array .int
  | 28 => .array .int
  | _ => .array .int
abbrev wsX70 : List Cond := u_ws RX7 TX7 30
theorem nmX7 : ∀ a, a < 30 → ∀ b, b < 30 → a ≠ b → (TX7 a).2.1 ≠ (TX7 b).2.1 := by decide +kernel
theorem tyX7_ok : ∀ k, k < 30 → parseFieldDescriptor (TX7 k).2.2.1 = some (tyX7 k) := by decide +kernel
abbrev cX7_init : ByteArray := prog_9_method_1_code
def yX7_init : MethodName := ⟨RX7, "<init>", "()V"⟩
abbrev cX7_in : ByteArray := prog_9_method_2_code
def yX7_in : MethodName := ⟨RX7, "in", "(III)Z"⟩
abbrev cX7_finds : ByteArray := prog_9_method_3_code
def yX7_finds : MethodName := ⟨RX7, "finds", "(I)I"⟩
abbrev cX7_did : ByteArray := prog_9_method_4_code
def yX7_did : MethodName := ⟨RX7, "did", "(I)I"⟩
abbrev cX7_isRow : ByteArray := prog_9_method_5_code
def yX7_isRow : MethodName := ⟨RX7, "isRow", "(I)Z"⟩
abbrev cX7_isNull : ByteArray := prog_9_method_6_code
def yX7_isNull : MethodName := ⟨RX7, "isNull", "(I)Z"⟩
abbrev cX7_row : ByteArray := prog_9_method_7_code
def yX7_row : MethodName := ⟨RX7, "row", "(III)I"⟩
abbrev cX7_set : ByteArray := prog_9_method_8_code
def yX7_set : MethodName := ⟨RX7, "set", "(III)I"⟩
abbrev cX7_copy : ByteArray := prog_9_method_9_code
def yX7_copy : MethodName := ⟨RX7, "copy", "(IIIII)I"⟩
abbrev cX7_drop : ByteArray := prog_9_method_10_code
def yX7_drop : MethodName := ⟨RX7, "drop", "(I)I"⟩
abbrev cX7_whyNot : ByteArray := prog_9_method_11_code
def yX7_whyNot : MethodName := ⟨RX7, "whyNot", "(III)I"⟩
abbrev cX7_feed : ByteArray := prog_9_method_12_code
def yX7_feed : MethodName := ⟨RX7, "feed", "(JI)I"⟩
abbrev cX7_nextToken : ByteArray := prog_9_method_13_code
def yX7_nextToken : MethodName := ⟨RX7, "nextToken", "()V"⟩
abbrev cX7_fails : ByteArray := prog_9_method_14_code
def yX7_fails : MethodName := ⟨RX7, "fails", "(I)Z"⟩
abbrev cX7_isNext : ByteArray := prog_9_method_15_code
def yX7_isNext : MethodName := ⟨RX7, "isNext", "(II)Z"⟩
abbrev cX7_ends : ByteArray := prog_9_method_16_code
def yX7_ends : MethodName := ⟨RX7, "ends", "()Z"⟩
abbrev cX7_isBuyer : ByteArray := prog_9_method_17_code
def yX7_isBuyer : MethodName := ⟨RX7, "isBuyer", "()Z"⟩
abbrev cX7_isWare : ByteArray := prog_9_method_18_code
def yX7_isWare : MethodName := ⟨RX7, "isWare", "()Z"⟩
abbrev cX7_isRead : ByteArray := prog_9_method_19_code
def yX7_isRead : MethodName := ⟨RX7, "isRead", "()Z"⟩
abbrev cX7_market : ByteArray := prog_9_method_20_code
def yX7_market : MethodName := ⟨RX7, "market", "()I"⟩
abbrev cX7_fault : ByteArray := prog_9_method_21_code
def yX7_fault : MethodName := ⟨RX7, "fault", "()I"⟩
abbrev cX7_isWareAt : ByteArray := prog_9_method_22_code
def yX7_isWareAt : MethodName := ⟨RX7, "isWareAt", "(I)Z"⟩
abbrev cX7_isBuyerAt : ByteArray := prog_9_method_23_code
def yX7_isBuyerAt : MethodName := ⟨RX7, "isBuyerAt", "(I)Z"⟩
abbrev cX7_areUnlike : ByteArray := prog_9_method_24_code
def yX7_areUnlike : MethodName := ⟨RX7, "areUnlike", "(II)Z"⟩
abbrev cX7_kindOf : ByteArray := prog_9_method_25_code
def yX7_kindOf : MethodName := ⟨RX7, "kindOf", "(I)I"⟩
abbrev cX7_valueOf : ByteArray := prog_9_method_26_code
def yX7_valueOf : MethodName := ⟨RX7, "valueOf", "(II)I"⟩
abbrev cX7_isOf : ByteArray := prog_9_method_27_code
def yX7_isOf : MethodName := ⟨RX7, "isOf", "(II)Z"⟩
abbrev cX7_worthOf : ByteArray := prog_9_method_28_code
def yX7_worthOf : MethodName := ⟨RX7, "worthOf", "(III)I"⟩
abbrev cX7_heap : ByteArray := prog_9_method_29_code
def yX7_heap : MethodName := ⟨RX7, "heap", "(I)I"⟩
abbrev cX7_noteAct : ByteArray := prog_9_method_30_code
def yX7_noteAct : MethodName := ⟨RX7, "noteAct", "(IIIII)V"⟩
abbrev cX7_putAt : ByteArray := prog_9_method_31_code
def yX7_putAt : MethodName := ⟨RX7, "putAt", "(II)V"⟩
abbrev cX7_takeAt : ByteArray := prog_9_method_32_code
def yX7_takeAt : MethodName := ⟨RX7, "takeAt", "(I)I"⟩
abbrev cX7_take : ByteArray := prog_9_method_33_code
def yX7_take : MethodName := ⟨RX7, "take", "(II)I"⟩
abbrev cX7_lay : ByteArray := prog_9_method_34_code
def yX7_lay : MethodName := ⟨RX7, "lay", "(III)I"⟩
abbrev cX7_grow : ByteArray := prog_9_method_35_code
def yX7_grow : MethodName := ⟨RX7, "grow", "(I)V"⟩
abbrev cX7_rotten : ByteArray := prog_9_method_36_code
def yX7_rotten : MethodName := ⟨RX7, "rotten", "(I)I"⟩
abbrev cX7_day : ByteArray := prog_9_method_37_code
def yX7_day : MethodName := ⟨RX7, "day", "()I"⟩
abbrev cX7_undo : ByteArray := prog_9_method_38_code
def yX7_undo : MethodName := ⟨RX7, "undo", "()I"⟩
abbrev cX7_placeOf : ByteArray := prog_9_method_39_code
def yX7_placeOf : MethodName := ⟨RX7, "placeOf", "(I)I"⟩
abbrev cX7_ware : ByteArray := prog_9_method_40_code
def yX7_ware : MethodName := ⟨RX7, "ware", "(II)I"⟩
abbrev cX7_buyer : ByteArray := prog_9_method_41_code
def yX7_buyer : MethodName := ⟨RX7, "buyer", "(II)I"⟩
abbrev cX7_worth : ByteArray := prog_9_method_42_code
def yX7_worth : MethodName := ⟨RX7, "worth", "(II)I"⟩
abbrev cX7_turnOf : ByteArray := prog_9_method_43_code
def yX7_turnOf : MethodName := ⟨RX7, "turnOf", "(I)I"⟩
abbrev cX7_layBest : ByteArray := prog_9_method_44_code
def yX7_layBest : MethodName := ⟨RX7, "layBest", "(IIII)V"⟩
abbrev cX7_layHeap : ByteArray := prog_9_method_45_code
def yX7_layHeap : MethodName := ⟨RX7, "layHeap", "()V"⟩
abbrev cX7_best : ByteArray := prog_9_method_46_code
def yX7_best : MethodName := ⟨RX7, "best", "(III)I"⟩
abbrev cX7_passBy : ByteArray := prog_9_method_47_code
def yX7_passBy : MethodName := ⟨RX7, "passBy", "(II)I"⟩
abbrev cX7_mostLaid : ByteArray := prog_9_method_48_code
def yX7_mostLaid : MethodName := ⟨RX7, "mostLaid", "(III)I"⟩
abbrev cX7_laid : ByteArray := prog_9_method_49_code
def yX7_laid : MethodName := ⟨RX7, "laid", "(III)I"⟩
abbrev cX7_ring : ByteArray := prog_9_method_50_code
def yX7_ring : MethodName := ⟨RX7, "ring", "(III)I"⟩
abbrev cX7_line : ByteArray := prog_9_method_51_code
def yX7_line : MethodName := ⟨RX7, "line", "(IIII)I"⟩
abbrev cX7_bits : ByteArray := prog_9_method_52_code
def yX7_bits : MethodName := ⟨RX7, "bits", "(I)I"⟩
abbrev cX7_rots : ByteArray := prog_9_method_53_code
def yX7_rots : MethodName := ⟨RX7, "rots", "(II)I"⟩
abbrev cX7_reach : ByteArray := prog_9_method_54_code
def yX7_reach : MethodName := ⟨RX7, "reach", "(II)I"⟩
abbrev cX7_harvest : ByteArray := prog_9_method_55_code
def yX7_harvest : MethodName := ⟨RX7, "harvest", "(II)I"⟩
abbrev cX7_judge : ByteArray := prog_9_method_56_code
def yX7_judge : MethodName := ⟨RX7, "judge", "(III)I"⟩
abbrev cX7_heard : ByteArray := prog_9_method_57_code
def yX7_heard : MethodName := ⟨RX7, "heard", "(IIIII)I"⟩
abbrev cX7_mostOf : ByteArray := prog_9_method_58_code
def yX7_mostOf : MethodName := ⟨RX7, "mostOf", "(IIII)I"⟩
abbrev cX7_apart : ByteArray := prog_9_method_59_code
def yX7_apart : MethodName := ⟨RX7, "apart", "(III)I"⟩
abbrev cX7_image : ByteArray := prog_9_method_60_code
def yX7_image : MethodName := ⟨RX7, "image", "(I)I"⟩
abbrev cX7_restore : ByteArray := prog_9_method_61_code
def yX7_restore : MethodName := ⟨RX7, "restore", "(I)I"⟩
abbrev cX7_kind : ByteArray := prog_9_method_62_code
def yX7_kind : MethodName := ⟨RX7, "kind", "(I)I"⟩
abbrev cX7_as : ByteArray := prog_9_method_63_code
def yX7_as : MethodName := ⟨RX7, "as", "(II)I"⟩
abbrev cX7_leave : ByteArray := prog_9_method_64_code
def yX7_leave : MethodName := ⟨RX7, "leave", "(I)V"⟩
abbrev cX7_sizeBy : ByteArray := prog_9_method_65_code
def yX7_sizeBy : MethodName := ⟨RX7, "sizeBy", "(II)I"⟩
abbrev cX7_fruitMark : ByteArray := prog_9_method_66_code
def yX7_fruitMark : MethodName := ⟨RX7, "fruitMark", "(I)I"⟩
abbrev cX7_sizeOf : ByteArray := prog_9_method_67_code
def yX7_sizeOf : MethodName := ⟨RX7, "sizeOf", "(I)I"⟩
abbrev cX7_ask : ByteArray := prog_9_method_68_code
def yX7_ask : MethodName := ⟨RX7, "ask", "(II)I"⟩
abbrev cX7_trace : ByteArray := prog_9_method_69_code
def yX7_trace : MethodName := ⟨RX7, "trace", "(I)I"⟩
abbrev cX7_count : ByteArray := prog_9_method_70_code
def yX7_count : MethodName := ⟨RX7, "count", "(I)I"⟩
abbrev cX7_status : ByteArray := prog_9_method_71_code
def yX7_status : MethodName := ⟨RX7, "status", "()I"⟩
def RJx145de : String := "java/io/Serializable"
def TJx145de : u_T := fun k => match k with
  | _ => ("", "", "", false)
def tyJx145de : Nat → FieldType := fun k => match k with
  | _ => .int
abbrev wsJx145de0 : List Cond := u_ws RJx145de TJx145de 0
theorem nmJx145de : ∀ a, a < 0 → ∀ b, b < 0 → a ≠ b → (TJx145de a).2.1 ≠ (TJx145de b).2.1 := by decide +kernel
theorem tyJx145de_ok : ∀ k, k < 0 → parseFieldDescriptor (TJx145de k).2.2.1 = some (tyJx145de k) := by decide +kernel
def RJx9f9b0 : String := "java/lang/CharSequence"
def TJx9f9b0 : u_T := fun k => match k with
  | _ => ("", "", "", false)
def tyJx9f9b0 : Nat → FieldType := fun k => match k with
  | _ => .int
abbrev wsJx9f9b00 : List Cond := u_ws RJx9f9b0 TJx9f9b0 0
theorem nmJx9f9b0 : ∀ a, a < 0 → ∀ b, b < 0 → a ≠ b → (TJx9f9b0 a).2.1 ≠ (TJx9f9b0 b).2.1 := by decide +kernel
theorem tyJx9f9b0_ok : ∀ k, k < 0 → parseFieldDescriptor (TJx9f9b0 k).2.2.1 = some (tyJx9f9b0 k) := by decide +kernel
def RJxb160c : String := "java/lang/Comparable"
def TJxb160c : u_T := fun k => match k with
  | _ => ("", "", "", false)
def tyJxb160c : Nat → FieldType := fun k => match k with
  | _ => .int
abbrev wsJxb160c0 : List Cond := u_ws RJxb160c TJxb160c 0
theorem nmJxb160c : ∀ a, a < 0 → ∀ b, b < 0 → a ≠ b → (TJxb160c a).2.1 ≠ (TJxb160c b).2.1 := by decide +kernel
theorem tyJxb160c_ok : ∀ k, k < 0 → parseFieldDescriptor (TJxb160c k).2.2.1 = some (tyJxb160c k) := by decide +kernel
def RJ6 : String := "java/lang/Integer"
def TJ6 : u_T := fun k => match k with
  | _ => ("", "", "", false)
def tyJ6 : Nat → FieldType := fun k => match k with
  | _ => .int
abbrev wsJ60 : List Cond := u_ws RJ6 TJ6 0
theorem nmJ6 : ∀ a, a < 0 → ∀ b, b < 0 → a ≠ b → (TJ6 a).2.1 ≠ (TJ6 b).2.1 := by decide +kernel
theorem tyJ6_ok : ∀ k, k < 0 → parseFieldDescriptor (TJ6 k).2.2.1 = some (tyJ6 k) := by decide +kernel
abbrev cJ6_bitCount_0f7a4 : ByteArray := prog_10_method_49_code
def yJ6_bitCount_0f7a4 : MethodName := ⟨RJ6, "bitCount", "(I)I"⟩
def RJ9 : String := "java/lang/Math"
def TJ9 : u_T := fun k => match k with
  | _ => ("", "", "", false)
def tyJ9 : Nat → FieldType := fun k => match k with
  | _ => .int
abbrev wsJ90 : List Cond := u_ws RJ9 TJ9 0
theorem nmJ9 : ∀ a, a < 0 → ∀ b, b < 0 → a ≠ b → (TJ9 a).2.1 ≠ (TJ9 b).2.1 := by decide +kernel
theorem tyJ9_ok : ∀ k, k < 0 → parseFieldDescriptor (TJ9 k).2.2.1 = some (tyJ9 k) := by decide +kernel
abbrev cJ9_max_7cf53 : ByteArray := prog_11_method_65_code
def yJ9_max_7cf53 : MethodName := ⟨RJ9, "max", "(II)I"⟩
abbrev cJ9_min_7cf53 : ByteArray := prog_11_method_69_code
def yJ9_min_7cf53 : MethodName := ⟨RJ9, "min", "(II)I"⟩
def RJ0 : String := "java/lang/String"
def TJ0 : u_T := fun k => match k with
  | _ => ("", "", "", false)
def tyJ0 : Nat → FieldType := fun k => match k with
  | _ => .int
abbrev wsJ00 : List Cond := u_ws RJ0 TJ0 0
theorem nmJ0 : ∀ a, a < 0 → ∀ b, b < 0 → a ≠ b → (TJ0 a).2.1 ≠ (TJ0 b).2.1 := by decide +kernel
theorem tyJ0_ok : ∀ k, k < 0 → parseFieldDescriptor (TJ0 k).2.2.1 = some (tyJ0 k) := by decide +kernel
abbrev cJ0_length_8abf5 : ByteArray := prog_12_method_54_code
def yJ0_length_8abf5 : MethodName := ⟨RJ0, "length", "()I"⟩
abbrev cJ0_charAt_5068e : ByteArray := prog_12_method_56_code
def yJ0_charAt_5068e : MethodName := ⟨RJ0, "charAt", "(I)C"⟩
abbrev cJ0_coder_7d493 : ByteArray := prog_12_method_152_code
def yJ0_coder_7d493 : MethodName := ⟨RJ0, "coder", "()B"⟩
abbrev cJ0_isLatin1_aae02 : ByteArray := prog_12_method_154_code
def yJ0_isLatin1_aae02 : MethodName := ⟨RJ0, "isLatin1", "()Z"⟩
abbrev cJ0_checkIndex_df160 : ByteArray := prog_12_method_155_code
def yJ0_checkIndex_df160 : MethodName := ⟨RJ0, "checkIndex", "(II)V"⟩
def RJ1 : String := "java/lang/StringLatin1"
def TJ1 : u_T := fun k => match k with
  | _ => ("", "", "", false)
def tyJ1 : Nat → FieldType := fun k => match k with
  | _ => .int
abbrev wsJ10 : List Cond := u_ws RJ1 TJ1 0
theorem nmJ1 : ∀ a, a < 0 → ∀ b, b < 0 → a ≠ b → (TJ1 a).2.1 ≠ (TJ1 b).2.1 := by decide +kernel
theorem tyJ1_ok : ∀ k, k < 0 → parseFieldDescriptor (TJ1 k).2.2.1 = some (tyJ1 k) := by decide +kernel
abbrev cJ1_charAt_3b067 : ByteArray := prog_13_method_2_code
def yJ1_charAt_3b067 : MethodName := ⟨RJ1, "charAt", "([BI)C"⟩
def RJ2 : String := "java/lang/StringUTF16"
def TJ2 : u_T := fun k => match k with
  | _ => ("", "", "", false)
def tyJ2 : Nat → FieldType := fun k => match k with
  | _ => .int
abbrev wsJ20 : List Cond := u_ws RJ2 TJ2 0
theorem nmJ2 : ∀ a, a < 0 → ∀ b, b < 0 → a ≠ b → (TJ2 a).2.1 ≠ (TJ2 b).2.1 := by decide +kernel
theorem tyJ2_ok : ∀ k, k < 0 → parseFieldDescriptor (TJ2 k).2.2.1 = some (tyJ2 k) := by decide +kernel
abbrev cJ2_getChar_3b067 : ByteArray := prog_14_method_5_code
def yJ2_getChar_3b067 : MethodName := ⟨RJ2, "getChar", "([BI)C"⟩
abbrev cJ2_length_9d52b : ByteArray := prog_14_method_6_code
def yJ2_length_9d52b : MethodName := ⟨RJ2, "length", "([B)I"⟩
abbrev cJ2_charAt_3b067 : ByteArray := prog_14_method_83_code
def yJ2_charAt_3b067 : MethodName := ⟨RJ2, "charAt", "([BI)C"⟩
abbrev cJ2_checkIndex_2214a : ByteArray := prog_14_method_91_code
def yJ2_checkIndex_2214a : MethodName := ⟨RJ2, "checkIndex", "(I[B)V"⟩
def RJ10 : String := "java/lang/System"
def TJ10 : u_T := fun k => match k with
  | _ => ("", "", "", false)
def tyJ10 : Nat → FieldType := fun k => match k with
  | _ => .int
abbrev wsJ100 : List Cond := u_ws RJ10 TJ10 0
theorem nmJ10 : ∀ a, a < 0 → ∀ b, b < 0 → a ≠ b → (TJ10 a).2.1 ≠ (TJ10 b).2.1 := by decide +kernel
theorem tyJ10_ok : ∀ k, k < 0 → parseFieldDescriptor (TJ10 k).2.2.1 = some (tyJ10 k) := by decide +kernel
def RJxfd54e : String := "java/lang/constant/Constable"
def TJxfd54e : u_T := fun k => match k with
  | _ => ("", "", "", false)
def tyJxfd54e : Nat → FieldType := fun k => match k with
  | _ => .int
abbrev wsJxfd54e0 : List Cond := u_ws RJxfd54e TJxfd54e 0
theorem nmJxfd54e : ∀ a, a < 0 → ∀ b, b < 0 → a ≠ b → (TJxfd54e a).2.1 ≠ (TJxfd54e b).2.1 := by decide +kernel
theorem tyJxfd54e_ok : ∀ k, k < 0 → parseFieldDescriptor (TJxfd54e k).2.2.1 = some (tyJxfd54e k) := by decide +kernel
def RJx3cf43 : String := "java/lang/constant/ConstantDesc"
def TJx3cf43 : u_T := fun k => match k with
  | _ => ("", "", "", false)
def tyJx3cf43 : Nat → FieldType := fun k => match k with
  | _ => .int
abbrev wsJx3cf430 : List Cond := u_ws RJx3cf43 TJx3cf43 0
theorem nmJx3cf43 : ∀ a, a < 0 → ∀ b, b < 0 → a ≠ b → (TJx3cf43 a).2.1 ≠ (TJx3cf43 b).2.1 := by decide +kernel
theorem tyJx3cf43_ok : ∀ k, k < 0 → parseFieldDescriptor (TJx3cf43 k).2.2.1 = some (tyJx3cf43 k) := by decide +kernel
def RJ7 : String := "java/util/Arrays"
def TJ7 : u_T := fun k => match k with
  | _ => ("", "", "", false)
def tyJ7 : Nat → FieldType := fun k => match k with
  | _ => .int
abbrev wsJ70 : List Cond := u_ws RJ7 TJ7 0
theorem nmJ7 : ∀ a, a < 0 → ∀ b, b < 0 → a ≠ b → (TJ7 a).2.1 ≠ (TJ7 b).2.1 := by decide +kernel
theorem tyJ7_ok : ∀ k, k < 0 → parseFieldDescriptor (TJ7 k).2.2.1 = some (tyJ7 k) := by decide +kernel
abbrev cJ7_fill_53178 : ByteArray := prog_16_method_103_code
def yJ7_fill_53178 : MethodName := ⟨RJ7, "fill", "([II)V"⟩
def RJ3 : String := "jdk/internal/util/Preconditions"
def TJ3 : u_T := fun k => match k with
  | _ => ("", "", "", false)
def tyJ3 : Nat → FieldType := fun k => match k with
  | _ => .int
abbrev wsJ30 : List Cond := u_ws RJ3 TJ3 0
theorem nmJ3 : ∀ a, a < 0 → ∀ b, b < 0 → a ≠ b → (TJ3 a).2.1 ≠ (TJ3 b).2.1 := by decide +kernel
theorem tyJ3_ok : ∀ k, k < 0 → parseFieldDescriptor (TJ3 k).2.2.1 = some (tyJ3 k) := by decide +kernel
abbrev cJ3_checkIndex_8e157 : ByteArray := prog_17_method_11_code
def yJ3_checkIndex_8e157 : MethodName := ⟨RJ3, "checkIndex", "(IILjava/util/function/BiFunction;)I"⟩
def RL : String := "HeapEndsLaw"
abbrev cL_law : ByteArray := code
def yL_law : MethodName := ⟨RL, "law", "([I)Z"⟩
abbrev vwCl : List vw_C := [(RX0, TX0, 5), (RX1, TX1, 14), (RX2, TX2, 15), (RX3, TX3, 4), (RX4, TX4, 4), (RX5, TX5, 8), (RX6, TX6, 12), (RX7, TX7, 30)]
/-- the words that a method stands on: all of the tables' that stay -/
def wsA : List Cond := lw_tbl.filter goodWord
theorem wsA_tbl : ∀ w ∈ wsA, w ∈ lw_tbl := fun _ h => (List.mem_filter.mp h).1
theorem inAw {w : Cond} (i : Nat) (h : lw_tbl[i]? = some w) (g : goodWord w = true) : w ∈ wsA := List.mem_filter.mpr ⟨List.mem_of_getElem? h, g⟩
theorem inAs (ws : List Cond) (ps : List Nat) (hp : ws = ps.filterMap (fun i => lw_tbl[i]?)) (hg : ws.all goodWord = true) : ∀ w ∈ ws, w ∈ wsA := by
  intro w hw
  have g := List.all_eq_true.mp hg w hw
  rw [hp] at hw
  obtain ⟨i, -, hi⟩ := List.mem_filterMap.mp hw
  exact inAw i hi g
theorem wsA_good {ws : List Cond} (h : ∀ w ∈ ws, w ∈ wsA) : GoodIn wsA ws := fun w hw => ⟨h w hw, good_of_word (List.mem_filter.mp (h w hw)).2⟩
theorem inA0 : ∀ w ∈ u_ws RX0 TX0 5, w ∈ wsA := inAs _ [225, 227, 229, 231, 233] (by decide +kernel) (by decide +kernel)
theorem inA1 : ∀ w ∈ u_ws RX1 TX1 14, w ∈ wsA := inAs _ [259, 261, 263, 265, 267, 269, 271, 273, 275, 277, 279, 281, 283, 285] (by decide +kernel) (by decide +kernel)
theorem inA2 : ∀ w ∈ u_ws RX2 TX2 15, w ∈ wsA := inAs _ [178, 180, 182, 184, 186, 188, 190, 192, 194, 196, 198, 200, 202, 204, 206] (by decide +kernel) (by decide +kernel)
theorem inA3 : ∀ w ∈ u_ws RX3 TX3 4, w ∈ wsA := inAs _ [323, 325, 327, 329] (by decide +kernel) (by decide +kernel)
theorem inA4 : ∀ w ∈ u_ws RX4 TX4 4, w ∈ wsA := inAs _ [300, 302, 304, 306] (by decide +kernel) (by decide +kernel)
theorem inA5 : ∀ w ∈ u_ws RX5 TX5 8, w ∈ wsA := inAs _ [118, 120, 122, 124, 126, 128, 130, 132] (by decide +kernel) (by decide +kernel)
theorem inA6 : ∀ w ∈ u_ws RX6 TX6 12, w ∈ wsA := inAs _ [344, 346, 348, 350, 352, 354, 356, 358, 360, 362, 364, 366] (by decide +kernel) (by decide +kernel)
theorem inA7 : ∀ w ∈ u_ws RX7 TX7 30, w ∈ wsA := inAs _ [981, 983, 985, 987, 989, 991, 993, 995, 997, 999, 1001, 1003, 1005, 1007, 1009, 1011, 1013, 1015, 1017, 1019, 1021, 1023, 1025, 1027, 1029, 1031, 1033, 1035, 1037, 1039] (by decide +kernel) (by decide +kernel)
