section
-- ===== PART A: goes FIRST, ahead of the names: the tables' words, and 'selects' of the private methods out of them =====
/-- a private method of a class that the tables say can be made, by its rows of tables_1 -/
def lw_okq (q : MethodName × Nat) : Prop := (q.1.cls ≠ "java/lang/invoke/MethodHandle" ∧ q.1.cls ≠ "java/lang/invoke/VarHandle") ∧ Cond.instantiable q.1.cls q.2 ∈ tables_1 ∧ Cond.privateMethod q.1 ∈ tables_1 ∧ Cond.instanceMethod q.1 ∈ tables_1
theorem lw_p0 : lw_okq (⟨"SortKernel", "leastFreeNumber", "()I"⟩, 6) := ⟨⟨by decide +kernel, by decide +kernel⟩, List.mem_of_getElem? (i := 15) (by decide +kernel), List.mem_of_getElem? (i := 119) (by decide +kernel), List.mem_of_getElem? (i := 120) (by decide +kernel)⟩
theorem lw_p1 : lw_okq (⟨"SortKernel", "takeCellsAndBuffer", "(LSortKernel$Job;I)Z"⟩, 6) := ⟨⟨by decide +kernel, by decide +kernel⟩, List.mem_of_getElem? (i := 15) (by decide +kernel), List.mem_of_getElem? (i := 175) (by decide +kernel), List.mem_of_getElem? (i := 176) (by decide +kernel)⟩
theorem lw_p2 : lw_okq (⟨"SortKernel$Arena", "take", "(LSortKernel$Block;I)Z"⟩, 2) := ⟨⟨by decide +kernel, by decide +kernel⟩, List.mem_of_getElem? (i := 23) (by decide +kernel), List.mem_of_getElem? (i := 179) (by decide +kernel), List.mem_of_getElem? (i := 180) (by decide +kernel)⟩
theorem lw_p3 : lw_okq (⟨"SortKernel$Arena", "gapBehind", "(LSortKernel$Block;)I"⟩, 2) := ⟨⟨by decide +kernel, by decide +kernel⟩, List.mem_of_getElem? (i := 23) (by decide +kernel), List.mem_of_getElem? (i := 183) (by decide +kernel), List.mem_of_getElem? (i := 184) (by decide +kernel)⟩
theorem lw_p4 : lw_okq (⟨"SortKernel$Block", "end", "()I"⟩, 3) := ⟨⟨by decide +kernel, by decide +kernel⟩, List.mem_of_getElem? (i := 39) (by decide +kernel), List.mem_of_getElem? (i := 187) (by decide +kernel), List.mem_of_getElem? (i := 188) (by decide +kernel)⟩
theorem lw_p5 : lw_okq (⟨"SortKernel$Arena", "link", "(LSortKernel$Block;LSortKernel$Block;II)V"⟩, 2) := ⟨⟨by decide +kernel, by decide +kernel⟩, List.mem_of_getElem? (i := 23) (by decide +kernel), List.mem_of_getElem? (i := 191) (by decide +kernel), List.mem_of_getElem? (i := 192) (by decide +kernel)⟩
theorem lw_p6 : lw_okq (⟨"SortKernel$Arena", "giveBack", "(LSortKernel$Block;)V"⟩, 2) := ⟨⟨by decide +kernel, by decide +kernel⟩, List.mem_of_getElem? (i := 23) (by decide +kernel), List.mem_of_getElem? (i := 198) (by decide +kernel), List.mem_of_getElem? (i := 199) (by decide +kernel)⟩
theorem lw_p7 : lw_okq (⟨"SortKernel$Arena", "clear", "(II)V"⟩, 2) := ⟨⟨by decide +kernel, by decide +kernel⟩, List.mem_of_getElem? (i := 23) (by decide +kernel), List.mem_of_getElem? (i := 202) (by decide +kernel), List.mem_of_getElem? (i := 203) (by decide +kernel)⟩
theorem lw_p8 : lw_okq (⟨"SortKernel$Arena", "write", "(II)V"⟩, 2) := ⟨⟨by decide +kernel, by decide +kernel⟩, List.mem_of_getElem? (i := 23) (by decide +kernel), List.mem_of_getElem? (i := 206) (by decide +kernel), List.mem_of_getElem? (i := 207) (by decide +kernel)⟩
theorem lw_p9 : lw_okq (⟨"SortKernel", "find", "(I)LSortKernel$Job;"⟩, 6) := ⟨⟨by decide +kernel, by decide +kernel⟩, List.mem_of_getElem? (i := 15) (by decide +kernel), List.mem_of_getElem? (i := 214) (by decide +kernel), List.mem_of_getElem? (i := 215) (by decide +kernel)⟩
theorem lw_p10 : lw_okq (⟨"SortKernel$Job", "hasNumber", "(I)Z"⟩, 11) := ⟨⟨by decide +kernel, by decide +kernel⟩, List.mem_of_getElem? (i := 122) (by decide +kernel), List.mem_of_getElem? (i := 218) (by decide +kernel), List.mem_of_getElem? (i := 219) (by decide +kernel)⟩
theorem lw_p11 : lw_okq (⟨"SortKernel", "exchangeBlocks", "(LSortKernel$Job;I)Z"⟩, 6) := ⟨⟨by decide +kernel, by decide +kernel⟩, List.mem_of_getElem? (i := 15) (by decide +kernel), List.mem_of_getElem? (i := 227) (by decide +kernel), List.mem_of_getElem? (i := 228) (by decide +kernel)⟩
theorem lw_p12 : lw_okq (⟨"SortKernel$Arena", "putAt", "(LSortKernel$Block;II)V"⟩, 2) := ⟨⟨by decide +kernel, by decide +kernel⟩, List.mem_of_getElem? (i := 23) (by decide +kernel), List.mem_of_getElem? (i := 231) (by decide +kernel), List.mem_of_getElem? (i := 232) (by decide +kernel)⟩
theorem lw_p13 : lw_okq (⟨"SortKernel$Arena", "copy", "(III)V"⟩, 2) := ⟨⟨by decide +kernel, by decide +kernel⟩, List.mem_of_getElem? (i := 23) (by decide +kernel), List.mem_of_getElem? (i := 235) (by decide +kernel), List.mem_of_getElem? (i := 236) (by decide +kernel)⟩
theorem lw_p14 : lw_okq (⟨"SortKernel", "sortingOf", "(LSortKernel$Job;)LSortKernel$Sorting;"⟩, 6) := ⟨⟨by decide +kernel, by decide +kernel⟩, List.mem_of_getElem? (i := 15) (by decide +kernel), List.mem_of_getElem? (i := 246) (by decide +kernel), List.mem_of_getElem? (i := 247) (by decide +kernel)⟩
theorem lw_p15 : lw_okq (⟨"SortKernel$HeapSorting", "sinkFrom", "(I)V"⟩, 9) := ⟨⟨by decide +kernel, by decide +kernel⟩, List.mem_of_getElem? (i := 250) (by decide +kernel), List.mem_of_getElem? (i := 406) (by decide +kernel), List.mem_of_getElem? (i := 407) (by decide +kernel)⟩
def lw_privs_1 : List (MethodName × Nat) := [(⟨"SortKernel", "leastFreeNumber", "()I"⟩, 6), (⟨"SortKernel", "takeCellsAndBuffer", "(LSortKernel$Job;I)Z"⟩, 6), (⟨"SortKernel$Arena", "take", "(LSortKernel$Block;I)Z"⟩, 2), (⟨"SortKernel$Arena", "gapBehind", "(LSortKernel$Block;)I"⟩, 2), (⟨"SortKernel$Block", "end", "()I"⟩, 3), (⟨"SortKernel$Arena", "link", "(LSortKernel$Block;LSortKernel$Block;II)V"⟩, 2), (⟨"SortKernel$Arena", "giveBack", "(LSortKernel$Block;)V"⟩, 2), (⟨"SortKernel$Arena", "clear", "(II)V"⟩, 2), (⟨"SortKernel$Arena", "write", "(II)V"⟩, 2), (⟨"SortKernel", "find", "(I)LSortKernel$Job;"⟩, 6), (⟨"SortKernel$Job", "hasNumber", "(I)Z"⟩, 11), (⟨"SortKernel", "exchangeBlocks", "(LSortKernel$Job;I)Z"⟩, 6), (⟨"SortKernel$Arena", "putAt", "(LSortKernel$Block;II)V"⟩, 2), (⟨"SortKernel$Arena", "copy", "(III)V"⟩, 2), (⟨"SortKernel", "sortingOf", "(LSortKernel$Job;)LSortKernel$Sorting;"⟩, 6), (⟨"SortKernel$HeapSorting", "sinkFrom", "(I)V"⟩, 9)]
theorem lw_r1 : ∀ q ∈ lw_privs_1, lw_okq q := List.forall_mem_cons.mpr ⟨lw_p0, List.forall_mem_cons.mpr ⟨lw_p1, List.forall_mem_cons.mpr ⟨lw_p2, List.forall_mem_cons.mpr ⟨lw_p3, List.forall_mem_cons.mpr ⟨lw_p4, List.forall_mem_cons.mpr ⟨lw_p5, List.forall_mem_cons.mpr ⟨lw_p6, List.forall_mem_cons.mpr ⟨lw_p7, List.forall_mem_cons.mpr ⟨lw_p8, List.forall_mem_cons.mpr ⟨lw_p9, List.forall_mem_cons.mpr ⟨lw_p10, List.forall_mem_cons.mpr ⟨lw_p11, List.forall_mem_cons.mpr ⟨lw_p12, List.forall_mem_cons.mpr ⟨lw_p13, List.forall_mem_cons.mpr ⟨lw_p14, List.forall_mem_cons.mpr ⟨lw_p15, fun _ h => absurd h List.not_mem_nil⟩⟩⟩⟩⟩⟩⟩⟩⟩⟩⟩⟩⟩⟩⟩⟩
theorem lw_p16 : lw_okq (⟨"SortKernel$MergeSorting", "standAt", "(I)V"⟩, 12) := ⟨⟨by decide +kernel, by decide +kernel⟩, List.mem_of_getElem? (i := 310) (by decide +kernel), List.mem_of_getElem? (i := 413) (by decide +kernel), List.mem_of_getElem? (i := 414) (by decide +kernel)⟩
theorem lw_p17 : lw_okq (⟨"SortKernel$QuickSorting", "startRange", "()V"⟩, 10) := ⟨⟨by decide +kernel, by decide +kernel⟩, List.mem_of_getElem? (i := 368) (by decide +kernel), List.mem_of_getElem? (i := 421) (by decide +kernel), List.mem_of_getElem? (i := 422) (by decide +kernel)⟩
theorem lw_p18 : lw_okq (⟨"SortKernel$Arena", "swap", "(II)V"⟩, 2) := ⟨⟨by decide +kernel, by decide +kernel⟩, List.mem_of_getElem? (i := 23) (by decide +kernel), List.mem_of_getElem? (i := 431) (by decide +kernel), List.mem_of_getElem? (i := 432) (by decide +kernel)⟩
theorem lw_p19 : lw_okq (⟨"SortKernel$ReadyLine", "enter", "(LSortKernel$Job;)V"⟩, 1) := ⟨⟨by decide +kernel, by decide +kernel⟩, List.mem_of_getElem? (i := 76) (by decide +kernel), List.mem_of_getElem? (i := 435) (by decide +kernel), List.mem_of_getElem? (i := 436) (by decide +kernel)⟩
theorem lw_p20 : lw_okq (⟨"SortKernel", "takeTurn", "()I"⟩, 6) := ⟨⟨by decide +kernel, by decide +kernel⟩, List.mem_of_getElem? (i := 15) (by decide +kernel), List.mem_of_getElem? (i := 443) (by decide +kernel), List.mem_of_getElem? (i := 444) (by decide +kernel)⟩
theorem lw_p21 : lw_okq (⟨"SortKernel$ReadyLine", "leave", "(LSortKernel$Job;)V"⟩, 1) := ⟨⟨by decide +kernel, by decide +kernel⟩, List.mem_of_getElem? (i := 76) (by decide +kernel), List.mem_of_getElem? (i := 447) (by decide +kernel), List.mem_of_getElem? (i := 448) (by decide +kernel)⟩
theorem lw_p22 : lw_okq (⟨"SortKernel$ReadyLine", "unlink", "(LSortKernel$Job;LSortKernel$Job;)V"⟩, 1) := ⟨⟨by decide +kernel, by decide +kernel⟩, List.mem_of_getElem? (i := 76) (by decide +kernel), List.mem_of_getElem? (i := 451) (by decide +kernel), List.mem_of_getElem? (i := 452) (by decide +kernel)⟩
theorem lw_p23 : lw_okq (⟨"SortKernel$Job", "compareUpTo", "(I)I"⟩, 11) := ⟨⟨by decide +kernel, by decide +kernel⟩, List.mem_of_getElem? (i := 122) (by decide +kernel), List.mem_of_getElem? (i := 455) (by decide +kernel), List.mem_of_getElem? (i := 456) (by decide +kernel)⟩
theorem lw_p24 : lw_okq (⟨"SortKernel$Arena", "read", "(I)I"⟩, 2) := ⟨⟨by decide +kernel, by decide +kernel⟩, List.mem_of_getElem? (i := 23) (by decide +kernel), List.mem_of_getElem? (i := 471) (by decide +kernel), List.mem_of_getElem? (i := 472) (by decide +kernel)⟩
theorem lw_p25 : lw_okq (⟨"SortKernel$GapSorting", "goOnWithNextNumber", "()V"⟩, 7) := ⟨⟨by decide +kernel, by decide +kernel⟩, List.mem_of_getElem? (i := 345) (by decide +kernel), List.mem_of_getElem? (i := 478) (by decide +kernel), List.mem_of_getElem? (i := 479) (by decide +kernel)⟩
theorem lw_p26 : lw_okq (⟨"SortKernel$HeapSorting", "goOnWithNextSink", "()V"⟩, 9) := ⟨⟨by decide +kernel, by decide +kernel⟩, List.mem_of_getElem? (i := 250) (by decide +kernel), List.mem_of_getElem? (i := 491) (by decide +kernel), List.mem_of_getElem? (i := 492) (by decide +kernel)⟩
theorem lw_p27 : lw_okq (⟨"SortKernel$MergeSorting", "from", "()I"⟩, 12) := ⟨⟨by decide +kernel, by decide +kernel⟩, List.mem_of_getElem? (i := 310) (by decide +kernel), List.mem_of_getElem? (i := 498) (by decide +kernel), List.mem_of_getElem? (i := 499) (by decide +kernel)⟩
theorem lw_p28 : lw_okq (⟨"SortKernel$MergeSorting", "to", "()I"⟩, 12) := ⟨⟨by decide +kernel, by decide +kernel⟩, List.mem_of_getElem? (i := 310) (by decide +kernel), List.mem_of_getElem? (i := 503) (by decide +kernel), List.mem_of_getElem? (i := 504) (by decide +kernel)⟩
theorem lw_p29 : lw_okq (⟨"SortKernel$MergeSorting", "goOnWithNextRows", "()V"⟩, 12) := ⟨⟨by decide +kernel, by decide +kernel⟩, List.mem_of_getElem? (i := 310) (by decide +kernel), List.mem_of_getElem? (i := 508) (by decide +kernel), List.mem_of_getElem? (i := 509) (by decide +kernel)⟩
theorem lw_p30 : lw_okq (⟨"SortKernel$MergeSorting", "copyRest", "()V"⟩, 12) := ⟨⟨by decide +kernel, by decide +kernel⟩, List.mem_of_getElem? (i := 310) (by decide +kernel), List.mem_of_getElem? (i := 512) (by decide +kernel), List.mem_of_getElem? (i := 513) (by decide +kernel)⟩
theorem lw_p31 : lw_okq (⟨"SortKernel$MergeSorting", "endPass", "()V"⟩, 12) := ⟨⟨by decide +kernel, by decide +kernel⟩, List.mem_of_getElem? (i := 310) (by decide +kernel), List.mem_of_getElem? (i := 517) (by decide +kernel), List.mem_of_getElem? (i := 518) (by decide +kernel)⟩
def lw_privs_2 : List (MethodName × Nat) := [(⟨"SortKernel$MergeSorting", "standAt", "(I)V"⟩, 12), (⟨"SortKernel$QuickSorting", "startRange", "()V"⟩, 10), (⟨"SortKernel$Arena", "swap", "(II)V"⟩, 2), (⟨"SortKernel$ReadyLine", "enter", "(LSortKernel$Job;)V"⟩, 1), (⟨"SortKernel", "takeTurn", "()I"⟩, 6), (⟨"SortKernel$ReadyLine", "leave", "(LSortKernel$Job;)V"⟩, 1), (⟨"SortKernel$ReadyLine", "unlink", "(LSortKernel$Job;LSortKernel$Job;)V"⟩, 1), (⟨"SortKernel$Job", "compareUpTo", "(I)I"⟩, 11), (⟨"SortKernel$Arena", "read", "(I)I"⟩, 2), (⟨"SortKernel$GapSorting", "goOnWithNextNumber", "()V"⟩, 7), (⟨"SortKernel$HeapSorting", "goOnWithNextSink", "()V"⟩, 9), (⟨"SortKernel$MergeSorting", "from", "()I"⟩, 12), (⟨"SortKernel$MergeSorting", "to", "()I"⟩, 12), (⟨"SortKernel$MergeSorting", "goOnWithNextRows", "()V"⟩, 12), (⟨"SortKernel$MergeSorting", "copyRest", "()V"⟩, 12), (⟨"SortKernel$MergeSorting", "endPass", "()V"⟩, 12)]
theorem lw_r2 : ∀ q ∈ lw_privs_2, lw_okq q := List.forall_mem_cons.mpr ⟨lw_p16, List.forall_mem_cons.mpr ⟨lw_p17, List.forall_mem_cons.mpr ⟨lw_p18, List.forall_mem_cons.mpr ⟨lw_p19, List.forall_mem_cons.mpr ⟨lw_p20, List.forall_mem_cons.mpr ⟨lw_p21, List.forall_mem_cons.mpr ⟨lw_p22, List.forall_mem_cons.mpr ⟨lw_p23, List.forall_mem_cons.mpr ⟨lw_p24, List.forall_mem_cons.mpr ⟨lw_p25, List.forall_mem_cons.mpr ⟨lw_p26, List.forall_mem_cons.mpr ⟨lw_p27, List.forall_mem_cons.mpr ⟨lw_p28, List.forall_mem_cons.mpr ⟨lw_p29, List.forall_mem_cons.mpr ⟨lw_p30, List.forall_mem_cons.mpr ⟨lw_p31, fun _ h => absurd h List.not_mem_nil⟩⟩⟩⟩⟩⟩⟩⟩⟩⟩⟩⟩⟩⟩⟩⟩
theorem lw_p32 : lw_okq (⟨"SortKernel$QuickSorting", "chooseRange", "()V"⟩, 10) := ⟨⟨by decide +kernel, by decide +kernel⟩, List.mem_of_getElem? (i := 368) (by decide +kernel), List.mem_of_getElem? (i := 527) (by decide +kernel), List.mem_of_getElem? (i := 528) (by decide +kernel)⟩
theorem lw_p33 : lw_okq (⟨"SortKernel$QuickSorting", "stack", "(II)V"⟩, 10) := ⟨⟨by decide +kernel, by decide +kernel⟩, List.mem_of_getElem? (i := 368) (by decide +kernel), List.mem_of_getElem? (i := 531) (by decide +kernel), List.mem_of_getElem? (i := 532) (by decide +kernel)⟩
theorem lw_p34 : lw_okq (⟨"SortKernel$QuickSorting", "takeLatestStacked", "()V"⟩, 10) := ⟨⟨by decide +kernel, by decide +kernel⟩, List.mem_of_getElem? (i := 368) (by decide +kernel), List.mem_of_getElem? (i := 536) (by decide +kernel), List.mem_of_getElem? (i := 537) (by decide +kernel)⟩
theorem lw_p35 : lw_okq (⟨"SortKernel$Job", "isSorted", "()Z"⟩, 11) := ⟨⟨by decide +kernel, by decide +kernel⟩, List.mem_of_getElem? (i := 122) (by decide +kernel), List.mem_of_getElem? (i := 541) (by decide +kernel), List.mem_of_getElem? (i := 542) (by decide +kernel)⟩
theorem lw_p36 : lw_okq (⟨"SortKernel$Arena", "moveAllDown", "()I"⟩, 2) := ⟨⟨by decide +kernel, by decide +kernel⟩, List.mem_of_getElem? (i := 23) (by decide +kernel), List.mem_of_getElem? (i := 574) (by decide +kernel), List.mem_of_getElem? (i := 575) (by decide +kernel)⟩
theorem lw_p37 : lw_okq (⟨"SortKernel$ReadyLine", "countAheadOf", "(LSortKernel$Job;)I"⟩, 1) := ⟨⟨by decide +kernel, by decide +kernel⟩, List.mem_of_getElem? (i := 76) (by decide +kernel), List.mem_of_getElem? (i := 587) (by decide +kernel), List.mem_of_getElem? (i := 588) (by decide +kernel)⟩
theorem lw_p38 : lw_okq (⟨"SortKernel$Arena", "countFreeWords", "()I"⟩, 2) := ⟨⟨by decide +kernel, by decide +kernel⟩, List.mem_of_getElem? (i := 23) (by decide +kernel), List.mem_of_getElem? (i := 595) (by decide +kernel), List.mem_of_getElem? (i := 596) (by decide +kernel)⟩
theorem lw_p39 : lw_okq (⟨"SortKernel$Arena", "sizeOfLargestGap", "()I"⟩, 2) := ⟨⟨by decide +kernel, by decide +kernel⟩, List.mem_of_getElem? (i := 23) (by decide +kernel), List.mem_of_getElem? (i := 599) (by decide +kernel), List.mem_of_getElem? (i := 600) (by decide +kernel)⟩
theorem lw_p40 : lw_okq (⟨"SortKernel$Arena", "countGaps", "()I"⟩, 2) := ⟨⟨by decide +kernel, by decide +kernel⟩, List.mem_of_getElem? (i := 23) (by decide +kernel), List.mem_of_getElem? (i := 603) (by decide +kernel), List.mem_of_getElem? (i := 604) (by decide +kernel)⟩
theorem lw_p41 : lw_okq (⟨"SortKernel", "countJobs", "()I"⟩, 6) := ⟨⟨by decide +kernel, by decide +kernel⟩, List.mem_of_getElem? (i := 15) (by decide +kernel), List.mem_of_getElem? (i := 607) (by decide +kernel), List.mem_of_getElem? (i := 608) (by decide +kernel)⟩
theorem lw_p42 : lw_okq (⟨"SortKernel$ReadyLine", "length", "()I"⟩, 1) := ⟨⟨by decide +kernel, by decide +kernel⟩, List.mem_of_getElem? (i := 76) (by decide +kernel), List.mem_of_getElem? (i := 611) (by decide +kernel), List.mem_of_getElem? (i := 612) (by decide +kernel)⟩
theorem lw_p43 : lw_okq (⟨"SortKernelModel", "has", "(I)Z"⟩, 32) := ⟨⟨by decide +kernel, by decide +kernel⟩, List.mem_of_getElem? (i := 618) (by decide +kernel), List.mem_of_getElem? (i := 728) (by decide +kernel), List.mem_of_getElem? (i := 729) (by decide +kernel)⟩
theorem lw_p44 : lw_okq (⟨"SortKernelModel", "takes", "(IZ)Z"⟩, 32) := ⟨⟨by decide +kernel, by decide +kernel⟩, List.mem_of_getElem? (i := 618) (by decide +kernel), List.mem_of_getElem? (i := 732) (by decide +kernel), List.mem_of_getElem? (i := 733) (by decide +kernel)⟩
theorem lw_p45 : lw_okq (⟨"SortKernelModel", "room", "(I)I"⟩, 32) := ⟨⟨by decide +kernel, by decide +kernel⟩, List.mem_of_getElem? (i := 618) (by decide +kernel), List.mem_of_getElem? (i := 736) (by decide +kernel), List.mem_of_getElem? (i := 737) (by decide +kernel)⟩
theorem lw_p46 : lw_okq (⟨"SortKernelModel", "nextFrom", "(I)I"⟩, 32) := ⟨⟨by decide +kernel, by decide +kernel⟩, List.mem_of_getElem? (i := 618) (by decide +kernel), List.mem_of_getElem? (i := 740) (by decide +kernel), List.mem_of_getElem? (i := 741) (by decide +kernel)⟩
theorem lw_p47 : lw_okq (⟨"SortKernelModel", "beginOf", "(I)I"⟩, 32) := ⟨⟨by decide +kernel, by decide +kernel⟩, List.mem_of_getElem? (i := 618) (by decide +kernel), List.mem_of_getElem? (i := 744) (by decide +kernel), List.mem_of_getElem? (i := 745) (by decide +kernel)⟩
def lw_privs_3 : List (MethodName × Nat) := [(⟨"SortKernel$QuickSorting", "chooseRange", "()V"⟩, 10), (⟨"SortKernel$QuickSorting", "stack", "(II)V"⟩, 10), (⟨"SortKernel$QuickSorting", "takeLatestStacked", "()V"⟩, 10), (⟨"SortKernel$Job", "isSorted", "()Z"⟩, 11), (⟨"SortKernel$Arena", "moveAllDown", "()I"⟩, 2), (⟨"SortKernel$ReadyLine", "countAheadOf", "(LSortKernel$Job;)I"⟩, 1), (⟨"SortKernel$Arena", "countFreeWords", "()I"⟩, 2), (⟨"SortKernel$Arena", "sizeOfLargestGap", "()I"⟩, 2), (⟨"SortKernel$Arena", "countGaps", "()I"⟩, 2), (⟨"SortKernel", "countJobs", "()I"⟩, 6), (⟨"SortKernel$ReadyLine", "length", "()I"⟩, 1), (⟨"SortKernelModel", "has", "(I)Z"⟩, 32), (⟨"SortKernelModel", "takes", "(IZ)Z"⟩, 32), (⟨"SortKernelModel", "room", "(I)I"⟩, 32), (⟨"SortKernelModel", "nextFrom", "(I)I"⟩, 32), (⟨"SortKernelModel", "beginOf", "(I)I"⟩, 32)]
theorem lw_r3 : ∀ q ∈ lw_privs_3, lw_okq q := List.forall_mem_cons.mpr ⟨lw_p32, List.forall_mem_cons.mpr ⟨lw_p33, List.forall_mem_cons.mpr ⟨lw_p34, List.forall_mem_cons.mpr ⟨lw_p35, List.forall_mem_cons.mpr ⟨lw_p36, List.forall_mem_cons.mpr ⟨lw_p37, List.forall_mem_cons.mpr ⟨lw_p38, List.forall_mem_cons.mpr ⟨lw_p39, List.forall_mem_cons.mpr ⟨lw_p40, List.forall_mem_cons.mpr ⟨lw_p41, List.forall_mem_cons.mpr ⟨lw_p42, List.forall_mem_cons.mpr ⟨lw_p43, List.forall_mem_cons.mpr ⟨lw_p44, List.forall_mem_cons.mpr ⟨lw_p45, List.forall_mem_cons.mpr ⟨lw_p46, List.forall_mem_cons.mpr ⟨lw_p47, fun _ h => absurd h List.not_mem_nil⟩⟩⟩⟩⟩⟩⟩⟩⟩⟩⟩⟩⟩⟩⟩⟩
theorem lw_p48 : lw_okq (⟨"SortKernelModel", "sizeOf", "(I)I"⟩, 32) := ⟨⟨by decide +kernel, by decide +kernel⟩, List.mem_of_getElem? (i := 618) (by decide +kernel), List.mem_of_getElem? (i := 748) (by decide +kernel), List.mem_of_getElem? (i := 749) (by decide +kernel)⟩
theorem lw_p49 : lw_okq (⟨"SortKernelModel", "bufferSize", "(I)I"⟩, 32) := ⟨⟨by decide +kernel, by decide +kernel⟩, List.mem_of_getElem? (i := 618) (by decide +kernel), List.mem_of_getElem? (i := 752) (by decide +kernel), List.mem_of_getElem? (i := 753) (by decide +kernel)⟩
theorem lw_p50 : lw_okq (⟨"SortKernelModel", "isJob", "(I)Z"⟩, 32) := ⟨⟨by decide +kernel, by decide +kernel⟩, List.mem_of_getElem? (i := 618) (by decide +kernel), List.mem_of_getElem? (i := 760) (by decide +kernel), List.mem_of_getElem? (i := 761) (by decide +kernel)⟩
theorem lw_p51 : lw_okq (⟨"SortKernelModel", "goesToEnd", "(I)V"⟩, 32) := ⟨⟨by decide +kernel, by decide +kernel⟩, List.mem_of_getElem? (i := 618) (by decide +kernel), List.mem_of_getElem? (i := 772) (by decide +kernel), List.mem_of_getElem? (i := 773) (by decide +kernel)⟩
theorem lw_p52 : lw_okq (⟨"SortKernelModel", "takesUp", "(I)V"⟩, 32) := ⟨⟨by decide +kernel, by decide +kernel⟩, List.mem_of_getElem? (i := 618) (by decide +kernel), List.mem_of_getElem? (i := 776) (by decide +kernel), List.mem_of_getElem? (i := 777) (by decide +kernel)⟩
theorem lw_p53 : lw_okq (⟨"SortKernelModel", "begins", "()Z"⟩, 32) := ⟨⟨by decide +kernel, by decide +kernel⟩, List.mem_of_getElem? (i := 618) (by decide +kernel), List.mem_of_getElem? (i := 780) (by decide +kernel), List.mem_of_getElem? (i := 781) (by decide +kernel)⟩
theorem lw_p54 : lw_okq (⟨"SortKernelModel", "stepsBegin", "(I)Z"⟩, 32) := ⟨⟨by decide +kernel, by decide +kernel⟩, List.mem_of_getElem? (i := 618) (by decide +kernel), List.mem_of_getElem? (i := 784) (by decide +kernel), List.mem_of_getElem? (i := 785) (by decide +kernel)⟩
theorem lw_p55 : lw_okq (⟨"SortKernelModel", "stepsStand", "()Z"⟩, 32) := ⟨⟨by decide +kernel, by decide +kernel⟩, List.mem_of_getElem? (i := 618) (by decide +kernel), List.mem_of_getElem? (i := 788) (by decide +kernel), List.mem_of_getElem? (i := 789) (by decide +kernel)⟩
theorem lw_p56 : lw_okq (⟨"SortKernelModel", "heapBegins", "()Z"⟩, 32) := ⟨⟨by decide +kernel, by decide +kernel⟩, List.mem_of_getElem? (i := 618) (by decide +kernel), List.mem_of_getElem? (i := 792) (by decide +kernel), List.mem_of_getElem? (i := 793) (by decide +kernel)⟩
theorem lw_p57 : lw_okq (⟨"SortKernelModel", "heapNext", "()Z"⟩, 32) := ⟨⟨by decide +kernel, by decide +kernel⟩, List.mem_of_getElem? (i := 618) (by decide +kernel), List.mem_of_getElem? (i := 796) (by decide +kernel), List.mem_of_getElem? (i := 797) (by decide +kernel)⟩
theorem lw_p58 : lw_okq (⟨"SortKernelModel", "change", "(II)V"⟩, 32) := ⟨⟨by decide +kernel, by decide +kernel⟩, List.mem_of_getElem? (i := 618) (by decide +kernel), List.mem_of_getElem? (i := 800) (by decide +kernel), List.mem_of_getElem? (i := 801) (by decide +kernel)⟩
theorem lw_p59 : lw_okq (⟨"SortKernelModel", "heapStands", "()Z"⟩, 32) := ⟨⟨by decide +kernel, by decide +kernel⟩, List.mem_of_getElem? (i := 618) (by decide +kernel), List.mem_of_getElem? (i := 804) (by decide +kernel), List.mem_of_getElem? (i := 805) (by decide +kernel)⟩
theorem lw_p60 : lw_okq (⟨"SortKernelModel", "mergeBegins", "()Z"⟩, 32) := ⟨⟨by decide +kernel, by decide +kernel⟩, List.mem_of_getElem? (i := 618) (by decide +kernel), List.mem_of_getElem? (i := 808) (by decide +kernel), List.mem_of_getElem? (i := 809) (by decide +kernel)⟩
theorem lw_p61 : lw_okq (⟨"SortKernelModel", "rows", "(I)V"⟩, 32) := ⟨⟨by decide +kernel, by decide +kernel⟩, List.mem_of_getElem? (i := 618) (by decide +kernel), List.mem_of_getElem? (i := 812) (by decide +kernel), List.mem_of_getElem? (i := 813) (by decide +kernel)⟩
theorem lw_p62 : lw_okq (⟨"SortKernelModel", "mergeStands", "()Z"⟩, 32) := ⟨⟨by decide +kernel, by decide +kernel⟩, List.mem_of_getElem? (i := 618) (by decide +kernel), List.mem_of_getElem? (i := 816) (by decide +kernel), List.mem_of_getElem? (i := 817) (by decide +kernel)⟩
theorem lw_p63 : lw_okq (⟨"SortKernelModel", "target", "()I"⟩, 32) := ⟨⟨by decide +kernel, by decide +kernel⟩, List.mem_of_getElem? (i := 618) (by decide +kernel), List.mem_of_getElem? (i := 820) (by decide +kernel), List.mem_of_getElem? (i := 821) (by decide +kernel)⟩
def lw_privs_4 : List (MethodName × Nat) := [(⟨"SortKernelModel", "sizeOf", "(I)I"⟩, 32), (⟨"SortKernelModel", "bufferSize", "(I)I"⟩, 32), (⟨"SortKernelModel", "isJob", "(I)Z"⟩, 32), (⟨"SortKernelModel", "goesToEnd", "(I)V"⟩, 32), (⟨"SortKernelModel", "takesUp", "(I)V"⟩, 32), (⟨"SortKernelModel", "begins", "()Z"⟩, 32), (⟨"SortKernelModel", "stepsBegin", "(I)Z"⟩, 32), (⟨"SortKernelModel", "stepsStand", "()Z"⟩, 32), (⟨"SortKernelModel", "heapBegins", "()Z"⟩, 32), (⟨"SortKernelModel", "heapNext", "()Z"⟩, 32), (⟨"SortKernelModel", "change", "(II)V"⟩, 32), (⟨"SortKernelModel", "heapStands", "()Z"⟩, 32), (⟨"SortKernelModel", "mergeBegins", "()Z"⟩, 32), (⟨"SortKernelModel", "rows", "(I)V"⟩, 32), (⟨"SortKernelModel", "mergeStands", "()Z"⟩, 32), (⟨"SortKernelModel", "target", "()I"⟩, 32)]
theorem lw_r4 : ∀ q ∈ lw_privs_4, lw_okq q := List.forall_mem_cons.mpr ⟨lw_p48, List.forall_mem_cons.mpr ⟨lw_p49, List.forall_mem_cons.mpr ⟨lw_p50, List.forall_mem_cons.mpr ⟨lw_p51, List.forall_mem_cons.mpr ⟨lw_p52, List.forall_mem_cons.mpr ⟨lw_p53, List.forall_mem_cons.mpr ⟨lw_p54, List.forall_mem_cons.mpr ⟨lw_p55, List.forall_mem_cons.mpr ⟨lw_p56, List.forall_mem_cons.mpr ⟨lw_p57, List.forall_mem_cons.mpr ⟨lw_p58, List.forall_mem_cons.mpr ⟨lw_p59, List.forall_mem_cons.mpr ⟨lw_p60, List.forall_mem_cons.mpr ⟨lw_p61, List.forall_mem_cons.mpr ⟨lw_p62, List.forall_mem_cons.mpr ⟨lw_p63, fun _ h => absurd h List.not_mem_nil⟩⟩⟩⟩⟩⟩⟩⟩⟩⟩⟩⟩⟩⟩⟩⟩
theorem lw_p64 : lw_okq (⟨"SortKernelModel", "source", "()I"⟩, 32) := ⟨⟨by decide +kernel, by decide +kernel⟩, List.mem_of_getElem? (i := 618) (by decide +kernel), List.mem_of_getElem? (i := 824) (by decide +kernel), List.mem_of_getElem? (i := 825) (by decide +kernel)⟩
theorem lw_p65 : lw_okq (⟨"SortKernelModel", "widest", "()I"⟩, 32) := ⟨⟨by decide +kernel, by decide +kernel⟩, List.mem_of_getElem? (i := 618) (by decide +kernel), List.mem_of_getElem? (i := 828) (by decide +kernel), List.mem_of_getElem? (i := 829) (by decide +kernel)⟩
theorem lw_p66 : lw_okq (⟨"SortKernelModel", "range", "(II)Z"⟩, 32) := ⟨⟨by decide +kernel, by decide +kernel⟩, List.mem_of_getElem? (i := 618) (by decide +kernel), List.mem_of_getElem? (i := 832) (by decide +kernel), List.mem_of_getElem? (i := 833) (by decide +kernel)⟩
theorem lw_p67 : lw_okq (⟨"SortKernelModel", "putsBy", "()V"⟩, 32) := ⟨⟨by decide +kernel, by decide +kernel⟩, List.mem_of_getElem? (i := 618) (by decide +kernel), List.mem_of_getElem? (i := 836) (by decide +kernel), List.mem_of_getElem? (i := 837) (by decide +kernel)⟩
theorem lw_p68 : lw_okq (⟨"SortKernelModel", "turn", "()I"⟩, 32) := ⟨⟨by decide +kernel, by decide +kernel⟩, List.mem_of_getElem? (i := 618) (by decide +kernel), List.mem_of_getElem? (i := 860) (by decide +kernel), List.mem_of_getElem? (i := 861) (by decide +kernel)⟩
theorem lw_p69 : lw_okq (⟨"SortKernelModel", "goesOn", "()Z"⟩, 32) := ⟨⟨by decide +kernel, by decide +kernel⟩, List.mem_of_getElem? (i := 618) (by decide +kernel), List.mem_of_getElem? (i := 864) (by decide +kernel), List.mem_of_getElem? (i := 865) (by decide +kernel)⟩
theorem lw_p70 : lw_okq (⟨"SortKernelModel", "stepsGo", "()Z"⟩, 32) := ⟨⟨by decide +kernel, by decide +kernel⟩, List.mem_of_getElem? (i := 618) (by decide +kernel), List.mem_of_getElem? (i := 868) (by decide +kernel), List.mem_of_getElem? (i := 869) (by decide +kernel)⟩
theorem lw_p71 : lw_okq (⟨"SortKernelModel", "at", "(I)I"⟩, 32) := ⟨⟨by decide +kernel, by decide +kernel⟩, List.mem_of_getElem? (i := 618) (by decide +kernel), List.mem_of_getElem? (i := 872) (by decide +kernel), List.mem_of_getElem? (i := 873) (by decide +kernel)⟩
theorem lw_p72 : lw_okq (⟨"SortKernelModel", "heapGoes", "()Z"⟩, 32) := ⟨⟨by decide +kernel, by decide +kernel⟩, List.mem_of_getElem? (i := 618) (by decide +kernel), List.mem_of_getElem? (i := 876) (by decide +kernel), List.mem_of_getElem? (i := 877) (by decide +kernel)⟩
theorem lw_p73 : lw_okq (⟨"SortKernelModel", "mergeGoes", "()Z"⟩, 32) := ⟨⟨by decide +kernel, by decide +kernel⟩, List.mem_of_getElem? (i := 618) (by decide +kernel), List.mem_of_getElem? (i := 880) (by decide +kernel), List.mem_of_getElem? (i := 881) (by decide +kernel)⟩
theorem lw_p74 : lw_okq (⟨"SortKernelModel", "rangeGoes", "()Z"⟩, 32) := ⟨⟨by decide +kernel, by decide +kernel⟩, List.mem_of_getElem? (i := 618) (by decide +kernel), List.mem_of_getElem? (i := 884) (by decide +kernel), List.mem_of_getElem? (i := 885) (by decide +kernel)⟩
theorem lw_p75 : lw_okq (⟨"SortKernelModel", "ahead", "(I)I"⟩, 32) := ⟨⟨by decide +kernel, by decide +kernel⟩, List.mem_of_getElem? (i := 618) (by decide +kernel), List.mem_of_getElem? (i := 909) (by decide +kernel), List.mem_of_getElem? (i := 910) (by decide +kernel)⟩
theorem lw_p76 : lw_okq (⟨"SortKernelModel", "gaps", "(I)I"⟩, 32) := ⟨⟨by decide +kernel, by decide +kernel⟩, List.mem_of_getElem? (i := 618) (by decide +kernel), List.mem_of_getElem? (i := 917) (by decide +kernel), List.mem_of_getElem? (i := 918) (by decide +kernel)⟩
def lw_privs_5 : List (MethodName × Nat) := [(⟨"SortKernelModel", "source", "()I"⟩, 32), (⟨"SortKernelModel", "widest", "()I"⟩, 32), (⟨"SortKernelModel", "range", "(II)Z"⟩, 32), (⟨"SortKernelModel", "putsBy", "()V"⟩, 32), (⟨"SortKernelModel", "turn", "()I"⟩, 32), (⟨"SortKernelModel", "goesOn", "()Z"⟩, 32), (⟨"SortKernelModel", "stepsGo", "()Z"⟩, 32), (⟨"SortKernelModel", "at", "(I)I"⟩, 32), (⟨"SortKernelModel", "heapGoes", "()Z"⟩, 32), (⟨"SortKernelModel", "mergeGoes", "()Z"⟩, 32), (⟨"SortKernelModel", "rangeGoes", "()Z"⟩, 32), (⟨"SortKernelModel", "ahead", "(I)I"⟩, 32), (⟨"SortKernelModel", "gaps", "(I)I"⟩, 32)]
theorem lw_r5 : ∀ q ∈ lw_privs_5, lw_okq q := List.forall_mem_cons.mpr ⟨lw_p64, List.forall_mem_cons.mpr ⟨lw_p65, List.forall_mem_cons.mpr ⟨lw_p66, List.forall_mem_cons.mpr ⟨lw_p67, List.forall_mem_cons.mpr ⟨lw_p68, List.forall_mem_cons.mpr ⟨lw_p69, List.forall_mem_cons.mpr ⟨lw_p70, List.forall_mem_cons.mpr ⟨lw_p71, List.forall_mem_cons.mpr ⟨lw_p72, List.forall_mem_cons.mpr ⟨lw_p73, List.forall_mem_cons.mpr ⟨lw_p74, List.forall_mem_cons.mpr ⟨lw_p75, List.forall_mem_cons.mpr ⟨lw_p76, fun _ h => absurd h List.not_mem_nil⟩⟩⟩⟩⟩⟩⟩⟩⟩⟩⟩⟩⟩
def lw_privs : List (MethodName × Nat) := lw_privs_1 ++ (lw_privs_2 ++ (lw_privs_3 ++ (lw_privs_4 ++ (lw_privs_5))))
def lw_tbl : List Cond := k2_sels lw_privs ++ tables_1
theorem lw_privs_ok : ∀ q ∈ lw_privs, lw_okq q := by
  show ∀ q ∈ lw_privs_1 ++ (lw_privs_2 ++ (lw_privs_3 ++ (lw_privs_4 ++ (lw_privs_5)))), lw_okq q
  exact List.forall_mem_append.mpr ⟨lw_r1, List.forall_mem_append.mpr ⟨lw_r2, List.forall_mem_append.mpr ⟨lw_r3, List.forall_mem_append.mpr ⟨lw_r4, lw_r5⟩⟩⟩⟩
end
section
def RX0 : String := "SortKernel$Arena"
def TX0 : u_T := fun k => match k with
  | 0 => ("SortKernel$Arena", "words", "[I", true)
  | _ => ("SortKernel$Arena", "base", "LSortKernel$Block;", true)
def tyX0 : Nat → FieldType := fun k => match k with
  | 0 => .array .int
  | _ => .object "SortKernel$Block"
abbrev wsX00 : List Cond := u_ws RX0 TX0 2
theorem nmX0 : ∀ a, a < 2 → ∀ b, b < 2 → a ≠ b → (TX0 a).2.1 ≠ (TX0 b).2.1 := by decide +kernel
theorem tyX0_ok : ∀ k, k < 2 → parseFieldDescriptor (TX0 k).2.2.1 = some (tyX0 k) := by decide +kernel
abbrev cX0_init : ByteArray := prog_2_method_1_code
def yX0_init : MethodName := ⟨RX0, "<init>", "(I)V"⟩
abbrev cX0_read : ByteArray := prog_2_method_2_code
def yX0_read : MethodName := ⟨RX0, "read", "(I)I"⟩
abbrev cX0_write : ByteArray := prog_2_method_3_code
def yX0_write : MethodName := ⟨RX0, "write", "(II)V"⟩
abbrev cX0_swap : ByteArray := prog_2_method_4_code
def yX0_swap : MethodName := ⟨RX0, "swap", "(II)V"⟩
abbrev cX0_clear : ByteArray := prog_2_method_5_code
def yX0_clear : MethodName := ⟨RX0, "clear", "(II)V"⟩
abbrev cX0_copy : ByteArray := prog_2_method_6_code
def yX0_copy : MethodName := ⟨RX0, "copy", "(III)V"⟩
abbrev cX0_gapBehind : ByteArray := prog_2_method_7_code
def yX0_gapBehind : MethodName := ⟨RX0, "gapBehind", "(LSortKernel$Block;)I"⟩
abbrev cX0_take : ByteArray := prog_2_method_8_code
def yX0_take : MethodName := ⟨RX0, "take", "(LSortKernel$Block;I)Z"⟩
abbrev cX0_putAt : ByteArray := prog_2_method_9_code
def yX0_putAt : MethodName := ⟨RX0, "putAt", "(LSortKernel$Block;II)V"⟩
abbrev cX0_link : ByteArray := prog_2_method_10_code
def yX0_link : MethodName := ⟨RX0, "link", "(LSortKernel$Block;LSortKernel$Block;II)V"⟩
abbrev cX0_giveBack : ByteArray := prog_2_method_11_code
def yX0_giveBack : MethodName := ⟨RX0, "giveBack", "(LSortKernel$Block;)V"⟩
abbrev cX0_moveAllDown : ByteArray := prog_2_method_12_code
def yX0_moveAllDown : MethodName := ⟨RX0, "moveAllDown", "()I"⟩
abbrev cX0_countFreeWords : ByteArray := prog_2_method_13_code
def yX0_countFreeWords : MethodName := ⟨RX0, "countFreeWords", "()I"⟩
abbrev cX0_sizeOfLargestGap : ByteArray := prog_2_method_14_code
def yX0_sizeOfLargestGap : MethodName := ⟨RX0, "sizeOfLargestGap", "()I"⟩
abbrev cX0_countGaps : ByteArray := prog_2_method_15_code
def yX0_countGaps : MethodName := ⟨RX0, "countGaps", "()I"⟩
def RX1 : String := "SortKernel$Block"
def TX1 : u_T := fun k => match k with
  | 0 => ("SortKernel$Block", "first", "I", false)
  | 1 => ("SortKernel$Block", "size", "I", false)
  | _ => ("SortKernel$Block", "next", "LSortKernel$Block;", false)
def tyX1 : Nat → FieldType := fun k => match k with
  | 0 => .int
  | 1 => .int
  | _ => .object "SortKernel$Block"
abbrev wsX10 : List Cond := u_ws RX1 TX1 3
theorem nmX1 : ∀ a, a < 3 → ∀ b, b < 3 → a ≠ b → (TX1 a).2.1 ≠ (TX1 b).2.1 := by decide +kernel
theorem tyX1_ok : ∀ k, k < 3 → parseFieldDescriptor (TX1 k).2.2.1 = some (tyX1 k) := by decide +kernel
abbrev cX1_init : ByteArray := prog_3_method_1_code
def yX1_init : MethodName := ⟨RX1, "<init>", "()V"⟩
abbrev cX1_end : ByteArray := prog_3_method_2_code
def yX1_end : MethodName := ⟨RX1, "end", "()I"⟩
def RX2 : String := "SortKernel$GapSorting"
def TX2 : u_T := fun k => match k with
  | 0 => ("SortKernel$Sorting", "arena", "LSortKernel$Arena;", true)
  | 1 => ("SortKernel$Sorting", "cells", "LSortKernel$Block;", true)
  | 2 => ("SortKernel$Sorting", "n", "I", true)
  | 3 => ("SortKernel$Sorting", "over", "Z", false)
  | 4 => ("SortKernel$GapSorting", "gap", "I", false)
  | 5 => ("SortKernel$GapSorting", "i", "I", false)
  | _ => ("SortKernel$GapSorting", "j", "I", false)
def tyX2 : Nat → FieldType := fun k => match k with
  | 0 => .object "SortKernel$Arena"
  | 1 => .object "SortKernel$Block"
  | 2 => .int
  | 3 => .boolean
  | 4 => .int
  | 5 => .int
  | _ => .int
abbrev wsX20 : List Cond := u_ws RX2 TX2 7
theorem nmX2 : ∀ a, a < 7 → ∀ b, b < 7 → a ≠ b → (TX2 a).2.1 ≠ (TX2 b).2.1 := by decide +kernel
theorem tyX2_ok : ∀ k, k < 7 → parseFieldDescriptor (TX2 k).2.2.1 = some (tyX2 k) := by decide +kernel
abbrev cX2_init : ByteArray := prog_4_method_1_code
def yX2_init : MethodName := ⟨RX2, "<init>", "(LSortKernel$Arena;LSortKernel$Block;I)V"⟩
abbrev cX2_begin : ByteArray := prog_4_method_2_code
def yX2_begin : MethodName := ⟨RX2, "begin", "()V"⟩
abbrev cX2_compareNext : ByteArray := prog_4_method_3_code
def yX2_compareNext : MethodName := ⟨RX2, "compareNext", "()V"⟩
abbrev cX2_goOnWithNextNumber : ByteArray := prog_4_method_4_code
def yX2_goOnWithNextNumber : MethodName := ⟨RX2, "goOnWithNextNumber", "()V"⟩
def RX3 : String := "SortKernel$HeapSorting"
def TX3 : u_T := fun k => match k with
  | 0 => ("SortKernel$Sorting", "arena", "LSortKernel$Arena;", true)
  | 1 => ("SortKernel$Sorting", "cells", "LSortKernel$Block;", true)
  | 2 => ("SortKernel$Sorting", "n", "I", true)
  | 3 => ("SortKernel$Sorting", "over", "Z", false)
  | 4 => ("SortKernel$HeapSorting", "root", "I", false)
  | 5 => ("SortKernel$HeapSorting", "end", "I", false)
  | 6 => ("SortKernel$HeapSorting", "node", "I", false)
  | 7 => ("SortKernel$HeapSorting", "child", "I", false)
  | _ => ("SortKernel$HeapSorting", "comparesChildren", "Z", false)
def tyX3 : Nat → FieldType := fun k => match k with
  | 0 => .object "SortKernel$Arena"
  | 1 => .object "SortKernel$Block"
  | 2 => .int
  | 3 => .boolean
  | 4 => .int
  | 5 => .int
  | 6 => .int
  | 7 => .int
  | _ => .boolean
abbrev wsX30 : List Cond := u_ws RX3 TX3 9
theorem nmX3 : ∀ a, a < 9 → ∀ b, b < 9 → a ≠ b → (TX3 a).2.1 ≠ (TX3 b).2.1 := by decide +kernel
theorem tyX3_ok : ∀ k, k < 9 → parseFieldDescriptor (TX3 k).2.2.1 = some (tyX3 k) := by decide +kernel
abbrev cX3_init : ByteArray := prog_5_method_1_code
def yX3_init : MethodName := ⟨RX3, "<init>", "(LSortKernel$Arena;LSortKernel$Block;)V"⟩
abbrev cX3_begin : ByteArray := prog_5_method_2_code
def yX3_begin : MethodName := ⟨RX3, "begin", "()V"⟩
abbrev cX3_compareNext : ByteArray := prog_5_method_3_code
def yX3_compareNext : MethodName := ⟨RX3, "compareNext", "()V"⟩
abbrev cX3_sinkFrom : ByteArray := prog_5_method_4_code
def yX3_sinkFrom : MethodName := ⟨RX3, "sinkFrom", "(I)V"⟩
abbrev cX3_goOnWithNextSink : ByteArray := prog_5_method_5_code
def yX3_goOnWithNextSink : MethodName := ⟨RX3, "goOnWithNextSink", "()V"⟩
def RX4 : String := "SortKernel$Job"
def TX4 : u_T := fun k => match k with
  | 0 => ("SortKernel$Job", "number", "I", true)
  | 1 => ("SortKernel$Job", "way", "I", true)
  | 2 => ("SortKernel$Job", "cells", "LSortKernel$Block;", true)
  | 3 => ("SortKernel$Job", "buffer", "LSortKernel$Block;", true)
  | 4 => ("SortKernel$Job", "priority", "I", false)
  | 5 => ("SortKernel$Job", "state", "I", false)
  | 6 => ("SortKernel$Job", "comparisons", "I", false)
  | 7 => ("SortKernel$Job", "submittedAt", "I", false)
  | 8 => ("SortKernel$Job", "doneAt", "I", false)
  | 9 => ("SortKernel$Job", "sorting", "LSortKernel$Sorting;", false)
  | _ => ("SortKernel$Job", "behind", "LSortKernel$Job;", false)
def tyX4 : Nat → FieldType := fun k => match k with
  | 0 => .int
  | 1 => .int
  | 2 => .object "SortKernel$Block"
  | 3 => .object "SortKernel$Block"
  | 4 => .int
  | 5 => .int
  | 6 => .int
  | 7 => .int
  | 8 => .int
  | 9 => .object "SortKernel$Sorting"
  | _ => .object "SortKernel$Job"
abbrev wsX40 : List Cond := u_ws RX4 TX4 11
theorem nmX4 : ∀ a, a < 11 → ∀ b, b < 11 → a ≠ b → (TX4 a).2.1 ≠ (TX4 b).2.1 := by decide +kernel
theorem tyX4_ok : ∀ k, k < 11 → parseFieldDescriptor (TX4 k).2.2.1 = some (tyX4 k) := by decide +kernel
abbrev cX4_init : ByteArray := prog_6_method_1_code
def yX4_init : MethodName := ⟨RX4, "<init>", "(III)V"⟩
abbrev cX4_hasNumber : ByteArray := prog_6_method_2_code
def yX4_hasNumber : MethodName := ⟨RX4, "hasNumber", "(I)Z"⟩
abbrev cX4_isSorted : ByteArray := prog_6_method_3_code
def yX4_isSorted : MethodName := ⟨RX4, "isSorted", "()Z"⟩
abbrev cX4_compareUpTo : ByteArray := prog_6_method_4_code
def yX4_compareUpTo : MethodName := ⟨RX4, "compareUpTo", "(I)I"⟩
def RX5 : String := "SortKernel$MergeSorting"
def TX5 : u_T := fun k => match k with
  | 0 => ("SortKernel$Sorting", "arena", "LSortKernel$Arena;", true)
  | 1 => ("SortKernel$Sorting", "cells", "LSortKernel$Block;", true)
  | 2 => ("SortKernel$Sorting", "n", "I", true)
  | 3 => ("SortKernel$Sorting", "over", "Z", false)
  | 4 => ("SortKernel$MergeSorting", "buffer", "LSortKernel$Block;", true)
  | 5 => ("SortKernel$MergeSorting", "inBuffer", "Z", false)
  | 6 => ("SortKernel$MergeSorting", "width", "I", false)
  | 7 => ("SortKernel$MergeSorting", "first", "I", false)
  | 8 => ("SortKernel$MergeSorting", "firstEnd", "I", false)
  | 9 => ("SortKernel$MergeSorting", "second", "I", false)
  | 10 => ("SortKernel$MergeSorting", "secondEnd", "I", false)
  | _ => ("SortKernel$MergeSorting", "out", "I", false)
def tyX5 : Nat → FieldType := fun k => match k with
  | 0 => .object "SortKernel$Arena"
  | 1 => .object "SortKernel$Block"
  | 2 => .int
  | 3 => .boolean
  | 4 => .object "SortKernel$Block"
  | 5 => .boolean
  | 6 => .int
  | 7 => .int
  | 8 => .int
  | 9 => .int
  | 10 => .int
  | _ => .int
abbrev wsX50 : List Cond := u_ws RX5 TX5 12
theorem nmX5 : ∀ a, a < 12 → ∀ b, b < 12 → a ≠ b → (TX5 a).2.1 ≠ (TX5 b).2.1 := by decide +kernel
theorem tyX5_ok : ∀ k, k < 12 → parseFieldDescriptor (TX5 k).2.2.1 = some (tyX5 k) := by decide +kernel
abbrev cX5_init : ByteArray := prog_7_method_1_code
def yX5_init : MethodName := ⟨RX5, "<init>", "(LSortKernel$Arena;LSortKernel$Block;LSortKernel$Block;)V"⟩
abbrev cX5_begin : ByteArray := prog_7_method_2_code
def yX5_begin : MethodName := ⟨RX5, "begin", "()V"⟩
abbrev cX5_compareNext : ByteArray := prog_7_method_3_code
def yX5_compareNext : MethodName := ⟨RX5, "compareNext", "()V"⟩
abbrev cX5_from : ByteArray := prog_7_method_4_code
def yX5_from : MethodName := ⟨RX5, "from", "()I"⟩
abbrev cX5_to : ByteArray := prog_7_method_5_code
def yX5_to : MethodName := ⟨RX5, "to", "()I"⟩
abbrev cX5_standAt : ByteArray := prog_7_method_6_code
def yX5_standAt : MethodName := ⟨RX5, "standAt", "(I)V"⟩
abbrev cX5_goOnWithNextRows : ByteArray := prog_7_method_7_code
def yX5_goOnWithNextRows : MethodName := ⟨RX5, "goOnWithNextRows", "()V"⟩
abbrev cX5_copyRest : ByteArray := prog_7_method_8_code
def yX5_copyRest : MethodName := ⟨RX5, "copyRest", "()V"⟩
abbrev cX5_endPass : ByteArray := prog_7_method_9_code
def yX5_endPass : MethodName := ⟨RX5, "endPass", "()V"⟩
def RX6 : String := "SortKernel$QuickSorting"
def TX6 : u_T := fun k => match k with
  | 0 => ("SortKernel$Sorting", "arena", "LSortKernel$Arena;", true)
  | 1 => ("SortKernel$Sorting", "cells", "LSortKernel$Block;", true)
  | 2 => ("SortKernel$Sorting", "n", "I", true)
  | 3 => ("SortKernel$Sorting", "over", "Z", false)
  | 4 => ("SortKernel$QuickSorting", "buffer", "LSortKernel$Block;", true)
  | 5 => ("SortKernel$QuickSorting", "stacked", "I", false)
  | 6 => ("SortKernel$QuickSorting", "low", "I", false)
  | 7 => ("SortKernel$QuickSorting", "high", "I", false)
  | 8 => ("SortKernel$QuickSorting", "store", "I", false)
  | _ => ("SortKernel$QuickSorting", "k", "I", false)
def tyX6 : Nat → FieldType := fun k => match k with
  | 0 => .object "SortKernel$Arena"
  | 1 => .object "SortKernel$Block"
  | 2 => .int
  | 3 => .boolean
  | 4 => .object "SortKernel$Block"
  | 5 => .int
  | 6 => .int
  | 7 => .int
  | 8 => .int
  | _ => .int
abbrev wsX60 : List Cond := u_ws RX6 TX6 10
theorem nmX6 : ∀ a, a < 10 → ∀ b, b < 10 → a ≠ b → (TX6 a).2.1 ≠ (TX6 b).2.1 := by decide +kernel
theorem tyX6_ok : ∀ k, k < 10 → parseFieldDescriptor (TX6 k).2.2.1 = some (tyX6 k) := by decide +kernel
abbrev cX6_init : ByteArray := prog_8_method_1_code
def yX6_init : MethodName := ⟨RX6, "<init>", "(LSortKernel$Arena;LSortKernel$Block;LSortKernel$Block;)V"⟩
abbrev cX6_begin : ByteArray := prog_8_method_2_code
def yX6_begin : MethodName := ⟨RX6, "begin", "()V"⟩
abbrev cX6_compareNext : ByteArray := prog_8_method_3_code
def yX6_compareNext : MethodName := ⟨RX6, "compareNext", "()V"⟩
abbrev cX6_startRange : ByteArray := prog_8_method_4_code
def yX6_startRange : MethodName := ⟨RX6, "startRange", "()V"⟩
abbrev cX6_chooseRange : ByteArray := prog_8_method_5_code
def yX6_chooseRange : MethodName := ⟨RX6, "chooseRange", "()V"⟩
abbrev cX6_stack : ByteArray := prog_8_method_6_code
def yX6_stack : MethodName := ⟨RX6, "stack", "(II)V"⟩
abbrev cX6_takeLatestStacked : ByteArray := prog_8_method_7_code
def yX6_takeLatestStacked : MethodName := ⟨RX6, "takeLatestStacked", "()V"⟩
def RX7 : String := "SortKernel$ReadyLine"
def TX7 : u_T := fun k => match k with
  | _ => ("SortKernel$ReadyLine", "first", "LSortKernel$Job;", false)
def tyX7 : Nat → FieldType := fun k => match k with
  | _ => .object "SortKernel$Job"
abbrev wsX70 : List Cond := u_ws RX7 TX7 1
theorem nmX7 : ∀ a, a < 1 → ∀ b, b < 1 → a ≠ b → (TX7 a).2.1 ≠ (TX7 b).2.1 := by decide +kernel
theorem tyX7_ok : ∀ k, k < 1 → parseFieldDescriptor (TX7 k).2.2.1 = some (tyX7 k) := by decide +kernel
abbrev cX7_init : ByteArray := prog_9_method_1_code
def yX7_init : MethodName := ⟨RX7, "<init>", "()V"⟩
abbrev cX7_enter : ByteArray := prog_9_method_2_code
def yX7_enter : MethodName := ⟨RX7, "enter", "(LSortKernel$Job;)V"⟩
abbrev cX7_leave : ByteArray := prog_9_method_3_code
def yX7_leave : MethodName := ⟨RX7, "leave", "(LSortKernel$Job;)V"⟩
abbrev cX7_unlink : ByteArray := prog_9_method_4_code
def yX7_unlink : MethodName := ⟨RX7, "unlink", "(LSortKernel$Job;LSortKernel$Job;)V"⟩
abbrev cX7_countAheadOf : ByteArray := prog_9_method_5_code
def yX7_countAheadOf : MethodName := ⟨RX7, "countAheadOf", "(LSortKernel$Job;)I"⟩
abbrev cX7_length : ByteArray := prog_9_method_6_code
def yX7_length : MethodName := ⟨RX7, "length", "()I"⟩
def RX8 : String := "SortKernel$Sorting"
def TX8 : u_T := fun k => match k with
  | _ => ("", "", "", false)
def tyX8 : Nat → FieldType := fun k => match k with
  | _ => .int
abbrev wsX80 : List Cond := u_ws RX8 TX8 0
theorem nmX8 : ∀ a, a < 0 → ∀ b, b < 0 → a ≠ b → (TX8 a).2.1 ≠ (TX8 b).2.1 := by decide +kernel
theorem tyX8_ok : ∀ k, k < 0 → parseFieldDescriptor (TX8 k).2.2.1 = some (tyX8 k) := by decide +kernel
abbrev cX8_init : ByteArray := prog_10_method_1_code
def yX8_init : MethodName := ⟨RX8, "<init>", "(LSortKernel$Arena;LSortKernel$Block;)V"⟩
abbrev cX8_cell : ByteArray := prog_10_method_4_code
def yX8_cell : MethodName := ⟨RX8, "cell", "(I)I"⟩
abbrev cX8_swap : ByteArray := prog_10_method_5_code
def yX8_swap : MethodName := ⟨RX8, "swap", "(II)V"⟩
def RX9 : String := "SortKernel"
def TX9 : u_T := fun k => match k with
  | 0 => ("SortKernel", "arena", "LSortKernel$Arena;", true)
  | 1 => ("SortKernel", "jobs", "[LSortKernel$Job;", true)
  | 2 => ("SortKernel", "ready", "LSortKernel$ReadyLine;", true)
  | 3 => ("SortKernel", "quantum", "I", true)
  | 4 => ("SortKernel", "clock", "I", false)
  | _ => ("SortKernel", "comparisons", "I", false)
def tyX9 : Nat → FieldType := fun k => match k with
  | 0 => .object "SortKernel$Arena"
  | 1 => .array (.object "SortKernel$Job")
  | 2 => .object "SortKernel$ReadyLine"
  | 3 => .int
  | 4 => .int
  | _ => .int
abbrev wsX90 : List Cond := u_ws RX9 TX9 6
theorem nmX9 : ∀ a, a < 6 → ∀ b, b < 6 → a ≠ b → (TX9 a).2.1 ≠ (TX9 b).2.1 := by decide +kernel
theorem tyX9_ok : ∀ k, k < 6 → parseFieldDescriptor (TX9 k).2.2.1 = some (tyX9 k) := by decide +kernel
abbrev cX9_init : ByteArray := prog_1_method_1_code
def yX9_init : MethodName := ⟨RX9, "<init>", "(III)V"⟩
abbrev cX9_open : ByteArray := prog_1_method_2_code
def yX9_open : MethodName := ⟨RX9, "open", "(III)I"⟩
abbrev cX9_put : ByteArray := prog_1_method_3_code
def yX9_put : MethodName := ⟨RX9, "put", "(III)I"⟩
abbrev cX9_resize : ByteArray := prog_1_method_4_code
def yX9_resize : MethodName := ⟨RX9, "resize", "(II)I"⟩
abbrev cX9_submit : ByteArray := prog_1_method_5_code
def yX9_submit : MethodName := ⟨RX9, "submit", "(I)I"⟩
abbrev cX9_tick : ByteArray := prog_1_method_6_code
def yX9_tick : MethodName := ⟨RX9, "tick", "()I"⟩
abbrev cX9_run : ByteArray := prog_1_method_7_code
def yX9_run : MethodName := ⟨RX9, "run", "(I)I"⟩
abbrev cX9_state : ByteArray := prog_1_method_8_code
def yX9_state : MethodName := ⟨RX9, "state", "(I)I"⟩
abbrev cX9_get : ByteArray := prog_1_method_9_code
def yX9_get : MethodName := ⟨RX9, "get", "(II)I"⟩
abbrev cX9_cancel : ByteArray := prog_1_method_10_code
def yX9_cancel : MethodName := ⟨RX9, "cancel", "(I)I"⟩
abbrev cX9_raise : ByteArray := prog_1_method_11_code
def yX9_raise : MethodName := ⟨RX9, "raise", "(II)I"⟩
abbrev cX9_close : ByteArray := prog_1_method_12_code
def yX9_close : MethodName := ⟨RX9, "close", "(I)I"⟩
abbrev cX9_pack : ByteArray := prog_1_method_13_code
def yX9_pack : MethodName := ⟨RX9, "pack", "()I"⟩
abbrev cX9_word : ByteArray := prog_1_method_14_code
def yX9_word : MethodName := ⟨RX9, "word", "(I)I"⟩
abbrev cX9_job : ByteArray := prog_1_method_15_code
def yX9_job : MethodName := ⟨RX9, "job", "(II)I"⟩
abbrev cX9_count : ByteArray := prog_1_method_16_code
def yX9_count : MethodName := ⟨RX9, "count", "(I)I"⟩
abbrev cX9_nearest : ByteArray := prog_1_method_17_code
def yX9_nearest : MethodName := ⟨RX9, "nearest", "(III)I"⟩
abbrev cX9_isBetween : ByteArray := prog_1_method_18_code
def yX9_isBetween : MethodName := ⟨RX9, "isBetween", "(III)Z"⟩
abbrev cX9_isCount : ByteArray := prog_1_method_19_code
def yX9_isCount : MethodName := ⟨RX9, "isCount", "(I)Z"⟩
abbrev cX9_isPriority : ByteArray := prog_1_method_20_code
def yX9_isPriority : MethodName := ⟨RX9, "isPriority", "(I)Z"⟩
abbrev cX9_find : ByteArray := prog_1_method_21_code
def yX9_find : MethodName := ⟨RX9, "find", "(I)LSortKernel$Job;"⟩
abbrev cX9_leastFreeNumber : ByteArray := prog_1_method_22_code
def yX9_leastFreeNumber : MethodName := ⟨RX9, "leastFreeNumber", "()I"⟩
abbrev cX9_countJobs : ByteArray := prog_1_method_23_code
def yX9_countJobs : MethodName := ⟨RX9, "countJobs", "()I"⟩
abbrev cX9_bufferSize : ByteArray := prog_1_method_24_code
def yX9_bufferSize : MethodName := ⟨RX9, "bufferSize", "(II)I"⟩
abbrev cX9_takeCellsAndBuffer : ByteArray := prog_1_method_25_code
def yX9_takeCellsAndBuffer : MethodName := ⟨RX9, "takeCellsAndBuffer", "(LSortKernel$Job;I)Z"⟩
abbrev cX9_exchangeBlocks : ByteArray := prog_1_method_26_code
def yX9_exchangeBlocks : MethodName := ⟨RX9, "exchangeBlocks", "(LSortKernel$Job;I)Z"⟩
abbrev cX9_sortingOf : ByteArray := prog_1_method_27_code
def yX9_sortingOf : MethodName := ⟨RX9, "sortingOf", "(LSortKernel$Job;)LSortKernel$Sorting;"⟩
abbrev cX9_greatestGapBelow : ByteArray := prog_1_method_28_code
def yX9_greatestGapBelow : MethodName := ⟨RX9, "greatestGapBelow", "(I)I"⟩
abbrev cX9_takeTurn : ByteArray := prog_1_method_29_code
def yX9_takeTurn : MethodName := ⟨RX9, "takeTurn", "()I"⟩
def RX10 : String := "SortKernelModel"
def TX10 : u_T := fun k => match k with
  | 0 => ("SortKernelModel", "words", "I", true)
  | 1 => ("SortKernelModel", "jobs", "I", true)
  | 2 => ("SortKernelModel", "quantum", "I", true)
  | 3 => ("SortKernelModel", "arena", "[I", true)
  | 4 => ("SortKernelModel", "state", "[I", true)
  | 5 => ("SortKernelModel", "many", "[I", true)
  | 6 => ("SortKernelModel", "way", "[I", true)
  | 7 => ("SortKernelModel", "priority", "[I", true)
  | 8 => ("SortKernelModel", "made", "[I", true)
  | 9 => ("SortKernelModel", "cells", "[I", true)
  | 10 => ("SortKernelModel", "buffer", "[I", true)
  | 11 => ("SortKernelModel", "stamp", "[I", true)
  | 12 => ("SortKernelModel", "began", "[I", true)
  | 13 => ("SortKernelModel", "ended", "[I", true)
  | 14 => ("SortKernelModel", "hasMore", "[Z", true)
  | 15 => ("SortKernelModel", "clock", "I", false)
  | 16 => ("SortKernelModel", "stamps", "I", false)
  | 17 => ("SortKernelModel", "all", "I", false)
  | 18 => ("SortKernelModel", "kept", "[I", true)
  | 19 => ("SortKernelModel", "stands", "[I", true)
  | 20 => ("SortKernelModel", "now", "I", false)
  | 21 => ("SortKernelModel", "n", "I", false)
  | 22 => ("SortKernelModel", "x", "I", false)
  | 23 => ("SortKernelModel", "y", "I", false)
  | 24 => ("SortKernelModel", "z", "I", false)
  | 25 => ("SortKernelModel", "u", "I", false)
  | 26 => ("SortKernelModel", "v", "I", false)
  | 27 => ("SortKernelModel", "p", "I", false)
  | 28 => ("SortKernelModel", "q", "I", false)
  | 29 => ("SortKernelModel", "\x72", "I", false)
  | 30 => ("SortKernelModel", "t", "I", false)
  | _ => ("SortKernelModel", "w", "I", false)
def tyX10 : Nat → FieldType := fun k => match k with
  | 0 => .int
  | 1 => .int
  | 2 => .int
  | 3 => .array .int
  | 4 => .array .int
  | 5 => .array .int
  | 6 => .array .int
  | 7 => .array .int
  | 8 => .array .int
  | 9 => .array .int
  | 10 => .array .int
  | 11 => .array .int
  | 12 => .array .int
  | 13 => .array .int
  | 14 => .array .boolean
  | 15 => .int
  | 16 => .int
  | 17 => .int
  | 18 => .array .int
  | 19 => .array .int
  | 20 => .int
  | 21 => .int
  | 22 => .int
  | 23 => .int
  | 24 => .int
  | 25 => .int
  | 26 => .int
  | 27 => .int
  | 28 => .int
  | 29 => .int
  | 30 => .int
  | _ => .int
abbrev wsX100 : List Cond := u_ws RX10 TX10 32
theorem nmX10 : ∀ a, a < 32 → ∀ b, b < 32 → a ≠ b → (TX10 a).2.1 ≠ (TX10 b).2.1 := by decide +kernel
theorem tyX10_ok : ∀ k, k < 32 → parseFieldDescriptor (TX10 k).2.2.1 = some (tyX10 k) := by decide +kernel
abbrev cX10_init : ByteArray := prog_12_method_1_code
def yX10_init : MethodName := ⟨RX10, "<init>", "(III)V"⟩
abbrev cX10_bufferSize : ByteArray := prog_12_method_2_code
def yX10_bufferSize : MethodName := ⟨RX10, "bufferSize", "(I)I"⟩
abbrev cX10_has : ByteArray := prog_12_method_3_code
def yX10_has : MethodName := ⟨RX10, "has", "(I)Z"⟩
abbrev cX10_nextFrom : ByteArray := prog_12_method_4_code
def yX10_nextFrom : MethodName := ⟨RX10, "nextFrom", "(I)I"⟩
abbrev cX10_beginOf : ByteArray := prog_12_method_5_code
def yX10_beginOf : MethodName := ⟨RX10, "beginOf", "(I)I"⟩
abbrev cX10_sizeOf : ByteArray := prog_12_method_6_code
def yX10_sizeOf : MethodName := ⟨RX10, "sizeOf", "(I)I"⟩
abbrev cX10_room : ByteArray := prog_12_method_7_code
def yX10_room : MethodName := ⟨RX10, "room", "(I)I"⟩
abbrev cX10_gaps : ByteArray := prog_12_method_8_code
def yX10_gaps : MethodName := ⟨RX10, "gaps", "(I)I"⟩
abbrev cX10_takes : ByteArray := prog_12_method_9_code
def yX10_takes : MethodName := ⟨RX10, "takes", "(IZ)Z"⟩
abbrev cX10_isJob : ByteArray := prog_12_method_10_code
def yX10_isJob : MethodName := ⟨RX10, "isJob", "(I)Z"⟩
abbrev cX10_open : ByteArray := prog_12_method_11_code
def yX10_open : MethodName := ⟨RX10, "open", "(III)I"⟩
abbrev cX10_put : ByteArray := prog_12_method_12_code
def yX10_put : MethodName := ⟨RX10, "put", "(III)I"⟩
abbrev cX10_resize : ByteArray := prog_12_method_13_code
def yX10_resize : MethodName := ⟨RX10, "resize", "(II)I"⟩
abbrev cX10_goesToEnd : ByteArray := prog_12_method_14_code
def yX10_goesToEnd : MethodName := ⟨RX10, "goesToEnd", "(I)V"⟩
abbrev cX10_submit : ByteArray := prog_12_method_15_code
def yX10_submit : MethodName := ⟨RX10, "submit", "(I)I"⟩
abbrev cX10_cancel : ByteArray := prog_12_method_16_code
def yX10_cancel : MethodName := ⟨RX10, "cancel", "(I)I"⟩
abbrev cX10_raise : ByteArray := prog_12_method_17_code
def yX10_raise : MethodName := ⟨RX10, "raise", "(II)I"⟩
abbrev cX10_close : ByteArray := prog_12_method_18_code
def yX10_close : MethodName := ⟨RX10, "close", "(I)I"⟩
abbrev cX10_pack : ByteArray := prog_12_method_19_code
def yX10_pack : MethodName := ⟨RX10, "pack", "()I"⟩
abbrev cX10_takesUp : ByteArray := prog_12_method_20_code
def yX10_takesUp : MethodName := ⟨RX10, "takesUp", "(I)V"⟩
abbrev cX10_putsBy : ByteArray := prog_12_method_21_code
def yX10_putsBy : MethodName := ⟨RX10, "putsBy", "()V"⟩
abbrev cX10_at : ByteArray := prog_12_method_22_code
def yX10_at : MethodName := ⟨RX10, "at", "(I)I"⟩
abbrev cX10_change : ByteArray := prog_12_method_23_code
def yX10_change : MethodName := ⟨RX10, "change", "(II)V"⟩
abbrev cX10_begins : ByteArray := prog_12_method_24_code
def yX10_begins : MethodName := ⟨RX10, "begins", "()Z"⟩
abbrev cX10_goesOn : ByteArray := prog_12_method_25_code
def yX10_goesOn : MethodName := ⟨RX10, "goesOn", "()Z"⟩
abbrev cX10_widest : ByteArray := prog_12_method_26_code
def yX10_widest : MethodName := ⟨RX10, "widest", "()I"⟩
abbrev cX10_stepsBegin : ByteArray := prog_12_method_27_code
def yX10_stepsBegin : MethodName := ⟨RX10, "stepsBegin", "(I)Z"⟩
abbrev cX10_stepsStand : ByteArray := prog_12_method_28_code
def yX10_stepsStand : MethodName := ⟨RX10, "stepsStand", "()Z"⟩
abbrev cX10_stepsGo : ByteArray := prog_12_method_29_code
def yX10_stepsGo : MethodName := ⟨RX10, "stepsGo", "()Z"⟩
abbrev cX10_heapBegins : ByteArray := prog_12_method_30_code
def yX10_heapBegins : MethodName := ⟨RX10, "heapBegins", "()Z"⟩
abbrev cX10_heapNext : ByteArray := prog_12_method_31_code
def yX10_heapNext : MethodName := ⟨RX10, "heapNext", "()Z"⟩
abbrev cX10_heapStands : ByteArray := prog_12_method_32_code
def yX10_heapStands : MethodName := ⟨RX10, "heapStands", "()Z"⟩
abbrev cX10_heapGoes : ByteArray := prog_12_method_33_code
def yX10_heapGoes : MethodName := ⟨RX10, "heapGoes", "()Z"⟩
abbrev cX10_mergeBegins : ByteArray := prog_12_method_34_code
def yX10_mergeBegins : MethodName := ⟨RX10, "mergeBegins", "()Z"⟩
abbrev cX10_rows : ByteArray := prog_12_method_35_code
def yX10_rows : MethodName := ⟨RX10, "rows", "(I)V"⟩
abbrev cX10_source : ByteArray := prog_12_method_36_code
def yX10_source : MethodName := ⟨RX10, "source", "()I"⟩
abbrev cX10_target : ByteArray := prog_12_method_37_code
def yX10_target : MethodName := ⟨RX10, "target", "()I"⟩
abbrev cX10_mergeStands : ByteArray := prog_12_method_38_code
def yX10_mergeStands : MethodName := ⟨RX10, "mergeStands", "()Z"⟩
abbrev cX10_mergeGoes : ByteArray := prog_12_method_39_code
def yX10_mergeGoes : MethodName := ⟨RX10, "mergeGoes", "()Z"⟩
abbrev cX10_range : ByteArray := prog_12_method_40_code
def yX10_range : MethodName := ⟨RX10, "range", "(II)Z"⟩
abbrev cX10_rangeGoes : ByteArray := prog_12_method_41_code
def yX10_rangeGoes : MethodName := ⟨RX10, "rangeGoes", "()Z"⟩
abbrev cX10_turn : ByteArray := prog_12_method_42_code
def yX10_turn : MethodName := ⟨RX10, "turn", "()I"⟩
abbrev cX10_tick : ByteArray := prog_12_method_43_code
def yX10_tick : MethodName := ⟨RX10, "tick", "()I"⟩
abbrev cX10_run : ByteArray := prog_12_method_44_code
def yX10_run : MethodName := ⟨RX10, "run", "(I)I"⟩
abbrev cX10_state : ByteArray := prog_12_method_45_code
def yX10_state : MethodName := ⟨RX10, "state", "(I)I"⟩
abbrev cX10_get : ByteArray := prog_12_method_46_code
def yX10_get : MethodName := ⟨RX10, "get", "(II)I"⟩
abbrev cX10_word : ByteArray := prog_12_method_47_code
def yX10_word : MethodName := ⟨RX10, "word", "(I)I"⟩
abbrev cX10_ahead : ByteArray := prog_12_method_48_code
def yX10_ahead : MethodName := ⟨RX10, "ahead", "(I)I"⟩
abbrev cX10_job : ByteArray := prog_12_method_49_code
def yX10_job : MethodName := ⟨RX10, "job", "(II)I"⟩
abbrev cX10_count : ByteArray := prog_12_method_50_code
def yX10_count : MethodName := ⟨RX10, "count", "(I)I"⟩
def RL : String := "SortKernelLaw"
abbrev cL_cell : ByteArray := method_2_code
def yL_cell : MethodName := ⟨RL, "cell", "([II)I"⟩
abbrev cL_law : ByteArray := code
def yL_law : MethodName := ⟨RL, "law", "([I)Z"⟩
abbrev vwCl : List vw_C := [(RX0, TX0, 2), (RX1, TX1, 3), (RX2, TX2, 7), (RX3, TX3, 9), (RX4, TX4, 11), (RX5, TX5, 12), (RX6, TX6, 10), (RX7, TX7, 1), (RX9, TX9, 6), (RX10, TX10, 32)]
end
section
theorem dX0_init_0 : decode cX0_init 0 = .ok (.aload_n 0, 1) := by decide +kernel
theorem dX0_init_1 : decode cX0_init 1 = .ok (.invokespecial 3, 3) := by decide +kernel
theorem dX0_init_4 : decode cX0_init 4 = .ok (.aload_n 0, 1) := by decide +kernel
theorem dX0_init_5 : decode cX0_init 5 = .ok (.iload_n 1, 1) := by decide +kernel
theorem dX0_init_6 : decode cX0_init 6 = .ok (.iconst 0, 1) := by decide +kernel
theorem dX0_init_7 : decode cX0_init 7 = .ok (.invokestatic 9, 3) := by decide +kernel
theorem dX0_init_10 : decode cX0_init 10 = .ok (.newarray .int, 2) := by decide +kernel
theorem dX0_init_12 : decode cX0_init 12 = .ok (.putfield 15, 3) := by decide +kernel
theorem dX0_init_15 : decode cX0_init 15 = .ok (.aload_n 0, 1) := by decide +kernel
theorem dX0_init_16 : decode cX0_init 16 = .ok (.new 21, 3) := by decide +kernel
theorem dX0_init_19 : decode cX0_init 19 = .ok (.dup, 1) := by decide +kernel
theorem dX0_init_20 : decode cX0_init 20 = .ok (.invokespecial 23, 3) := by decide +kernel
theorem dX0_init_23 : decode cX0_init 23 = .ok (.putfield 24, 3) := by decide +kernel
theorem dX0_init_26 : decode cX0_init 26 = .ok (.aload_n 0, 1) := by decide +kernel
theorem dX0_init_27 : decode cX0_init 27 = .ok (.getfield 24, 3) := by decide +kernel
theorem dX0_init_30 : decode cX0_init 30 = .ok (.iconst 0, 1) := by decide +kernel
theorem dX0_init_31 : decode cX0_init 31 = .ok (.putfield 28, 3) := by decide +kernel
theorem dX0_init_34 : decode cX0_init 34 = .ok (.return_, 1) := by decide +kernel
theorem dX0_read_0 : decode cX0_read 0 = .ok (.iload_n 1, 1) := by decide +kernel
theorem dX0_read_1 : decode cX0_read 1 = .ok (.ifCond .lt 21, 3) := by decide +kernel
theorem dX0_read_4 : decode cX0_read 4 = .ok (.iload_n 1, 1) := by decide +kernel
theorem dX0_read_5 : decode cX0_read 5 = .ok (.aload_n 0, 1) := by decide +kernel
theorem dX0_read_6 : decode cX0_read 6 = .ok (.getfield 15, 3) := by decide +kernel
theorem dX0_read_9 : decode cX0_read 9 = .ok (.arraylength, 1) := by decide +kernel
theorem dX0_read_10 : decode cX0_read 10 = .ok (.if_icmp .ge 12, 3) := by decide +kernel
theorem dX0_read_13 : decode cX0_read 13 = .ok (.aload_n 0, 1) := by decide +kernel
theorem dX0_read_14 : decode cX0_read 14 = .ok (.getfield 15, 3) := by decide +kernel
theorem dX0_read_17 : decode cX0_read 17 = .ok (.iload_n 1, 1) := by decide +kernel
theorem dX0_read_18 : decode cX0_read 18 = .ok (.iaload, 1) := by decide +kernel
theorem dX0_read_19 : decode cX0_read 19 = .ok (.goto 4, 3) := by decide +kernel
theorem dX0_read_22 : decode cX0_read 22 = .ok (.iconst 0, 1) := by decide +kernel
theorem dX0_read_23 : decode cX0_read 23 = .ok (.ireturn, 1) := by decide +kernel
theorem dX0_write_0 : decode cX0_write 0 = .ok (.iload_n 1, 1) := by decide +kernel
theorem dX0_write_1 : decode cX0_write 1 = .ok (.ifCond .lt 19, 3) := by decide +kernel
theorem dX0_write_4 : decode cX0_write 4 = .ok (.iload_n 1, 1) := by decide +kernel
theorem dX0_write_5 : decode cX0_write 5 = .ok (.aload_n 0, 1) := by decide +kernel
theorem dX0_write_6 : decode cX0_write 6 = .ok (.getfield 15, 3) := by decide +kernel
theorem dX0_write_9 : decode cX0_write 9 = .ok (.arraylength, 1) := by decide +kernel
theorem dX0_write_10 : decode cX0_write 10 = .ok (.if_icmp .ge 10, 3) := by decide +kernel
theorem dX0_write_13 : decode cX0_write 13 = .ok (.aload_n 0, 1) := by decide +kernel
theorem dX0_write_14 : decode cX0_write 14 = .ok (.getfield 15, 3) := by decide +kernel
theorem dX0_write_17 : decode cX0_write 17 = .ok (.iload_n 1, 1) := by decide +kernel
theorem dX0_write_18 : decode cX0_write 18 = .ok (.iload_n 2, 1) := by decide +kernel
theorem dX0_write_19 : decode cX0_write 19 = .ok (.iastore, 1) := by decide +kernel
theorem dX0_write_20 : decode cX0_write 20 = .ok (.return_, 1) := by decide +kernel
theorem dX0_swap_0 : decode cX0_swap 0 = .ok (.iload_n 1, 1) := by decide +kernel
theorem dX0_swap_1 : decode cX0_swap 1 = .ok (.ifCond .lt 51, 3) := by decide +kernel
theorem dX0_swap_4 : decode cX0_swap 4 = .ok (.iload_n 1, 1) := by decide +kernel
theorem dX0_swap_5 : decode cX0_swap 5 = .ok (.aload_n 0, 1) := by decide +kernel
theorem dX0_swap_6 : decode cX0_swap 6 = .ok (.getfield 15, 3) := by decide +kernel
theorem dX0_swap_9 : decode cX0_swap 9 = .ok (.arraylength, 1) := by decide +kernel
theorem dX0_swap_10 : decode cX0_swap 10 = .ok (.if_icmp .ge 42, 3) := by decide +kernel
theorem dX0_swap_13 : decode cX0_swap 13 = .ok (.iload_n 2, 1) := by decide +kernel
theorem dX0_swap_14 : decode cX0_swap 14 = .ok (.ifCond .lt 38, 3) := by decide +kernel
theorem dX0_swap_17 : decode cX0_swap 17 = .ok (.iload_n 2, 1) := by decide +kernel
theorem dX0_swap_18 : decode cX0_swap 18 = .ok (.aload_n 0, 1) := by decide +kernel
theorem dX0_swap_19 : decode cX0_swap 19 = .ok (.getfield 15, 3) := by decide +kernel
theorem dX0_swap_22 : decode cX0_swap 22 = .ok (.arraylength, 1) := by decide +kernel
theorem dX0_swap_23 : decode cX0_swap 23 = .ok (.if_icmp .ge 29, 3) := by decide +kernel
theorem dX0_swap_26 : decode cX0_swap 26 = .ok (.aload_n 0, 1) := by decide +kernel
theorem dX0_swap_27 : decode cX0_swap 27 = .ok (.getfield 15, 3) := by decide +kernel
theorem dX0_swap_30 : decode cX0_swap 30 = .ok (.iload_n 1, 1) := by decide +kernel
theorem dX0_swap_31 : decode cX0_swap 31 = .ok (.iaload, 1) := by decide +kernel
theorem dX0_swap_32 : decode cX0_swap 32 = .ok (.istore_n 3, 1) := by decide +kernel
theorem dX0_swap_33 : decode cX0_swap 33 = .ok (.aload_n 0, 1) := by decide +kernel
theorem dX0_swap_34 : decode cX0_swap 34 = .ok (.getfield 15, 3) := by decide +kernel
theorem dX0_swap_37 : decode cX0_swap 37 = .ok (.iload_n 1, 1) := by decide +kernel
theorem dX0_swap_38 : decode cX0_swap 38 = .ok (.aload_n 0, 1) := by decide +kernel
theorem dX0_swap_39 : decode cX0_swap 39 = .ok (.getfield 15, 3) := by decide +kernel
theorem dX0_swap_42 : decode cX0_swap 42 = .ok (.iload_n 2, 1) := by decide +kernel
theorem dX0_swap_43 : decode cX0_swap 43 = .ok (.iaload, 1) := by decide +kernel
theorem dX0_swap_44 : decode cX0_swap 44 = .ok (.iastore, 1) := by decide +kernel
theorem dX0_swap_45 : decode cX0_swap 45 = .ok (.aload_n 0, 1) := by decide +kernel
theorem dX0_swap_46 : decode cX0_swap 46 = .ok (.getfield 15, 3) := by decide +kernel
theorem dX0_swap_49 : decode cX0_swap 49 = .ok (.iload_n 2, 1) := by decide +kernel
theorem dX0_swap_50 : decode cX0_swap 50 = .ok (.iload_n 3, 1) := by decide +kernel
theorem dX0_swap_51 : decode cX0_swap 51 = .ok (.iastore, 1) := by decide +kernel
theorem dX0_swap_52 : decode cX0_swap 52 = .ok (.return_, 1) := by decide +kernel
theorem dX0_clear_0 : decode cX0_clear 0 = .ok (.iconst 0, 1) := by decide +kernel
theorem dX0_clear_1 : decode cX0_clear 1 = .ok (.istore_n 3, 1) := by decide +kernel
theorem dX0_clear_2 : decode cX0_clear 2 = .ok (.iload_n 3, 1) := by decide +kernel
theorem dX0_clear_3 : decode cX0_clear 3 = .ok (.iload_n 2, 1) := by decide +kernel
theorem dX0_clear_4 : decode cX0_clear 4 = .ok (.if_icmp .ge 17, 3) := by decide +kernel
theorem dX0_clear_7 : decode cX0_clear 7 = .ok (.aload_n 0, 1) := by decide +kernel
theorem dX0_clear_8 : decode cX0_clear 8 = .ok (.iload_n 1, 1) := by decide +kernel
theorem dX0_clear_9 : decode cX0_clear 9 = .ok (.iload_n 3, 1) := by decide +kernel
theorem dX0_clear_10 : decode cX0_clear 10 = .ok (.iadd, 1) := by decide +kernel
theorem dX0_clear_11 : decode cX0_clear 11 = .ok (.iconst 0, 1) := by decide +kernel
theorem dX0_clear_12 : decode cX0_clear 12 = .ok (.invokevirtual 32, 3) := by decide +kernel
theorem dX0_clear_15 : decode cX0_clear 15 = .ok (.iinc 3 1, 3) := by decide +kernel
theorem dX0_clear_18 : decode cX0_clear 18 = .ok (.goto (-16), 3) := by decide +kernel
theorem dX0_clear_21 : decode cX0_clear 21 = .ok (.return_, 1) := by decide +kernel
theorem dX0_copy_0 : decode cX0_copy 0 = .ok (.aload_n 0, 1) := by decide +kernel
theorem dX0_copy_1 : decode cX0_copy 1 = .ok (.getfield 15, 3) := by decide +kernel
theorem dX0_copy_4 : decode cX0_copy 4 = .ok (.arraylength, 1) := by decide +kernel
theorem dX0_copy_5 : decode cX0_copy 5 = .ok (.iload_n 3, 1) := by decide +kernel
theorem dX0_copy_6 : decode cX0_copy 6 = .ok (.isub, 1) := by decide +kernel
theorem dX0_copy_7 : decode cX0_copy 7 = .ok (.istore 4, 2) := by decide +kernel
theorem dX0_copy_9 : decode cX0_copy 9 = .ok (.iload_n 3, 1) := by decide +kernel
theorem dX0_copy_10 : decode cX0_copy 10 = .ok (.ifCond .le 37, 3) := by decide +kernel
theorem dX0_copy_13 : decode cX0_copy 13 = .ok (.iload_n 1, 1) := by decide +kernel
theorem dX0_copy_14 : decode cX0_copy 14 = .ok (.ifCond .lt 33, 3) := by decide +kernel
theorem dX0_copy_17 : decode cX0_copy 17 = .ok (.iload_n 1, 1) := by decide +kernel
theorem dX0_copy_18 : decode cX0_copy 18 = .ok (.iload 4, 2) := by decide +kernel
theorem dX0_copy_20 : decode cX0_copy 20 = .ok (.if_icmp .gt 27, 3) := by decide +kernel
theorem dX0_copy_23 : decode cX0_copy 23 = .ok (.iload_n 2, 1) := by decide +kernel
theorem dX0_copy_24 : decode cX0_copy 24 = .ok (.ifCond .lt 23, 3) := by decide +kernel
theorem dX0_copy_27 : decode cX0_copy 27 = .ok (.iload_n 2, 1) := by decide +kernel
theorem dX0_copy_28 : decode cX0_copy 28 = .ok (.iload 4, 2) := by decide +kernel
theorem dX0_copy_30 : decode cX0_copy 30 = .ok (.if_icmp .gt 17, 3) := by decide +kernel
theorem dX0_copy_33 : decode cX0_copy 33 = .ok (.aload_n 0, 1) := by decide +kernel
theorem dX0_copy_34 : decode cX0_copy 34 = .ok (.getfield 15, 3) := by decide +kernel
theorem dX0_copy_37 : decode cX0_copy 37 = .ok (.iload_n 1, 1) := by decide +kernel
theorem dX0_copy_38 : decode cX0_copy 38 = .ok (.aload_n 0, 1) := by decide +kernel
theorem dX0_copy_39 : decode cX0_copy 39 = .ok (.getfield 15, 3) := by decide +kernel
theorem dX0_copy_42 : decode cX0_copy 42 = .ok (.iload_n 2, 1) := by decide +kernel
theorem dX0_copy_43 : decode cX0_copy 43 = .ok (.iload_n 3, 1) := by decide +kernel
theorem dX0_copy_44 : decode cX0_copy 44 = .ok (.invokestatic 36, 3) := by decide +kernel
theorem dX0_copy_47 : decode cX0_copy 47 = .ok (.return_, 1) := by decide +kernel
theorem dX0_gapBehind_0 : decode cX0_gapBehind 0 = .ok (.aload_n 1, 1) := by decide +kernel
theorem dX0_gapBehind_1 : decode cX0_gapBehind 1 = .ok (.getfield 42, 3) := by decide +kernel
theorem dX0_gapBehind_4 : decode cX0_gapBehind 4 = .ok (.ifnonnull 11, 3) := by decide +kernel
theorem dX0_gapBehind_7 : decode cX0_gapBehind 7 = .ok (.aload_n 0, 1) := by decide +kernel
theorem dX0_gapBehind_8 : decode cX0_gapBehind 8 = .ok (.getfield 15, 3) := by decide +kernel
theorem dX0_gapBehind_11 : decode cX0_gapBehind 11 = .ok (.arraylength, 1) := by decide +kernel
theorem dX0_gapBehind_12 : decode cX0_gapBehind 12 = .ok (.goto 10, 3) := by decide +kernel
theorem dX0_gapBehind_15 : decode cX0_gapBehind 15 = .ok (.aload_n 1, 1) := by decide +kernel
theorem dX0_gapBehind_16 : decode cX0_gapBehind 16 = .ok (.getfield 42, 3) := by decide +kernel
theorem dX0_gapBehind_19 : decode cX0_gapBehind 19 = .ok (.getfield 28, 3) := by decide +kernel
theorem dX0_gapBehind_22 : decode cX0_gapBehind 22 = .ok (.istore_n 2, 1) := by decide +kernel
theorem dX0_gapBehind_23 : decode cX0_gapBehind 23 = .ok (.iload_n 2, 1) := by decide +kernel
theorem dX0_gapBehind_24 : decode cX0_gapBehind 24 = .ok (.aload_n 1, 1) := by decide +kernel
theorem dX0_gapBehind_25 : decode cX0_gapBehind 25 = .ok (.invokevirtual 45, 3) := by decide +kernel
theorem dX0_gapBehind_28 : decode cX0_gapBehind 28 = .ok (.isub, 1) := by decide +kernel
theorem dX0_gapBehind_29 : decode cX0_gapBehind 29 = .ok (.ireturn, 1) := by decide +kernel
theorem dX0_take_0 : decode cX0_take 0 = .ok (.iload_n 2, 1) := by decide +kernel
theorem dX0_take_1 : decode cX0_take 1 = .ok (.ifCond .gt 5, 3) := by decide +kernel
theorem dX0_take_4 : decode cX0_take 4 = .ok (.iconst 1, 1) := by decide +kernel
theorem dX0_take_5 : decode cX0_take 5 = .ok (.ireturn, 1) := by decide +kernel
theorem dX0_take_6 : decode cX0_take 6 = .ok (.aload_n 0, 1) := by decide +kernel
theorem dX0_take_7 : decode cX0_take 7 = .ok (.getfield 24, 3) := by decide +kernel
theorem dX0_take_10 : decode cX0_take 10 = .ok (.astore_n 3, 1) := by decide +kernel
theorem dX0_take_11 : decode cX0_take 11 = .ok (.aload_n 3, 1) := by decide +kernel
theorem dX0_take_12 : decode cX0_take 12 = .ok (.ifnull 33, 3) := by decide +kernel
theorem dX0_take_15 : decode cX0_take 15 = .ok (.aload_n 0, 1) := by decide +kernel
theorem dX0_take_16 : decode cX0_take 16 = .ok (.aload_n 3, 1) := by decide +kernel
theorem dX0_take_17 : decode cX0_take 17 = .ok (.invokevirtual 49, 3) := by decide +kernel
theorem dX0_take_20 : decode cX0_take 20 = .ok (.iload_n 2, 1) := by decide +kernel
theorem dX0_take_21 : decode cX0_take 21 = .ok (.if_icmp .lt 16, 3) := by decide +kernel
theorem dX0_take_24 : decode cX0_take 24 = .ok (.aload_n 0, 1) := by decide +kernel
theorem dX0_take_25 : decode cX0_take 25 = .ok (.aload_n 3, 1) := by decide +kernel
theorem dX0_take_26 : decode cX0_take 26 = .ok (.aload_n 1, 1) := by decide +kernel
theorem dX0_take_27 : decode cX0_take 27 = .ok (.aload_n 3, 1) := by decide +kernel
theorem dX0_take_28 : decode cX0_take 28 = .ok (.invokevirtual 45, 3) := by decide +kernel
theorem dX0_take_31 : decode cX0_take 31 = .ok (.iload_n 2, 1) := by decide +kernel
theorem dX0_take_32 : decode cX0_take 32 = .ok (.invokevirtual 53, 3) := by decide +kernel
theorem dX0_take_35 : decode cX0_take 35 = .ok (.iconst 1, 1) := by decide +kernel
theorem dX0_take_36 : decode cX0_take 36 = .ok (.ireturn, 1) := by decide +kernel
theorem dX0_take_37 : decode cX0_take 37 = .ok (.aload_n 3, 1) := by decide +kernel
theorem dX0_take_38 : decode cX0_take 38 = .ok (.getfield 42, 3) := by decide +kernel
theorem dX0_take_41 : decode cX0_take 41 = .ok (.astore_n 3, 1) := by decide +kernel
theorem dX0_take_42 : decode cX0_take 42 = .ok (.goto (-31), 3) := by decide +kernel
theorem dX0_take_45 : decode cX0_take 45 = .ok (.iconst 0, 1) := by decide +kernel
theorem dX0_take_46 : decode cX0_take 46 = .ok (.ireturn, 1) := by decide +kernel
theorem dX0_putAt_0 : decode cX0_putAt 0 = .ok (.iload_n 3, 1) := by decide +kernel
theorem dX0_putAt_1 : decode cX0_putAt 1 = .ok (.ifCond .gt 4, 3) := by decide +kernel
theorem dX0_putAt_4 : decode cX0_putAt 4 = .ok (.return_, 1) := by decide +kernel
theorem dX0_putAt_5 : decode cX0_putAt 5 = .ok (.aload_n 0, 1) := by decide +kernel
theorem dX0_putAt_6 : decode cX0_putAt 6 = .ok (.getfield 24, 3) := by decide +kernel
theorem dX0_putAt_9 : decode cX0_putAt 9 = .ok (.astore 4, 2) := by decide +kernel
theorem dX0_putAt_11 : decode cX0_putAt 11 = .ok (.aload_n 0, 1) := by decide +kernel
theorem dX0_putAt_12 : decode cX0_putAt 12 = .ok (.getfield 24, 3) := by decide +kernel
theorem dX0_putAt_15 : decode cX0_putAt 15 = .ok (.getfield 42, 3) := by decide +kernel
theorem dX0_putAt_18 : decode cX0_putAt 18 = .ok (.astore 5, 2) := by decide +kernel
theorem dX0_putAt_20 : decode cX0_putAt 20 = .ok (.aload 5, 2) := by decide +kernel
theorem dX0_putAt_22 : decode cX0_putAt 22 = .ok (.ifnull 26, 3) := by decide +kernel
theorem dX0_putAt_25 : decode cX0_putAt 25 = .ok (.aload 5, 2) := by decide +kernel
theorem dX0_putAt_27 : decode cX0_putAt 27 = .ok (.getfield 28, 3) := by decide +kernel
theorem dX0_putAt_30 : decode cX0_putAt 30 = .ok (.iload_n 2, 1) := by decide +kernel
theorem dX0_putAt_31 : decode cX0_putAt 31 = .ok (.if_icmp .ge 17, 3) := by decide +kernel
theorem dX0_putAt_34 : decode cX0_putAt 34 = .ok (.aload 5, 2) := by decide +kernel
theorem dX0_putAt_36 : decode cX0_putAt 36 = .ok (.astore 4, 2) := by decide +kernel
theorem dX0_putAt_38 : decode cX0_putAt 38 = .ok (.aload 5, 2) := by decide +kernel
theorem dX0_putAt_40 : decode cX0_putAt 40 = .ok (.getfield 42, 3) := by decide +kernel
theorem dX0_putAt_43 : decode cX0_putAt 43 = .ok (.astore 5, 2) := by decide +kernel
theorem dX0_putAt_45 : decode cX0_putAt 45 = .ok (.goto (-25), 3) := by decide +kernel
theorem dX0_putAt_48 : decode cX0_putAt 48 = .ok (.aload_n 0, 1) := by decide +kernel
theorem dX0_putAt_49 : decode cX0_putAt 49 = .ok (.aload 4, 2) := by decide +kernel
theorem dX0_putAt_51 : decode cX0_putAt 51 = .ok (.aload_n 1, 1) := by decide +kernel
theorem dX0_putAt_52 : decode cX0_putAt 52 = .ok (.iload_n 2, 1) := by decide +kernel
theorem dX0_putAt_53 : decode cX0_putAt 53 = .ok (.iload_n 3, 1) := by decide +kernel
theorem dX0_putAt_54 : decode cX0_putAt 54 = .ok (.invokevirtual 53, 3) := by decide +kernel
theorem dX0_putAt_57 : decode cX0_putAt 57 = .ok (.return_, 1) := by decide +kernel
theorem dX0_link_0 : decode cX0_link 0 = .ok (.aload_n 2, 1) := by decide +kernel
theorem dX0_link_1 : decode cX0_link 1 = .ok (.iload_n 3, 1) := by decide +kernel
theorem dX0_link_2 : decode cX0_link 2 = .ok (.putfield 28, 3) := by decide +kernel
theorem dX0_link_5 : decode cX0_link 5 = .ok (.aload_n 2, 1) := by decide +kernel
theorem dX0_link_6 : decode cX0_link 6 = .ok (.iload 4, 2) := by decide +kernel
theorem dX0_link_8 : decode cX0_link 8 = .ok (.putfield 57, 3) := by decide +kernel
theorem dX0_link_11 : decode cX0_link 11 = .ok (.aload_n 2, 1) := by decide +kernel
theorem dX0_link_12 : decode cX0_link 12 = .ok (.aload_n 1, 1) := by decide +kernel
theorem dX0_link_13 : decode cX0_link 13 = .ok (.getfield 42, 3) := by decide +kernel
theorem dX0_link_16 : decode cX0_link 16 = .ok (.putfield 42, 3) := by decide +kernel
theorem dX0_link_19 : decode cX0_link 19 = .ok (.aload_n 1, 1) := by decide +kernel
theorem dX0_link_20 : decode cX0_link 20 = .ok (.aload_n 2, 1) := by decide +kernel
theorem dX0_link_21 : decode cX0_link 21 = .ok (.putfield 42, 3) := by decide +kernel
theorem dX0_link_24 : decode cX0_link 24 = .ok (.return_, 1) := by decide +kernel
theorem dX0_giveBack_0 : decode cX0_giveBack 0 = .ok (.aload_n 0, 1) := by decide +kernel
theorem dX0_giveBack_1 : decode cX0_giveBack 1 = .ok (.getfield 24, 3) := by decide +kernel
theorem dX0_giveBack_4 : decode cX0_giveBack 4 = .ok (.astore_n 2, 1) := by decide +kernel
theorem dX0_giveBack_5 : decode cX0_giveBack 5 = .ok (.aload_n 2, 1) := by decide +kernel
theorem dX0_giveBack_6 : decode cX0_giveBack 6 = .ok (.ifnull 30, 3) := by decide +kernel
theorem dX0_giveBack_9 : decode cX0_giveBack 9 = .ok (.aload_n 2, 1) := by decide +kernel
theorem dX0_giveBack_10 : decode cX0_giveBack 10 = .ok (.getfield 42, 3) := by decide +kernel
theorem dX0_giveBack_13 : decode cX0_giveBack 13 = .ok (.aload_n 1, 1) := by decide +kernel
theorem dX0_giveBack_14 : decode cX0_giveBack 14 = .ok (.if_acmp .ne 14, 3) := by decide +kernel
theorem dX0_giveBack_17 : decode cX0_giveBack 17 = .ok (.aload_n 2, 1) := by decide +kernel
theorem dX0_giveBack_18 : decode cX0_giveBack 18 = .ok (.aload_n 1, 1) := by decide +kernel
theorem dX0_giveBack_19 : decode cX0_giveBack 19 = .ok (.getfield 42, 3) := by decide +kernel
theorem dX0_giveBack_22 : decode cX0_giveBack 22 = .ok (.putfield 42, 3) := by decide +kernel
theorem dX0_giveBack_25 : decode cX0_giveBack 25 = .ok (.goto 11, 3) := by decide +kernel
theorem dX0_giveBack_28 : decode cX0_giveBack 28 = .ok (.aload_n 2, 1) := by decide +kernel
theorem dX0_giveBack_29 : decode cX0_giveBack 29 = .ok (.getfield 42, 3) := by decide +kernel
theorem dX0_giveBack_32 : decode cX0_giveBack 32 = .ok (.astore_n 2, 1) := by decide +kernel
theorem dX0_giveBack_33 : decode cX0_giveBack 33 = .ok (.goto (-28), 3) := by decide +kernel
theorem dX0_giveBack_36 : decode cX0_giveBack 36 = .ok (.aload_n 1, 1) := by decide +kernel
theorem dX0_giveBack_37 : decode cX0_giveBack 37 = .ok (.iconst (-1), 1) := by decide +kernel
theorem dX0_giveBack_38 : decode cX0_giveBack 38 = .ok (.putfield 28, 3) := by decide +kernel
theorem dX0_giveBack_41 : decode cX0_giveBack 41 = .ok (.aload_n 1, 1) := by decide +kernel
theorem dX0_giveBack_42 : decode cX0_giveBack 42 = .ok (.iconst 0, 1) := by decide +kernel
theorem dX0_giveBack_43 : decode cX0_giveBack 43 = .ok (.putfield 57, 3) := by decide +kernel
theorem dX0_giveBack_46 : decode cX0_giveBack 46 = .ok (.aload_n 1, 1) := by decide +kernel
theorem dX0_giveBack_47 : decode cX0_giveBack 47 = .ok (.aconst_null, 1) := by decide +kernel
theorem dX0_giveBack_48 : decode cX0_giveBack 48 = .ok (.putfield 42, 3) := by decide +kernel
theorem dX0_giveBack_51 : decode cX0_giveBack 51 = .ok (.return_, 1) := by decide +kernel
theorem dX0_moveAllDown_0 : decode cX0_moveAllDown 0 = .ok (.iconst 0, 1) := by decide +kernel
theorem dX0_moveAllDown_1 : decode cX0_moveAllDown 1 = .ok (.istore_n 1, 1) := by decide +kernel
theorem dX0_moveAllDown_2 : decode cX0_moveAllDown 2 = .ok (.iconst 0, 1) := by decide +kernel
theorem dX0_moveAllDown_3 : decode cX0_moveAllDown 3 = .ok (.istore_n 2, 1) := by decide +kernel
theorem dX0_moveAllDown_4 : decode cX0_moveAllDown 4 = .ok (.aload_n 0, 1) := by decide +kernel
theorem dX0_moveAllDown_5 : decode cX0_moveAllDown 5 = .ok (.getfield 24, 3) := by decide +kernel
theorem dX0_moveAllDown_8 : decode cX0_moveAllDown 8 = .ok (.getfield 42, 3) := by decide +kernel
theorem dX0_moveAllDown_11 : decode cX0_moveAllDown 11 = .ok (.astore_n 3, 1) := by decide +kernel
theorem dX0_moveAllDown_12 : decode cX0_moveAllDown 12 = .ok (.aload_n 3, 1) := by decide +kernel
theorem dX0_moveAllDown_13 : decode cX0_moveAllDown 13 = .ok (.ifnull 49, 3) := by decide +kernel
theorem dX0_moveAllDown_16 : decode cX0_moveAllDown 16 = .ok (.aload_n 3, 1) := by decide +kernel
theorem dX0_moveAllDown_17 : decode cX0_moveAllDown 17 = .ok (.getfield 28, 3) := by decide +kernel
theorem dX0_moveAllDown_20 : decode cX0_moveAllDown 20 = .ok (.iload_n 2, 1) := by decide +kernel
theorem dX0_moveAllDown_21 : decode cX0_moveAllDown 21 = .ok (.if_icmp .eq 28, 3) := by decide +kernel
theorem dX0_moveAllDown_24 : decode cX0_moveAllDown 24 = .ok (.aload_n 0, 1) := by decide +kernel
theorem dX0_moveAllDown_25 : decode cX0_moveAllDown 25 = .ok (.aload_n 3, 1) := by decide +kernel
theorem dX0_moveAllDown_26 : decode cX0_moveAllDown 26 = .ok (.getfield 28, 3) := by decide +kernel
theorem dX0_moveAllDown_29 : decode cX0_moveAllDown 29 = .ok (.iload_n 2, 1) := by decide +kernel
theorem dX0_moveAllDown_30 : decode cX0_moveAllDown 30 = .ok (.aload_n 3, 1) := by decide +kernel
theorem dX0_moveAllDown_31 : decode cX0_moveAllDown 31 = .ok (.getfield 57, 3) := by decide +kernel
theorem dX0_moveAllDown_34 : decode cX0_moveAllDown 34 = .ok (.invokevirtual 60, 3) := by decide +kernel
theorem dX0_moveAllDown_37 : decode cX0_moveAllDown 37 = .ok (.aload_n 3, 1) := by decide +kernel
theorem dX0_moveAllDown_38 : decode cX0_moveAllDown 38 = .ok (.iload_n 2, 1) := by decide +kernel
theorem dX0_moveAllDown_39 : decode cX0_moveAllDown 39 = .ok (.putfield 28, 3) := by decide +kernel
theorem dX0_moveAllDown_42 : decode cX0_moveAllDown 42 = .ok (.iload_n 1, 1) := by decide +kernel
theorem dX0_moveAllDown_43 : decode cX0_moveAllDown 43 = .ok (.aload_n 3, 1) := by decide +kernel
theorem dX0_moveAllDown_44 : decode cX0_moveAllDown 44 = .ok (.getfield 57, 3) := by decide +kernel
theorem dX0_moveAllDown_47 : decode cX0_moveAllDown 47 = .ok (.iadd, 1) := by decide +kernel
theorem dX0_moveAllDown_48 : decode cX0_moveAllDown 48 = .ok (.istore_n 1, 1) := by decide +kernel
theorem dX0_moveAllDown_49 : decode cX0_moveAllDown 49 = .ok (.aload_n 3, 1) := by decide +kernel
theorem dX0_moveAllDown_50 : decode cX0_moveAllDown 50 = .ok (.invokevirtual 45, 3) := by decide +kernel
theorem dX0_moveAllDown_53 : decode cX0_moveAllDown 53 = .ok (.istore_n 2, 1) := by decide +kernel
theorem dX0_moveAllDown_54 : decode cX0_moveAllDown 54 = .ok (.aload_n 3, 1) := by decide +kernel
theorem dX0_moveAllDown_55 : decode cX0_moveAllDown 55 = .ok (.getfield 42, 3) := by decide +kernel
theorem dX0_moveAllDown_58 : decode cX0_moveAllDown 58 = .ok (.astore_n 3, 1) := by decide +kernel
theorem dX0_moveAllDown_59 : decode cX0_moveAllDown 59 = .ok (.goto (-47), 3) := by decide +kernel
theorem dX0_moveAllDown_62 : decode cX0_moveAllDown 62 = .ok (.iload_n 1, 1) := by decide +kernel
theorem dX0_moveAllDown_63 : decode cX0_moveAllDown 63 = .ok (.ireturn, 1) := by decide +kernel
theorem dX0_countFreeWords_0 : decode cX0_countFreeWords 0 = .ok (.iconst 0, 1) := by decide +kernel
theorem dX0_countFreeWords_1 : decode cX0_countFreeWords 1 = .ok (.istore_n 1, 1) := by decide +kernel
theorem dX0_countFreeWords_2 : decode cX0_countFreeWords 2 = .ok (.aload_n 0, 1) := by decide +kernel
theorem dX0_countFreeWords_3 : decode cX0_countFreeWords 3 = .ok (.getfield 24, 3) := by decide +kernel
theorem dX0_countFreeWords_6 : decode cX0_countFreeWords 6 = .ok (.astore_n 2, 1) := by decide +kernel
theorem dX0_countFreeWords_7 : decode cX0_countFreeWords 7 = .ok (.aload_n 2, 1) := by decide +kernel
theorem dX0_countFreeWords_8 : decode cX0_countFreeWords 8 = .ok (.ifnull 19, 3) := by decide +kernel
theorem dX0_countFreeWords_11 : decode cX0_countFreeWords 11 = .ok (.iload_n 1, 1) := by decide +kernel
theorem dX0_countFreeWords_12 : decode cX0_countFreeWords 12 = .ok (.aload_n 0, 1) := by decide +kernel
theorem dX0_countFreeWords_13 : decode cX0_countFreeWords 13 = .ok (.aload_n 2, 1) := by decide +kernel
theorem dX0_countFreeWords_14 : decode cX0_countFreeWords 14 = .ok (.invokevirtual 49, 3) := by decide +kernel
theorem dX0_countFreeWords_17 : decode cX0_countFreeWords 17 = .ok (.iadd, 1) := by decide +kernel
theorem dX0_countFreeWords_18 : decode cX0_countFreeWords 18 = .ok (.istore_n 1, 1) := by decide +kernel
theorem dX0_countFreeWords_19 : decode cX0_countFreeWords 19 = .ok (.aload_n 2, 1) := by decide +kernel
theorem dX0_countFreeWords_20 : decode cX0_countFreeWords 20 = .ok (.getfield 42, 3) := by decide +kernel
theorem dX0_countFreeWords_23 : decode cX0_countFreeWords 23 = .ok (.astore_n 2, 1) := by decide +kernel
theorem dX0_countFreeWords_24 : decode cX0_countFreeWords 24 = .ok (.goto (-17), 3) := by decide +kernel
theorem dX0_countFreeWords_27 : decode cX0_countFreeWords 27 = .ok (.iload_n 1, 1) := by decide +kernel
theorem dX0_countFreeWords_28 : decode cX0_countFreeWords 28 = .ok (.ireturn, 1) := by decide +kernel
theorem dX0_sizeOfLargestGap_0 : decode cX0_sizeOfLargestGap 0 = .ok (.iconst 0, 1) := by decide +kernel
theorem dX0_sizeOfLargestGap_1 : decode cX0_sizeOfLargestGap 1 = .ok (.istore_n 1, 1) := by decide +kernel
theorem dX0_sizeOfLargestGap_2 : decode cX0_sizeOfLargestGap 2 = .ok (.aload_n 0, 1) := by decide +kernel
theorem dX0_sizeOfLargestGap_3 : decode cX0_sizeOfLargestGap 3 = .ok (.getfield 24, 3) := by decide +kernel
theorem dX0_sizeOfLargestGap_6 : decode cX0_sizeOfLargestGap 6 = .ok (.astore_n 2, 1) := by decide +kernel
theorem dX0_sizeOfLargestGap_7 : decode cX0_sizeOfLargestGap 7 = .ok (.aload_n 2, 1) := by decide +kernel
theorem dX0_sizeOfLargestGap_8 : decode cX0_sizeOfLargestGap 8 = .ok (.ifnull 21, 3) := by decide +kernel
theorem dX0_sizeOfLargestGap_11 : decode cX0_sizeOfLargestGap 11 = .ok (.iload_n 1, 1) := by decide +kernel
theorem dX0_sizeOfLargestGap_12 : decode cX0_sizeOfLargestGap 12 = .ok (.aload_n 0, 1) := by decide +kernel
theorem dX0_sizeOfLargestGap_13 : decode cX0_sizeOfLargestGap 13 = .ok (.aload_n 2, 1) := by decide +kernel
theorem dX0_sizeOfLargestGap_14 : decode cX0_sizeOfLargestGap 14 = .ok (.invokevirtual 49, 3) := by decide +kernel
theorem dX0_sizeOfLargestGap_17 : decode cX0_sizeOfLargestGap 17 = .ok (.invokestatic 9, 3) := by decide +kernel
theorem dX0_sizeOfLargestGap_20 : decode cX0_sizeOfLargestGap 20 = .ok (.istore_n 1, 1) := by decide +kernel
theorem dX0_sizeOfLargestGap_21 : decode cX0_sizeOfLargestGap 21 = .ok (.aload_n 2, 1) := by decide +kernel
theorem dX0_sizeOfLargestGap_22 : decode cX0_sizeOfLargestGap 22 = .ok (.getfield 42, 3) := by decide +kernel
theorem dX0_sizeOfLargestGap_25 : decode cX0_sizeOfLargestGap 25 = .ok (.astore_n 2, 1) := by decide +kernel
theorem dX0_sizeOfLargestGap_26 : decode cX0_sizeOfLargestGap 26 = .ok (.goto (-19), 3) := by decide +kernel
theorem dX0_sizeOfLargestGap_29 : decode cX0_sizeOfLargestGap 29 = .ok (.iload_n 1, 1) := by decide +kernel
theorem dX0_sizeOfLargestGap_30 : decode cX0_sizeOfLargestGap 30 = .ok (.ireturn, 1) := by decide +kernel
theorem dX0_countGaps_0 : decode cX0_countGaps 0 = .ok (.iconst 0, 1) := by decide +kernel
theorem dX0_countGaps_1 : decode cX0_countGaps 1 = .ok (.istore_n 1, 1) := by decide +kernel
theorem dX0_countGaps_2 : decode cX0_countGaps 2 = .ok (.aload_n 0, 1) := by decide +kernel
theorem dX0_countGaps_3 : decode cX0_countGaps 3 = .ok (.getfield 24, 3) := by decide +kernel
theorem dX0_countGaps_6 : decode cX0_countGaps 6 = .ok (.astore_n 2, 1) := by decide +kernel
theorem dX0_countGaps_7 : decode cX0_countGaps 7 = .ok (.aload_n 2, 1) := by decide +kernel
theorem dX0_countGaps_8 : decode cX0_countGaps 8 = .ok (.ifnull 22, 3) := by decide +kernel
theorem dX0_countGaps_11 : decode cX0_countGaps 11 = .ok (.aload_n 0, 1) := by decide +kernel
theorem dX0_countGaps_12 : decode cX0_countGaps 12 = .ok (.aload_n 2, 1) := by decide +kernel
theorem dX0_countGaps_13 : decode cX0_countGaps 13 = .ok (.invokevirtual 49, 3) := by decide +kernel
theorem dX0_countGaps_16 : decode cX0_countGaps 16 = .ok (.ifCond .le 6, 3) := by decide +kernel
theorem dX0_countGaps_19 : decode cX0_countGaps 19 = .ok (.iinc 1 1, 3) := by decide +kernel
theorem dX0_countGaps_22 : decode cX0_countGaps 22 = .ok (.aload_n 2, 1) := by decide +kernel
theorem dX0_countGaps_23 : decode cX0_countGaps 23 = .ok (.getfield 42, 3) := by decide +kernel
theorem dX0_countGaps_26 : decode cX0_countGaps 26 = .ok (.astore_n 2, 1) := by decide +kernel
theorem dX0_countGaps_27 : decode cX0_countGaps 27 = .ok (.goto (-20), 3) := by decide +kernel
theorem dX0_countGaps_30 : decode cX0_countGaps 30 = .ok (.iload_n 1, 1) := by decide +kernel
theorem dX0_countGaps_31 : decode cX0_countGaps 31 = .ok (.ireturn, 1) := by decide +kernel
theorem dX1_init_0 : decode cX1_init 0 = .ok (.aload_n 0, 1) := by decide +kernel
theorem dX1_init_1 : decode cX1_init 1 = .ok (.invokespecial 3, 3) := by decide +kernel
theorem dX1_init_4 : decode cX1_init 4 = .ok (.aload_n 0, 1) := by decide +kernel
theorem dX1_init_5 : decode cX1_init 5 = .ok (.iconst (-1), 1) := by decide +kernel
theorem dX1_init_6 : decode cX1_init 6 = .ok (.putfield 9, 3) := by decide +kernel
theorem dX1_init_9 : decode cX1_init 9 = .ok (.return_, 1) := by decide +kernel
theorem dX1_end_0 : decode cX1_end 0 = .ok (.aload_n 0, 1) := by decide +kernel
theorem dX1_end_1 : decode cX1_end 1 = .ok (.getfield 9, 3) := by decide +kernel
theorem dX1_end_4 : decode cX1_end 4 = .ok (.aload_n 0, 1) := by decide +kernel
theorem dX1_end_5 : decode cX1_end 5 = .ok (.getfield 15, 3) := by decide +kernel
theorem dX1_end_8 : decode cX1_end 8 = .ok (.iadd, 1) := by decide +kernel
theorem dX1_end_9 : decode cX1_end 9 = .ok (.ireturn, 1) := by decide +kernel
theorem dX2_init_0 : decode cX2_init 0 = .ok (.aload_n 0, 1) := by decide +kernel
theorem dX2_init_1 : decode cX2_init 1 = .ok (.aload_n 1, 1) := by decide +kernel
theorem dX2_init_2 : decode cX2_init 2 = .ok (.aload_n 2, 1) := by decide +kernel
theorem dX2_init_3 : decode cX2_init 3 = .ok (.invokespecial 1, 3) := by decide +kernel
theorem dX2_init_6 : decode cX2_init 6 = .ok (.aload_n 0, 1) := by decide +kernel
theorem dX2_init_7 : decode cX2_init 7 = .ok (.iload_n 3, 1) := by decide +kernel
theorem dX2_init_8 : decode cX2_init 8 = .ok (.putfield 7, 3) := by decide +kernel
theorem dX2_init_11 : decode cX2_init 11 = .ok (.return_, 1) := by decide +kernel
theorem dX2_begin_0 : decode cX2_begin 0 = .ok (.aload_n 0, 1) := by decide +kernel
theorem dX2_begin_1 : decode cX2_begin 1 = .ok (.aload_n 0, 1) := by decide +kernel
theorem dX2_begin_2 : decode cX2_begin 2 = .ok (.getfield 7, 3) := by decide +kernel
theorem dX2_begin_5 : decode cX2_begin 5 = .ok (.putfield 13, 3) := by decide +kernel
theorem dX2_begin_8 : decode cX2_begin 8 = .ok (.aload_n 0, 1) := by decide +kernel
theorem dX2_begin_9 : decode cX2_begin 9 = .ok (.aload_n 0, 1) := by decide +kernel
theorem dX2_begin_10 : decode cX2_begin 10 = .ok (.getfield 7, 3) := by decide +kernel
theorem dX2_begin_13 : decode cX2_begin 13 = .ok (.putfield 16, 3) := by decide +kernel
theorem dX2_begin_16 : decode cX2_begin 16 = .ok (.return_, 1) := by decide +kernel
theorem dX2_compareNext_0 : decode cX2_compareNext 0 = .ok (.aload_n 0, 1) := by decide +kernel
theorem dX2_compareNext_1 : decode cX2_compareNext 1 = .ok (.aload_n 0, 1) := by decide +kernel
theorem dX2_compareNext_2 : decode cX2_compareNext 2 = .ok (.getfield 16, 3) := by decide +kernel
theorem dX2_compareNext_5 : decode cX2_compareNext 5 = .ok (.aload_n 0, 1) := by decide +kernel
theorem dX2_compareNext_6 : decode cX2_compareNext 6 = .ok (.getfield 7, 3) := by decide +kernel
theorem dX2_compareNext_9 : decode cX2_compareNext 9 = .ok (.isub, 1) := by decide +kernel
theorem dX2_compareNext_10 : decode cX2_compareNext 10 = .ok (.invokevirtual 19, 3) := by decide +kernel
theorem dX2_compareNext_13 : decode cX2_compareNext 13 = .ok (.aload_n 0, 1) := by decide +kernel
theorem dX2_compareNext_14 : decode cX2_compareNext 14 = .ok (.aload_n 0, 1) := by decide +kernel
theorem dX2_compareNext_15 : decode cX2_compareNext 15 = .ok (.getfield 16, 3) := by decide +kernel
theorem dX2_compareNext_18 : decode cX2_compareNext 18 = .ok (.invokevirtual 19, 3) := by decide +kernel
theorem dX2_compareNext_21 : decode cX2_compareNext 21 = .ok (.if_icmp .le 7, 3) := by decide +kernel
theorem dX2_compareNext_24 : decode cX2_compareNext 24 = .ok (.iconst 1, 1) := by decide +kernel
theorem dX2_compareNext_25 : decode cX2_compareNext 25 = .ok (.goto 4, 3) := by decide +kernel
theorem dX2_compareNext_28 : decode cX2_compareNext 28 = .ok (.iconst 0, 1) := by decide +kernel
theorem dX2_compareNext_29 : decode cX2_compareNext 29 = .ok (.istore_n 1, 1) := by decide +kernel
theorem dX2_compareNext_30 : decode cX2_compareNext 30 = .ok (.iload_n 1, 1) := by decide +kernel
theorem dX2_compareNext_31 : decode cX2_compareNext 31 = .ok (.ifCond .eq 33, 3) := by decide +kernel
theorem dX2_compareNext_34 : decode cX2_compareNext 34 = .ok (.aload_n 0, 1) := by decide +kernel
theorem dX2_compareNext_35 : decode cX2_compareNext 35 = .ok (.aload_n 0, 1) := by decide +kernel
theorem dX2_compareNext_36 : decode cX2_compareNext 36 = .ok (.getfield 16, 3) := by decide +kernel
theorem dX2_compareNext_39 : decode cX2_compareNext 39 = .ok (.aload_n 0, 1) := by decide +kernel
theorem dX2_compareNext_40 : decode cX2_compareNext 40 = .ok (.getfield 7, 3) := by decide +kernel
theorem dX2_compareNext_43 : decode cX2_compareNext 43 = .ok (.isub, 1) := by decide +kernel
theorem dX2_compareNext_44 : decode cX2_compareNext 44 = .ok (.aload_n 0, 1) := by decide +kernel
theorem dX2_compareNext_45 : decode cX2_compareNext 45 = .ok (.getfield 16, 3) := by decide +kernel
theorem dX2_compareNext_48 : decode cX2_compareNext 48 = .ok (.invokevirtual 23, 3) := by decide +kernel
theorem dX2_compareNext_51 : decode cX2_compareNext 51 = .ok (.aload_n 0, 1) := by decide +kernel
theorem dX2_compareNext_52 : decode cX2_compareNext 52 = .ok (.dup, 1) := by decide +kernel
theorem dX2_compareNext_53 : decode cX2_compareNext 53 = .ok (.getfield 16, 3) := by decide +kernel
theorem dX2_compareNext_56 : decode cX2_compareNext 56 = .ok (.aload_n 0, 1) := by decide +kernel
theorem dX2_compareNext_57 : decode cX2_compareNext 57 = .ok (.getfield 7, 3) := by decide +kernel
theorem dX2_compareNext_60 : decode cX2_compareNext 60 = .ok (.isub, 1) := by decide +kernel
theorem dX2_compareNext_61 : decode cX2_compareNext 61 = .ok (.putfield 16, 3) := by decide +kernel
theorem dX2_compareNext_64 : decode cX2_compareNext 64 = .ok (.iload_n 1, 1) := by decide +kernel
theorem dX2_compareNext_65 : decode cX2_compareNext 65 = .ok (.ifCond .eq 14, 3) := by decide +kernel
theorem dX2_compareNext_68 : decode cX2_compareNext 68 = .ok (.aload_n 0, 1) := by decide +kernel
theorem dX2_compareNext_69 : decode cX2_compareNext 69 = .ok (.getfield 16, 3) := by decide +kernel
theorem dX2_compareNext_72 : decode cX2_compareNext 72 = .ok (.aload_n 0, 1) := by decide +kernel
theorem dX2_compareNext_73 : decode cX2_compareNext 73 = .ok (.getfield 7, 3) := by decide +kernel
theorem dX2_compareNext_76 : decode cX2_compareNext 76 = .ok (.if_icmp .ge 7, 3) := by decide +kernel
theorem dX2_compareNext_79 : decode cX2_compareNext 79 = .ok (.aload_n 0, 1) := by decide +kernel
theorem dX2_compareNext_80 : decode cX2_compareNext 80 = .ok (.invokevirtual 27, 3) := by decide +kernel
theorem dX2_compareNext_83 : decode cX2_compareNext 83 = .ok (.return_, 1) := by decide +kernel
theorem dX2_goOnWithNextNumber_0 : decode cX2_goOnWithNextNumber 0 = .ok (.aload_n 0, 1) := by decide +kernel
theorem dX2_goOnWithNextNumber_1 : decode cX2_goOnWithNextNumber 1 = .ok (.dup, 1) := by decide +kernel
theorem dX2_goOnWithNextNumber_2 : decode cX2_goOnWithNextNumber 2 = .ok (.getfield 13, 3) := by decide +kernel
theorem dX2_goOnWithNextNumber_5 : decode cX2_goOnWithNextNumber 5 = .ok (.iconst 1, 1) := by decide +kernel
theorem dX2_goOnWithNextNumber_6 : decode cX2_goOnWithNextNumber 6 = .ok (.iadd, 1) := by decide +kernel
theorem dX2_goOnWithNextNumber_7 : decode cX2_goOnWithNextNumber 7 = .ok (.putfield 13, 3) := by decide +kernel
theorem dX2_goOnWithNextNumber_10 : decode cX2_goOnWithNextNumber 10 = .ok (.aload_n 0, 1) := by decide +kernel
theorem dX2_goOnWithNextNumber_11 : decode cX2_goOnWithNextNumber 11 = .ok (.getfield 13, 3) := by decide +kernel
theorem dX2_goOnWithNextNumber_14 : decode cX2_goOnWithNextNumber 14 = .ok (.aload_n 0, 1) := by decide +kernel
theorem dX2_goOnWithNextNumber_15 : decode cX2_goOnWithNextNumber 15 = .ok (.getfield 31, 3) := by decide +kernel
theorem dX2_goOnWithNextNumber_18 : decode cX2_goOnWithNextNumber 18 = .ok (.if_icmp .lt 39, 3) := by decide +kernel
theorem dX2_goOnWithNextNumber_21 : decode cX2_goOnWithNextNumber 21 = .ok (.aload_n 0, 1) := by decide +kernel
theorem dX2_goOnWithNextNumber_22 : decode cX2_goOnWithNextNumber 22 = .ok (.aload_n 0, 1) := by decide +kernel
theorem dX2_goOnWithNextNumber_23 : decode cX2_goOnWithNextNumber 23 = .ok (.getfield 7, 3) := by decide +kernel
theorem dX2_goOnWithNextNumber_26 : decode cX2_goOnWithNextNumber 26 = .ok (.iconst 1, 1) := by decide +kernel
theorem dX2_goOnWithNextNumber_27 : decode cX2_goOnWithNextNumber 27 = .ok (.isub, 1) := by decide +kernel
theorem dX2_goOnWithNextNumber_28 : decode cX2_goOnWithNextNumber 28 = .ok (.iconst 3, 1) := by decide +kernel
theorem dX2_goOnWithNextNumber_29 : decode cX2_goOnWithNextNumber 29 = .ok (.idiv, 1) := by decide +kernel
theorem dX2_goOnWithNextNumber_30 : decode cX2_goOnWithNextNumber 30 = .ok (.putfield 7, 3) := by decide +kernel
theorem dX2_goOnWithNextNumber_33 : decode cX2_goOnWithNextNumber 33 = .ok (.aload_n 0, 1) := by decide +kernel
theorem dX2_goOnWithNextNumber_34 : decode cX2_goOnWithNextNumber 34 = .ok (.aload_n 0, 1) := by decide +kernel
theorem dX2_goOnWithNextNumber_35 : decode cX2_goOnWithNextNumber 35 = .ok (.getfield 7, 3) := by decide +kernel
theorem dX2_goOnWithNextNumber_38 : decode cX2_goOnWithNextNumber 38 = .ok (.putfield 13, 3) := by decide +kernel
theorem dX2_goOnWithNextNumber_41 : decode cX2_goOnWithNextNumber 41 = .ok (.aload_n 0, 1) := by decide +kernel
theorem dX2_goOnWithNextNumber_42 : decode cX2_goOnWithNextNumber 42 = .ok (.aload_n 0, 1) := by decide +kernel
theorem dX2_goOnWithNextNumber_43 : decode cX2_goOnWithNextNumber 43 = .ok (.getfield 7, 3) := by decide +kernel
theorem dX2_goOnWithNextNumber_46 : decode cX2_goOnWithNextNumber 46 = .ok (.ifCond .gt 7, 3) := by decide +kernel
theorem dX2_goOnWithNextNumber_49 : decode cX2_goOnWithNextNumber 49 = .ok (.iconst 1, 1) := by decide +kernel
theorem dX2_goOnWithNextNumber_50 : decode cX2_goOnWithNextNumber 50 = .ok (.goto 4, 3) := by decide +kernel
theorem dX2_goOnWithNextNumber_53 : decode cX2_goOnWithNextNumber 53 = .ok (.iconst 0, 1) := by decide +kernel
theorem dX2_goOnWithNextNumber_54 : decode cX2_goOnWithNextNumber 54 = .ok (.putfield 34, 3) := by decide +kernel
theorem dX2_goOnWithNextNumber_57 : decode cX2_goOnWithNextNumber 57 = .ok (.aload_n 0, 1) := by decide +kernel
theorem dX2_goOnWithNextNumber_58 : decode cX2_goOnWithNextNumber 58 = .ok (.aload_n 0, 1) := by decide +kernel
theorem dX2_goOnWithNextNumber_59 : decode cX2_goOnWithNextNumber 59 = .ok (.getfield 13, 3) := by decide +kernel
theorem dX2_goOnWithNextNumber_62 : decode cX2_goOnWithNextNumber 62 = .ok (.putfield 16, 3) := by decide +kernel
theorem dX2_goOnWithNextNumber_65 : decode cX2_goOnWithNextNumber 65 = .ok (.return_, 1) := by decide +kernel
theorem dX3_init_0 : decode cX3_init 0 = .ok (.aload_n 0, 1) := by decide +kernel
theorem dX3_init_1 : decode cX3_init 1 = .ok (.aload_n 1, 1) := by decide +kernel
theorem dX3_init_2 : decode cX3_init 2 = .ok (.aload_n 2, 1) := by decide +kernel
theorem dX3_init_3 : decode cX3_init 3 = .ok (.invokespecial 1, 3) := by decide +kernel
theorem dX3_init_6 : decode cX3_init 6 = .ok (.return_, 1) := by decide +kernel
theorem dX3_begin_0 : decode cX3_begin 0 = .ok (.aload_n 0, 1) := by decide +kernel
theorem dX3_begin_1 : decode cX3_begin 1 = .ok (.aload_n 0, 1) := by decide +kernel
theorem dX3_begin_2 : decode cX3_begin 2 = .ok (.getfield 7, 3) := by decide +kernel
theorem dX3_begin_5 : decode cX3_begin 5 = .ok (.iconst 2, 1) := by decide +kernel
theorem dX3_begin_6 : decode cX3_begin 6 = .ok (.idiv, 1) := by decide +kernel
theorem dX3_begin_7 : decode cX3_begin 7 = .ok (.iconst 1, 1) := by decide +kernel
theorem dX3_begin_8 : decode cX3_begin 8 = .ok (.isub, 1) := by decide +kernel
theorem dX3_begin_9 : decode cX3_begin 9 = .ok (.putfield 13, 3) := by decide +kernel
theorem dX3_begin_12 : decode cX3_begin 12 = .ok (.aload_n 0, 1) := by decide +kernel
theorem dX3_begin_13 : decode cX3_begin 13 = .ok (.aload_n 0, 1) := by decide +kernel
theorem dX3_begin_14 : decode cX3_begin 14 = .ok (.getfield 7, 3) := by decide +kernel
theorem dX3_begin_17 : decode cX3_begin 17 = .ok (.putfield 16, 3) := by decide +kernel
theorem dX3_begin_20 : decode cX3_begin 20 = .ok (.aload_n 0, 1) := by decide +kernel
theorem dX3_begin_21 : decode cX3_begin 21 = .ok (.aload_n 0, 1) := by decide +kernel
theorem dX3_begin_22 : decode cX3_begin 22 = .ok (.getfield 13, 3) := by decide +kernel
theorem dX3_begin_25 : decode cX3_begin 25 = .ok (.invokevirtual 19, 3) := by decide +kernel
theorem dX3_begin_28 : decode cX3_begin 28 = .ok (.return_, 1) := by decide +kernel
theorem dX3_compareNext_0 : decode cX3_compareNext 0 = .ok (.aload_n 0, 1) := by decide +kernel
theorem dX3_compareNext_1 : decode cX3_compareNext 1 = .ok (.getfield 23, 3) := by decide +kernel
theorem dX3_compareNext_4 : decode cX3_compareNext 4 = .ok (.ifCond .eq 40, 3) := by decide +kernel
theorem dX3_compareNext_7 : decode cX3_compareNext 7 = .ok (.aload_n 0, 1) := by decide +kernel
theorem dX3_compareNext_8 : decode cX3_compareNext 8 = .ok (.aload_n 0, 1) := by decide +kernel
theorem dX3_compareNext_9 : decode cX3_compareNext 9 = .ok (.getfield 27, 3) := by decide +kernel
theorem dX3_compareNext_12 : decode cX3_compareNext 12 = .ok (.invokevirtual 30, 3) := by decide +kernel
theorem dX3_compareNext_15 : decode cX3_compareNext 15 = .ok (.aload_n 0, 1) := by decide +kernel
theorem dX3_compareNext_16 : decode cX3_compareNext 16 = .ok (.aload_n 0, 1) := by decide +kernel
theorem dX3_compareNext_17 : decode cX3_compareNext 17 = .ok (.getfield 27, 3) := by decide +kernel
theorem dX3_compareNext_20 : decode cX3_compareNext 20 = .ok (.iconst 1, 1) := by decide +kernel
theorem dX3_compareNext_21 : decode cX3_compareNext 21 = .ok (.iadd, 1) := by decide +kernel
theorem dX3_compareNext_22 : decode cX3_compareNext 22 = .ok (.invokevirtual 30, 3) := by decide +kernel
theorem dX3_compareNext_25 : decode cX3_compareNext 25 = .ok (.if_icmp .ge 13, 3) := by decide +kernel
theorem dX3_compareNext_28 : decode cX3_compareNext 28 = .ok (.aload_n 0, 1) := by decide +kernel
theorem dX3_compareNext_29 : decode cX3_compareNext 29 = .ok (.dup, 1) := by decide +kernel
theorem dX3_compareNext_30 : decode cX3_compareNext 30 = .ok (.getfield 27, 3) := by decide +kernel
theorem dX3_compareNext_33 : decode cX3_compareNext 33 = .ok (.iconst 1, 1) := by decide +kernel
theorem dX3_compareNext_34 : decode cX3_compareNext 34 = .ok (.iadd, 1) := by decide +kernel
theorem dX3_compareNext_35 : decode cX3_compareNext 35 = .ok (.putfield 27, 3) := by decide +kernel
theorem dX3_compareNext_38 : decode cX3_compareNext 38 = .ok (.aload_n 0, 1) := by decide +kernel
theorem dX3_compareNext_39 : decode cX3_compareNext 39 = .ok (.iconst 0, 1) := by decide +kernel
theorem dX3_compareNext_40 : decode cX3_compareNext 40 = .ok (.putfield 23, 3) := by decide +kernel
theorem dX3_compareNext_43 : decode cX3_compareNext 43 = .ok (.return_, 1) := by decide +kernel
theorem dX3_compareNext_44 : decode cX3_compareNext 44 = .ok (.aload_n 0, 1) := by decide +kernel
theorem dX3_compareNext_45 : decode cX3_compareNext 45 = .ok (.aload_n 0, 1) := by decide +kernel
theorem dX3_compareNext_46 : decode cX3_compareNext 46 = .ok (.getfield 34, 3) := by decide +kernel
theorem dX3_compareNext_49 : decode cX3_compareNext 49 = .ok (.invokevirtual 30, 3) := by decide +kernel
theorem dX3_compareNext_52 : decode cX3_compareNext 52 = .ok (.aload_n 0, 1) := by decide +kernel
theorem dX3_compareNext_53 : decode cX3_compareNext 53 = .ok (.aload_n 0, 1) := by decide +kernel
theorem dX3_compareNext_54 : decode cX3_compareNext 54 = .ok (.getfield 27, 3) := by decide +kernel
theorem dX3_compareNext_57 : decode cX3_compareNext 57 = .ok (.invokevirtual 30, 3) := by decide +kernel
theorem dX3_compareNext_60 : decode cX3_compareNext 60 = .ok (.if_icmp .ge 7, 3) := by decide +kernel
theorem dX3_compareNext_63 : decode cX3_compareNext 63 = .ok (.iconst 1, 1) := by decide +kernel
theorem dX3_compareNext_64 : decode cX3_compareNext 64 = .ok (.goto 4, 3) := by decide +kernel
theorem dX3_compareNext_67 : decode cX3_compareNext 67 = .ok (.iconst 0, 1) := by decide +kernel
theorem dX3_compareNext_68 : decode cX3_compareNext 68 = .ok (.istore_n 1, 1) := by decide +kernel
theorem dX3_compareNext_69 : decode cX3_compareNext 69 = .ok (.iload_n 1, 1) := by decide +kernel
theorem dX3_compareNext_70 : decode cX3_compareNext 70 = .ok (.ifCond .eq 23, 3) := by decide +kernel
theorem dX3_compareNext_73 : decode cX3_compareNext 73 = .ok (.aload_n 0, 1) := by decide +kernel
theorem dX3_compareNext_74 : decode cX3_compareNext 74 = .ok (.aload_n 0, 1) := by decide +kernel
theorem dX3_compareNext_75 : decode cX3_compareNext 75 = .ok (.getfield 34, 3) := by decide +kernel
theorem dX3_compareNext_78 : decode cX3_compareNext 78 = .ok (.aload_n 0, 1) := by decide +kernel
theorem dX3_compareNext_79 : decode cX3_compareNext 79 = .ok (.getfield 27, 3) := by decide +kernel
theorem dX3_compareNext_82 : decode cX3_compareNext 82 = .ok (.invokevirtual 37, 3) := by decide +kernel
theorem dX3_compareNext_85 : decode cX3_compareNext 85 = .ok (.aload_n 0, 1) := by decide +kernel
theorem dX3_compareNext_86 : decode cX3_compareNext 86 = .ok (.aload_n 0, 1) := by decide +kernel
theorem dX3_compareNext_87 : decode cX3_compareNext 87 = .ok (.getfield 27, 3) := by decide +kernel
theorem dX3_compareNext_90 : decode cX3_compareNext 90 = .ok (.invokevirtual 19, 3) := by decide +kernel
theorem dX3_compareNext_93 : decode cX3_compareNext 93 = .ok (.iload_n 1, 1) := by decide +kernel
theorem dX3_compareNext_94 : decode cX3_compareNext 94 = .ok (.ifCond .eq 14, 3) := by decide +kernel
theorem dX3_compareNext_97 : decode cX3_compareNext 97 = .ok (.aload_n 0, 1) := by decide +kernel
theorem dX3_compareNext_98 : decode cX3_compareNext 98 = .ok (.getfield 27, 3) := by decide +kernel
theorem dX3_compareNext_101 : decode cX3_compareNext 101 = .ok (.aload_n 0, 1) := by decide +kernel
theorem dX3_compareNext_102 : decode cX3_compareNext 102 = .ok (.getfield 16, 3) := by decide +kernel
theorem dX3_compareNext_105 : decode cX3_compareNext 105 = .ok (.if_icmp .lt 7, 3) := by decide +kernel
theorem dX3_compareNext_108 : decode cX3_compareNext 108 = .ok (.aload_n 0, 1) := by decide +kernel
theorem dX3_compareNext_109 : decode cX3_compareNext 109 = .ok (.invokevirtual 41, 3) := by decide +kernel
theorem dX3_compareNext_112 : decode cX3_compareNext 112 = .ok (.return_, 1) := by decide +kernel
theorem dX3_sinkFrom_0 : decode cX3_sinkFrom 0 = .ok (.aload_n 0, 1) := by decide +kernel
theorem dX3_sinkFrom_1 : decode cX3_sinkFrom 1 = .ok (.iload_n 1, 1) := by decide +kernel
theorem dX3_sinkFrom_2 : decode cX3_sinkFrom 2 = .ok (.putfield 34, 3) := by decide +kernel
theorem dX3_sinkFrom_5 : decode cX3_sinkFrom 5 = .ok (.aload_n 0, 1) := by decide +kernel
theorem dX3_sinkFrom_6 : decode cX3_sinkFrom 6 = .ok (.iconst 2, 1) := by decide +kernel
theorem dX3_sinkFrom_7 : decode cX3_sinkFrom 7 = .ok (.iload_n 1, 1) := by decide +kernel
theorem dX3_sinkFrom_8 : decode cX3_sinkFrom 8 = .ok (.imul, 1) := by decide +kernel
theorem dX3_sinkFrom_9 : decode cX3_sinkFrom 9 = .ok (.iconst 1, 1) := by decide +kernel
theorem dX3_sinkFrom_10 : decode cX3_sinkFrom 10 = .ok (.iadd, 1) := by decide +kernel
theorem dX3_sinkFrom_11 : decode cX3_sinkFrom 11 = .ok (.putfield 27, 3) := by decide +kernel
theorem dX3_sinkFrom_14 : decode cX3_sinkFrom 14 = .ok (.aload_n 0, 1) := by decide +kernel
theorem dX3_sinkFrom_15 : decode cX3_sinkFrom 15 = .ok (.aload_n 0, 1) := by decide +kernel
theorem dX3_sinkFrom_16 : decode cX3_sinkFrom 16 = .ok (.getfield 27, 3) := by decide +kernel
theorem dX3_sinkFrom_19 : decode cX3_sinkFrom 19 = .ok (.iconst 1, 1) := by decide +kernel
theorem dX3_sinkFrom_20 : decode cX3_sinkFrom 20 = .ok (.iadd, 1) := by decide +kernel
theorem dX3_sinkFrom_21 : decode cX3_sinkFrom 21 = .ok (.aload_n 0, 1) := by decide +kernel
theorem dX3_sinkFrom_22 : decode cX3_sinkFrom 22 = .ok (.getfield 16, 3) := by decide +kernel
theorem dX3_sinkFrom_25 : decode cX3_sinkFrom 25 = .ok (.if_icmp .ge 7, 3) := by decide +kernel
theorem dX3_sinkFrom_28 : decode cX3_sinkFrom 28 = .ok (.iconst 1, 1) := by decide +kernel
theorem dX3_sinkFrom_29 : decode cX3_sinkFrom 29 = .ok (.goto 4, 3) := by decide +kernel
theorem dX3_sinkFrom_32 : decode cX3_sinkFrom 32 = .ok (.iconst 0, 1) := by decide +kernel
theorem dX3_sinkFrom_33 : decode cX3_sinkFrom 33 = .ok (.putfield 23, 3) := by decide +kernel
theorem dX3_sinkFrom_36 : decode cX3_sinkFrom 36 = .ok (.return_, 1) := by decide +kernel
theorem dX3_goOnWithNextSink_0 : decode cX3_goOnWithNextSink 0 = .ok (.aload_n 0, 1) := by decide +kernel
theorem dX3_goOnWithNextSink_1 : decode cX3_goOnWithNextSink 1 = .ok (.getfield 13, 3) := by decide +kernel
theorem dX3_goOnWithNextSink_4 : decode cX3_goOnWithNextSink 4 = .ok (.ifCond .le 22, 3) := by decide +kernel
theorem dX3_goOnWithNextSink_7 : decode cX3_goOnWithNextSink 7 = .ok (.aload_n 0, 1) := by decide +kernel
theorem dX3_goOnWithNextSink_8 : decode cX3_goOnWithNextSink 8 = .ok (.dup, 1) := by decide +kernel
theorem dX3_goOnWithNextSink_9 : decode cX3_goOnWithNextSink 9 = .ok (.getfield 13, 3) := by decide +kernel
theorem dX3_goOnWithNextSink_12 : decode cX3_goOnWithNextSink 12 = .ok (.iconst 1, 1) := by decide +kernel
theorem dX3_goOnWithNextSink_13 : decode cX3_goOnWithNextSink 13 = .ok (.isub, 1) := by decide +kernel
theorem dX3_goOnWithNextSink_14 : decode cX3_goOnWithNextSink 14 = .ok (.putfield 13, 3) := by decide +kernel
theorem dX3_goOnWithNextSink_17 : decode cX3_goOnWithNextSink 17 = .ok (.aload_n 0, 1) := by decide +kernel
theorem dX3_goOnWithNextSink_18 : decode cX3_goOnWithNextSink 18 = .ok (.aload_n 0, 1) := by decide +kernel
theorem dX3_goOnWithNextSink_19 : decode cX3_goOnWithNextSink 19 = .ok (.getfield 13, 3) := by decide +kernel
theorem dX3_goOnWithNextSink_22 : decode cX3_goOnWithNextSink 22 = .ok (.invokevirtual 19, 3) := by decide +kernel
theorem dX3_goOnWithNextSink_25 : decode cX3_goOnWithNextSink 25 = .ok (.return_, 1) := by decide +kernel
theorem dX3_goOnWithNextSink_26 : decode cX3_goOnWithNextSink 26 = .ok (.aload_n 0, 1) := by decide +kernel
theorem dX3_goOnWithNextSink_27 : decode cX3_goOnWithNextSink 27 = .ok (.dup, 1) := by decide +kernel
theorem dX3_goOnWithNextSink_28 : decode cX3_goOnWithNextSink 28 = .ok (.getfield 16, 3) := by decide +kernel
theorem dX3_goOnWithNextSink_31 : decode cX3_goOnWithNextSink 31 = .ok (.iconst 1, 1) := by decide +kernel
theorem dX3_goOnWithNextSink_32 : decode cX3_goOnWithNextSink 32 = .ok (.isub, 1) := by decide +kernel
theorem dX3_goOnWithNextSink_33 : decode cX3_goOnWithNextSink 33 = .ok (.putfield 16, 3) := by decide +kernel
theorem dX3_goOnWithNextSink_36 : decode cX3_goOnWithNextSink 36 = .ok (.aload_n 0, 1) := by decide +kernel
theorem dX3_goOnWithNextSink_37 : decode cX3_goOnWithNextSink 37 = .ok (.iconst 0, 1) := by decide +kernel
theorem dX3_goOnWithNextSink_38 : decode cX3_goOnWithNextSink 38 = .ok (.aload_n 0, 1) := by decide +kernel
theorem dX3_goOnWithNextSink_39 : decode cX3_goOnWithNextSink 39 = .ok (.getfield 16, 3) := by decide +kernel
theorem dX3_goOnWithNextSink_42 : decode cX3_goOnWithNextSink 42 = .ok (.invokevirtual 37, 3) := by decide +kernel
theorem dX3_goOnWithNextSink_45 : decode cX3_goOnWithNextSink 45 = .ok (.aload_n 0, 1) := by decide +kernel
theorem dX3_goOnWithNextSink_46 : decode cX3_goOnWithNextSink 46 = .ok (.iconst 0, 1) := by decide +kernel
theorem dX3_goOnWithNextSink_47 : decode cX3_goOnWithNextSink 47 = .ok (.invokevirtual 19, 3) := by decide +kernel
theorem dX3_goOnWithNextSink_50 : decode cX3_goOnWithNextSink 50 = .ok (.aload_n 0, 1) := by decide +kernel
theorem dX3_goOnWithNextSink_51 : decode cX3_goOnWithNextSink 51 = .ok (.aload_n 0, 1) := by decide +kernel
theorem dX3_goOnWithNextSink_52 : decode cX3_goOnWithNextSink 52 = .ok (.getfield 16, 3) := by decide +kernel
theorem dX3_goOnWithNextSink_55 : decode cX3_goOnWithNextSink 55 = .ok (.iconst 1, 1) := by decide +kernel
theorem dX3_goOnWithNextSink_56 : decode cX3_goOnWithNextSink 56 = .ok (.if_icmp .gt 7, 3) := by decide +kernel
theorem dX3_goOnWithNextSink_59 : decode cX3_goOnWithNextSink 59 = .ok (.iconst 1, 1) := by decide +kernel
theorem dX3_goOnWithNextSink_60 : decode cX3_goOnWithNextSink 60 = .ok (.goto 4, 3) := by decide +kernel
theorem dX3_goOnWithNextSink_63 : decode cX3_goOnWithNextSink 63 = .ok (.iconst 0, 1) := by decide +kernel
theorem dX3_goOnWithNextSink_64 : decode cX3_goOnWithNextSink 64 = .ok (.putfield 45, 3) := by decide +kernel
theorem dX3_goOnWithNextSink_67 : decode cX3_goOnWithNextSink 67 = .ok (.return_, 1) := by decide +kernel
theorem dX4_init_0 : decode cX4_init 0 = .ok (.aload_n 0, 1) := by decide +kernel
theorem dX4_init_1 : decode cX4_init 1 = .ok (.invokespecial 3, 3) := by decide +kernel
theorem dX4_init_4 : decode cX4_init 4 = .ok (.aload_n 0, 1) := by decide +kernel
theorem dX4_init_5 : decode cX4_init 5 = .ok (.iload_n 1, 1) := by decide +kernel
theorem dX4_init_6 : decode cX4_init 6 = .ok (.putfield 9, 3) := by decide +kernel
theorem dX4_init_9 : decode cX4_init 9 = .ok (.aload_n 0, 1) := by decide +kernel
theorem dX4_init_10 : decode cX4_init 10 = .ok (.iload_n 2, 1) := by decide +kernel
theorem dX4_init_11 : decode cX4_init 11 = .ok (.putfield 15, 3) := by decide +kernel
theorem dX4_init_14 : decode cX4_init 14 = .ok (.aload_n 0, 1) := by decide +kernel
theorem dX4_init_15 : decode cX4_init 15 = .ok (.iload_n 3, 1) := by decide +kernel
theorem dX4_init_16 : decode cX4_init 16 = .ok (.putfield 18, 3) := by decide +kernel
theorem dX4_init_19 : decode cX4_init 19 = .ok (.aload_n 0, 1) := by decide +kernel
theorem dX4_init_20 : decode cX4_init 20 = .ok (.new 21, 3) := by decide +kernel
theorem dX4_init_23 : decode cX4_init 23 = .ok (.dup, 1) := by decide +kernel
theorem dX4_init_24 : decode cX4_init 24 = .ok (.invokespecial 23, 3) := by decide +kernel
theorem dX4_init_27 : decode cX4_init 27 = .ok (.putfield 24, 3) := by decide +kernel
theorem dX4_init_30 : decode cX4_init 30 = .ok (.aload_n 0, 1) := by decide +kernel
theorem dX4_init_31 : decode cX4_init 31 = .ok (.new 21, 3) := by decide +kernel
theorem dX4_init_34 : decode cX4_init 34 = .ok (.dup, 1) := by decide +kernel
theorem dX4_init_35 : decode cX4_init 35 = .ok (.invokespecial 23, 3) := by decide +kernel
theorem dX4_init_38 : decode cX4_init 38 = .ok (.putfield 28, 3) := by decide +kernel
theorem dX4_init_41 : decode cX4_init 41 = .ok (.aload_n 0, 1) := by decide +kernel
theorem dX4_init_42 : decode cX4_init 42 = .ok (.iconst 1, 1) := by decide +kernel
theorem dX4_init_43 : decode cX4_init 43 = .ok (.putfield 31, 3) := by decide +kernel
theorem dX4_init_46 : decode cX4_init 46 = .ok (.aload_n 0, 1) := by decide +kernel
theorem dX4_init_47 : decode cX4_init 47 = .ok (.iconst (-1), 1) := by decide +kernel
theorem dX4_init_48 : decode cX4_init 48 = .ok (.putfield 34, 3) := by decide +kernel
theorem dX4_init_51 : decode cX4_init 51 = .ok (.aload_n 0, 1) := by decide +kernel
theorem dX4_init_52 : decode cX4_init 52 = .ok (.iconst (-1), 1) := by decide +kernel
theorem dX4_init_53 : decode cX4_init 53 = .ok (.putfield 37, 3) := by decide +kernel
theorem dX4_init_56 : decode cX4_init 56 = .ok (.return_, 1) := by decide +kernel
theorem dX4_hasNumber_0 : decode cX4_hasNumber 0 = .ok (.iload_n 1, 1) := by decide +kernel
theorem dX4_hasNumber_1 : decode cX4_hasNumber 1 = .ok (.ifCond .lt 18, 3) := by decide +kernel
theorem dX4_hasNumber_4 : decode cX4_hasNumber 4 = .ok (.iload_n 1, 1) := by decide +kernel
theorem dX4_hasNumber_5 : decode cX4_hasNumber 5 = .ok (.aload_n 0, 1) := by decide +kernel
theorem dX4_hasNumber_6 : decode cX4_hasNumber 6 = .ok (.getfield 24, 3) := by decide +kernel
theorem dX4_hasNumber_9 : decode cX4_hasNumber 9 = .ok (.getfield 40, 3) := by decide +kernel
theorem dX4_hasNumber_12 : decode cX4_hasNumber 12 = .ok (.if_icmp .ge 7, 3) := by decide +kernel
theorem dX4_hasNumber_15 : decode cX4_hasNumber 15 = .ok (.iconst 1, 1) := by decide +kernel
theorem dX4_hasNumber_16 : decode cX4_hasNumber 16 = .ok (.goto 4, 3) := by decide +kernel
theorem dX4_hasNumber_19 : decode cX4_hasNumber 19 = .ok (.iconst 0, 1) := by decide +kernel
theorem dX4_hasNumber_20 : decode cX4_hasNumber 20 = .ok (.ireturn, 1) := by decide +kernel
theorem dX4_isSorted_0 : decode cX4_isSorted 0 = .ok (.aload_n 0, 1) := by decide +kernel
theorem dX4_isSorted_1 : decode cX4_isSorted 1 = .ok (.getfield 43, 3) := by decide +kernel
theorem dX4_isSorted_4 : decode cX4_isSorted 4 = .ok (.ifnull 13, 3) := by decide +kernel
theorem dX4_isSorted_7 : decode cX4_isSorted 7 = .ok (.aload_n 0, 1) := by decide +kernel
theorem dX4_isSorted_8 : decode cX4_isSorted 8 = .ok (.getfield 43, 3) := by decide +kernel
theorem dX4_isSorted_11 : decode cX4_isSorted 11 = .ok (.getfield 47, 3) := by decide +kernel
theorem dX4_isSorted_14 : decode cX4_isSorted 14 = .ok (.ifCond .eq 7, 3) := by decide +kernel
theorem dX4_isSorted_17 : decode cX4_isSorted 17 = .ok (.iconst 1, 1) := by decide +kernel
theorem dX4_isSorted_18 : decode cX4_isSorted 18 = .ok (.goto 4, 3) := by decide +kernel
theorem dX4_isSorted_21 : decode cX4_isSorted 21 = .ok (.iconst 0, 1) := by decide +kernel
theorem dX4_isSorted_22 : decode cX4_isSorted 22 = .ok (.ireturn, 1) := by decide +kernel
theorem dX4_compareUpTo_0 : decode cX4_compareUpTo 0 = .ok (.iconst 0, 1) := by decide +kernel
theorem dX4_compareUpTo_1 : decode cX4_compareUpTo 1 = .ok (.istore_n 2, 1) := by decide +kernel
theorem dX4_compareUpTo_2 : decode cX4_compareUpTo 2 = .ok (.iload_n 2, 1) := by decide +kernel
theorem dX4_compareUpTo_3 : decode cX4_compareUpTo 3 = .ok (.iload_n 1, 1) := by decide +kernel
theorem dX4_compareUpTo_4 : decode cX4_compareUpTo 4 = .ok (.if_icmp .ge 33, 3) := by decide +kernel
theorem dX4_compareUpTo_7 : decode cX4_compareUpTo 7 = .ok (.aload_n 0, 1) := by decide +kernel
theorem dX4_compareUpTo_8 : decode cX4_compareUpTo 8 = .ok (.getfield 43, 3) := by decide +kernel
theorem dX4_compareUpTo_11 : decode cX4_compareUpTo 11 = .ok (.ifnull 26, 3) := by decide +kernel
theorem dX4_compareUpTo_14 : decode cX4_compareUpTo 14 = .ok (.aload_n 0, 1) := by decide +kernel
theorem dX4_compareUpTo_15 : decode cX4_compareUpTo 15 = .ok (.getfield 43, 3) := by decide +kernel
theorem dX4_compareUpTo_18 : decode cX4_compareUpTo 18 = .ok (.getfield 47, 3) := by decide +kernel
theorem dX4_compareUpTo_21 : decode cX4_compareUpTo 21 = .ok (.ifCond .ne 16, 3) := by decide +kernel
theorem dX4_compareUpTo_24 : decode cX4_compareUpTo 24 = .ok (.aload_n 0, 1) := by decide +kernel
theorem dX4_compareUpTo_25 : decode cX4_compareUpTo 25 = .ok (.getfield 43, 3) := by decide +kernel
theorem dX4_compareUpTo_28 : decode cX4_compareUpTo 28 = .ok (.invokevirtual 53, 3) := by decide +kernel
theorem dX4_compareUpTo_31 : decode cX4_compareUpTo 31 = .ok (.iinc 2 1, 3) := by decide +kernel
theorem dX4_compareUpTo_34 : decode cX4_compareUpTo 34 = .ok (.goto (-32), 3) := by decide +kernel
theorem dX4_compareUpTo_37 : decode cX4_compareUpTo 37 = .ok (.aload_n 0, 1) := by decide +kernel
theorem dX4_compareUpTo_38 : decode cX4_compareUpTo 38 = .ok (.dup, 1) := by decide +kernel
theorem dX4_compareUpTo_39 : decode cX4_compareUpTo 39 = .ok (.getfield 56, 3) := by decide +kernel
theorem dX4_compareUpTo_42 : decode cX4_compareUpTo 42 = .ok (.iload_n 2, 1) := by decide +kernel
theorem dX4_compareUpTo_43 : decode cX4_compareUpTo 43 = .ok (.iadd, 1) := by decide +kernel
theorem dX4_compareUpTo_44 : decode cX4_compareUpTo 44 = .ok (.putfield 56, 3) := by decide +kernel
theorem dX4_compareUpTo_47 : decode cX4_compareUpTo 47 = .ok (.iload_n 2, 1) := by decide +kernel
theorem dX4_compareUpTo_48 : decode cX4_compareUpTo 48 = .ok (.ireturn, 1) := by decide +kernel
theorem dX5_init_0 : decode cX5_init 0 = .ok (.aload_n 0, 1) := by decide +kernel
theorem dX5_init_1 : decode cX5_init 1 = .ok (.aload_n 1, 1) := by decide +kernel
theorem dX5_init_2 : decode cX5_init 2 = .ok (.aload_n 2, 1) := by decide +kernel
theorem dX5_init_3 : decode cX5_init 3 = .ok (.invokespecial 1, 3) := by decide +kernel
theorem dX5_init_6 : decode cX5_init 6 = .ok (.aload_n 0, 1) := by decide +kernel
theorem dX5_init_7 : decode cX5_init 7 = .ok (.aload_n 3, 1) := by decide +kernel
theorem dX5_init_8 : decode cX5_init 8 = .ok (.putfield 7, 3) := by decide +kernel
theorem dX5_init_11 : decode cX5_init 11 = .ok (.return_, 1) := by decide +kernel
theorem dX5_begin_0 : decode cX5_begin 0 = .ok (.aload_n 0, 1) := by decide +kernel
theorem dX5_begin_1 : decode cX5_begin 1 = .ok (.iconst 1, 1) := by decide +kernel
theorem dX5_begin_2 : decode cX5_begin 2 = .ok (.putfield 13, 3) := by decide +kernel
theorem dX5_begin_5 : decode cX5_begin 5 = .ok (.aload_n 0, 1) := by decide +kernel
theorem dX5_begin_6 : decode cX5_begin 6 = .ok (.iconst 0, 1) := by decide +kernel
theorem dX5_begin_7 : decode cX5_begin 7 = .ok (.invokevirtual 17, 3) := by decide +kernel
theorem dX5_begin_10 : decode cX5_begin 10 = .ok (.return_, 1) := by decide +kernel
theorem dX5_compareNext_0 : decode cX5_compareNext 0 = .ok (.aload_n 0, 1) := by decide +kernel
theorem dX5_compareNext_1 : decode cX5_compareNext 1 = .ok (.getfield 21, 3) := by decide +kernel
theorem dX5_compareNext_4 : decode cX5_compareNext 4 = .ok (.aload_n 0, 1) := by decide +kernel
theorem dX5_compareNext_5 : decode cX5_compareNext 5 = .ok (.invokevirtual 25, 3) := by decide +kernel
theorem dX5_compareNext_8 : decode cX5_compareNext 8 = .ok (.aload_n 0, 1) := by decide +kernel
theorem dX5_compareNext_9 : decode cX5_compareNext 9 = .ok (.getfield 29, 3) := by decide +kernel
theorem dX5_compareNext_12 : decode cX5_compareNext 12 = .ok (.iadd, 1) := by decide +kernel
theorem dX5_compareNext_13 : decode cX5_compareNext 13 = .ok (.invokevirtual 32, 3) := by decide +kernel
theorem dX5_compareNext_16 : decode cX5_compareNext 16 = .ok (.istore_n 1, 1) := by decide +kernel
theorem dX5_compareNext_17 : decode cX5_compareNext 17 = .ok (.aload_n 0, 1) := by decide +kernel
theorem dX5_compareNext_18 : decode cX5_compareNext 18 = .ok (.getfield 21, 3) := by decide +kernel
theorem dX5_compareNext_21 : decode cX5_compareNext 21 = .ok (.aload_n 0, 1) := by decide +kernel
theorem dX5_compareNext_22 : decode cX5_compareNext 22 = .ok (.invokevirtual 25, 3) := by decide +kernel
theorem dX5_compareNext_25 : decode cX5_compareNext 25 = .ok (.aload_n 0, 1) := by decide +kernel
theorem dX5_compareNext_26 : decode cX5_compareNext 26 = .ok (.getfield 38, 3) := by decide +kernel
theorem dX5_compareNext_29 : decode cX5_compareNext 29 = .ok (.iadd, 1) := by decide +kernel
theorem dX5_compareNext_30 : decode cX5_compareNext 30 = .ok (.invokevirtual 32, 3) := by decide +kernel
theorem dX5_compareNext_33 : decode cX5_compareNext 33 = .ok (.istore_n 2, 1) := by decide +kernel
theorem dX5_compareNext_34 : decode cX5_compareNext 34 = .ok (.iload_n 1, 1) := by decide +kernel
theorem dX5_compareNext_35 : decode cX5_compareNext 35 = .ok (.iload_n 2, 1) := by decide +kernel
theorem dX5_compareNext_36 : decode cX5_compareNext 36 = .ok (.if_icmp .gt 33, 3) := by decide +kernel
theorem dX5_compareNext_39 : decode cX5_compareNext 39 = .ok (.aload_n 0, 1) := by decide +kernel
theorem dX5_compareNext_40 : decode cX5_compareNext 40 = .ok (.getfield 21, 3) := by decide +kernel
theorem dX5_compareNext_43 : decode cX5_compareNext 43 = .ok (.aload_n 0, 1) := by decide +kernel
theorem dX5_compareNext_44 : decode cX5_compareNext 44 = .ok (.invokevirtual 41, 3) := by decide +kernel
theorem dX5_compareNext_47 : decode cX5_compareNext 47 = .ok (.aload_n 0, 1) := by decide +kernel
theorem dX5_compareNext_48 : decode cX5_compareNext 48 = .ok (.getfield 44, 3) := by decide +kernel
theorem dX5_compareNext_51 : decode cX5_compareNext 51 = .ok (.iadd, 1) := by decide +kernel
theorem dX5_compareNext_52 : decode cX5_compareNext 52 = .ok (.iload_n 1, 1) := by decide +kernel
theorem dX5_compareNext_53 : decode cX5_compareNext 53 = .ok (.invokevirtual 47, 3) := by decide +kernel
theorem dX5_compareNext_56 : decode cX5_compareNext 56 = .ok (.aload_n 0, 1) := by decide +kernel
theorem dX5_compareNext_57 : decode cX5_compareNext 57 = .ok (.dup, 1) := by decide +kernel
theorem dX5_compareNext_58 : decode cX5_compareNext 58 = .ok (.getfield 29, 3) := by decide +kernel
theorem dX5_compareNext_61 : decode cX5_compareNext 61 = .ok (.iconst 1, 1) := by decide +kernel
theorem dX5_compareNext_62 : decode cX5_compareNext 62 = .ok (.iadd, 1) := by decide +kernel
theorem dX5_compareNext_63 : decode cX5_compareNext 63 = .ok (.putfield 29, 3) := by decide +kernel
theorem dX5_compareNext_66 : decode cX5_compareNext 66 = .ok (.goto 30, 3) := by decide +kernel
theorem dX5_compareNext_69 : decode cX5_compareNext 69 = .ok (.aload_n 0, 1) := by decide +kernel
theorem dX5_compareNext_70 : decode cX5_compareNext 70 = .ok (.getfield 21, 3) := by decide +kernel
theorem dX5_compareNext_73 : decode cX5_compareNext 73 = .ok (.aload_n 0, 1) := by decide +kernel
theorem dX5_compareNext_74 : decode cX5_compareNext 74 = .ok (.invokevirtual 41, 3) := by decide +kernel
theorem dX5_compareNext_77 : decode cX5_compareNext 77 = .ok (.aload_n 0, 1) := by decide +kernel
theorem dX5_compareNext_78 : decode cX5_compareNext 78 = .ok (.getfield 44, 3) := by decide +kernel
theorem dX5_compareNext_81 : decode cX5_compareNext 81 = .ok (.iadd, 1) := by decide +kernel
theorem dX5_compareNext_82 : decode cX5_compareNext 82 = .ok (.iload_n 2, 1) := by decide +kernel
theorem dX5_compareNext_83 : decode cX5_compareNext 83 = .ok (.invokevirtual 47, 3) := by decide +kernel
theorem dX5_compareNext_86 : decode cX5_compareNext 86 = .ok (.aload_n 0, 1) := by decide +kernel
theorem dX5_compareNext_87 : decode cX5_compareNext 87 = .ok (.dup, 1) := by decide +kernel
theorem dX5_compareNext_88 : decode cX5_compareNext 88 = .ok (.getfield 38, 3) := by decide +kernel
theorem dX5_compareNext_91 : decode cX5_compareNext 91 = .ok (.iconst 1, 1) := by decide +kernel
theorem dX5_compareNext_92 : decode cX5_compareNext 92 = .ok (.iadd, 1) := by decide +kernel
theorem dX5_compareNext_93 : decode cX5_compareNext 93 = .ok (.putfield 38, 3) := by decide +kernel
theorem dX5_compareNext_96 : decode cX5_compareNext 96 = .ok (.aload_n 0, 1) := by decide +kernel
theorem dX5_compareNext_97 : decode cX5_compareNext 97 = .ok (.dup, 1) := by decide +kernel
theorem dX5_compareNext_98 : decode cX5_compareNext 98 = .ok (.getfield 44, 3) := by decide +kernel
theorem dX5_compareNext_101 : decode cX5_compareNext 101 = .ok (.iconst 1, 1) := by decide +kernel
theorem dX5_compareNext_102 : decode cX5_compareNext 102 = .ok (.iadd, 1) := by decide +kernel
theorem dX5_compareNext_103 : decode cX5_compareNext 103 = .ok (.putfield 44, 3) := by decide +kernel
theorem dX5_compareNext_106 : decode cX5_compareNext 106 = .ok (.aload_n 0, 1) := by decide +kernel
theorem dX5_compareNext_107 : decode cX5_compareNext 107 = .ok (.getfield 29, 3) := by decide +kernel
theorem dX5_compareNext_110 : decode cX5_compareNext 110 = .ok (.aload_n 0, 1) := by decide +kernel
theorem dX5_compareNext_111 : decode cX5_compareNext 111 = .ok (.getfield 51, 3) := by decide +kernel
theorem dX5_compareNext_114 : decode cX5_compareNext 114 = .ok (.if_icmp .ge 14, 3) := by decide +kernel
theorem dX5_compareNext_117 : decode cX5_compareNext 117 = .ok (.aload_n 0, 1) := by decide +kernel
theorem dX5_compareNext_118 : decode cX5_compareNext 118 = .ok (.getfield 38, 3) := by decide +kernel
theorem dX5_compareNext_121 : decode cX5_compareNext 121 = .ok (.aload_n 0, 1) := by decide +kernel
theorem dX5_compareNext_122 : decode cX5_compareNext 122 = .ok (.getfield 54, 3) := by decide +kernel
theorem dX5_compareNext_125 : decode cX5_compareNext 125 = .ok (.if_icmp .lt 7, 3) := by decide +kernel
theorem dX5_compareNext_128 : decode cX5_compareNext 128 = .ok (.aload_n 0, 1) := by decide +kernel
theorem dX5_compareNext_129 : decode cX5_compareNext 129 = .ok (.invokevirtual 57, 3) := by decide +kernel
theorem dX5_compareNext_132 : decode cX5_compareNext 132 = .ok (.return_, 1) := by decide +kernel
theorem dX5_from_0 : decode cX5_from 0 = .ok (.aload_n 0, 1) := by decide +kernel
theorem dX5_from_1 : decode cX5_from 1 = .ok (.getfield 61, 3) := by decide +kernel
theorem dX5_from_4 : decode cX5_from 4 = .ok (.ifCond .eq 13, 3) := by decide +kernel
theorem dX5_from_7 : decode cX5_from 7 = .ok (.aload_n 0, 1) := by decide +kernel
theorem dX5_from_8 : decode cX5_from 8 = .ok (.getfield 7, 3) := by decide +kernel
theorem dX5_from_11 : decode cX5_from 11 = .ok (.getfield 65, 3) := by decide +kernel
theorem dX5_from_14 : decode cX5_from 14 = .ok (.goto 10, 3) := by decide +kernel
theorem dX5_from_17 : decode cX5_from 17 = .ok (.aload_n 0, 1) := by decide +kernel
theorem dX5_from_18 : decode cX5_from 18 = .ok (.getfield 68, 3) := by decide +kernel
theorem dX5_from_21 : decode cX5_from 21 = .ok (.getfield 65, 3) := by decide +kernel
theorem dX5_from_24 : decode cX5_from 24 = .ok (.ireturn, 1) := by decide +kernel
theorem dX5_to_0 : decode cX5_to 0 = .ok (.aload_n 0, 1) := by decide +kernel
theorem dX5_to_1 : decode cX5_to 1 = .ok (.getfield 61, 3) := by decide +kernel
theorem dX5_to_4 : decode cX5_to 4 = .ok (.ifCond .eq 13, 3) := by decide +kernel
theorem dX5_to_7 : decode cX5_to 7 = .ok (.aload_n 0, 1) := by decide +kernel
theorem dX5_to_8 : decode cX5_to 8 = .ok (.getfield 68, 3) := by decide +kernel
theorem dX5_to_11 : decode cX5_to 11 = .ok (.getfield 65, 3) := by decide +kernel
theorem dX5_to_14 : decode cX5_to 14 = .ok (.goto 10, 3) := by decide +kernel
theorem dX5_to_17 : decode cX5_to 17 = .ok (.aload_n 0, 1) := by decide +kernel
theorem dX5_to_18 : decode cX5_to 18 = .ok (.getfield 7, 3) := by decide +kernel
theorem dX5_to_21 : decode cX5_to 21 = .ok (.getfield 65, 3) := by decide +kernel
theorem dX5_to_24 : decode cX5_to 24 = .ok (.ireturn, 1) := by decide +kernel
theorem dX5_standAt_0 : decode cX5_standAt 0 = .ok (.aload_n 0, 1) := by decide +kernel
theorem dX5_standAt_1 : decode cX5_standAt 1 = .ok (.iload_n 1, 1) := by decide +kernel
theorem dX5_standAt_2 : decode cX5_standAt 2 = .ok (.putfield 29, 3) := by decide +kernel
theorem dX5_standAt_5 : decode cX5_standAt 5 = .ok (.aload_n 0, 1) := by decide +kernel
theorem dX5_standAt_6 : decode cX5_standAt 6 = .ok (.iload_n 1, 1) := by decide +kernel
theorem dX5_standAt_7 : decode cX5_standAt 7 = .ok (.aload_n 0, 1) := by decide +kernel
theorem dX5_standAt_8 : decode cX5_standAt 8 = .ok (.getfield 13, 3) := by decide +kernel
theorem dX5_standAt_11 : decode cX5_standAt 11 = .ok (.iadd, 1) := by decide +kernel
theorem dX5_standAt_12 : decode cX5_standAt 12 = .ok (.aload_n 0, 1) := by decide +kernel
theorem dX5_standAt_13 : decode cX5_standAt 13 = .ok (.getfield 71, 3) := by decide +kernel
theorem dX5_standAt_16 : decode cX5_standAt 16 = .ok (.invokestatic 74, 3) := by decide +kernel
theorem dX5_standAt_19 : decode cX5_standAt 19 = .ok (.putfield 51, 3) := by decide +kernel
theorem dX5_standAt_22 : decode cX5_standAt 22 = .ok (.aload_n 0, 1) := by decide +kernel
theorem dX5_standAt_23 : decode cX5_standAt 23 = .ok (.aload_n 0, 1) := by decide +kernel
theorem dX5_standAt_24 : decode cX5_standAt 24 = .ok (.getfield 51, 3) := by decide +kernel
theorem dX5_standAt_27 : decode cX5_standAt 27 = .ok (.putfield 38, 3) := by decide +kernel
theorem dX5_standAt_30 : decode cX5_standAt 30 = .ok (.aload_n 0, 1) := by decide +kernel
theorem dX5_standAt_31 : decode cX5_standAt 31 = .ok (.iload_n 1, 1) := by decide +kernel
theorem dX5_standAt_32 : decode cX5_standAt 32 = .ok (.iconst 2, 1) := by decide +kernel
theorem dX5_standAt_33 : decode cX5_standAt 33 = .ok (.aload_n 0, 1) := by decide +kernel
theorem dX5_standAt_34 : decode cX5_standAt 34 = .ok (.getfield 13, 3) := by decide +kernel
theorem dX5_standAt_37 : decode cX5_standAt 37 = .ok (.imul, 1) := by decide +kernel
theorem dX5_standAt_38 : decode cX5_standAt 38 = .ok (.iadd, 1) := by decide +kernel
theorem dX5_standAt_39 : decode cX5_standAt 39 = .ok (.aload_n 0, 1) := by decide +kernel
theorem dX5_standAt_40 : decode cX5_standAt 40 = .ok (.getfield 71, 3) := by decide +kernel
theorem dX5_standAt_43 : decode cX5_standAt 43 = .ok (.invokestatic 74, 3) := by decide +kernel
theorem dX5_standAt_46 : decode cX5_standAt 46 = .ok (.putfield 54, 3) := by decide +kernel
theorem dX5_standAt_49 : decode cX5_standAt 49 = .ok (.aload_n 0, 1) := by decide +kernel
theorem dX5_standAt_50 : decode cX5_standAt 50 = .ok (.iload_n 1, 1) := by decide +kernel
theorem dX5_standAt_51 : decode cX5_standAt 51 = .ok (.putfield 44, 3) := by decide +kernel
theorem dX5_standAt_54 : decode cX5_standAt 54 = .ok (.return_, 1) := by decide +kernel
theorem dX5_goOnWithNextRows_0 : decode cX5_goOnWithNextRows 0 = .ok (.aload_n 0, 1) := by decide +kernel
theorem dX5_goOnWithNextRows_1 : decode cX5_goOnWithNextRows 1 = .ok (.invokevirtual 80, 3) := by decide +kernel
theorem dX5_goOnWithNextRows_4 : decode cX5_goOnWithNextRows 4 = .ok (.aload_n 0, 1) := by decide +kernel
theorem dX5_goOnWithNextRows_5 : decode cX5_goOnWithNextRows 5 = .ok (.aload_n 0, 1) := by decide +kernel
theorem dX5_goOnWithNextRows_6 : decode cX5_goOnWithNextRows 6 = .ok (.getfield 54, 3) := by decide +kernel
theorem dX5_goOnWithNextRows_9 : decode cX5_goOnWithNextRows 9 = .ok (.invokevirtual 17, 3) := by decide +kernel
theorem dX5_goOnWithNextRows_12 : decode cX5_goOnWithNextRows 12 = .ok (.aload_n 0, 1) := by decide +kernel
theorem dX5_goOnWithNextRows_13 : decode cX5_goOnWithNextRows 13 = .ok (.getfield 38, 3) := by decide +kernel
theorem dX5_goOnWithNextRows_16 : decode cX5_goOnWithNextRows 16 = .ok (.aload_n 0, 1) := by decide +kernel
theorem dX5_goOnWithNextRows_17 : decode cX5_goOnWithNextRows 17 = .ok (.getfield 54, 3) := by decide +kernel
theorem dX5_goOnWithNextRows_20 : decode cX5_goOnWithNextRows 20 = .ok (.if_icmp .lt 11, 3) := by decide +kernel
theorem dX5_goOnWithNextRows_23 : decode cX5_goOnWithNextRows 23 = .ok (.aload_n 0, 1) := by decide +kernel
theorem dX5_goOnWithNextRows_24 : decode cX5_goOnWithNextRows 24 = .ok (.invokevirtual 80, 3) := by decide +kernel
theorem dX5_goOnWithNextRows_27 : decode cX5_goOnWithNextRows 27 = .ok (.aload_n 0, 1) := by decide +kernel
theorem dX5_goOnWithNextRows_28 : decode cX5_goOnWithNextRows 28 = .ok (.invokevirtual 83, 3) := by decide +kernel
theorem dX5_goOnWithNextRows_31 : decode cX5_goOnWithNextRows 31 = .ok (.return_, 1) := by decide +kernel
theorem dX5_copyRest_0 : decode cX5_copyRest 0 = .ok (.aload_n 0, 1) := by decide +kernel
theorem dX5_copyRest_1 : decode cX5_copyRest 1 = .ok (.getfield 29, 3) := by decide +kernel
theorem dX5_copyRest_4 : decode cX5_copyRest 4 = .ok (.aload_n 0, 1) := by decide +kernel
theorem dX5_copyRest_5 : decode cX5_copyRest 5 = .ok (.getfield 51, 3) := by decide +kernel
theorem dX5_copyRest_8 : decode cX5_copyRest 8 = .ok (.if_icmp .ge 10, 3) := by decide +kernel
theorem dX5_copyRest_11 : decode cX5_copyRest 11 = .ok (.aload_n 0, 1) := by decide +kernel
theorem dX5_copyRest_12 : decode cX5_copyRest 12 = .ok (.getfield 29, 3) := by decide +kernel
theorem dX5_copyRest_15 : decode cX5_copyRest 15 = .ok (.goto 7, 3) := by decide +kernel
theorem dX5_copyRest_18 : decode cX5_copyRest 18 = .ok (.aload_n 0, 1) := by decide +kernel
theorem dX5_copyRest_19 : decode cX5_copyRest 19 = .ok (.getfield 38, 3) := by decide +kernel
theorem dX5_copyRest_22 : decode cX5_copyRest 22 = .ok (.istore_n 1, 1) := by decide +kernel
theorem dX5_copyRest_23 : decode cX5_copyRest 23 = .ok (.aload_n 0, 1) := by decide +kernel
theorem dX5_copyRest_24 : decode cX5_copyRest 24 = .ok (.getfield 29, 3) := by decide +kernel
theorem dX5_copyRest_27 : decode cX5_copyRest 27 = .ok (.aload_n 0, 1) := by decide +kernel
theorem dX5_copyRest_28 : decode cX5_copyRest 28 = .ok (.getfield 51, 3) := by decide +kernel
theorem dX5_copyRest_31 : decode cX5_copyRest 31 = .ok (.if_icmp .ge 10, 3) := by decide +kernel
theorem dX5_copyRest_34 : decode cX5_copyRest 34 = .ok (.aload_n 0, 1) := by decide +kernel
theorem dX5_copyRest_35 : decode cX5_copyRest 35 = .ok (.getfield 51, 3) := by decide +kernel
theorem dX5_copyRest_38 : decode cX5_copyRest 38 = .ok (.goto 7, 3) := by decide +kernel
theorem dX5_copyRest_41 : decode cX5_copyRest 41 = .ok (.aload_n 0, 1) := by decide +kernel
theorem dX5_copyRest_42 : decode cX5_copyRest 42 = .ok (.getfield 54, 3) := by decide +kernel
theorem dX5_copyRest_45 : decode cX5_copyRest 45 = .ok (.istore_n 2, 1) := by decide +kernel
theorem dX5_copyRest_46 : decode cX5_copyRest 46 = .ok (.aload_n 0, 1) := by decide +kernel
theorem dX5_copyRest_47 : decode cX5_copyRest 47 = .ok (.getfield 21, 3) := by decide +kernel
theorem dX5_copyRest_50 : decode cX5_copyRest 50 = .ok (.aload_n 0, 1) := by decide +kernel
theorem dX5_copyRest_51 : decode cX5_copyRest 51 = .ok (.invokevirtual 25, 3) := by decide +kernel
theorem dX5_copyRest_54 : decode cX5_copyRest 54 = .ok (.iload_n 1, 1) := by decide +kernel
theorem dX5_copyRest_55 : decode cX5_copyRest 55 = .ok (.iadd, 1) := by decide +kernel
theorem dX5_copyRest_56 : decode cX5_copyRest 56 = .ok (.aload_n 0, 1) := by decide +kernel
theorem dX5_copyRest_57 : decode cX5_copyRest 57 = .ok (.invokevirtual 41, 3) := by decide +kernel
theorem dX5_copyRest_60 : decode cX5_copyRest 60 = .ok (.aload_n 0, 1) := by decide +kernel
theorem dX5_copyRest_61 : decode cX5_copyRest 61 = .ok (.getfield 44, 3) := by decide +kernel
theorem dX5_copyRest_64 : decode cX5_copyRest 64 = .ok (.iadd, 1) := by decide +kernel
theorem dX5_copyRest_65 : decode cX5_copyRest 65 = .ok (.iload_n 2, 1) := by decide +kernel
theorem dX5_copyRest_66 : decode cX5_copyRest 66 = .ok (.iload_n 1, 1) := by decide +kernel
theorem dX5_copyRest_67 : decode cX5_copyRest 67 = .ok (.isub, 1) := by decide +kernel
theorem dX5_copyRest_68 : decode cX5_copyRest 68 = .ok (.invokevirtual 86, 3) := by decide +kernel
theorem dX5_copyRest_71 : decode cX5_copyRest 71 = .ok (.return_, 1) := by decide +kernel
theorem dX5_endPass_0 : decode cX5_endPass 0 = .ok (.aload_n 0, 1) := by decide +kernel
theorem dX5_endPass_1 : decode cX5_endPass 1 = .ok (.aload_n 0, 1) := by decide +kernel
theorem dX5_endPass_2 : decode cX5_endPass 2 = .ok (.getfield 61, 3) := by decide +kernel
theorem dX5_endPass_5 : decode cX5_endPass 5 = .ok (.ifCond .ne 7, 3) := by decide +kernel
theorem dX5_endPass_8 : decode cX5_endPass 8 = .ok (.iconst 1, 1) := by decide +kernel
theorem dX5_endPass_9 : decode cX5_endPass 9 = .ok (.goto 4, 3) := by decide +kernel
theorem dX5_endPass_12 : decode cX5_endPass 12 = .ok (.iconst 0, 1) := by decide +kernel
theorem dX5_endPass_13 : decode cX5_endPass 13 = .ok (.putfield 61, 3) := by decide +kernel
theorem dX5_endPass_16 : decode cX5_endPass 16 = .ok (.aload_n 0, 1) := by decide +kernel
theorem dX5_endPass_17 : decode cX5_endPass 17 = .ok (.dup, 1) := by decide +kernel
theorem dX5_endPass_18 : decode cX5_endPass 18 = .ok (.getfield 13, 3) := by decide +kernel
theorem dX5_endPass_21 : decode cX5_endPass 21 = .ok (.iconst 2, 1) := by decide +kernel
theorem dX5_endPass_22 : decode cX5_endPass 22 = .ok (.imul, 1) := by decide +kernel
theorem dX5_endPass_23 : decode cX5_endPass 23 = .ok (.putfield 13, 3) := by decide +kernel
theorem dX5_endPass_26 : decode cX5_endPass 26 = .ok (.aload_n 0, 1) := by decide +kernel
theorem dX5_endPass_27 : decode cX5_endPass 27 = .ok (.getfield 13, 3) := by decide +kernel
theorem dX5_endPass_30 : decode cX5_endPass 30 = .ok (.aload_n 0, 1) := by decide +kernel
theorem dX5_endPass_31 : decode cX5_endPass 31 = .ok (.getfield 71, 3) := by decide +kernel
theorem dX5_endPass_34 : decode cX5_endPass 34 = .ok (.if_icmp .ge 9, 3) := by decide +kernel
theorem dX5_endPass_37 : decode cX5_endPass 37 = .ok (.aload_n 0, 1) := by decide +kernel
theorem dX5_endPass_38 : decode cX5_endPass 38 = .ok (.iconst 0, 1) := by decide +kernel
theorem dX5_endPass_39 : decode cX5_endPass 39 = .ok (.invokevirtual 17, 3) := by decide +kernel
theorem dX5_endPass_42 : decode cX5_endPass 42 = .ok (.return_, 1) := by decide +kernel
theorem dX5_endPass_43 : decode cX5_endPass 43 = .ok (.aload_n 0, 1) := by decide +kernel
theorem dX5_endPass_44 : decode cX5_endPass 44 = .ok (.getfield 61, 3) := by decide +kernel
theorem dX5_endPass_47 : decode cX5_endPass 47 = .ok (.ifCond .eq 28, 3) := by decide +kernel
theorem dX5_endPass_50 : decode cX5_endPass 50 = .ok (.aload_n 0, 1) := by decide +kernel
theorem dX5_endPass_51 : decode cX5_endPass 51 = .ok (.getfield 21, 3) := by decide +kernel
theorem dX5_endPass_54 : decode cX5_endPass 54 = .ok (.aload_n 0, 1) := by decide +kernel
theorem dX5_endPass_55 : decode cX5_endPass 55 = .ok (.getfield 7, 3) := by decide +kernel
theorem dX5_endPass_58 : decode cX5_endPass 58 = .ok (.getfield 65, 3) := by decide +kernel
theorem dX5_endPass_61 : decode cX5_endPass 61 = .ok (.aload_n 0, 1) := by decide +kernel
theorem dX5_endPass_62 : decode cX5_endPass 62 = .ok (.getfield 68, 3) := by decide +kernel
theorem dX5_endPass_65 : decode cX5_endPass 65 = .ok (.getfield 65, 3) := by decide +kernel
theorem dX5_endPass_68 : decode cX5_endPass 68 = .ok (.aload_n 0, 1) := by decide +kernel
theorem dX5_endPass_69 : decode cX5_endPass 69 = .ok (.getfield 71, 3) := by decide +kernel
theorem dX5_endPass_72 : decode cX5_endPass 72 = .ok (.invokevirtual 86, 3) := by decide +kernel
theorem dX5_endPass_75 : decode cX5_endPass 75 = .ok (.aload_n 0, 1) := by decide +kernel
theorem dX5_endPass_76 : decode cX5_endPass 76 = .ok (.iconst 1, 1) := by decide +kernel
theorem dX5_endPass_77 : decode cX5_endPass 77 = .ok (.putfield 90, 3) := by decide +kernel
theorem dX5_endPass_80 : decode cX5_endPass 80 = .ok (.return_, 1) := by decide +kernel
theorem dX6_init_0 : decode cX6_init 0 = .ok (.aload_n 0, 1) := by decide +kernel
theorem dX6_init_1 : decode cX6_init 1 = .ok (.aload_n 1, 1) := by decide +kernel
theorem dX6_init_2 : decode cX6_init 2 = .ok (.aload_n 2, 1) := by decide +kernel
theorem dX6_init_3 : decode cX6_init 3 = .ok (.invokespecial 1, 3) := by decide +kernel
theorem dX6_init_6 : decode cX6_init 6 = .ok (.aload_n 0, 1) := by decide +kernel
theorem dX6_init_7 : decode cX6_init 7 = .ok (.aload_n 3, 1) := by decide +kernel
theorem dX6_init_8 : decode cX6_init 8 = .ok (.putfield 7, 3) := by decide +kernel
theorem dX6_init_11 : decode cX6_init 11 = .ok (.return_, 1) := by decide +kernel
theorem dX6_begin_0 : decode cX6_begin 0 = .ok (.aload_n 0, 1) := by decide +kernel
theorem dX6_begin_1 : decode cX6_begin 1 = .ok (.iconst 0, 1) := by decide +kernel
theorem dX6_begin_2 : decode cX6_begin 2 = .ok (.putfield 13, 3) := by decide +kernel
theorem dX6_begin_5 : decode cX6_begin 5 = .ok (.aload_n 0, 1) := by decide +kernel
theorem dX6_begin_6 : decode cX6_begin 6 = .ok (.aload_n 0, 1) := by decide +kernel
theorem dX6_begin_7 : decode cX6_begin 7 = .ok (.getfield 17, 3) := by decide +kernel
theorem dX6_begin_10 : decode cX6_begin 10 = .ok (.iconst 1, 1) := by decide +kernel
theorem dX6_begin_11 : decode cX6_begin 11 = .ok (.isub, 1) := by decide +kernel
theorem dX6_begin_12 : decode cX6_begin 12 = .ok (.putfield 20, 3) := by decide +kernel
theorem dX6_begin_15 : decode cX6_begin 15 = .ok (.aload_n 0, 1) := by decide +kernel
theorem dX6_begin_16 : decode cX6_begin 16 = .ok (.getfield 23, 3) := by decide +kernel
theorem dX6_begin_19 : decode cX6_begin 19 = .ok (.ifCond .ne 7, 3) := by decide +kernel
theorem dX6_begin_22 : decode cX6_begin 22 = .ok (.aload_n 0, 1) := by decide +kernel
theorem dX6_begin_23 : decode cX6_begin 23 = .ok (.invokevirtual 27, 3) := by decide +kernel
theorem dX6_begin_26 : decode cX6_begin 26 = .ok (.return_, 1) := by decide +kernel
theorem dX6_compareNext_0 : decode cX6_compareNext 0 = .ok (.aload_n 0, 1) := by decide +kernel
theorem dX6_compareNext_1 : decode cX6_compareNext 1 = .ok (.aload_n 0, 1) := by decide +kernel
theorem dX6_compareNext_2 : decode cX6_compareNext 2 = .ok (.getfield 31, 3) := by decide +kernel
theorem dX6_compareNext_5 : decode cX6_compareNext 5 = .ok (.invokevirtual 34, 3) := by decide +kernel
theorem dX6_compareNext_8 : decode cX6_compareNext 8 = .ok (.aload_n 0, 1) := by decide +kernel
theorem dX6_compareNext_9 : decode cX6_compareNext 9 = .ok (.aload_n 0, 1) := by decide +kernel
theorem dX6_compareNext_10 : decode cX6_compareNext 10 = .ok (.getfield 20, 3) := by decide +kernel
theorem dX6_compareNext_13 : decode cX6_compareNext 13 = .ok (.invokevirtual 34, 3) := by decide +kernel
theorem dX6_compareNext_16 : decode cX6_compareNext 16 = .ok (.if_icmp .ge 25, 3) := by decide +kernel
theorem dX6_compareNext_19 : decode cX6_compareNext 19 = .ok (.aload_n 0, 1) := by decide +kernel
theorem dX6_compareNext_20 : decode cX6_compareNext 20 = .ok (.aload_n 0, 1) := by decide +kernel
theorem dX6_compareNext_21 : decode cX6_compareNext 21 = .ok (.getfield 31, 3) := by decide +kernel
theorem dX6_compareNext_24 : decode cX6_compareNext 24 = .ok (.aload_n 0, 1) := by decide +kernel
theorem dX6_compareNext_25 : decode cX6_compareNext 25 = .ok (.getfield 38, 3) := by decide +kernel
theorem dX6_compareNext_28 : decode cX6_compareNext 28 = .ok (.invokevirtual 41, 3) := by decide +kernel
theorem dX6_compareNext_31 : decode cX6_compareNext 31 = .ok (.aload_n 0, 1) := by decide +kernel
theorem dX6_compareNext_32 : decode cX6_compareNext 32 = .ok (.dup, 1) := by decide +kernel
theorem dX6_compareNext_33 : decode cX6_compareNext 33 = .ok (.getfield 38, 3) := by decide +kernel
theorem dX6_compareNext_36 : decode cX6_compareNext 36 = .ok (.iconst 1, 1) := by decide +kernel
theorem dX6_compareNext_37 : decode cX6_compareNext 37 = .ok (.iadd, 1) := by decide +kernel
theorem dX6_compareNext_38 : decode cX6_compareNext 38 = .ok (.putfield 38, 3) := by decide +kernel
theorem dX6_compareNext_41 : decode cX6_compareNext 41 = .ok (.aload_n 0, 1) := by decide +kernel
theorem dX6_compareNext_42 : decode cX6_compareNext 42 = .ok (.dup, 1) := by decide +kernel
theorem dX6_compareNext_43 : decode cX6_compareNext 43 = .ok (.getfield 31, 3) := by decide +kernel
theorem dX6_compareNext_46 : decode cX6_compareNext 46 = .ok (.iconst 1, 1) := by decide +kernel
theorem dX6_compareNext_47 : decode cX6_compareNext 47 = .ok (.iadd, 1) := by decide +kernel
theorem dX6_compareNext_48 : decode cX6_compareNext 48 = .ok (.putfield 31, 3) := by decide +kernel
theorem dX6_compareNext_51 : decode cX6_compareNext 51 = .ok (.aload_n 0, 1) := by decide +kernel
theorem dX6_compareNext_52 : decode cX6_compareNext 52 = .ok (.getfield 31, 3) := by decide +kernel
theorem dX6_compareNext_55 : decode cX6_compareNext 55 = .ok (.aload_n 0, 1) := by decide +kernel
theorem dX6_compareNext_56 : decode cX6_compareNext 56 = .ok (.getfield 20, 3) := by decide +kernel
theorem dX6_compareNext_59 : decode cX6_compareNext 59 = .ok (.if_icmp .lt 30, 3) := by decide +kernel
theorem dX6_compareNext_62 : decode cX6_compareNext 62 = .ok (.aload_n 0, 1) := by decide +kernel
theorem dX6_compareNext_63 : decode cX6_compareNext 63 = .ok (.aload_n 0, 1) := by decide +kernel
theorem dX6_compareNext_64 : decode cX6_compareNext 64 = .ok (.getfield 38, 3) := by decide +kernel
theorem dX6_compareNext_67 : decode cX6_compareNext 67 = .ok (.aload_n 0, 1) := by decide +kernel
theorem dX6_compareNext_68 : decode cX6_compareNext 68 = .ok (.getfield 20, 3) := by decide +kernel
theorem dX6_compareNext_71 : decode cX6_compareNext 71 = .ok (.invokevirtual 41, 3) := by decide +kernel
theorem dX6_compareNext_74 : decode cX6_compareNext 74 = .ok (.aload_n 0, 1) := by decide +kernel
theorem dX6_compareNext_75 : decode cX6_compareNext 75 = .ok (.invokevirtual 45, 3) := by decide +kernel
theorem dX6_compareNext_78 : decode cX6_compareNext 78 = .ok (.aload_n 0, 1) := by decide +kernel
theorem dX6_compareNext_79 : decode cX6_compareNext 79 = .ok (.getfield 23, 3) := by decide +kernel
theorem dX6_compareNext_82 : decode cX6_compareNext 82 = .ok (.ifCond .ne 7, 3) := by decide +kernel
theorem dX6_compareNext_85 : decode cX6_compareNext 85 = .ok (.aload_n 0, 1) := by decide +kernel
theorem dX6_compareNext_86 : decode cX6_compareNext 86 = .ok (.invokevirtual 27, 3) := by decide +kernel
theorem dX6_compareNext_89 : decode cX6_compareNext 89 = .ok (.return_, 1) := by decide +kernel
theorem dX6_startRange_0 : decode cX6_startRange 0 = .ok (.aload_n 0, 1) := by decide +kernel
theorem dX6_startRange_1 : decode cX6_startRange 1 = .ok (.aload_n 0, 1) := by decide +kernel
theorem dX6_startRange_2 : decode cX6_startRange 2 = .ok (.getfield 13, 3) := by decide +kernel
theorem dX6_startRange_5 : decode cX6_startRange 5 = .ok (.aload_n 0, 1) := by decide +kernel
theorem dX6_startRange_6 : decode cX6_startRange 6 = .ok (.getfield 20, 3) := by decide +kernel
theorem dX6_startRange_9 : decode cX6_startRange 9 = .ok (.iadd, 1) := by decide +kernel
theorem dX6_startRange_10 : decode cX6_startRange 10 = .ok (.iconst 2, 1) := by decide +kernel
theorem dX6_startRange_11 : decode cX6_startRange 11 = .ok (.idiv, 1) := by decide +kernel
theorem dX6_startRange_12 : decode cX6_startRange 12 = .ok (.aload_n 0, 1) := by decide +kernel
theorem dX6_startRange_13 : decode cX6_startRange 13 = .ok (.getfield 20, 3) := by decide +kernel
theorem dX6_startRange_16 : decode cX6_startRange 16 = .ok (.invokevirtual 41, 3) := by decide +kernel
theorem dX6_startRange_19 : decode cX6_startRange 19 = .ok (.aload_n 0, 1) := by decide +kernel
theorem dX6_startRange_20 : decode cX6_startRange 20 = .ok (.aload_n 0, 1) := by decide +kernel
theorem dX6_startRange_21 : decode cX6_startRange 21 = .ok (.getfield 13, 3) := by decide +kernel
theorem dX6_startRange_24 : decode cX6_startRange 24 = .ok (.putfield 38, 3) := by decide +kernel
theorem dX6_startRange_27 : decode cX6_startRange 27 = .ok (.aload_n 0, 1) := by decide +kernel
theorem dX6_startRange_28 : decode cX6_startRange 28 = .ok (.aload_n 0, 1) := by decide +kernel
theorem dX6_startRange_29 : decode cX6_startRange 29 = .ok (.getfield 13, 3) := by decide +kernel
theorem dX6_startRange_32 : decode cX6_startRange 32 = .ok (.putfield 31, 3) := by decide +kernel
theorem dX6_startRange_35 : decode cX6_startRange 35 = .ok (.return_, 1) := by decide +kernel
theorem dX6_chooseRange_0 : decode cX6_chooseRange 0 = .ok (.aload_n 0, 1) := by decide +kernel
theorem dX6_chooseRange_1 : decode cX6_chooseRange 1 = .ok (.getfield 38, 3) := by decide +kernel
theorem dX6_chooseRange_4 : decode cX6_chooseRange 4 = .ok (.aload_n 0, 1) := by decide +kernel
theorem dX6_chooseRange_5 : decode cX6_chooseRange 5 = .ok (.getfield 13, 3) := by decide +kernel
theorem dX6_chooseRange_8 : decode cX6_chooseRange 8 = .ok (.isub, 1) := by decide +kernel
theorem dX6_chooseRange_9 : decode cX6_chooseRange 9 = .ok (.aload_n 0, 1) := by decide +kernel
theorem dX6_chooseRange_10 : decode cX6_chooseRange 10 = .ok (.getfield 20, 3) := by decide +kernel
theorem dX6_chooseRange_13 : decode cX6_chooseRange 13 = .ok (.aload_n 0, 1) := by decide +kernel
theorem dX6_chooseRange_14 : decode cX6_chooseRange 14 = .ok (.getfield 38, 3) := by decide +kernel
theorem dX6_chooseRange_17 : decode cX6_chooseRange 17 = .ok (.isub, 1) := by decide +kernel
theorem dX6_chooseRange_18 : decode cX6_chooseRange 18 = .ok (.if_icmp .le 30, 3) := by decide +kernel
theorem dX6_chooseRange_21 : decode cX6_chooseRange 21 = .ok (.aload_n 0, 1) := by decide +kernel
theorem dX6_chooseRange_22 : decode cX6_chooseRange 22 = .ok (.aload_n 0, 1) := by decide +kernel
theorem dX6_chooseRange_23 : decode cX6_chooseRange 23 = .ok (.getfield 13, 3) := by decide +kernel
theorem dX6_chooseRange_26 : decode cX6_chooseRange 26 = .ok (.aload_n 0, 1) := by decide +kernel
theorem dX6_chooseRange_27 : decode cX6_chooseRange 27 = .ok (.getfield 38, 3) := by decide +kernel
theorem dX6_chooseRange_30 : decode cX6_chooseRange 30 = .ok (.iconst 1, 1) := by decide +kernel
theorem dX6_chooseRange_31 : decode cX6_chooseRange 31 = .ok (.isub, 1) := by decide +kernel
theorem dX6_chooseRange_32 : decode cX6_chooseRange 32 = .ok (.invokevirtual 48, 3) := by decide +kernel
theorem dX6_chooseRange_35 : decode cX6_chooseRange 35 = .ok (.aload_n 0, 1) := by decide +kernel
theorem dX6_chooseRange_36 : decode cX6_chooseRange 36 = .ok (.aload_n 0, 1) := by decide +kernel
theorem dX6_chooseRange_37 : decode cX6_chooseRange 37 = .ok (.getfield 38, 3) := by decide +kernel
theorem dX6_chooseRange_40 : decode cX6_chooseRange 40 = .ok (.iconst 1, 1) := by decide +kernel
theorem dX6_chooseRange_41 : decode cX6_chooseRange 41 = .ok (.iadd, 1) := by decide +kernel
theorem dX6_chooseRange_42 : decode cX6_chooseRange 42 = .ok (.putfield 13, 3) := by decide +kernel
theorem dX6_chooseRange_45 : decode cX6_chooseRange 45 = .ok (.goto 27, 3) := by decide +kernel
theorem dX6_chooseRange_48 : decode cX6_chooseRange 48 = .ok (.aload_n 0, 1) := by decide +kernel
theorem dX6_chooseRange_49 : decode cX6_chooseRange 49 = .ok (.aload_n 0, 1) := by decide +kernel
theorem dX6_chooseRange_50 : decode cX6_chooseRange 50 = .ok (.getfield 38, 3) := by decide +kernel
theorem dX6_chooseRange_53 : decode cX6_chooseRange 53 = .ok (.iconst 1, 1) := by decide +kernel
theorem dX6_chooseRange_54 : decode cX6_chooseRange 54 = .ok (.iadd, 1) := by decide +kernel
theorem dX6_chooseRange_55 : decode cX6_chooseRange 55 = .ok (.aload_n 0, 1) := by decide +kernel
theorem dX6_chooseRange_56 : decode cX6_chooseRange 56 = .ok (.getfield 20, 3) := by decide +kernel
theorem dX6_chooseRange_59 : decode cX6_chooseRange 59 = .ok (.invokevirtual 48, 3) := by decide +kernel
theorem dX6_chooseRange_62 : decode cX6_chooseRange 62 = .ok (.aload_n 0, 1) := by decide +kernel
theorem dX6_chooseRange_63 : decode cX6_chooseRange 63 = .ok (.aload_n 0, 1) := by decide +kernel
theorem dX6_chooseRange_64 : decode cX6_chooseRange 64 = .ok (.getfield 38, 3) := by decide +kernel
theorem dX6_chooseRange_67 : decode cX6_chooseRange 67 = .ok (.iconst 1, 1) := by decide +kernel
theorem dX6_chooseRange_68 : decode cX6_chooseRange 68 = .ok (.isub, 1) := by decide +kernel
theorem dX6_chooseRange_69 : decode cX6_chooseRange 69 = .ok (.putfield 20, 3) := by decide +kernel
theorem dX6_chooseRange_72 : decode cX6_chooseRange 72 = .ok (.aload_n 0, 1) := by decide +kernel
theorem dX6_chooseRange_73 : decode cX6_chooseRange 73 = .ok (.getfield 13, 3) := by decide +kernel
theorem dX6_chooseRange_76 : decode cX6_chooseRange 76 = .ok (.aload_n 0, 1) := by decide +kernel
theorem dX6_chooseRange_77 : decode cX6_chooseRange 77 = .ok (.getfield 20, 3) := by decide +kernel
theorem dX6_chooseRange_80 : decode cX6_chooseRange 80 = .ok (.if_icmp .lt 7, 3) := by decide +kernel
theorem dX6_chooseRange_83 : decode cX6_chooseRange 83 = .ok (.aload_n 0, 1) := by decide +kernel
theorem dX6_chooseRange_84 : decode cX6_chooseRange 84 = .ok (.invokevirtual 51, 3) := by decide +kernel
theorem dX6_chooseRange_87 : decode cX6_chooseRange 87 = .ok (.return_, 1) := by decide +kernel
theorem dX6_stack_0 : decode cX6_stack 0 = .ok (.iload_n 1, 1) := by decide +kernel
theorem dX6_stack_1 : decode cX6_stack 1 = .ok (.iload_n 2, 1) := by decide +kernel
theorem dX6_stack_2 : decode cX6_stack 2 = .ok (.if_icmp .ge 71, 3) := by decide +kernel
theorem dX6_stack_5 : decode cX6_stack 5 = .ok (.aload_n 0, 1) := by decide +kernel
theorem dX6_stack_6 : decode cX6_stack 6 = .ok (.getfield 54, 3) := by decide +kernel
theorem dX6_stack_9 : decode cX6_stack 9 = .ok (.iconst 2, 1) := by decide +kernel
theorem dX6_stack_10 : decode cX6_stack 10 = .ok (.iadd, 1) := by decide +kernel
theorem dX6_stack_11 : decode cX6_stack 11 = .ok (.aload_n 0, 1) := by decide +kernel
theorem dX6_stack_12 : decode cX6_stack 12 = .ok (.getfield 7, 3) := by decide +kernel
theorem dX6_stack_15 : decode cX6_stack 15 = .ok (.getfield 57, 3) := by decide +kernel
theorem dX6_stack_18 : decode cX6_stack 18 = .ok (.if_icmp .gt 55, 3) := by decide +kernel
theorem dX6_stack_21 : decode cX6_stack 21 = .ok (.aload_n 0, 1) := by decide +kernel
theorem dX6_stack_22 : decode cX6_stack 22 = .ok (.getfield 62, 3) := by decide +kernel
theorem dX6_stack_25 : decode cX6_stack 25 = .ok (.aload_n 0, 1) := by decide +kernel
theorem dX6_stack_26 : decode cX6_stack 26 = .ok (.getfield 7, 3) := by decide +kernel
theorem dX6_stack_29 : decode cX6_stack 29 = .ok (.getfield 66, 3) := by decide +kernel
theorem dX6_stack_32 : decode cX6_stack 32 = .ok (.aload_n 0, 1) := by decide +kernel
theorem dX6_stack_33 : decode cX6_stack 33 = .ok (.getfield 54, 3) := by decide +kernel
theorem dX6_stack_36 : decode cX6_stack 36 = .ok (.iadd, 1) := by decide +kernel
theorem dX6_stack_37 : decode cX6_stack 37 = .ok (.iload_n 1, 1) := by decide +kernel
theorem dX6_stack_38 : decode cX6_stack 38 = .ok (.invokevirtual 69, 3) := by decide +kernel
theorem dX6_stack_41 : decode cX6_stack 41 = .ok (.aload_n 0, 1) := by decide +kernel
theorem dX6_stack_42 : decode cX6_stack 42 = .ok (.getfield 62, 3) := by decide +kernel
theorem dX6_stack_45 : decode cX6_stack 45 = .ok (.aload_n 0, 1) := by decide +kernel
theorem dX6_stack_46 : decode cX6_stack 46 = .ok (.getfield 7, 3) := by decide +kernel
theorem dX6_stack_49 : decode cX6_stack 49 = .ok (.getfield 66, 3) := by decide +kernel
theorem dX6_stack_52 : decode cX6_stack 52 = .ok (.aload_n 0, 1) := by decide +kernel
theorem dX6_stack_53 : decode cX6_stack 53 = .ok (.getfield 54, 3) := by decide +kernel
theorem dX6_stack_56 : decode cX6_stack 56 = .ok (.iadd, 1) := by decide +kernel
theorem dX6_stack_57 : decode cX6_stack 57 = .ok (.iconst 1, 1) := by decide +kernel
theorem dX6_stack_58 : decode cX6_stack 58 = .ok (.iadd, 1) := by decide +kernel
theorem dX6_stack_59 : decode cX6_stack 59 = .ok (.iload_n 2, 1) := by decide +kernel
theorem dX6_stack_60 : decode cX6_stack 60 = .ok (.invokevirtual 69, 3) := by decide +kernel
theorem dX6_stack_63 : decode cX6_stack 63 = .ok (.aload_n 0, 1) := by decide +kernel
theorem dX6_stack_64 : decode cX6_stack 64 = .ok (.dup, 1) := by decide +kernel
theorem dX6_stack_65 : decode cX6_stack 65 = .ok (.getfield 54, 3) := by decide +kernel
theorem dX6_stack_68 : decode cX6_stack 68 = .ok (.iconst 2, 1) := by decide +kernel
theorem dX6_stack_69 : decode cX6_stack 69 = .ok (.iadd, 1) := by decide +kernel
theorem dX6_stack_70 : decode cX6_stack 70 = .ok (.putfield 54, 3) := by decide +kernel
theorem dX6_stack_73 : decode cX6_stack 73 = .ok (.return_, 1) := by decide +kernel
theorem dX6_takeLatestStacked_0 : decode cX6_takeLatestStacked 0 = .ok (.aload_n 0, 1) := by decide +kernel
theorem dX6_takeLatestStacked_1 : decode cX6_takeLatestStacked 1 = .ok (.getfield 54, 3) := by decide +kernel
theorem dX6_takeLatestStacked_4 : decode cX6_takeLatestStacked 4 = .ok (.iconst 2, 1) := by decide +kernel
theorem dX6_takeLatestStacked_5 : decode cX6_takeLatestStacked 5 = .ok (.if_icmp .ge 9, 3) := by decide +kernel
theorem dX6_takeLatestStacked_8 : decode cX6_takeLatestStacked 8 = .ok (.aload_n 0, 1) := by decide +kernel
theorem dX6_takeLatestStacked_9 : decode cX6_takeLatestStacked 9 = .ok (.iconst 1, 1) := by decide +kernel
theorem dX6_takeLatestStacked_10 : decode cX6_takeLatestStacked 10 = .ok (.putfield 23, 3) := by decide +kernel
theorem dX6_takeLatestStacked_13 : decode cX6_takeLatestStacked 13 = .ok (.return_, 1) := by decide +kernel
theorem dX6_takeLatestStacked_14 : decode cX6_takeLatestStacked 14 = .ok (.aload_n 0, 1) := by decide +kernel
theorem dX6_takeLatestStacked_15 : decode cX6_takeLatestStacked 15 = .ok (.dup, 1) := by decide +kernel
theorem dX6_takeLatestStacked_16 : decode cX6_takeLatestStacked 16 = .ok (.getfield 54, 3) := by decide +kernel
theorem dX6_takeLatestStacked_19 : decode cX6_takeLatestStacked 19 = .ok (.iconst 2, 1) := by decide +kernel
theorem dX6_takeLatestStacked_20 : decode cX6_takeLatestStacked 20 = .ok (.isub, 1) := by decide +kernel
theorem dX6_takeLatestStacked_21 : decode cX6_takeLatestStacked 21 = .ok (.putfield 54, 3) := by decide +kernel
theorem dX6_takeLatestStacked_24 : decode cX6_takeLatestStacked 24 = .ok (.aload_n 0, 1) := by decide +kernel
theorem dX6_takeLatestStacked_25 : decode cX6_takeLatestStacked 25 = .ok (.aload_n 0, 1) := by decide +kernel
theorem dX6_takeLatestStacked_26 : decode cX6_takeLatestStacked 26 = .ok (.getfield 62, 3) := by decide +kernel
theorem dX6_takeLatestStacked_29 : decode cX6_takeLatestStacked 29 = .ok (.aload_n 0, 1) := by decide +kernel
theorem dX6_takeLatestStacked_30 : decode cX6_takeLatestStacked 30 = .ok (.getfield 7, 3) := by decide +kernel
theorem dX6_takeLatestStacked_33 : decode cX6_takeLatestStacked 33 = .ok (.getfield 66, 3) := by decide +kernel
theorem dX6_takeLatestStacked_36 : decode cX6_takeLatestStacked 36 = .ok (.aload_n 0, 1) := by decide +kernel
theorem dX6_takeLatestStacked_37 : decode cX6_takeLatestStacked 37 = .ok (.getfield 54, 3) := by decide +kernel
theorem dX6_takeLatestStacked_40 : decode cX6_takeLatestStacked 40 = .ok (.iadd, 1) := by decide +kernel
theorem dX6_takeLatestStacked_41 : decode cX6_takeLatestStacked 41 = .ok (.invokevirtual 74, 3) := by decide +kernel
theorem dX6_takeLatestStacked_44 : decode cX6_takeLatestStacked 44 = .ok (.putfield 13, 3) := by decide +kernel
theorem dX6_takeLatestStacked_47 : decode cX6_takeLatestStacked 47 = .ok (.aload_n 0, 1) := by decide +kernel
theorem dX6_takeLatestStacked_48 : decode cX6_takeLatestStacked 48 = .ok (.aload_n 0, 1) := by decide +kernel
theorem dX6_takeLatestStacked_49 : decode cX6_takeLatestStacked 49 = .ok (.getfield 62, 3) := by decide +kernel
theorem dX6_takeLatestStacked_52 : decode cX6_takeLatestStacked 52 = .ok (.aload_n 0, 1) := by decide +kernel
theorem dX6_takeLatestStacked_53 : decode cX6_takeLatestStacked 53 = .ok (.getfield 7, 3) := by decide +kernel
theorem dX6_takeLatestStacked_56 : decode cX6_takeLatestStacked 56 = .ok (.getfield 66, 3) := by decide +kernel
theorem dX6_takeLatestStacked_59 : decode cX6_takeLatestStacked 59 = .ok (.aload_n 0, 1) := by decide +kernel
theorem dX6_takeLatestStacked_60 : decode cX6_takeLatestStacked 60 = .ok (.getfield 54, 3) := by decide +kernel
theorem dX6_takeLatestStacked_63 : decode cX6_takeLatestStacked 63 = .ok (.iadd, 1) := by decide +kernel
theorem dX6_takeLatestStacked_64 : decode cX6_takeLatestStacked 64 = .ok (.iconst 1, 1) := by decide +kernel
theorem dX6_takeLatestStacked_65 : decode cX6_takeLatestStacked 65 = .ok (.iadd, 1) := by decide +kernel
theorem dX6_takeLatestStacked_66 : decode cX6_takeLatestStacked 66 = .ok (.invokevirtual 74, 3) := by decide +kernel
theorem dX6_takeLatestStacked_69 : decode cX6_takeLatestStacked 69 = .ok (.putfield 20, 3) := by decide +kernel
theorem dX6_takeLatestStacked_72 : decode cX6_takeLatestStacked 72 = .ok (.return_, 1) := by decide +kernel
theorem dX7_init_0 : decode cX7_init 0 = .ok (.aload_n 0, 1) := by decide +kernel
theorem dX7_init_1 : decode cX7_init 1 = .ok (.invokespecial 3, 3) := by decide +kernel
theorem dX7_init_4 : decode cX7_init 4 = .ok (.return_, 1) := by decide +kernel
theorem dX7_enter_0 : decode cX7_enter 0 = .ok (.aconst_null, 1) := by decide +kernel
theorem dX7_enter_1 : decode cX7_enter 1 = .ok (.astore_n 2, 1) := by decide +kernel
theorem dX7_enter_2 : decode cX7_enter 2 = .ok (.aload_n 0, 1) := by decide +kernel
theorem dX7_enter_3 : decode cX7_enter 3 = .ok (.getfield 9, 3) := by decide +kernel
theorem dX7_enter_6 : decode cX7_enter 6 = .ok (.astore_n 3, 1) := by decide +kernel
theorem dX7_enter_7 : decode cX7_enter 7 = .ok (.aload_n 3, 1) := by decide +kernel
theorem dX7_enter_8 : decode cX7_enter 8 = .ok (.ifnull 24, 3) := by decide +kernel
theorem dX7_enter_11 : decode cX7_enter 11 = .ok (.aload_n 3, 1) := by decide +kernel
theorem dX7_enter_12 : decode cX7_enter 12 = .ok (.getfield 15, 3) := by decide +kernel
theorem dX7_enter_15 : decode cX7_enter 15 = .ok (.aload_n 1, 1) := by decide +kernel
theorem dX7_enter_16 : decode cX7_enter 16 = .ok (.getfield 15, 3) := by decide +kernel
theorem dX7_enter_19 : decode cX7_enter 19 = .ok (.if_icmp .lt 13, 3) := by decide +kernel
theorem dX7_enter_22 : decode cX7_enter 22 = .ok (.aload_n 3, 1) := by decide +kernel
theorem dX7_enter_23 : decode cX7_enter 23 = .ok (.astore_n 2, 1) := by decide +kernel
theorem dX7_enter_24 : decode cX7_enter 24 = .ok (.aload_n 3, 1) := by decide +kernel
theorem dX7_enter_25 : decode cX7_enter 25 = .ok (.getfield 21, 3) := by decide +kernel
theorem dX7_enter_28 : decode cX7_enter 28 = .ok (.astore_n 3, 1) := by decide +kernel
theorem dX7_enter_29 : decode cX7_enter 29 = .ok (.goto (-22), 3) := by decide +kernel
theorem dX7_enter_32 : decode cX7_enter 32 = .ok (.aload_n 2, 1) := by decide +kernel
theorem dX7_enter_33 : decode cX7_enter 33 = .ok (.ifnonnull 19, 3) := by decide +kernel
theorem dX7_enter_36 : decode cX7_enter 36 = .ok (.aload_n 1, 1) := by decide +kernel
theorem dX7_enter_37 : decode cX7_enter 37 = .ok (.aload_n 0, 1) := by decide +kernel
theorem dX7_enter_38 : decode cX7_enter 38 = .ok (.getfield 9, 3) := by decide +kernel
theorem dX7_enter_41 : decode cX7_enter 41 = .ok (.putfield 21, 3) := by decide +kernel
theorem dX7_enter_44 : decode cX7_enter 44 = .ok (.aload_n 0, 1) := by decide +kernel
theorem dX7_enter_45 : decode cX7_enter 45 = .ok (.aload_n 1, 1) := by decide +kernel
theorem dX7_enter_46 : decode cX7_enter 46 = .ok (.putfield 9, 3) := by decide +kernel
theorem dX7_enter_49 : decode cX7_enter 49 = .ok (.goto 16, 3) := by decide +kernel
theorem dX7_enter_52 : decode cX7_enter 52 = .ok (.aload_n 1, 1) := by decide +kernel
theorem dX7_enter_53 : decode cX7_enter 53 = .ok (.aload_n 2, 1) := by decide +kernel
theorem dX7_enter_54 : decode cX7_enter 54 = .ok (.getfield 21, 3) := by decide +kernel
theorem dX7_enter_57 : decode cX7_enter 57 = .ok (.putfield 21, 3) := by decide +kernel
theorem dX7_enter_60 : decode cX7_enter 60 = .ok (.aload_n 2, 1) := by decide +kernel
theorem dX7_enter_61 : decode cX7_enter 61 = .ok (.aload_n 1, 1) := by decide +kernel
theorem dX7_enter_62 : decode cX7_enter 62 = .ok (.putfield 21, 3) := by decide +kernel
theorem dX7_enter_65 : decode cX7_enter 65 = .ok (.return_, 1) := by decide +kernel
theorem dX7_leave_0 : decode cX7_leave 0 = .ok (.aconst_null, 1) := by decide +kernel
theorem dX7_leave_1 : decode cX7_leave 1 = .ok (.astore_n 2, 1) := by decide +kernel
theorem dX7_leave_2 : decode cX7_leave 2 = .ok (.aload_n 0, 1) := by decide +kernel
theorem dX7_leave_3 : decode cX7_leave 3 = .ok (.getfield 9, 3) := by decide +kernel
theorem dX7_leave_6 : decode cX7_leave 6 = .ok (.astore_n 3, 1) := by decide +kernel
theorem dX7_leave_7 : decode cX7_leave 7 = .ok (.aload_n 3, 1) := by decide +kernel
theorem dX7_leave_8 : decode cX7_leave 8 = .ok (.ifnull 25, 3) := by decide +kernel
theorem dX7_leave_11 : decode cX7_leave 11 = .ok (.aload_n 3, 1) := by decide +kernel
theorem dX7_leave_12 : decode cX7_leave 12 = .ok (.aload_n 1, 1) := by decide +kernel
theorem dX7_leave_13 : decode cX7_leave 13 = .ok (.if_acmp .ne 10, 3) := by decide +kernel
theorem dX7_leave_16 : decode cX7_leave 16 = .ok (.aload_n 0, 1) := by decide +kernel
theorem dX7_leave_17 : decode cX7_leave 17 = .ok (.aload_n 2, 1) := by decide +kernel
theorem dX7_leave_18 : decode cX7_leave 18 = .ok (.aload_n 1, 1) := by decide +kernel
theorem dX7_leave_19 : decode cX7_leave 19 = .ok (.invokevirtual 24, 3) := by decide +kernel
theorem dX7_leave_22 : decode cX7_leave 22 = .ok (.return_, 1) := by decide +kernel
theorem dX7_leave_23 : decode cX7_leave 23 = .ok (.aload_n 3, 1) := by decide +kernel
theorem dX7_leave_24 : decode cX7_leave 24 = .ok (.astore_n 2, 1) := by decide +kernel
theorem dX7_leave_25 : decode cX7_leave 25 = .ok (.aload_n 3, 1) := by decide +kernel
theorem dX7_leave_26 : decode cX7_leave 26 = .ok (.getfield 21, 3) := by decide +kernel
theorem dX7_leave_29 : decode cX7_leave 29 = .ok (.astore_n 3, 1) := by decide +kernel
theorem dX7_leave_30 : decode cX7_leave 30 = .ok (.goto (-23), 3) := by decide +kernel
theorem dX7_leave_33 : decode cX7_leave 33 = .ok (.return_, 1) := by decide +kernel
theorem dX7_unlink_0 : decode cX7_unlink 0 = .ok (.aload_n 1, 1) := by decide +kernel
theorem dX7_unlink_1 : decode cX7_unlink 1 = .ok (.ifnonnull 14, 3) := by decide +kernel
theorem dX7_unlink_4 : decode cX7_unlink 4 = .ok (.aload_n 0, 1) := by decide +kernel
theorem dX7_unlink_5 : decode cX7_unlink 5 = .ok (.aload_n 2, 1) := by decide +kernel
theorem dX7_unlink_6 : decode cX7_unlink 6 = .ok (.getfield 21, 3) := by decide +kernel
theorem dX7_unlink_9 : decode cX7_unlink 9 = .ok (.putfield 9, 3) := by decide +kernel
theorem dX7_unlink_12 : decode cX7_unlink 12 = .ok (.goto 11, 3) := by decide +kernel
theorem dX7_unlink_15 : decode cX7_unlink 15 = .ok (.aload_n 1, 1) := by decide +kernel
theorem dX7_unlink_16 : decode cX7_unlink 16 = .ok (.aload_n 2, 1) := by decide +kernel
theorem dX7_unlink_17 : decode cX7_unlink 17 = .ok (.getfield 21, 3) := by decide +kernel
theorem dX7_unlink_20 : decode cX7_unlink 20 = .ok (.putfield 21, 3) := by decide +kernel
theorem dX7_unlink_23 : decode cX7_unlink 23 = .ok (.aload_n 2, 1) := by decide +kernel
theorem dX7_unlink_24 : decode cX7_unlink 24 = .ok (.aconst_null, 1) := by decide +kernel
theorem dX7_unlink_25 : decode cX7_unlink 25 = .ok (.putfield 21, 3) := by decide +kernel
theorem dX7_unlink_28 : decode cX7_unlink 28 = .ok (.return_, 1) := by decide +kernel
theorem dX7_countAheadOf_0 : decode cX7_countAheadOf 0 = .ok (.iconst 0, 1) := by decide +kernel
theorem dX7_countAheadOf_1 : decode cX7_countAheadOf 1 = .ok (.istore_n 2, 1) := by decide +kernel
theorem dX7_countAheadOf_2 : decode cX7_countAheadOf 2 = .ok (.aload_n 0, 1) := by decide +kernel
theorem dX7_countAheadOf_3 : decode cX7_countAheadOf 3 = .ok (.getfield 9, 3) := by decide +kernel
theorem dX7_countAheadOf_6 : decode cX7_countAheadOf 6 = .ok (.astore_n 3, 1) := by decide +kernel
theorem dX7_countAheadOf_7 : decode cX7_countAheadOf 7 = .ok (.aload_n 3, 1) := by decide +kernel
theorem dX7_countAheadOf_8 : decode cX7_countAheadOf 8 = .ok (.ifnull 32, 3) := by decide +kernel
theorem dX7_countAheadOf_11 : decode cX7_countAheadOf 11 = .ok (.aload_n 3, 1) := by decide +kernel
theorem dX7_countAheadOf_12 : decode cX7_countAheadOf 12 = .ok (.aload_n 1, 1) := by decide +kernel
theorem dX7_countAheadOf_13 : decode cX7_countAheadOf 13 = .ok (.if_acmp .ne 5, 3) := by decide +kernel
theorem dX7_countAheadOf_16 : decode cX7_countAheadOf 16 = .ok (.iload_n 2, 1) := by decide +kernel
theorem dX7_countAheadOf_17 : decode cX7_countAheadOf 17 = .ok (.ireturn, 1) := by decide +kernel
theorem dX7_countAheadOf_18 : decode cX7_countAheadOf 18 = .ok (.aload_n 3, 1) := by decide +kernel
theorem dX7_countAheadOf_19 : decode cX7_countAheadOf 19 = .ok (.getfield 15, 3) := by decide +kernel
theorem dX7_countAheadOf_22 : decode cX7_countAheadOf 22 = .ok (.aload_n 1, 1) := by decide +kernel
theorem dX7_countAheadOf_23 : decode cX7_countAheadOf 23 = .ok (.getfield 15, 3) := by decide +kernel
end
section
theorem dX7_countAheadOf_26 : decode cX7_countAheadOf 26 = .ok (.if_icmp .ne 6, 3) := by decide +kernel
theorem dX7_countAheadOf_29 : decode cX7_countAheadOf 29 = .ok (.iinc 2 1, 3) := by decide +kernel
theorem dX7_countAheadOf_32 : decode cX7_countAheadOf 32 = .ok (.aload_n 3, 1) := by decide +kernel
theorem dX7_countAheadOf_33 : decode cX7_countAheadOf 33 = .ok (.getfield 21, 3) := by decide +kernel
theorem dX7_countAheadOf_36 : decode cX7_countAheadOf 36 = .ok (.astore_n 3, 1) := by decide +kernel
theorem dX7_countAheadOf_37 : decode cX7_countAheadOf 37 = .ok (.goto (-30), 3) := by decide +kernel
theorem dX7_countAheadOf_40 : decode cX7_countAheadOf 40 = .ok (.iconst (-1), 1) := by decide +kernel
theorem dX7_countAheadOf_41 : decode cX7_countAheadOf 41 = .ok (.ireturn, 1) := by decide +kernel
theorem dX7_length_0 : decode cX7_length 0 = .ok (.iconst 0, 1) := by decide +kernel
theorem dX7_length_1 : decode cX7_length 1 = .ok (.istore_n 1, 1) := by decide +kernel
theorem dX7_length_2 : decode cX7_length 2 = .ok (.aload_n 0, 1) := by decide +kernel
theorem dX7_length_3 : decode cX7_length 3 = .ok (.getfield 9, 3) := by decide +kernel
theorem dX7_length_6 : decode cX7_length 6 = .ok (.astore_n 2, 1) := by decide +kernel
theorem dX7_length_7 : decode cX7_length 7 = .ok (.aload_n 2, 1) := by decide +kernel
theorem dX7_length_8 : decode cX7_length 8 = .ok (.ifnull 14, 3) := by decide +kernel
theorem dX7_length_11 : decode cX7_length 11 = .ok (.iinc 1 1, 3) := by decide +kernel
theorem dX7_length_14 : decode cX7_length 14 = .ok (.aload_n 2, 1) := by decide +kernel
theorem dX7_length_15 : decode cX7_length 15 = .ok (.getfield 21, 3) := by decide +kernel
theorem dX7_length_18 : decode cX7_length 18 = .ok (.astore_n 2, 1) := by decide +kernel
theorem dX7_length_19 : decode cX7_length 19 = .ok (.goto (-12), 3) := by decide +kernel
theorem dX7_length_22 : decode cX7_length 22 = .ok (.iload_n 1, 1) := by decide +kernel
theorem dX7_length_23 : decode cX7_length 23 = .ok (.ireturn, 1) := by decide +kernel
theorem dX8_init_0 : decode cX8_init 0 = .ok (.aload_n 0, 1) := by decide +kernel
theorem dX8_init_1 : decode cX8_init 1 = .ok (.invokespecial 1, 3) := by decide +kernel
theorem dX8_init_4 : decode cX8_init 4 = .ok (.aload_n 0, 1) := by decide +kernel
theorem dX8_init_5 : decode cX8_init 5 = .ok (.aload_n 1, 1) := by decide +kernel
theorem dX8_init_6 : decode cX8_init 6 = .ok (.putfield 7, 3) := by decide +kernel
theorem dX8_init_9 : decode cX8_init 9 = .ok (.aload_n 0, 1) := by decide +kernel
theorem dX8_init_10 : decode cX8_init 10 = .ok (.aload_n 2, 1) := by decide +kernel
theorem dX8_init_11 : decode cX8_init 11 = .ok (.putfield 13, 3) := by decide +kernel
theorem dX8_init_14 : decode cX8_init 14 = .ok (.aload_n 0, 1) := by decide +kernel
theorem dX8_init_15 : decode cX8_init 15 = .ok (.aload_n 2, 1) := by decide +kernel
theorem dX8_init_16 : decode cX8_init 16 = .ok (.getfield 17, 3) := by decide +kernel
theorem dX8_init_19 : decode cX8_init 19 = .ok (.putfield 23, 3) := by decide +kernel
theorem dX8_init_22 : decode cX8_init 22 = .ok (.aload_n 0, 1) := by decide +kernel
theorem dX8_init_23 : decode cX8_init 23 = .ok (.aload_n 0, 1) := by decide +kernel
theorem dX8_init_24 : decode cX8_init 24 = .ok (.getfield 23, 3) := by decide +kernel
theorem dX8_init_27 : decode cX8_init 27 = .ok (.iconst 2, 1) := by decide +kernel
theorem dX8_init_28 : decode cX8_init 28 = .ok (.if_icmp .ge 7, 3) := by decide +kernel
theorem dX8_init_31 : decode cX8_init 31 = .ok (.iconst 1, 1) := by decide +kernel
theorem dX8_init_32 : decode cX8_init 32 = .ok (.goto 4, 3) := by decide +kernel
theorem dX8_init_35 : decode cX8_init 35 = .ok (.iconst 0, 1) := by decide +kernel
theorem dX8_init_36 : decode cX8_init 36 = .ok (.putfield 26, 3) := by decide +kernel
theorem dX8_init_39 : decode cX8_init 39 = .ok (.return_, 1) := by decide +kernel
theorem dX8_cell_0 : decode cX8_cell 0 = .ok (.aload_n 0, 1) := by decide +kernel
theorem dX8_cell_1 : decode cX8_cell 1 = .ok (.getfield 7, 3) := by decide +kernel
theorem dX8_cell_4 : decode cX8_cell 4 = .ok (.aload_n 0, 1) := by decide +kernel
theorem dX8_cell_5 : decode cX8_cell 5 = .ok (.getfield 13, 3) := by decide +kernel
theorem dX8_cell_8 : decode cX8_cell 8 = .ok (.getfield 30, 3) := by decide +kernel
theorem dX8_cell_11 : decode cX8_cell 11 = .ok (.iload_n 1, 1) := by decide +kernel
theorem dX8_cell_12 : decode cX8_cell 12 = .ok (.iadd, 1) := by decide +kernel
theorem dX8_cell_13 : decode cX8_cell 13 = .ok (.invokevirtual 33, 3) := by decide +kernel
theorem dX8_cell_16 : decode cX8_cell 16 = .ok (.ireturn, 1) := by decide +kernel
theorem dX8_swap_0 : decode cX8_swap 0 = .ok (.aload_n 0, 1) := by decide +kernel
theorem dX8_swap_1 : decode cX8_swap 1 = .ok (.getfield 7, 3) := by decide +kernel
theorem dX8_swap_4 : decode cX8_swap 4 = .ok (.aload_n 0, 1) := by decide +kernel
theorem dX8_swap_5 : decode cX8_swap 5 = .ok (.getfield 13, 3) := by decide +kernel
theorem dX8_swap_8 : decode cX8_swap 8 = .ok (.getfield 30, 3) := by decide +kernel
theorem dX8_swap_11 : decode cX8_swap 11 = .ok (.iload_n 1, 1) := by decide +kernel
theorem dX8_swap_12 : decode cX8_swap 12 = .ok (.iadd, 1) := by decide +kernel
theorem dX8_swap_13 : decode cX8_swap 13 = .ok (.aload_n 0, 1) := by decide +kernel
theorem dX8_swap_14 : decode cX8_swap 14 = .ok (.getfield 13, 3) := by decide +kernel
theorem dX8_swap_17 : decode cX8_swap 17 = .ok (.getfield 30, 3) := by decide +kernel
theorem dX8_swap_20 : decode cX8_swap 20 = .ok (.iload_n 2, 1) := by decide +kernel
theorem dX8_swap_21 : decode cX8_swap 21 = .ok (.iadd, 1) := by decide +kernel
theorem dX8_swap_22 : decode cX8_swap 22 = .ok (.invokevirtual 39, 3) := by decide +kernel
theorem dX8_swap_25 : decode cX8_swap 25 = .ok (.return_, 1) := by decide +kernel
theorem dX9_init_0 : decode cX9_init 0 = .ok (.aload_n 0, 1) := by decide +kernel
theorem dX9_init_1 : decode cX9_init 1 = .ok (.invokespecial 1, 3) := by decide +kernel
theorem dX9_init_4 : decode cX9_init 4 = .ok (.aload_n 0, 1) := by decide +kernel
theorem dX9_init_5 : decode cX9_init 5 = .ok (.new 7, 3) := by decide +kernel
theorem dX9_init_8 : decode cX9_init 8 = .ok (.dup, 1) := by decide +kernel
theorem dX9_init_9 : decode cX9_init 9 = .ok (.iload_n 1, 1) := by decide +kernel
theorem dX9_init_10 : decode cX9_init 10 = .ok (.bipush 8, 2) := by decide +kernel
theorem dX9_init_12 : decode cX9_init 12 = .ok (.sipush 3000, 3) := by decide +kernel
theorem dX9_init_15 : decode cX9_init 15 = .ok (.invokestatic 11, 3) := by decide +kernel
theorem dX9_init_18 : decode cX9_init 18 = .ok (.invokespecial 15, 3) := by decide +kernel
theorem dX9_init_21 : decode cX9_init 21 = .ok (.putfield 18, 3) := by decide +kernel
theorem dX9_init_24 : decode cX9_init 24 = .ok (.aload_n 0, 1) := by decide +kernel
theorem dX9_init_25 : decode cX9_init 25 = .ok (.iload_n 2, 1) := by decide +kernel
theorem dX9_init_26 : decode cX9_init 26 = .ok (.iconst 1, 1) := by decide +kernel
theorem dX9_init_27 : decode cX9_init 27 = .ok (.bipush 24, 2) := by decide +kernel
theorem dX9_init_29 : decode cX9_init 29 = .ok (.invokestatic 11, 3) := by decide +kernel
theorem dX9_init_32 : decode cX9_init 32 = .ok (.anewarray 22, 3) := by decide +kernel
theorem dX9_init_35 : decode cX9_init 35 = .ok (.putfield 24, 3) := by decide +kernel
theorem dX9_init_38 : decode cX9_init 38 = .ok (.aload_n 0, 1) := by decide +kernel
theorem dX9_init_39 : decode cX9_init 39 = .ok (.new 28, 3) := by decide +kernel
theorem dX9_init_42 : decode cX9_init 42 = .ok (.dup, 1) := by decide +kernel
theorem dX9_init_43 : decode cX9_init 43 = .ok (.invokespecial 30, 3) := by decide +kernel
theorem dX9_init_46 : decode cX9_init 46 = .ok (.putfield 31, 3) := by decide +kernel
theorem dX9_init_49 : decode cX9_init 49 = .ok (.aload_n 0, 1) := by decide +kernel
theorem dX9_init_50 : decode cX9_init 50 = .ok (.iload_n 3, 1) := by decide +kernel
theorem dX9_init_51 : decode cX9_init 51 = .ok (.iconst 1, 1) := by decide +kernel
theorem dX9_init_52 : decode cX9_init 52 = .ok (.sipush 200, 3) := by decide +kernel
theorem dX9_init_55 : decode cX9_init 55 = .ok (.invokestatic 11, 3) := by decide +kernel
theorem dX9_init_58 : decode cX9_init 58 = .ok (.putfield 35, 3) := by decide +kernel
theorem dX9_init_61 : decode cX9_init 61 = .ok (.return_, 1) := by decide +kernel
theorem dX9_open_0 : decode cX9_open 0 = .ok (.iload_n 1, 1) := by decide +kernel
theorem dX9_open_1 : decode cX9_open 1 = .ok (.invokestatic 39, 3) := by decide +kernel
theorem dX9_open_4 : decode cX9_open 4 = .ok (.ifCond .eq 19, 3) := by decide +kernel
theorem dX9_open_7 : decode cX9_open 7 = .ok (.iload_n 2, 1) := by decide +kernel
theorem dX9_open_8 : decode cX9_open 8 = .ok (.iconst 0, 1) := by decide +kernel
theorem dX9_open_9 : decode cX9_open 9 = .ok (.iconst 4, 1) := by decide +kernel
theorem dX9_open_10 : decode cX9_open 10 = .ok (.invokestatic 43, 3) := by decide +kernel
theorem dX9_open_13 : decode cX9_open 13 = .ok (.ifCond .eq 10, 3) := by decide +kernel
theorem dX9_open_16 : decode cX9_open 16 = .ok (.iload_n 3, 1) := by decide +kernel
theorem dX9_open_17 : decode cX9_open 17 = .ok (.invokestatic 47, 3) := by decide +kernel
theorem dX9_open_20 : decode cX9_open 20 = .ok (.ifCond .ne 6, 3) := by decide +kernel
theorem dX9_open_23 : decode cX9_open 23 = .ok (.bipush (-4), 2) := by decide +kernel
theorem dX9_open_25 : decode cX9_open 25 = .ok (.ireturn, 1) := by decide +kernel
theorem dX9_open_26 : decode cX9_open 26 = .ok (.aload_n 0, 1) := by decide +kernel
theorem dX9_open_27 : decode cX9_open 27 = .ok (.invokevirtual 50, 3) := by decide +kernel
theorem dX9_open_30 : decode cX9_open 30 = .ok (.istore 4, 2) := by decide +kernel
theorem dX9_open_32 : decode cX9_open 32 = .ok (.iload 4, 2) := by decide +kernel
theorem dX9_open_34 : decode cX9_open 34 = .ok (.ifCond .lt 13, 3) := by decide +kernel
theorem dX9_open_37 : decode cX9_open 37 = .ok (.iload 4, 2) := by decide +kernel
theorem dX9_open_39 : decode cX9_open 39 = .ok (.aload_n 0, 1) := by decide +kernel
theorem dX9_open_40 : decode cX9_open 40 = .ok (.getfield 24, 3) := by decide +kernel
theorem dX9_open_43 : decode cX9_open 43 = .ok (.arraylength, 1) := by decide +kernel
theorem dX9_open_44 : decode cX9_open 44 = .ok (.if_icmp .lt 6, 3) := by decide +kernel
theorem dX9_open_47 : decode cX9_open 47 = .ok (.bipush (-5), 2) := by decide +kernel
theorem dX9_open_49 : decode cX9_open 49 = .ok (.ireturn, 1) := by decide +kernel
theorem dX9_open_50 : decode cX9_open 50 = .ok (.new 22, 3) := by decide +kernel
theorem dX9_open_53 : decode cX9_open 53 = .ok (.dup, 1) := by decide +kernel
theorem dX9_open_54 : decode cX9_open 54 = .ok (.iload 4, 2) := by decide +kernel
theorem dX9_open_56 : decode cX9_open 56 = .ok (.iload_n 2, 1) := by decide +kernel
theorem dX9_open_57 : decode cX9_open 57 = .ok (.iload_n 3, 1) := by decide +kernel
theorem dX9_open_58 : decode cX9_open 58 = .ok (.invokespecial 54, 3) := by decide +kernel
theorem dX9_open_61 : decode cX9_open 61 = .ok (.astore 5, 2) := by decide +kernel
theorem dX9_open_63 : decode cX9_open 63 = .ok (.aload_n 0, 1) := by decide +kernel
theorem dX9_open_64 : decode cX9_open 64 = .ok (.aload 5, 2) := by decide +kernel
theorem dX9_open_66 : decode cX9_open 66 = .ok (.iload_n 1, 1) := by decide +kernel
theorem dX9_open_67 : decode cX9_open 67 = .ok (.invokevirtual 57, 3) := by decide +kernel
theorem dX9_open_70 : decode cX9_open 70 = .ok (.ifCond .ne 6, 3) := by decide +kernel
theorem dX9_open_73 : decode cX9_open 73 = .ok (.bipush (-6), 2) := by decide +kernel
theorem dX9_open_75 : decode cX9_open 75 = .ok (.ireturn, 1) := by decide +kernel
theorem dX9_open_76 : decode cX9_open 76 = .ok (.aload_n 0, 1) := by decide +kernel
theorem dX9_open_77 : decode cX9_open 77 = .ok (.getfield 18, 3) := by decide +kernel
theorem dX9_open_80 : decode cX9_open 80 = .ok (.aload 5, 2) := by decide +kernel
theorem dX9_open_82 : decode cX9_open 82 = .ok (.getfield 61, 3) := by decide +kernel
theorem dX9_open_85 : decode cX9_open 85 = .ok (.getfield 65, 3) := by decide +kernel
theorem dX9_open_88 : decode cX9_open 88 = .ok (.iload_n 1, 1) := by decide +kernel
theorem dX9_open_89 : decode cX9_open 89 = .ok (.invokevirtual 70, 3) := by decide +kernel
theorem dX9_open_92 : decode cX9_open 92 = .ok (.aload_n 0, 1) := by decide +kernel
theorem dX9_open_93 : decode cX9_open 93 = .ok (.getfield 24, 3) := by decide +kernel
theorem dX9_open_96 : decode cX9_open 96 = .ok (.iload 4, 2) := by decide +kernel
theorem dX9_open_98 : decode cX9_open 98 = .ok (.aload 5, 2) := by decide +kernel
theorem dX9_open_100 : decode cX9_open 100 = .ok (.aastore, 1) := by decide +kernel
theorem dX9_open_101 : decode cX9_open 101 = .ok (.iload 4, 2) := by decide +kernel
theorem dX9_open_103 : decode cX9_open 103 = .ok (.ireturn, 1) := by decide +kernel
theorem dX9_put_0 : decode cX9_put 0 = .ok (.aload_n 0, 1) := by decide +kernel
theorem dX9_put_1 : decode cX9_put 1 = .ok (.iload_n 1, 1) := by decide +kernel
theorem dX9_put_2 : decode cX9_put 2 = .ok (.invokevirtual 74, 3) := by decide +kernel
theorem dX9_put_5 : decode cX9_put 5 = .ok (.astore 4, 2) := by decide +kernel
theorem dX9_put_7 : decode cX9_put 7 = .ok (.aload 4, 2) := by decide +kernel
theorem dX9_put_9 : decode cX9_put 9 = .ok (.ifnonnull 5, 3) := by decide +kernel
theorem dX9_put_12 : decode cX9_put 12 = .ok (.iconst (-1), 1) := by decide +kernel
theorem dX9_put_13 : decode cX9_put 13 = .ok (.ireturn, 1) := by decide +kernel
theorem dX9_put_14 : decode cX9_put 14 = .ok (.aload 4, 2) := by decide +kernel
theorem dX9_put_16 : decode cX9_put 16 = .ok (.getfield 78, 3) := by decide +kernel
theorem dX9_put_19 : decode cX9_put 19 = .ok (.iconst 1, 1) := by decide +kernel
theorem dX9_put_20 : decode cX9_put 20 = .ok (.if_icmp .eq 6, 3) := by decide +kernel
theorem dX9_put_23 : decode cX9_put 23 = .ok (.bipush (-3), 2) := by decide +kernel
theorem dX9_put_25 : decode cX9_put 25 = .ok (.ireturn, 1) := by decide +kernel
theorem dX9_put_26 : decode cX9_put 26 = .ok (.aload 4, 2) := by decide +kernel
theorem dX9_put_28 : decode cX9_put 28 = .ok (.iload_n 2, 1) := by decide +kernel
theorem dX9_put_29 : decode cX9_put 29 = .ok (.invokevirtual 81, 3) := by decide +kernel
theorem dX9_put_32 : decode cX9_put 32 = .ok (.ifCond .ne 6, 3) := by decide +kernel
theorem dX9_put_35 : decode cX9_put 35 = .ok (.bipush (-2), 2) := by decide +kernel
theorem dX9_put_37 : decode cX9_put 37 = .ok (.ireturn, 1) := by decide +kernel
theorem dX9_put_38 : decode cX9_put 38 = .ok (.aload_n 0, 1) := by decide +kernel
theorem dX9_put_39 : decode cX9_put 39 = .ok (.getfield 18, 3) := by decide +kernel
theorem dX9_put_42 : decode cX9_put 42 = .ok (.aload 4, 2) := by decide +kernel
theorem dX9_put_44 : decode cX9_put 44 = .ok (.getfield 61, 3) := by decide +kernel
theorem dX9_put_47 : decode cX9_put 47 = .ok (.getfield 65, 3) := by decide +kernel
theorem dX9_put_50 : decode cX9_put 50 = .ok (.iload_n 2, 1) := by decide +kernel
theorem dX9_put_51 : decode cX9_put 51 = .ok (.iadd, 1) := by decide +kernel
theorem dX9_put_52 : decode cX9_put 52 = .ok (.iload_n 3, 1) := by decide +kernel
theorem dX9_put_53 : decode cX9_put 53 = .ok (.invokevirtual 84, 3) := by decide +kernel
theorem dX9_put_56 : decode cX9_put 56 = .ok (.iconst 0, 1) := by decide +kernel
theorem dX9_put_57 : decode cX9_put 57 = .ok (.ireturn, 1) := by decide +kernel
theorem dX9_resize_0 : decode cX9_resize 0 = .ok (.aload_n 0, 1) := by decide +kernel
theorem dX9_resize_1 : decode cX9_resize 1 = .ok (.iload_n 1, 1) := by decide +kernel
theorem dX9_resize_2 : decode cX9_resize 2 = .ok (.invokevirtual 74, 3) := by decide +kernel
theorem dX9_resize_5 : decode cX9_resize 5 = .ok (.astore_n 3, 1) := by decide +kernel
theorem dX9_resize_6 : decode cX9_resize 6 = .ok (.aload_n 3, 1) := by decide +kernel
theorem dX9_resize_7 : decode cX9_resize 7 = .ok (.ifnonnull 5, 3) := by decide +kernel
theorem dX9_resize_10 : decode cX9_resize 10 = .ok (.iconst (-1), 1) := by decide +kernel
theorem dX9_resize_11 : decode cX9_resize 11 = .ok (.ireturn, 1) := by decide +kernel
theorem dX9_resize_12 : decode cX9_resize 12 = .ok (.aload_n 3, 1) := by decide +kernel
theorem dX9_resize_13 : decode cX9_resize 13 = .ok (.getfield 78, 3) := by decide +kernel
theorem dX9_resize_16 : decode cX9_resize 16 = .ok (.iconst 1, 1) := by decide +kernel
theorem dX9_resize_17 : decode cX9_resize 17 = .ok (.if_icmp .eq 6, 3) := by decide +kernel
theorem dX9_resize_20 : decode cX9_resize 20 = .ok (.bipush (-3), 2) := by decide +kernel
theorem dX9_resize_22 : decode cX9_resize 22 = .ok (.ireturn, 1) := by decide +kernel
theorem dX9_resize_23 : decode cX9_resize 23 = .ok (.iload_n 2, 1) := by decide +kernel
theorem dX9_resize_24 : decode cX9_resize 24 = .ok (.invokestatic 39, 3) := by decide +kernel
theorem dX9_resize_27 : decode cX9_resize 27 = .ok (.ifCond .ne 6, 3) := by decide +kernel
theorem dX9_resize_30 : decode cX9_resize 30 = .ok (.bipush (-4), 2) := by decide +kernel
theorem dX9_resize_32 : decode cX9_resize 32 = .ok (.ireturn, 1) := by decide +kernel
theorem dX9_resize_33 : decode cX9_resize 33 = .ok (.aload_n 0, 1) := by decide +kernel
theorem dX9_resize_34 : decode cX9_resize 34 = .ok (.aload_n 3, 1) := by decide +kernel
theorem dX9_resize_35 : decode cX9_resize 35 = .ok (.iload_n 2, 1) := by decide +kernel
theorem dX9_resize_36 : decode cX9_resize 36 = .ok (.invokevirtual 87, 3) := by decide +kernel
theorem dX9_resize_39 : decode cX9_resize 39 = .ok (.ifCond .eq 7, 3) := by decide +kernel
theorem dX9_resize_42 : decode cX9_resize 42 = .ok (.iconst 0, 1) := by decide +kernel
theorem dX9_resize_43 : decode cX9_resize 43 = .ok (.goto 5, 3) := by decide +kernel
theorem dX9_resize_46 : decode cX9_resize 46 = .ok (.bipush (-6), 2) := by decide +kernel
theorem dX9_resize_48 : decode cX9_resize 48 = .ok (.ireturn, 1) := by decide +kernel
theorem dX9_submit_0 : decode cX9_submit 0 = .ok (.aload_n 0, 1) := by decide +kernel
theorem dX9_submit_1 : decode cX9_submit 1 = .ok (.iload_n 1, 1) := by decide +kernel
theorem dX9_submit_2 : decode cX9_submit 2 = .ok (.invokevirtual 74, 3) := by decide +kernel
theorem dX9_submit_5 : decode cX9_submit 5 = .ok (.astore_n 2, 1) := by decide +kernel
theorem dX9_submit_6 : decode cX9_submit 6 = .ok (.aload_n 2, 1) := by decide +kernel
theorem dX9_submit_7 : decode cX9_submit 7 = .ok (.ifnonnull 5, 3) := by decide +kernel
theorem dX9_submit_10 : decode cX9_submit 10 = .ok (.iconst (-1), 1) := by decide +kernel
theorem dX9_submit_11 : decode cX9_submit 11 = .ok (.ireturn, 1) := by decide +kernel
theorem dX9_submit_12 : decode cX9_submit 12 = .ok (.aload_n 2, 1) := by decide +kernel
theorem dX9_submit_13 : decode cX9_submit 13 = .ok (.getfield 78, 3) := by decide +kernel
theorem dX9_submit_16 : decode cX9_submit 16 = .ok (.iconst 1, 1) := by decide +kernel
theorem dX9_submit_17 : decode cX9_submit 17 = .ok (.if_icmp .eq 6, 3) := by decide +kernel
theorem dX9_submit_20 : decode cX9_submit 20 = .ok (.bipush (-3), 2) := by decide +kernel
theorem dX9_submit_22 : decode cX9_submit 22 = .ok (.ireturn, 1) := by decide +kernel
theorem dX9_submit_23 : decode cX9_submit 23 = .ok (.aload_n 2, 1) := by decide +kernel
theorem dX9_submit_24 : decode cX9_submit 24 = .ok (.iconst 2, 1) := by decide +kernel
theorem dX9_submit_25 : decode cX9_submit 25 = .ok (.putfield 78, 3) := by decide +kernel
theorem dX9_submit_28 : decode cX9_submit 28 = .ok (.aload_n 2, 1) := by decide +kernel
theorem dX9_submit_29 : decode cX9_submit 29 = .ok (.aload_n 0, 1) := by decide +kernel
theorem dX9_submit_30 : decode cX9_submit 30 = .ok (.getfield 90, 3) := by decide +kernel
theorem dX9_submit_33 : decode cX9_submit 33 = .ok (.putfield 93, 3) := by decide +kernel
theorem dX9_submit_36 : decode cX9_submit 36 = .ok (.aload_n 0, 1) := by decide +kernel
theorem dX9_submit_37 : decode cX9_submit 37 = .ok (.aload_n 2, 1) := by decide +kernel
theorem dX9_submit_38 : decode cX9_submit 38 = .ok (.invokevirtual 96, 3) := by decide +kernel
theorem dX9_submit_41 : decode cX9_submit 41 = .ok (.astore_n 3, 1) := by decide +kernel
theorem dX9_submit_42 : decode cX9_submit 42 = .ok (.aload_n 2, 1) := by decide +kernel
theorem dX9_submit_43 : decode cX9_submit 43 = .ok (.aload_n 3, 1) := by decide +kernel
theorem dX9_submit_44 : decode cX9_submit 44 = .ok (.putfield 100, 3) := by decide +kernel
theorem dX9_submit_47 : decode cX9_submit 47 = .ok (.aload_n 3, 1) := by decide +kernel
theorem dX9_submit_48 : decode cX9_submit 48 = .ok (.invokevirtual 104, 3) := by decide +kernel
theorem dX9_submit_51 : decode cX9_submit 51 = .ok (.aload_n 0, 1) := by decide +kernel
theorem dX9_submit_52 : decode cX9_submit 52 = .ok (.getfield 31, 3) := by decide +kernel
theorem dX9_submit_55 : decode cX9_submit 55 = .ok (.aload_n 2, 1) := by decide +kernel
theorem dX9_submit_56 : decode cX9_submit 56 = .ok (.invokevirtual 109, 3) := by decide +kernel
theorem dX9_submit_59 : decode cX9_submit 59 = .ok (.iconst 0, 1) := by decide +kernel
theorem dX9_submit_60 : decode cX9_submit 60 = .ok (.ireturn, 1) := by decide +kernel
theorem dX9_tick_0 : decode cX9_tick 0 = .ok (.aload_n 0, 1) := by decide +kernel
theorem dX9_tick_1 : decode cX9_tick 1 = .ok (.invokevirtual 113, 3) := by decide +kernel
theorem dX9_tick_4 : decode cX9_tick 4 = .ok (.ireturn, 1) := by decide +kernel
theorem dX9_run_0 : decode cX9_run 0 = .ok (.iload_n 1, 1) := by decide +kernel
theorem dX9_run_1 : decode cX9_run 1 = .ok (.iconst 0, 1) := by decide +kernel
theorem dX9_run_2 : decode cX9_run 2 = .ok (.sipush 3000, 3) := by decide +kernel
theorem dX9_run_5 : decode cX9_run 5 = .ok (.invokestatic 43, 3) := by decide +kernel
theorem dX9_run_8 : decode cX9_run 8 = .ok (.ifCond .ne 6, 3) := by decide +kernel
theorem dX9_run_11 : decode cX9_run 11 = .ok (.bipush (-4), 2) := by decide +kernel
theorem dX9_run_13 : decode cX9_run 13 = .ok (.ireturn, 1) := by decide +kernel
theorem dX9_run_14 : decode cX9_run 14 = .ok (.iconst 0, 1) := by decide +kernel
theorem dX9_run_15 : decode cX9_run 15 = .ok (.istore_n 2, 1) := by decide +kernel
theorem dX9_run_16 : decode cX9_run 16 = .ok (.iload_n 2, 1) := by decide +kernel
theorem dX9_run_17 : decode cX9_run 17 = .ok (.iload_n 1, 1) := by decide +kernel
theorem dX9_run_18 : decode cX9_run 18 = .ok (.if_icmp .ge 24, 3) := by decide +kernel
theorem dX9_run_21 : decode cX9_run 21 = .ok (.aload_n 0, 1) := by decide +kernel
theorem dX9_run_22 : decode cX9_run 22 = .ok (.getfield 31, 3) := by decide +kernel
theorem dX9_run_25 : decode cX9_run 25 = .ok (.getfield 116, 3) := by decide +kernel
theorem dX9_run_28 : decode cX9_run 28 = .ok (.ifnull 14, 3) := by decide +kernel
theorem dX9_run_31 : decode cX9_run 31 = .ok (.aload_n 0, 1) := by decide +kernel
theorem dX9_run_32 : decode cX9_run 32 = .ok (.invokevirtual 113, 3) := by decide +kernel
theorem dX9_run_35 : decode cX9_run 35 = .ok (.pop, 1) := by decide +kernel
theorem dX9_run_36 : decode cX9_run 36 = .ok (.iinc 2 1, 3) := by decide +kernel
theorem dX9_run_39 : decode cX9_run 39 = .ok (.goto (-23), 3) := by decide +kernel
theorem dX9_run_42 : decode cX9_run 42 = .ok (.iload_n 2, 1) := by decide +kernel
theorem dX9_run_43 : decode cX9_run 43 = .ok (.ireturn, 1) := by decide +kernel
theorem dX9_state_0 : decode cX9_state 0 = .ok (.aload_n 0, 1) := by decide +kernel
theorem dX9_state_1 : decode cX9_state 1 = .ok (.iload_n 1, 1) := by decide +kernel
theorem dX9_state_2 : decode cX9_state 2 = .ok (.invokevirtual 74, 3) := by decide +kernel
theorem dX9_state_5 : decode cX9_state 5 = .ok (.astore_n 2, 1) := by decide +kernel
theorem dX9_state_6 : decode cX9_state 6 = .ok (.aload_n 2, 1) := by decide +kernel
theorem dX9_state_7 : decode cX9_state 7 = .ok (.ifnonnull 7, 3) := by decide +kernel
theorem dX9_state_10 : decode cX9_state 10 = .ok (.iconst (-1), 1) := by decide +kernel
theorem dX9_state_11 : decode cX9_state 11 = .ok (.goto 7, 3) := by decide +kernel
theorem dX9_state_14 : decode cX9_state 14 = .ok (.aload_n 2, 1) := by decide +kernel
theorem dX9_state_15 : decode cX9_state 15 = .ok (.getfield 78, 3) := by decide +kernel
theorem dX9_state_18 : decode cX9_state 18 = .ok (.ireturn, 1) := by decide +kernel
theorem dX9_get_0 : decode cX9_get 0 = .ok (.aload_n 0, 1) := by decide +kernel
theorem dX9_get_1 : decode cX9_get 1 = .ok (.iload_n 1, 1) := by decide +kernel
theorem dX9_get_2 : decode cX9_get 2 = .ok (.invokevirtual 74, 3) := by decide +kernel
theorem dX9_get_5 : decode cX9_get 5 = .ok (.astore_n 3, 1) := by decide +kernel
theorem dX9_get_6 : decode cX9_get 6 = .ok (.aload_n 3, 1) := by decide +kernel
theorem dX9_get_7 : decode cX9_get 7 = .ok (.ifnull 11, 3) := by decide +kernel
theorem dX9_get_10 : decode cX9_get 10 = .ok (.aload_n 3, 1) := by decide +kernel
theorem dX9_get_11 : decode cX9_get 11 = .ok (.iload_n 2, 1) := by decide +kernel
theorem dX9_get_12 : decode cX9_get 12 = .ok (.invokevirtual 81, 3) := by decide +kernel
theorem dX9_get_15 : decode cX9_get 15 = .ok (.ifCond .ne 5, 3) := by decide +kernel
theorem dX9_get_18 : decode cX9_get 18 = .ok (.iconst 0, 1) := by decide +kernel
theorem dX9_get_19 : decode cX9_get 19 = .ok (.ireturn, 1) := by decide +kernel
theorem dX9_get_20 : decode cX9_get 20 = .ok (.aload_n 0, 1) := by decide +kernel
theorem dX9_get_21 : decode cX9_get 21 = .ok (.getfield 18, 3) := by decide +kernel
theorem dX9_get_24 : decode cX9_get 24 = .ok (.aload_n 3, 1) := by decide +kernel
theorem dX9_get_25 : decode cX9_get 25 = .ok (.getfield 61, 3) := by decide +kernel
theorem dX9_get_28 : decode cX9_get 28 = .ok (.getfield 65, 3) := by decide +kernel
theorem dX9_get_31 : decode cX9_get 31 = .ok (.iload_n 2, 1) := by decide +kernel
theorem dX9_get_32 : decode cX9_get 32 = .ok (.iadd, 1) := by decide +kernel
theorem dX9_get_33 : decode cX9_get 33 = .ok (.invokevirtual 119, 3) := by decide +kernel
theorem dX9_get_36 : decode cX9_get 36 = .ok (.ireturn, 1) := by decide +kernel
theorem dX9_cancel_0 : decode cX9_cancel 0 = .ok (.aload_n 0, 1) := by decide +kernel
theorem dX9_cancel_1 : decode cX9_cancel 1 = .ok (.iload_n 1, 1) := by decide +kernel
theorem dX9_cancel_2 : decode cX9_cancel 2 = .ok (.invokevirtual 74, 3) := by decide +kernel
theorem dX9_cancel_5 : decode cX9_cancel 5 = .ok (.astore_n 2, 1) := by decide +kernel
theorem dX9_cancel_6 : decode cX9_cancel 6 = .ok (.aload_n 2, 1) := by decide +kernel
theorem dX9_cancel_7 : decode cX9_cancel 7 = .ok (.ifnonnull 5, 3) := by decide +kernel
theorem dX9_cancel_10 : decode cX9_cancel 10 = .ok (.iconst (-1), 1) := by decide +kernel
theorem dX9_cancel_11 : decode cX9_cancel 11 = .ok (.ireturn, 1) := by decide +kernel
theorem dX9_cancel_12 : decode cX9_cancel 12 = .ok (.aload_n 2, 1) := by decide +kernel
theorem dX9_cancel_13 : decode cX9_cancel 13 = .ok (.getfield 78, 3) := by decide +kernel
theorem dX9_cancel_16 : decode cX9_cancel 16 = .ok (.iconst 2, 1) := by decide +kernel
theorem dX9_cancel_17 : decode cX9_cancel 17 = .ok (.if_icmp .eq 6, 3) := by decide +kernel
theorem dX9_cancel_20 : decode cX9_cancel 20 = .ok (.bipush (-3), 2) := by decide +kernel
theorem dX9_cancel_22 : decode cX9_cancel 22 = .ok (.ireturn, 1) := by decide +kernel
theorem dX9_cancel_23 : decode cX9_cancel 23 = .ok (.aload_n 0, 1) := by decide +kernel
theorem dX9_cancel_24 : decode cX9_cancel 24 = .ok (.getfield 31, 3) := by decide +kernel
theorem dX9_cancel_27 : decode cX9_cancel 27 = .ok (.aload_n 2, 1) := by decide +kernel
theorem dX9_cancel_28 : decode cX9_cancel 28 = .ok (.invokevirtual 123, 3) := by decide +kernel
theorem dX9_cancel_31 : decode cX9_cancel 31 = .ok (.aload_n 2, 1) := by decide +kernel
theorem dX9_cancel_32 : decode cX9_cancel 32 = .ok (.iconst 4, 1) := by decide +kernel
theorem dX9_cancel_33 : decode cX9_cancel 33 = .ok (.putfield 78, 3) := by decide +kernel
theorem dX9_cancel_36 : decode cX9_cancel 36 = .ok (.iconst 0, 1) := by decide +kernel
theorem dX9_cancel_37 : decode cX9_cancel 37 = .ok (.ireturn, 1) := by decide +kernel
theorem dX9_raise_0 : decode cX9_raise 0 = .ok (.aload_n 0, 1) := by decide +kernel
theorem dX9_raise_1 : decode cX9_raise 1 = .ok (.iload_n 1, 1) := by decide +kernel
theorem dX9_raise_2 : decode cX9_raise 2 = .ok (.invokevirtual 74, 3) := by decide +kernel
theorem dX9_raise_5 : decode cX9_raise 5 = .ok (.astore_n 3, 1) := by decide +kernel
theorem dX9_raise_6 : decode cX9_raise 6 = .ok (.aload_n 3, 1) := by decide +kernel
theorem dX9_raise_7 : decode cX9_raise 7 = .ok (.ifnonnull 5, 3) := by decide +kernel
theorem dX9_raise_10 : decode cX9_raise 10 = .ok (.iconst (-1), 1) := by decide +kernel
theorem dX9_raise_11 : decode cX9_raise 11 = .ok (.ireturn, 1) := by decide +kernel
theorem dX9_raise_12 : decode cX9_raise 12 = .ok (.iload_n 2, 1) := by decide +kernel
theorem dX9_raise_13 : decode cX9_raise 13 = .ok (.invokestatic 47, 3) := by decide +kernel
theorem dX9_raise_16 : decode cX9_raise 16 = .ok (.ifCond .ne 6, 3) := by decide +kernel
theorem dX9_raise_19 : decode cX9_raise 19 = .ok (.bipush (-4), 2) := by decide +kernel
theorem dX9_raise_21 : decode cX9_raise 21 = .ok (.ireturn, 1) := by decide +kernel
theorem dX9_raise_22 : decode cX9_raise 22 = .ok (.aload_n 3, 1) := by decide +kernel
theorem dX9_raise_23 : decode cX9_raise 23 = .ok (.getfield 78, 3) := by decide +kernel
theorem dX9_raise_26 : decode cX9_raise 26 = .ok (.iconst 1, 1) := by decide +kernel
theorem dX9_raise_27 : decode cX9_raise 27 = .ok (.if_icmp .eq 14, 3) := by decide +kernel
theorem dX9_raise_30 : decode cX9_raise 30 = .ok (.aload_n 3, 1) := by decide +kernel
theorem dX9_raise_31 : decode cX9_raise 31 = .ok (.getfield 78, 3) := by decide +kernel
theorem dX9_raise_34 : decode cX9_raise 34 = .ok (.iconst 2, 1) := by decide +kernel
theorem dX9_raise_35 : decode cX9_raise 35 = .ok (.if_icmp .eq 6, 3) := by decide +kernel
theorem dX9_raise_38 : decode cX9_raise 38 = .ok (.bipush (-3), 2) := by decide +kernel
theorem dX9_raise_40 : decode cX9_raise 40 = .ok (.ireturn, 1) := by decide +kernel
theorem dX9_raise_41 : decode cX9_raise 41 = .ok (.aload_n 0, 1) := by decide +kernel
theorem dX9_raise_42 : decode cX9_raise 42 = .ok (.getfield 31, 3) := by decide +kernel
theorem dX9_raise_45 : decode cX9_raise 45 = .ok (.aload_n 3, 1) := by decide +kernel
theorem dX9_raise_46 : decode cX9_raise 46 = .ok (.invokevirtual 123, 3) := by decide +kernel
theorem dX9_raise_49 : decode cX9_raise 49 = .ok (.aload_n 3, 1) := by decide +kernel
theorem dX9_raise_50 : decode cX9_raise 50 = .ok (.iload_n 2, 1) := by decide +kernel
theorem dX9_raise_51 : decode cX9_raise 51 = .ok (.putfield 126, 3) := by decide +kernel
theorem dX9_raise_54 : decode cX9_raise 54 = .ok (.aload_n 3, 1) := by decide +kernel
theorem dX9_raise_55 : decode cX9_raise 55 = .ok (.getfield 78, 3) := by decide +kernel
theorem dX9_raise_58 : decode cX9_raise 58 = .ok (.iconst 2, 1) := by decide +kernel
theorem dX9_raise_59 : decode cX9_raise 59 = .ok (.if_icmp .ne 11, 3) := by decide +kernel
theorem dX9_raise_62 : decode cX9_raise 62 = .ok (.aload_n 0, 1) := by decide +kernel
theorem dX9_raise_63 : decode cX9_raise 63 = .ok (.getfield 31, 3) := by decide +kernel
theorem dX9_raise_66 : decode cX9_raise 66 = .ok (.aload_n 3, 1) := by decide +kernel
theorem dX9_raise_67 : decode cX9_raise 67 = .ok (.invokevirtual 109, 3) := by decide +kernel
theorem dX9_raise_70 : decode cX9_raise 70 = .ok (.iconst 0, 1) := by decide +kernel
theorem dX9_raise_71 : decode cX9_raise 71 = .ok (.ireturn, 1) := by decide +kernel
theorem dX9_close_0 : decode cX9_close 0 = .ok (.aload_n 0, 1) := by decide +kernel
theorem dX9_close_1 : decode cX9_close 1 = .ok (.iload_n 1, 1) := by decide +kernel
theorem dX9_close_2 : decode cX9_close 2 = .ok (.invokevirtual 74, 3) := by decide +kernel
theorem dX9_close_5 : decode cX9_close 5 = .ok (.astore_n 2, 1) := by decide +kernel
theorem dX9_close_6 : decode cX9_close 6 = .ok (.aload_n 2, 1) := by decide +kernel
theorem dX9_close_7 : decode cX9_close 7 = .ok (.ifnonnull 5, 3) := by decide +kernel
theorem dX9_close_10 : decode cX9_close 10 = .ok (.iconst (-1), 1) := by decide +kernel
theorem dX9_close_11 : decode cX9_close 11 = .ok (.ireturn, 1) := by decide +kernel
theorem dX9_close_12 : decode cX9_close 12 = .ok (.aload_n 2, 1) := by decide +kernel
theorem dX9_close_13 : decode cX9_close 13 = .ok (.getfield 78, 3) := by decide +kernel
theorem dX9_close_16 : decode cX9_close 16 = .ok (.iconst 2, 1) := by decide +kernel
theorem dX9_close_17 : decode cX9_close 17 = .ok (.if_icmp .ne 6, 3) := by decide +kernel
theorem dX9_close_20 : decode cX9_close 20 = .ok (.bipush (-3), 2) := by decide +kernel
theorem dX9_close_22 : decode cX9_close 22 = .ok (.ireturn, 1) := by decide +kernel
theorem dX9_close_23 : decode cX9_close 23 = .ok (.aload_n 0, 1) := by decide +kernel
theorem dX9_close_24 : decode cX9_close 24 = .ok (.getfield 18, 3) := by decide +kernel
theorem dX9_close_27 : decode cX9_close 27 = .ok (.aload_n 2, 1) := by decide +kernel
theorem dX9_close_28 : decode cX9_close 28 = .ok (.getfield 61, 3) := by decide +kernel
theorem dX9_close_31 : decode cX9_close 31 = .ok (.invokevirtual 129, 3) := by decide +kernel
theorem dX9_close_34 : decode cX9_close 34 = .ok (.aload_n 0, 1) := by decide +kernel
theorem dX9_close_35 : decode cX9_close 35 = .ok (.getfield 18, 3) := by decide +kernel
theorem dX9_close_38 : decode cX9_close 38 = .ok (.aload_n 2, 1) := by decide +kernel
theorem dX9_close_39 : decode cX9_close 39 = .ok (.getfield 133, 3) := by decide +kernel
theorem dX9_close_42 : decode cX9_close 42 = .ok (.invokevirtual 129, 3) := by decide +kernel
theorem dX9_close_45 : decode cX9_close 45 = .ok (.aload_n 0, 1) := by decide +kernel
theorem dX9_close_46 : decode cX9_close 46 = .ok (.getfield 24, 3) := by decide +kernel
theorem dX9_close_49 : decode cX9_close 49 = .ok (.iload_n 1, 1) := by decide +kernel
theorem dX9_close_50 : decode cX9_close 50 = .ok (.aconst_null, 1) := by decide +kernel
theorem dX9_close_51 : decode cX9_close 51 = .ok (.aastore, 1) := by decide +kernel
theorem dX9_close_52 : decode cX9_close 52 = .ok (.iconst 0, 1) := by decide +kernel
theorem dX9_close_53 : decode cX9_close 53 = .ok (.ireturn, 1) := by decide +kernel
theorem dX9_pack_0 : decode cX9_pack 0 = .ok (.aload_n 0, 1) := by decide +kernel
theorem dX9_pack_1 : decode cX9_pack 1 = .ok (.getfield 18, 3) := by decide +kernel
theorem dX9_pack_4 : decode cX9_pack 4 = .ok (.invokevirtual 136, 3) := by decide +kernel
theorem dX9_pack_7 : decode cX9_pack 7 = .ok (.ireturn, 1) := by decide +kernel
theorem dX9_word_0 : decode cX9_word 0 = .ok (.aload_n 0, 1) := by decide +kernel
theorem dX9_word_1 : decode cX9_word 1 = .ok (.getfield 18, 3) := by decide +kernel
theorem dX9_word_4 : decode cX9_word 4 = .ok (.iload_n 1, 1) := by decide +kernel
theorem dX9_word_5 : decode cX9_word 5 = .ok (.invokevirtual 119, 3) := by decide +kernel
theorem dX9_word_8 : decode cX9_word 8 = .ok (.ireturn, 1) := by decide +kernel
theorem dX9_job_0 : decode cX9_job 0 = .ok (.aload_n 0, 1) := by decide +kernel
theorem dX9_job_1 : decode cX9_job 1 = .ok (.iload_n 1, 1) := by decide +kernel
theorem dX9_job_2 : decode cX9_job 2 = .ok (.invokevirtual 74, 3) := by decide +kernel
theorem dX9_job_5 : decode cX9_job 5 = .ok (.astore_n 3, 1) := by decide +kernel
theorem dX9_job_6 : decode cX9_job 6 = .ok (.aload_n 3, 1) := by decide +kernel
theorem dX9_job_7 : decode cX9_job 7 = .ok (.ifnonnull 5, 3) := by decide +kernel
theorem dX9_job_10 : decode cX9_job 10 = .ok (.iconst (-1), 1) := by decide +kernel
theorem dX9_job_11 : decode cX9_job 11 = .ok (.ireturn, 1) := by decide +kernel
theorem dX9_job_12 : decode cX9_job 12 = .ok (.iload_n 2, 1) := by decide +kernel
theorem dX9_job_13 : decode cX9_job 13 = .ok (.tableswitch 109 0 8 #[51, 59, 64, 69, 74, 82, 90, 99, 104], 51) := by decide +kernel
theorem dX9_job_64 : decode cX9_job 64 = .ok (.aload_n 3, 1) := by decide +kernel
theorem dX9_job_65 : decode cX9_job 65 = .ok (.getfield 61, 3) := by decide +kernel
theorem dX9_job_68 : decode cX9_job 68 = .ok (.getfield 139, 3) := by decide +kernel
theorem dX9_job_71 : decode cX9_job 71 = .ok (.ireturn, 1) := by decide +kernel
theorem dX9_job_72 : decode cX9_job 72 = .ok (.aload_n 3, 1) := by decide +kernel
theorem dX9_job_73 : decode cX9_job 73 = .ok (.getfield 142, 3) := by decide +kernel
theorem dX9_job_76 : decode cX9_job 76 = .ok (.ireturn, 1) := by decide +kernel
theorem dX9_job_77 : decode cX9_job 77 = .ok (.aload_n 3, 1) := by decide +kernel
theorem dX9_job_78 : decode cX9_job 78 = .ok (.getfield 126, 3) := by decide +kernel
theorem dX9_job_81 : decode cX9_job 81 = .ok (.ireturn, 1) := by decide +kernel
theorem dX9_job_82 : decode cX9_job 82 = .ok (.aload_n 3, 1) := by decide +kernel
theorem dX9_job_83 : decode cX9_job 83 = .ok (.getfield 145, 3) := by decide +kernel
theorem dX9_job_86 : decode cX9_job 86 = .ok (.ireturn, 1) := by decide +kernel
theorem dX9_job_87 : decode cX9_job 87 = .ok (.aload_n 3, 1) := by decide +kernel
theorem dX9_job_88 : decode cX9_job 88 = .ok (.getfield 61, 3) := by decide +kernel
theorem dX9_job_91 : decode cX9_job 91 = .ok (.getfield 65, 3) := by decide +kernel
theorem dX9_job_94 : decode cX9_job 94 = .ok (.ireturn, 1) := by decide +kernel
theorem dX9_job_95 : decode cX9_job 95 = .ok (.aload_n 3, 1) := by decide +kernel
theorem dX9_job_96 : decode cX9_job 96 = .ok (.getfield 133, 3) := by decide +kernel
theorem dX9_job_99 : decode cX9_job 99 = .ok (.getfield 65, 3) := by decide +kernel
theorem dX9_job_102 : decode cX9_job 102 = .ok (.ireturn, 1) := by decide +kernel
theorem dX9_job_103 : decode cX9_job 103 = .ok (.aload_n 0, 1) := by decide +kernel
theorem dX9_job_104 : decode cX9_job 104 = .ok (.getfield 31, 3) := by decide +kernel
theorem dX9_job_107 : decode cX9_job 107 = .ok (.aload_n 3, 1) := by decide +kernel
theorem dX9_job_108 : decode cX9_job 108 = .ok (.invokevirtual 148, 3) := by decide +kernel
theorem dX9_job_111 : decode cX9_job 111 = .ok (.ireturn, 1) := by decide +kernel
theorem dX9_job_112 : decode cX9_job 112 = .ok (.aload_n 3, 1) := by decide +kernel
theorem dX9_job_113 : decode cX9_job 113 = .ok (.getfield 93, 3) := by decide +kernel
theorem dX9_job_116 : decode cX9_job 116 = .ok (.ireturn, 1) := by decide +kernel
theorem dX9_job_117 : decode cX9_job 117 = .ok (.aload_n 3, 1) := by decide +kernel
theorem dX9_job_118 : decode cX9_job 118 = .ok (.getfield 152, 3) := by decide +kernel
theorem dX9_job_121 : decode cX9_job 121 = .ok (.ireturn, 1) := by decide +kernel
theorem dX9_job_122 : decode cX9_job 122 = .ok (.iconst (-1), 1) := by decide +kernel
theorem dX9_job_123 : decode cX9_job 123 = .ok (.ireturn, 1) := by decide +kernel
theorem dX9_count_0 : decode cX9_count 0 = .ok (.iload_n 1, 1) := by decide +kernel
theorem dX9_count_1 : decode cX9_count 1 = .ok (.tableswitch 112 0 8 #[51, 59, 67, 75, 80, 85, 93, 98, 107], 51) := by decide +kernel
theorem dX9_count_52 : decode cX9_count 52 = .ok (.aload_n 0, 1) := by decide +kernel
theorem dX9_count_53 : decode cX9_count 53 = .ok (.getfield 18, 3) := by decide +kernel
theorem dX9_count_56 : decode cX9_count 56 = .ok (.invokevirtual 155, 3) := by decide +kernel
theorem dX9_count_59 : decode cX9_count 59 = .ok (.ireturn, 1) := by decide +kernel
theorem dX9_count_60 : decode cX9_count 60 = .ok (.aload_n 0, 1) := by decide +kernel
theorem dX9_count_61 : decode cX9_count 61 = .ok (.getfield 18, 3) := by decide +kernel
theorem dX9_count_64 : decode cX9_count 64 = .ok (.invokevirtual 158, 3) := by decide +kernel
theorem dX9_count_67 : decode cX9_count 67 = .ok (.ireturn, 1) := by decide +kernel
theorem dX9_count_68 : decode cX9_count 68 = .ok (.aload_n 0, 1) := by decide +kernel
theorem dX9_count_69 : decode cX9_count 69 = .ok (.getfield 18, 3) := by decide +kernel
theorem dX9_count_72 : decode cX9_count 72 = .ok (.invokevirtual 161, 3) := by decide +kernel
theorem dX9_count_75 : decode cX9_count 75 = .ok (.ireturn, 1) := by decide +kernel
theorem dX9_count_76 : decode cX9_count 76 = .ok (.aload_n 0, 1) := by decide +kernel
theorem dX9_count_77 : decode cX9_count 77 = .ok (.getfield 90, 3) := by decide +kernel
theorem dX9_count_80 : decode cX9_count 80 = .ok (.ireturn, 1) := by decide +kernel
theorem dX9_count_81 : decode cX9_count 81 = .ok (.aload_n 0, 1) := by decide +kernel
theorem dX9_count_82 : decode cX9_count 82 = .ok (.invokevirtual 164, 3) := by decide +kernel
theorem dX9_count_85 : decode cX9_count 85 = .ok (.ireturn, 1) := by decide +kernel
theorem dX9_count_86 : decode cX9_count 86 = .ok (.aload_n 0, 1) := by decide +kernel
theorem dX9_count_87 : decode cX9_count 87 = .ok (.getfield 31, 3) := by decide +kernel
theorem dX9_count_90 : decode cX9_count 90 = .ok (.invokevirtual 167, 3) := by decide +kernel
theorem dX9_count_93 : decode cX9_count 93 = .ok (.ireturn, 1) := by decide +kernel
theorem dX9_count_94 : decode cX9_count 94 = .ok (.aload_n 0, 1) := by decide +kernel
theorem dX9_count_95 : decode cX9_count 95 = .ok (.getfield 170, 3) := by decide +kernel
theorem dX9_count_98 : decode cX9_count 98 = .ok (.ireturn, 1) := by decide +kernel
theorem dX9_count_99 : decode cX9_count 99 = .ok (.aload_n 0, 1) := by decide +kernel
theorem dX9_count_100 : decode cX9_count 100 = .ok (.getfield 18, 3) := by decide +kernel
theorem dX9_count_103 : decode cX9_count 103 = .ok (.getfield 171, 3) := by decide +kernel
theorem dX9_count_106 : decode cX9_count 106 = .ok (.arraylength, 1) := by decide +kernel
theorem dX9_count_107 : decode cX9_count 107 = .ok (.ireturn, 1) := by decide +kernel
theorem dX9_count_108 : decode cX9_count 108 = .ok (.aload_n 0, 1) := by decide +kernel
theorem dX9_count_109 : decode cX9_count 109 = .ok (.getfield 35, 3) := by decide +kernel
theorem dX9_count_112 : decode cX9_count 112 = .ok (.ireturn, 1) := by decide +kernel
theorem dX9_count_113 : decode cX9_count 113 = .ok (.iconst (-1), 1) := by decide +kernel
theorem dX9_count_114 : decode cX9_count 114 = .ok (.ireturn, 1) := by decide +kernel
theorem dX9_nearest_0 : decode cX9_nearest 0 = .ok (.iload_n 1, 1) := by decide +kernel
theorem dX9_nearest_1 : decode cX9_nearest 1 = .ok (.iload_n 2, 1) := by decide +kernel
theorem dX9_nearest_2 : decode cX9_nearest 2 = .ok (.iload_n 0, 1) := by decide +kernel
theorem dX9_nearest_3 : decode cX9_nearest 3 = .ok (.invokestatic 175, 3) := by decide +kernel
theorem dX9_nearest_6 : decode cX9_nearest 6 = .ok (.invokestatic 181, 3) := by decide +kernel
theorem dX9_nearest_9 : decode cX9_nearest 9 = .ok (.ireturn, 1) := by decide +kernel
theorem dX9_isBetween_0 : decode cX9_isBetween 0 = .ok (.iload_n 0, 1) := by decide +kernel
theorem dX9_isBetween_1 : decode cX9_isBetween 1 = .ok (.iload_n 1, 1) := by decide +kernel
theorem dX9_isBetween_2 : decode cX9_isBetween 2 = .ok (.if_icmp .lt 12, 3) := by decide +kernel
theorem dX9_isBetween_5 : decode cX9_isBetween 5 = .ok (.iload_n 0, 1) := by decide +kernel
theorem dX9_isBetween_6 : decode cX9_isBetween 6 = .ok (.iload_n 2, 1) := by decide +kernel
theorem dX9_isBetween_7 : decode cX9_isBetween 7 = .ok (.if_icmp .gt 7, 3) := by decide +kernel
theorem dX9_isBetween_10 : decode cX9_isBetween 10 = .ok (.iconst 1, 1) := by decide +kernel
theorem dX9_isBetween_11 : decode cX9_isBetween 11 = .ok (.goto 4, 3) := by decide +kernel
theorem dX9_isBetween_14 : decode cX9_isBetween 14 = .ok (.iconst 0, 1) := by decide +kernel
theorem dX9_isBetween_15 : decode cX9_isBetween 15 = .ok (.ireturn, 1) := by decide +kernel
theorem dX9_isCount_0 : decode cX9_isCount 0 = .ok (.iload_n 0, 1) := by decide +kernel
theorem dX9_isCount_1 : decode cX9_isCount 1 = .ok (.iconst 0, 1) := by decide +kernel
theorem dX9_isCount_2 : decode cX9_isCount 2 = .ok (.sipush 1000, 3) := by decide +kernel
theorem dX9_isCount_5 : decode cX9_isCount 5 = .ok (.invokestatic 43, 3) := by decide +kernel
theorem dX9_isCount_8 : decode cX9_isCount 8 = .ok (.ireturn, 1) := by decide +kernel
theorem dX9_isPriority_0 : decode cX9_isPriority 0 = .ok (.iload_n 0, 1) := by decide +kernel
theorem dX9_isPriority_1 : decode cX9_isPriority 1 = .ok (.iconst 0, 1) := by decide +kernel
theorem dX9_isPriority_2 : decode cX9_isPriority 2 = .ok (.iconst 3, 1) := by decide +kernel
theorem dX9_isPriority_3 : decode cX9_isPriority 3 = .ok (.invokestatic 43, 3) := by decide +kernel
theorem dX9_isPriority_6 : decode cX9_isPriority 6 = .ok (.ireturn, 1) := by decide +kernel
theorem dX9_find_0 : decode cX9_find 0 = .ok (.iload_n 1, 1) := by decide +kernel
theorem dX9_find_1 : decode cX9_find 1 = .ok (.ifCond .lt 21, 3) := by decide +kernel
theorem dX9_find_4 : decode cX9_find 4 = .ok (.iload_n 1, 1) := by decide +kernel
theorem dX9_find_5 : decode cX9_find 5 = .ok (.aload_n 0, 1) := by decide +kernel
theorem dX9_find_6 : decode cX9_find 6 = .ok (.getfield 24, 3) := by decide +kernel
theorem dX9_find_9 : decode cX9_find 9 = .ok (.arraylength, 1) := by decide +kernel
theorem dX9_find_10 : decode cX9_find 10 = .ok (.if_icmp .ge 12, 3) := by decide +kernel
theorem dX9_find_13 : decode cX9_find 13 = .ok (.aload_n 0, 1) := by decide +kernel
theorem dX9_find_14 : decode cX9_find 14 = .ok (.getfield 24, 3) := by decide +kernel
theorem dX9_find_17 : decode cX9_find 17 = .ok (.iload_n 1, 1) := by decide +kernel
theorem dX9_find_18 : decode cX9_find 18 = .ok (.aaload, 1) := by decide +kernel
theorem dX9_find_19 : decode cX9_find 19 = .ok (.goto 4, 3) := by decide +kernel
theorem dX9_find_22 : decode cX9_find 22 = .ok (.aconst_null, 1) := by decide +kernel
theorem dX9_find_23 : decode cX9_find 23 = .ok (.areturn, 1) := by decide +kernel
theorem dX9_leastFreeNumber_0 : decode cX9_leastFreeNumber 0 = .ok (.iconst 0, 1) := by decide +kernel
theorem dX9_leastFreeNumber_1 : decode cX9_leastFreeNumber 1 = .ok (.istore_n 1, 1) := by decide +kernel
theorem dX9_leastFreeNumber_2 : decode cX9_leastFreeNumber 2 = .ok (.iload_n 1, 1) := by decide +kernel
theorem dX9_leastFreeNumber_3 : decode cX9_leastFreeNumber 3 = .ok (.aload_n 0, 1) := by decide +kernel
theorem dX9_leastFreeNumber_4 : decode cX9_leastFreeNumber 4 = .ok (.getfield 24, 3) := by decide +kernel
theorem dX9_leastFreeNumber_7 : decode cX9_leastFreeNumber 7 = .ok (.arraylength, 1) := by decide +kernel
theorem dX9_leastFreeNumber_8 : decode cX9_leastFreeNumber 8 = .ok (.if_icmp .ge 20, 3) := by decide +kernel
theorem dX9_leastFreeNumber_11 : decode cX9_leastFreeNumber 11 = .ok (.aload_n 0, 1) := by decide +kernel
theorem dX9_leastFreeNumber_12 : decode cX9_leastFreeNumber 12 = .ok (.getfield 24, 3) := by decide +kernel
theorem dX9_leastFreeNumber_15 : decode cX9_leastFreeNumber 15 = .ok (.iload_n 1, 1) := by decide +kernel
theorem dX9_leastFreeNumber_16 : decode cX9_leastFreeNumber 16 = .ok (.aaload, 1) := by decide +kernel
theorem dX9_leastFreeNumber_17 : decode cX9_leastFreeNumber 17 = .ok (.ifnonnull 5, 3) := by decide +kernel
theorem dX9_leastFreeNumber_20 : decode cX9_leastFreeNumber 20 = .ok (.iload_n 1, 1) := by decide +kernel
theorem dX9_leastFreeNumber_21 : decode cX9_leastFreeNumber 21 = .ok (.ireturn, 1) := by decide +kernel
theorem dX9_leastFreeNumber_22 : decode cX9_leastFreeNumber 22 = .ok (.iinc 1 1, 3) := by decide +kernel
theorem dX9_leastFreeNumber_25 : decode cX9_leastFreeNumber 25 = .ok (.goto (-23), 3) := by decide +kernel
theorem dX9_leastFreeNumber_28 : decode cX9_leastFreeNumber 28 = .ok (.iconst (-1), 1) := by decide +kernel
theorem dX9_leastFreeNumber_29 : decode cX9_leastFreeNumber 29 = .ok (.ireturn, 1) := by decide +kernel
theorem dX9_countJobs_0 : decode cX9_countJobs 0 = .ok (.iconst 0, 1) := by decide +kernel
theorem dX9_countJobs_1 : decode cX9_countJobs 1 = .ok (.istore_n 1, 1) := by decide +kernel
theorem dX9_countJobs_2 : decode cX9_countJobs 2 = .ok (.iconst 0, 1) := by decide +kernel
theorem dX9_countJobs_3 : decode cX9_countJobs 3 = .ok (.istore_n 2, 1) := by decide +kernel
theorem dX9_countJobs_4 : decode cX9_countJobs 4 = .ok (.iload_n 2, 1) := by decide +kernel
theorem dX9_countJobs_5 : decode cX9_countJobs 5 = .ok (.aload_n 0, 1) := by decide +kernel
theorem dX9_countJobs_6 : decode cX9_countJobs 6 = .ok (.getfield 24, 3) := by decide +kernel
theorem dX9_countJobs_9 : decode cX9_countJobs 9 = .ok (.arraylength, 1) := by decide +kernel
theorem dX9_countJobs_10 : decode cX9_countJobs 10 = .ok (.if_icmp .ge 21, 3) := by decide +kernel
theorem dX9_countJobs_13 : decode cX9_countJobs 13 = .ok (.aload_n 0, 1) := by decide +kernel
theorem dX9_countJobs_14 : decode cX9_countJobs 14 = .ok (.getfield 24, 3) := by decide +kernel
theorem dX9_countJobs_17 : decode cX9_countJobs 17 = .ok (.iload_n 2, 1) := by decide +kernel
theorem dX9_countJobs_18 : decode cX9_countJobs 18 = .ok (.aaload, 1) := by decide +kernel
theorem dX9_countJobs_19 : decode cX9_countJobs 19 = .ok (.ifnull 6, 3) := by decide +kernel
theorem dX9_countJobs_22 : decode cX9_countJobs 22 = .ok (.iinc 1 1, 3) := by decide +kernel
theorem dX9_countJobs_25 : decode cX9_countJobs 25 = .ok (.iinc 2 1, 3) := by decide +kernel
theorem dX9_countJobs_28 : decode cX9_countJobs 28 = .ok (.goto (-24), 3) := by decide +kernel
theorem dX9_countJobs_31 : decode cX9_countJobs 31 = .ok (.iload_n 1, 1) := by decide +kernel
theorem dX9_countJobs_32 : decode cX9_countJobs 32 = .ok (.ireturn, 1) := by decide +kernel
theorem dX9_bufferSize_0 : decode cX9_bufferSize 0 = .ok (.iload_n 0, 1) := by decide +kernel
theorem dX9_bufferSize_1 : decode cX9_bufferSize 1 = .ok (.iconst 2, 1) := by decide +kernel
theorem dX9_bufferSize_2 : decode cX9_bufferSize 2 = .ok (.if_icmp .ne 5, 3) := by decide +kernel
theorem dX9_bufferSize_5 : decode cX9_bufferSize 5 = .ok (.iload_n 1, 1) := by decide +kernel
theorem dX9_bufferSize_6 : decode cX9_bufferSize 6 = .ok (.ireturn, 1) := by decide +kernel
theorem dX9_bufferSize_7 : decode cX9_bufferSize 7 = .ok (.iload_n 0, 1) := by decide +kernel
theorem dX9_bufferSize_8 : decode cX9_bufferSize 8 = .ok (.iconst 4, 1) := by decide +kernel
theorem dX9_bufferSize_9 : decode cX9_bufferSize 9 = .ok (.if_icmp .ne 8, 3) := by decide +kernel
theorem dX9_bufferSize_12 : decode cX9_bufferSize 12 = .ok (.bipush 24, 2) := by decide +kernel
theorem dX9_bufferSize_14 : decode cX9_bufferSize 14 = .ok (.goto 4, 3) := by decide +kernel
theorem dX9_bufferSize_17 : decode cX9_bufferSize 17 = .ok (.iconst 0, 1) := by decide +kernel
theorem dX9_bufferSize_18 : decode cX9_bufferSize 18 = .ok (.ireturn, 1) := by decide +kernel
theorem dX9_takeCellsAndBuffer_0 : decode cX9_takeCellsAndBuffer 0 = .ok (.aload_n 0, 1) := by decide +kernel
theorem dX9_takeCellsAndBuffer_1 : decode cX9_takeCellsAndBuffer 1 = .ok (.getfield 18, 3) := by decide +kernel
theorem dX9_takeCellsAndBuffer_4 : decode cX9_takeCellsAndBuffer 4 = .ok (.aload_n 1, 1) := by decide +kernel
theorem dX9_takeCellsAndBuffer_5 : decode cX9_takeCellsAndBuffer 5 = .ok (.getfield 61, 3) := by decide +kernel
theorem dX9_takeCellsAndBuffer_8 : decode cX9_takeCellsAndBuffer 8 = .ok (.iload_n 2, 1) := by decide +kernel
theorem dX9_takeCellsAndBuffer_9 : decode cX9_takeCellsAndBuffer 9 = .ok (.invokevirtual 184, 3) := by decide +kernel
theorem dX9_takeCellsAndBuffer_12 : decode cX9_takeCellsAndBuffer 12 = .ok (.ifCond .ne 5, 3) := by decide +kernel
theorem dX9_takeCellsAndBuffer_15 : decode cX9_takeCellsAndBuffer 15 = .ok (.iconst 0, 1) := by decide +kernel
theorem dX9_takeCellsAndBuffer_16 : decode cX9_takeCellsAndBuffer 16 = .ok (.ireturn, 1) := by decide +kernel
theorem dX9_takeCellsAndBuffer_17 : decode cX9_takeCellsAndBuffer 17 = .ok (.aload_n 0, 1) := by decide +kernel
theorem dX9_takeCellsAndBuffer_18 : decode cX9_takeCellsAndBuffer 18 = .ok (.getfield 18, 3) := by decide +kernel
theorem dX9_takeCellsAndBuffer_21 : decode cX9_takeCellsAndBuffer 21 = .ok (.aload_n 1, 1) := by decide +kernel
theorem dX9_takeCellsAndBuffer_22 : decode cX9_takeCellsAndBuffer 22 = .ok (.getfield 133, 3) := by decide +kernel
theorem dX9_takeCellsAndBuffer_25 : decode cX9_takeCellsAndBuffer 25 = .ok (.aload_n 1, 1) := by decide +kernel
theorem dX9_takeCellsAndBuffer_26 : decode cX9_takeCellsAndBuffer 26 = .ok (.getfield 142, 3) := by decide +kernel
theorem dX9_takeCellsAndBuffer_29 : decode cX9_takeCellsAndBuffer 29 = .ok (.iload_n 2, 1) := by decide +kernel
theorem dX9_takeCellsAndBuffer_30 : decode cX9_takeCellsAndBuffer 30 = .ok (.invokestatic 188, 3) := by decide +kernel
theorem dX9_takeCellsAndBuffer_33 : decode cX9_takeCellsAndBuffer 33 = .ok (.invokevirtual 184, 3) := by decide +kernel
theorem dX9_takeCellsAndBuffer_36 : decode cX9_takeCellsAndBuffer 36 = .ok (.ifCond .ne 16, 3) := by decide +kernel
theorem dX9_takeCellsAndBuffer_39 : decode cX9_takeCellsAndBuffer 39 = .ok (.aload_n 0, 1) := by decide +kernel
theorem dX9_takeCellsAndBuffer_40 : decode cX9_takeCellsAndBuffer 40 = .ok (.getfield 18, 3) := by decide +kernel
theorem dX9_takeCellsAndBuffer_43 : decode cX9_takeCellsAndBuffer 43 = .ok (.aload_n 1, 1) := by decide +kernel
theorem dX9_takeCellsAndBuffer_44 : decode cX9_takeCellsAndBuffer 44 = .ok (.getfield 61, 3) := by decide +kernel
theorem dX9_takeCellsAndBuffer_47 : decode cX9_takeCellsAndBuffer 47 = .ok (.invokevirtual 129, 3) := by decide +kernel
theorem dX9_takeCellsAndBuffer_50 : decode cX9_takeCellsAndBuffer 50 = .ok (.iconst 0, 1) := by decide +kernel
theorem dX9_takeCellsAndBuffer_51 : decode cX9_takeCellsAndBuffer 51 = .ok (.ireturn, 1) := by decide +kernel
theorem dX9_takeCellsAndBuffer_52 : decode cX9_takeCellsAndBuffer 52 = .ok (.iconst 1, 1) := by decide +kernel
theorem dX9_takeCellsAndBuffer_53 : decode cX9_takeCellsAndBuffer 53 = .ok (.ireturn, 1) := by decide +kernel
theorem dX9_exchangeBlocks_0 : decode cX9_exchangeBlocks 0 = .ok (.aload_n 1, 1) := by decide +kernel
theorem dX9_exchangeBlocks_1 : decode cX9_exchangeBlocks 1 = .ok (.getfield 142, 3) := by decide +kernel
theorem dX9_exchangeBlocks_4 : decode cX9_exchangeBlocks 4 = .ok (.iconst 2, 1) := by decide +kernel
theorem dX9_exchangeBlocks_5 : decode cX9_exchangeBlocks 5 = .ok (.if_icmp .ne 7, 3) := by decide +kernel
theorem dX9_exchangeBlocks_8 : decode cX9_exchangeBlocks 8 = .ok (.iconst 1, 1) := by decide +kernel
theorem dX9_exchangeBlocks_9 : decode cX9_exchangeBlocks 9 = .ok (.goto 4, 3) := by decide +kernel
theorem dX9_exchangeBlocks_12 : decode cX9_exchangeBlocks 12 = .ok (.iconst 0, 1) := by decide +kernel
theorem dX9_exchangeBlocks_13 : decode cX9_exchangeBlocks 13 = .ok (.istore_n 3, 1) := by decide +kernel
theorem dX9_exchangeBlocks_14 : decode cX9_exchangeBlocks 14 = .ok (.aload_n 1, 1) := by decide +kernel
theorem dX9_exchangeBlocks_15 : decode cX9_exchangeBlocks 15 = .ok (.getfield 61, 3) := by decide +kernel
theorem dX9_exchangeBlocks_18 : decode cX9_exchangeBlocks 18 = .ok (.getfield 65, 3) := by decide +kernel
theorem dX9_exchangeBlocks_21 : decode cX9_exchangeBlocks 21 = .ok (.istore 4, 2) := by decide +kernel
theorem dX9_exchangeBlocks_23 : decode cX9_exchangeBlocks 23 = .ok (.aload_n 1, 1) := by decide +kernel
theorem dX9_exchangeBlocks_24 : decode cX9_exchangeBlocks 24 = .ok (.getfield 133, 3) := by decide +kernel
theorem dX9_exchangeBlocks_27 : decode cX9_exchangeBlocks 27 = .ok (.getfield 65, 3) := by decide +kernel
theorem dX9_exchangeBlocks_30 : decode cX9_exchangeBlocks 30 = .ok (.istore 5, 2) := by decide +kernel
theorem dX9_exchangeBlocks_32 : decode cX9_exchangeBlocks 32 = .ok (.aload_n 1, 1) := by decide +kernel
theorem dX9_exchangeBlocks_33 : decode cX9_exchangeBlocks 33 = .ok (.getfield 61, 3) := by decide +kernel
theorem dX9_exchangeBlocks_36 : decode cX9_exchangeBlocks 36 = .ok (.getfield 139, 3) := by decide +kernel
theorem dX9_exchangeBlocks_39 : decode cX9_exchangeBlocks 39 = .ok (.istore 6, 2) := by decide +kernel
theorem dX9_exchangeBlocks_41 : decode cX9_exchangeBlocks 41 = .ok (.aload_n 0, 1) := by decide +kernel
theorem dX9_exchangeBlocks_42 : decode cX9_exchangeBlocks 42 = .ok (.getfield 18, 3) := by decide +kernel
theorem dX9_exchangeBlocks_45 : decode cX9_exchangeBlocks 45 = .ok (.aload_n 1, 1) := by decide +kernel
theorem dX9_exchangeBlocks_46 : decode cX9_exchangeBlocks 46 = .ok (.getfield 61, 3) := by decide +kernel
theorem dX9_exchangeBlocks_49 : decode cX9_exchangeBlocks 49 = .ok (.invokevirtual 129, 3) := by decide +kernel
theorem dX9_exchangeBlocks_52 : decode cX9_exchangeBlocks 52 = .ok (.iload_n 3, 1) := by decide +kernel
theorem dX9_exchangeBlocks_53 : decode cX9_exchangeBlocks 53 = .ok (.ifCond .eq 14, 3) := by decide +kernel
theorem dX9_exchangeBlocks_56 : decode cX9_exchangeBlocks 56 = .ok (.aload_n 0, 1) := by decide +kernel
theorem dX9_exchangeBlocks_57 : decode cX9_exchangeBlocks 57 = .ok (.getfield 18, 3) := by decide +kernel
theorem dX9_exchangeBlocks_60 : decode cX9_exchangeBlocks 60 = .ok (.aload_n 1, 1) := by decide +kernel
theorem dX9_exchangeBlocks_61 : decode cX9_exchangeBlocks 61 = .ok (.getfield 133, 3) := by decide +kernel
theorem dX9_exchangeBlocks_64 : decode cX9_exchangeBlocks 64 = .ok (.invokevirtual 129, 3) := by decide +kernel
theorem dX9_exchangeBlocks_67 : decode cX9_exchangeBlocks 67 = .ok (.iload_n 3, 1) := by decide +kernel
theorem dX9_exchangeBlocks_68 : decode cX9_exchangeBlocks 68 = .ok (.ifCond .eq 12, 3) := by decide +kernel
theorem dX9_exchangeBlocks_71 : decode cX9_exchangeBlocks 71 = .ok (.aload_n 0, 1) := by decide +kernel
theorem dX9_exchangeBlocks_72 : decode cX9_exchangeBlocks 72 = .ok (.aload_n 1, 1) := by decide +kernel
theorem dX9_exchangeBlocks_73 : decode cX9_exchangeBlocks 73 = .ok (.iload_n 2, 1) := by decide +kernel
theorem dX9_exchangeBlocks_74 : decode cX9_exchangeBlocks 74 = .ok (.invokevirtual 57, 3) := by decide +kernel
theorem dX9_exchangeBlocks_77 : decode cX9_exchangeBlocks 77 = .ok (.goto 15, 3) := by decide +kernel
theorem dX9_exchangeBlocks_80 : decode cX9_exchangeBlocks 80 = .ok (.aload_n 0, 1) := by decide +kernel
theorem dX9_exchangeBlocks_81 : decode cX9_exchangeBlocks 81 = .ok (.getfield 18, 3) := by decide +kernel
theorem dX9_exchangeBlocks_84 : decode cX9_exchangeBlocks 84 = .ok (.aload_n 1, 1) := by decide +kernel
theorem dX9_exchangeBlocks_85 : decode cX9_exchangeBlocks 85 = .ok (.getfield 61, 3) := by decide +kernel
theorem dX9_exchangeBlocks_88 : decode cX9_exchangeBlocks 88 = .ok (.iload_n 2, 1) := by decide +kernel
theorem dX9_exchangeBlocks_89 : decode cX9_exchangeBlocks 89 = .ok (.invokevirtual 184, 3) := by decide +kernel
theorem dX9_exchangeBlocks_92 : decode cX9_exchangeBlocks 92 = .ok (.istore 7, 2) := by decide +kernel
theorem dX9_exchangeBlocks_94 : decode cX9_exchangeBlocks 94 = .ok (.iload 7, 2) := by decide +kernel
theorem dX9_exchangeBlocks_96 : decode cX9_exchangeBlocks 96 = .ok (.ifCond .ne 39, 3) := by decide +kernel
theorem dX9_exchangeBlocks_99 : decode cX9_exchangeBlocks 99 = .ok (.aload_n 0, 1) := by decide +kernel
theorem dX9_exchangeBlocks_100 : decode cX9_exchangeBlocks 100 = .ok (.getfield 18, 3) := by decide +kernel
theorem dX9_exchangeBlocks_103 : decode cX9_exchangeBlocks 103 = .ok (.aload_n 1, 1) := by decide +kernel
theorem dX9_exchangeBlocks_104 : decode cX9_exchangeBlocks 104 = .ok (.getfield 61, 3) := by decide +kernel
theorem dX9_exchangeBlocks_107 : decode cX9_exchangeBlocks 107 = .ok (.iload 4, 2) := by decide +kernel
theorem dX9_exchangeBlocks_109 : decode cX9_exchangeBlocks 109 = .ok (.iload 6, 2) := by decide +kernel
theorem dX9_exchangeBlocks_111 : decode cX9_exchangeBlocks 111 = .ok (.invokevirtual 191, 3) := by decide +kernel
theorem dX9_exchangeBlocks_114 : decode cX9_exchangeBlocks 114 = .ok (.iload_n 3, 1) := by decide +kernel
theorem dX9_exchangeBlocks_115 : decode cX9_exchangeBlocks 115 = .ok (.ifCond .eq 18, 3) := by decide +kernel
theorem dX9_exchangeBlocks_118 : decode cX9_exchangeBlocks 118 = .ok (.aload_n 0, 1) := by decide +kernel
theorem dX9_exchangeBlocks_119 : decode cX9_exchangeBlocks 119 = .ok (.getfield 18, 3) := by decide +kernel
theorem dX9_exchangeBlocks_122 : decode cX9_exchangeBlocks 122 = .ok (.aload_n 1, 1) := by decide +kernel
theorem dX9_exchangeBlocks_123 : decode cX9_exchangeBlocks 123 = .ok (.getfield 133, 3) := by decide +kernel
theorem dX9_exchangeBlocks_126 : decode cX9_exchangeBlocks 126 = .ok (.iload 5, 2) := by decide +kernel
theorem dX9_exchangeBlocks_128 : decode cX9_exchangeBlocks 128 = .ok (.iload 6, 2) := by decide +kernel
theorem dX9_exchangeBlocks_130 : decode cX9_exchangeBlocks 130 = .ok (.invokevirtual 191, 3) := by decide +kernel
theorem dX9_exchangeBlocks_133 : decode cX9_exchangeBlocks 133 = .ok (.iconst 0, 1) := by decide +kernel
theorem dX9_exchangeBlocks_134 : decode cX9_exchangeBlocks 134 = .ok (.ireturn, 1) := by decide +kernel
theorem dX9_exchangeBlocks_135 : decode cX9_exchangeBlocks 135 = .ok (.iload 6, 2) := by decide +kernel
theorem dX9_exchangeBlocks_137 : decode cX9_exchangeBlocks 137 = .ok (.iload_n 2, 1) := by decide +kernel
theorem dX9_exchangeBlocks_138 : decode cX9_exchangeBlocks 138 = .ok (.invokestatic 175, 3) := by decide +kernel
theorem dX9_exchangeBlocks_141 : decode cX9_exchangeBlocks 141 = .ok (.istore 8, 2) := by decide +kernel
theorem dX9_exchangeBlocks_143 : decode cX9_exchangeBlocks 143 = .ok (.aload_n 0, 1) := by decide +kernel
theorem dX9_exchangeBlocks_144 : decode cX9_exchangeBlocks 144 = .ok (.getfield 18, 3) := by decide +kernel
theorem dX9_exchangeBlocks_147 : decode cX9_exchangeBlocks 147 = .ok (.iload 4, 2) := by decide +kernel
theorem dX9_exchangeBlocks_149 : decode cX9_exchangeBlocks 149 = .ok (.aload_n 1, 1) := by decide +kernel
theorem dX9_exchangeBlocks_150 : decode cX9_exchangeBlocks 150 = .ok (.getfield 61, 3) := by decide +kernel
theorem dX9_exchangeBlocks_153 : decode cX9_exchangeBlocks 153 = .ok (.getfield 65, 3) := by decide +kernel
theorem dX9_exchangeBlocks_156 : decode cX9_exchangeBlocks 156 = .ok (.iload 8, 2) := by decide +kernel
theorem dX9_exchangeBlocks_158 : decode cX9_exchangeBlocks 158 = .ok (.invokevirtual 195, 3) := by decide +kernel
theorem dX9_exchangeBlocks_161 : decode cX9_exchangeBlocks 161 = .ok (.aload_n 0, 1) := by decide +kernel
theorem dX9_exchangeBlocks_162 : decode cX9_exchangeBlocks 162 = .ok (.getfield 18, 3) := by decide +kernel
theorem dX9_exchangeBlocks_165 : decode cX9_exchangeBlocks 165 = .ok (.aload_n 1, 1) := by decide +kernel
theorem dX9_exchangeBlocks_166 : decode cX9_exchangeBlocks 166 = .ok (.getfield 61, 3) := by decide +kernel
theorem dX9_exchangeBlocks_169 : decode cX9_exchangeBlocks 169 = .ok (.getfield 65, 3) := by decide +kernel
theorem dX9_exchangeBlocks_172 : decode cX9_exchangeBlocks 172 = .ok (.iload 8, 2) := by decide +kernel
theorem dX9_exchangeBlocks_174 : decode cX9_exchangeBlocks 174 = .ok (.iadd, 1) := by decide +kernel
theorem dX9_exchangeBlocks_175 : decode cX9_exchangeBlocks 175 = .ok (.iload_n 2, 1) := by decide +kernel
theorem dX9_exchangeBlocks_176 : decode cX9_exchangeBlocks 176 = .ok (.iload 8, 2) := by decide +kernel
theorem dX9_exchangeBlocks_178 : decode cX9_exchangeBlocks 178 = .ok (.isub, 1) := by decide +kernel
theorem dX9_exchangeBlocks_179 : decode cX9_exchangeBlocks 179 = .ok (.invokevirtual 70, 3) := by decide +kernel
theorem dX9_exchangeBlocks_182 : decode cX9_exchangeBlocks 182 = .ok (.iconst 1, 1) := by decide +kernel
theorem dX9_exchangeBlocks_183 : decode cX9_exchangeBlocks 183 = .ok (.ireturn, 1) := by decide +kernel
theorem dX9_sortingOf_0 : decode cX9_sortingOf 0 = .ok (.aload_n 1, 1) := by decide +kernel
theorem dX9_sortingOf_1 : decode cX9_sortingOf 1 = .ok (.getfield 142, 3) := by decide +kernel
theorem dX9_sortingOf_4 : decode cX9_sortingOf 4 = .ok (.tableswitch 114 1 4 #[32, 48, 68, 94], 32) := by decide +kernel
theorem dX9_sortingOf_36 : decode cX9_sortingOf 36 = .ok (.new 198, 3) := by decide +kernel
theorem dX9_sortingOf_39 : decode cX9_sortingOf 39 = .ok (.dup, 1) := by decide +kernel
theorem dX9_sortingOf_40 : decode cX9_sortingOf 40 = .ok (.aload_n 0, 1) := by decide +kernel
theorem dX9_sortingOf_41 : decode cX9_sortingOf 41 = .ok (.getfield 18, 3) := by decide +kernel
theorem dX9_sortingOf_44 : decode cX9_sortingOf 44 = .ok (.aload_n 1, 1) := by decide +kernel
theorem dX9_sortingOf_45 : decode cX9_sortingOf 45 = .ok (.getfield 61, 3) := by decide +kernel
theorem dX9_sortingOf_48 : decode cX9_sortingOf 48 = .ok (.invokespecial 200, 3) := by decide +kernel
theorem dX9_sortingOf_51 : decode cX9_sortingOf 51 = .ok (.areturn, 1) := by decide +kernel
theorem dX9_sortingOf_52 : decode cX9_sortingOf 52 = .ok (.new 203, 3) := by decide +kernel
theorem dX9_sortingOf_55 : decode cX9_sortingOf 55 = .ok (.dup, 1) := by decide +kernel
theorem dX9_sortingOf_56 : decode cX9_sortingOf 56 = .ok (.aload_n 0, 1) := by decide +kernel
theorem dX9_sortingOf_57 : decode cX9_sortingOf 57 = .ok (.getfield 18, 3) := by decide +kernel
theorem dX9_sortingOf_60 : decode cX9_sortingOf 60 = .ok (.aload_n 1, 1) := by decide +kernel
theorem dX9_sortingOf_61 : decode cX9_sortingOf 61 = .ok (.getfield 61, 3) := by decide +kernel
theorem dX9_sortingOf_64 : decode cX9_sortingOf 64 = .ok (.aload_n 1, 1) := by decide +kernel
theorem dX9_sortingOf_65 : decode cX9_sortingOf 65 = .ok (.getfield 133, 3) := by decide +kernel
theorem dX9_sortingOf_68 : decode cX9_sortingOf 68 = .ok (.invokespecial 205, 3) := by decide +kernel
theorem dX9_sortingOf_71 : decode cX9_sortingOf 71 = .ok (.areturn, 1) := by decide +kernel
theorem dX9_sortingOf_72 : decode cX9_sortingOf 72 = .ok (.new 208, 3) := by decide +kernel
theorem dX9_sortingOf_75 : decode cX9_sortingOf 75 = .ok (.dup, 1) := by decide +kernel
theorem dX9_sortingOf_76 : decode cX9_sortingOf 76 = .ok (.aload_n 0, 1) := by decide +kernel
theorem dX9_sortingOf_77 : decode cX9_sortingOf 77 = .ok (.getfield 18, 3) := by decide +kernel
theorem dX9_sortingOf_80 : decode cX9_sortingOf 80 = .ok (.aload_n 1, 1) := by decide +kernel
theorem dX9_sortingOf_81 : decode cX9_sortingOf 81 = .ok (.getfield 61, 3) := by decide +kernel
theorem dX9_sortingOf_84 : decode cX9_sortingOf 84 = .ok (.aload_n 1, 1) := by decide +kernel
theorem dX9_sortingOf_85 : decode cX9_sortingOf 85 = .ok (.getfield 61, 3) := by decide +kernel
theorem dX9_sortingOf_88 : decode cX9_sortingOf 88 = .ok (.getfield 139, 3) := by decide +kernel
theorem dX9_sortingOf_91 : decode cX9_sortingOf 91 = .ok (.invokestatic 210, 3) := by decide +kernel
theorem dX9_sortingOf_94 : decode cX9_sortingOf 94 = .ok (.invokespecial 213, 3) := by decide +kernel
theorem dX9_sortingOf_97 : decode cX9_sortingOf 97 = .ok (.areturn, 1) := by decide +kernel
theorem dX9_sortingOf_98 : decode cX9_sortingOf 98 = .ok (.new 216, 3) := by decide +kernel
theorem dX9_sortingOf_101 : decode cX9_sortingOf 101 = .ok (.dup, 1) := by decide +kernel
theorem dX9_sortingOf_102 : decode cX9_sortingOf 102 = .ok (.aload_n 0, 1) := by decide +kernel
theorem dX9_sortingOf_103 : decode cX9_sortingOf 103 = .ok (.getfield 18, 3) := by decide +kernel
theorem dX9_sortingOf_106 : decode cX9_sortingOf 106 = .ok (.aload_n 1, 1) := by decide +kernel
theorem dX9_sortingOf_107 : decode cX9_sortingOf 107 = .ok (.getfield 61, 3) := by decide +kernel
theorem dX9_sortingOf_110 : decode cX9_sortingOf 110 = .ok (.aload_n 1, 1) := by decide +kernel
theorem dX9_sortingOf_111 : decode cX9_sortingOf 111 = .ok (.getfield 133, 3) := by decide +kernel
theorem dX9_sortingOf_114 : decode cX9_sortingOf 114 = .ok (.invokespecial 218, 3) := by decide +kernel
theorem dX9_sortingOf_117 : decode cX9_sortingOf 117 = .ok (.areturn, 1) := by decide +kernel
theorem dX9_sortingOf_118 : decode cX9_sortingOf 118 = .ok (.new 208, 3) := by decide +kernel
theorem dX9_sortingOf_121 : decode cX9_sortingOf 121 = .ok (.dup, 1) := by decide +kernel
theorem dX9_sortingOf_122 : decode cX9_sortingOf 122 = .ok (.aload_n 0, 1) := by decide +kernel
theorem dX9_sortingOf_123 : decode cX9_sortingOf 123 = .ok (.getfield 18, 3) := by decide +kernel
theorem dX9_sortingOf_126 : decode cX9_sortingOf 126 = .ok (.aload_n 1, 1) := by decide +kernel
theorem dX9_sortingOf_127 : decode cX9_sortingOf 127 = .ok (.getfield 61, 3) := by decide +kernel
theorem dX9_sortingOf_130 : decode cX9_sortingOf 130 = .ok (.iconst 1, 1) := by decide +kernel
theorem dX9_sortingOf_131 : decode cX9_sortingOf 131 = .ok (.invokespecial 213, 3) := by decide +kernel
theorem dX9_sortingOf_134 : decode cX9_sortingOf 134 = .ok (.areturn, 1) := by decide +kernel
theorem dX9_greatestGapBelow_0 : decode cX9_greatestGapBelow 0 = .ok (.iconst 1, 1) := by decide +kernel
theorem dX9_greatestGapBelow_1 : decode cX9_greatestGapBelow 1 = .ok (.istore_n 1, 1) := by decide +kernel
theorem dX9_greatestGapBelow_2 : decode cX9_greatestGapBelow 2 = .ok (.iload_n 1, 1) := by decide +kernel
theorem dX9_greatestGapBelow_3 : decode cX9_greatestGapBelow 3 = .ok (.sipush 1000, 3) := by decide +kernel
theorem dX9_greatestGapBelow_6 : decode cX9_greatestGapBelow 6 = .ok (.if_icmp .ge 21, 3) := by decide +kernel
theorem dX9_greatestGapBelow_9 : decode cX9_greatestGapBelow 9 = .ok (.iconst 3, 1) := by decide +kernel
theorem dX9_greatestGapBelow_10 : decode cX9_greatestGapBelow 10 = .ok (.iload_n 1, 1) := by decide +kernel
theorem dX9_greatestGapBelow_11 : decode cX9_greatestGapBelow 11 = .ok (.imul, 1) := by decide +kernel
theorem dX9_greatestGapBelow_12 : decode cX9_greatestGapBelow 12 = .ok (.iconst 1, 1) := by decide +kernel
theorem dX9_greatestGapBelow_13 : decode cX9_greatestGapBelow 13 = .ok (.iadd, 1) := by decide +kernel
theorem dX9_greatestGapBelow_14 : decode cX9_greatestGapBelow 14 = .ok (.iload_n 0, 1) := by decide +kernel
theorem dX9_greatestGapBelow_15 : decode cX9_greatestGapBelow 15 = .ok (.if_icmp .ge 12, 3) := by decide +kernel
theorem dX9_greatestGapBelow_18 : decode cX9_greatestGapBelow 18 = .ok (.iconst 3, 1) := by decide +kernel
theorem dX9_greatestGapBelow_19 : decode cX9_greatestGapBelow 19 = .ok (.iload_n 1, 1) := by decide +kernel
theorem dX9_greatestGapBelow_20 : decode cX9_greatestGapBelow 20 = .ok (.imul, 1) := by decide +kernel
theorem dX9_greatestGapBelow_21 : decode cX9_greatestGapBelow 21 = .ok (.iconst 1, 1) := by decide +kernel
theorem dX9_greatestGapBelow_22 : decode cX9_greatestGapBelow 22 = .ok (.iadd, 1) := by decide +kernel
theorem dX9_greatestGapBelow_23 : decode cX9_greatestGapBelow 23 = .ok (.istore_n 1, 1) := by decide +kernel
theorem dX9_greatestGapBelow_24 : decode cX9_greatestGapBelow 24 = .ok (.goto (-22), 3) := by decide +kernel
theorem dX9_greatestGapBelow_27 : decode cX9_greatestGapBelow 27 = .ok (.iload_n 1, 1) := by decide +kernel
theorem dX9_greatestGapBelow_28 : decode cX9_greatestGapBelow 28 = .ok (.ireturn, 1) := by decide +kernel
theorem dX9_takeTurn_0 : decode cX9_takeTurn 0 = .ok (.aload_n 0, 1) := by decide +kernel
theorem dX9_takeTurn_1 : decode cX9_takeTurn 1 = .ok (.dup, 1) := by decide +kernel
theorem dX9_takeTurn_2 : decode cX9_takeTurn 2 = .ok (.getfield 90, 3) := by decide +kernel
theorem dX9_takeTurn_5 : decode cX9_takeTurn 5 = .ok (.iconst 1, 1) := by decide +kernel
theorem dX9_takeTurn_6 : decode cX9_takeTurn 6 = .ok (.iadd, 1) := by decide +kernel
theorem dX9_takeTurn_7 : decode cX9_takeTurn 7 = .ok (.putfield 90, 3) := by decide +kernel
theorem dX9_takeTurn_10 : decode cX9_takeTurn 10 = .ok (.aload_n 0, 1) := by decide +kernel
theorem dX9_takeTurn_11 : decode cX9_takeTurn 11 = .ok (.getfield 31, 3) := by decide +kernel
theorem dX9_takeTurn_14 : decode cX9_takeTurn 14 = .ok (.getfield 116, 3) := by decide +kernel
theorem dX9_takeTurn_17 : decode cX9_takeTurn 17 = .ok (.astore_n 1, 1) := by decide +kernel
theorem dX9_takeTurn_18 : decode cX9_takeTurn 18 = .ok (.aload_n 1, 1) := by decide +kernel
theorem dX9_takeTurn_19 : decode cX9_takeTurn 19 = .ok (.ifnonnull 5, 3) := by decide +kernel
theorem dX9_takeTurn_22 : decode cX9_takeTurn 22 = .ok (.iconst (-1), 1) := by decide +kernel
theorem dX9_takeTurn_23 : decode cX9_takeTurn 23 = .ok (.ireturn, 1) := by decide +kernel
theorem dX9_takeTurn_24 : decode cX9_takeTurn 24 = .ok (.aload_n 0, 1) := by decide +kernel
theorem dX9_takeTurn_25 : decode cX9_takeTurn 25 = .ok (.getfield 31, 3) := by decide +kernel
theorem dX9_takeTurn_28 : decode cX9_takeTurn 28 = .ok (.aload_n 1, 1) := by decide +kernel
theorem dX9_takeTurn_29 : decode cX9_takeTurn 29 = .ok (.invokevirtual 123, 3) := by decide +kernel
theorem dX9_takeTurn_32 : decode cX9_takeTurn 32 = .ok (.aload_n 0, 1) := by decide +kernel
theorem dX9_takeTurn_33 : decode cX9_takeTurn 33 = .ok (.dup, 1) := by decide +kernel
theorem dX9_takeTurn_34 : decode cX9_takeTurn 34 = .ok (.getfield 170, 3) := by decide +kernel
theorem dX9_takeTurn_37 : decode cX9_takeTurn 37 = .ok (.aload_n 1, 1) := by decide +kernel
theorem dX9_takeTurn_38 : decode cX9_takeTurn 38 = .ok (.aload_n 0, 1) := by decide +kernel
theorem dX9_takeTurn_39 : decode cX9_takeTurn 39 = .ok (.getfield 35, 3) := by decide +kernel
theorem dX9_takeTurn_42 : decode cX9_takeTurn 42 = .ok (.invokevirtual 219, 3) := by decide +kernel
theorem dX9_takeTurn_45 : decode cX9_takeTurn 45 = .ok (.iadd, 1) := by decide +kernel
theorem dX9_takeTurn_46 : decode cX9_takeTurn 46 = .ok (.putfield 170, 3) := by decide +kernel
theorem dX9_takeTurn_49 : decode cX9_takeTurn 49 = .ok (.aload_n 1, 1) := by decide +kernel
theorem dX9_takeTurn_50 : decode cX9_takeTurn 50 = .ok (.invokevirtual 222, 3) := by decide +kernel
theorem dX9_takeTurn_53 : decode cX9_takeTurn 53 = .ok (.ifCond .eq 19, 3) := by decide +kernel
theorem dX9_takeTurn_56 : decode cX9_takeTurn 56 = .ok (.aload_n 1, 1) := by decide +kernel
theorem dX9_takeTurn_57 : decode cX9_takeTurn 57 = .ok (.iconst 3, 1) := by decide +kernel
theorem dX9_takeTurn_58 : decode cX9_takeTurn 58 = .ok (.putfield 78, 3) := by decide +kernel
theorem dX9_takeTurn_61 : decode cX9_takeTurn 61 = .ok (.aload_n 1, 1) := by decide +kernel
theorem dX9_takeTurn_62 : decode cX9_takeTurn 62 = .ok (.aload_n 0, 1) := by decide +kernel
theorem dX9_takeTurn_63 : decode cX9_takeTurn 63 = .ok (.getfield 90, 3) := by decide +kernel
theorem dX9_takeTurn_66 : decode cX9_takeTurn 66 = .ok (.putfield 152, 3) := by decide +kernel
theorem dX9_takeTurn_69 : decode cX9_takeTurn 69 = .ok (.goto 11, 3) := by decide +kernel
theorem dX9_takeTurn_72 : decode cX9_takeTurn 72 = .ok (.aload_n 0, 1) := by decide +kernel
theorem dX9_takeTurn_73 : decode cX9_takeTurn 73 = .ok (.getfield 31, 3) := by decide +kernel
theorem dX9_takeTurn_76 : decode cX9_takeTurn 76 = .ok (.aload_n 1, 1) := by decide +kernel
theorem dX9_takeTurn_77 : decode cX9_takeTurn 77 = .ok (.invokevirtual 109, 3) := by decide +kernel
theorem dX9_takeTurn_80 : decode cX9_takeTurn 80 = .ok (.aload_n 1, 1) := by decide +kernel
theorem dX9_takeTurn_81 : decode cX9_takeTurn 81 = .ok (.getfield 226, 3) := by decide +kernel
theorem dX9_takeTurn_84 : decode cX9_takeTurn 84 = .ok (.ireturn, 1) := by decide +kernel
theorem dX10_init_0 : decode cX10_init 0 = .ok (.aload_n 0, 1) := by decide +kernel
theorem dX10_init_1 : decode cX10_init 1 = .ok (.invokespecial 1, 3) := by decide +kernel
theorem dX10_init_4 : decode cX10_init 4 = .ok (.aload_n 0, 1) := by decide +kernel
theorem dX10_init_5 : decode cX10_init 5 = .ok (.bipush 24, 2) := by decide +kernel
theorem dX10_init_7 : decode cX10_init 7 = .ok (.newarray .int, 2) := by decide +kernel
theorem dX10_init_9 : decode cX10_init 9 = .ok (.putfield 9, 3) := by decide +kernel
theorem dX10_init_12 : decode cX10_init 12 = .ok (.aload_n 0, 1) := by decide +kernel
theorem dX10_init_13 : decode cX10_init 13 = .ok (.bipush 24, 2) := by decide +kernel
theorem dX10_init_15 : decode cX10_init 15 = .ok (.newarray .int, 2) := by decide +kernel
theorem dX10_init_17 : decode cX10_init 17 = .ok (.putfield 13, 3) := by decide +kernel
theorem dX10_init_20 : decode cX10_init 20 = .ok (.aload_n 0, 1) := by decide +kernel
theorem dX10_init_21 : decode cX10_init 21 = .ok (.bipush 24, 2) := by decide +kernel
theorem dX10_init_23 : decode cX10_init 23 = .ok (.newarray .int, 2) := by decide +kernel
theorem dX10_init_25 : decode cX10_init 25 = .ok (.putfield 16, 3) := by decide +kernel
theorem dX10_init_28 : decode cX10_init 28 = .ok (.aload_n 0, 1) := by decide +kernel
theorem dX10_init_29 : decode cX10_init 29 = .ok (.bipush 24, 2) := by decide +kernel
theorem dX10_init_31 : decode cX10_init 31 = .ok (.newarray .int, 2) := by decide +kernel
theorem dX10_init_33 : decode cX10_init 33 = .ok (.putfield 19, 3) := by decide +kernel
theorem dX10_init_36 : decode cX10_init 36 = .ok (.aload_n 0, 1) := by decide +kernel
theorem dX10_init_37 : decode cX10_init 37 = .ok (.bipush 24, 2) := by decide +kernel
theorem dX10_init_39 : decode cX10_init 39 = .ok (.newarray .int, 2) := by decide +kernel
theorem dX10_init_41 : decode cX10_init 41 = .ok (.putfield 22, 3) := by decide +kernel
theorem dX10_init_44 : decode cX10_init 44 = .ok (.aload_n 0, 1) := by decide +kernel
theorem dX10_init_45 : decode cX10_init 45 = .ok (.bipush 24, 2) := by decide +kernel
theorem dX10_init_47 : decode cX10_init 47 = .ok (.newarray .int, 2) := by decide +kernel
theorem dX10_init_49 : decode cX10_init 49 = .ok (.putfield 25, 3) := by decide +kernel
theorem dX10_init_52 : decode cX10_init 52 = .ok (.aload_n 0, 1) := by decide +kernel
theorem dX10_init_53 : decode cX10_init 53 = .ok (.bipush 24, 2) := by decide +kernel
theorem dX10_init_55 : decode cX10_init 55 = .ok (.newarray .int, 2) := by decide +kernel
theorem dX10_init_57 : decode cX10_init 57 = .ok (.putfield 28, 3) := by decide +kernel
theorem dX10_init_60 : decode cX10_init 60 = .ok (.aload_n 0, 1) := by decide +kernel
theorem dX10_init_61 : decode cX10_init 61 = .ok (.bipush 24, 2) := by decide +kernel
theorem dX10_init_63 : decode cX10_init 63 = .ok (.newarray .int, 2) := by decide +kernel
theorem dX10_init_65 : decode cX10_init 65 = .ok (.putfield 31, 3) := by decide +kernel
theorem dX10_init_68 : decode cX10_init 68 = .ok (.aload_n 0, 1) := by decide +kernel
theorem dX10_init_69 : decode cX10_init 69 = .ok (.bipush 24, 2) := by decide +kernel
theorem dX10_init_71 : decode cX10_init 71 = .ok (.newarray .int, 2) := by decide +kernel
theorem dX10_init_73 : decode cX10_init 73 = .ok (.putfield 34, 3) := by decide +kernel
theorem dX10_init_76 : decode cX10_init 76 = .ok (.aload_n 0, 1) := by decide +kernel
theorem dX10_init_77 : decode cX10_init 77 = .ok (.bipush 24, 2) := by decide +kernel
theorem dX10_init_79 : decode cX10_init 79 = .ok (.newarray .int, 2) := by decide +kernel
theorem dX10_init_81 : decode cX10_init 81 = .ok (.putfield 37, 3) := by decide +kernel
theorem dX10_init_84 : decode cX10_init 84 = .ok (.aload_n 0, 1) := by decide +kernel
theorem dX10_init_85 : decode cX10_init 85 = .ok (.bipush 24, 2) := by decide +kernel
theorem dX10_init_87 : decode cX10_init 87 = .ok (.newarray .boolean, 2) := by decide +kernel
theorem dX10_init_89 : decode cX10_init 89 = .ok (.putfield 40, 3) := by decide +kernel
theorem dX10_init_92 : decode cX10_init 92 = .ok (.aload_n 0, 1) := by decide +kernel
theorem dX10_init_93 : decode cX10_init 93 = .ok (.sipush 1000, 3) := by decide +kernel
theorem dX10_init_96 : decode cX10_init 96 = .ok (.newarray .int, 2) := by decide +kernel
theorem dX10_init_98 : decode cX10_init 98 = .ok (.putfield 44, 3) := by decide +kernel
theorem dX10_init_101 : decode cX10_init 101 = .ok (.aload_n 0, 1) := by decide +kernel
theorem dX10_init_102 : decode cX10_init 102 = .ok (.sipush 240, 3) := by decide +kernel
theorem dX10_init_105 : decode cX10_init 105 = .ok (.newarray .int, 2) := by decide +kernel
theorem dX10_init_107 : decode cX10_init 107 = .ok (.putfield 47, 3) := by decide +kernel
theorem dX10_init_110 : decode cX10_init 110 = .ok (.aload_n 0, 1) := by decide +kernel
theorem dX10_init_111 : decode cX10_init 111 = .ok (.bipush 8, 2) := by decide +kernel
theorem dX10_init_113 : decode cX10_init 113 = .ok (.sipush 3000, 3) := by decide +kernel
theorem dX10_init_116 : decode cX10_init 116 = .ok (.iload_n 1, 1) := by decide +kernel
theorem dX10_init_117 : decode cX10_init 117 = .ok (.invokestatic 50, 3) := by decide +kernel
theorem dX10_init_120 : decode cX10_init 120 = .ok (.invokestatic 56, 3) := by decide +kernel
theorem dX10_init_123 : decode cX10_init 123 = .ok (.putfield 59, 3) := by decide +kernel
theorem dX10_init_126 : decode cX10_init 126 = .ok (.aload_n 0, 1) := by decide +kernel
theorem dX10_init_127 : decode cX10_init 127 = .ok (.iconst 1, 1) := by decide +kernel
theorem dX10_init_128 : decode cX10_init 128 = .ok (.bipush 24, 2) := by decide +kernel
theorem dX10_init_130 : decode cX10_init 130 = .ok (.iload_n 2, 1) := by decide +kernel
theorem dX10_init_131 : decode cX10_init 131 = .ok (.invokestatic 50, 3) := by decide +kernel
theorem dX10_init_134 : decode cX10_init 134 = .ok (.invokestatic 56, 3) := by decide +kernel
theorem dX10_init_137 : decode cX10_init 137 = .ok (.putfield 63, 3) := by decide +kernel
theorem dX10_init_140 : decode cX10_init 140 = .ok (.aload_n 0, 1) := by decide +kernel
theorem dX10_init_141 : decode cX10_init 141 = .ok (.iconst 1, 1) := by decide +kernel
theorem dX10_init_142 : decode cX10_init 142 = .ok (.sipush 200, 3) := by decide +kernel
theorem dX10_init_145 : decode cX10_init 145 = .ok (.iload_n 3, 1) := by decide +kernel
theorem dX10_init_146 : decode cX10_init 146 = .ok (.invokestatic 50, 3) := by decide +kernel
theorem dX10_init_149 : decode cX10_init 149 = .ok (.invokestatic 56, 3) := by decide +kernel
theorem dX10_init_152 : decode cX10_init 152 = .ok (.putfield 66, 3) := by decide +kernel
theorem dX10_init_155 : decode cX10_init 155 = .ok (.aload_n 0, 1) := by decide +kernel
theorem dX10_init_156 : decode cX10_init 156 = .ok (.aload_n 0, 1) := by decide +kernel
theorem dX10_init_157 : decode cX10_init 157 = .ok (.getfield 59, 3) := by decide +kernel
theorem dX10_init_160 : decode cX10_init 160 = .ok (.newarray .int, 2) := by decide +kernel
theorem dX10_init_162 : decode cX10_init 162 = .ok (.putfield 69, 3) := by decide +kernel
theorem dX10_init_165 : decode cX10_init 165 = .ok (.return_, 1) := by decide +kernel
theorem dX10_bufferSize_0 : decode cX10_bufferSize 0 = .ok (.aload_n 0, 1) := by decide +kernel
theorem dX10_bufferSize_1 : decode cX10_bufferSize 1 = .ok (.getfield 16, 3) := by decide +kernel
theorem dX10_bufferSize_4 : decode cX10_bufferSize 4 = .ok (.iload_n 1, 1) := by decide +kernel
theorem dX10_bufferSize_5 : decode cX10_bufferSize 5 = .ok (.iaload, 1) := by decide +kernel
theorem dX10_bufferSize_6 : decode cX10_bufferSize 6 = .ok (.iconst 2, 1) := by decide +kernel
theorem dX10_bufferSize_7 : decode cX10_bufferSize 7 = .ok (.if_icmp .ne 12, 3) := by decide +kernel
theorem dX10_bufferSize_10 : decode cX10_bufferSize 10 = .ok (.aload_n 0, 1) := by decide +kernel
theorem dX10_bufferSize_11 : decode cX10_bufferSize 11 = .ok (.getfield 13, 3) := by decide +kernel
theorem dX10_bufferSize_14 : decode cX10_bufferSize 14 = .ok (.iload_n 1, 1) := by decide +kernel
theorem dX10_bufferSize_15 : decode cX10_bufferSize 15 = .ok (.iaload, 1) := by decide +kernel
theorem dX10_bufferSize_16 : decode cX10_bufferSize 16 = .ok (.goto 19, 3) := by decide +kernel
theorem dX10_bufferSize_19 : decode cX10_bufferSize 19 = .ok (.aload_n 0, 1) := by decide +kernel
theorem dX10_bufferSize_20 : decode cX10_bufferSize 20 = .ok (.getfield 16, 3) := by decide +kernel
theorem dX10_bufferSize_23 : decode cX10_bufferSize 23 = .ok (.iload_n 1, 1) := by decide +kernel
theorem dX10_bufferSize_24 : decode cX10_bufferSize 24 = .ok (.iaload, 1) := by decide +kernel
theorem dX10_bufferSize_25 : decode cX10_bufferSize 25 = .ok (.iconst 4, 1) := by decide +kernel
theorem dX10_bufferSize_26 : decode cX10_bufferSize 26 = .ok (.if_icmp .ne 8, 3) := by decide +kernel
theorem dX10_bufferSize_29 : decode cX10_bufferSize 29 = .ok (.bipush 24, 2) := by decide +kernel
theorem dX10_bufferSize_31 : decode cX10_bufferSize 31 = .ok (.goto 4, 3) := by decide +kernel
theorem dX10_bufferSize_34 : decode cX10_bufferSize 34 = .ok (.iconst 0, 1) := by decide +kernel
theorem dX10_bufferSize_35 : decode cX10_bufferSize 35 = .ok (.ireturn, 1) := by decide +kernel
theorem dX10_has_0 : decode cX10_has 0 = .ok (.aload_n 0, 1) := by decide +kernel
theorem dX10_has_1 : decode cX10_has 1 = .ok (.getfield 9, 3) := by decide +kernel
theorem dX10_has_4 : decode cX10_has 4 = .ok (.iload_n 1, 1) := by decide +kernel
theorem dX10_has_5 : decode cX10_has 5 = .ok (.iaload, 1) := by decide +kernel
theorem dX10_has_6 : decode cX10_has 6 = .ok (.ifCond .eq 7, 3) := by decide +kernel
theorem dX10_has_9 : decode cX10_has 9 = .ok (.iconst 1, 1) := by decide +kernel
theorem dX10_has_10 : decode cX10_has 10 = .ok (.goto 4, 3) := by decide +kernel
theorem dX10_has_13 : decode cX10_has 13 = .ok (.iconst 0, 1) := by decide +kernel
theorem dX10_has_14 : decode cX10_has 14 = .ok (.ireturn, 1) := by decide +kernel
theorem dX10_nextFrom_0 : decode cX10_nextFrom 0 = .ok (.iconst (-1), 1) := by decide +kernel
theorem dX10_nextFrom_1 : decode cX10_nextFrom 1 = .ok (.istore_n 2, 1) := by decide +kernel
theorem dX10_nextFrom_2 : decode cX10_nextFrom 2 = .ok (.aload_n 0, 1) := by decide +kernel
theorem dX10_nextFrom_3 : decode cX10_nextFrom 3 = .ok (.getfield 59, 3) := by decide +kernel
theorem dX10_nextFrom_6 : decode cX10_nextFrom 6 = .ok (.istore_n 3, 1) := by decide +kernel
theorem dX10_nextFrom_7 : decode cX10_nextFrom 7 = .ok (.iconst 0, 1) := by decide +kernel
theorem dX10_nextFrom_8 : decode cX10_nextFrom 8 = .ok (.istore 4, 2) := by decide +kernel
theorem dX10_nextFrom_10 : decode cX10_nextFrom 10 = .ok (.iload 4, 2) := by decide +kernel
theorem dX10_nextFrom_12 : decode cX10_nextFrom 12 = .ok (.bipush 24, 2) := by decide +kernel
theorem dX10_nextFrom_14 : decode cX10_nextFrom 14 = .ok (.if_icmp .ge 90, 3) := by decide +kernel
theorem dX10_nextFrom_17 : decode cX10_nextFrom 17 = .ok (.aload_n 0, 1) := by decide +kernel
theorem dX10_nextFrom_18 : decode cX10_nextFrom 18 = .ok (.iload 4, 2) := by decide +kernel
theorem dX10_nextFrom_20 : decode cX10_nextFrom 20 = .ok (.invokevirtual 72, 3) := by decide +kernel
theorem dX10_nextFrom_23 : decode cX10_nextFrom 23 = .ok (.ifCond .ne 6, 3) := by decide +kernel
theorem dX10_nextFrom_26 : decode cX10_nextFrom 26 = .ok (.goto 72, 3) := by decide +kernel
theorem dX10_nextFrom_29 : decode cX10_nextFrom 29 = .ok (.aload_n 0, 1) := by decide +kernel
theorem dX10_nextFrom_30 : decode cX10_nextFrom 30 = .ok (.getfield 25, 3) := by decide +kernel
theorem dX10_nextFrom_33 : decode cX10_nextFrom 33 = .ok (.iload 4, 2) := by decide +kernel
theorem dX10_nextFrom_35 : decode cX10_nextFrom 35 = .ok (.iaload, 1) := by decide +kernel
theorem dX10_nextFrom_36 : decode cX10_nextFrom 36 = .ok (.iload_n 1, 1) := by decide +kernel
theorem dX10_nextFrom_37 : decode cX10_nextFrom 37 = .ok (.if_icmp .lt 25, 3) := by decide +kernel
theorem dX10_nextFrom_40 : decode cX10_nextFrom 40 = .ok (.aload_n 0, 1) := by decide +kernel
theorem dX10_nextFrom_41 : decode cX10_nextFrom 41 = .ok (.getfield 25, 3) := by decide +kernel
theorem dX10_nextFrom_44 : decode cX10_nextFrom 44 = .ok (.iload 4, 2) := by decide +kernel
theorem dX10_nextFrom_46 : decode cX10_nextFrom 46 = .ok (.iaload, 1) := by decide +kernel
theorem dX10_nextFrom_47 : decode cX10_nextFrom 47 = .ok (.iload_n 3, 1) := by decide +kernel
theorem dX10_nextFrom_48 : decode cX10_nextFrom 48 = .ok (.if_icmp .ge 14, 3) := by decide +kernel
theorem dX10_nextFrom_51 : decode cX10_nextFrom 51 = .ok (.aload_n 0, 1) := by decide +kernel
theorem dX10_nextFrom_52 : decode cX10_nextFrom 52 = .ok (.getfield 25, 3) := by decide +kernel
theorem dX10_nextFrom_55 : decode cX10_nextFrom 55 = .ok (.iload 4, 2) := by decide +kernel
theorem dX10_nextFrom_57 : decode cX10_nextFrom 57 = .ok (.iaload, 1) := by decide +kernel
theorem dX10_nextFrom_58 : decode cX10_nextFrom 58 = .ok (.istore_n 3, 1) := by decide +kernel
theorem dX10_nextFrom_59 : decode cX10_nextFrom 59 = .ok (.iload 4, 2) := by decide +kernel
theorem dX10_nextFrom_61 : decode cX10_nextFrom 61 = .ok (.istore_n 2, 1) := by decide +kernel
theorem dX10_nextFrom_62 : decode cX10_nextFrom 62 = .ok (.aload_n 0, 1) := by decide +kernel
theorem dX10_nextFrom_63 : decode cX10_nextFrom 63 = .ok (.getfield 28, 3) := by decide +kernel
theorem dX10_nextFrom_66 : decode cX10_nextFrom 66 = .ok (.iload 4, 2) := by decide +kernel
theorem dX10_nextFrom_68 : decode cX10_nextFrom 68 = .ok (.iaload, 1) := by decide +kernel
theorem dX10_nextFrom_69 : decode cX10_nextFrom 69 = .ok (.iload_n 1, 1) := by decide +kernel
theorem dX10_nextFrom_70 : decode cX10_nextFrom 70 = .ok (.if_icmp .lt 28, 3) := by decide +kernel
theorem dX10_nextFrom_73 : decode cX10_nextFrom 73 = .ok (.aload_n 0, 1) := by decide +kernel
theorem dX10_nextFrom_74 : decode cX10_nextFrom 74 = .ok (.getfield 28, 3) := by decide +kernel
theorem dX10_nextFrom_77 : decode cX10_nextFrom 77 = .ok (.iload 4, 2) := by decide +kernel
theorem dX10_nextFrom_79 : decode cX10_nextFrom 79 = .ok (.iaload, 1) := by decide +kernel
theorem dX10_nextFrom_80 : decode cX10_nextFrom 80 = .ok (.iload_n 3, 1) := by decide +kernel
theorem dX10_nextFrom_81 : decode cX10_nextFrom 81 = .ok (.if_icmp .ge 17, 3) := by decide +kernel
theorem dX10_nextFrom_84 : decode cX10_nextFrom 84 = .ok (.aload_n 0, 1) := by decide +kernel
theorem dX10_nextFrom_85 : decode cX10_nextFrom 85 = .ok (.getfield 28, 3) := by decide +kernel
theorem dX10_nextFrom_88 : decode cX10_nextFrom 88 = .ok (.iload 4, 2) := by decide +kernel
theorem dX10_nextFrom_90 : decode cX10_nextFrom 90 = .ok (.iaload, 1) := by decide +kernel
theorem dX10_nextFrom_91 : decode cX10_nextFrom 91 = .ok (.istore_n 3, 1) := by decide +kernel
theorem dX10_nextFrom_92 : decode cX10_nextFrom 92 = .ok (.bipush 100, 2) := by decide +kernel
theorem dX10_nextFrom_94 : decode cX10_nextFrom 94 = .ok (.iload 4, 2) := by decide +kernel
theorem dX10_nextFrom_96 : decode cX10_nextFrom 96 = .ok (.iadd, 1) := by decide +kernel
theorem dX10_nextFrom_97 : decode cX10_nextFrom 97 = .ok (.istore_n 2, 1) := by decide +kernel
theorem dX10_nextFrom_98 : decode cX10_nextFrom 98 = .ok (.iinc 4 1, 3) := by decide +kernel
theorem dX10_nextFrom_101 : decode cX10_nextFrom 101 = .ok (.goto (-91), 3) := by decide +kernel
theorem dX10_nextFrom_104 : decode cX10_nextFrom 104 = .ok (.iload_n 2, 1) := by decide +kernel
theorem dX10_nextFrom_105 : decode cX10_nextFrom 105 = .ok (.ireturn, 1) := by decide +kernel
theorem dX10_beginOf_0 : decode cX10_beginOf 0 = .ok (.iload_n 1, 1) := by decide +kernel
theorem dX10_beginOf_1 : decode cX10_beginOf 1 = .ok (.bipush 100, 2) := by decide +kernel
theorem dX10_beginOf_3 : decode cX10_beginOf 3 = .ok (.if_icmp .lt 15, 3) := by decide +kernel
theorem dX10_beginOf_6 : decode cX10_beginOf 6 = .ok (.aload_n 0, 1) := by decide +kernel
theorem dX10_beginOf_7 : decode cX10_beginOf 7 = .ok (.getfield 28, 3) := by decide +kernel
theorem dX10_beginOf_10 : decode cX10_beginOf 10 = .ok (.iload_n 1, 1) := by decide +kernel
theorem dX10_beginOf_11 : decode cX10_beginOf 11 = .ok (.bipush 100, 2) := by decide +kernel
theorem dX10_beginOf_13 : decode cX10_beginOf 13 = .ok (.isub, 1) := by decide +kernel
theorem dX10_beginOf_14 : decode cX10_beginOf 14 = .ok (.iaload, 1) := by decide +kernel
theorem dX10_beginOf_15 : decode cX10_beginOf 15 = .ok (.goto 9, 3) := by decide +kernel
theorem dX10_beginOf_18 : decode cX10_beginOf 18 = .ok (.aload_n 0, 1) := by decide +kernel
theorem dX10_beginOf_19 : decode cX10_beginOf 19 = .ok (.getfield 25, 3) := by decide +kernel
theorem dX10_beginOf_22 : decode cX10_beginOf 22 = .ok (.iload_n 1, 1) := by decide +kernel
theorem dX10_beginOf_23 : decode cX10_beginOf 23 = .ok (.iaload, 1) := by decide +kernel
theorem dX10_beginOf_24 : decode cX10_beginOf 24 = .ok (.ireturn, 1) := by decide +kernel
theorem dX10_sizeOf_0 : decode cX10_sizeOf 0 = .ok (.iload_n 1, 1) := by decide +kernel
theorem dX10_sizeOf_1 : decode cX10_sizeOf 1 = .ok (.bipush 100, 2) := by decide +kernel
theorem dX10_sizeOf_3 : decode cX10_sizeOf 3 = .ok (.if_icmp .lt 14, 3) := by decide +kernel
theorem dX10_sizeOf_6 : decode cX10_sizeOf 6 = .ok (.aload_n 0, 1) := by decide +kernel
theorem dX10_sizeOf_7 : decode cX10_sizeOf 7 = .ok (.iload_n 1, 1) := by decide +kernel
theorem dX10_sizeOf_8 : decode cX10_sizeOf 8 = .ok (.bipush 100, 2) := by decide +kernel
theorem dX10_sizeOf_10 : decode cX10_sizeOf 10 = .ok (.isub, 1) := by decide +kernel
theorem dX10_sizeOf_11 : decode cX10_sizeOf 11 = .ok (.invokevirtual 76, 3) := by decide +kernel
theorem dX10_sizeOf_14 : decode cX10_sizeOf 14 = .ok (.goto 9, 3) := by decide +kernel
theorem dX10_sizeOf_17 : decode cX10_sizeOf 17 = .ok (.aload_n 0, 1) := by decide +kernel
theorem dX10_sizeOf_18 : decode cX10_sizeOf 18 = .ok (.getfield 13, 3) := by decide +kernel
theorem dX10_sizeOf_21 : decode cX10_sizeOf 21 = .ok (.iload_n 1, 1) := by decide +kernel
theorem dX10_sizeOf_22 : decode cX10_sizeOf 22 = .ok (.iaload, 1) := by decide +kernel
theorem dX10_sizeOf_23 : decode cX10_sizeOf 23 = .ok (.ireturn, 1) := by decide +kernel
theorem dX10_room_0 : decode cX10_room 0 = .ok (.iconst 0, 1) := by decide +kernel
theorem dX10_room_1 : decode cX10_room 1 = .ok (.istore_n 2, 1) := by decide +kernel
theorem dX10_room_2 : decode cX10_room 2 = .ok (.iload_n 2, 1) := by decide +kernel
theorem dX10_room_3 : decode cX10_room 3 = .ok (.aload_n 0, 1) := by decide +kernel
theorem dX10_room_4 : decode cX10_room 4 = .ok (.getfield 59, 3) := by decide +kernel
theorem dX10_room_7 : decode cX10_room 7 = .ok (.if_icmp .ge 57, 3) := by decide +kernel
theorem dX10_room_10 : decode cX10_room 10 = .ok (.aload_n 0, 1) := by decide +kernel
theorem dX10_room_11 : decode cX10_room 11 = .ok (.iload_n 2, 1) := by decide +kernel
theorem dX10_room_12 : decode cX10_room 12 = .ok (.invokevirtual 80, 3) := by decide +kernel
theorem dX10_room_15 : decode cX10_room 15 = .ok (.istore_n 3, 1) := by decide +kernel
theorem dX10_room_16 : decode cX10_room 16 = .ok (.iload_n 3, 1) := by decide +kernel
theorem dX10_room_17 : decode cX10_room 17 = .ok (.iconst (-1), 1) := by decide +kernel
theorem dX10_room_18 : decode cX10_room 18 = .ok (.if_icmp .ne 10, 3) := by decide +kernel
theorem dX10_room_21 : decode cX10_room 21 = .ok (.aload_n 0, 1) := by decide +kernel
theorem dX10_room_22 : decode cX10_room 22 = .ok (.getfield 59, 3) := by decide +kernel
theorem dX10_room_25 : decode cX10_room 25 = .ok (.goto 8, 3) := by decide +kernel
theorem dX10_room_28 : decode cX10_room 28 = .ok (.aload_n 0, 1) := by decide +kernel
theorem dX10_room_29 : decode cX10_room 29 = .ok (.iload_n 3, 1) := by decide +kernel
theorem dX10_room_30 : decode cX10_room 30 = .ok (.invokevirtual 83, 3) := by decide +kernel
theorem dX10_room_33 : decode cX10_room 33 = .ok (.istore 4, 2) := by decide +kernel
theorem dX10_room_35 : decode cX10_room 35 = .ok (.iload 4, 2) := by decide +kernel
theorem dX10_room_37 : decode cX10_room 37 = .ok (.iload_n 2, 1) := by decide +kernel
theorem dX10_room_38 : decode cX10_room 38 = .ok (.isub, 1) := by decide +kernel
theorem dX10_room_39 : decode cX10_room 39 = .ok (.iload_n 1, 1) := by decide +kernel
theorem dX10_room_40 : decode cX10_room 40 = .ok (.if_icmp .lt 5, 3) := by decide +kernel
theorem dX10_room_43 : decode cX10_room 43 = .ok (.iload_n 2, 1) := by decide +kernel
theorem dX10_room_44 : decode cX10_room 44 = .ok (.ireturn, 1) := by decide +kernel
theorem dX10_room_45 : decode cX10_room 45 = .ok (.iload_n 3, 1) := by decide +kernel
theorem dX10_room_46 : decode cX10_room 46 = .ok (.iconst (-1), 1) := by decide +kernel
theorem dX10_room_47 : decode cX10_room 47 = .ok (.if_icmp .ne 5, 3) := by decide +kernel
theorem dX10_room_50 : decode cX10_room 50 = .ok (.iconst (-1), 1) := by decide +kernel
theorem dX10_room_51 : decode cX10_room 51 = .ok (.ireturn, 1) := by decide +kernel
theorem dX10_room_52 : decode cX10_room 52 = .ok (.iload 4, 2) := by decide +kernel
theorem dX10_room_54 : decode cX10_room 54 = .ok (.aload_n 0, 1) := by decide +kernel
theorem dX10_room_55 : decode cX10_room 55 = .ok (.iload_n 3, 1) := by decide +kernel
theorem dX10_room_56 : decode cX10_room 56 = .ok (.invokevirtual 86, 3) := by decide +kernel
theorem dX10_room_59 : decode cX10_room 59 = .ok (.iadd, 1) := by decide +kernel
theorem dX10_room_60 : decode cX10_room 60 = .ok (.istore_n 2, 1) := by decide +kernel
theorem dX10_room_61 : decode cX10_room 61 = .ok (.goto (-59), 3) := by decide +kernel
theorem dX10_room_64 : decode cX10_room 64 = .ok (.iconst (-1), 1) := by decide +kernel
theorem dX10_room_65 : decode cX10_room 65 = .ok (.ireturn, 1) := by decide +kernel
theorem dX10_gaps_0 : decode cX10_gaps 0 = .ok (.iconst 0, 1) := by decide +kernel
theorem dX10_gaps_1 : decode cX10_gaps 1 = .ok (.istore_n 2, 1) := by decide +kernel
theorem dX10_gaps_2 : decode cX10_gaps 2 = .ok (.iconst 0, 1) := by decide +kernel
theorem dX10_gaps_3 : decode cX10_gaps 3 = .ok (.istore_n 3, 1) := by decide +kernel
theorem dX10_gaps_4 : decode cX10_gaps 4 = .ok (.iconst 0, 1) := by decide +kernel
theorem dX10_gaps_5 : decode cX10_gaps 5 = .ok (.istore 4, 2) := by decide +kernel
theorem dX10_gaps_7 : decode cX10_gaps 7 = .ok (.iconst 0, 1) := by decide +kernel
theorem dX10_gaps_8 : decode cX10_gaps 8 = .ok (.istore 5, 2) := by decide +kernel
theorem dX10_gaps_10 : decode cX10_gaps 10 = .ok (.iload 5, 2) := by decide +kernel
theorem dX10_gaps_12 : decode cX10_gaps 12 = .ok (.aload_n 0, 1) := by decide +kernel
theorem dX10_gaps_13 : decode cX10_gaps 13 = .ok (.getfield 59, 3) := by decide +kernel
theorem dX10_gaps_16 : decode cX10_gaps 16 = .ok (.if_icmp .ge 87, 3) := by decide +kernel
theorem dX10_gaps_19 : decode cX10_gaps 19 = .ok (.aload_n 0, 1) := by decide +kernel
theorem dX10_gaps_20 : decode cX10_gaps 20 = .ok (.iload 5, 2) := by decide +kernel
theorem dX10_gaps_22 : decode cX10_gaps 22 = .ok (.invokevirtual 80, 3) := by decide +kernel
theorem dX10_gaps_25 : decode cX10_gaps 25 = .ok (.istore 6, 2) := by decide +kernel
theorem dX10_gaps_27 : decode cX10_gaps 27 = .ok (.iload 6, 2) := by decide +kernel
theorem dX10_gaps_29 : decode cX10_gaps 29 = .ok (.iconst (-1), 1) := by decide +kernel
theorem dX10_gaps_30 : decode cX10_gaps 30 = .ok (.if_icmp .ne 10, 3) := by decide +kernel
theorem dX10_gaps_33 : decode cX10_gaps 33 = .ok (.aload_n 0, 1) := by decide +kernel
theorem dX10_gaps_34 : decode cX10_gaps 34 = .ok (.getfield 59, 3) := by decide +kernel
theorem dX10_gaps_37 : decode cX10_gaps 37 = .ok (.goto 9, 3) := by decide +kernel
theorem dX10_gaps_40 : decode cX10_gaps 40 = .ok (.aload_n 0, 1) := by decide +kernel
theorem dX10_gaps_41 : decode cX10_gaps 41 = .ok (.iload 6, 2) := by decide +kernel
theorem dX10_gaps_43 : decode cX10_gaps 43 = .ok (.invokevirtual 83, 3) := by decide +kernel
theorem dX10_gaps_46 : decode cX10_gaps 46 = .ok (.istore 7, 2) := by decide +kernel
theorem dX10_gaps_48 : decode cX10_gaps 48 = .ok (.iload 7, 2) := by decide +kernel
theorem dX10_gaps_50 : decode cX10_gaps 50 = .ok (.iload 5, 2) := by decide +kernel
theorem dX10_gaps_52 : decode cX10_gaps 52 = .ok (.if_icmp .le 24, 3) := by decide +kernel
theorem dX10_gaps_55 : decode cX10_gaps 55 = .ok (.iload_n 2, 1) := by decide +kernel
theorem dX10_gaps_56 : decode cX10_gaps 56 = .ok (.iload 7, 2) := by decide +kernel
theorem dX10_gaps_58 : decode cX10_gaps 58 = .ok (.iload 5, 2) := by decide +kernel
theorem dX10_gaps_60 : decode cX10_gaps 60 = .ok (.isub, 1) := by decide +kernel
theorem dX10_gaps_61 : decode cX10_gaps 61 = .ok (.iadd, 1) := by decide +kernel
theorem dX10_gaps_62 : decode cX10_gaps 62 = .ok (.istore_n 2, 1) := by decide +kernel
theorem dX10_gaps_63 : decode cX10_gaps 63 = .ok (.iload_n 3, 1) := by decide +kernel
theorem dX10_gaps_64 : decode cX10_gaps 64 = .ok (.iload 7, 2) := by decide +kernel
theorem dX10_gaps_66 : decode cX10_gaps 66 = .ok (.iload 5, 2) := by decide +kernel
theorem dX10_gaps_68 : decode cX10_gaps 68 = .ok (.isub, 1) := by decide +kernel
theorem dX10_gaps_69 : decode cX10_gaps 69 = .ok (.invokestatic 56, 3) := by decide +kernel
theorem dX10_gaps_72 : decode cX10_gaps 72 = .ok (.istore_n 3, 1) := by decide +kernel
theorem dX10_gaps_73 : decode cX10_gaps 73 = .ok (.iinc 4 1, 3) := by decide +kernel
theorem dX10_gaps_76 : decode cX10_gaps 76 = .ok (.iload 6, 2) := by decide +kernel
theorem dX10_gaps_78 : decode cX10_gaps 78 = .ok (.iconst (-1), 1) := by decide +kernel
theorem dX10_gaps_79 : decode cX10_gaps 79 = .ok (.if_icmp .ne 10, 3) := by decide +kernel
theorem dX10_gaps_82 : decode cX10_gaps 82 = .ok (.aload_n 0, 1) := by decide +kernel
theorem dX10_gaps_83 : decode cX10_gaps 83 = .ok (.getfield 59, 3) := by decide +kernel
theorem dX10_gaps_86 : decode cX10_gaps 86 = .ok (.goto 12, 3) := by decide +kernel
theorem dX10_gaps_89 : decode cX10_gaps 89 = .ok (.iload 7, 2) := by decide +kernel
theorem dX10_gaps_91 : decode cX10_gaps 91 = .ok (.aload_n 0, 1) := by decide +kernel
theorem dX10_gaps_92 : decode cX10_gaps 92 = .ok (.iload 6, 2) := by decide +kernel
theorem dX10_gaps_94 : decode cX10_gaps 94 = .ok (.invokevirtual 86, 3) := by decide +kernel
theorem dX10_gaps_97 : decode cX10_gaps 97 = .ok (.iadd, 1) := by decide +kernel
theorem dX10_gaps_98 : decode cX10_gaps 98 = .ok (.istore 5, 2) := by decide +kernel
theorem dX10_gaps_100 : decode cX10_gaps 100 = .ok (.goto (-90), 3) := by decide +kernel
theorem dX10_gaps_103 : decode cX10_gaps 103 = .ok (.iload_n 1, 1) := by decide +kernel
theorem dX10_gaps_104 : decode cX10_gaps 104 = .ok (.ifCond .ne 7, 3) := by decide +kernel
theorem dX10_gaps_107 : decode cX10_gaps 107 = .ok (.iload_n 2, 1) := by decide +kernel
theorem dX10_gaps_108 : decode cX10_gaps 108 = .ok (.goto 14, 3) := by decide +kernel
theorem dX10_gaps_111 : decode cX10_gaps 111 = .ok (.iload_n 1, 1) := by decide +kernel
theorem dX10_gaps_112 : decode cX10_gaps 112 = .ok (.iconst 1, 1) := by decide +kernel
theorem dX10_gaps_113 : decode cX10_gaps 113 = .ok (.if_icmp .ne 7, 3) := by decide +kernel
theorem dX10_gaps_116 : decode cX10_gaps 116 = .ok (.iload_n 3, 1) := by decide +kernel
theorem dX10_gaps_117 : decode cX10_gaps 117 = .ok (.goto 5, 3) := by decide +kernel
theorem dX10_gaps_120 : decode cX10_gaps 120 = .ok (.iload 4, 2) := by decide +kernel
theorem dX10_gaps_122 : decode cX10_gaps 122 = .ok (.ireturn, 1) := by decide +kernel
theorem dX10_takes_0 : decode cX10_takes 0 = .ok (.aload_n 0, 1) := by decide +kernel
theorem dX10_takes_1 : decode cX10_takes 1 = .ok (.getfield 25, 3) := by decide +kernel
theorem dX10_takes_4 : decode cX10_takes 4 = .ok (.iload_n 1, 1) := by decide +kernel
theorem dX10_takes_5 : decode cX10_takes 5 = .ok (.iconst (-1), 1) := by decide +kernel
theorem dX10_takes_6 : decode cX10_takes 6 = .ok (.iastore, 1) := by decide +kernel
theorem dX10_takes_7 : decode cX10_takes 7 = .ok (.iload_n 2, 1) := by decide +kernel
theorem dX10_takes_8 : decode cX10_takes 8 = .ok (.ifCond .ne 10, 3) := by decide +kernel
theorem dX10_takes_11 : decode cX10_takes 11 = .ok (.aload_n 0, 1) := by decide +kernel
theorem dX10_takes_12 : decode cX10_takes 12 = .ok (.getfield 28, 3) := by decide +kernel
theorem dX10_takes_15 : decode cX10_takes 15 = .ok (.iload_n 1, 1) := by decide +kernel
theorem dX10_takes_16 : decode cX10_takes 16 = .ok (.iconst (-1), 1) := by decide +kernel
theorem dX10_takes_17 : decode cX10_takes 17 = .ok (.iastore, 1) := by decide +kernel
theorem dX10_takes_18 : decode cX10_takes 18 = .ok (.aload_n 0, 1) := by decide +kernel
theorem dX10_takes_19 : decode cX10_takes 19 = .ok (.getfield 13, 3) := by decide +kernel
theorem dX10_takes_22 : decode cX10_takes 22 = .ok (.iload_n 1, 1) := by decide +kernel
theorem dX10_takes_23 : decode cX10_takes 23 = .ok (.iaload, 1) := by decide +kernel
theorem dX10_takes_24 : decode cX10_takes 24 = .ok (.ifCond .le 28, 3) := by decide +kernel
theorem dX10_takes_27 : decode cX10_takes 27 = .ok (.aload_n 0, 1) := by decide +kernel
theorem dX10_takes_28 : decode cX10_takes 28 = .ok (.aload_n 0, 1) := by decide +kernel
theorem dX10_takes_29 : decode cX10_takes 29 = .ok (.getfield 13, 3) := by decide +kernel
theorem dX10_takes_32 : decode cX10_takes 32 = .ok (.iload_n 1, 1) := by decide +kernel
theorem dX10_takes_33 : decode cX10_takes 33 = .ok (.iaload, 1) := by decide +kernel
theorem dX10_takes_34 : decode cX10_takes 34 = .ok (.invokevirtual 89, 3) := by decide +kernel
theorem dX10_takes_37 : decode cX10_takes 37 = .ok (.istore_n 3, 1) := by decide +kernel
theorem dX10_takes_38 : decode cX10_takes 38 = .ok (.iload_n 3, 1) := by decide +kernel
theorem dX10_takes_39 : decode cX10_takes 39 = .ok (.iconst (-1), 1) := by decide +kernel
theorem dX10_takes_40 : decode cX10_takes 40 = .ok (.if_icmp .ne 5, 3) := by decide +kernel
theorem dX10_takes_43 : decode cX10_takes 43 = .ok (.iconst 0, 1) := by decide +kernel
theorem dX10_takes_44 : decode cX10_takes 44 = .ok (.ireturn, 1) := by decide +kernel
theorem dX10_takes_45 : decode cX10_takes 45 = .ok (.aload_n 0, 1) := by decide +kernel
theorem dX10_takes_46 : decode cX10_takes 46 = .ok (.getfield 25, 3) := by decide +kernel
theorem dX10_takes_49 : decode cX10_takes 49 = .ok (.iload_n 1, 1) := by decide +kernel
theorem dX10_takes_50 : decode cX10_takes 50 = .ok (.iload_n 3, 1) := by decide +kernel
theorem dX10_takes_51 : decode cX10_takes 51 = .ok (.iastore, 1) := by decide +kernel
theorem dX10_takes_52 : decode cX10_takes 52 = .ok (.iload_n 2, 1) := by decide +kernel
theorem dX10_takes_53 : decode cX10_takes 53 = .ok (.ifCond .ne 11, 3) := by decide +kernel
theorem dX10_takes_56 : decode cX10_takes 56 = .ok (.aload_n 0, 1) := by decide +kernel
theorem dX10_takes_57 : decode cX10_takes 57 = .ok (.iload_n 1, 1) := by decide +kernel
theorem dX10_takes_58 : decode cX10_takes 58 = .ok (.invokevirtual 76, 3) := by decide +kernel
theorem dX10_takes_61 : decode cX10_takes 61 = .ok (.ifCond .ne 5, 3) := by decide +kernel
theorem dX10_takes_64 : decode cX10_takes 64 = .ok (.iconst 1, 1) := by decide +kernel
theorem dX10_takes_65 : decode cX10_takes 65 = .ok (.ireturn, 1) := by decide +kernel
theorem dX10_takes_66 : decode cX10_takes 66 = .ok (.aload_n 0, 1) := by decide +kernel
theorem dX10_takes_67 : decode cX10_takes 67 = .ok (.aload_n 0, 1) := by decide +kernel
theorem dX10_takes_68 : decode cX10_takes 68 = .ok (.iload_n 1, 1) := by decide +kernel
theorem dX10_takes_69 : decode cX10_takes 69 = .ok (.invokevirtual 76, 3) := by decide +kernel
theorem dX10_takes_72 : decode cX10_takes 72 = .ok (.invokevirtual 89, 3) := by decide +kernel
theorem dX10_takes_75 : decode cX10_takes 75 = .ok (.istore_n 3, 1) := by decide +kernel
theorem dX10_takes_76 : decode cX10_takes 76 = .ok (.iload_n 3, 1) := by decide +kernel
theorem dX10_takes_77 : decode cX10_takes 77 = .ok (.iconst (-1), 1) := by decide +kernel
theorem dX10_takes_78 : decode cX10_takes 78 = .ok (.if_icmp .ne 12, 3) := by decide +kernel
theorem dX10_takes_81 : decode cX10_takes 81 = .ok (.aload_n 0, 1) := by decide +kernel
theorem dX10_takes_82 : decode cX10_takes 82 = .ok (.getfield 25, 3) := by decide +kernel
theorem dX10_takes_85 : decode cX10_takes 85 = .ok (.iload_n 1, 1) := by decide +kernel
theorem dX10_takes_86 : decode cX10_takes 86 = .ok (.iconst (-1), 1) := by decide +kernel
theorem dX10_takes_87 : decode cX10_takes 87 = .ok (.iastore, 1) := by decide +kernel
theorem dX10_takes_88 : decode cX10_takes 88 = .ok (.iconst 0, 1) := by decide +kernel
theorem dX10_takes_89 : decode cX10_takes 89 = .ok (.ireturn, 1) := by decide +kernel
theorem dX10_takes_90 : decode cX10_takes 90 = .ok (.aload_n 0, 1) := by decide +kernel
theorem dX10_takes_91 : decode cX10_takes 91 = .ok (.getfield 28, 3) := by decide +kernel
theorem dX10_takes_94 : decode cX10_takes 94 = .ok (.iload_n 1, 1) := by decide +kernel
theorem dX10_takes_95 : decode cX10_takes 95 = .ok (.iload_n 3, 1) := by decide +kernel
theorem dX10_takes_96 : decode cX10_takes 96 = .ok (.iastore, 1) := by decide +kernel
theorem dX10_takes_97 : decode cX10_takes 97 = .ok (.iconst 1, 1) := by decide +kernel
theorem dX10_takes_98 : decode cX10_takes 98 = .ok (.ireturn, 1) := by decide +kernel
theorem dX10_isJob_0 : decode cX10_isJob 0 = .ok (.iload_n 1, 1) := by decide +kernel
theorem dX10_isJob_1 : decode cX10_isJob 1 = .ok (.ifCond .lt 23, 3) := by decide +kernel
theorem dX10_isJob_4 : decode cX10_isJob 4 = .ok (.iload_n 1, 1) := by decide +kernel
theorem dX10_isJob_5 : decode cX10_isJob 5 = .ok (.aload_n 0, 1) := by decide +kernel
theorem dX10_isJob_6 : decode cX10_isJob 6 = .ok (.getfield 63, 3) := by decide +kernel
theorem dX10_isJob_9 : decode cX10_isJob 9 = .ok (.if_icmp .ge 15, 3) := by decide +kernel
theorem dX10_isJob_12 : decode cX10_isJob 12 = .ok (.aload_n 0, 1) := by decide +kernel
theorem dX10_isJob_13 : decode cX10_isJob 13 = .ok (.iload_n 1, 1) := by decide +kernel
theorem dX10_isJob_14 : decode cX10_isJob 14 = .ok (.invokevirtual 72, 3) := by decide +kernel
theorem dX10_isJob_17 : decode cX10_isJob 17 = .ok (.ifCond .eq 7, 3) := by decide +kernel
theorem dX10_isJob_20 : decode cX10_isJob 20 = .ok (.iconst 1, 1) := by decide +kernel
theorem dX10_isJob_21 : decode cX10_isJob 21 = .ok (.goto 4, 3) := by decide +kernel
theorem dX10_isJob_24 : decode cX10_isJob 24 = .ok (.iconst 0, 1) := by decide +kernel
theorem dX10_isJob_25 : decode cX10_isJob 25 = .ok (.ireturn, 1) := by decide +kernel
theorem dX10_open_0 : decode cX10_open 0 = .ok (.iload_n 1, 1) := by decide +kernel
theorem dX10_open_1 : decode cX10_open 1 = .ok (.ifCond .lt 28, 3) := by decide +kernel
end
section
theorem dX10_open_4 : decode cX10_open 4 = .ok (.iload_n 1, 1) := by decide +kernel
theorem dX10_open_5 : decode cX10_open 5 = .ok (.sipush 1000, 3) := by decide +kernel
theorem dX10_open_8 : decode cX10_open 8 = .ok (.if_icmp .gt 21, 3) := by decide +kernel
theorem dX10_open_11 : decode cX10_open 11 = .ok (.iload_n 2, 1) := by decide +kernel
theorem dX10_open_12 : decode cX10_open 12 = .ok (.ifCond .lt 17, 3) := by decide +kernel
theorem dX10_open_15 : decode cX10_open 15 = .ok (.iload_n 2, 1) := by decide +kernel
theorem dX10_open_16 : decode cX10_open 16 = .ok (.iconst 4, 1) := by decide +kernel
theorem dX10_open_17 : decode cX10_open 17 = .ok (.if_icmp .gt 12, 3) := by decide +kernel
theorem dX10_open_20 : decode cX10_open 20 = .ok (.iload_n 3, 1) := by decide +kernel
theorem dX10_open_21 : decode cX10_open 21 = .ok (.ifCond .lt 8, 3) := by decide +kernel
theorem dX10_open_24 : decode cX10_open 24 = .ok (.iload_n 3, 1) := by decide +kernel
theorem dX10_open_25 : decode cX10_open 25 = .ok (.iconst 3, 1) := by decide +kernel
theorem dX10_open_26 : decode cX10_open 26 = .ok (.if_icmp .le 6, 3) := by decide +kernel
theorem dX10_open_29 : decode cX10_open 29 = .ok (.bipush (-4), 2) := by decide +kernel
theorem dX10_open_31 : decode cX10_open 31 = .ok (.ireturn, 1) := by decide +kernel
theorem dX10_open_32 : decode cX10_open 32 = .ok (.iconst 0, 1) := by decide +kernel
theorem dX10_open_33 : decode cX10_open 33 = .ok (.istore 4, 2) := by decide +kernel
theorem dX10_open_35 : decode cX10_open 35 = .ok (.iload 4, 2) := by decide +kernel
theorem dX10_open_37 : decode cX10_open 37 = .ok (.aload_n 0, 1) := by decide +kernel
theorem dX10_open_38 : decode cX10_open 38 = .ok (.getfield 63, 3) := by decide +kernel
theorem dX10_open_41 : decode cX10_open 41 = .ok (.if_icmp .ge 18, 3) := by decide +kernel
theorem dX10_open_44 : decode cX10_open 44 = .ok (.aload_n 0, 1) := by decide +kernel
theorem dX10_open_45 : decode cX10_open 45 = .ok (.iload 4, 2) := by decide +kernel
theorem dX10_open_47 : decode cX10_open 47 = .ok (.invokevirtual 72, 3) := by decide +kernel
theorem dX10_open_50 : decode cX10_open 50 = .ok (.ifCond .eq 9, 3) := by decide +kernel
theorem dX10_open_53 : decode cX10_open 53 = .ok (.iinc 4 1, 3) := by decide +kernel
theorem dX10_open_56 : decode cX10_open 56 = .ok (.goto (-21), 3) := by decide +kernel
theorem dX10_open_59 : decode cX10_open 59 = .ok (.iload 4, 2) := by decide +kernel
theorem dX10_open_61 : decode cX10_open 61 = .ok (.aload_n 0, 1) := by decide +kernel
theorem dX10_open_62 : decode cX10_open 62 = .ok (.getfield 63, 3) := by decide +kernel
theorem dX10_open_65 : decode cX10_open 65 = .ok (.if_icmp .ne 6, 3) := by decide +kernel
theorem dX10_open_68 : decode cX10_open 68 = .ok (.bipush (-5), 2) := by decide +kernel
theorem dX10_open_70 : decode cX10_open 70 = .ok (.ireturn, 1) := by decide +kernel
theorem dX10_open_71 : decode cX10_open 71 = .ok (.aload_n 0, 1) := by decide +kernel
theorem dX10_open_72 : decode cX10_open 72 = .ok (.getfield 9, 3) := by decide +kernel
theorem dX10_open_75 : decode cX10_open 75 = .ok (.iload 4, 2) := by decide +kernel
theorem dX10_open_77 : decode cX10_open 77 = .ok (.iconst 1, 1) := by decide +kernel
theorem dX10_open_78 : decode cX10_open 78 = .ok (.iastore, 1) := by decide +kernel
theorem dX10_open_79 : decode cX10_open 79 = .ok (.aload_n 0, 1) := by decide +kernel
theorem dX10_open_80 : decode cX10_open 80 = .ok (.getfield 13, 3) := by decide +kernel
theorem dX10_open_83 : decode cX10_open 83 = .ok (.iload 4, 2) := by decide +kernel
theorem dX10_open_85 : decode cX10_open 85 = .ok (.iload_n 1, 1) := by decide +kernel
theorem dX10_open_86 : decode cX10_open 86 = .ok (.iastore, 1) := by decide +kernel
theorem dX10_open_87 : decode cX10_open 87 = .ok (.aload_n 0, 1) := by decide +kernel
theorem dX10_open_88 : decode cX10_open 88 = .ok (.getfield 16, 3) := by decide +kernel
theorem dX10_open_91 : decode cX10_open 91 = .ok (.iload 4, 2) := by decide +kernel
theorem dX10_open_93 : decode cX10_open 93 = .ok (.iload_n 2, 1) := by decide +kernel
theorem dX10_open_94 : decode cX10_open 94 = .ok (.iastore, 1) := by decide +kernel
theorem dX10_open_95 : decode cX10_open 95 = .ok (.aload_n 0, 1) := by decide +kernel
theorem dX10_open_96 : decode cX10_open 96 = .ok (.getfield 19, 3) := by decide +kernel
theorem dX10_open_99 : decode cX10_open 99 = .ok (.iload 4, 2) := by decide +kernel
theorem dX10_open_101 : decode cX10_open 101 = .ok (.iload_n 3, 1) := by decide +kernel
theorem dX10_open_102 : decode cX10_open 102 = .ok (.iastore, 1) := by decide +kernel
theorem dX10_open_103 : decode cX10_open 103 = .ok (.aload_n 0, 1) := by decide +kernel
theorem dX10_open_104 : decode cX10_open 104 = .ok (.getfield 22, 3) := by decide +kernel
theorem dX10_open_107 : decode cX10_open 107 = .ok (.iload 4, 2) := by decide +kernel
theorem dX10_open_109 : decode cX10_open 109 = .ok (.iconst 0, 1) := by decide +kernel
theorem dX10_open_110 : decode cX10_open 110 = .ok (.iastore, 1) := by decide +kernel
theorem dX10_open_111 : decode cX10_open 111 = .ok (.aload_n 0, 1) := by decide +kernel
theorem dX10_open_112 : decode cX10_open 112 = .ok (.getfield 34, 3) := by decide +kernel
theorem dX10_open_115 : decode cX10_open 115 = .ok (.iload 4, 2) := by decide +kernel
theorem dX10_open_117 : decode cX10_open 117 = .ok (.iconst (-1), 1) := by decide +kernel
theorem dX10_open_118 : decode cX10_open 118 = .ok (.iastore, 1) := by decide +kernel
theorem dX10_open_119 : decode cX10_open 119 = .ok (.aload_n 0, 1) := by decide +kernel
theorem dX10_open_120 : decode cX10_open 120 = .ok (.getfield 37, 3) := by decide +kernel
theorem dX10_open_123 : decode cX10_open 123 = .ok (.iload 4, 2) := by decide +kernel
theorem dX10_open_125 : decode cX10_open 125 = .ok (.iconst (-1), 1) := by decide +kernel
theorem dX10_open_126 : decode cX10_open 126 = .ok (.iastore, 1) := by decide +kernel
theorem dX10_open_127 : decode cX10_open 127 = .ok (.aload_n 0, 1) := by decide +kernel
theorem dX10_open_128 : decode cX10_open 128 = .ok (.iload 4, 2) := by decide +kernel
theorem dX10_open_130 : decode cX10_open 130 = .ok (.iconst 0, 1) := by decide +kernel
theorem dX10_open_131 : decode cX10_open 131 = .ok (.invokevirtual 92, 3) := by decide +kernel
theorem dX10_open_134 : decode cX10_open 134 = .ok (.ifCond .ne 14, 3) := by decide +kernel
theorem dX10_open_137 : decode cX10_open 137 = .ok (.aload_n 0, 1) := by decide +kernel
theorem dX10_open_138 : decode cX10_open 138 = .ok (.getfield 9, 3) := by decide +kernel
theorem dX10_open_141 : decode cX10_open 141 = .ok (.iload 4, 2) := by decide +kernel
theorem dX10_open_143 : decode cX10_open 143 = .ok (.iconst 0, 1) := by decide +kernel
theorem dX10_open_144 : decode cX10_open 144 = .ok (.iastore, 1) := by decide +kernel
theorem dX10_open_145 : decode cX10_open 145 = .ok (.bipush (-6), 2) := by decide +kernel
theorem dX10_open_147 : decode cX10_open 147 = .ok (.ireturn, 1) := by decide +kernel
theorem dX10_open_148 : decode cX10_open 148 = .ok (.iconst 0, 1) := by decide +kernel
theorem dX10_open_149 : decode cX10_open 149 = .ok (.istore 5, 2) := by decide +kernel
theorem dX10_open_151 : decode cX10_open 151 = .ok (.iload 5, 2) := by decide +kernel
theorem dX10_open_153 : decode cX10_open 153 = .ok (.iload_n 1, 1) := by decide +kernel
theorem dX10_open_154 : decode cX10_open 154 = .ok (.if_icmp .ge 25, 3) := by decide +kernel
theorem dX10_open_157 : decode cX10_open 157 = .ok (.aload_n 0, 1) := by decide +kernel
theorem dX10_open_158 : decode cX10_open 158 = .ok (.getfield 69, 3) := by decide +kernel
theorem dX10_open_161 : decode cX10_open 161 = .ok (.aload_n 0, 1) := by decide +kernel
theorem dX10_open_162 : decode cX10_open 162 = .ok (.getfield 25, 3) := by decide +kernel
theorem dX10_open_165 : decode cX10_open 165 = .ok (.iload 4, 2) := by decide +kernel
theorem dX10_open_167 : decode cX10_open 167 = .ok (.iaload, 1) := by decide +kernel
theorem dX10_open_168 : decode cX10_open 168 = .ok (.iload 5, 2) := by decide +kernel
theorem dX10_open_170 : decode cX10_open 170 = .ok (.iadd, 1) := by decide +kernel
theorem dX10_open_171 : decode cX10_open 171 = .ok (.iconst 0, 1) := by decide +kernel
theorem dX10_open_172 : decode cX10_open 172 = .ok (.iastore, 1) := by decide +kernel
theorem dX10_open_173 : decode cX10_open 173 = .ok (.iinc 5 1, 3) := by decide +kernel
theorem dX10_open_176 : decode cX10_open 176 = .ok (.goto (-25), 3) := by decide +kernel
theorem dX10_open_179 : decode cX10_open 179 = .ok (.iload 4, 2) := by decide +kernel
theorem dX10_open_181 : decode cX10_open 181 = .ok (.ireturn, 1) := by decide +kernel
theorem dX10_put_0 : decode cX10_put 0 = .ok (.aload_n 0, 1) := by decide +kernel
theorem dX10_put_1 : decode cX10_put 1 = .ok (.iload_n 1, 1) := by decide +kernel
theorem dX10_put_2 : decode cX10_put 2 = .ok (.invokevirtual 96, 3) := by decide +kernel
theorem dX10_put_5 : decode cX10_put 5 = .ok (.ifCond .ne 5, 3) := by decide +kernel
theorem dX10_put_8 : decode cX10_put 8 = .ok (.iconst (-1), 1) := by decide +kernel
theorem dX10_put_9 : decode cX10_put 9 = .ok (.ireturn, 1) := by decide +kernel
theorem dX10_put_10 : decode cX10_put 10 = .ok (.aload_n 0, 1) := by decide +kernel
theorem dX10_put_11 : decode cX10_put 11 = .ok (.getfield 9, 3) := by decide +kernel
theorem dX10_put_14 : decode cX10_put 14 = .ok (.iload_n 1, 1) := by decide +kernel
theorem dX10_put_15 : decode cX10_put 15 = .ok (.iaload, 1) := by decide +kernel
theorem dX10_put_16 : decode cX10_put 16 = .ok (.iconst 1, 1) := by decide +kernel
theorem dX10_put_17 : decode cX10_put 17 = .ok (.if_icmp .eq 6, 3) := by decide +kernel
theorem dX10_put_20 : decode cX10_put 20 = .ok (.bipush (-3), 2) := by decide +kernel
theorem dX10_put_22 : decode cX10_put 22 = .ok (.ireturn, 1) := by decide +kernel
theorem dX10_put_23 : decode cX10_put 23 = .ok (.iload_n 2, 1) := by decide +kernel
theorem dX10_put_24 : decode cX10_put 24 = .ok (.ifCond .lt 13, 3) := by decide +kernel
theorem dX10_put_27 : decode cX10_put 27 = .ok (.iload_n 2, 1) := by decide +kernel
theorem dX10_put_28 : decode cX10_put 28 = .ok (.aload_n 0, 1) := by decide +kernel
theorem dX10_put_29 : decode cX10_put 29 = .ok (.getfield 13, 3) := by decide +kernel
theorem dX10_put_32 : decode cX10_put 32 = .ok (.iload_n 1, 1) := by decide +kernel
theorem dX10_put_33 : decode cX10_put 33 = .ok (.iaload, 1) := by decide +kernel
theorem dX10_put_34 : decode cX10_put 34 = .ok (.if_icmp .lt 6, 3) := by decide +kernel
theorem dX10_put_37 : decode cX10_put 37 = .ok (.bipush (-2), 2) := by decide +kernel
theorem dX10_put_39 : decode cX10_put 39 = .ok (.ireturn, 1) := by decide +kernel
theorem dX10_put_40 : decode cX10_put 40 = .ok (.aload_n 0, 1) := by decide +kernel
theorem dX10_put_41 : decode cX10_put 41 = .ok (.getfield 69, 3) := by decide +kernel
theorem dX10_put_44 : decode cX10_put 44 = .ok (.aload_n 0, 1) := by decide +kernel
theorem dX10_put_45 : decode cX10_put 45 = .ok (.getfield 25, 3) := by decide +kernel
theorem dX10_put_48 : decode cX10_put 48 = .ok (.iload_n 1, 1) := by decide +kernel
theorem dX10_put_49 : decode cX10_put 49 = .ok (.iaload, 1) := by decide +kernel
theorem dX10_put_50 : decode cX10_put 50 = .ok (.iload_n 2, 1) := by decide +kernel
theorem dX10_put_51 : decode cX10_put 51 = .ok (.iadd, 1) := by decide +kernel
theorem dX10_put_52 : decode cX10_put 52 = .ok (.iload_n 3, 1) := by decide +kernel
theorem dX10_put_53 : decode cX10_put 53 = .ok (.iastore, 1) := by decide +kernel
theorem dX10_put_54 : decode cX10_put 54 = .ok (.iconst 0, 1) := by decide +kernel
theorem dX10_put_55 : decode cX10_put 55 = .ok (.ireturn, 1) := by decide +kernel
theorem dX10_resize_0 : decode cX10_resize 0 = .ok (.aload_n 0, 1) := by decide +kernel
theorem dX10_resize_1 : decode cX10_resize 1 = .ok (.iload_n 1, 1) := by decide +kernel
theorem dX10_resize_2 : decode cX10_resize 2 = .ok (.invokevirtual 96, 3) := by decide +kernel
theorem dX10_resize_5 : decode cX10_resize 5 = .ok (.ifCond .ne 5, 3) := by decide +kernel
theorem dX10_resize_8 : decode cX10_resize 8 = .ok (.iconst (-1), 1) := by decide +kernel
theorem dX10_resize_9 : decode cX10_resize 9 = .ok (.ireturn, 1) := by decide +kernel
theorem dX10_resize_10 : decode cX10_resize 10 = .ok (.aload_n 0, 1) := by decide +kernel
theorem dX10_resize_11 : decode cX10_resize 11 = .ok (.getfield 9, 3) := by decide +kernel
theorem dX10_resize_14 : decode cX10_resize 14 = .ok (.iload_n 1, 1) := by decide +kernel
theorem dX10_resize_15 : decode cX10_resize 15 = .ok (.iaload, 1) := by decide +kernel
theorem dX10_resize_16 : decode cX10_resize 16 = .ok (.iconst 1, 1) := by decide +kernel
theorem dX10_resize_17 : decode cX10_resize 17 = .ok (.if_icmp .eq 6, 3) := by decide +kernel
theorem dX10_resize_20 : decode cX10_resize 20 = .ok (.bipush (-3), 2) := by decide +kernel
theorem dX10_resize_22 : decode cX10_resize 22 = .ok (.ireturn, 1) := by decide +kernel
theorem dX10_resize_23 : decode cX10_resize 23 = .ok (.iload_n 2, 1) := by decide +kernel
theorem dX10_resize_24 : decode cX10_resize 24 = .ok (.ifCond .lt 10, 3) := by decide +kernel
theorem dX10_resize_27 : decode cX10_resize 27 = .ok (.iload_n 2, 1) := by decide +kernel
theorem dX10_resize_28 : decode cX10_resize 28 = .ok (.sipush 1000, 3) := by decide +kernel
theorem dX10_resize_31 : decode cX10_resize 31 = .ok (.if_icmp .le 6, 3) := by decide +kernel
theorem dX10_resize_34 : decode cX10_resize 34 = .ok (.bipush (-4), 2) := by decide +kernel
theorem dX10_resize_36 : decode cX10_resize 36 = .ok (.ireturn, 1) := by decide +kernel
theorem dX10_resize_37 : decode cX10_resize 37 = .ok (.aload_n 0, 1) := by decide +kernel
theorem dX10_resize_38 : decode cX10_resize 38 = .ok (.getfield 13, 3) := by decide +kernel
theorem dX10_resize_41 : decode cX10_resize 41 = .ok (.iload_n 1, 1) := by decide +kernel
theorem dX10_resize_42 : decode cX10_resize 42 = .ok (.iaload, 1) := by decide +kernel
theorem dX10_resize_43 : decode cX10_resize 43 = .ok (.istore_n 3, 1) := by decide +kernel
theorem dX10_resize_44 : decode cX10_resize 44 = .ok (.aload_n 0, 1) := by decide +kernel
theorem dX10_resize_45 : decode cX10_resize 45 = .ok (.getfield 25, 3) := by decide +kernel
theorem dX10_resize_48 : decode cX10_resize 48 = .ok (.iload_n 1, 1) := by decide +kernel
theorem dX10_resize_49 : decode cX10_resize 49 = .ok (.iaload, 1) := by decide +kernel
theorem dX10_resize_50 : decode cX10_resize 50 = .ok (.istore 4, 2) := by decide +kernel
theorem dX10_resize_52 : decode cX10_resize 52 = .ok (.aload_n 0, 1) := by decide +kernel
theorem dX10_resize_53 : decode cX10_resize 53 = .ok (.getfield 28, 3) := by decide +kernel
theorem dX10_resize_56 : decode cX10_resize 56 = .ok (.iload_n 1, 1) := by decide +kernel
theorem dX10_resize_57 : decode cX10_resize 57 = .ok (.iaload, 1) := by decide +kernel
theorem dX10_resize_58 : decode cX10_resize 58 = .ok (.istore 5, 2) := by decide +kernel
theorem dX10_resize_60 : decode cX10_resize 60 = .ok (.iconst 0, 1) := by decide +kernel
theorem dX10_resize_61 : decode cX10_resize 61 = .ok (.istore 6, 2) := by decide +kernel
theorem dX10_resize_63 : decode cX10_resize 63 = .ok (.iload 6, 2) := by decide +kernel
theorem dX10_resize_65 : decode cX10_resize 65 = .ok (.iload_n 3, 1) := by decide +kernel
theorem dX10_resize_66 : decode cX10_resize 66 = .ok (.if_icmp .ge 26, 3) := by decide +kernel
theorem dX10_resize_69 : decode cX10_resize 69 = .ok (.aload_n 0, 1) := by decide +kernel
theorem dX10_resize_70 : decode cX10_resize 70 = .ok (.getfield 44, 3) := by decide +kernel
theorem dX10_resize_73 : decode cX10_resize 73 = .ok (.iload 6, 2) := by decide +kernel
theorem dX10_resize_75 : decode cX10_resize 75 = .ok (.aload_n 0, 1) := by decide +kernel
theorem dX10_resize_76 : decode cX10_resize 76 = .ok (.getfield 69, 3) := by decide +kernel
theorem dX10_resize_79 : decode cX10_resize 79 = .ok (.iload 4, 2) := by decide +kernel
theorem dX10_resize_81 : decode cX10_resize 81 = .ok (.iload 6, 2) := by decide +kernel
theorem dX10_resize_83 : decode cX10_resize 83 = .ok (.iadd, 1) := by decide +kernel
theorem dX10_resize_84 : decode cX10_resize 84 = .ok (.iaload, 1) := by decide +kernel
theorem dX10_resize_85 : decode cX10_resize 85 = .ok (.iastore, 1) := by decide +kernel
theorem dX10_resize_86 : decode cX10_resize 86 = .ok (.iinc 6 1, 3) := by decide +kernel
theorem dX10_resize_89 : decode cX10_resize 89 = .ok (.goto (-26), 3) := by decide +kernel
theorem dX10_resize_92 : decode cX10_resize 92 = .ok (.aload_n 0, 1) := by decide +kernel
theorem dX10_resize_93 : decode cX10_resize 93 = .ok (.getfield 13, 3) := by decide +kernel
theorem dX10_resize_96 : decode cX10_resize 96 = .ok (.iload_n 1, 1) := by decide +kernel
theorem dX10_resize_97 : decode cX10_resize 97 = .ok (.iload_n 2, 1) := by decide +kernel
theorem dX10_resize_98 : decode cX10_resize 98 = .ok (.iastore, 1) := by decide +kernel
theorem dX10_resize_99 : decode cX10_resize 99 = .ok (.aload_n 0, 1) := by decide +kernel
theorem dX10_resize_100 : decode cX10_resize 100 = .ok (.iload_n 1, 1) := by decide +kernel
theorem dX10_resize_101 : decode cX10_resize 101 = .ok (.aload_n 0, 1) := by decide +kernel
theorem dX10_resize_102 : decode cX10_resize 102 = .ok (.getfield 16, 3) := by decide +kernel
theorem dX10_resize_105 : decode cX10_resize 105 = .ok (.iload_n 1, 1) := by decide +kernel
theorem dX10_resize_106 : decode cX10_resize 106 = .ok (.iaload, 1) := by decide +kernel
theorem dX10_resize_107 : decode cX10_resize 107 = .ok (.iconst 2, 1) := by decide +kernel
theorem dX10_resize_108 : decode cX10_resize 108 = .ok (.if_icmp .eq 7, 3) := by decide +kernel
theorem dX10_resize_111 : decode cX10_resize 111 = .ok (.iconst 1, 1) := by decide +kernel
theorem dX10_resize_112 : decode cX10_resize 112 = .ok (.goto 4, 3) := by decide +kernel
theorem dX10_resize_115 : decode cX10_resize 115 = .ok (.iconst 0, 1) := by decide +kernel
theorem dX10_resize_116 : decode cX10_resize 116 = .ok (.invokevirtual 92, 3) := by decide +kernel
theorem dX10_resize_119 : decode cX10_resize 119 = .ok (.ifCond .ne 29, 3) := by decide +kernel
theorem dX10_resize_122 : decode cX10_resize 122 = .ok (.aload_n 0, 1) := by decide +kernel
theorem dX10_resize_123 : decode cX10_resize 123 = .ok (.getfield 13, 3) := by decide +kernel
theorem dX10_resize_126 : decode cX10_resize 126 = .ok (.iload_n 1, 1) := by decide +kernel
theorem dX10_resize_127 : decode cX10_resize 127 = .ok (.iload_n 3, 1) := by decide +kernel
theorem dX10_resize_128 : decode cX10_resize 128 = .ok (.iastore, 1) := by decide +kernel
theorem dX10_resize_129 : decode cX10_resize 129 = .ok (.aload_n 0, 1) := by decide +kernel
theorem dX10_resize_130 : decode cX10_resize 130 = .ok (.getfield 25, 3) := by decide +kernel
theorem dX10_resize_133 : decode cX10_resize 133 = .ok (.iload_n 1, 1) := by decide +kernel
theorem dX10_resize_134 : decode cX10_resize 134 = .ok (.iload 4, 2) := by decide +kernel
theorem dX10_resize_136 : decode cX10_resize 136 = .ok (.iastore, 1) := by decide +kernel
theorem dX10_resize_137 : decode cX10_resize 137 = .ok (.aload_n 0, 1) := by decide +kernel
theorem dX10_resize_138 : decode cX10_resize 138 = .ok (.getfield 28, 3) := by decide +kernel
theorem dX10_resize_141 : decode cX10_resize 141 = .ok (.iload_n 1, 1) := by decide +kernel
theorem dX10_resize_142 : decode cX10_resize 142 = .ok (.iload 5, 2) := by decide +kernel
theorem dX10_resize_144 : decode cX10_resize 144 = .ok (.iastore, 1) := by decide +kernel
theorem dX10_resize_145 : decode cX10_resize 145 = .ok (.bipush (-6), 2) := by decide +kernel
theorem dX10_resize_147 : decode cX10_resize 147 = .ok (.ireturn, 1) := by decide +kernel
theorem dX10_resize_148 : decode cX10_resize 148 = .ok (.iconst 0, 1) := by decide +kernel
theorem dX10_resize_149 : decode cX10_resize 149 = .ok (.istore 6, 2) := by decide +kernel
theorem dX10_resize_151 : decode cX10_resize 151 = .ok (.iload 6, 2) := by decide +kernel
theorem dX10_resize_153 : decode cX10_resize 153 = .ok (.iload_n 2, 1) := by decide +kernel
theorem dX10_resize_154 : decode cX10_resize 154 = .ok (.if_icmp .ge 40, 3) := by decide +kernel
theorem dX10_resize_157 : decode cX10_resize 157 = .ok (.aload_n 0, 1) := by decide +kernel
theorem dX10_resize_158 : decode cX10_resize 158 = .ok (.getfield 69, 3) := by decide +kernel
theorem dX10_resize_161 : decode cX10_resize 161 = .ok (.aload_n 0, 1) := by decide +kernel
theorem dX10_resize_162 : decode cX10_resize 162 = .ok (.getfield 25, 3) := by decide +kernel
theorem dX10_resize_165 : decode cX10_resize 165 = .ok (.iload_n 1, 1) := by decide +kernel
theorem dX10_resize_166 : decode cX10_resize 166 = .ok (.iaload, 1) := by decide +kernel
theorem dX10_resize_167 : decode cX10_resize 167 = .ok (.iload 6, 2) := by decide +kernel
theorem dX10_resize_169 : decode cX10_resize 169 = .ok (.iadd, 1) := by decide +kernel
theorem dX10_resize_170 : decode cX10_resize 170 = .ok (.iload 6, 2) := by decide +kernel
theorem dX10_resize_172 : decode cX10_resize 172 = .ok (.iload_n 3, 1) := by decide +kernel
theorem dX10_resize_173 : decode cX10_resize 173 = .ok (.if_icmp .ge 13, 3) := by decide +kernel
theorem dX10_resize_176 : decode cX10_resize 176 = .ok (.aload_n 0, 1) := by decide +kernel
theorem dX10_resize_177 : decode cX10_resize 177 = .ok (.getfield 44, 3) := by decide +kernel
theorem dX10_resize_180 : decode cX10_resize 180 = .ok (.iload 6, 2) := by decide +kernel
theorem dX10_resize_182 : decode cX10_resize 182 = .ok (.iaload, 1) := by decide +kernel
theorem dX10_resize_183 : decode cX10_resize 183 = .ok (.goto 4, 3) := by decide +kernel
theorem dX10_resize_186 : decode cX10_resize 186 = .ok (.iconst 0, 1) := by decide +kernel
theorem dX10_resize_187 : decode cX10_resize 187 = .ok (.iastore, 1) := by decide +kernel
theorem dX10_resize_188 : decode cX10_resize 188 = .ok (.iinc 6 1, 3) := by decide +kernel
theorem dX10_resize_191 : decode cX10_resize 191 = .ok (.goto (-40), 3) := by decide +kernel
theorem dX10_resize_194 : decode cX10_resize 194 = .ok (.iconst 0, 1) := by decide +kernel
theorem dX10_resize_195 : decode cX10_resize 195 = .ok (.ireturn, 1) := by decide +kernel
theorem dX10_goesToEnd_0 : decode cX10_goesToEnd 0 = .ok (.aload_n 0, 1) := by decide +kernel
theorem dX10_goesToEnd_1 : decode cX10_goesToEnd 1 = .ok (.getfield 31, 3) := by decide +kernel
theorem dX10_goesToEnd_4 : decode cX10_goesToEnd 4 = .ok (.iload_n 1, 1) := by decide +kernel
theorem dX10_goesToEnd_5 : decode cX10_goesToEnd 5 = .ok (.aload_n 0, 1) := by decide +kernel
theorem dX10_goesToEnd_6 : decode cX10_goesToEnd 6 = .ok (.getfield 99, 3) := by decide +kernel
theorem dX10_goesToEnd_9 : decode cX10_goesToEnd 9 = .ok (.iastore, 1) := by decide +kernel
theorem dX10_goesToEnd_10 : decode cX10_goesToEnd 10 = .ok (.aload_n 0, 1) := by decide +kernel
theorem dX10_goesToEnd_11 : decode cX10_goesToEnd 11 = .ok (.dup, 1) := by decide +kernel
theorem dX10_goesToEnd_12 : decode cX10_goesToEnd 12 = .ok (.getfield 99, 3) := by decide +kernel
theorem dX10_goesToEnd_15 : decode cX10_goesToEnd 15 = .ok (.iconst 1, 1) := by decide +kernel
theorem dX10_goesToEnd_16 : decode cX10_goesToEnd 16 = .ok (.iadd, 1) := by decide +kernel
theorem dX10_goesToEnd_17 : decode cX10_goesToEnd 17 = .ok (.putfield 99, 3) := by decide +kernel
theorem dX10_goesToEnd_20 : decode cX10_goesToEnd 20 = .ok (.return_, 1) := by decide +kernel
theorem dX10_submit_0 : decode cX10_submit 0 = .ok (.aload_n 0, 1) := by decide +kernel
theorem dX10_submit_1 : decode cX10_submit 1 = .ok (.iload_n 1, 1) := by decide +kernel
theorem dX10_submit_2 : decode cX10_submit 2 = .ok (.invokevirtual 96, 3) := by decide +kernel
theorem dX10_submit_5 : decode cX10_submit 5 = .ok (.ifCond .ne 5, 3) := by decide +kernel
theorem dX10_submit_8 : decode cX10_submit 8 = .ok (.iconst (-1), 1) := by decide +kernel
theorem dX10_submit_9 : decode cX10_submit 9 = .ok (.ireturn, 1) := by decide +kernel
theorem dX10_submit_10 : decode cX10_submit 10 = .ok (.aload_n 0, 1) := by decide +kernel
theorem dX10_submit_11 : decode cX10_submit 11 = .ok (.getfield 9, 3) := by decide +kernel
theorem dX10_submit_14 : decode cX10_submit 14 = .ok (.iload_n 1, 1) := by decide +kernel
theorem dX10_submit_15 : decode cX10_submit 15 = .ok (.iaload, 1) := by decide +kernel
theorem dX10_submit_16 : decode cX10_submit 16 = .ok (.iconst 1, 1) := by decide +kernel
theorem dX10_submit_17 : decode cX10_submit 17 = .ok (.if_icmp .eq 6, 3) := by decide +kernel
theorem dX10_submit_20 : decode cX10_submit 20 = .ok (.bipush (-3), 2) := by decide +kernel
theorem dX10_submit_22 : decode cX10_submit 22 = .ok (.ireturn, 1) := by decide +kernel
theorem dX10_submit_23 : decode cX10_submit 23 = .ok (.aload_n 0, 1) := by decide +kernel
theorem dX10_submit_24 : decode cX10_submit 24 = .ok (.getfield 9, 3) := by decide +kernel
theorem dX10_submit_27 : decode cX10_submit 27 = .ok (.iload_n 1, 1) := by decide +kernel
theorem dX10_submit_28 : decode cX10_submit 28 = .ok (.iconst 2, 1) := by decide +kernel
theorem dX10_submit_29 : decode cX10_submit 29 = .ok (.iastore, 1) := by decide +kernel
theorem dX10_submit_30 : decode cX10_submit 30 = .ok (.aload_n 0, 1) := by decide +kernel
theorem dX10_submit_31 : decode cX10_submit 31 = .ok (.iload_n 1, 1) := by decide +kernel
theorem dX10_submit_32 : decode cX10_submit 32 = .ok (.invokevirtual 102, 3) := by decide +kernel
theorem dX10_submit_35 : decode cX10_submit 35 = .ok (.aload_n 0, 1) := by decide +kernel
theorem dX10_submit_36 : decode cX10_submit 36 = .ok (.getfield 34, 3) := by decide +kernel
theorem dX10_submit_39 : decode cX10_submit 39 = .ok (.iload_n 1, 1) := by decide +kernel
theorem dX10_submit_40 : decode cX10_submit 40 = .ok (.aload_n 0, 1) := by decide +kernel
theorem dX10_submit_41 : decode cX10_submit 41 = .ok (.getfield 106, 3) := by decide +kernel
theorem dX10_submit_44 : decode cX10_submit 44 = .ok (.iastore, 1) := by decide +kernel
theorem dX10_submit_45 : decode cX10_submit 45 = .ok (.aload_n 0, 1) := by decide +kernel
theorem dX10_submit_46 : decode cX10_submit 46 = .ok (.iload_n 1, 1) := by decide +kernel
theorem dX10_submit_47 : decode cX10_submit 47 = .ok (.invokevirtual 109, 3) := by decide +kernel
theorem dX10_submit_50 : decode cX10_submit 50 = .ok (.aload_n 0, 1) := by decide +kernel
theorem dX10_submit_51 : decode cX10_submit 51 = .ok (.getfield 40, 3) := by decide +kernel
theorem dX10_submit_54 : decode cX10_submit 54 = .ok (.iload_n 1, 1) := by decide +kernel
theorem dX10_submit_55 : decode cX10_submit 55 = .ok (.aload_n 0, 1) := by decide +kernel
theorem dX10_submit_56 : decode cX10_submit 56 = .ok (.invokevirtual 112, 3) := by decide +kernel
theorem dX10_submit_59 : decode cX10_submit 59 = .ok (.bastore, 1) := by decide +kernel
theorem dX10_submit_60 : decode cX10_submit 60 = .ok (.aload_n 0, 1) := by decide +kernel
theorem dX10_submit_61 : decode cX10_submit 61 = .ok (.invokevirtual 116, 3) := by decide +kernel
theorem dX10_submit_64 : decode cX10_submit 64 = .ok (.iconst 0, 1) := by decide +kernel
theorem dX10_submit_65 : decode cX10_submit 65 = .ok (.ireturn, 1) := by decide +kernel
theorem dX10_cancel_0 : decode cX10_cancel 0 = .ok (.aload_n 0, 1) := by decide +kernel
theorem dX10_cancel_1 : decode cX10_cancel 1 = .ok (.iload_n 1, 1) := by decide +kernel
theorem dX10_cancel_2 : decode cX10_cancel 2 = .ok (.invokevirtual 96, 3) := by decide +kernel
theorem dX10_cancel_5 : decode cX10_cancel 5 = .ok (.ifCond .ne 5, 3) := by decide +kernel
theorem dX10_cancel_8 : decode cX10_cancel 8 = .ok (.iconst (-1), 1) := by decide +kernel
theorem dX10_cancel_9 : decode cX10_cancel 9 = .ok (.ireturn, 1) := by decide +kernel
theorem dX10_cancel_10 : decode cX10_cancel 10 = .ok (.aload_n 0, 1) := by decide +kernel
theorem dX10_cancel_11 : decode cX10_cancel 11 = .ok (.getfield 9, 3) := by decide +kernel
theorem dX10_cancel_14 : decode cX10_cancel 14 = .ok (.iload_n 1, 1) := by decide +kernel
theorem dX10_cancel_15 : decode cX10_cancel 15 = .ok (.iaload, 1) := by decide +kernel
theorem dX10_cancel_16 : decode cX10_cancel 16 = .ok (.iconst 2, 1) := by decide +kernel
theorem dX10_cancel_17 : decode cX10_cancel 17 = .ok (.if_icmp .eq 6, 3) := by decide +kernel
theorem dX10_cancel_20 : decode cX10_cancel 20 = .ok (.bipush (-3), 2) := by decide +kernel
theorem dX10_cancel_22 : decode cX10_cancel 22 = .ok (.ireturn, 1) := by decide +kernel
theorem dX10_cancel_23 : decode cX10_cancel 23 = .ok (.aload_n 0, 1) := by decide +kernel
theorem dX10_cancel_24 : decode cX10_cancel 24 = .ok (.getfield 9, 3) := by decide +kernel
theorem dX10_cancel_27 : decode cX10_cancel 27 = .ok (.iload_n 1, 1) := by decide +kernel
theorem dX10_cancel_28 : decode cX10_cancel 28 = .ok (.iconst 4, 1) := by decide +kernel
theorem dX10_cancel_29 : decode cX10_cancel 29 = .ok (.iastore, 1) := by decide +kernel
theorem dX10_cancel_30 : decode cX10_cancel 30 = .ok (.iconst 0, 1) := by decide +kernel
theorem dX10_cancel_31 : decode cX10_cancel 31 = .ok (.ireturn, 1) := by decide +kernel
theorem dX10_raise_0 : decode cX10_raise 0 = .ok (.aload_n 0, 1) := by decide +kernel
theorem dX10_raise_1 : decode cX10_raise 1 = .ok (.iload_n 1, 1) := by decide +kernel
theorem dX10_raise_2 : decode cX10_raise 2 = .ok (.invokevirtual 96, 3) := by decide +kernel
theorem dX10_raise_5 : decode cX10_raise 5 = .ok (.ifCond .ne 5, 3) := by decide +kernel
theorem dX10_raise_8 : decode cX10_raise 8 = .ok (.iconst (-1), 1) := by decide +kernel
theorem dX10_raise_9 : decode cX10_raise 9 = .ok (.ireturn, 1) := by decide +kernel
theorem dX10_raise_10 : decode cX10_raise 10 = .ok (.iload_n 2, 1) := by decide +kernel
theorem dX10_raise_11 : decode cX10_raise 11 = .ok (.ifCond .lt 8, 3) := by decide +kernel
theorem dX10_raise_14 : decode cX10_raise 14 = .ok (.iload_n 2, 1) := by decide +kernel
theorem dX10_raise_15 : decode cX10_raise 15 = .ok (.iconst 3, 1) := by decide +kernel
theorem dX10_raise_16 : decode cX10_raise 16 = .ok (.if_icmp .le 6, 3) := by decide +kernel
theorem dX10_raise_19 : decode cX10_raise 19 = .ok (.bipush (-4), 2) := by decide +kernel
theorem dX10_raise_21 : decode cX10_raise 21 = .ok (.ireturn, 1) := by decide +kernel
theorem dX10_raise_22 : decode cX10_raise 22 = .ok (.aload_n 0, 1) := by decide +kernel
theorem dX10_raise_23 : decode cX10_raise 23 = .ok (.getfield 9, 3) := by decide +kernel
theorem dX10_raise_26 : decode cX10_raise 26 = .ok (.iload_n 1, 1) := by decide +kernel
theorem dX10_raise_27 : decode cX10_raise 27 = .ok (.iaload, 1) := by decide +kernel
theorem dX10_raise_28 : decode cX10_raise 28 = .ok (.iconst 3, 1) := by decide +kernel
theorem dX10_raise_29 : decode cX10_raise 29 = .ok (.if_icmp .eq 13, 3) := by decide +kernel
theorem dX10_raise_32 : decode cX10_raise 32 = .ok (.aload_n 0, 1) := by decide +kernel
theorem dX10_raise_33 : decode cX10_raise 33 = .ok (.getfield 9, 3) := by decide +kernel
theorem dX10_raise_36 : decode cX10_raise 36 = .ok (.iload_n 1, 1) := by decide +kernel
theorem dX10_raise_37 : decode cX10_raise 37 = .ok (.iaload, 1) := by decide +kernel
theorem dX10_raise_38 : decode cX10_raise 38 = .ok (.iconst 4, 1) := by decide +kernel
theorem dX10_raise_39 : decode cX10_raise 39 = .ok (.if_icmp .ne 6, 3) := by decide +kernel
theorem dX10_raise_42 : decode cX10_raise 42 = .ok (.bipush (-3), 2) := by decide +kernel
theorem dX10_raise_44 : decode cX10_raise 44 = .ok (.ireturn, 1) := by decide +kernel
theorem dX10_raise_45 : decode cX10_raise 45 = .ok (.aload_n 0, 1) := by decide +kernel
theorem dX10_raise_46 : decode cX10_raise 46 = .ok (.getfield 19, 3) := by decide +kernel
theorem dX10_raise_49 : decode cX10_raise 49 = .ok (.iload_n 1, 1) := by decide +kernel
theorem dX10_raise_50 : decode cX10_raise 50 = .ok (.iload_n 2, 1) := by decide +kernel
theorem dX10_raise_51 : decode cX10_raise 51 = .ok (.iastore, 1) := by decide +kernel
theorem dX10_raise_52 : decode cX10_raise 52 = .ok (.aload_n 0, 1) := by decide +kernel
theorem dX10_raise_53 : decode cX10_raise 53 = .ok (.getfield 9, 3) := by decide +kernel
theorem dX10_raise_56 : decode cX10_raise 56 = .ok (.iload_n 1, 1) := by decide +kernel
theorem dX10_raise_57 : decode cX10_raise 57 = .ok (.iaload, 1) := by decide +kernel
theorem dX10_raise_58 : decode cX10_raise 58 = .ok (.iconst 2, 1) := by decide +kernel
theorem dX10_raise_59 : decode cX10_raise 59 = .ok (.if_icmp .ne 8, 3) := by decide +kernel
theorem dX10_raise_62 : decode cX10_raise 62 = .ok (.aload_n 0, 1) := by decide +kernel
theorem dX10_raise_63 : decode cX10_raise 63 = .ok (.iload_n 1, 1) := by decide +kernel
theorem dX10_raise_64 : decode cX10_raise 64 = .ok (.invokevirtual 102, 3) := by decide +kernel
theorem dX10_raise_67 : decode cX10_raise 67 = .ok (.iconst 0, 1) := by decide +kernel
theorem dX10_raise_68 : decode cX10_raise 68 = .ok (.ireturn, 1) := by decide +kernel
theorem dX10_close_0 : decode cX10_close 0 = .ok (.aload_n 0, 1) := by decide +kernel
theorem dX10_close_1 : decode cX10_close 1 = .ok (.iload_n 1, 1) := by decide +kernel
theorem dX10_close_2 : decode cX10_close 2 = .ok (.invokevirtual 96, 3) := by decide +kernel
theorem dX10_close_5 : decode cX10_close 5 = .ok (.ifCond .ne 5, 3) := by decide +kernel
theorem dX10_close_8 : decode cX10_close 8 = .ok (.iconst (-1), 1) := by decide +kernel
theorem dX10_close_9 : decode cX10_close 9 = .ok (.ireturn, 1) := by decide +kernel
theorem dX10_close_10 : decode cX10_close 10 = .ok (.aload_n 0, 1) := by decide +kernel
theorem dX10_close_11 : decode cX10_close 11 = .ok (.getfield 9, 3) := by decide +kernel
theorem dX10_close_14 : decode cX10_close 14 = .ok (.iload_n 1, 1) := by decide +kernel
theorem dX10_close_15 : decode cX10_close 15 = .ok (.iaload, 1) := by decide +kernel
theorem dX10_close_16 : decode cX10_close 16 = .ok (.iconst 2, 1) := by decide +kernel
theorem dX10_close_17 : decode cX10_close 17 = .ok (.if_icmp .ne 6, 3) := by decide +kernel
theorem dX10_close_20 : decode cX10_close 20 = .ok (.bipush (-3), 2) := by decide +kernel
theorem dX10_close_22 : decode cX10_close 22 = .ok (.ireturn, 1) := by decide +kernel
theorem dX10_close_23 : decode cX10_close 23 = .ok (.aload_n 0, 1) := by decide +kernel
theorem dX10_close_24 : decode cX10_close 24 = .ok (.getfield 9, 3) := by decide +kernel
theorem dX10_close_27 : decode cX10_close 27 = .ok (.iload_n 1, 1) := by decide +kernel
theorem dX10_close_28 : decode cX10_close 28 = .ok (.iconst 0, 1) := by decide +kernel
theorem dX10_close_29 : decode cX10_close 29 = .ok (.iastore, 1) := by decide +kernel
theorem dX10_close_30 : decode cX10_close 30 = .ok (.iconst 0, 1) := by decide +kernel
theorem dX10_close_31 : decode cX10_close 31 = .ok (.ireturn, 1) := by decide +kernel
theorem dX10_pack_0 : decode cX10_pack 0 = .ok (.iconst 0, 1) := by decide +kernel
theorem dX10_pack_1 : decode cX10_pack 1 = .ok (.istore_n 1, 1) := by decide +kernel
theorem dX10_pack_2 : decode cX10_pack 2 = .ok (.iconst 0, 1) := by decide +kernel
theorem dX10_pack_3 : decode cX10_pack 3 = .ok (.istore_n 2, 1) := by decide +kernel
theorem dX10_pack_4 : decode cX10_pack 4 = .ok (.aload_n 0, 1) := by decide +kernel
theorem dX10_pack_5 : decode cX10_pack 5 = .ok (.iconst 0, 1) := by decide +kernel
theorem dX10_pack_6 : decode cX10_pack 6 = .ok (.invokevirtual 80, 3) := by decide +kernel
theorem dX10_pack_9 : decode cX10_pack 9 = .ok (.istore_n 3, 1) := by decide +kernel
theorem dX10_pack_10 : decode cX10_pack 10 = .ok (.iload_n 3, 1) := by decide +kernel
theorem dX10_pack_11 : decode cX10_pack 11 = .ok (.iconst (-1), 1) := by decide +kernel
theorem dX10_pack_12 : decode cX10_pack 12 = .ok (.if_icmp .eq 113, 3) := by decide +kernel
theorem dX10_pack_15 : decode cX10_pack 15 = .ok (.aload_n 0, 1) := by decide +kernel
theorem dX10_pack_16 : decode cX10_pack 16 = .ok (.iload_n 3, 1) := by decide +kernel
theorem dX10_pack_17 : decode cX10_pack 17 = .ok (.invokevirtual 83, 3) := by decide +kernel
theorem dX10_pack_20 : decode cX10_pack 20 = .ok (.istore 4, 2) := by decide +kernel
theorem dX10_pack_22 : decode cX10_pack 22 = .ok (.aload_n 0, 1) := by decide +kernel
theorem dX10_pack_23 : decode cX10_pack 23 = .ok (.iload_n 3, 1) := by decide +kernel
theorem dX10_pack_24 : decode cX10_pack 24 = .ok (.invokevirtual 86, 3) := by decide +kernel
theorem dX10_pack_27 : decode cX10_pack 27 = .ok (.istore 5, 2) := by decide +kernel
theorem dX10_pack_29 : decode cX10_pack 29 = .ok (.iconst 0, 1) := by decide +kernel
theorem dX10_pack_30 : decode cX10_pack 30 = .ok (.istore 6, 2) := by decide +kernel
theorem dX10_pack_32 : decode cX10_pack 32 = .ok (.iload 6, 2) := by decide +kernel
theorem dX10_pack_34 : decode cX10_pack 34 = .ok (.iload 5, 2) := by decide +kernel
theorem dX10_pack_36 : decode cX10_pack 36 = .ok (.if_icmp .ge 34, 3) := by decide +kernel
theorem dX10_pack_39 : decode cX10_pack 39 = .ok (.iload 4, 2) := by decide +kernel
theorem dX10_pack_41 : decode cX10_pack 41 = .ok (.iload_n 1, 1) := by decide +kernel
theorem dX10_pack_42 : decode cX10_pack 42 = .ok (.if_icmp .eq 28, 3) := by decide +kernel
theorem dX10_pack_45 : decode cX10_pack 45 = .ok (.aload_n 0, 1) := by decide +kernel
theorem dX10_pack_46 : decode cX10_pack 46 = .ok (.getfield 69, 3) := by decide +kernel
theorem dX10_pack_49 : decode cX10_pack 49 = .ok (.iload_n 1, 1) := by decide +kernel
theorem dX10_pack_50 : decode cX10_pack 50 = .ok (.iload 6, 2) := by decide +kernel
theorem dX10_pack_52 : decode cX10_pack 52 = .ok (.iadd, 1) := by decide +kernel
theorem dX10_pack_53 : decode cX10_pack 53 = .ok (.aload_n 0, 1) := by decide +kernel
theorem dX10_pack_54 : decode cX10_pack 54 = .ok (.getfield 69, 3) := by decide +kernel
theorem dX10_pack_57 : decode cX10_pack 57 = .ok (.iload 4, 2) := by decide +kernel
theorem dX10_pack_59 : decode cX10_pack 59 = .ok (.iload 6, 2) := by decide +kernel
theorem dX10_pack_61 : decode cX10_pack 61 = .ok (.iadd, 1) := by decide +kernel
theorem dX10_pack_62 : decode cX10_pack 62 = .ok (.iaload, 1) := by decide +kernel
theorem dX10_pack_63 : decode cX10_pack 63 = .ok (.iastore, 1) := by decide +kernel
theorem dX10_pack_64 : decode cX10_pack 64 = .ok (.iinc 6 1, 3) := by decide +kernel
theorem dX10_pack_67 : decode cX10_pack 67 = .ok (.goto (-35), 3) := by decide +kernel
theorem dX10_pack_70 : decode cX10_pack 70 = .ok (.iload 4, 2) := by decide +kernel
theorem dX10_pack_72 : decode cX10_pack 72 = .ok (.iload_n 1, 1) := by decide +kernel
theorem dX10_pack_73 : decode cX10_pack 73 = .ok (.if_icmp .eq 8, 3) := by decide +kernel
theorem dX10_pack_76 : decode cX10_pack 76 = .ok (.iload_n 2, 1) := by decide +kernel
theorem dX10_pack_77 : decode cX10_pack 77 = .ok (.iload 5, 2) := by decide +kernel
theorem dX10_pack_79 : decode cX10_pack 79 = .ok (.iadd, 1) := by decide +kernel
theorem dX10_pack_80 : decode cX10_pack 80 = .ok (.istore_n 2, 1) := by decide +kernel
theorem dX10_pack_81 : decode cX10_pack 81 = .ok (.iload_n 3, 1) := by decide +kernel
theorem dX10_pack_82 : decode cX10_pack 82 = .ok (.bipush 100, 2) := by decide +kernel
theorem dX10_pack_84 : decode cX10_pack 84 = .ok (.if_icmp .lt 16, 3) := by decide +kernel
theorem dX10_pack_87 : decode cX10_pack 87 = .ok (.aload_n 0, 1) := by decide +kernel
theorem dX10_pack_88 : decode cX10_pack 88 = .ok (.getfield 28, 3) := by decide +kernel
theorem dX10_pack_91 : decode cX10_pack 91 = .ok (.iload_n 3, 1) := by decide +kernel
theorem dX10_pack_92 : decode cX10_pack 92 = .ok (.bipush 100, 2) := by decide +kernel
theorem dX10_pack_94 : decode cX10_pack 94 = .ok (.isub, 1) := by decide +kernel
theorem dX10_pack_95 : decode cX10_pack 95 = .ok (.iload_n 1, 1) := by decide +kernel
theorem dX10_pack_96 : decode cX10_pack 96 = .ok (.iastore, 1) := by decide +kernel
theorem dX10_pack_97 : decode cX10_pack 97 = .ok (.goto 10, 3) := by decide +kernel
theorem dX10_pack_100 : decode cX10_pack 100 = .ok (.aload_n 0, 1) := by decide +kernel
theorem dX10_pack_101 : decode cX10_pack 101 = .ok (.getfield 25, 3) := by decide +kernel
theorem dX10_pack_104 : decode cX10_pack 104 = .ok (.iload_n 3, 1) := by decide +kernel
theorem dX10_pack_105 : decode cX10_pack 105 = .ok (.iload_n 1, 1) := by decide +kernel
theorem dX10_pack_106 : decode cX10_pack 106 = .ok (.iastore, 1) := by decide +kernel
theorem dX10_pack_107 : decode cX10_pack 107 = .ok (.iload_n 1, 1) := by decide +kernel
theorem dX10_pack_108 : decode cX10_pack 108 = .ok (.iload 5, 2) := by decide +kernel
theorem dX10_pack_110 : decode cX10_pack 110 = .ok (.iadd, 1) := by decide +kernel
theorem dX10_pack_111 : decode cX10_pack 111 = .ok (.istore_n 1, 1) := by decide +kernel
theorem dX10_pack_112 : decode cX10_pack 112 = .ok (.aload_n 0, 1) := by decide +kernel
theorem dX10_pack_113 : decode cX10_pack 113 = .ok (.iload 4, 2) := by decide +kernel
theorem dX10_pack_115 : decode cX10_pack 115 = .ok (.iload 5, 2) := by decide +kernel
theorem dX10_pack_117 : decode cX10_pack 117 = .ok (.iadd, 1) := by decide +kernel
theorem dX10_pack_118 : decode cX10_pack 118 = .ok (.invokevirtual 80, 3) := by decide +kernel
theorem dX10_pack_121 : decode cX10_pack 121 = .ok (.istore_n 3, 1) := by decide +kernel
theorem dX10_pack_122 : decode cX10_pack 122 = .ok (.goto (-112), 3) := by decide +kernel
theorem dX10_pack_125 : decode cX10_pack 125 = .ok (.iload_n 2, 1) := by decide +kernel
theorem dX10_pack_126 : decode cX10_pack 126 = .ok (.ireturn, 1) := by decide +kernel
theorem dX10_takesUp_0 : decode cX10_takesUp 0 = .ok (.aload_n 0, 1) := by decide +kernel
theorem dX10_takesUp_1 : decode cX10_takesUp 1 = .ok (.iload_n 1, 1) := by decide +kernel
theorem dX10_takesUp_2 : decode cX10_takesUp 2 = .ok (.putfield 119, 3) := by decide +kernel
theorem dX10_takesUp_5 : decode cX10_takesUp 5 = .ok (.aload_n 0, 1) := by decide +kernel
theorem dX10_takesUp_6 : decode cX10_takesUp 6 = .ok (.aload_n 0, 1) := by decide +kernel
theorem dX10_takesUp_7 : decode cX10_takesUp 7 = .ok (.getfield 13, 3) := by decide +kernel
theorem dX10_takesUp_10 : decode cX10_takesUp 10 = .ok (.iload_n 1, 1) := by decide +kernel
theorem dX10_takesUp_11 : decode cX10_takesUp 11 = .ok (.iaload, 1) := by decide +kernel
theorem dX10_takesUp_12 : decode cX10_takesUp 12 = .ok (.putfield 122, 3) := by decide +kernel
theorem dX10_takesUp_15 : decode cX10_takesUp 15 = .ok (.bipush 10, 2) := by decide +kernel
theorem dX10_takesUp_17 : decode cX10_takesUp 17 = .ok (.iload_n 1, 1) := by decide +kernel
theorem dX10_takesUp_18 : decode cX10_takesUp 18 = .ok (.imul, 1) := by decide +kernel
theorem dX10_takesUp_19 : decode cX10_takesUp 19 = .ok (.istore_n 2, 1) := by decide +kernel
theorem dX10_takesUp_20 : decode cX10_takesUp 20 = .ok (.aload_n 0, 1) := by decide +kernel
theorem dX10_takesUp_21 : decode cX10_takesUp 21 = .ok (.aload_n 0, 1) := by decide +kernel
theorem dX10_takesUp_22 : decode cX10_takesUp 22 = .ok (.getfield 47, 3) := by decide +kernel
theorem dX10_takesUp_25 : decode cX10_takesUp 25 = .ok (.iload_n 2, 1) := by decide +kernel
theorem dX10_takesUp_26 : decode cX10_takesUp 26 = .ok (.iaload, 1) := by decide +kernel
theorem dX10_takesUp_27 : decode cX10_takesUp 27 = .ok (.putfield 125, 3) := by decide +kernel
theorem dX10_takesUp_30 : decode cX10_takesUp 30 = .ok (.aload_n 0, 1) := by decide +kernel
theorem dX10_takesUp_31 : decode cX10_takesUp 31 = .ok (.aload_n 0, 1) := by decide +kernel
theorem dX10_takesUp_32 : decode cX10_takesUp 32 = .ok (.getfield 47, 3) := by decide +kernel
theorem dX10_takesUp_35 : decode cX10_takesUp 35 = .ok (.iload_n 2, 1) := by decide +kernel
theorem dX10_takesUp_36 : decode cX10_takesUp 36 = .ok (.iconst 1, 1) := by decide +kernel
theorem dX10_takesUp_37 : decode cX10_takesUp 37 = .ok (.iadd, 1) := by decide +kernel
theorem dX10_takesUp_38 : decode cX10_takesUp 38 = .ok (.iaload, 1) := by decide +kernel
theorem dX10_takesUp_39 : decode cX10_takesUp 39 = .ok (.putfield 128, 3) := by decide +kernel
theorem dX10_takesUp_42 : decode cX10_takesUp 42 = .ok (.aload_n 0, 1) := by decide +kernel
theorem dX10_takesUp_43 : decode cX10_takesUp 43 = .ok (.aload_n 0, 1) := by decide +kernel
theorem dX10_takesUp_44 : decode cX10_takesUp 44 = .ok (.getfield 47, 3) := by decide +kernel
theorem dX10_takesUp_47 : decode cX10_takesUp 47 = .ok (.iload_n 2, 1) := by decide +kernel
theorem dX10_takesUp_48 : decode cX10_takesUp 48 = .ok (.iconst 2, 1) := by decide +kernel
theorem dX10_takesUp_49 : decode cX10_takesUp 49 = .ok (.iadd, 1) := by decide +kernel
theorem dX10_takesUp_50 : decode cX10_takesUp 50 = .ok (.iaload, 1) := by decide +kernel
theorem dX10_takesUp_51 : decode cX10_takesUp 51 = .ok (.putfield 131, 3) := by decide +kernel
theorem dX10_takesUp_54 : decode cX10_takesUp 54 = .ok (.aload_n 0, 1) := by decide +kernel
theorem dX10_takesUp_55 : decode cX10_takesUp 55 = .ok (.aload_n 0, 1) := by decide +kernel
theorem dX10_takesUp_56 : decode cX10_takesUp 56 = .ok (.getfield 47, 3) := by decide +kernel
theorem dX10_takesUp_59 : decode cX10_takesUp 59 = .ok (.iload_n 2, 1) := by decide +kernel
theorem dX10_takesUp_60 : decode cX10_takesUp 60 = .ok (.iconst 3, 1) := by decide +kernel
theorem dX10_takesUp_61 : decode cX10_takesUp 61 = .ok (.iadd, 1) := by decide +kernel
theorem dX10_takesUp_62 : decode cX10_takesUp 62 = .ok (.iaload, 1) := by decide +kernel
theorem dX10_takesUp_63 : decode cX10_takesUp 63 = .ok (.putfield 134, 3) := by decide +kernel
theorem dX10_takesUp_66 : decode cX10_takesUp 66 = .ok (.aload_n 0, 1) := by decide +kernel
theorem dX10_takesUp_67 : decode cX10_takesUp 67 = .ok (.aload_n 0, 1) := by decide +kernel
theorem dX10_takesUp_68 : decode cX10_takesUp 68 = .ok (.getfield 47, 3) := by decide +kernel
theorem dX10_takesUp_71 : decode cX10_takesUp 71 = .ok (.iload_n 2, 1) := by decide +kernel
theorem dX10_takesUp_72 : decode cX10_takesUp 72 = .ok (.iconst 4, 1) := by decide +kernel
theorem dX10_takesUp_73 : decode cX10_takesUp 73 = .ok (.iadd, 1) := by decide +kernel
theorem dX10_takesUp_74 : decode cX10_takesUp 74 = .ok (.iaload, 1) := by decide +kernel
theorem dX10_takesUp_75 : decode cX10_takesUp 75 = .ok (.putfield 137, 3) := by decide +kernel
theorem dX10_takesUp_78 : decode cX10_takesUp 78 = .ok (.aload_n 0, 1) := by decide +kernel
theorem dX10_takesUp_79 : decode cX10_takesUp 79 = .ok (.aload_n 0, 1) := by decide +kernel
theorem dX10_takesUp_80 : decode cX10_takesUp 80 = .ok (.getfield 47, 3) := by decide +kernel
theorem dX10_takesUp_83 : decode cX10_takesUp 83 = .ok (.iload_n 2, 1) := by decide +kernel
theorem dX10_takesUp_84 : decode cX10_takesUp 84 = .ok (.iconst 5, 1) := by decide +kernel
theorem dX10_takesUp_85 : decode cX10_takesUp 85 = .ok (.iadd, 1) := by decide +kernel
theorem dX10_takesUp_86 : decode cX10_takesUp 86 = .ok (.iaload, 1) := by decide +kernel
theorem dX10_takesUp_87 : decode cX10_takesUp 87 = .ok (.putfield 140, 3) := by decide +kernel
theorem dX10_takesUp_90 : decode cX10_takesUp 90 = .ok (.aload_n 0, 1) := by decide +kernel
theorem dX10_takesUp_91 : decode cX10_takesUp 91 = .ok (.aload_n 0, 1) := by decide +kernel
theorem dX10_takesUp_92 : decode cX10_takesUp 92 = .ok (.getfield 47, 3) := by decide +kernel
theorem dX10_takesUp_95 : decode cX10_takesUp 95 = .ok (.iload_n 2, 1) := by decide +kernel
theorem dX10_takesUp_96 : decode cX10_takesUp 96 = .ok (.bipush 6, 2) := by decide +kernel
theorem dX10_takesUp_98 : decode cX10_takesUp 98 = .ok (.iadd, 1) := by decide +kernel
theorem dX10_takesUp_99 : decode cX10_takesUp 99 = .ok (.iaload, 1) := by decide +kernel
theorem dX10_takesUp_100 : decode cX10_takesUp 100 = .ok (.putfield 143, 3) := by decide +kernel
theorem dX10_takesUp_103 : decode cX10_takesUp 103 = .ok (.aload_n 0, 1) := by decide +kernel
theorem dX10_takesUp_104 : decode cX10_takesUp 104 = .ok (.aload_n 0, 1) := by decide +kernel
theorem dX10_takesUp_105 : decode cX10_takesUp 105 = .ok (.getfield 47, 3) := by decide +kernel
theorem dX10_takesUp_108 : decode cX10_takesUp 108 = .ok (.iload_n 2, 1) := by decide +kernel
theorem dX10_takesUp_109 : decode cX10_takesUp 109 = .ok (.bipush 7, 2) := by decide +kernel
theorem dX10_takesUp_111 : decode cX10_takesUp 111 = .ok (.iadd, 1) := by decide +kernel
theorem dX10_takesUp_112 : decode cX10_takesUp 112 = .ok (.iaload, 1) := by decide +kernel
theorem dX10_takesUp_113 : decode cX10_takesUp 113 = .ok (.putfield 146, 3) := by decide +kernel
theorem dX10_takesUp_116 : decode cX10_takesUp 116 = .ok (.aload_n 0, 1) := by decide +kernel
theorem dX10_takesUp_117 : decode cX10_takesUp 117 = .ok (.aload_n 0, 1) := by decide +kernel
theorem dX10_takesUp_118 : decode cX10_takesUp 118 = .ok (.getfield 47, 3) := by decide +kernel
theorem dX10_takesUp_121 : decode cX10_takesUp 121 = .ok (.iload_n 2, 1) := by decide +kernel
theorem dX10_takesUp_122 : decode cX10_takesUp 122 = .ok (.bipush 8, 2) := by decide +kernel
theorem dX10_takesUp_124 : decode cX10_takesUp 124 = .ok (.iadd, 1) := by decide +kernel
theorem dX10_takesUp_125 : decode cX10_takesUp 125 = .ok (.iaload, 1) := by decide +kernel
theorem dX10_takesUp_126 : decode cX10_takesUp 126 = .ok (.putfield 149, 3) := by decide +kernel
theorem dX10_takesUp_129 : decode cX10_takesUp 129 = .ok (.aload_n 0, 1) := by decide +kernel
theorem dX10_takesUp_130 : decode cX10_takesUp 130 = .ok (.aload_n 0, 1) := by decide +kernel
theorem dX10_takesUp_131 : decode cX10_takesUp 131 = .ok (.getfield 47, 3) := by decide +kernel
theorem dX10_takesUp_134 : decode cX10_takesUp 134 = .ok (.iload_n 2, 1) := by decide +kernel
theorem dX10_takesUp_135 : decode cX10_takesUp 135 = .ok (.bipush 9, 2) := by decide +kernel
theorem dX10_takesUp_137 : decode cX10_takesUp 137 = .ok (.iadd, 1) := by decide +kernel
theorem dX10_takesUp_138 : decode cX10_takesUp 138 = .ok (.iaload, 1) := by decide +kernel
theorem dX10_takesUp_139 : decode cX10_takesUp 139 = .ok (.putfield 152, 3) := by decide +kernel
theorem dX10_takesUp_142 : decode cX10_takesUp 142 = .ok (.return_, 1) := by decide +kernel
theorem dX10_putsBy_0 : decode cX10_putsBy 0 = .ok (.bipush 10, 2) := by decide +kernel
theorem dX10_putsBy_2 : decode cX10_putsBy 2 = .ok (.aload_n 0, 1) := by decide +kernel
theorem dX10_putsBy_3 : decode cX10_putsBy 3 = .ok (.getfield 119, 3) := by decide +kernel
theorem dX10_putsBy_6 : decode cX10_putsBy 6 = .ok (.imul, 1) := by decide +kernel
theorem dX10_putsBy_7 : decode cX10_putsBy 7 = .ok (.istore_n 1, 1) := by decide +kernel
theorem dX10_putsBy_8 : decode cX10_putsBy 8 = .ok (.aload_n 0, 1) := by decide +kernel
theorem dX10_putsBy_9 : decode cX10_putsBy 9 = .ok (.getfield 47, 3) := by decide +kernel
theorem dX10_putsBy_12 : decode cX10_putsBy 12 = .ok (.iload_n 1, 1) := by decide +kernel
theorem dX10_putsBy_13 : decode cX10_putsBy 13 = .ok (.aload_n 0, 1) := by decide +kernel
theorem dX10_putsBy_14 : decode cX10_putsBy 14 = .ok (.getfield 125, 3) := by decide +kernel
theorem dX10_putsBy_17 : decode cX10_putsBy 17 = .ok (.iastore, 1) := by decide +kernel
theorem dX10_putsBy_18 : decode cX10_putsBy 18 = .ok (.aload_n 0, 1) := by decide +kernel
theorem dX10_putsBy_19 : decode cX10_putsBy 19 = .ok (.getfield 47, 3) := by decide +kernel
theorem dX10_putsBy_22 : decode cX10_putsBy 22 = .ok (.iload_n 1, 1) := by decide +kernel
theorem dX10_putsBy_23 : decode cX10_putsBy 23 = .ok (.iconst 1, 1) := by decide +kernel
theorem dX10_putsBy_24 : decode cX10_putsBy 24 = .ok (.iadd, 1) := by decide +kernel
theorem dX10_putsBy_25 : decode cX10_putsBy 25 = .ok (.aload_n 0, 1) := by decide +kernel
theorem dX10_putsBy_26 : decode cX10_putsBy 26 = .ok (.getfield 128, 3) := by decide +kernel
theorem dX10_putsBy_29 : decode cX10_putsBy 29 = .ok (.iastore, 1) := by decide +kernel
theorem dX10_putsBy_30 : decode cX10_putsBy 30 = .ok (.aload_n 0, 1) := by decide +kernel
theorem dX10_putsBy_31 : decode cX10_putsBy 31 = .ok (.getfield 47, 3) := by decide +kernel
theorem dX10_putsBy_34 : decode cX10_putsBy 34 = .ok (.iload_n 1, 1) := by decide +kernel
theorem dX10_putsBy_35 : decode cX10_putsBy 35 = .ok (.iconst 2, 1) := by decide +kernel
theorem dX10_putsBy_36 : decode cX10_putsBy 36 = .ok (.iadd, 1) := by decide +kernel
theorem dX10_putsBy_37 : decode cX10_putsBy 37 = .ok (.aload_n 0, 1) := by decide +kernel
theorem dX10_putsBy_38 : decode cX10_putsBy 38 = .ok (.getfield 131, 3) := by decide +kernel
theorem dX10_putsBy_41 : decode cX10_putsBy 41 = .ok (.iastore, 1) := by decide +kernel
theorem dX10_putsBy_42 : decode cX10_putsBy 42 = .ok (.aload_n 0, 1) := by decide +kernel
theorem dX10_putsBy_43 : decode cX10_putsBy 43 = .ok (.getfield 47, 3) := by decide +kernel
theorem dX10_putsBy_46 : decode cX10_putsBy 46 = .ok (.iload_n 1, 1) := by decide +kernel
theorem dX10_putsBy_47 : decode cX10_putsBy 47 = .ok (.iconst 3, 1) := by decide +kernel
theorem dX10_putsBy_48 : decode cX10_putsBy 48 = .ok (.iadd, 1) := by decide +kernel
theorem dX10_putsBy_49 : decode cX10_putsBy 49 = .ok (.aload_n 0, 1) := by decide +kernel
theorem dX10_putsBy_50 : decode cX10_putsBy 50 = .ok (.getfield 134, 3) := by decide +kernel
theorem dX10_putsBy_53 : decode cX10_putsBy 53 = .ok (.iastore, 1) := by decide +kernel
theorem dX10_putsBy_54 : decode cX10_putsBy 54 = .ok (.aload_n 0, 1) := by decide +kernel
theorem dX10_putsBy_55 : decode cX10_putsBy 55 = .ok (.getfield 47, 3) := by decide +kernel
theorem dX10_putsBy_58 : decode cX10_putsBy 58 = .ok (.iload_n 1, 1) := by decide +kernel
theorem dX10_putsBy_59 : decode cX10_putsBy 59 = .ok (.iconst 4, 1) := by decide +kernel
theorem dX10_putsBy_60 : decode cX10_putsBy 60 = .ok (.iadd, 1) := by decide +kernel
theorem dX10_putsBy_61 : decode cX10_putsBy 61 = .ok (.aload_n 0, 1) := by decide +kernel
theorem dX10_putsBy_62 : decode cX10_putsBy 62 = .ok (.getfield 137, 3) := by decide +kernel
theorem dX10_putsBy_65 : decode cX10_putsBy 65 = .ok (.iastore, 1) := by decide +kernel
theorem dX10_putsBy_66 : decode cX10_putsBy 66 = .ok (.aload_n 0, 1) := by decide +kernel
theorem dX10_putsBy_67 : decode cX10_putsBy 67 = .ok (.getfield 47, 3) := by decide +kernel
theorem dX10_putsBy_70 : decode cX10_putsBy 70 = .ok (.iload_n 1, 1) := by decide +kernel
theorem dX10_putsBy_71 : decode cX10_putsBy 71 = .ok (.iconst 5, 1) := by decide +kernel
theorem dX10_putsBy_72 : decode cX10_putsBy 72 = .ok (.iadd, 1) := by decide +kernel
theorem dX10_putsBy_73 : decode cX10_putsBy 73 = .ok (.aload_n 0, 1) := by decide +kernel
theorem dX10_putsBy_74 : decode cX10_putsBy 74 = .ok (.getfield 140, 3) := by decide +kernel
theorem dX10_putsBy_77 : decode cX10_putsBy 77 = .ok (.iastore, 1) := by decide +kernel
theorem dX10_putsBy_78 : decode cX10_putsBy 78 = .ok (.aload_n 0, 1) := by decide +kernel
theorem dX10_putsBy_79 : decode cX10_putsBy 79 = .ok (.getfield 47, 3) := by decide +kernel
theorem dX10_putsBy_82 : decode cX10_putsBy 82 = .ok (.iload_n 1, 1) := by decide +kernel
theorem dX10_putsBy_83 : decode cX10_putsBy 83 = .ok (.bipush 6, 2) := by decide +kernel
theorem dX10_putsBy_85 : decode cX10_putsBy 85 = .ok (.iadd, 1) := by decide +kernel
theorem dX10_putsBy_86 : decode cX10_putsBy 86 = .ok (.aload_n 0, 1) := by decide +kernel
theorem dX10_putsBy_87 : decode cX10_putsBy 87 = .ok (.getfield 143, 3) := by decide +kernel
theorem dX10_putsBy_90 : decode cX10_putsBy 90 = .ok (.iastore, 1) := by decide +kernel
theorem dX10_putsBy_91 : decode cX10_putsBy 91 = .ok (.aload_n 0, 1) := by decide +kernel
theorem dX10_putsBy_92 : decode cX10_putsBy 92 = .ok (.getfield 47, 3) := by decide +kernel
theorem dX10_putsBy_95 : decode cX10_putsBy 95 = .ok (.iload_n 1, 1) := by decide +kernel
theorem dX10_putsBy_96 : decode cX10_putsBy 96 = .ok (.bipush 7, 2) := by decide +kernel
theorem dX10_putsBy_98 : decode cX10_putsBy 98 = .ok (.iadd, 1) := by decide +kernel
theorem dX10_putsBy_99 : decode cX10_putsBy 99 = .ok (.aload_n 0, 1) := by decide +kernel
theorem dX10_putsBy_100 : decode cX10_putsBy 100 = .ok (.getfield 146, 3) := by decide +kernel
theorem dX10_putsBy_103 : decode cX10_putsBy 103 = .ok (.iastore, 1) := by decide +kernel
theorem dX10_putsBy_104 : decode cX10_putsBy 104 = .ok (.aload_n 0, 1) := by decide +kernel
theorem dX10_putsBy_105 : decode cX10_putsBy 105 = .ok (.getfield 47, 3) := by decide +kernel
theorem dX10_putsBy_108 : decode cX10_putsBy 108 = .ok (.iload_n 1, 1) := by decide +kernel
theorem dX10_putsBy_109 : decode cX10_putsBy 109 = .ok (.bipush 8, 2) := by decide +kernel
theorem dX10_putsBy_111 : decode cX10_putsBy 111 = .ok (.iadd, 1) := by decide +kernel
theorem dX10_putsBy_112 : decode cX10_putsBy 112 = .ok (.aload_n 0, 1) := by decide +kernel
theorem dX10_putsBy_113 : decode cX10_putsBy 113 = .ok (.getfield 149, 3) := by decide +kernel
theorem dX10_putsBy_116 : decode cX10_putsBy 116 = .ok (.iastore, 1) := by decide +kernel
theorem dX10_putsBy_117 : decode cX10_putsBy 117 = .ok (.aload_n 0, 1) := by decide +kernel
theorem dX10_putsBy_118 : decode cX10_putsBy 118 = .ok (.getfield 47, 3) := by decide +kernel
theorem dX10_putsBy_121 : decode cX10_putsBy 121 = .ok (.iload_n 1, 1) := by decide +kernel
theorem dX10_putsBy_122 : decode cX10_putsBy 122 = .ok (.bipush 9, 2) := by decide +kernel
theorem dX10_putsBy_124 : decode cX10_putsBy 124 = .ok (.iadd, 1) := by decide +kernel
theorem dX10_putsBy_125 : decode cX10_putsBy 125 = .ok (.aload_n 0, 1) := by decide +kernel
theorem dX10_putsBy_126 : decode cX10_putsBy 126 = .ok (.getfield 152, 3) := by decide +kernel
theorem dX10_putsBy_129 : decode cX10_putsBy 129 = .ok (.iastore, 1) := by decide +kernel
theorem dX10_putsBy_130 : decode cX10_putsBy 130 = .ok (.return_, 1) := by decide +kernel
theorem dX10_at_0 : decode cX10_at 0 = .ok (.aload_n 0, 1) := by decide +kernel
theorem dX10_at_1 : decode cX10_at 1 = .ok (.getfield 69, 3) := by decide +kernel
theorem dX10_at_4 : decode cX10_at 4 = .ok (.aload_n 0, 1) := by decide +kernel
theorem dX10_at_5 : decode cX10_at 5 = .ok (.getfield 25, 3) := by decide +kernel
theorem dX10_at_8 : decode cX10_at 8 = .ok (.aload_n 0, 1) := by decide +kernel
theorem dX10_at_9 : decode cX10_at 9 = .ok (.getfield 119, 3) := by decide +kernel
theorem dX10_at_12 : decode cX10_at 12 = .ok (.iaload, 1) := by decide +kernel
theorem dX10_at_13 : decode cX10_at 13 = .ok (.iload_n 1, 1) := by decide +kernel
theorem dX10_at_14 : decode cX10_at 14 = .ok (.iadd, 1) := by decide +kernel
theorem dX10_at_15 : decode cX10_at 15 = .ok (.iaload, 1) := by decide +kernel
theorem dX10_at_16 : decode cX10_at 16 = .ok (.ireturn, 1) := by decide +kernel
theorem dX10_change_0 : decode cX10_change 0 = .ok (.aload_n 0, 1) := by decide +kernel
theorem dX10_change_1 : decode cX10_change 1 = .ok (.getfield 69, 3) := by decide +kernel
theorem dX10_change_4 : decode cX10_change 4 = .ok (.aload_n 0, 1) := by decide +kernel
theorem dX10_change_5 : decode cX10_change 5 = .ok (.getfield 25, 3) := by decide +kernel
theorem dX10_change_8 : decode cX10_change 8 = .ok (.aload_n 0, 1) := by decide +kernel
theorem dX10_change_9 : decode cX10_change 9 = .ok (.getfield 119, 3) := by decide +kernel
theorem dX10_change_12 : decode cX10_change 12 = .ok (.iaload, 1) := by decide +kernel
theorem dX10_change_13 : decode cX10_change 13 = .ok (.iload_n 1, 1) := by decide +kernel
theorem dX10_change_14 : decode cX10_change 14 = .ok (.iadd, 1) := by decide +kernel
theorem dX10_change_15 : decode cX10_change 15 = .ok (.iaload, 1) := by decide +kernel
theorem dX10_change_16 : decode cX10_change 16 = .ok (.istore_n 3, 1) := by decide +kernel
theorem dX10_change_17 : decode cX10_change 17 = .ok (.aload_n 0, 1) := by decide +kernel
theorem dX10_change_18 : decode cX10_change 18 = .ok (.getfield 69, 3) := by decide +kernel
theorem dX10_change_21 : decode cX10_change 21 = .ok (.aload_n 0, 1) := by decide +kernel
theorem dX10_change_22 : decode cX10_change 22 = .ok (.getfield 25, 3) := by decide +kernel
theorem dX10_change_25 : decode cX10_change 25 = .ok (.aload_n 0, 1) := by decide +kernel
theorem dX10_change_26 : decode cX10_change 26 = .ok (.getfield 119, 3) := by decide +kernel
theorem dX10_change_29 : decode cX10_change 29 = .ok (.iaload, 1) := by decide +kernel
theorem dX10_change_30 : decode cX10_change 30 = .ok (.iload_n 1, 1) := by decide +kernel
theorem dX10_change_31 : decode cX10_change 31 = .ok (.iadd, 1) := by decide +kernel
theorem dX10_change_32 : decode cX10_change 32 = .ok (.aload_n 0, 1) := by decide +kernel
theorem dX10_change_33 : decode cX10_change 33 = .ok (.getfield 69, 3) := by decide +kernel
theorem dX10_change_36 : decode cX10_change 36 = .ok (.aload_n 0, 1) := by decide +kernel
theorem dX10_change_37 : decode cX10_change 37 = .ok (.getfield 25, 3) := by decide +kernel
theorem dX10_change_40 : decode cX10_change 40 = .ok (.aload_n 0, 1) := by decide +kernel
theorem dX10_change_41 : decode cX10_change 41 = .ok (.getfield 119, 3) := by decide +kernel
theorem dX10_change_44 : decode cX10_change 44 = .ok (.iaload, 1) := by decide +kernel
theorem dX10_change_45 : decode cX10_change 45 = .ok (.iload_n 2, 1) := by decide +kernel
theorem dX10_change_46 : decode cX10_change 46 = .ok (.iadd, 1) := by decide +kernel
theorem dX10_change_47 : decode cX10_change 47 = .ok (.iaload, 1) := by decide +kernel
theorem dX10_change_48 : decode cX10_change 48 = .ok (.iastore, 1) := by decide +kernel
theorem dX10_change_49 : decode cX10_change 49 = .ok (.aload_n 0, 1) := by decide +kernel
theorem dX10_change_50 : decode cX10_change 50 = .ok (.getfield 69, 3) := by decide +kernel
theorem dX10_change_53 : decode cX10_change 53 = .ok (.aload_n 0, 1) := by decide +kernel
theorem dX10_change_54 : decode cX10_change 54 = .ok (.getfield 25, 3) := by decide +kernel
theorem dX10_change_57 : decode cX10_change 57 = .ok (.aload_n 0, 1) := by decide +kernel
theorem dX10_change_58 : decode cX10_change 58 = .ok (.getfield 119, 3) := by decide +kernel
theorem dX10_change_61 : decode cX10_change 61 = .ok (.iaload, 1) := by decide +kernel
theorem dX10_change_62 : decode cX10_change 62 = .ok (.iload_n 2, 1) := by decide +kernel
theorem dX10_change_63 : decode cX10_change 63 = .ok (.iadd, 1) := by decide +kernel
theorem dX10_change_64 : decode cX10_change 64 = .ok (.iload_n 3, 1) := by decide +kernel
theorem dX10_change_65 : decode cX10_change 65 = .ok (.iastore, 1) := by decide +kernel
theorem dX10_change_66 : decode cX10_change 66 = .ok (.return_, 1) := by decide +kernel
theorem dX10_begins_0 : decode cX10_begins 0 = .ok (.aload_n 0, 1) := by decide +kernel
theorem dX10_begins_1 : decode cX10_begins 1 = .ok (.getfield 16, 3) := by decide +kernel
theorem dX10_begins_4 : decode cX10_begins 4 = .ok (.aload_n 0, 1) := by decide +kernel
theorem dX10_begins_5 : decode cX10_begins 5 = .ok (.getfield 119, 3) := by decide +kernel
theorem dX10_begins_8 : decode cX10_begins 8 = .ok (.iaload, 1) := by decide +kernel
theorem dX10_begins_9 : decode cX10_begins 9 = .ok (.tableswitch 68 0 3 #[31, 49, 54, 59], 31) := by decide +kernel
theorem dX10_begins_40 : decode cX10_begins 40 = .ok (.aload_n 0, 1) := by decide +kernel
theorem dX10_begins_41 : decode cX10_begins 41 = .ok (.aload_n 0, 1) := by decide +kernel
theorem dX10_begins_42 : decode cX10_begins 42 = .ok (.getfield 122, 3) := by decide +kernel
theorem dX10_begins_45 : decode cX10_begins 45 = .ok (.iconst 1, 1) := by decide +kernel
theorem dX10_begins_46 : decode cX10_begins 46 = .ok (.if_icmp .le 7, 3) := by decide +kernel
theorem dX10_begins_49 : decode cX10_begins 49 = .ok (.iconst 1, 1) := by decide +kernel
theorem dX10_begins_50 : decode cX10_begins 50 = .ok (.goto 4, 3) := by decide +kernel
theorem dX10_begins_53 : decode cX10_begins 53 = .ok (.iconst 0, 1) := by decide +kernel
theorem dX10_begins_54 : decode cX10_begins 54 = .ok (.invokevirtual 155, 3) := by decide +kernel
theorem dX10_begins_57 : decode cX10_begins 57 = .ok (.ireturn, 1) := by decide +kernel
theorem dX10_begins_58 : decode cX10_begins 58 = .ok (.aload_n 0, 1) := by decide +kernel
theorem dX10_begins_59 : decode cX10_begins 59 = .ok (.invokevirtual 158, 3) := by decide +kernel
theorem dX10_begins_62 : decode cX10_begins 62 = .ok (.ireturn, 1) := by decide +kernel
theorem dX10_begins_63 : decode cX10_begins 63 = .ok (.aload_n 0, 1) := by decide +kernel
theorem dX10_begins_64 : decode cX10_begins 64 = .ok (.invokevirtual 161, 3) := by decide +kernel
theorem dX10_begins_67 : decode cX10_begins 67 = .ok (.ireturn, 1) := by decide +kernel
theorem dX10_begins_68 : decode cX10_begins 68 = .ok (.aload_n 0, 1) := by decide +kernel
theorem dX10_begins_69 : decode cX10_begins 69 = .ok (.aload_n 0, 1) := by decide +kernel
theorem dX10_begins_70 : decode cX10_begins 70 = .ok (.invokevirtual 164, 3) := by decide +kernel
theorem dX10_begins_73 : decode cX10_begins 73 = .ok (.invokevirtual 155, 3) := by decide +kernel
theorem dX10_begins_76 : decode cX10_begins 76 = .ok (.ireturn, 1) := by decide +kernel
theorem dX10_begins_77 : decode cX10_begins 77 = .ok (.aload_n 0, 1) := by decide +kernel
theorem dX10_begins_78 : decode cX10_begins 78 = .ok (.iconst 0, 1) := by decide +kernel
theorem dX10_begins_79 : decode cX10_begins 79 = .ok (.putfield 149, 3) := by decide +kernel
theorem dX10_begins_82 : decode cX10_begins 82 = .ok (.aload_n 0, 1) := by decide +kernel
theorem dX10_begins_83 : decode cX10_begins 83 = .ok (.getfield 122, 3) := by decide +kernel
theorem dX10_begins_86 : decode cX10_begins 86 = .ok (.iconst 1, 1) := by decide +kernel
theorem dX10_begins_87 : decode cX10_begins 87 = .ok (.if_icmp .le 21, 3) := by decide +kernel
theorem dX10_begins_90 : decode cX10_begins 90 = .ok (.aload_n 0, 1) := by decide +kernel
theorem dX10_begins_91 : decode cX10_begins 91 = .ok (.iconst 0, 1) := by decide +kernel
theorem dX10_begins_92 : decode cX10_begins 92 = .ok (.aload_n 0, 1) := by decide +kernel
theorem dX10_begins_93 : decode cX10_begins 93 = .ok (.getfield 122, 3) := by decide +kernel
theorem dX10_begins_96 : decode cX10_begins 96 = .ok (.iconst 1, 1) := by decide +kernel
theorem dX10_begins_97 : decode cX10_begins 97 = .ok (.isub, 1) := by decide +kernel
theorem dX10_begins_98 : decode cX10_begins 98 = .ok (.invokevirtual 168, 3) := by decide +kernel
theorem dX10_begins_101 : decode cX10_begins 101 = .ok (.ifCond .eq 7, 3) := by decide +kernel
theorem dX10_begins_104 : decode cX10_begins 104 = .ok (.iconst 1, 1) := by decide +kernel
theorem dX10_begins_105 : decode cX10_begins 105 = .ok (.goto 4, 3) := by decide +kernel
theorem dX10_begins_108 : decode cX10_begins 108 = .ok (.iconst 0, 1) := by decide +kernel
theorem dX10_begins_109 : decode cX10_begins 109 = .ok (.ireturn, 1) := by decide +kernel
theorem dX10_goesOn_0 : decode cX10_goesOn 0 = .ok (.aload_n 0, 1) := by decide +kernel
theorem dX10_goesOn_1 : decode cX10_goesOn 1 = .ok (.getfield 16, 3) := by decide +kernel
theorem dX10_goesOn_4 : decode cX10_goesOn 4 = .ok (.aload_n 0, 1) := by decide +kernel
theorem dX10_goesOn_5 : decode cX10_goesOn 5 = .ok (.getfield 119, 3) := by decide +kernel
theorem dX10_goesOn_8 : decode cX10_goesOn 8 = .ok (.iaload, 1) := by decide +kernel
theorem dX10_goesOn_9 : decode cX10_goesOn 9 = .ok (.tableswitch 46 0 3 #[31, 36, 41, 31], 31) := by decide +kernel
theorem dX10_goesOn_40 : decode cX10_goesOn 40 = .ok (.aload_n 0, 1) := by decide +kernel
theorem dX10_goesOn_41 : decode cX10_goesOn 41 = .ok (.invokevirtual 172, 3) := by decide +kernel
theorem dX10_goesOn_44 : decode cX10_goesOn 44 = .ok (.ireturn, 1) := by decide +kernel
theorem dX10_goesOn_45 : decode cX10_goesOn 45 = .ok (.aload_n 0, 1) := by decide +kernel
theorem dX10_goesOn_46 : decode cX10_goesOn 46 = .ok (.invokevirtual 175, 3) := by decide +kernel
theorem dX10_goesOn_49 : decode cX10_goesOn 49 = .ok (.ireturn, 1) := by decide +kernel
theorem dX10_goesOn_50 : decode cX10_goesOn 50 = .ok (.aload_n 0, 1) := by decide +kernel
theorem dX10_goesOn_51 : decode cX10_goesOn 51 = .ok (.invokevirtual 178, 3) := by decide +kernel
theorem dX10_goesOn_54 : decode cX10_goesOn 54 = .ok (.ireturn, 1) := by decide +kernel
theorem dX10_goesOn_55 : decode cX10_goesOn 55 = .ok (.aload_n 0, 1) := by decide +kernel
theorem dX10_goesOn_56 : decode cX10_goesOn 56 = .ok (.invokevirtual 181, 3) := by decide +kernel
theorem dX10_goesOn_59 : decode cX10_goesOn 59 = .ok (.ireturn, 1) := by decide +kernel
theorem dX10_widest_0 : decode cX10_widest 0 = .ok (.iconst 0, 1) := by decide +kernel
theorem dX10_widest_1 : decode cX10_widest 1 = .ok (.istore_n 1, 1) := by decide +kernel
theorem dX10_widest_2 : decode cX10_widest 2 = .ok (.iconst 1, 1) := by decide +kernel
theorem dX10_widest_3 : decode cX10_widest 3 = .ok (.istore_n 2, 1) := by decide +kernel
theorem dX10_widest_4 : decode cX10_widest 4 = .ok (.iload_n 2, 1) := by decide +kernel
theorem dX10_widest_5 : decode cX10_widest 5 = .ok (.aload_n 0, 1) := by decide +kernel
theorem dX10_widest_6 : decode cX10_widest 6 = .ok (.getfield 122, 3) := by decide +kernel
theorem dX10_widest_9 : decode cX10_widest 9 = .ok (.if_icmp .ge 14, 3) := by decide +kernel
theorem dX10_widest_12 : decode cX10_widest 12 = .ok (.iload_n 2, 1) := by decide +kernel
theorem dX10_widest_13 : decode cX10_widest 13 = .ok (.istore_n 1, 1) := by decide +kernel
theorem dX10_widest_14 : decode cX10_widest 14 = .ok (.iconst 3, 1) := by decide +kernel
theorem dX10_widest_15 : decode cX10_widest 15 = .ok (.iload_n 2, 1) := by decide +kernel
theorem dX10_widest_16 : decode cX10_widest 16 = .ok (.imul, 1) := by decide +kernel
theorem dX10_widest_17 : decode cX10_widest 17 = .ok (.iconst 1, 1) := by decide +kernel
theorem dX10_widest_18 : decode cX10_widest 18 = .ok (.iadd, 1) := by decide +kernel
theorem dX10_widest_19 : decode cX10_widest 19 = .ok (.istore_n 2, 1) := by decide +kernel
theorem dX10_widest_20 : decode cX10_widest 20 = .ok (.goto (-16), 3) := by decide +kernel
theorem dX10_widest_23 : decode cX10_widest 23 = .ok (.iload_n 1, 1) := by decide +kernel
theorem dX10_widest_24 : decode cX10_widest 24 = .ok (.ireturn, 1) := by decide +kernel
theorem dX10_stepsBegin_0 : decode cX10_stepsBegin 0 = .ok (.aload_n 0, 1) := by decide +kernel
theorem dX10_stepsBegin_1 : decode cX10_stepsBegin 1 = .ok (.iload_n 1, 1) := by decide +kernel
theorem dX10_stepsBegin_2 : decode cX10_stepsBegin 2 = .ok (.putfield 125, 3) := by decide +kernel
theorem dX10_stepsBegin_5 : decode cX10_stepsBegin 5 = .ok (.aload_n 0, 1) := by decide +kernel
theorem dX10_stepsBegin_6 : decode cX10_stepsBegin 6 = .ok (.iload_n 1, 1) := by decide +kernel
theorem dX10_stepsBegin_7 : decode cX10_stepsBegin 7 = .ok (.putfield 128, 3) := by decide +kernel
theorem dX10_stepsBegin_10 : decode cX10_stepsBegin 10 = .ok (.aload_n 0, 1) := by decide +kernel
theorem dX10_stepsBegin_11 : decode cX10_stepsBegin 11 = .ok (.iload_n 1, 1) := by decide +kernel
theorem dX10_stepsBegin_12 : decode cX10_stepsBegin 12 = .ok (.putfield 131, 3) := by decide +kernel
theorem dX10_stepsBegin_15 : decode cX10_stepsBegin 15 = .ok (.iload_n 1, 1) := by decide +kernel
theorem dX10_stepsBegin_16 : decode cX10_stepsBegin 16 = .ok (.ifCond .le 14, 3) := by decide +kernel
theorem dX10_stepsBegin_19 : decode cX10_stepsBegin 19 = .ok (.aload_n 0, 1) := by decide +kernel
theorem dX10_stepsBegin_20 : decode cX10_stepsBegin 20 = .ok (.invokevirtual 184, 3) := by decide +kernel
theorem dX10_stepsBegin_23 : decode cX10_stepsBegin 23 = .ok (.ifCond .eq 7, 3) := by decide +kernel
theorem dX10_stepsBegin_26 : decode cX10_stepsBegin 26 = .ok (.iconst 1, 1) := by decide +kernel
theorem dX10_stepsBegin_27 : decode cX10_stepsBegin 27 = .ok (.goto 4, 3) := by decide +kernel
theorem dX10_stepsBegin_30 : decode cX10_stepsBegin 30 = .ok (.iconst 0, 1) := by decide +kernel
theorem dX10_stepsBegin_31 : decode cX10_stepsBegin 31 = .ok (.ireturn, 1) := by decide +kernel
theorem dX10_stepsStand_0 : decode cX10_stepsStand 0 = .ok (.aload_n 0, 1) := by decide +kernel
theorem dX10_stepsStand_1 : decode cX10_stepsStand 1 = .ok (.getfield 125, 3) := by decide +kernel
theorem dX10_stepsStand_4 : decode cX10_stepsStand 4 = .ok (.ifCond .le 106, 3) := by decide +kernel
theorem dX10_stepsStand_7 : decode cX10_stepsStand 7 = .ok (.aload_n 0, 1) := by decide +kernel
theorem dX10_stepsStand_8 : decode cX10_stepsStand 8 = .ok (.getfield 128, 3) := by decide +kernel
theorem dX10_stepsStand_11 : decode cX10_stepsStand 11 = .ok (.aload_n 0, 1) := by decide +kernel
theorem dX10_stepsStand_12 : decode cX10_stepsStand 12 = .ok (.getfield 122, 3) := by decide +kernel
theorem dX10_stepsStand_15 : decode cX10_stepsStand 15 = .ok (.if_icmp .ge 16, 3) := by decide +kernel
theorem dX10_stepsStand_18 : decode cX10_stepsStand 18 = .ok (.aload_n 0, 1) := by decide +kernel
theorem dX10_stepsStand_19 : decode cX10_stepsStand 19 = .ok (.getfield 131, 3) := by decide +kernel
theorem dX10_stepsStand_22 : decode cX10_stepsStand 22 = .ok (.aload_n 0, 1) := by decide +kernel
theorem dX10_stepsStand_23 : decode cX10_stepsStand 23 = .ok (.getfield 125, 3) := by decide +kernel
theorem dX10_stepsStand_26 : decode cX10_stepsStand 26 = .ok (.if_icmp .lt 5, 3) := by decide +kernel
theorem dX10_stepsStand_29 : decode cX10_stepsStand 29 = .ok (.iconst 1, 1) := by decide +kernel
theorem dX10_stepsStand_30 : decode cX10_stepsStand 30 = .ok (.ireturn, 1) := by decide +kernel
theorem dX10_stepsStand_31 : decode cX10_stepsStand 31 = .ok (.aload_n 0, 1) := by decide +kernel
theorem dX10_stepsStand_32 : decode cX10_stepsStand 32 = .ok (.getfield 128, 3) := by decide +kernel
theorem dX10_stepsStand_35 : decode cX10_stepsStand 35 = .ok (.aload_n 0, 1) := by decide +kernel
theorem dX10_stepsStand_36 : decode cX10_stepsStand 36 = .ok (.getfield 122, 3) := by decide +kernel
theorem dX10_stepsStand_39 : decode cX10_stepsStand 39 = .ok (.if_icmp .ge 24, 3) := by decide +kernel
theorem dX10_stepsStand_42 : decode cX10_stepsStand 42 = .ok (.aload_n 0, 1) := by decide +kernel
theorem dX10_stepsStand_43 : decode cX10_stepsStand 43 = .ok (.dup, 1) := by decide +kernel
theorem dX10_stepsStand_44 : decode cX10_stepsStand 44 = .ok (.getfield 128, 3) := by decide +kernel
theorem dX10_stepsStand_47 : decode cX10_stepsStand 47 = .ok (.iconst 1, 1) := by decide +kernel
theorem dX10_stepsStand_48 : decode cX10_stepsStand 48 = .ok (.iadd, 1) := by decide +kernel
theorem dX10_stepsStand_49 : decode cX10_stepsStand 49 = .ok (.putfield 128, 3) := by decide +kernel
theorem dX10_stepsStand_52 : decode cX10_stepsStand 52 = .ok (.aload_n 0, 1) := by decide +kernel
theorem dX10_stepsStand_53 : decode cX10_stepsStand 53 = .ok (.aload_n 0, 1) := by decide +kernel
theorem dX10_stepsStand_54 : decode cX10_stepsStand 54 = .ok (.getfield 128, 3) := by decide +kernel
theorem dX10_stepsStand_57 : decode cX10_stepsStand 57 = .ok (.putfield 131, 3) := by decide +kernel
theorem dX10_stepsStand_60 : decode cX10_stepsStand 60 = .ok (.goto (-60), 3) := by decide +kernel
theorem dX10_stepsStand_63 : decode cX10_stepsStand 63 = .ok (.aload_n 0, 1) := by decide +kernel
theorem dX10_stepsStand_64 : decode cX10_stepsStand 64 = .ok (.aload_n 0, 1) := by decide +kernel
theorem dX10_stepsStand_65 : decode cX10_stepsStand 65 = .ok (.getfield 16, 3) := by decide +kernel
theorem dX10_stepsStand_68 : decode cX10_stepsStand 68 = .ok (.aload_n 0, 1) := by decide +kernel
theorem dX10_stepsStand_69 : decode cX10_stepsStand 69 = .ok (.getfield 119, 3) := by decide +kernel
theorem dX10_stepsStand_72 : decode cX10_stepsStand 72 = .ok (.iaload, 1) := by decide +kernel
theorem dX10_stepsStand_73 : decode cX10_stepsStand 73 = .ok (.ifCond .ne 7, 3) := by decide +kernel
theorem dX10_stepsStand_76 : decode cX10_stepsStand 76 = .ok (.iconst 0, 1) := by decide +kernel
theorem dX10_stepsStand_77 : decode cX10_stepsStand 77 = .ok (.goto 11, 3) := by decide +kernel
theorem dX10_stepsStand_80 : decode cX10_stepsStand 80 = .ok (.aload_n 0, 1) := by decide +kernel
theorem dX10_stepsStand_81 : decode cX10_stepsStand 81 = .ok (.getfield 125, 3) := by decide +kernel
theorem dX10_stepsStand_84 : decode cX10_stepsStand 84 = .ok (.iconst 1, 1) := by decide +kernel
theorem dX10_stepsStand_85 : decode cX10_stepsStand 85 = .ok (.isub, 1) := by decide +kernel
theorem dX10_stepsStand_86 : decode cX10_stepsStand 86 = .ok (.iconst 3, 1) := by decide +kernel
theorem dX10_stepsStand_87 : decode cX10_stepsStand 87 = .ok (.idiv, 1) := by decide +kernel
theorem dX10_stepsStand_88 : decode cX10_stepsStand 88 = .ok (.putfield 125, 3) := by decide +kernel
theorem dX10_stepsStand_91 : decode cX10_stepsStand 91 = .ok (.aload_n 0, 1) := by decide +kernel
theorem dX10_stepsStand_92 : decode cX10_stepsStand 92 = .ok (.aload_n 0, 1) := by decide +kernel
theorem dX10_stepsStand_93 : decode cX10_stepsStand 93 = .ok (.getfield 125, 3) := by decide +kernel
theorem dX10_stepsStand_96 : decode cX10_stepsStand 96 = .ok (.putfield 128, 3) := by decide +kernel
theorem dX10_stepsStand_99 : decode cX10_stepsStand 99 = .ok (.aload_n 0, 1) := by decide +kernel
theorem dX10_stepsStand_100 : decode cX10_stepsStand 100 = .ok (.aload_n 0, 1) := by decide +kernel
theorem dX10_stepsStand_101 : decode cX10_stepsStand 101 = .ok (.getfield 125, 3) := by decide +kernel
theorem dX10_stepsStand_104 : decode cX10_stepsStand 104 = .ok (.putfield 131, 3) := by decide +kernel
theorem dX10_stepsStand_107 : decode cX10_stepsStand 107 = .ok (.goto (-107), 3) := by decide +kernel
theorem dX10_stepsStand_110 : decode cX10_stepsStand 110 = .ok (.iconst 0, 1) := by decide +kernel
theorem dX10_stepsStand_111 : decode cX10_stepsStand 111 = .ok (.ireturn, 1) := by decide +kernel
theorem dX10_stepsGo_0 : decode cX10_stepsGo 0 = .ok (.aload_n 0, 1) := by decide +kernel
theorem dX10_stepsGo_1 : decode cX10_stepsGo 1 = .ok (.aload_n 0, 1) := by decide +kernel
theorem dX10_stepsGo_2 : decode cX10_stepsGo 2 = .ok (.getfield 131, 3) := by decide +kernel
theorem dX10_stepsGo_5 : decode cX10_stepsGo 5 = .ok (.aload_n 0, 1) := by decide +kernel
theorem dX10_stepsGo_6 : decode cX10_stepsGo 6 = .ok (.getfield 125, 3) := by decide +kernel
theorem dX10_stepsGo_9 : decode cX10_stepsGo 9 = .ok (.isub, 1) := by decide +kernel
theorem dX10_stepsGo_10 : decode cX10_stepsGo 10 = .ok (.invokevirtual 187, 3) := by decide +kernel
theorem dX10_stepsGo_13 : decode cX10_stepsGo 13 = .ok (.aload_n 0, 1) := by decide +kernel
theorem dX10_stepsGo_14 : decode cX10_stepsGo 14 = .ok (.aload_n 0, 1) := by decide +kernel
theorem dX10_stepsGo_15 : decode cX10_stepsGo 15 = .ok (.getfield 131, 3) := by decide +kernel
theorem dX10_stepsGo_18 : decode cX10_stepsGo 18 = .ok (.invokevirtual 187, 3) := by decide +kernel
theorem dX10_stepsGo_21 : decode cX10_stepsGo 21 = .ok (.if_icmp .le 36, 3) := by decide +kernel
theorem dX10_stepsGo_24 : decode cX10_stepsGo 24 = .ok (.aload_n 0, 1) := by decide +kernel
theorem dX10_stepsGo_25 : decode cX10_stepsGo 25 = .ok (.aload_n 0, 1) := by decide +kernel
theorem dX10_stepsGo_26 : decode cX10_stepsGo 26 = .ok (.getfield 131, 3) := by decide +kernel
theorem dX10_stepsGo_29 : decode cX10_stepsGo 29 = .ok (.aload_n 0, 1) := by decide +kernel
theorem dX10_stepsGo_30 : decode cX10_stepsGo 30 = .ok (.getfield 125, 3) := by decide +kernel
theorem dX10_stepsGo_33 : decode cX10_stepsGo 33 = .ok (.isub, 1) := by decide +kernel
theorem dX10_stepsGo_34 : decode cX10_stepsGo 34 = .ok (.aload_n 0, 1) := by decide +kernel
theorem dX10_stepsGo_35 : decode cX10_stepsGo 35 = .ok (.getfield 131, 3) := by decide +kernel
theorem dX10_stepsGo_38 : decode cX10_stepsGo 38 = .ok (.invokevirtual 190, 3) := by decide +kernel
theorem dX10_stepsGo_41 : decode cX10_stepsGo 41 = .ok (.aload_n 0, 1) := by decide +kernel
theorem dX10_stepsGo_42 : decode cX10_stepsGo 42 = .ok (.dup, 1) := by decide +kernel
theorem dX10_stepsGo_43 : decode cX10_stepsGo 43 = .ok (.getfield 131, 3) := by decide +kernel
theorem dX10_stepsGo_46 : decode cX10_stepsGo 46 = .ok (.aload_n 0, 1) := by decide +kernel
theorem dX10_stepsGo_47 : decode cX10_stepsGo 47 = .ok (.getfield 125, 3) := by decide +kernel
theorem dX10_stepsGo_50 : decode cX10_stepsGo 50 = .ok (.isub, 1) := by decide +kernel
theorem dX10_stepsGo_51 : decode cX10_stepsGo 51 = .ok (.putfield 131, 3) := by decide +kernel
theorem dX10_stepsGo_54 : decode cX10_stepsGo 54 = .ok (.goto 21, 3) := by decide +kernel
theorem dX10_stepsGo_57 : decode cX10_stepsGo 57 = .ok (.aload_n 0, 1) := by decide +kernel
theorem dX10_stepsGo_58 : decode cX10_stepsGo 58 = .ok (.dup, 1) := by decide +kernel
theorem dX10_stepsGo_59 : decode cX10_stepsGo 59 = .ok (.getfield 128, 3) := by decide +kernel
theorem dX10_stepsGo_62 : decode cX10_stepsGo 62 = .ok (.iconst 1, 1) := by decide +kernel
theorem dX10_stepsGo_63 : decode cX10_stepsGo 63 = .ok (.iadd, 1) := by decide +kernel
theorem dX10_stepsGo_64 : decode cX10_stepsGo 64 = .ok (.putfield 128, 3) := by decide +kernel
theorem dX10_stepsGo_67 : decode cX10_stepsGo 67 = .ok (.aload_n 0, 1) := by decide +kernel
theorem dX10_stepsGo_68 : decode cX10_stepsGo 68 = .ok (.aload_n 0, 1) := by decide +kernel
theorem dX10_stepsGo_69 : decode cX10_stepsGo 69 = .ok (.getfield 128, 3) := by decide +kernel
theorem dX10_stepsGo_72 : decode cX10_stepsGo 72 = .ok (.putfield 131, 3) := by decide +kernel
theorem dX10_stepsGo_75 : decode cX10_stepsGo 75 = .ok (.aload_n 0, 1) := by decide +kernel
theorem dX10_stepsGo_76 : decode cX10_stepsGo 76 = .ok (.invokevirtual 184, 3) := by decide +kernel
theorem dX10_stepsGo_79 : decode cX10_stepsGo 79 = .ok (.ireturn, 1) := by decide +kernel
theorem dX10_heapBegins_0 : decode cX10_heapBegins 0 = .ok (.aload_n 0, 1) := by decide +kernel
theorem dX10_heapBegins_1 : decode cX10_heapBegins 1 = .ok (.aload_n 0, 1) := by decide +kernel
theorem dX10_heapBegins_2 : decode cX10_heapBegins 2 = .ok (.getfield 122, 3) := by decide +kernel
theorem dX10_heapBegins_5 : decode cX10_heapBegins 5 = .ok (.iconst 2, 1) := by decide +kernel
theorem dX10_heapBegins_6 : decode cX10_heapBegins 6 = .ok (.idiv, 1) := by decide +kernel
theorem dX10_heapBegins_7 : decode cX10_heapBegins 7 = .ok (.putfield 137, 3) := by decide +kernel
theorem dX10_heapBegins_10 : decode cX10_heapBegins 10 = .ok (.aload_n 0, 1) := by decide +kernel
theorem dX10_heapBegins_11 : decode cX10_heapBegins 11 = .ok (.aload_n 0, 1) := by decide +kernel
theorem dX10_heapBegins_12 : decode cX10_heapBegins 12 = .ok (.getfield 122, 3) := by decide +kernel
theorem dX10_heapBegins_15 : decode cX10_heapBegins 15 = .ok (.putfield 140, 3) := by decide +kernel
theorem dX10_heapBegins_18 : decode cX10_heapBegins 18 = .ok (.aload_n 0, 1) := by decide +kernel
theorem dX10_heapBegins_19 : decode cX10_heapBegins 19 = .ok (.invokevirtual 194, 3) := by decide +kernel
theorem dX10_heapBegins_22 : decode cX10_heapBegins 22 = .ok (.ireturn, 1) := by decide +kernel
theorem dX10_heapNext_0 : decode cX10_heapNext 0 = .ok (.aload_n 0, 1) := by decide +kernel
theorem dX10_heapNext_1 : decode cX10_heapNext 1 = .ok (.getfield 137, 3) := by decide +kernel
theorem dX10_heapNext_4 : decode cX10_heapNext 4 = .ok (.ifCond .le 32, 3) := by decide +kernel
theorem dX10_heapNext_7 : decode cX10_heapNext 7 = .ok (.aload_n 0, 1) := by decide +kernel
theorem dX10_heapNext_8 : decode cX10_heapNext 8 = .ok (.dup, 1) := by decide +kernel
theorem dX10_heapNext_9 : decode cX10_heapNext 9 = .ok (.getfield 137, 3) := by decide +kernel
theorem dX10_heapNext_12 : decode cX10_heapNext 12 = .ok (.iconst 1, 1) := by decide +kernel
theorem dX10_heapNext_13 : decode cX10_heapNext 13 = .ok (.isub, 1) := by decide +kernel
theorem dX10_heapNext_14 : decode cX10_heapNext 14 = .ok (.putfield 137, 3) := by decide +kernel
theorem dX10_heapNext_17 : decode cX10_heapNext 17 = .ok (.aload_n 0, 1) := by decide +kernel
theorem dX10_heapNext_18 : decode cX10_heapNext 18 = .ok (.aload_n 0, 1) := by decide +kernel
theorem dX10_heapNext_19 : decode cX10_heapNext 19 = .ok (.getfield 137, 3) := by decide +kernel
theorem dX10_heapNext_22 : decode cX10_heapNext 22 = .ok (.putfield 125, 3) := by decide +kernel
theorem dX10_heapNext_25 : decode cX10_heapNext 25 = .ok (.aload_n 0, 1) := by decide +kernel
theorem dX10_heapNext_26 : decode cX10_heapNext 26 = .ok (.aload_n 0, 1) := by decide +kernel
theorem dX10_heapNext_27 : decode cX10_heapNext 27 = .ok (.getfield 122, 3) := by decide +kernel
theorem dX10_heapNext_30 : decode cX10_heapNext 30 = .ok (.putfield 128, 3) := by decide +kernel
theorem dX10_heapNext_33 : decode cX10_heapNext 33 = .ok (.goto 45, 3) := by decide +kernel
theorem dX10_heapNext_36 : decode cX10_heapNext 36 = .ok (.aload_n 0, 1) := by decide +kernel
theorem dX10_heapNext_37 : decode cX10_heapNext 37 = .ok (.dup, 1) := by decide +kernel
theorem dX10_heapNext_38 : decode cX10_heapNext 38 = .ok (.getfield 140, 3) := by decide +kernel
theorem dX10_heapNext_41 : decode cX10_heapNext 41 = .ok (.iconst 1, 1) := by decide +kernel
theorem dX10_heapNext_42 : decode cX10_heapNext 42 = .ok (.isub, 1) := by decide +kernel
theorem dX10_heapNext_43 : decode cX10_heapNext 43 = .ok (.putfield 140, 3) := by decide +kernel
theorem dX10_heapNext_46 : decode cX10_heapNext 46 = .ok (.aload_n 0, 1) := by decide +kernel
theorem dX10_heapNext_47 : decode cX10_heapNext 47 = .ok (.getfield 140, 3) := by decide +kernel
theorem dX10_heapNext_50 : decode cX10_heapNext 50 = .ok (.iconst 1, 1) := by decide +kernel
theorem dX10_heapNext_51 : decode cX10_heapNext 51 = .ok (.if_icmp .ge 5, 3) := by decide +kernel
theorem dX10_heapNext_54 : decode cX10_heapNext 54 = .ok (.iconst 0, 1) := by decide +kernel
theorem dX10_heapNext_55 : decode cX10_heapNext 55 = .ok (.ireturn, 1) := by decide +kernel
theorem dX10_heapNext_56 : decode cX10_heapNext 56 = .ok (.aload_n 0, 1) := by decide +kernel
theorem dX10_heapNext_57 : decode cX10_heapNext 57 = .ok (.iconst 0, 1) := by decide +kernel
theorem dX10_heapNext_58 : decode cX10_heapNext 58 = .ok (.aload_n 0, 1) := by decide +kernel
theorem dX10_heapNext_59 : decode cX10_heapNext 59 = .ok (.getfield 140, 3) := by decide +kernel
theorem dX10_heapNext_62 : decode cX10_heapNext 62 = .ok (.invokevirtual 190, 3) := by decide +kernel
theorem dX10_heapNext_65 : decode cX10_heapNext 65 = .ok (.aload_n 0, 1) := by decide +kernel
theorem dX10_heapNext_66 : decode cX10_heapNext 66 = .ok (.iconst 0, 1) := by decide +kernel
theorem dX10_heapNext_67 : decode cX10_heapNext 67 = .ok (.putfield 125, 3) := by decide +kernel
theorem dX10_heapNext_70 : decode cX10_heapNext 70 = .ok (.aload_n 0, 1) := by decide +kernel
theorem dX10_heapNext_71 : decode cX10_heapNext 71 = .ok (.aload_n 0, 1) := by decide +kernel
theorem dX10_heapNext_72 : decode cX10_heapNext 72 = .ok (.getfield 140, 3) := by decide +kernel
theorem dX10_heapNext_75 : decode cX10_heapNext 75 = .ok (.putfield 128, 3) := by decide +kernel
theorem dX10_heapNext_78 : decode cX10_heapNext 78 = .ok (.aload_n 0, 1) := by decide +kernel
theorem dX10_heapNext_79 : decode cX10_heapNext 79 = .ok (.invokevirtual 197, 3) := by decide +kernel
theorem dX10_heapNext_82 : decode cX10_heapNext 82 = .ok (.ifCond .eq (-82), 3) := by decide +kernel
theorem dX10_heapNext_85 : decode cX10_heapNext 85 = .ok (.iconst 1, 1) := by decide +kernel
theorem dX10_heapNext_86 : decode cX10_heapNext 86 = .ok (.ireturn, 1) := by decide +kernel
theorem dX10_heapStands_0 : decode cX10_heapStands 0 = .ok (.aload_n 0, 1) := by decide +kernel
theorem dX10_heapStands_1 : decode cX10_heapStands 1 = .ok (.iconst 2, 1) := by decide +kernel
theorem dX10_heapStands_2 : decode cX10_heapStands 2 = .ok (.aload_n 0, 1) := by decide +kernel
theorem dX10_heapStands_3 : decode cX10_heapStands 3 = .ok (.getfield 125, 3) := by decide +kernel
theorem dX10_heapStands_6 : decode cX10_heapStands 6 = .ok (.imul, 1) := by decide +kernel
theorem dX10_heapStands_7 : decode cX10_heapStands 7 = .ok (.iconst 1, 1) := by decide +kernel
theorem dX10_heapStands_8 : decode cX10_heapStands 8 = .ok (.iadd, 1) := by decide +kernel
theorem dX10_heapStands_9 : decode cX10_heapStands 9 = .ok (.putfield 131, 3) := by decide +kernel
theorem dX10_heapStands_12 : decode cX10_heapStands 12 = .ok (.aload_n 0, 1) := by decide +kernel
theorem dX10_heapStands_13 : decode cX10_heapStands 13 = .ok (.aload_n 0, 1) := by decide +kernel
theorem dX10_heapStands_14 : decode cX10_heapStands 14 = .ok (.getfield 131, 3) := by decide +kernel
theorem dX10_heapStands_17 : decode cX10_heapStands 17 = .ok (.iconst 1, 1) := by decide +kernel
theorem dX10_heapStands_18 : decode cX10_heapStands 18 = .ok (.iadd, 1) := by decide +kernel
theorem dX10_heapStands_19 : decode cX10_heapStands 19 = .ok (.aload_n 0, 1) := by decide +kernel
theorem dX10_heapStands_20 : decode cX10_heapStands 20 = .ok (.getfield 128, 3) := by decide +kernel
theorem dX10_heapStands_23 : decode cX10_heapStands 23 = .ok (.if_icmp .ge 7, 3) := by decide +kernel
theorem dX10_heapStands_26 : decode cX10_heapStands 26 = .ok (.iconst 0, 1) := by decide +kernel
theorem dX10_heapStands_27 : decode cX10_heapStands 27 = .ok (.goto 4, 3) := by decide +kernel
theorem dX10_heapStands_30 : decode cX10_heapStands 30 = .ok (.iconst 1, 1) := by decide +kernel
theorem dX10_heapStands_31 : decode cX10_heapStands 31 = .ok (.putfield 134, 3) := by decide +kernel
theorem dX10_heapStands_34 : decode cX10_heapStands 34 = .ok (.aload_n 0, 1) := by decide +kernel
theorem dX10_heapStands_35 : decode cX10_heapStands 35 = .ok (.getfield 131, 3) := by decide +kernel
theorem dX10_heapStands_38 : decode cX10_heapStands 38 = .ok (.aload_n 0, 1) := by decide +kernel
theorem dX10_heapStands_39 : decode cX10_heapStands 39 = .ok (.getfield 128, 3) := by decide +kernel
theorem dX10_heapStands_42 : decode cX10_heapStands 42 = .ok (.if_icmp .ge 7, 3) := by decide +kernel
theorem dX10_heapStands_45 : decode cX10_heapStands 45 = .ok (.iconst 1, 1) := by decide +kernel
theorem dX10_heapStands_46 : decode cX10_heapStands 46 = .ok (.goto 4, 3) := by decide +kernel
theorem dX10_heapStands_49 : decode cX10_heapStands 49 = .ok (.iconst 0, 1) := by decide +kernel
theorem dX10_heapStands_50 : decode cX10_heapStands 50 = .ok (.ireturn, 1) := by decide +kernel
theorem dX10_heapGoes_0 : decode cX10_heapGoes 0 = .ok (.aload_n 0, 1) := by decide +kernel
theorem dX10_heapGoes_1 : decode cX10_heapGoes 1 = .ok (.getfield 134, 3) := by decide +kernel
theorem dX10_heapGoes_4 : decode cX10_heapGoes 4 = .ok (.ifCond .ne 41, 3) := by decide +kernel
theorem dX10_heapGoes_7 : decode cX10_heapGoes 7 = .ok (.aload_n 0, 1) := by decide +kernel
theorem dX10_heapGoes_8 : decode cX10_heapGoes 8 = .ok (.aload_n 0, 1) := by decide +kernel
theorem dX10_heapGoes_9 : decode cX10_heapGoes 9 = .ok (.getfield 131, 3) := by decide +kernel
theorem dX10_heapGoes_12 : decode cX10_heapGoes 12 = .ok (.invokevirtual 187, 3) := by decide +kernel
theorem dX10_heapGoes_15 : decode cX10_heapGoes 15 = .ok (.aload_n 0, 1) := by decide +kernel
theorem dX10_heapGoes_16 : decode cX10_heapGoes 16 = .ok (.aload_n 0, 1) := by decide +kernel
theorem dX10_heapGoes_17 : decode cX10_heapGoes 17 = .ok (.getfield 131, 3) := by decide +kernel
theorem dX10_heapGoes_20 : decode cX10_heapGoes 20 = .ok (.iconst 1, 1) := by decide +kernel
theorem dX10_heapGoes_21 : decode cX10_heapGoes 21 = .ok (.iadd, 1) := by decide +kernel
theorem dX10_heapGoes_22 : decode cX10_heapGoes 22 = .ok (.invokevirtual 187, 3) := by decide +kernel
theorem dX10_heapGoes_25 : decode cX10_heapGoes 25 = .ok (.if_icmp .ge 13, 3) := by decide +kernel
theorem dX10_heapGoes_28 : decode cX10_heapGoes 28 = .ok (.aload_n 0, 1) := by decide +kernel
theorem dX10_heapGoes_29 : decode cX10_heapGoes 29 = .ok (.dup, 1) := by decide +kernel
theorem dX10_heapGoes_30 : decode cX10_heapGoes 30 = .ok (.getfield 131, 3) := by decide +kernel
theorem dX10_heapGoes_33 : decode cX10_heapGoes 33 = .ok (.iconst 1, 1) := by decide +kernel
theorem dX10_heapGoes_34 : decode cX10_heapGoes 34 = .ok (.iadd, 1) := by decide +kernel
theorem dX10_heapGoes_35 : decode cX10_heapGoes 35 = .ok (.putfield 131, 3) := by decide +kernel
theorem dX10_heapGoes_38 : decode cX10_heapGoes 38 = .ok (.aload_n 0, 1) := by decide +kernel
theorem dX10_heapGoes_39 : decode cX10_heapGoes 39 = .ok (.iconst 1, 1) := by decide +kernel
theorem dX10_heapGoes_40 : decode cX10_heapGoes 40 = .ok (.putfield 134, 3) := by decide +kernel
theorem dX10_heapGoes_43 : decode cX10_heapGoes 43 = .ok (.iconst 1, 1) := by decide +kernel
theorem dX10_heapGoes_44 : decode cX10_heapGoes 44 = .ok (.ireturn, 1) := by decide +kernel
theorem dX10_heapGoes_45 : decode cX10_heapGoes 45 = .ok (.aload_n 0, 1) := by decide +kernel
theorem dX10_heapGoes_46 : decode cX10_heapGoes 46 = .ok (.aload_n 0, 1) := by decide +kernel
theorem dX10_heapGoes_47 : decode cX10_heapGoes 47 = .ok (.getfield 125, 3) := by decide +kernel
theorem dX10_heapGoes_50 : decode cX10_heapGoes 50 = .ok (.invokevirtual 187, 3) := by decide +kernel
theorem dX10_heapGoes_53 : decode cX10_heapGoes 53 = .ok (.aload_n 0, 1) := by decide +kernel
theorem dX10_heapGoes_54 : decode cX10_heapGoes 54 = .ok (.aload_n 0, 1) := by decide +kernel
theorem dX10_heapGoes_55 : decode cX10_heapGoes 55 = .ok (.getfield 131, 3) := by decide +kernel
theorem dX10_heapGoes_58 : decode cX10_heapGoes 58 = .ok (.invokevirtual 187, 3) := by decide +kernel
theorem dX10_heapGoes_61 : decode cX10_heapGoes 61 = .ok (.if_icmp .ge 32, 3) := by decide +kernel
theorem dX10_heapGoes_64 : decode cX10_heapGoes 64 = .ok (.aload_n 0, 1) := by decide +kernel
theorem dX10_heapGoes_65 : decode cX10_heapGoes 65 = .ok (.aload_n 0, 1) := by decide +kernel
theorem dX10_heapGoes_66 : decode cX10_heapGoes 66 = .ok (.getfield 125, 3) := by decide +kernel
theorem dX10_heapGoes_69 : decode cX10_heapGoes 69 = .ok (.aload_n 0, 1) := by decide +kernel
theorem dX10_heapGoes_70 : decode cX10_heapGoes 70 = .ok (.getfield 131, 3) := by decide +kernel
theorem dX10_heapGoes_73 : decode cX10_heapGoes 73 = .ok (.invokevirtual 190, 3) := by decide +kernel
theorem dX10_heapGoes_76 : decode cX10_heapGoes 76 = .ok (.aload_n 0, 1) := by decide +kernel
theorem dX10_heapGoes_77 : decode cX10_heapGoes 77 = .ok (.aload_n 0, 1) := by decide +kernel
theorem dX10_heapGoes_78 : decode cX10_heapGoes 78 = .ok (.getfield 131, 3) := by decide +kernel
theorem dX10_heapGoes_81 : decode cX10_heapGoes 81 = .ok (.putfield 125, 3) := by decide +kernel
theorem dX10_heapGoes_84 : decode cX10_heapGoes 84 = .ok (.aload_n 0, 1) := by decide +kernel
theorem dX10_heapGoes_85 : decode cX10_heapGoes 85 = .ok (.invokevirtual 197, 3) := by decide +kernel
theorem dX10_heapGoes_88 : decode cX10_heapGoes 88 = .ok (.ifCond .eq 5, 3) := by decide +kernel
theorem dX10_heapGoes_91 : decode cX10_heapGoes 91 = .ok (.iconst 1, 1) := by decide +kernel
theorem dX10_heapGoes_92 : decode cX10_heapGoes 92 = .ok (.ireturn, 1) := by decide +kernel
theorem dX10_heapGoes_93 : decode cX10_heapGoes 93 = .ok (.aload_n 0, 1) := by decide +kernel
theorem dX10_heapGoes_94 : decode cX10_heapGoes 94 = .ok (.invokevirtual 194, 3) := by decide +kernel
theorem dX10_heapGoes_97 : decode cX10_heapGoes 97 = .ok (.ireturn, 1) := by decide +kernel
theorem dX10_mergeBegins_0 : decode cX10_mergeBegins 0 = .ok (.aload_n 0, 1) := by decide +kernel
theorem dX10_mergeBegins_1 : decode cX10_mergeBegins 1 = .ok (.iconst 1, 1) := by decide +kernel
theorem dX10_mergeBegins_2 : decode cX10_mergeBegins 2 = .ok (.putfield 152, 3) := by decide +kernel
theorem dX10_mergeBegins_5 : decode cX10_mergeBegins 5 = .ok (.aload_n 0, 1) := by decide +kernel
theorem dX10_mergeBegins_6 : decode cX10_mergeBegins 6 = .ok (.iconst 0, 1) := by decide +kernel
theorem dX10_mergeBegins_7 : decode cX10_mergeBegins 7 = .ok (.putfield 143, 3) := by decide +kernel
theorem dX10_mergeBegins_10 : decode cX10_mergeBegins 10 = .ok (.aload_n 0, 1) := by decide +kernel
theorem dX10_mergeBegins_11 : decode cX10_mergeBegins 11 = .ok (.getfield 122, 3) := by decide +kernel
theorem dX10_mergeBegins_14 : decode cX10_mergeBegins 14 = .ok (.iconst 2, 1) := by decide +kernel
theorem dX10_mergeBegins_15 : decode cX10_mergeBegins 15 = .ok (.if_icmp .ge 5, 3) := by decide +kernel
theorem dX10_mergeBegins_18 : decode cX10_mergeBegins 18 = .ok (.iconst 0, 1) := by decide +kernel
theorem dX10_mergeBegins_19 : decode cX10_mergeBegins 19 = .ok (.ireturn, 1) := by decide +kernel
theorem dX10_mergeBegins_20 : decode cX10_mergeBegins 20 = .ok (.aload_n 0, 1) := by decide +kernel
theorem dX10_mergeBegins_21 : decode cX10_mergeBegins 21 = .ok (.iconst 0, 1) := by decide +kernel
theorem dX10_mergeBegins_22 : decode cX10_mergeBegins 22 = .ok (.invokevirtual 200, 3) := by decide +kernel
theorem dX10_mergeBegins_25 : decode cX10_mergeBegins 25 = .ok (.aload_n 0, 1) := by decide +kernel
theorem dX10_mergeBegins_26 : decode cX10_mergeBegins 26 = .ok (.invokevirtual 203, 3) := by decide +kernel
theorem dX10_mergeBegins_29 : decode cX10_mergeBegins 29 = .ok (.ireturn, 1) := by decide +kernel
theorem dX10_rows_0 : decode cX10_rows 0 = .ok (.aload_n 0, 1) := by decide +kernel
theorem dX10_rows_1 : decode cX10_rows 1 = .ok (.iload_n 1, 1) := by decide +kernel
theorem dX10_rows_2 : decode cX10_rows 2 = .ok (.putfield 125, 3) := by decide +kernel
theorem dX10_rows_5 : decode cX10_rows 5 = .ok (.aload_n 0, 1) := by decide +kernel
theorem dX10_rows_6 : decode cX10_rows 6 = .ok (.iload_n 1, 1) := by decide +kernel
theorem dX10_rows_7 : decode cX10_rows 7 = .ok (.putfield 128, 3) := by decide +kernel
theorem dX10_rows_10 : decode cX10_rows 10 = .ok (.aload_n 0, 1) := by decide +kernel
theorem dX10_rows_11 : decode cX10_rows 11 = .ok (.iload_n 1, 1) := by decide +kernel
theorem dX10_rows_12 : decode cX10_rows 12 = .ok (.aload_n 0, 1) := by decide +kernel
theorem dX10_rows_13 : decode cX10_rows 13 = .ok (.getfield 152, 3) := by decide +kernel
theorem dX10_rows_16 : decode cX10_rows 16 = .ok (.iadd, 1) := by decide +kernel
theorem dX10_rows_17 : decode cX10_rows 17 = .ok (.aload_n 0, 1) := by decide +kernel
theorem dX10_rows_18 : decode cX10_rows 18 = .ok (.getfield 122, 3) := by decide +kernel
theorem dX10_rows_21 : decode cX10_rows 21 = .ok (.invokestatic 50, 3) := by decide +kernel
theorem dX10_rows_24 : decode cX10_rows 24 = .ok (.putfield 134, 3) := by decide +kernel
theorem dX10_rows_27 : decode cX10_rows 27 = .ok (.aload_n 0, 1) := by decide +kernel
theorem dX10_rows_28 : decode cX10_rows 28 = .ok (.aload_n 0, 1) := by decide +kernel
theorem dX10_rows_29 : decode cX10_rows 29 = .ok (.getfield 134, 3) := by decide +kernel
theorem dX10_rows_32 : decode cX10_rows 32 = .ok (.putfield 131, 3) := by decide +kernel
theorem dX10_rows_35 : decode cX10_rows 35 = .ok (.aload_n 0, 1) := by decide +kernel
theorem dX10_rows_36 : decode cX10_rows 36 = .ok (.iload_n 1, 1) := by decide +kernel
theorem dX10_rows_37 : decode cX10_rows 37 = .ok (.iconst 2, 1) := by decide +kernel
theorem dX10_rows_38 : decode cX10_rows 38 = .ok (.aload_n 0, 1) := by decide +kernel
theorem dX10_rows_39 : decode cX10_rows 39 = .ok (.getfield 152, 3) := by decide +kernel
theorem dX10_rows_42 : decode cX10_rows 42 = .ok (.imul, 1) := by decide +kernel
theorem dX10_rows_43 : decode cX10_rows 43 = .ok (.iadd, 1) := by decide +kernel
theorem dX10_rows_44 : decode cX10_rows 44 = .ok (.aload_n 0, 1) := by decide +kernel
theorem dX10_rows_45 : decode cX10_rows 45 = .ok (.getfield 122, 3) := by decide +kernel
theorem dX10_rows_48 : decode cX10_rows 48 = .ok (.invokestatic 50, 3) := by decide +kernel
theorem dX10_rows_51 : decode cX10_rows 51 = .ok (.putfield 137, 3) := by decide +kernel
theorem dX10_rows_54 : decode cX10_rows 54 = .ok (.aload_n 0, 1) := by decide +kernel
theorem dX10_rows_55 : decode cX10_rows 55 = .ok (.iload_n 1, 1) := by decide +kernel
theorem dX10_rows_56 : decode cX10_rows 56 = .ok (.putfield 140, 3) := by decide +kernel
theorem dX10_rows_59 : decode cX10_rows 59 = .ok (.return_, 1) := by decide +kernel
theorem dX10_source_0 : decode cX10_source 0 = .ok (.aload_n 0, 1) := by decide +kernel
theorem dX10_source_1 : decode cX10_source 1 = .ok (.getfield 143, 3) := by decide +kernel
theorem dX10_source_4 : decode cX10_source 4 = .ok (.ifCond .ne 15, 3) := by decide +kernel
theorem dX10_source_7 : decode cX10_source 7 = .ok (.aload_n 0, 1) := by decide +kernel
theorem dX10_source_8 : decode cX10_source 8 = .ok (.getfield 25, 3) := by decide +kernel
theorem dX10_source_11 : decode cX10_source 11 = .ok (.aload_n 0, 1) := by decide +kernel
theorem dX10_source_12 : decode cX10_source 12 = .ok (.getfield 119, 3) := by decide +kernel
theorem dX10_source_15 : decode cX10_source 15 = .ok (.iaload, 1) := by decide +kernel
theorem dX10_source_16 : decode cX10_source 16 = .ok (.goto 12, 3) := by decide +kernel
theorem dX10_source_19 : decode cX10_source 19 = .ok (.aload_n 0, 1) := by decide +kernel
theorem dX10_source_20 : decode cX10_source 20 = .ok (.getfield 28, 3) := by decide +kernel
theorem dX10_source_23 : decode cX10_source 23 = .ok (.aload_n 0, 1) := by decide +kernel
theorem dX10_source_24 : decode cX10_source 24 = .ok (.getfield 119, 3) := by decide +kernel
theorem dX10_source_27 : decode cX10_source 27 = .ok (.iaload, 1) := by decide +kernel
theorem dX10_source_28 : decode cX10_source 28 = .ok (.ireturn, 1) := by decide +kernel
theorem dX10_target_0 : decode cX10_target 0 = .ok (.aload_n 0, 1) := by decide +kernel
theorem dX10_target_1 : decode cX10_target 1 = .ok (.getfield 143, 3) := by decide +kernel
theorem dX10_target_4 : decode cX10_target 4 = .ok (.ifCond .ne 15, 3) := by decide +kernel
theorem dX10_target_7 : decode cX10_target 7 = .ok (.aload_n 0, 1) := by decide +kernel
theorem dX10_target_8 : decode cX10_target 8 = .ok (.getfield 28, 3) := by decide +kernel
theorem dX10_target_11 : decode cX10_target 11 = .ok (.aload_n 0, 1) := by decide +kernel
theorem dX10_target_12 : decode cX10_target 12 = .ok (.getfield 119, 3) := by decide +kernel
theorem dX10_target_15 : decode cX10_target 15 = .ok (.iaload, 1) := by decide +kernel
theorem dX10_target_16 : decode cX10_target 16 = .ok (.goto 12, 3) := by decide +kernel
theorem dX10_target_19 : decode cX10_target 19 = .ok (.aload_n 0, 1) := by decide +kernel
theorem dX10_target_20 : decode cX10_target 20 = .ok (.getfield 25, 3) := by decide +kernel
theorem dX10_target_23 : decode cX10_target 23 = .ok (.aload_n 0, 1) := by decide +kernel
theorem dX10_target_24 : decode cX10_target 24 = .ok (.getfield 119, 3) := by decide +kernel
theorem dX10_target_27 : decode cX10_target 27 = .ok (.iaload, 1) := by decide +kernel
theorem dX10_target_28 : decode cX10_target 28 = .ok (.ireturn, 1) := by decide +kernel
theorem dX10_mergeStands_0 : decode cX10_mergeStands 0 = .ok (.aload_n 0, 1) := by decide +kernel
theorem dX10_mergeStands_1 : decode cX10_mergeStands 1 = .ok (.getfield 128, 3) := by decide +kernel
theorem dX10_mergeStands_4 : decode cX10_mergeStands 4 = .ok (.aload_n 0, 1) := by decide +kernel
theorem dX10_mergeStands_5 : decode cX10_mergeStands 5 = .ok (.getfield 134, 3) := by decide +kernel
theorem dX10_mergeStands_8 : decode cX10_mergeStands 8 = .ok (.if_icmp .ge 16, 3) := by decide +kernel
theorem dX10_mergeStands_11 : decode cX10_mergeStands 11 = .ok (.aload_n 0, 1) := by decide +kernel
theorem dX10_mergeStands_12 : decode cX10_mergeStands 12 = .ok (.getfield 131, 3) := by decide +kernel
theorem dX10_mergeStands_15 : decode cX10_mergeStands 15 = .ok (.aload_n 0, 1) := by decide +kernel
theorem dX10_mergeStands_16 : decode cX10_mergeStands 16 = .ok (.getfield 137, 3) := by decide +kernel
theorem dX10_mergeStands_19 : decode cX10_mergeStands 19 = .ok (.if_icmp .ge 5, 3) := by decide +kernel
theorem dX10_mergeStands_22 : decode cX10_mergeStands 22 = .ok (.iconst 1, 1) := by decide +kernel
theorem dX10_mergeStands_23 : decode cX10_mergeStands 23 = .ok (.ireturn, 1) := by decide +kernel
theorem dX10_mergeStands_24 : decode cX10_mergeStands 24 = .ok (.aload_n 0, 1) := by decide +kernel
theorem dX10_mergeStands_25 : decode cX10_mergeStands 25 = .ok (.getfield 128, 3) := by decide +kernel
theorem dX10_mergeStands_28 : decode cX10_mergeStands 28 = .ok (.aload_n 0, 1) := by decide +kernel
theorem dX10_mergeStands_29 : decode cX10_mergeStands 29 = .ok (.getfield 134, 3) := by decide +kernel
theorem dX10_mergeStands_32 : decode cX10_mergeStands 32 = .ok (.if_icmp .ge 54, 3) := by decide +kernel
theorem dX10_mergeStands_35 : decode cX10_mergeStands 35 = .ok (.aload_n 0, 1) := by decide +kernel
theorem dX10_mergeStands_36 : decode cX10_mergeStands 36 = .ok (.getfield 69, 3) := by decide +kernel
theorem dX10_mergeStands_39 : decode cX10_mergeStands 39 = .ok (.aload_n 0, 1) := by decide +kernel
theorem dX10_mergeStands_40 : decode cX10_mergeStands 40 = .ok (.invokevirtual 206, 3) := by decide +kernel
theorem dX10_mergeStands_43 : decode cX10_mergeStands 43 = .ok (.aload_n 0, 1) := by decide +kernel
theorem dX10_mergeStands_44 : decode cX10_mergeStands 44 = .ok (.getfield 140, 3) := by decide +kernel
theorem dX10_mergeStands_47 : decode cX10_mergeStands 47 = .ok (.iadd, 1) := by decide +kernel
theorem dX10_mergeStands_48 : decode cX10_mergeStands 48 = .ok (.aload_n 0, 1) := by decide +kernel
theorem dX10_mergeStands_49 : decode cX10_mergeStands 49 = .ok (.getfield 69, 3) := by decide +kernel
theorem dX10_mergeStands_52 : decode cX10_mergeStands 52 = .ok (.aload_n 0, 1) := by decide +kernel
theorem dX10_mergeStands_53 : decode cX10_mergeStands 53 = .ok (.invokevirtual 209, 3) := by decide +kernel
theorem dX10_mergeStands_56 : decode cX10_mergeStands 56 = .ok (.aload_n 0, 1) := by decide +kernel
theorem dX10_mergeStands_57 : decode cX10_mergeStands 57 = .ok (.getfield 128, 3) := by decide +kernel
theorem dX10_mergeStands_60 : decode cX10_mergeStands 60 = .ok (.iadd, 1) := by decide +kernel
theorem dX10_mergeStands_61 : decode cX10_mergeStands 61 = .ok (.iaload, 1) := by decide +kernel
theorem dX10_mergeStands_62 : decode cX10_mergeStands 62 = .ok (.iastore, 1) := by decide +kernel
theorem dX10_mergeStands_63 : decode cX10_mergeStands 63 = .ok (.aload_n 0, 1) := by decide +kernel
theorem dX10_mergeStands_64 : decode cX10_mergeStands 64 = .ok (.dup, 1) := by decide +kernel
theorem dX10_mergeStands_65 : decode cX10_mergeStands 65 = .ok (.getfield 140, 3) := by decide +kernel
theorem dX10_mergeStands_68 : decode cX10_mergeStands 68 = .ok (.iconst 1, 1) := by decide +kernel
theorem dX10_mergeStands_69 : decode cX10_mergeStands 69 = .ok (.iadd, 1) := by decide +kernel
theorem dX10_mergeStands_70 : decode cX10_mergeStands 70 = .ok (.putfield 140, 3) := by decide +kernel
theorem dX10_mergeStands_73 : decode cX10_mergeStands 73 = .ok (.aload_n 0, 1) := by decide +kernel
theorem dX10_mergeStands_74 : decode cX10_mergeStands 74 = .ok (.dup, 1) := by decide +kernel
theorem dX10_mergeStands_75 : decode cX10_mergeStands 75 = .ok (.getfield 128, 3) := by decide +kernel
theorem dX10_mergeStands_78 : decode cX10_mergeStands 78 = .ok (.iconst 1, 1) := by decide +kernel
theorem dX10_mergeStands_79 : decode cX10_mergeStands 79 = .ok (.iadd, 1) := by decide +kernel
theorem dX10_mergeStands_80 : decode cX10_mergeStands 80 = .ok (.putfield 128, 3) := by decide +kernel
theorem dX10_mergeStands_83 : decode cX10_mergeStands 83 = .ok (.goto (-59), 3) := by decide +kernel
theorem dX10_mergeStands_86 : decode cX10_mergeStands 86 = .ok (.aload_n 0, 1) := by decide +kernel
theorem dX10_mergeStands_87 : decode cX10_mergeStands 87 = .ok (.getfield 131, 3) := by decide +kernel
theorem dX10_mergeStands_90 : decode cX10_mergeStands 90 = .ok (.aload_n 0, 1) := by decide +kernel
theorem dX10_mergeStands_91 : decode cX10_mergeStands 91 = .ok (.getfield 137, 3) := by decide +kernel
theorem dX10_mergeStands_94 : decode cX10_mergeStands 94 = .ok (.if_icmp .ge 54, 3) := by decide +kernel
theorem dX10_mergeStands_97 : decode cX10_mergeStands 97 = .ok (.aload_n 0, 1) := by decide +kernel
theorem dX10_mergeStands_98 : decode cX10_mergeStands 98 = .ok (.getfield 69, 3) := by decide +kernel
theorem dX10_mergeStands_101 : decode cX10_mergeStands 101 = .ok (.aload_n 0, 1) := by decide +kernel
theorem dX10_mergeStands_102 : decode cX10_mergeStands 102 = .ok (.invokevirtual 206, 3) := by decide +kernel
theorem dX10_mergeStands_105 : decode cX10_mergeStands 105 = .ok (.aload_n 0, 1) := by decide +kernel
theorem dX10_mergeStands_106 : decode cX10_mergeStands 106 = .ok (.getfield 140, 3) := by decide +kernel
theorem dX10_mergeStands_109 : decode cX10_mergeStands 109 = .ok (.iadd, 1) := by decide +kernel
theorem dX10_mergeStands_110 : decode cX10_mergeStands 110 = .ok (.aload_n 0, 1) := by decide +kernel
theorem dX10_mergeStands_111 : decode cX10_mergeStands 111 = .ok (.getfield 69, 3) := by decide +kernel
theorem dX10_mergeStands_114 : decode cX10_mergeStands 114 = .ok (.aload_n 0, 1) := by decide +kernel
theorem dX10_mergeStands_115 : decode cX10_mergeStands 115 = .ok (.invokevirtual 209, 3) := by decide +kernel
theorem dX10_mergeStands_118 : decode cX10_mergeStands 118 = .ok (.aload_n 0, 1) := by decide +kernel
theorem dX10_mergeStands_119 : decode cX10_mergeStands 119 = .ok (.getfield 131, 3) := by decide +kernel
theorem dX10_mergeStands_122 : decode cX10_mergeStands 122 = .ok (.iadd, 1) := by decide +kernel
theorem dX10_mergeStands_123 : decode cX10_mergeStands 123 = .ok (.iaload, 1) := by decide +kernel
theorem dX10_mergeStands_124 : decode cX10_mergeStands 124 = .ok (.iastore, 1) := by decide +kernel
theorem dX10_mergeStands_125 : decode cX10_mergeStands 125 = .ok (.aload_n 0, 1) := by decide +kernel
theorem dX10_mergeStands_126 : decode cX10_mergeStands 126 = .ok (.dup, 1) := by decide +kernel
theorem dX10_mergeStands_127 : decode cX10_mergeStands 127 = .ok (.getfield 140, 3) := by decide +kernel
theorem dX10_mergeStands_130 : decode cX10_mergeStands 130 = .ok (.iconst 1, 1) := by decide +kernel
theorem dX10_mergeStands_131 : decode cX10_mergeStands 131 = .ok (.iadd, 1) := by decide +kernel
theorem dX10_mergeStands_132 : decode cX10_mergeStands 132 = .ok (.putfield 140, 3) := by decide +kernel
theorem dX10_mergeStands_135 : decode cX10_mergeStands 135 = .ok (.aload_n 0, 1) := by decide +kernel
theorem dX10_mergeStands_136 : decode cX10_mergeStands 136 = .ok (.dup, 1) := by decide +kernel
theorem dX10_mergeStands_137 : decode cX10_mergeStands 137 = .ok (.getfield 131, 3) := by decide +kernel
theorem dX10_mergeStands_140 : decode cX10_mergeStands 140 = .ok (.iconst 1, 1) := by decide +kernel
theorem dX10_mergeStands_141 : decode cX10_mergeStands 141 = .ok (.iadd, 1) := by decide +kernel
theorem dX10_mergeStands_142 : decode cX10_mergeStands 142 = .ok (.putfield 131, 3) := by decide +kernel
theorem dX10_mergeStands_145 : decode cX10_mergeStands 145 = .ok (.goto (-59), 3) := by decide +kernel
end
section
theorem dX10_mergeStands_148 : decode cX10_mergeStands 148 = .ok (.aload_n 0, 1) := by decide +kernel
theorem dX10_mergeStands_149 : decode cX10_mergeStands 149 = .ok (.getfield 125, 3) := by decide +kernel
theorem dX10_mergeStands_152 : decode cX10_mergeStands 152 = .ok (.iconst 2, 1) := by decide +kernel
theorem dX10_mergeStands_153 : decode cX10_mergeStands 153 = .ok (.aload_n 0, 1) := by decide +kernel
theorem dX10_mergeStands_154 : decode cX10_mergeStands 154 = .ok (.getfield 152, 3) := by decide +kernel
theorem dX10_mergeStands_157 : decode cX10_mergeStands 157 = .ok (.imul, 1) := by decide +kernel
theorem dX10_mergeStands_158 : decode cX10_mergeStands 158 = .ok (.iadd, 1) := by decide +kernel
theorem dX10_mergeStands_159 : decode cX10_mergeStands 159 = .ok (.aload_n 0, 1) := by decide +kernel
theorem dX10_mergeStands_160 : decode cX10_mergeStands 160 = .ok (.getfield 122, 3) := by decide +kernel
theorem dX10_mergeStands_163 : decode cX10_mergeStands 163 = .ok (.if_icmp .ge 21, 3) := by decide +kernel
theorem dX10_mergeStands_166 : decode cX10_mergeStands 166 = .ok (.aload_n 0, 1) := by decide +kernel
theorem dX10_mergeStands_167 : decode cX10_mergeStands 167 = .ok (.aload_n 0, 1) := by decide +kernel
theorem dX10_mergeStands_168 : decode cX10_mergeStands 168 = .ok (.getfield 125, 3) := by decide +kernel
theorem dX10_mergeStands_171 : decode cX10_mergeStands 171 = .ok (.iconst 2, 1) := by decide +kernel
theorem dX10_mergeStands_172 : decode cX10_mergeStands 172 = .ok (.aload_n 0, 1) := by decide +kernel
theorem dX10_mergeStands_173 : decode cX10_mergeStands 173 = .ok (.getfield 152, 3) := by decide +kernel
theorem dX10_mergeStands_176 : decode cX10_mergeStands 176 = .ok (.imul, 1) := by decide +kernel
theorem dX10_mergeStands_177 : decode cX10_mergeStands 177 = .ok (.iadd, 1) := by decide +kernel
theorem dX10_mergeStands_178 : decode cX10_mergeStands 178 = .ok (.invokevirtual 200, 3) := by decide +kernel
theorem dX10_mergeStands_181 : decode cX10_mergeStands 181 = .ok (.goto (-181), 3) := by decide +kernel
theorem dX10_mergeStands_184 : decode cX10_mergeStands 184 = .ok (.aload_n 0, 1) := by decide +kernel
theorem dX10_mergeStands_185 : decode cX10_mergeStands 185 = .ok (.iconst 1, 1) := by decide +kernel
theorem dX10_mergeStands_186 : decode cX10_mergeStands 186 = .ok (.aload_n 0, 1) := by decide +kernel
theorem dX10_mergeStands_187 : decode cX10_mergeStands 187 = .ok (.getfield 143, 3) := by decide +kernel
theorem dX10_mergeStands_190 : decode cX10_mergeStands 190 = .ok (.isub, 1) := by decide +kernel
theorem dX10_mergeStands_191 : decode cX10_mergeStands 191 = .ok (.putfield 143, 3) := by decide +kernel
theorem dX10_mergeStands_194 : decode cX10_mergeStands 194 = .ok (.aload_n 0, 1) := by decide +kernel
theorem dX10_mergeStands_195 : decode cX10_mergeStands 195 = .ok (.dup, 1) := by decide +kernel
theorem dX10_mergeStands_196 : decode cX10_mergeStands 196 = .ok (.getfield 152, 3) := by decide +kernel
theorem dX10_mergeStands_199 : decode cX10_mergeStands 199 = .ok (.iconst 2, 1) := by decide +kernel
theorem dX10_mergeStands_200 : decode cX10_mergeStands 200 = .ok (.imul, 1) := by decide +kernel
theorem dX10_mergeStands_201 : decode cX10_mergeStands 201 = .ok (.putfield 152, 3) := by decide +kernel
theorem dX10_mergeStands_204 : decode cX10_mergeStands 204 = .ok (.aload_n 0, 1) := by decide +kernel
theorem dX10_mergeStands_205 : decode cX10_mergeStands 205 = .ok (.getfield 152, 3) := by decide +kernel
theorem dX10_mergeStands_208 : decode cX10_mergeStands 208 = .ok (.aload_n 0, 1) := by decide +kernel
theorem dX10_mergeStands_209 : decode cX10_mergeStands 209 = .ok (.getfield 122, 3) := by decide +kernel
theorem dX10_mergeStands_212 : decode cX10_mergeStands 212 = .ok (.if_icmp .lt 6, 3) := by decide +kernel
theorem dX10_mergeStands_215 : decode cX10_mergeStands 215 = .ok (.goto 11, 3) := by decide +kernel
theorem dX10_mergeStands_218 : decode cX10_mergeStands 218 = .ok (.aload_n 0, 1) := by decide +kernel
theorem dX10_mergeStands_219 : decode cX10_mergeStands 219 = .ok (.iconst 0, 1) := by decide +kernel
theorem dX10_mergeStands_220 : decode cX10_mergeStands 220 = .ok (.invokevirtual 200, 3) := by decide +kernel
theorem dX10_mergeStands_223 : decode cX10_mergeStands 223 = .ok (.goto (-223), 3) := by decide +kernel
theorem dX10_mergeStands_226 : decode cX10_mergeStands 226 = .ok (.iconst 0, 1) := by decide +kernel
theorem dX10_mergeStands_227 : decode cX10_mergeStands 227 = .ok (.istore_n 1, 1) := by decide +kernel
theorem dX10_mergeStands_228 : decode cX10_mergeStands 228 = .ok (.iload_n 1, 1) := by decide +kernel
theorem dX10_mergeStands_229 : decode cX10_mergeStands 229 = .ok (.aload_n 0, 1) := by decide +kernel
theorem dX10_mergeStands_230 : decode cX10_mergeStands 230 = .ok (.getfield 122, 3) := by decide +kernel
theorem dX10_mergeStands_233 : decode cX10_mergeStands 233 = .ok (.if_icmp .ge 49, 3) := by decide +kernel
theorem dX10_mergeStands_236 : decode cX10_mergeStands 236 = .ok (.aload_n 0, 1) := by decide +kernel
theorem dX10_mergeStands_237 : decode cX10_mergeStands 237 = .ok (.getfield 143, 3) := by decide +kernel
theorem dX10_mergeStands_240 : decode cX10_mergeStands 240 = .ok (.iconst 1, 1) := by decide +kernel
theorem dX10_mergeStands_241 : decode cX10_mergeStands 241 = .ok (.if_icmp .ne 41, 3) := by decide +kernel
theorem dX10_mergeStands_244 : decode cX10_mergeStands 244 = .ok (.aload_n 0, 1) := by decide +kernel
theorem dX10_mergeStands_245 : decode cX10_mergeStands 245 = .ok (.getfield 69, 3) := by decide +kernel
theorem dX10_mergeStands_248 : decode cX10_mergeStands 248 = .ok (.aload_n 0, 1) := by decide +kernel
theorem dX10_mergeStands_249 : decode cX10_mergeStands 249 = .ok (.getfield 25, 3) := by decide +kernel
theorem dX10_mergeStands_252 : decode cX10_mergeStands 252 = .ok (.aload_n 0, 1) := by decide +kernel
theorem dX10_mergeStands_253 : decode cX10_mergeStands 253 = .ok (.getfield 119, 3) := by decide +kernel
theorem dX10_mergeStands_256 : decode cX10_mergeStands 256 = .ok (.iaload, 1) := by decide +kernel
theorem dX10_mergeStands_257 : decode cX10_mergeStands 257 = .ok (.iload_n 1, 1) := by decide +kernel
theorem dX10_mergeStands_258 : decode cX10_mergeStands 258 = .ok (.iadd, 1) := by decide +kernel
theorem dX10_mergeStands_259 : decode cX10_mergeStands 259 = .ok (.aload_n 0, 1) := by decide +kernel
theorem dX10_mergeStands_260 : decode cX10_mergeStands 260 = .ok (.getfield 69, 3) := by decide +kernel
theorem dX10_mergeStands_263 : decode cX10_mergeStands 263 = .ok (.aload_n 0, 1) := by decide +kernel
theorem dX10_mergeStands_264 : decode cX10_mergeStands 264 = .ok (.getfield 28, 3) := by decide +kernel
theorem dX10_mergeStands_267 : decode cX10_mergeStands 267 = .ok (.aload_n 0, 1) := by decide +kernel
theorem dX10_mergeStands_268 : decode cX10_mergeStands 268 = .ok (.getfield 119, 3) := by decide +kernel
theorem dX10_mergeStands_271 : decode cX10_mergeStands 271 = .ok (.iaload, 1) := by decide +kernel
theorem dX10_mergeStands_272 : decode cX10_mergeStands 272 = .ok (.iload_n 1, 1) := by decide +kernel
theorem dX10_mergeStands_273 : decode cX10_mergeStands 273 = .ok (.iadd, 1) := by decide +kernel
theorem dX10_mergeStands_274 : decode cX10_mergeStands 274 = .ok (.iaload, 1) := by decide +kernel
theorem dX10_mergeStands_275 : decode cX10_mergeStands 275 = .ok (.iastore, 1) := by decide +kernel
theorem dX10_mergeStands_276 : decode cX10_mergeStands 276 = .ok (.iinc 1 1, 3) := by decide +kernel
theorem dX10_mergeStands_279 : decode cX10_mergeStands 279 = .ok (.goto (-51), 3) := by decide +kernel
theorem dX10_mergeStands_282 : decode cX10_mergeStands 282 = .ok (.iconst 0, 1) := by decide +kernel
theorem dX10_mergeStands_283 : decode cX10_mergeStands 283 = .ok (.ireturn, 1) := by decide +kernel
theorem dX10_mergeGoes_0 : decode cX10_mergeGoes 0 = .ok (.aload_n 0, 1) := by decide +kernel
theorem dX10_mergeGoes_1 : decode cX10_mergeGoes 1 = .ok (.getfield 69, 3) := by decide +kernel
theorem dX10_mergeGoes_4 : decode cX10_mergeGoes 4 = .ok (.aload_n 0, 1) := by decide +kernel
theorem dX10_mergeGoes_5 : decode cX10_mergeGoes 5 = .ok (.invokevirtual 209, 3) := by decide +kernel
theorem dX10_mergeGoes_8 : decode cX10_mergeGoes 8 = .ok (.aload_n 0, 1) := by decide +kernel
theorem dX10_mergeGoes_9 : decode cX10_mergeGoes 9 = .ok (.getfield 128, 3) := by decide +kernel
theorem dX10_mergeGoes_12 : decode cX10_mergeGoes 12 = .ok (.iadd, 1) := by decide +kernel
theorem dX10_mergeGoes_13 : decode cX10_mergeGoes 13 = .ok (.iaload, 1) := by decide +kernel
theorem dX10_mergeGoes_14 : decode cX10_mergeGoes 14 = .ok (.aload_n 0, 1) := by decide +kernel
theorem dX10_mergeGoes_15 : decode cX10_mergeGoes 15 = .ok (.getfield 69, 3) := by decide +kernel
theorem dX10_mergeGoes_18 : decode cX10_mergeGoes 18 = .ok (.aload_n 0, 1) := by decide +kernel
theorem dX10_mergeGoes_19 : decode cX10_mergeGoes 19 = .ok (.invokevirtual 209, 3) := by decide +kernel
theorem dX10_mergeGoes_22 : decode cX10_mergeGoes 22 = .ok (.aload_n 0, 1) := by decide +kernel
theorem dX10_mergeGoes_23 : decode cX10_mergeGoes 23 = .ok (.getfield 131, 3) := by decide +kernel
theorem dX10_mergeGoes_26 : decode cX10_mergeGoes 26 = .ok (.iadd, 1) := by decide +kernel
theorem dX10_mergeGoes_27 : decode cX10_mergeGoes 27 = .ok (.iaload, 1) := by decide +kernel
theorem dX10_mergeGoes_28 : decode cX10_mergeGoes 28 = .ok (.if_icmp .gt 44, 3) := by decide +kernel
theorem dX10_mergeGoes_31 : decode cX10_mergeGoes 31 = .ok (.aload_n 0, 1) := by decide +kernel
theorem dX10_mergeGoes_32 : decode cX10_mergeGoes 32 = .ok (.getfield 69, 3) := by decide +kernel
theorem dX10_mergeGoes_35 : decode cX10_mergeGoes 35 = .ok (.aload_n 0, 1) := by decide +kernel
theorem dX10_mergeGoes_36 : decode cX10_mergeGoes 36 = .ok (.invokevirtual 206, 3) := by decide +kernel
theorem dX10_mergeGoes_39 : decode cX10_mergeGoes 39 = .ok (.aload_n 0, 1) := by decide +kernel
theorem dX10_mergeGoes_40 : decode cX10_mergeGoes 40 = .ok (.getfield 140, 3) := by decide +kernel
theorem dX10_mergeGoes_43 : decode cX10_mergeGoes 43 = .ok (.iadd, 1) := by decide +kernel
theorem dX10_mergeGoes_44 : decode cX10_mergeGoes 44 = .ok (.aload_n 0, 1) := by decide +kernel
theorem dX10_mergeGoes_45 : decode cX10_mergeGoes 45 = .ok (.getfield 69, 3) := by decide +kernel
theorem dX10_mergeGoes_48 : decode cX10_mergeGoes 48 = .ok (.aload_n 0, 1) := by decide +kernel
theorem dX10_mergeGoes_49 : decode cX10_mergeGoes 49 = .ok (.invokevirtual 209, 3) := by decide +kernel
theorem dX10_mergeGoes_52 : decode cX10_mergeGoes 52 = .ok (.aload_n 0, 1) := by decide +kernel
theorem dX10_mergeGoes_53 : decode cX10_mergeGoes 53 = .ok (.getfield 128, 3) := by decide +kernel
theorem dX10_mergeGoes_56 : decode cX10_mergeGoes 56 = .ok (.iadd, 1) := by decide +kernel
theorem dX10_mergeGoes_57 : decode cX10_mergeGoes 57 = .ok (.iaload, 1) := by decide +kernel
theorem dX10_mergeGoes_58 : decode cX10_mergeGoes 58 = .ok (.iastore, 1) := by decide +kernel
theorem dX10_mergeGoes_59 : decode cX10_mergeGoes 59 = .ok (.aload_n 0, 1) := by decide +kernel
theorem dX10_mergeGoes_60 : decode cX10_mergeGoes 60 = .ok (.dup, 1) := by decide +kernel
theorem dX10_mergeGoes_61 : decode cX10_mergeGoes 61 = .ok (.getfield 128, 3) := by decide +kernel
theorem dX10_mergeGoes_64 : decode cX10_mergeGoes 64 = .ok (.iconst 1, 1) := by decide +kernel
theorem dX10_mergeGoes_65 : decode cX10_mergeGoes 65 = .ok (.iadd, 1) := by decide +kernel
theorem dX10_mergeGoes_66 : decode cX10_mergeGoes 66 = .ok (.putfield 128, 3) := by decide +kernel
theorem dX10_mergeGoes_69 : decode cX10_mergeGoes 69 = .ok (.goto 41, 3) := by decide +kernel
theorem dX10_mergeGoes_72 : decode cX10_mergeGoes 72 = .ok (.aload_n 0, 1) := by decide +kernel
theorem dX10_mergeGoes_73 : decode cX10_mergeGoes 73 = .ok (.getfield 69, 3) := by decide +kernel
theorem dX10_mergeGoes_76 : decode cX10_mergeGoes 76 = .ok (.aload_n 0, 1) := by decide +kernel
theorem dX10_mergeGoes_77 : decode cX10_mergeGoes 77 = .ok (.invokevirtual 206, 3) := by decide +kernel
theorem dX10_mergeGoes_80 : decode cX10_mergeGoes 80 = .ok (.aload_n 0, 1) := by decide +kernel
theorem dX10_mergeGoes_81 : decode cX10_mergeGoes 81 = .ok (.getfield 140, 3) := by decide +kernel
theorem dX10_mergeGoes_84 : decode cX10_mergeGoes 84 = .ok (.iadd, 1) := by decide +kernel
theorem dX10_mergeGoes_85 : decode cX10_mergeGoes 85 = .ok (.aload_n 0, 1) := by decide +kernel
theorem dX10_mergeGoes_86 : decode cX10_mergeGoes 86 = .ok (.getfield 69, 3) := by decide +kernel
theorem dX10_mergeGoes_89 : decode cX10_mergeGoes 89 = .ok (.aload_n 0, 1) := by decide +kernel
theorem dX10_mergeGoes_90 : decode cX10_mergeGoes 90 = .ok (.invokevirtual 209, 3) := by decide +kernel
theorem dX10_mergeGoes_93 : decode cX10_mergeGoes 93 = .ok (.aload_n 0, 1) := by decide +kernel
theorem dX10_mergeGoes_94 : decode cX10_mergeGoes 94 = .ok (.getfield 131, 3) := by decide +kernel
theorem dX10_mergeGoes_97 : decode cX10_mergeGoes 97 = .ok (.iadd, 1) := by decide +kernel
theorem dX10_mergeGoes_98 : decode cX10_mergeGoes 98 = .ok (.iaload, 1) := by decide +kernel
theorem dX10_mergeGoes_99 : decode cX10_mergeGoes 99 = .ok (.iastore, 1) := by decide +kernel
theorem dX10_mergeGoes_100 : decode cX10_mergeGoes 100 = .ok (.aload_n 0, 1) := by decide +kernel
theorem dX10_mergeGoes_101 : decode cX10_mergeGoes 101 = .ok (.dup, 1) := by decide +kernel
theorem dX10_mergeGoes_102 : decode cX10_mergeGoes 102 = .ok (.getfield 131, 3) := by decide +kernel
theorem dX10_mergeGoes_105 : decode cX10_mergeGoes 105 = .ok (.iconst 1, 1) := by decide +kernel
theorem dX10_mergeGoes_106 : decode cX10_mergeGoes 106 = .ok (.iadd, 1) := by decide +kernel
theorem dX10_mergeGoes_107 : decode cX10_mergeGoes 107 = .ok (.putfield 131, 3) := by decide +kernel
theorem dX10_mergeGoes_110 : decode cX10_mergeGoes 110 = .ok (.aload_n 0, 1) := by decide +kernel
theorem dX10_mergeGoes_111 : decode cX10_mergeGoes 111 = .ok (.dup, 1) := by decide +kernel
theorem dX10_mergeGoes_112 : decode cX10_mergeGoes 112 = .ok (.getfield 140, 3) := by decide +kernel
theorem dX10_mergeGoes_115 : decode cX10_mergeGoes 115 = .ok (.iconst 1, 1) := by decide +kernel
theorem dX10_mergeGoes_116 : decode cX10_mergeGoes 116 = .ok (.iadd, 1) := by decide +kernel
theorem dX10_mergeGoes_117 : decode cX10_mergeGoes 117 = .ok (.putfield 140, 3) := by decide +kernel
theorem dX10_mergeGoes_120 : decode cX10_mergeGoes 120 = .ok (.aload_n 0, 1) := by decide +kernel
theorem dX10_mergeGoes_121 : decode cX10_mergeGoes 121 = .ok (.invokevirtual 203, 3) := by decide +kernel
theorem dX10_mergeGoes_124 : decode cX10_mergeGoes 124 = .ok (.ireturn, 1) := by decide +kernel
theorem dX10_range_0 : decode cX10_range 0 = .ok (.aload_n 0, 1) := by decide +kernel
theorem dX10_range_1 : decode cX10_range 1 = .ok (.iload_n 1, 1) := by decide +kernel
theorem dX10_range_2 : decode cX10_range 2 = .ok (.putfield 125, 3) := by decide +kernel
theorem dX10_range_5 : decode cX10_range 5 = .ok (.aload_n 0, 1) := by decide +kernel
theorem dX10_range_6 : decode cX10_range 6 = .ok (.iload_n 2, 1) := by decide +kernel
theorem dX10_range_7 : decode cX10_range 7 = .ok (.putfield 128, 3) := by decide +kernel
theorem dX10_range_10 : decode cX10_range 10 = .ok (.aload_n 0, 1) := by decide +kernel
theorem dX10_range_11 : decode cX10_range 11 = .ok (.iload_n 1, 1) := by decide +kernel
theorem dX10_range_12 : decode cX10_range 12 = .ok (.putfield 131, 3) := by decide +kernel
theorem dX10_range_15 : decode cX10_range 15 = .ok (.aload_n 0, 1) := by decide +kernel
theorem dX10_range_16 : decode cX10_range 16 = .ok (.iload_n 1, 1) := by decide +kernel
theorem dX10_range_17 : decode cX10_range 17 = .ok (.putfield 134, 3) := by decide +kernel
theorem dX10_range_20 : decode cX10_range 20 = .ok (.aload_n 0, 1) := by decide +kernel
theorem dX10_range_21 : decode cX10_range 21 = .ok (.iload_n 1, 1) := by decide +kernel
theorem dX10_range_22 : decode cX10_range 22 = .ok (.iload_n 2, 1) := by decide +kernel
theorem dX10_range_23 : decode cX10_range 23 = .ok (.iadd, 1) := by decide +kernel
theorem dX10_range_24 : decode cX10_range 24 = .ok (.iconst 2, 1) := by decide +kernel
theorem dX10_range_25 : decode cX10_range 25 = .ok (.idiv, 1) := by decide +kernel
theorem dX10_range_26 : decode cX10_range 26 = .ok (.iload_n 2, 1) := by decide +kernel
theorem dX10_range_27 : decode cX10_range 27 = .ok (.invokevirtual 190, 3) := by decide +kernel
theorem dX10_range_30 : decode cX10_range 30 = .ok (.iconst 1, 1) := by decide +kernel
theorem dX10_range_31 : decode cX10_range 31 = .ok (.ireturn, 1) := by decide +kernel
theorem dX10_rangeGoes_0 : decode cX10_rangeGoes 0 = .ok (.aload_n 0, 1) := by decide +kernel
theorem dX10_rangeGoes_1 : decode cX10_rangeGoes 1 = .ok (.aload_n 0, 1) := by decide +kernel
theorem dX10_rangeGoes_2 : decode cX10_rangeGoes 2 = .ok (.getfield 134, 3) := by decide +kernel
theorem dX10_rangeGoes_5 : decode cX10_rangeGoes 5 = .ok (.invokevirtual 187, 3) := by decide +kernel
theorem dX10_rangeGoes_8 : decode cX10_rangeGoes 8 = .ok (.aload_n 0, 1) := by decide +kernel
theorem dX10_rangeGoes_9 : decode cX10_rangeGoes 9 = .ok (.aload_n 0, 1) := by decide +kernel
theorem dX10_rangeGoes_10 : decode cX10_rangeGoes 10 = .ok (.getfield 128, 3) := by decide +kernel
theorem dX10_rangeGoes_13 : decode cX10_rangeGoes 13 = .ok (.invokevirtual 187, 3) := by decide +kernel
theorem dX10_rangeGoes_16 : decode cX10_rangeGoes 16 = .ok (.if_icmp .ge 25, 3) := by decide +kernel
theorem dX10_rangeGoes_19 : decode cX10_rangeGoes 19 = .ok (.aload_n 0, 1) := by decide +kernel
theorem dX10_rangeGoes_20 : decode cX10_rangeGoes 20 = .ok (.aload_n 0, 1) := by decide +kernel
theorem dX10_rangeGoes_21 : decode cX10_rangeGoes 21 = .ok (.getfield 134, 3) := by decide +kernel
theorem dX10_rangeGoes_24 : decode cX10_rangeGoes 24 = .ok (.aload_n 0, 1) := by decide +kernel
theorem dX10_rangeGoes_25 : decode cX10_rangeGoes 25 = .ok (.getfield 131, 3) := by decide +kernel
theorem dX10_rangeGoes_28 : decode cX10_rangeGoes 28 = .ok (.invokevirtual 190, 3) := by decide +kernel
theorem dX10_rangeGoes_31 : decode cX10_rangeGoes 31 = .ok (.aload_n 0, 1) := by decide +kernel
theorem dX10_rangeGoes_32 : decode cX10_rangeGoes 32 = .ok (.dup, 1) := by decide +kernel
theorem dX10_rangeGoes_33 : decode cX10_rangeGoes 33 = .ok (.getfield 131, 3) := by decide +kernel
theorem dX10_rangeGoes_36 : decode cX10_rangeGoes 36 = .ok (.iconst 1, 1) := by decide +kernel
theorem dX10_rangeGoes_37 : decode cX10_rangeGoes 37 = .ok (.iadd, 1) := by decide +kernel
theorem dX10_rangeGoes_38 : decode cX10_rangeGoes 38 = .ok (.putfield 131, 3) := by decide +kernel
theorem dX10_rangeGoes_41 : decode cX10_rangeGoes 41 = .ok (.aload_n 0, 1) := by decide +kernel
theorem dX10_rangeGoes_42 : decode cX10_rangeGoes 42 = .ok (.dup, 1) := by decide +kernel
theorem dX10_rangeGoes_43 : decode cX10_rangeGoes 43 = .ok (.getfield 134, 3) := by decide +kernel
theorem dX10_rangeGoes_46 : decode cX10_rangeGoes 46 = .ok (.iconst 1, 1) := by decide +kernel
theorem dX10_rangeGoes_47 : decode cX10_rangeGoes 47 = .ok (.iadd, 1) := by decide +kernel
theorem dX10_rangeGoes_48 : decode cX10_rangeGoes 48 = .ok (.putfield 134, 3) := by decide +kernel
theorem dX10_rangeGoes_51 : decode cX10_rangeGoes 51 = .ok (.aload_n 0, 1) := by decide +kernel
theorem dX10_rangeGoes_52 : decode cX10_rangeGoes 52 = .ok (.getfield 134, 3) := by decide +kernel
theorem dX10_rangeGoes_55 : decode cX10_rangeGoes 55 = .ok (.aload_n 0, 1) := by decide +kernel
theorem dX10_rangeGoes_56 : decode cX10_rangeGoes 56 = .ok (.getfield 128, 3) := by decide +kernel
theorem dX10_rangeGoes_59 : decode cX10_rangeGoes 59 = .ok (.if_icmp .ge 5, 3) := by decide +kernel
theorem dX10_rangeGoes_62 : decode cX10_rangeGoes 62 = .ok (.iconst 1, 1) := by decide +kernel
theorem dX10_rangeGoes_63 : decode cX10_rangeGoes 63 = .ok (.ireturn, 1) := by decide +kernel
theorem dX10_rangeGoes_64 : decode cX10_rangeGoes 64 = .ok (.aload_n 0, 1) := by decide +kernel
theorem dX10_rangeGoes_65 : decode cX10_rangeGoes 65 = .ok (.aload_n 0, 1) := by decide +kernel
theorem dX10_rangeGoes_66 : decode cX10_rangeGoes 66 = .ok (.getfield 131, 3) := by decide +kernel
theorem dX10_rangeGoes_69 : decode cX10_rangeGoes 69 = .ok (.aload_n 0, 1) := by decide +kernel
theorem dX10_rangeGoes_70 : decode cX10_rangeGoes 70 = .ok (.getfield 128, 3) := by decide +kernel
theorem dX10_rangeGoes_73 : decode cX10_rangeGoes 73 = .ok (.invokevirtual 190, 3) := by decide +kernel
theorem dX10_rangeGoes_76 : decode cX10_rangeGoes 76 = .ok (.aload_n 0, 1) := by decide +kernel
theorem dX10_rangeGoes_77 : decode cX10_rangeGoes 77 = .ok (.getfield 131, 3) := by decide +kernel
theorem dX10_rangeGoes_80 : decode cX10_rangeGoes 80 = .ok (.aload_n 0, 1) := by decide +kernel
theorem dX10_rangeGoes_81 : decode cX10_rangeGoes 81 = .ok (.getfield 125, 3) := by decide +kernel
theorem dX10_rangeGoes_84 : decode cX10_rangeGoes 84 = .ok (.isub, 1) := by decide +kernel
theorem dX10_rangeGoes_85 : decode cX10_rangeGoes 85 = .ok (.aload_n 0, 1) := by decide +kernel
theorem dX10_rangeGoes_86 : decode cX10_rangeGoes 86 = .ok (.getfield 128, 3) := by decide +kernel
theorem dX10_rangeGoes_89 : decode cX10_rangeGoes 89 = .ok (.aload_n 0, 1) := by decide +kernel
theorem dX10_rangeGoes_90 : decode cX10_rangeGoes 90 = .ok (.getfield 131, 3) := by decide +kernel
theorem dX10_rangeGoes_93 : decode cX10_rangeGoes 93 = .ok (.isub, 1) := by decide +kernel
theorem dX10_rangeGoes_94 : decode cX10_rangeGoes 94 = .ok (.if_icmp .le 7, 3) := by decide +kernel
theorem dX10_rangeGoes_97 : decode cX10_rangeGoes 97 = .ok (.iconst 1, 1) := by decide +kernel
theorem dX10_rangeGoes_98 : decode cX10_rangeGoes 98 = .ok (.goto 4, 3) := by decide +kernel
theorem dX10_rangeGoes_101 : decode cX10_rangeGoes 101 = .ok (.iconst 0, 1) := by decide +kernel
theorem dX10_rangeGoes_102 : decode cX10_rangeGoes 102 = .ok (.istore_n 1, 1) := by decide +kernel
theorem dX10_rangeGoes_103 : decode cX10_rangeGoes 103 = .ok (.iload_n 1, 1) := by decide +kernel
theorem dX10_rangeGoes_104 : decode cX10_rangeGoes 104 = .ok (.ifCond .eq 10, 3) := by decide +kernel
theorem dX10_rangeGoes_107 : decode cX10_rangeGoes 107 = .ok (.aload_n 0, 1) := by decide +kernel
theorem dX10_rangeGoes_108 : decode cX10_rangeGoes 108 = .ok (.getfield 125, 3) := by decide +kernel
theorem dX10_rangeGoes_111 : decode cX10_rangeGoes 111 = .ok (.goto 9, 3) := by decide +kernel
theorem dX10_rangeGoes_114 : decode cX10_rangeGoes 114 = .ok (.aload_n 0, 1) := by decide +kernel
theorem dX10_rangeGoes_115 : decode cX10_rangeGoes 115 = .ok (.getfield 131, 3) := by decide +kernel
theorem dX10_rangeGoes_118 : decode cX10_rangeGoes 118 = .ok (.iconst 1, 1) := by decide +kernel
theorem dX10_rangeGoes_119 : decode cX10_rangeGoes 119 = .ok (.iadd, 1) := by decide +kernel
theorem dX10_rangeGoes_120 : decode cX10_rangeGoes 120 = .ok (.istore_n 2, 1) := by decide +kernel
theorem dX10_rangeGoes_121 : decode cX10_rangeGoes 121 = .ok (.iload_n 1, 1) := by decide +kernel
theorem dX10_rangeGoes_122 : decode cX10_rangeGoes 122 = .ok (.ifCond .eq 12, 3) := by decide +kernel
theorem dX10_rangeGoes_125 : decode cX10_rangeGoes 125 = .ok (.aload_n 0, 1) := by decide +kernel
theorem dX10_rangeGoes_126 : decode cX10_rangeGoes 126 = .ok (.getfield 131, 3) := by decide +kernel
theorem dX10_rangeGoes_129 : decode cX10_rangeGoes 129 = .ok (.iconst 1, 1) := by decide +kernel
theorem dX10_rangeGoes_130 : decode cX10_rangeGoes 130 = .ok (.isub, 1) := by decide +kernel
theorem dX10_rangeGoes_131 : decode cX10_rangeGoes 131 = .ok (.goto 7, 3) := by decide +kernel
theorem dX10_rangeGoes_134 : decode cX10_rangeGoes 134 = .ok (.aload_n 0, 1) := by decide +kernel
theorem dX10_rangeGoes_135 : decode cX10_rangeGoes 135 = .ok (.getfield 128, 3) := by decide +kernel
theorem dX10_rangeGoes_138 : decode cX10_rangeGoes 138 = .ok (.istore_n 3, 1) := by decide +kernel
theorem dX10_rangeGoes_139 : decode cX10_rangeGoes 139 = .ok (.iload_n 3, 1) := by decide +kernel
theorem dX10_rangeGoes_140 : decode cX10_rangeGoes 140 = .ok (.iload_n 2, 1) := by decide +kernel
theorem dX10_rangeGoes_141 : decode cX10_rangeGoes 141 = .ok (.if_icmp .le 59, 3) := by decide +kernel
theorem dX10_rangeGoes_144 : decode cX10_rangeGoes 144 = .ok (.aload_n 0, 1) := by decide +kernel
theorem dX10_rangeGoes_145 : decode cX10_rangeGoes 145 = .ok (.getfield 69, 3) := by decide +kernel
theorem dX10_rangeGoes_148 : decode cX10_rangeGoes 148 = .ok (.aload_n 0, 1) := by decide +kernel
theorem dX10_rangeGoes_149 : decode cX10_rangeGoes 149 = .ok (.getfield 28, 3) := by decide +kernel
theorem dX10_rangeGoes_152 : decode cX10_rangeGoes 152 = .ok (.aload_n 0, 1) := by decide +kernel
theorem dX10_rangeGoes_153 : decode cX10_rangeGoes 153 = .ok (.getfield 119, 3) := by decide +kernel
theorem dX10_rangeGoes_156 : decode cX10_rangeGoes 156 = .ok (.iaload, 1) := by decide +kernel
theorem dX10_rangeGoes_157 : decode cX10_rangeGoes 157 = .ok (.iconst 2, 1) := by decide +kernel
theorem dX10_rangeGoes_158 : decode cX10_rangeGoes 158 = .ok (.aload_n 0, 1) := by decide +kernel
theorem dX10_rangeGoes_159 : decode cX10_rangeGoes 159 = .ok (.getfield 149, 3) := by decide +kernel
theorem dX10_rangeGoes_162 : decode cX10_rangeGoes 162 = .ok (.imul, 1) := by decide +kernel
theorem dX10_rangeGoes_163 : decode cX10_rangeGoes 163 = .ok (.iadd, 1) := by decide +kernel
theorem dX10_rangeGoes_164 : decode cX10_rangeGoes 164 = .ok (.iload_n 2, 1) := by decide +kernel
theorem dX10_rangeGoes_165 : decode cX10_rangeGoes 165 = .ok (.iastore, 1) := by decide +kernel
theorem dX10_rangeGoes_166 : decode cX10_rangeGoes 166 = .ok (.aload_n 0, 1) := by decide +kernel
theorem dX10_rangeGoes_167 : decode cX10_rangeGoes 167 = .ok (.getfield 69, 3) := by decide +kernel
theorem dX10_rangeGoes_170 : decode cX10_rangeGoes 170 = .ok (.aload_n 0, 1) := by decide +kernel
theorem dX10_rangeGoes_171 : decode cX10_rangeGoes 171 = .ok (.getfield 28, 3) := by decide +kernel
theorem dX10_rangeGoes_174 : decode cX10_rangeGoes 174 = .ok (.aload_n 0, 1) := by decide +kernel
theorem dX10_rangeGoes_175 : decode cX10_rangeGoes 175 = .ok (.getfield 119, 3) := by decide +kernel
theorem dX10_rangeGoes_178 : decode cX10_rangeGoes 178 = .ok (.iaload, 1) := by decide +kernel
theorem dX10_rangeGoes_179 : decode cX10_rangeGoes 179 = .ok (.iconst 2, 1) := by decide +kernel
theorem dX10_rangeGoes_180 : decode cX10_rangeGoes 180 = .ok (.aload_n 0, 1) := by decide +kernel
theorem dX10_rangeGoes_181 : decode cX10_rangeGoes 181 = .ok (.getfield 149, 3) := by decide +kernel
theorem dX10_rangeGoes_184 : decode cX10_rangeGoes 184 = .ok (.imul, 1) := by decide +kernel
theorem dX10_rangeGoes_185 : decode cX10_rangeGoes 185 = .ok (.iadd, 1) := by decide +kernel
theorem dX10_rangeGoes_186 : decode cX10_rangeGoes 186 = .ok (.iconst 1, 1) := by decide +kernel
theorem dX10_rangeGoes_187 : decode cX10_rangeGoes 187 = .ok (.iadd, 1) := by decide +kernel
theorem dX10_rangeGoes_188 : decode cX10_rangeGoes 188 = .ok (.iload_n 3, 1) := by decide +kernel
theorem dX10_rangeGoes_189 : decode cX10_rangeGoes 189 = .ok (.iastore, 1) := by decide +kernel
theorem dX10_rangeGoes_190 : decode cX10_rangeGoes 190 = .ok (.aload_n 0, 1) := by decide +kernel
theorem dX10_rangeGoes_191 : decode cX10_rangeGoes 191 = .ok (.dup, 1) := by decide +kernel
theorem dX10_rangeGoes_192 : decode cX10_rangeGoes 192 = .ok (.getfield 149, 3) := by decide +kernel
theorem dX10_rangeGoes_195 : decode cX10_rangeGoes 195 = .ok (.iconst 1, 1) := by decide +kernel
theorem dX10_rangeGoes_196 : decode cX10_rangeGoes 196 = .ok (.iadd, 1) := by decide +kernel
theorem dX10_rangeGoes_197 : decode cX10_rangeGoes 197 = .ok (.putfield 149, 3) := by decide +kernel
theorem dX10_rangeGoes_200 : decode cX10_rangeGoes 200 = .ok (.iload_n 1, 1) := by decide +kernel
theorem dX10_rangeGoes_201 : decode cX10_rangeGoes 201 = .ok (.ifCond .eq 12, 3) := by decide +kernel
theorem dX10_rangeGoes_204 : decode cX10_rangeGoes 204 = .ok (.aload_n 0, 1) := by decide +kernel
theorem dX10_rangeGoes_205 : decode cX10_rangeGoes 205 = .ok (.getfield 131, 3) := by decide +kernel
theorem dX10_rangeGoes_208 : decode cX10_rangeGoes 208 = .ok (.iconst 1, 1) := by decide +kernel
theorem dX10_rangeGoes_209 : decode cX10_rangeGoes 209 = .ok (.iadd, 1) := by decide +kernel
theorem dX10_rangeGoes_210 : decode cX10_rangeGoes 210 = .ok (.goto 7, 3) := by decide +kernel
theorem dX10_rangeGoes_213 : decode cX10_rangeGoes 213 = .ok (.aload_n 0, 1) := by decide +kernel
theorem dX10_rangeGoes_214 : decode cX10_rangeGoes 214 = .ok (.getfield 125, 3) := by decide +kernel
theorem dX10_rangeGoes_217 : decode cX10_rangeGoes 217 = .ok (.istore 4, 2) := by decide +kernel
theorem dX10_rangeGoes_219 : decode cX10_rangeGoes 219 = .ok (.iload_n 1, 1) := by decide +kernel
theorem dX10_rangeGoes_220 : decode cX10_rangeGoes 220 = .ok (.ifCond .eq 10, 3) := by decide +kernel
theorem dX10_rangeGoes_223 : decode cX10_rangeGoes 223 = .ok (.aload_n 0, 1) := by decide +kernel
theorem dX10_rangeGoes_224 : decode cX10_rangeGoes 224 = .ok (.getfield 128, 3) := by decide +kernel
theorem dX10_rangeGoes_227 : decode cX10_rangeGoes 227 = .ok (.goto 9, 3) := by decide +kernel
theorem dX10_rangeGoes_230 : decode cX10_rangeGoes 230 = .ok (.aload_n 0, 1) := by decide +kernel
theorem dX10_rangeGoes_231 : decode cX10_rangeGoes 231 = .ok (.getfield 131, 3) := by decide +kernel
theorem dX10_rangeGoes_234 : decode cX10_rangeGoes 234 = .ok (.iconst 1, 1) := by decide +kernel
theorem dX10_rangeGoes_235 : decode cX10_rangeGoes 235 = .ok (.isub, 1) := by decide +kernel
theorem dX10_rangeGoes_236 : decode cX10_rangeGoes 236 = .ok (.istore 5, 2) := by decide +kernel
theorem dX10_rangeGoes_238 : decode cX10_rangeGoes 238 = .ok (.iload 5, 2) := by decide +kernel
theorem dX10_rangeGoes_240 : decode cX10_rangeGoes 240 = .ok (.iload 4, 2) := by decide +kernel
theorem dX10_rangeGoes_242 : decode cX10_rangeGoes 242 = .ok (.if_icmp .le 12, 3) := by decide +kernel
theorem dX10_rangeGoes_245 : decode cX10_rangeGoes 245 = .ok (.aload_n 0, 1) := by decide +kernel
theorem dX10_rangeGoes_246 : decode cX10_rangeGoes 246 = .ok (.iload 4, 2) := by decide +kernel
theorem dX10_rangeGoes_248 : decode cX10_rangeGoes 248 = .ok (.iload 5, 2) := by decide +kernel
theorem dX10_rangeGoes_250 : decode cX10_rangeGoes 250 = .ok (.invokevirtual 168, 3) := by decide +kernel
theorem dX10_rangeGoes_253 : decode cX10_rangeGoes 253 = .ok (.ireturn, 1) := by decide +kernel
theorem dX10_rangeGoes_254 : decode cX10_rangeGoes 254 = .ok (.aload_n 0, 1) := by decide +kernel
theorem dX10_rangeGoes_255 : decode cX10_rangeGoes 255 = .ok (.getfield 149, 3) := by decide +kernel
theorem dX10_rangeGoes_258 : decode cX10_rangeGoes 258 = .ok (.ifCond .ne 5, 3) := by decide +kernel
theorem dX10_rangeGoes_261 : decode cX10_rangeGoes 261 = .ok (.iconst 0, 1) := by decide +kernel
theorem dX10_rangeGoes_262 : decode cX10_rangeGoes 262 = .ok (.ireturn, 1) := by decide +kernel
theorem dX10_rangeGoes_263 : decode cX10_rangeGoes 263 = .ok (.aload_n 0, 1) := by decide +kernel
theorem dX10_rangeGoes_264 : decode cX10_rangeGoes 264 = .ok (.dup, 1) := by decide +kernel
theorem dX10_rangeGoes_265 : decode cX10_rangeGoes 265 = .ok (.getfield 149, 3) := by decide +kernel
theorem dX10_rangeGoes_268 : decode cX10_rangeGoes 268 = .ok (.iconst 1, 1) := by decide +kernel
theorem dX10_rangeGoes_269 : decode cX10_rangeGoes 269 = .ok (.isub, 1) := by decide +kernel
theorem dX10_rangeGoes_270 : decode cX10_rangeGoes 270 = .ok (.putfield 149, 3) := by decide +kernel
theorem dX10_rangeGoes_273 : decode cX10_rangeGoes 273 = .ok (.aload_n 0, 1) := by decide +kernel
theorem dX10_rangeGoes_274 : decode cX10_rangeGoes 274 = .ok (.aload_n 0, 1) := by decide +kernel
theorem dX10_rangeGoes_275 : decode cX10_rangeGoes 275 = .ok (.getfield 69, 3) := by decide +kernel
theorem dX10_rangeGoes_278 : decode cX10_rangeGoes 278 = .ok (.aload_n 0, 1) := by decide +kernel
theorem dX10_rangeGoes_279 : decode cX10_rangeGoes 279 = .ok (.getfield 28, 3) := by decide +kernel
theorem dX10_rangeGoes_282 : decode cX10_rangeGoes 282 = .ok (.aload_n 0, 1) := by decide +kernel
theorem dX10_rangeGoes_283 : decode cX10_rangeGoes 283 = .ok (.getfield 119, 3) := by decide +kernel
theorem dX10_rangeGoes_286 : decode cX10_rangeGoes 286 = .ok (.iaload, 1) := by decide +kernel
theorem dX10_rangeGoes_287 : decode cX10_rangeGoes 287 = .ok (.iconst 2, 1) := by decide +kernel
theorem dX10_rangeGoes_288 : decode cX10_rangeGoes 288 = .ok (.aload_n 0, 1) := by decide +kernel
theorem dX10_rangeGoes_289 : decode cX10_rangeGoes 289 = .ok (.getfield 149, 3) := by decide +kernel
theorem dX10_rangeGoes_292 : decode cX10_rangeGoes 292 = .ok (.imul, 1) := by decide +kernel
theorem dX10_rangeGoes_293 : decode cX10_rangeGoes 293 = .ok (.iadd, 1) := by decide +kernel
theorem dX10_rangeGoes_294 : decode cX10_rangeGoes 294 = .ok (.iaload, 1) := by decide +kernel
theorem dX10_rangeGoes_295 : decode cX10_rangeGoes 295 = .ok (.aload_n 0, 1) := by decide +kernel
theorem dX10_rangeGoes_296 : decode cX10_rangeGoes 296 = .ok (.getfield 69, 3) := by decide +kernel
theorem dX10_rangeGoes_299 : decode cX10_rangeGoes 299 = .ok (.aload_n 0, 1) := by decide +kernel
theorem dX10_rangeGoes_300 : decode cX10_rangeGoes 300 = .ok (.getfield 28, 3) := by decide +kernel
theorem dX10_rangeGoes_303 : decode cX10_rangeGoes 303 = .ok (.aload_n 0, 1) := by decide +kernel
theorem dX10_rangeGoes_304 : decode cX10_rangeGoes 304 = .ok (.getfield 119, 3) := by decide +kernel
theorem dX10_rangeGoes_307 : decode cX10_rangeGoes 307 = .ok (.iaload, 1) := by decide +kernel
theorem dX10_rangeGoes_308 : decode cX10_rangeGoes 308 = .ok (.iconst 2, 1) := by decide +kernel
theorem dX10_rangeGoes_309 : decode cX10_rangeGoes 309 = .ok (.aload_n 0, 1) := by decide +kernel
theorem dX10_rangeGoes_310 : decode cX10_rangeGoes 310 = .ok (.getfield 149, 3) := by decide +kernel
theorem dX10_rangeGoes_313 : decode cX10_rangeGoes 313 = .ok (.imul, 1) := by decide +kernel
theorem dX10_rangeGoes_314 : decode cX10_rangeGoes 314 = .ok (.iadd, 1) := by decide +kernel
theorem dX10_rangeGoes_315 : decode cX10_rangeGoes 315 = .ok (.iconst 1, 1) := by decide +kernel
theorem dX10_rangeGoes_316 : decode cX10_rangeGoes 316 = .ok (.iadd, 1) := by decide +kernel
theorem dX10_rangeGoes_317 : decode cX10_rangeGoes 317 = .ok (.iaload, 1) := by decide +kernel
theorem dX10_rangeGoes_318 : decode cX10_rangeGoes 318 = .ok (.invokevirtual 168, 3) := by decide +kernel
theorem dX10_rangeGoes_321 : decode cX10_rangeGoes 321 = .ok (.ireturn, 1) := by decide +kernel
theorem dX10_turn_0 : decode cX10_turn 0 = .ok (.iconst (-1), 1) := by decide +kernel
theorem dX10_turn_1 : decode cX10_turn 1 = .ok (.istore_n 1, 1) := by decide +kernel
theorem dX10_turn_2 : decode cX10_turn 2 = .ok (.iconst 0, 1) := by decide +kernel
theorem dX10_turn_3 : decode cX10_turn 3 = .ok (.istore_n 2, 1) := by decide +kernel
theorem dX10_turn_4 : decode cX10_turn 4 = .ok (.iload_n 2, 1) := by decide +kernel
theorem dX10_turn_5 : decode cX10_turn 5 = .ok (.aload_n 0, 1) := by decide +kernel
theorem dX10_turn_6 : decode cX10_turn 6 = .ok (.getfield 63, 3) := by decide +kernel
theorem dX10_turn_9 : decode cX10_turn 9 = .ok (.if_icmp .ge 84, 3) := by decide +kernel
theorem dX10_turn_12 : decode cX10_turn 12 = .ok (.aload_n 0, 1) := by decide +kernel
theorem dX10_turn_13 : decode cX10_turn 13 = .ok (.getfield 9, 3) := by decide +kernel
theorem dX10_turn_16 : decode cX10_turn 16 = .ok (.iload_n 2, 1) := by decide +kernel
theorem dX10_turn_17 : decode cX10_turn 17 = .ok (.iaload, 1) := by decide +kernel
theorem dX10_turn_18 : decode cX10_turn 18 = .ok (.iconst 2, 1) := by decide +kernel
theorem dX10_turn_19 : decode cX10_turn 19 = .ok (.if_icmp .eq 6, 3) := by decide +kernel
theorem dX10_turn_22 : decode cX10_turn 22 = .ok (.goto 65, 3) := by decide +kernel
theorem dX10_turn_25 : decode cX10_turn 25 = .ok (.iload_n 1, 1) := by decide +kernel
theorem dX10_turn_26 : decode cX10_turn 26 = .ok (.iconst (-1), 1) := by decide +kernel
theorem dX10_turn_27 : decode cX10_turn 27 = .ok (.if_icmp .eq 48, 3) := by decide +kernel
theorem dX10_turn_30 : decode cX10_turn 30 = .ok (.aload_n 0, 1) := by decide +kernel
theorem dX10_turn_31 : decode cX10_turn 31 = .ok (.getfield 19, 3) := by decide +kernel
theorem dX10_turn_34 : decode cX10_turn 34 = .ok (.iload_n 2, 1) := by decide +kernel
theorem dX10_turn_35 : decode cX10_turn 35 = .ok (.iaload, 1) := by decide +kernel
theorem dX10_turn_36 : decode cX10_turn 36 = .ok (.aload_n 0, 1) := by decide +kernel
theorem dX10_turn_37 : decode cX10_turn 37 = .ok (.getfield 19, 3) := by decide +kernel
theorem dX10_turn_40 : decode cX10_turn 40 = .ok (.iload_n 1, 1) := by decide +kernel
theorem dX10_turn_41 : decode cX10_turn 41 = .ok (.iaload, 1) := by decide +kernel
theorem dX10_turn_42 : decode cX10_turn 42 = .ok (.if_icmp .gt 33, 3) := by decide +kernel
theorem dX10_turn_45 : decode cX10_turn 45 = .ok (.aload_n 0, 1) := by decide +kernel
theorem dX10_turn_46 : decode cX10_turn 46 = .ok (.getfield 19, 3) := by decide +kernel
theorem dX10_turn_49 : decode cX10_turn 49 = .ok (.iload_n 2, 1) := by decide +kernel
theorem dX10_turn_50 : decode cX10_turn 50 = .ok (.iaload, 1) := by decide +kernel
theorem dX10_turn_51 : decode cX10_turn 51 = .ok (.aload_n 0, 1) := by decide +kernel
theorem dX10_turn_52 : decode cX10_turn 52 = .ok (.getfield 19, 3) := by decide +kernel
theorem dX10_turn_55 : decode cX10_turn 55 = .ok (.iload_n 1, 1) := by decide +kernel
theorem dX10_turn_56 : decode cX10_turn 56 = .ok (.iaload, 1) := by decide +kernel
theorem dX10_turn_57 : decode cX10_turn 57 = .ok (.if_icmp .ne 22, 3) := by decide +kernel
theorem dX10_turn_60 : decode cX10_turn 60 = .ok (.aload_n 0, 1) := by decide +kernel
theorem dX10_turn_61 : decode cX10_turn 61 = .ok (.getfield 31, 3) := by decide +kernel
theorem dX10_turn_64 : decode cX10_turn 64 = .ok (.iload_n 2, 1) := by decide +kernel
theorem dX10_turn_65 : decode cX10_turn 65 = .ok (.iaload, 1) := by decide +kernel
theorem dX10_turn_66 : decode cX10_turn 66 = .ok (.aload_n 0, 1) := by decide +kernel
theorem dX10_turn_67 : decode cX10_turn 67 = .ok (.getfield 31, 3) := by decide +kernel
theorem dX10_turn_70 : decode cX10_turn 70 = .ok (.iload_n 1, 1) := by decide +kernel
theorem dX10_turn_71 : decode cX10_turn 71 = .ok (.iaload, 1) := by decide +kernel
theorem dX10_turn_72 : decode cX10_turn 72 = .ok (.if_icmp .ge 7, 3) := by decide +kernel
theorem dX10_turn_75 : decode cX10_turn 75 = .ok (.iconst 1, 1) := by decide +kernel
theorem dX10_turn_76 : decode cX10_turn 76 = .ok (.goto 4, 3) := by decide +kernel
theorem dX10_turn_79 : decode cX10_turn 79 = .ok (.iconst 0, 1) := by decide +kernel
theorem dX10_turn_80 : decode cX10_turn 80 = .ok (.istore_n 3, 1) := by decide +kernel
theorem dX10_turn_81 : decode cX10_turn 81 = .ok (.iload_n 3, 1) := by decide +kernel
theorem dX10_turn_82 : decode cX10_turn 82 = .ok (.ifCond .eq 5, 3) := by decide +kernel
theorem dX10_turn_85 : decode cX10_turn 85 = .ok (.iload_n 2, 1) := by decide +kernel
theorem dX10_turn_86 : decode cX10_turn 86 = .ok (.istore_n 1, 1) := by decide +kernel
theorem dX10_turn_87 : decode cX10_turn 87 = .ok (.iinc 2 1, 3) := by decide +kernel
theorem dX10_turn_90 : decode cX10_turn 90 = .ok (.goto (-86), 3) := by decide +kernel
theorem dX10_turn_93 : decode cX10_turn 93 = .ok (.iload_n 1, 1) := by decide +kernel
theorem dX10_turn_94 : decode cX10_turn 94 = .ok (.ireturn, 1) := by decide +kernel
theorem dX10_tick_0 : decode cX10_tick 0 = .ok (.aload_n 0, 1) := by decide +kernel
theorem dX10_tick_1 : decode cX10_tick 1 = .ok (.dup, 1) := by decide +kernel
theorem dX10_tick_2 : decode cX10_tick 2 = .ok (.getfield 106, 3) := by decide +kernel
theorem dX10_tick_5 : decode cX10_tick 5 = .ok (.iconst 1, 1) := by decide +kernel
theorem dX10_tick_6 : decode cX10_tick 6 = .ok (.iadd, 1) := by decide +kernel
theorem dX10_tick_7 : decode cX10_tick 7 = .ok (.putfield 106, 3) := by decide +kernel
theorem dX10_tick_10 : decode cX10_tick 10 = .ok (.aload_n 0, 1) := by decide +kernel
theorem dX10_tick_11 : decode cX10_tick 11 = .ok (.invokevirtual 212, 3) := by decide +kernel
theorem dX10_tick_14 : decode cX10_tick 14 = .ok (.istore_n 1, 1) := by decide +kernel
theorem dX10_tick_15 : decode cX10_tick 15 = .ok (.iload_n 1, 1) := by decide +kernel
theorem dX10_tick_16 : decode cX10_tick 16 = .ok (.iconst (-1), 1) := by decide +kernel
theorem dX10_tick_17 : decode cX10_tick 17 = .ok (.if_icmp .ne 5, 3) := by decide +kernel
theorem dX10_tick_20 : decode cX10_tick 20 = .ok (.iconst (-1), 1) := by decide +kernel
theorem dX10_tick_21 : decode cX10_tick 21 = .ok (.ireturn, 1) := by decide +kernel
theorem dX10_tick_22 : decode cX10_tick 22 = .ok (.aload_n 0, 1) := by decide +kernel
theorem dX10_tick_23 : decode cX10_tick 23 = .ok (.iload_n 1, 1) := by decide +kernel
theorem dX10_tick_24 : decode cX10_tick 24 = .ok (.invokevirtual 109, 3) := by decide +kernel
theorem dX10_tick_27 : decode cX10_tick 27 = .ok (.iconst 0, 1) := by decide +kernel
theorem dX10_tick_28 : decode cX10_tick 28 = .ok (.istore_n 2, 1) := by decide +kernel
theorem dX10_tick_29 : decode cX10_tick 29 = .ok (.iload_n 2, 1) := by decide +kernel
theorem dX10_tick_30 : decode cX10_tick 30 = .ok (.aload_n 0, 1) := by decide +kernel
theorem dX10_tick_31 : decode cX10_tick 31 = .ok (.getfield 66, 3) := by decide +kernel
theorem dX10_tick_34 : decode cX10_tick 34 = .ok (.if_icmp .ge 48, 3) := by decide +kernel
theorem dX10_tick_37 : decode cX10_tick 37 = .ok (.aload_n 0, 1) := by decide +kernel
theorem dX10_tick_38 : decode cX10_tick 38 = .ok (.getfield 40, 3) := by decide +kernel
theorem dX10_tick_41 : decode cX10_tick 41 = .ok (.iload_n 1, 1) := by decide +kernel
theorem dX10_tick_42 : decode cX10_tick 42 = .ok (.baload, 1) := by decide +kernel
theorem dX10_tick_43 : decode cX10_tick 43 = .ok (.ifCond .eq 39, 3) := by decide +kernel
theorem dX10_tick_46 : decode cX10_tick 46 = .ok (.aload_n 0, 1) := by decide +kernel
theorem dX10_tick_47 : decode cX10_tick 47 = .ok (.getfield 22, 3) := by decide +kernel
theorem dX10_tick_50 : decode cX10_tick 50 = .ok (.iload_n 1, 1) := by decide +kernel
theorem dX10_tick_51 : decode cX10_tick 51 = .ok (.dup2, 1) := by decide +kernel
theorem dX10_tick_52 : decode cX10_tick 52 = .ok (.iaload, 1) := by decide +kernel
theorem dX10_tick_53 : decode cX10_tick 53 = .ok (.iconst 1, 1) := by decide +kernel
theorem dX10_tick_54 : decode cX10_tick 54 = .ok (.iadd, 1) := by decide +kernel
theorem dX10_tick_55 : decode cX10_tick 55 = .ok (.iastore, 1) := by decide +kernel
theorem dX10_tick_56 : decode cX10_tick 56 = .ok (.aload_n 0, 1) := by decide +kernel
theorem dX10_tick_57 : decode cX10_tick 57 = .ok (.dup, 1) := by decide +kernel
theorem dX10_tick_58 : decode cX10_tick 58 = .ok (.getfield 215, 3) := by decide +kernel
theorem dX10_tick_61 : decode cX10_tick 61 = .ok (.iconst 1, 1) := by decide +kernel
theorem dX10_tick_62 : decode cX10_tick 62 = .ok (.iadd, 1) := by decide +kernel
theorem dX10_tick_63 : decode cX10_tick 63 = .ok (.putfield 215, 3) := by decide +kernel
theorem dX10_tick_66 : decode cX10_tick 66 = .ok (.aload_n 0, 1) := by decide +kernel
theorem dX10_tick_67 : decode cX10_tick 67 = .ok (.getfield 40, 3) := by decide +kernel
theorem dX10_tick_70 : decode cX10_tick 70 = .ok (.iload_n 1, 1) := by decide +kernel
theorem dX10_tick_71 : decode cX10_tick 71 = .ok (.aload_n 0, 1) := by decide +kernel
theorem dX10_tick_72 : decode cX10_tick 72 = .ok (.invokevirtual 218, 3) := by decide +kernel
theorem dX10_tick_75 : decode cX10_tick 75 = .ok (.bastore, 1) := by decide +kernel
theorem dX10_tick_76 : decode cX10_tick 76 = .ok (.iinc 2 1, 3) := by decide +kernel
theorem dX10_tick_79 : decode cX10_tick 79 = .ok (.goto (-50), 3) := by decide +kernel
theorem dX10_tick_82 : decode cX10_tick 82 = .ok (.aload_n 0, 1) := by decide +kernel
theorem dX10_tick_83 : decode cX10_tick 83 = .ok (.invokevirtual 116, 3) := by decide +kernel
theorem dX10_tick_86 : decode cX10_tick 86 = .ok (.aload_n 0, 1) := by decide +kernel
theorem dX10_tick_87 : decode cX10_tick 87 = .ok (.getfield 40, 3) := by decide +kernel
theorem dX10_tick_90 : decode cX10_tick 90 = .ok (.iload_n 1, 1) := by decide +kernel
theorem dX10_tick_91 : decode cX10_tick 91 = .ok (.baload, 1) := by decide +kernel
theorem dX10_tick_92 : decode cX10_tick 92 = .ok (.ifCond .ne 23, 3) := by decide +kernel
theorem dX10_tick_95 : decode cX10_tick 95 = .ok (.aload_n 0, 1) := by decide +kernel
theorem dX10_tick_96 : decode cX10_tick 96 = .ok (.getfield 9, 3) := by decide +kernel
theorem dX10_tick_99 : decode cX10_tick 99 = .ok (.iload_n 1, 1) := by decide +kernel
theorem dX10_tick_100 : decode cX10_tick 100 = .ok (.iconst 3, 1) := by decide +kernel
theorem dX10_tick_101 : decode cX10_tick 101 = .ok (.iastore, 1) := by decide +kernel
theorem dX10_tick_102 : decode cX10_tick 102 = .ok (.aload_n 0, 1) := by decide +kernel
theorem dX10_tick_103 : decode cX10_tick 103 = .ok (.getfield 37, 3) := by decide +kernel
theorem dX10_tick_106 : decode cX10_tick 106 = .ok (.iload_n 1, 1) := by decide +kernel
theorem dX10_tick_107 : decode cX10_tick 107 = .ok (.aload_n 0, 1) := by decide +kernel
theorem dX10_tick_108 : decode cX10_tick 108 = .ok (.getfield 106, 3) := by decide +kernel
theorem dX10_tick_111 : decode cX10_tick 111 = .ok (.iastore, 1) := by decide +kernel
theorem dX10_tick_112 : decode cX10_tick 112 = .ok (.goto 8, 3) := by decide +kernel
theorem dX10_tick_115 : decode cX10_tick 115 = .ok (.aload_n 0, 1) := by decide +kernel
theorem dX10_tick_116 : decode cX10_tick 116 = .ok (.iload_n 1, 1) := by decide +kernel
theorem dX10_tick_117 : decode cX10_tick 117 = .ok (.invokevirtual 102, 3) := by decide +kernel
theorem dX10_tick_120 : decode cX10_tick 120 = .ok (.iload_n 1, 1) := by decide +kernel
theorem dX10_tick_121 : decode cX10_tick 121 = .ok (.ireturn, 1) := by decide +kernel
theorem dX10_run_0 : decode cX10_run 0 = .ok (.iload_n 1, 1) := by decide +kernel
theorem dX10_run_1 : decode cX10_run 1 = .ok (.ifCond .lt 10, 3) := by decide +kernel
theorem dX10_run_4 : decode cX10_run 4 = .ok (.iload_n 1, 1) := by decide +kernel
theorem dX10_run_5 : decode cX10_run 5 = .ok (.sipush 3000, 3) := by decide +kernel
theorem dX10_run_8 : decode cX10_run 8 = .ok (.if_icmp .le 6, 3) := by decide +kernel
theorem dX10_run_11 : decode cX10_run 11 = .ok (.bipush (-4), 2) := by decide +kernel
theorem dX10_run_13 : decode cX10_run 13 = .ok (.ireturn, 1) := by decide +kernel
theorem dX10_run_14 : decode cX10_run 14 = .ok (.iconst 0, 1) := by decide +kernel
theorem dX10_run_15 : decode cX10_run 15 = .ok (.istore_n 2, 1) := by decide +kernel
theorem dX10_run_16 : decode cX10_run 16 = .ok (.iload_n 2, 1) := by decide +kernel
theorem dX10_run_17 : decode cX10_run 17 = .ok (.iload_n 1, 1) := by decide +kernel
theorem dX10_run_18 : decode cX10_run 18 = .ok (.if_icmp .ge 22, 3) := by decide +kernel
theorem dX10_run_21 : decode cX10_run 21 = .ok (.aload_n 0, 1) := by decide +kernel
theorem dX10_run_22 : decode cX10_run 22 = .ok (.invokevirtual 212, 3) := by decide +kernel
theorem dX10_run_25 : decode cX10_run 25 = .ok (.iconst (-1), 1) := by decide +kernel
theorem dX10_run_26 : decode cX10_run 26 = .ok (.if_icmp .eq 14, 3) := by decide +kernel
theorem dX10_run_29 : decode cX10_run 29 = .ok (.aload_n 0, 1) := by decide +kernel
theorem dX10_run_30 : decode cX10_run 30 = .ok (.invokevirtual 221, 3) := by decide +kernel
theorem dX10_run_33 : decode cX10_run 33 = .ok (.istore_n 3, 1) := by decide +kernel
theorem dX10_run_34 : decode cX10_run 34 = .ok (.iinc 2 1, 3) := by decide +kernel
theorem dX10_run_37 : decode cX10_run 37 = .ok (.goto (-21), 3) := by decide +kernel
theorem dX10_run_40 : decode cX10_run 40 = .ok (.iload_n 2, 1) := by decide +kernel
theorem dX10_run_41 : decode cX10_run 41 = .ok (.ireturn, 1) := by decide +kernel
theorem dX10_state_0 : decode cX10_state 0 = .ok (.aload_n 0, 1) := by decide +kernel
theorem dX10_state_1 : decode cX10_state 1 = .ok (.iload_n 1, 1) := by decide +kernel
theorem dX10_state_2 : decode cX10_state 2 = .ok (.invokevirtual 96, 3) := by decide +kernel
theorem dX10_state_5 : decode cX10_state 5 = .ok (.ifCond .eq 12, 3) := by decide +kernel
theorem dX10_state_8 : decode cX10_state 8 = .ok (.aload_n 0, 1) := by decide +kernel
theorem dX10_state_9 : decode cX10_state 9 = .ok (.getfield 9, 3) := by decide +kernel
theorem dX10_state_12 : decode cX10_state 12 = .ok (.iload_n 1, 1) := by decide +kernel
theorem dX10_state_13 : decode cX10_state 13 = .ok (.iaload, 1) := by decide +kernel
theorem dX10_state_14 : decode cX10_state 14 = .ok (.goto 4, 3) := by decide +kernel
theorem dX10_state_17 : decode cX10_state 17 = .ok (.iconst (-1), 1) := by decide +kernel
theorem dX10_state_18 : decode cX10_state 18 = .ok (.ireturn, 1) := by decide +kernel
theorem dX10_get_0 : decode cX10_get 0 = .ok (.aload_n 0, 1) := by decide +kernel
theorem dX10_get_1 : decode cX10_get 1 = .ok (.iload_n 1, 1) := by decide +kernel
theorem dX10_get_2 : decode cX10_get 2 = .ok (.invokevirtual 96, 3) := by decide +kernel
theorem dX10_get_5 : decode cX10_get 5 = .ok (.ifCond .eq 33, 3) := by decide +kernel
theorem dX10_get_8 : decode cX10_get 8 = .ok (.iload_n 2, 1) := by decide +kernel
theorem dX10_get_9 : decode cX10_get 9 = .ok (.ifCond .lt 29, 3) := by decide +kernel
theorem dX10_get_12 : decode cX10_get 12 = .ok (.iload_n 2, 1) := by decide +kernel
theorem dX10_get_13 : decode cX10_get 13 = .ok (.aload_n 0, 1) := by decide +kernel
theorem dX10_get_14 : decode cX10_get 14 = .ok (.getfield 13, 3) := by decide +kernel
theorem dX10_get_17 : decode cX10_get 17 = .ok (.iload_n 1, 1) := by decide +kernel
theorem dX10_get_18 : decode cX10_get 18 = .ok (.iaload, 1) := by decide +kernel
theorem dX10_get_19 : decode cX10_get 19 = .ok (.if_icmp .ge 19, 3) := by decide +kernel
theorem dX10_get_22 : decode cX10_get 22 = .ok (.aload_n 0, 1) := by decide +kernel
theorem dX10_get_23 : decode cX10_get 23 = .ok (.getfield 69, 3) := by decide +kernel
theorem dX10_get_26 : decode cX10_get 26 = .ok (.aload_n 0, 1) := by decide +kernel
theorem dX10_get_27 : decode cX10_get 27 = .ok (.getfield 25, 3) := by decide +kernel
theorem dX10_get_30 : decode cX10_get 30 = .ok (.iload_n 1, 1) := by decide +kernel
theorem dX10_get_31 : decode cX10_get 31 = .ok (.iaload, 1) := by decide +kernel
theorem dX10_get_32 : decode cX10_get 32 = .ok (.iload_n 2, 1) := by decide +kernel
theorem dX10_get_33 : decode cX10_get 33 = .ok (.iadd, 1) := by decide +kernel
theorem dX10_get_34 : decode cX10_get 34 = .ok (.iaload, 1) := by decide +kernel
theorem dX10_get_35 : decode cX10_get 35 = .ok (.goto 4, 3) := by decide +kernel
theorem dX10_get_38 : decode cX10_get 38 = .ok (.iconst 0, 1) := by decide +kernel
theorem dX10_get_39 : decode cX10_get 39 = .ok (.ireturn, 1) := by decide +kernel
theorem dX10_word_0 : decode cX10_word 0 = .ok (.iload_n 1, 1) := by decide +kernel
theorem dX10_word_1 : decode cX10_word 1 = .ok (.ifCond .lt 20, 3) := by decide +kernel
theorem dX10_word_4 : decode cX10_word 4 = .ok (.iload_n 1, 1) := by decide +kernel
theorem dX10_word_5 : decode cX10_word 5 = .ok (.aload_n 0, 1) := by decide +kernel
theorem dX10_word_6 : decode cX10_word 6 = .ok (.getfield 59, 3) := by decide +kernel
theorem dX10_word_9 : decode cX10_word 9 = .ok (.if_icmp .ge 12, 3) := by decide +kernel
theorem dX10_word_12 : decode cX10_word 12 = .ok (.aload_n 0, 1) := by decide +kernel
theorem dX10_word_13 : decode cX10_word 13 = .ok (.getfield 69, 3) := by decide +kernel
theorem dX10_word_16 : decode cX10_word 16 = .ok (.iload_n 1, 1) := by decide +kernel
theorem dX10_word_17 : decode cX10_word 17 = .ok (.iaload, 1) := by decide +kernel
theorem dX10_word_18 : decode cX10_word 18 = .ok (.goto 4, 3) := by decide +kernel
theorem dX10_word_21 : decode cX10_word 21 = .ok (.iconst 0, 1) := by decide +kernel
theorem dX10_word_22 : decode cX10_word 22 = .ok (.ireturn, 1) := by decide +kernel
theorem dX10_ahead_0 : decode cX10_ahead 0 = .ok (.aload_n 0, 1) := by decide +kernel
theorem dX10_ahead_1 : decode cX10_ahead 1 = .ok (.getfield 9, 3) := by decide +kernel
theorem dX10_ahead_4 : decode cX10_ahead 4 = .ok (.iload_n 1, 1) := by decide +kernel
theorem dX10_ahead_5 : decode cX10_ahead 5 = .ok (.iaload, 1) := by decide +kernel
theorem dX10_ahead_6 : decode cX10_ahead 6 = .ok (.iconst 2, 1) := by decide +kernel
theorem dX10_ahead_7 : decode cX10_ahead 7 = .ok (.if_icmp .eq 5, 3) := by decide +kernel
theorem dX10_ahead_10 : decode cX10_ahead 10 = .ok (.iconst (-1), 1) := by decide +kernel
theorem dX10_ahead_11 : decode cX10_ahead 11 = .ok (.ireturn, 1) := by decide +kernel
theorem dX10_ahead_12 : decode cX10_ahead 12 = .ok (.iconst 0, 1) := by decide +kernel
theorem dX10_ahead_13 : decode cX10_ahead 13 = .ok (.istore_n 2, 1) := by decide +kernel
theorem dX10_ahead_14 : decode cX10_ahead 14 = .ok (.iconst 0, 1) := by decide +kernel
theorem dX10_ahead_15 : decode cX10_ahead 15 = .ok (.istore_n 3, 1) := by decide +kernel
theorem dX10_ahead_16 : decode cX10_ahead 16 = .ok (.iload_n 3, 1) := by decide +kernel
theorem dX10_ahead_17 : decode cX10_ahead 17 = .ok (.aload_n 0, 1) := by decide +kernel
theorem dX10_ahead_18 : decode cX10_ahead 18 = .ok (.getfield 63, 3) := by decide +kernel
theorem dX10_ahead_21 : decode cX10_ahead 21 = .ok (.if_icmp .ge 57, 3) := by decide +kernel
theorem dX10_ahead_24 : decode cX10_ahead 24 = .ok (.iload_n 2, 1) := by decide +kernel
theorem dX10_ahead_25 : decode cX10_ahead 25 = .ok (.aload_n 0, 1) := by decide +kernel
theorem dX10_ahead_26 : decode cX10_ahead 26 = .ok (.getfield 9, 3) := by decide +kernel
theorem dX10_ahead_29 : decode cX10_ahead 29 = .ok (.iload_n 3, 1) := by decide +kernel
theorem dX10_ahead_30 : decode cX10_ahead 30 = .ok (.iaload, 1) := by decide +kernel
theorem dX10_ahead_31 : decode cX10_ahead 31 = .ok (.iconst 2, 1) := by decide +kernel
theorem dX10_ahead_32 : decode cX10_ahead 32 = .ok (.if_icmp .ne 37, 3) := by decide +kernel
theorem dX10_ahead_35 : decode cX10_ahead 35 = .ok (.aload_n 0, 1) := by decide +kernel
theorem dX10_ahead_36 : decode cX10_ahead 36 = .ok (.getfield 19, 3) := by decide +kernel
theorem dX10_ahead_39 : decode cX10_ahead 39 = .ok (.iload_n 3, 1) := by decide +kernel
theorem dX10_ahead_40 : decode cX10_ahead 40 = .ok (.iaload, 1) := by decide +kernel
theorem dX10_ahead_41 : decode cX10_ahead 41 = .ok (.aload_n 0, 1) := by decide +kernel
theorem dX10_ahead_42 : decode cX10_ahead 42 = .ok (.getfield 19, 3) := by decide +kernel
theorem dX10_ahead_45 : decode cX10_ahead 45 = .ok (.iload_n 1, 1) := by decide +kernel
theorem dX10_ahead_46 : decode cX10_ahead 46 = .ok (.iaload, 1) := by decide +kernel
theorem dX10_ahead_47 : decode cX10_ahead 47 = .ok (.if_icmp .ne 22, 3) := by decide +kernel
theorem dX10_ahead_50 : decode cX10_ahead 50 = .ok (.aload_n 0, 1) := by decide +kernel
theorem dX10_ahead_51 : decode cX10_ahead 51 = .ok (.getfield 31, 3) := by decide +kernel
theorem dX10_ahead_54 : decode cX10_ahead 54 = .ok (.iload_n 3, 1) := by decide +kernel
theorem dX10_ahead_55 : decode cX10_ahead 55 = .ok (.iaload, 1) := by decide +kernel
theorem dX10_ahead_56 : decode cX10_ahead 56 = .ok (.aload_n 0, 1) := by decide +kernel
theorem dX10_ahead_57 : decode cX10_ahead 57 = .ok (.getfield 31, 3) := by decide +kernel
theorem dX10_ahead_60 : decode cX10_ahead 60 = .ok (.iload_n 1, 1) := by decide +kernel
theorem dX10_ahead_61 : decode cX10_ahead 61 = .ok (.iaload, 1) := by decide +kernel
theorem dX10_ahead_62 : decode cX10_ahead 62 = .ok (.if_icmp .ge 7, 3) := by decide +kernel
theorem dX10_ahead_65 : decode cX10_ahead 65 = .ok (.iconst 1, 1) := by decide +kernel
theorem dX10_ahead_66 : decode cX10_ahead 66 = .ok (.goto 4, 3) := by decide +kernel
theorem dX10_ahead_69 : decode cX10_ahead 69 = .ok (.iconst 0, 1) := by decide +kernel
theorem dX10_ahead_70 : decode cX10_ahead 70 = .ok (.iadd, 1) := by decide +kernel
theorem dX10_ahead_71 : decode cX10_ahead 71 = .ok (.istore_n 2, 1) := by decide +kernel
theorem dX10_ahead_72 : decode cX10_ahead 72 = .ok (.iinc 3 1, 3) := by decide +kernel
theorem dX10_ahead_75 : decode cX10_ahead 75 = .ok (.goto (-59), 3) := by decide +kernel
theorem dX10_ahead_78 : decode cX10_ahead 78 = .ok (.iload_n 2, 1) := by decide +kernel
theorem dX10_ahead_79 : decode cX10_ahead 79 = .ok (.ireturn, 1) := by decide +kernel
theorem dX10_job_0 : decode cX10_job 0 = .ok (.aload_n 0, 1) := by decide +kernel
theorem dX10_job_1 : decode cX10_job 1 = .ok (.iload_n 1, 1) := by decide +kernel
theorem dX10_job_2 : decode cX10_job 2 = .ok (.invokevirtual 96, 3) := by decide +kernel
theorem dX10_job_5 : decode cX10_job 5 = .ok (.ifCond .ne 5, 3) := by decide +kernel
theorem dX10_job_8 : decode cX10_job 8 = .ok (.iconst (-1), 1) := by decide +kernel
theorem dX10_job_9 : decode cX10_job 9 = .ok (.ireturn, 1) := by decide +kernel
theorem dX10_job_10 : decode cX10_job 10 = .ok (.iload_n 2, 1) := by decide +kernel
theorem dX10_job_11 : decode cX10_job 11 = .ok (.tableswitch 111 0 8 #[49, 56, 63, 70, 77, 84, 91, 97, 104], 49) := by decide +kernel
theorem dX10_job_60 : decode cX10_job 60 = .ok (.aload_n 0, 1) := by decide +kernel
theorem dX10_job_61 : decode cX10_job 61 = .ok (.getfield 13, 3) := by decide +kernel
theorem dX10_job_64 : decode cX10_job 64 = .ok (.iload_n 1, 1) := by decide +kernel
theorem dX10_job_65 : decode cX10_job 65 = .ok (.iaload, 1) := by decide +kernel
theorem dX10_job_66 : decode cX10_job 66 = .ok (.ireturn, 1) := by decide +kernel
theorem dX10_job_67 : decode cX10_job 67 = .ok (.aload_n 0, 1) := by decide +kernel
theorem dX10_job_68 : decode cX10_job 68 = .ok (.getfield 16, 3) := by decide +kernel
theorem dX10_job_71 : decode cX10_job 71 = .ok (.iload_n 1, 1) := by decide +kernel
theorem dX10_job_72 : decode cX10_job 72 = .ok (.iaload, 1) := by decide +kernel
theorem dX10_job_73 : decode cX10_job 73 = .ok (.ireturn, 1) := by decide +kernel
theorem dX10_job_74 : decode cX10_job 74 = .ok (.aload_n 0, 1) := by decide +kernel
theorem dX10_job_75 : decode cX10_job 75 = .ok (.getfield 19, 3) := by decide +kernel
theorem dX10_job_78 : decode cX10_job 78 = .ok (.iload_n 1, 1) := by decide +kernel
theorem dX10_job_79 : decode cX10_job 79 = .ok (.iaload, 1) := by decide +kernel
theorem dX10_job_80 : decode cX10_job 80 = .ok (.ireturn, 1) := by decide +kernel
theorem dX10_job_81 : decode cX10_job 81 = .ok (.aload_n 0, 1) := by decide +kernel
theorem dX10_job_82 : decode cX10_job 82 = .ok (.getfield 22, 3) := by decide +kernel
theorem dX10_job_85 : decode cX10_job 85 = .ok (.iload_n 1, 1) := by decide +kernel
theorem dX10_job_86 : decode cX10_job 86 = .ok (.iaload, 1) := by decide +kernel
theorem dX10_job_87 : decode cX10_job 87 = .ok (.ireturn, 1) := by decide +kernel
theorem dX10_job_88 : decode cX10_job 88 = .ok (.aload_n 0, 1) := by decide +kernel
theorem dX10_job_89 : decode cX10_job 89 = .ok (.getfield 25, 3) := by decide +kernel
theorem dX10_job_92 : decode cX10_job 92 = .ok (.iload_n 1, 1) := by decide +kernel
theorem dX10_job_93 : decode cX10_job 93 = .ok (.iaload, 1) := by decide +kernel
theorem dX10_job_94 : decode cX10_job 94 = .ok (.ireturn, 1) := by decide +kernel
theorem dX10_job_95 : decode cX10_job 95 = .ok (.aload_n 0, 1) := by decide +kernel
theorem dX10_job_96 : decode cX10_job 96 = .ok (.getfield 28, 3) := by decide +kernel
theorem dX10_job_99 : decode cX10_job 99 = .ok (.iload_n 1, 1) := by decide +kernel
theorem dX10_job_100 : decode cX10_job 100 = .ok (.iaload, 1) := by decide +kernel
theorem dX10_job_101 : decode cX10_job 101 = .ok (.ireturn, 1) := by decide +kernel
theorem dX10_job_102 : decode cX10_job 102 = .ok (.aload_n 0, 1) := by decide +kernel
theorem dX10_job_103 : decode cX10_job 103 = .ok (.iload_n 1, 1) := by decide +kernel
theorem dX10_job_104 : decode cX10_job 104 = .ok (.invokevirtual 224, 3) := by decide +kernel
theorem dX10_job_107 : decode cX10_job 107 = .ok (.ireturn, 1) := by decide +kernel
theorem dX10_job_108 : decode cX10_job 108 = .ok (.aload_n 0, 1) := by decide +kernel
theorem dX10_job_109 : decode cX10_job 109 = .ok (.getfield 34, 3) := by decide +kernel
theorem dX10_job_112 : decode cX10_job 112 = .ok (.iload_n 1, 1) := by decide +kernel
theorem dX10_job_113 : decode cX10_job 113 = .ok (.iaload, 1) := by decide +kernel
theorem dX10_job_114 : decode cX10_job 114 = .ok (.ireturn, 1) := by decide +kernel
theorem dX10_job_115 : decode cX10_job 115 = .ok (.aload_n 0, 1) := by decide +kernel
theorem dX10_job_116 : decode cX10_job 116 = .ok (.getfield 37, 3) := by decide +kernel
theorem dX10_job_119 : decode cX10_job 119 = .ok (.iload_n 1, 1) := by decide +kernel
theorem dX10_job_120 : decode cX10_job 120 = .ok (.iaload, 1) := by decide +kernel
theorem dX10_job_121 : decode cX10_job 121 = .ok (.ireturn, 1) := by decide +kernel
theorem dX10_job_122 : decode cX10_job 122 = .ok (.iconst (-1), 1) := by decide +kernel
theorem dX10_job_123 : decode cX10_job 123 = .ok (.ireturn, 1) := by decide +kernel
theorem dX10_count_0 : decode cX10_count 0 = .ok (.iconst 0, 1) := by decide +kernel
theorem dX10_count_1 : decode cX10_count 1 = .ok (.istore_n 2, 1) := by decide +kernel
theorem dX10_count_2 : decode cX10_count 2 = .ok (.iload_n 1, 1) := by decide +kernel
theorem dX10_count_3 : decode cX10_count 3 = .ok (.tableswitch 145 0 8 #[49, 49, 49, 55, 60, 94, 130, 135, 140], 49) := by decide +kernel
theorem dX10_count_52 : decode cX10_count 52 = .ok (.aload_n 0, 1) := by decide +kernel
theorem dX10_count_53 : decode cX10_count 53 = .ok (.iload_n 1, 1) := by decide +kernel
theorem dX10_count_54 : decode cX10_count 54 = .ok (.invokevirtual 227, 3) := by decide +kernel
theorem dX10_count_57 : decode cX10_count 57 = .ok (.ireturn, 1) := by decide +kernel
theorem dX10_count_58 : decode cX10_count 58 = .ok (.aload_n 0, 1) := by decide +kernel
theorem dX10_count_59 : decode cX10_count 59 = .ok (.getfield 106, 3) := by decide +kernel
theorem dX10_count_62 : decode cX10_count 62 = .ok (.ireturn, 1) := by decide +kernel
theorem dX10_count_63 : decode cX10_count 63 = .ok (.iconst 0, 1) := by decide +kernel
theorem dX10_count_64 : decode cX10_count 64 = .ok (.istore_n 3, 1) := by decide +kernel
theorem dX10_count_65 : decode cX10_count 65 = .ok (.iload_n 3, 1) := by decide +kernel
theorem dX10_count_66 : decode cX10_count 66 = .ok (.aload_n 0, 1) := by decide +kernel
theorem dX10_count_67 : decode cX10_count 67 = .ok (.getfield 63, 3) := by decide +kernel
theorem dX10_count_70 : decode cX10_count 70 = .ok (.if_icmp .ge 25, 3) := by decide +kernel
theorem dX10_count_73 : decode cX10_count 73 = .ok (.iload_n 2, 1) := by decide +kernel
theorem dX10_count_74 : decode cX10_count 74 = .ok (.aload_n 0, 1) := by decide +kernel
theorem dX10_count_75 : decode cX10_count 75 = .ok (.iload_n 3, 1) := by decide +kernel
theorem dX10_count_76 : decode cX10_count 76 = .ok (.invokevirtual 72, 3) := by decide +kernel
theorem dX10_count_79 : decode cX10_count 79 = .ok (.ifCond .eq 7, 3) := by decide +kernel
theorem dX10_count_82 : decode cX10_count 82 = .ok (.iconst 1, 1) := by decide +kernel
theorem dX10_count_83 : decode cX10_count 83 = .ok (.goto 4, 3) := by decide +kernel
theorem dX10_count_86 : decode cX10_count 86 = .ok (.iconst 0, 1) := by decide +kernel
theorem dX10_count_87 : decode cX10_count 87 = .ok (.iadd, 1) := by decide +kernel
theorem dX10_count_88 : decode cX10_count 88 = .ok (.istore_n 2, 1) := by decide +kernel
theorem dX10_count_89 : decode cX10_count 89 = .ok (.iinc 3 1, 3) := by decide +kernel
theorem dX10_count_92 : decode cX10_count 92 = .ok (.goto (-27), 3) := by decide +kernel
theorem dX10_count_95 : decode cX10_count 95 = .ok (.iload_n 2, 1) := by decide +kernel
theorem dX10_count_96 : decode cX10_count 96 = .ok (.ireturn, 1) := by decide +kernel
theorem dX10_count_97 : decode cX10_count 97 = .ok (.iconst 0, 1) := by decide +kernel
theorem dX10_count_98 : decode cX10_count 98 = .ok (.istore_n 3, 1) := by decide +kernel
theorem dX10_count_99 : decode cX10_count 99 = .ok (.iload_n 3, 1) := by decide +kernel
theorem dX10_count_100 : decode cX10_count 100 = .ok (.aload_n 0, 1) := by decide +kernel
theorem dX10_count_101 : decode cX10_count 101 = .ok (.getfield 63, 3) := by decide +kernel
theorem dX10_count_104 : decode cX10_count 104 = .ok (.if_icmp .ge 27, 3) := by decide +kernel
theorem dX10_count_107 : decode cX10_count 107 = .ok (.iload_n 2, 1) := by decide +kernel
theorem dX10_count_108 : decode cX10_count 108 = .ok (.aload_n 0, 1) := by decide +kernel
theorem dX10_count_109 : decode cX10_count 109 = .ok (.getfield 9, 3) := by decide +kernel
theorem dX10_count_112 : decode cX10_count 112 = .ok (.iload_n 3, 1) := by decide +kernel
theorem dX10_count_113 : decode cX10_count 113 = .ok (.iaload, 1) := by decide +kernel
theorem dX10_count_114 : decode cX10_count 114 = .ok (.iconst 2, 1) := by decide +kernel
theorem dX10_count_115 : decode cX10_count 115 = .ok (.if_icmp .ne 7, 3) := by decide +kernel
theorem dX10_count_118 : decode cX10_count 118 = .ok (.iconst 1, 1) := by decide +kernel
theorem dX10_count_119 : decode cX10_count 119 = .ok (.goto 4, 3) := by decide +kernel
theorem dX10_count_122 : decode cX10_count 122 = .ok (.iconst 0, 1) := by decide +kernel
theorem dX10_count_123 : decode cX10_count 123 = .ok (.iadd, 1) := by decide +kernel
theorem dX10_count_124 : decode cX10_count 124 = .ok (.istore_n 2, 1) := by decide +kernel
theorem dX10_count_125 : decode cX10_count 125 = .ok (.iinc 3 1, 3) := by decide +kernel
theorem dX10_count_128 : decode cX10_count 128 = .ok (.goto (-29), 3) := by decide +kernel
theorem dX10_count_131 : decode cX10_count 131 = .ok (.iload_n 2, 1) := by decide +kernel
theorem dX10_count_132 : decode cX10_count 132 = .ok (.ireturn, 1) := by decide +kernel
theorem dX10_count_133 : decode cX10_count 133 = .ok (.aload_n 0, 1) := by decide +kernel
theorem dX10_count_134 : decode cX10_count 134 = .ok (.getfield 215, 3) := by decide +kernel
theorem dX10_count_137 : decode cX10_count 137 = .ok (.ireturn, 1) := by decide +kernel
theorem dX10_count_138 : decode cX10_count 138 = .ok (.aload_n 0, 1) := by decide +kernel
theorem dX10_count_139 : decode cX10_count 139 = .ok (.getfield 59, 3) := by decide +kernel
theorem dX10_count_142 : decode cX10_count 142 = .ok (.ireturn, 1) := by decide +kernel
theorem dX10_count_143 : decode cX10_count 143 = .ok (.aload_n 0, 1) := by decide +kernel
theorem dX10_count_144 : decode cX10_count 144 = .ok (.getfield 66, 3) := by decide +kernel
theorem dX10_count_147 : decode cX10_count 147 = .ok (.ireturn, 1) := by decide +kernel
theorem dX10_count_148 : decode cX10_count 148 = .ok (.iconst (-1), 1) := by decide +kernel
theorem dX10_count_149 : decode cX10_count 149 = .ok (.ireturn, 1) := by decide +kernel
theorem dL_cell_0 : decode cL_cell 0 = .ok (.iload_n 1, 1) := by decide +kernel
theorem dL_cell_1 : decode cL_cell 1 = .ok (.aload_n 0, 1) := by decide +kernel
theorem dL_cell_2 : decode cL_cell 2 = .ok (.arraylength, 1) := by decide +kernel
theorem dL_cell_3 : decode cL_cell 3 = .ok (.if_icmp .ge 9, 3) := by decide +kernel
theorem dL_cell_6 : decode cL_cell 6 = .ok (.aload_n 0, 1) := by decide +kernel
theorem dL_cell_7 : decode cL_cell 7 = .ok (.iload_n 1, 1) := by decide +kernel
theorem dL_cell_8 : decode cL_cell 8 = .ok (.iaload, 1) := by decide +kernel
theorem dL_cell_9 : decode cL_cell 9 = .ok (.goto 4, 3) := by decide +kernel
theorem dL_cell_12 : decode cL_cell 12 = .ok (.iconst 0, 1) := by decide +kernel
theorem dL_cell_13 : decode cL_cell 13 = .ok (.ireturn, 1) := by decide +kernel
theorem dL_law_0 : decode cL_law 0 = .ok (.new 7, 3) := by decide +kernel
theorem dL_law_3 : decode cL_law 3 = .ok (.dup, 1) := by decide +kernel
theorem dL_law_4 : decode cL_law 4 = .ok (.aload_n 0, 1) := by decide +kernel
theorem dL_law_5 : decode cL_law 5 = .ok (.iconst 0, 1) := by decide +kernel
theorem dL_law_6 : decode cL_law 6 = .ok (.invokestatic 9, 3) := by decide +kernel
theorem dL_law_9 : decode cL_law 9 = .ok (.aload_n 0, 1) := by decide +kernel
theorem dL_law_10 : decode cL_law 10 = .ok (.iconst 1, 1) := by decide +kernel
theorem dL_law_11 : decode cL_law 11 = .ok (.invokestatic 9, 3) := by decide +kernel
theorem dL_law_14 : decode cL_law 14 = .ok (.aload_n 0, 1) := by decide +kernel
theorem dL_law_15 : decode cL_law 15 = .ok (.iconst 2, 1) := by decide +kernel
theorem dL_law_16 : decode cL_law 16 = .ok (.invokestatic 9, 3) := by decide +kernel
theorem dL_law_19 : decode cL_law 19 = .ok (.invokespecial 15, 3) := by decide +kernel
theorem dL_law_22 : decode cL_law 22 = .ok (.astore_n 1, 1) := by decide +kernel
theorem dL_law_23 : decode cL_law 23 = .ok (.new 18, 3) := by decide +kernel
theorem dL_law_26 : decode cL_law 26 = .ok (.dup, 1) := by decide +kernel
theorem dL_law_27 : decode cL_law 27 = .ok (.aload_n 0, 1) := by decide +kernel
theorem dL_law_28 : decode cL_law 28 = .ok (.iconst 0, 1) := by decide +kernel
theorem dL_law_29 : decode cL_law 29 = .ok (.invokestatic 9, 3) := by decide +kernel
theorem dL_law_32 : decode cL_law 32 = .ok (.aload_n 0, 1) := by decide +kernel
theorem dL_law_33 : decode cL_law 33 = .ok (.iconst 1, 1) := by decide +kernel
theorem dL_law_34 : decode cL_law 34 = .ok (.invokestatic 9, 3) := by decide +kernel
theorem dL_law_37 : decode cL_law 37 = .ok (.aload_n 0, 1) := by decide +kernel
theorem dL_law_38 : decode cL_law 38 = .ok (.iconst 2, 1) := by decide +kernel
theorem dL_law_39 : decode cL_law 39 = .ok (.invokestatic 9, 3) := by decide +kernel
theorem dL_law_42 : decode cL_law 42 = .ok (.invokespecial 20, 3) := by decide +kernel
theorem dL_law_45 : decode cL_law 45 = .ok (.astore_n 2, 1) := by decide +kernel
theorem dL_law_46 : decode cL_law 46 = .ok (.iconst 3, 1) := by decide +kernel
theorem dL_law_47 : decode cL_law 47 = .ok (.istore_n 3, 1) := by decide +kernel
theorem dL_law_48 : decode cL_law 48 = .ok (.iload_n 3, 1) := by decide +kernel
theorem dL_law_49 : decode cL_law 49 = .ok (.aload_n 0, 1) := by decide +kernel
theorem dL_law_50 : decode cL_law 50 = .ok (.arraylength, 1) := by decide +kernel
theorem dL_law_51 : decode cL_law 51 = .ok (.iconst 4, 1) := by decide +kernel
theorem dL_law_52 : decode cL_law 52 = .ok (.isub, 1) := by decide +kernel
theorem dL_law_53 : decode cL_law 53 = .ok (.if_icmp .gt 494, 3) := by decide +kernel
theorem dL_law_56 : decode cL_law 56 = .ok (.aload_n 0, 1) := by decide +kernel
theorem dL_law_57 : decode cL_law 57 = .ok (.iload_n 3, 1) := by decide +kernel
theorem dL_law_58 : decode cL_law 58 = .ok (.iaload, 1) := by decide +kernel
theorem dL_law_59 : decode cL_law 59 = .ok (.bipush 15, 2) := by decide +kernel
theorem dL_law_61 : decode cL_law 61 = .ok (.iand, 1) := by decide +kernel
theorem dL_law_62 : decode cL_law 62 = .ok (.tableswitch 479 0 14 #[74, 117, 160, 193, 216, 229, 252, 275, 308, 331, 364, 387, 400, 423, 456], 74) := by decide +kernel
theorem dL_law_136 : decode cL_law 136 = .ok (.aload_n 1, 1) := by decide +kernel
theorem dL_law_137 : decode cL_law 137 = .ok (.aload_n 0, 1) := by decide +kernel
theorem dL_law_138 : decode cL_law 138 = .ok (.iload_n 3, 1) := by decide +kernel
theorem dL_law_139 : decode cL_law 139 = .ok (.iconst 1, 1) := by decide +kernel
theorem dL_law_140 : decode cL_law 140 = .ok (.iadd, 1) := by decide +kernel
theorem dL_law_141 : decode cL_law 141 = .ok (.iaload, 1) := by decide +kernel
theorem dL_law_142 : decode cL_law 142 = .ok (.aload_n 0, 1) := by decide +kernel
theorem dL_law_143 : decode cL_law 143 = .ok (.iload_n 3, 1) := by decide +kernel
theorem dL_law_144 : decode cL_law 144 = .ok (.iconst 2, 1) := by decide +kernel
theorem dL_law_145 : decode cL_law 145 = .ok (.iadd, 1) := by decide +kernel
theorem dL_law_146 : decode cL_law 146 = .ok (.iaload, 1) := by decide +kernel
theorem dL_law_147 : decode cL_law 147 = .ok (.aload_n 0, 1) := by decide +kernel
theorem dL_law_148 : decode cL_law 148 = .ok (.iload_n 3, 1) := by decide +kernel
theorem dL_law_149 : decode cL_law 149 = .ok (.iconst 3, 1) := by decide +kernel
theorem dL_law_150 : decode cL_law 150 = .ok (.iadd, 1) := by decide +kernel
theorem dL_law_151 : decode cL_law 151 = .ok (.iaload, 1) := by decide +kernel
theorem dL_law_152 : decode cL_law 152 = .ok (.invokevirtual 21, 3) := by decide +kernel
theorem dL_law_155 : decode cL_law 155 = .ok (.aload_n 2, 1) := by decide +kernel
theorem dL_law_156 : decode cL_law 156 = .ok (.aload_n 0, 1) := by decide +kernel
theorem dL_law_157 : decode cL_law 157 = .ok (.iload_n 3, 1) := by decide +kernel
theorem dL_law_158 : decode cL_law 158 = .ok (.iconst 1, 1) := by decide +kernel
theorem dL_law_159 : decode cL_law 159 = .ok (.iadd, 1) := by decide +kernel
theorem dL_law_160 : decode cL_law 160 = .ok (.iaload, 1) := by decide +kernel
theorem dL_law_161 : decode cL_law 161 = .ok (.aload_n 0, 1) := by decide +kernel
theorem dL_law_162 : decode cL_law 162 = .ok (.iload_n 3, 1) := by decide +kernel
theorem dL_law_163 : decode cL_law 163 = .ok (.iconst 2, 1) := by decide +kernel
theorem dL_law_164 : decode cL_law 164 = .ok (.iadd, 1) := by decide +kernel
theorem dL_law_165 : decode cL_law 165 = .ok (.iaload, 1) := by decide +kernel
theorem dL_law_166 : decode cL_law 166 = .ok (.aload_n 0, 1) := by decide +kernel
theorem dL_law_167 : decode cL_law 167 = .ok (.iload_n 3, 1) := by decide +kernel
theorem dL_law_168 : decode cL_law 168 = .ok (.iconst 3, 1) := by decide +kernel
theorem dL_law_169 : decode cL_law 169 = .ok (.iadd, 1) := by decide +kernel
theorem dL_law_170 : decode cL_law 170 = .ok (.iaload, 1) := by decide +kernel
theorem dL_law_171 : decode cL_law 171 = .ok (.invokevirtual 25, 3) := by decide +kernel
theorem dL_law_174 : decode cL_law 174 = .ok (.if_icmp .eq 367, 3) := by decide +kernel
theorem dL_law_177 : decode cL_law 177 = .ok (.iconst 0, 1) := by decide +kernel
theorem dL_law_178 : decode cL_law 178 = .ok (.ireturn, 1) := by decide +kernel
theorem dL_law_179 : decode cL_law 179 = .ok (.aload_n 1, 1) := by decide +kernel
theorem dL_law_180 : decode cL_law 180 = .ok (.aload_n 0, 1) := by decide +kernel
theorem dL_law_181 : decode cL_law 181 = .ok (.iload_n 3, 1) := by decide +kernel
theorem dL_law_182 : decode cL_law 182 = .ok (.iconst 1, 1) := by decide +kernel
theorem dL_law_183 : decode cL_law 183 = .ok (.iadd, 1) := by decide +kernel
theorem dL_law_184 : decode cL_law 184 = .ok (.iaload, 1) := by decide +kernel
theorem dL_law_185 : decode cL_law 185 = .ok (.aload_n 0, 1) := by decide +kernel
theorem dL_law_186 : decode cL_law 186 = .ok (.iload_n 3, 1) := by decide +kernel
theorem dL_law_187 : decode cL_law 187 = .ok (.iconst 2, 1) := by decide +kernel
theorem dL_law_188 : decode cL_law 188 = .ok (.iadd, 1) := by decide +kernel
theorem dL_law_189 : decode cL_law 189 = .ok (.iaload, 1) := by decide +kernel
theorem dL_law_190 : decode cL_law 190 = .ok (.aload_n 0, 1) := by decide +kernel
theorem dL_law_191 : decode cL_law 191 = .ok (.iload_n 3, 1) := by decide +kernel
theorem dL_law_192 : decode cL_law 192 = .ok (.iconst 3, 1) := by decide +kernel
theorem dL_law_193 : decode cL_law 193 = .ok (.iadd, 1) := by decide +kernel
theorem dL_law_194 : decode cL_law 194 = .ok (.iaload, 1) := by decide +kernel
theorem dL_law_195 : decode cL_law 195 = .ok (.invokevirtual 26, 3) := by decide +kernel
theorem dL_law_198 : decode cL_law 198 = .ok (.aload_n 2, 1) := by decide +kernel
theorem dL_law_199 : decode cL_law 199 = .ok (.aload_n 0, 1) := by decide +kernel
theorem dL_law_200 : decode cL_law 200 = .ok (.iload_n 3, 1) := by decide +kernel
theorem dL_law_201 : decode cL_law 201 = .ok (.iconst 1, 1) := by decide +kernel
theorem dL_law_202 : decode cL_law 202 = .ok (.iadd, 1) := by decide +kernel
theorem dL_law_203 : decode cL_law 203 = .ok (.iaload, 1) := by decide +kernel
theorem dL_law_204 : decode cL_law 204 = .ok (.aload_n 0, 1) := by decide +kernel
theorem dL_law_205 : decode cL_law 205 = .ok (.iload_n 3, 1) := by decide +kernel
theorem dL_law_206 : decode cL_law 206 = .ok (.iconst 2, 1) := by decide +kernel
theorem dL_law_207 : decode cL_law 207 = .ok (.iadd, 1) := by decide +kernel
theorem dL_law_208 : decode cL_law 208 = .ok (.iaload, 1) := by decide +kernel
theorem dL_law_209 : decode cL_law 209 = .ok (.aload_n 0, 1) := by decide +kernel
theorem dL_law_210 : decode cL_law 210 = .ok (.iload_n 3, 1) := by decide +kernel
theorem dL_law_211 : decode cL_law 211 = .ok (.iconst 3, 1) := by decide +kernel
theorem dL_law_212 : decode cL_law 212 = .ok (.iadd, 1) := by decide +kernel
theorem dL_law_213 : decode cL_law 213 = .ok (.iaload, 1) := by decide +kernel
theorem dL_law_214 : decode cL_law 214 = .ok (.invokevirtual 29, 3) := by decide +kernel
theorem dL_law_217 : decode cL_law 217 = .ok (.if_icmp .eq 324, 3) := by decide +kernel
theorem dL_law_220 : decode cL_law 220 = .ok (.iconst 0, 1) := by decide +kernel
theorem dL_law_221 : decode cL_law 221 = .ok (.ireturn, 1) := by decide +kernel
theorem dL_law_222 : decode cL_law 222 = .ok (.aload_n 1, 1) := by decide +kernel
theorem dL_law_223 : decode cL_law 223 = .ok (.aload_n 0, 1) := by decide +kernel
theorem dL_law_224 : decode cL_law 224 = .ok (.iload_n 3, 1) := by decide +kernel
theorem dL_law_225 : decode cL_law 225 = .ok (.iconst 1, 1) := by decide +kernel
theorem dL_law_226 : decode cL_law 226 = .ok (.iadd, 1) := by decide +kernel
theorem dL_law_227 : decode cL_law 227 = .ok (.iaload, 1) := by decide +kernel
theorem dL_law_228 : decode cL_law 228 = .ok (.aload_n 0, 1) := by decide +kernel
theorem dL_law_229 : decode cL_law 229 = .ok (.iload_n 3, 1) := by decide +kernel
theorem dL_law_230 : decode cL_law 230 = .ok (.iconst 2, 1) := by decide +kernel
theorem dL_law_231 : decode cL_law 231 = .ok (.iadd, 1) := by decide +kernel
theorem dL_law_232 : decode cL_law 232 = .ok (.iaload, 1) := by decide +kernel
theorem dL_law_233 : decode cL_law 233 = .ok (.invokevirtual 30, 3) := by decide +kernel
theorem dL_law_236 : decode cL_law 236 = .ok (.aload_n 2, 1) := by decide +kernel
theorem dL_law_237 : decode cL_law 237 = .ok (.aload_n 0, 1) := by decide +kernel
theorem dL_law_238 : decode cL_law 238 = .ok (.iload_n 3, 1) := by decide +kernel
theorem dL_law_239 : decode cL_law 239 = .ok (.iconst 1, 1) := by decide +kernel
theorem dL_law_240 : decode cL_law 240 = .ok (.iadd, 1) := by decide +kernel
theorem dL_law_241 : decode cL_law 241 = .ok (.iaload, 1) := by decide +kernel
theorem dL_law_242 : decode cL_law 242 = .ok (.aload_n 0, 1) := by decide +kernel
theorem dL_law_243 : decode cL_law 243 = .ok (.iload_n 3, 1) := by decide +kernel
theorem dL_law_244 : decode cL_law 244 = .ok (.iconst 2, 1) := by decide +kernel
theorem dL_law_245 : decode cL_law 245 = .ok (.iadd, 1) := by decide +kernel
theorem dL_law_246 : decode cL_law 246 = .ok (.iaload, 1) := by decide +kernel
theorem dL_law_247 : decode cL_law 247 = .ok (.invokevirtual 34, 3) := by decide +kernel
theorem dL_law_250 : decode cL_law 250 = .ok (.if_icmp .eq 291, 3) := by decide +kernel
theorem dL_law_253 : decode cL_law 253 = .ok (.iconst 0, 1) := by decide +kernel
theorem dL_law_254 : decode cL_law 254 = .ok (.ireturn, 1) := by decide +kernel
theorem dL_law_255 : decode cL_law 255 = .ok (.aload_n 1, 1) := by decide +kernel
theorem dL_law_256 : decode cL_law 256 = .ok (.aload_n 0, 1) := by decide +kernel
theorem dL_law_257 : decode cL_law 257 = .ok (.iload_n 3, 1) := by decide +kernel
theorem dL_law_258 : decode cL_law 258 = .ok (.iconst 1, 1) := by decide +kernel
theorem dL_law_259 : decode cL_law 259 = .ok (.iadd, 1) := by decide +kernel
theorem dL_law_260 : decode cL_law 260 = .ok (.iaload, 1) := by decide +kernel
theorem dL_law_261 : decode cL_law 261 = .ok (.invokevirtual 35, 3) := by decide +kernel
theorem dL_law_264 : decode cL_law 264 = .ok (.aload_n 2, 1) := by decide +kernel
theorem dL_law_265 : decode cL_law 265 = .ok (.aload_n 0, 1) := by decide +kernel
theorem dL_law_266 : decode cL_law 266 = .ok (.iload_n 3, 1) := by decide +kernel
theorem dL_law_267 : decode cL_law 267 = .ok (.iconst 1, 1) := by decide +kernel
theorem dL_law_268 : decode cL_law 268 = .ok (.iadd, 1) := by decide +kernel
theorem dL_law_269 : decode cL_law 269 = .ok (.iaload, 1) := by decide +kernel
theorem dL_law_270 : decode cL_law 270 = .ok (.invokevirtual 39, 3) := by decide +kernel
theorem dL_law_273 : decode cL_law 273 = .ok (.if_icmp .eq 268, 3) := by decide +kernel
theorem dL_law_276 : decode cL_law 276 = .ok (.iconst 0, 1) := by decide +kernel
theorem dL_law_277 : decode cL_law 277 = .ok (.ireturn, 1) := by decide +kernel
theorem dL_law_278 : decode cL_law 278 = .ok (.aload_n 1, 1) := by decide +kernel
theorem dL_law_279 : decode cL_law 279 = .ok (.invokevirtual 40, 3) := by decide +kernel
theorem dL_law_282 : decode cL_law 282 = .ok (.aload_n 2, 1) := by decide +kernel
theorem dL_law_283 : decode cL_law 283 = .ok (.invokevirtual 44, 3) := by decide +kernel
theorem dL_law_286 : decode cL_law 286 = .ok (.if_icmp .eq 255, 3) := by decide +kernel
theorem dL_law_289 : decode cL_law 289 = .ok (.iconst 0, 1) := by decide +kernel
theorem dL_law_290 : decode cL_law 290 = .ok (.ireturn, 1) := by decide +kernel
theorem dL_law_291 : decode cL_law 291 = .ok (.aload_n 1, 1) := by decide +kernel
theorem dL_law_292 : decode cL_law 292 = .ok (.aload_n 0, 1) := by decide +kernel
theorem dL_law_293 : decode cL_law 293 = .ok (.iload_n 3, 1) := by decide +kernel
theorem dL_law_294 : decode cL_law 294 = .ok (.iconst 1, 1) := by decide +kernel
theorem dL_law_295 : decode cL_law 295 = .ok (.iadd, 1) := by decide +kernel
theorem dL_law_296 : decode cL_law 296 = .ok (.iaload, 1) := by decide +kernel
theorem dL_law_297 : decode cL_law 297 = .ok (.invokevirtual 45, 3) := by decide +kernel
theorem dL_law_300 : decode cL_law 300 = .ok (.aload_n 2, 1) := by decide +kernel
theorem dL_law_301 : decode cL_law 301 = .ok (.aload_n 0, 1) := by decide +kernel
theorem dL_law_302 : decode cL_law 302 = .ok (.iload_n 3, 1) := by decide +kernel
theorem dL_law_303 : decode cL_law 303 = .ok (.iconst 1, 1) := by decide +kernel
theorem dL_law_304 : decode cL_law 304 = .ok (.iadd, 1) := by decide +kernel
theorem dL_law_305 : decode cL_law 305 = .ok (.iaload, 1) := by decide +kernel
theorem dL_law_306 : decode cL_law 306 = .ok (.invokevirtual 48, 3) := by decide +kernel
theorem dL_law_309 : decode cL_law 309 = .ok (.if_icmp .eq 232, 3) := by decide +kernel
theorem dL_law_312 : decode cL_law 312 = .ok (.iconst 0, 1) := by decide +kernel
theorem dL_law_313 : decode cL_law 313 = .ok (.ireturn, 1) := by decide +kernel
theorem dL_law_314 : decode cL_law 314 = .ok (.aload_n 1, 1) := by decide +kernel
theorem dL_law_315 : decode cL_law 315 = .ok (.aload_n 0, 1) := by decide +kernel
theorem dL_law_316 : decode cL_law 316 = .ok (.iload_n 3, 1) := by decide +kernel
theorem dL_law_317 : decode cL_law 317 = .ok (.iconst 1, 1) := by decide +kernel
theorem dL_law_318 : decode cL_law 318 = .ok (.iadd, 1) := by decide +kernel
theorem dL_law_319 : decode cL_law 319 = .ok (.iaload, 1) := by decide +kernel
theorem dL_law_320 : decode cL_law 320 = .ok (.invokevirtual 49, 3) := by decide +kernel
theorem dL_law_323 : decode cL_law 323 = .ok (.aload_n 2, 1) := by decide +kernel
theorem dL_law_324 : decode cL_law 324 = .ok (.aload_n 0, 1) := by decide +kernel
theorem dL_law_325 : decode cL_law 325 = .ok (.iload_n 3, 1) := by decide +kernel
theorem dL_law_326 : decode cL_law 326 = .ok (.iconst 1, 1) := by decide +kernel
theorem dL_law_327 : decode cL_law 327 = .ok (.iadd, 1) := by decide +kernel
theorem dL_law_328 : decode cL_law 328 = .ok (.iaload, 1) := by decide +kernel
theorem dL_law_329 : decode cL_law 329 = .ok (.invokevirtual 52, 3) := by decide +kernel
theorem dL_law_332 : decode cL_law 332 = .ok (.if_icmp .eq 209, 3) := by decide +kernel
theorem dL_law_335 : decode cL_law 335 = .ok (.iconst 0, 1) := by decide +kernel
theorem dL_law_336 : decode cL_law 336 = .ok (.ireturn, 1) := by decide +kernel
theorem dL_law_337 : decode cL_law 337 = .ok (.aload_n 1, 1) := by decide +kernel
theorem dL_law_338 : decode cL_law 338 = .ok (.aload_n 0, 1) := by decide +kernel
theorem dL_law_339 : decode cL_law 339 = .ok (.iload_n 3, 1) := by decide +kernel
theorem dL_law_340 : decode cL_law 340 = .ok (.iconst 1, 1) := by decide +kernel
theorem dL_law_341 : decode cL_law 341 = .ok (.iadd, 1) := by decide +kernel
theorem dL_law_342 : decode cL_law 342 = .ok (.iaload, 1) := by decide +kernel
theorem dL_law_343 : decode cL_law 343 = .ok (.aload_n 0, 1) := by decide +kernel
theorem dL_law_344 : decode cL_law 344 = .ok (.iload_n 3, 1) := by decide +kernel
theorem dL_law_345 : decode cL_law 345 = .ok (.iconst 2, 1) := by decide +kernel
theorem dL_law_346 : decode cL_law 346 = .ok (.iadd, 1) := by decide +kernel
theorem dL_law_347 : decode cL_law 347 = .ok (.iaload, 1) := by decide +kernel
theorem dL_law_348 : decode cL_law 348 = .ok (.invokevirtual 53, 3) := by decide +kernel
theorem dL_law_351 : decode cL_law 351 = .ok (.aload_n 2, 1) := by decide +kernel
theorem dL_law_352 : decode cL_law 352 = .ok (.aload_n 0, 1) := by decide +kernel
theorem dL_law_353 : decode cL_law 353 = .ok (.iload_n 3, 1) := by decide +kernel
theorem dL_law_354 : decode cL_law 354 = .ok (.iconst 1, 1) := by decide +kernel
theorem dL_law_355 : decode cL_law 355 = .ok (.iadd, 1) := by decide +kernel
theorem dL_law_356 : decode cL_law 356 = .ok (.iaload, 1) := by decide +kernel
theorem dL_law_357 : decode cL_law 357 = .ok (.aload_n 0, 1) := by decide +kernel
theorem dL_law_358 : decode cL_law 358 = .ok (.iload_n 3, 1) := by decide +kernel
theorem dL_law_359 : decode cL_law 359 = .ok (.iconst 2, 1) := by decide +kernel
theorem dL_law_360 : decode cL_law 360 = .ok (.iadd, 1) := by decide +kernel
theorem dL_law_361 : decode cL_law 361 = .ok (.iaload, 1) := by decide +kernel
theorem dL_law_362 : decode cL_law 362 = .ok (.invokevirtual 56, 3) := by decide +kernel
theorem dL_law_365 : decode cL_law 365 = .ok (.if_icmp .eq 176, 3) := by decide +kernel
theorem dL_law_368 : decode cL_law 368 = .ok (.iconst 0, 1) := by decide +kernel
theorem dL_law_369 : decode cL_law 369 = .ok (.ireturn, 1) := by decide +kernel
theorem dL_law_370 : decode cL_law 370 = .ok (.aload_n 1, 1) := by decide +kernel
theorem dL_law_371 : decode cL_law 371 = .ok (.aload_n 0, 1) := by decide +kernel
theorem dL_law_372 : decode cL_law 372 = .ok (.iload_n 3, 1) := by decide +kernel
theorem dL_law_373 : decode cL_law 373 = .ok (.iconst 1, 1) := by decide +kernel
theorem dL_law_374 : decode cL_law 374 = .ok (.iadd, 1) := by decide +kernel
theorem dL_law_375 : decode cL_law 375 = .ok (.iaload, 1) := by decide +kernel
theorem dL_law_376 : decode cL_law 376 = .ok (.invokevirtual 57, 3) := by decide +kernel
theorem dL_law_379 : decode cL_law 379 = .ok (.aload_n 2, 1) := by decide +kernel
theorem dL_law_380 : decode cL_law 380 = .ok (.aload_n 0, 1) := by decide +kernel
theorem dL_law_381 : decode cL_law 381 = .ok (.iload_n 3, 1) := by decide +kernel
theorem dL_law_382 : decode cL_law 382 = .ok (.iconst 1, 1) := by decide +kernel
theorem dL_law_383 : decode cL_law 383 = .ok (.iadd, 1) := by decide +kernel
theorem dL_law_384 : decode cL_law 384 = .ok (.iaload, 1) := by decide +kernel
theorem dL_law_385 : decode cL_law 385 = .ok (.invokevirtual 60, 3) := by decide +kernel
theorem dL_law_388 : decode cL_law 388 = .ok (.if_icmp .eq 153, 3) := by decide +kernel
theorem dL_law_391 : decode cL_law 391 = .ok (.iconst 0, 1) := by decide +kernel
theorem dL_law_392 : decode cL_law 392 = .ok (.ireturn, 1) := by decide +kernel
theorem dL_law_393 : decode cL_law 393 = .ok (.aload_n 1, 1) := by decide +kernel
theorem dL_law_394 : decode cL_law 394 = .ok (.aload_n 0, 1) := by decide +kernel
theorem dL_law_395 : decode cL_law 395 = .ok (.iload_n 3, 1) := by decide +kernel
theorem dL_law_396 : decode cL_law 396 = .ok (.iconst 1, 1) := by decide +kernel
theorem dL_law_397 : decode cL_law 397 = .ok (.iadd, 1) := by decide +kernel
theorem dL_law_398 : decode cL_law 398 = .ok (.iaload, 1) := by decide +kernel
theorem dL_law_399 : decode cL_law 399 = .ok (.aload_n 0, 1) := by decide +kernel
theorem dL_law_400 : decode cL_law 400 = .ok (.iload_n 3, 1) := by decide +kernel
theorem dL_law_401 : decode cL_law 401 = .ok (.iconst 2, 1) := by decide +kernel
theorem dL_law_402 : decode cL_law 402 = .ok (.iadd, 1) := by decide +kernel
theorem dL_law_403 : decode cL_law 403 = .ok (.iaload, 1) := by decide +kernel
theorem dL_law_404 : decode cL_law 404 = .ok (.invokevirtual 61, 3) := by decide +kernel
theorem dL_law_407 : decode cL_law 407 = .ok (.aload_n 2, 1) := by decide +kernel
theorem dL_law_408 : decode cL_law 408 = .ok (.aload_n 0, 1) := by decide +kernel
theorem dL_law_409 : decode cL_law 409 = .ok (.iload_n 3, 1) := by decide +kernel
theorem dL_law_410 : decode cL_law 410 = .ok (.iconst 1, 1) := by decide +kernel
theorem dL_law_411 : decode cL_law 411 = .ok (.iadd, 1) := by decide +kernel
theorem dL_law_412 : decode cL_law 412 = .ok (.iaload, 1) := by decide +kernel
theorem dL_law_413 : decode cL_law 413 = .ok (.aload_n 0, 1) := by decide +kernel
theorem dL_law_414 : decode cL_law 414 = .ok (.iload_n 3, 1) := by decide +kernel
theorem dL_law_415 : decode cL_law 415 = .ok (.iconst 2, 1) := by decide +kernel
theorem dL_law_416 : decode cL_law 416 = .ok (.iadd, 1) := by decide +kernel
theorem dL_law_417 : decode cL_law 417 = .ok (.iaload, 1) := by decide +kernel
theorem dL_law_418 : decode cL_law 418 = .ok (.invokevirtual 64, 3) := by decide +kernel
theorem dL_law_421 : decode cL_law 421 = .ok (.if_icmp .eq 120, 3) := by decide +kernel
theorem dL_law_424 : decode cL_law 424 = .ok (.iconst 0, 1) := by decide +kernel
theorem dL_law_425 : decode cL_law 425 = .ok (.ireturn, 1) := by decide +kernel
theorem dL_law_426 : decode cL_law 426 = .ok (.aload_n 1, 1) := by decide +kernel
theorem dL_law_427 : decode cL_law 427 = .ok (.aload_n 0, 1) := by decide +kernel
theorem dL_law_428 : decode cL_law 428 = .ok (.iload_n 3, 1) := by decide +kernel
theorem dL_law_429 : decode cL_law 429 = .ok (.iconst 1, 1) := by decide +kernel
theorem dL_law_430 : decode cL_law 430 = .ok (.iadd, 1) := by decide +kernel
theorem dL_law_431 : decode cL_law 431 = .ok (.iaload, 1) := by decide +kernel
theorem dL_law_432 : decode cL_law 432 = .ok (.invokevirtual 65, 3) := by decide +kernel
theorem dL_law_435 : decode cL_law 435 = .ok (.aload_n 2, 1) := by decide +kernel
theorem dL_law_436 : decode cL_law 436 = .ok (.aload_n 0, 1) := by decide +kernel
theorem dL_law_437 : decode cL_law 437 = .ok (.iload_n 3, 1) := by decide +kernel
theorem dL_law_438 : decode cL_law 438 = .ok (.iconst 1, 1) := by decide +kernel
theorem dL_law_439 : decode cL_law 439 = .ok (.iadd, 1) := by decide +kernel
theorem dL_law_440 : decode cL_law 440 = .ok (.iaload, 1) := by decide +kernel
theorem dL_law_441 : decode cL_law 441 = .ok (.invokevirtual 68, 3) := by decide +kernel
theorem dL_law_444 : decode cL_law 444 = .ok (.if_icmp .eq 97, 3) := by decide +kernel
theorem dL_law_447 : decode cL_law 447 = .ok (.iconst 0, 1) := by decide +kernel
theorem dL_law_448 : decode cL_law 448 = .ok (.ireturn, 1) := by decide +kernel
theorem dL_law_449 : decode cL_law 449 = .ok (.aload_n 1, 1) := by decide +kernel
theorem dL_law_450 : decode cL_law 450 = .ok (.invokevirtual 69, 3) := by decide +kernel
theorem dL_law_453 : decode cL_law 453 = .ok (.aload_n 2, 1) := by decide +kernel
theorem dL_law_454 : decode cL_law 454 = .ok (.invokevirtual 72, 3) := by decide +kernel
theorem dL_law_457 : decode cL_law 457 = .ok (.if_icmp .eq 84, 3) := by decide +kernel
theorem dL_law_460 : decode cL_law 460 = .ok (.iconst 0, 1) := by decide +kernel
theorem dL_law_461 : decode cL_law 461 = .ok (.ireturn, 1) := by decide +kernel
theorem dL_law_462 : decode cL_law 462 = .ok (.aload_n 1, 1) := by decide +kernel
theorem dL_law_463 : decode cL_law 463 = .ok (.aload_n 0, 1) := by decide +kernel
theorem dL_law_464 : decode cL_law 464 = .ok (.iload_n 3, 1) := by decide +kernel
theorem dL_law_465 : decode cL_law 465 = .ok (.iconst 1, 1) := by decide +kernel
theorem dL_law_466 : decode cL_law 466 = .ok (.iadd, 1) := by decide +kernel
theorem dL_law_467 : decode cL_law 467 = .ok (.iaload, 1) := by decide +kernel
theorem dL_law_468 : decode cL_law 468 = .ok (.invokevirtual 73, 3) := by decide +kernel
theorem dL_law_471 : decode cL_law 471 = .ok (.aload_n 2, 1) := by decide +kernel
theorem dL_law_472 : decode cL_law 472 = .ok (.aload_n 0, 1) := by decide +kernel
theorem dL_law_473 : decode cL_law 473 = .ok (.iload_n 3, 1) := by decide +kernel
theorem dL_law_474 : decode cL_law 474 = .ok (.iconst 1, 1) := by decide +kernel
theorem dL_law_475 : decode cL_law 475 = .ok (.iadd, 1) := by decide +kernel
theorem dL_law_476 : decode cL_law 476 = .ok (.iaload, 1) := by decide +kernel
theorem dL_law_477 : decode cL_law 477 = .ok (.invokevirtual 76, 3) := by decide +kernel
theorem dL_law_480 : decode cL_law 480 = .ok (.if_icmp .eq 61, 3) := by decide +kernel
theorem dL_law_483 : decode cL_law 483 = .ok (.iconst 0, 1) := by decide +kernel
theorem dL_law_484 : decode cL_law 484 = .ok (.ireturn, 1) := by decide +kernel
theorem dL_law_485 : decode cL_law 485 = .ok (.aload_n 1, 1) := by decide +kernel
theorem dL_law_486 : decode cL_law 486 = .ok (.aload_n 0, 1) := by decide +kernel
theorem dL_law_487 : decode cL_law 487 = .ok (.iload_n 3, 1) := by decide +kernel
theorem dL_law_488 : decode cL_law 488 = .ok (.iconst 1, 1) := by decide +kernel
theorem dL_law_489 : decode cL_law 489 = .ok (.iadd, 1) := by decide +kernel
theorem dL_law_490 : decode cL_law 490 = .ok (.iaload, 1) := by decide +kernel
theorem dL_law_491 : decode cL_law 491 = .ok (.aload_n 0, 1) := by decide +kernel
theorem dL_law_492 : decode cL_law 492 = .ok (.iload_n 3, 1) := by decide +kernel
theorem dL_law_493 : decode cL_law 493 = .ok (.iconst 2, 1) := by decide +kernel
theorem dL_law_494 : decode cL_law 494 = .ok (.iadd, 1) := by decide +kernel
theorem dL_law_495 : decode cL_law 495 = .ok (.iaload, 1) := by decide +kernel
theorem dL_law_496 : decode cL_law 496 = .ok (.invokevirtual 77, 3) := by decide +kernel
theorem dL_law_499 : decode cL_law 499 = .ok (.aload_n 2, 1) := by decide +kernel
theorem dL_law_500 : decode cL_law 500 = .ok (.aload_n 0, 1) := by decide +kernel
theorem dL_law_501 : decode cL_law 501 = .ok (.iload_n 3, 1) := by decide +kernel
theorem dL_law_502 : decode cL_law 502 = .ok (.iconst 1, 1) := by decide +kernel
theorem dL_law_503 : decode cL_law 503 = .ok (.iadd, 1) := by decide +kernel
theorem dL_law_504 : decode cL_law 504 = .ok (.iaload, 1) := by decide +kernel
theorem dL_law_505 : decode cL_law 505 = .ok (.aload_n 0, 1) := by decide +kernel
theorem dL_law_506 : decode cL_law 506 = .ok (.iload_n 3, 1) := by decide +kernel
theorem dL_law_507 : decode cL_law 507 = .ok (.iconst 2, 1) := by decide +kernel
theorem dL_law_508 : decode cL_law 508 = .ok (.iadd, 1) := by decide +kernel
theorem dL_law_509 : decode cL_law 509 = .ok (.iaload, 1) := by decide +kernel
theorem dL_law_510 : decode cL_law 510 = .ok (.invokevirtual 80, 3) := by decide +kernel
theorem dL_law_513 : decode cL_law 513 = .ok (.if_icmp .eq 28, 3) := by decide +kernel
theorem dL_law_516 : decode cL_law 516 = .ok (.iconst 0, 1) := by decide +kernel
theorem dL_law_517 : decode cL_law 517 = .ok (.ireturn, 1) := by decide +kernel
theorem dL_law_518 : decode cL_law 518 = .ok (.aload_n 1, 1) := by decide +kernel
theorem dL_law_519 : decode cL_law 519 = .ok (.aload_n 0, 1) := by decide +kernel
theorem dL_law_520 : decode cL_law 520 = .ok (.iload_n 3, 1) := by decide +kernel
theorem dL_law_521 : decode cL_law 521 = .ok (.iconst 1, 1) := by decide +kernel
theorem dL_law_522 : decode cL_law 522 = .ok (.iadd, 1) := by decide +kernel
theorem dL_law_523 : decode cL_law 523 = .ok (.iaload, 1) := by decide +kernel
theorem dL_law_524 : decode cL_law 524 = .ok (.invokevirtual 81, 3) := by decide +kernel
theorem dL_law_527 : decode cL_law 527 = .ok (.aload_n 2, 1) := by decide +kernel
theorem dL_law_528 : decode cL_law 528 = .ok (.aload_n 0, 1) := by decide +kernel
theorem dL_law_529 : decode cL_law 529 = .ok (.iload_n 3, 1) := by decide +kernel
theorem dL_law_530 : decode cL_law 530 = .ok (.iconst 1, 1) := by decide +kernel
theorem dL_law_531 : decode cL_law 531 = .ok (.iadd, 1) := by decide +kernel
theorem dL_law_532 : decode cL_law 532 = .ok (.iaload, 1) := by decide +kernel
theorem dL_law_533 : decode cL_law 533 = .ok (.invokevirtual 84, 3) := by decide +kernel
theorem dL_law_536 : decode cL_law 536 = .ok (.if_icmp .eq 5, 3) := by decide +kernel
theorem dL_law_539 : decode cL_law 539 = .ok (.iconst 0, 1) := by decide +kernel
theorem dL_law_540 : decode cL_law 540 = .ok (.ireturn, 1) := by decide +kernel
theorem dL_law_541 : decode cL_law 541 = .ok (.iinc 3 4, 3) := by decide +kernel
theorem dL_law_544 : decode cL_law 544 = .ok (.goto (-496), 3) := by decide +kernel
theorem dL_law_547 : decode cL_law 547 = .ok (.iconst 1, 1) := by decide +kernel
theorem dL_law_548 : decode cL_law 548 = .ok (.ireturn, 1) := by decide +kernel
end
section
/-! the words of every method here: its own code, and every good word of the tables; the odd words (nest links, abstract methods, arrays of objects) apart -/
def hWs : List Cond := lw_tbl.filter goodWord
def hWy (y : MethodName) (cc : ByteArray) (n : Nat) (ret : Option FieldType) : List Cond := Cond.code y cc n ret :: hWs
theorem hWs_mem {w : Cond} (i : Nat) (h : lw_tbl[i]? = some w) (g : goodWord w = true) : w ∈ hWs := List.mem_filter.mpr ⟨List.mem_of_getElem? h, g⟩
theorem hWs_good {w : Cond} (h : w ∈ hWs) : goodWord w = true := (List.mem_filter.mp h).2
theorem hWy_good {y0 y : MethodName} {c0 cc : ByteArray} {n0 n : Nat} {r0 ret : Option FieldType} (h : Cond.code y cc n ret ∈ hWs) : GoodIn (hWy y0 c0 n0 r0) (hWy y cc n ret) := by
  intro w hw
  rcases List.mem_cons.mp hw with rfl | hw
  · exact ⟨List.mem_cons_of_mem _ h, good_of_word (hWs_good h)⟩
  · exact ⟨List.mem_cons_of_mem _ hw, good_of_word (hWs_good hw)⟩
def hOdd : Cond → Bool
  | .fieldLinkNest _ _ _ _ _ _ => true
  | .methodLinkNest _ _ _ _ => true
  | .declares _ => true
  | .arrayOver (.object _) => true
  | _ => false
def hN (s : State) : Prop := ∀ w ∈ lw_tbl, hOdd w = true → va_Nw w s
theorem hN.warm {s U : State} (hW : s.WarmedH U.vm) (h : hN s) : hN U := by
  intro w hw ho
  have h1 := h w hw ho
  unfold hOdd at ho
  split at ho
  · exact va_Nw.warmF hW h1
  · exact va_Nw.warmM hW h1
  · exact va_Nw.warmD hW h1
  · exact va_AO.moved hW.alike h1
  · cases ho
theorem hN_mem {w : Cond} {s : State} (h : hN s) (i : Nat) (hi : lw_tbl[i]? = some w) (ho : hOdd w = true) : va_Nw w s := h w (List.mem_of_getElem? hi) ho
/-! the world: a cell is (kind, length, contents); kinds 0 .. 9 the classes of vwCl, 10 int[], 11 boolean[], 12 Job[]; a world is (cells by address, heap's size) -/
abbrev hC : Type := Nat × Nat × (Nat → Value)
abbrev hS : Type := (Nat → Option hC) × Nat
abbrev hD : Type := va_G × ClassId × ClassId × ClassId
def h_tys (D : hD) : List (ClassId × FieldType) := [(D.2.1, .int), (D.2.2.1, .boolean), (D.2.2.2, .object RX4)]
def h_K (D : hD) (s : State) : Prop := va_K D.1 vwCl (h_tys D) s ∧ hN s
theorem h_K.warm {D : hD} {s U : State} (hW : s.WarmedH U.vm) (h : h_K D s) : h_K D U := ⟨va_K.moved hW.alike h.1, h.2.warm hW⟩
theorem h_K.call {D : hD} {U : State} {g : JFrame} {mk : MethodId} {a : Array Value} (h : h_K D U) : h_K D (U.calling g mk a) := h_K.warm (U := U.calling g mk a) (State.WarmedH.refl U) h
def h_at (D : hD) (a : Nat) (c : hC) (H : Heap) : Prop :=
  (∃ r : vw_C, vwCl[c.1]? = some r ∧ t_OB a (D.1.1 c.1) r.2.2 (D.1.2 c.1) H c.2.2) ∨ (∃ q : ClassId × FieldType, 10 ≤ c.1 ∧ (h_tys D)[c.1 - 10]? = some q ∧ H[a]? = some (arrV q.1 c.2.1 c.2.2))
theorem h_at.kept {D : hD} {a : Nat} {c : hC} {H H1 : Heap} (h : h_at D a c H) (hq : H1[a]? = H[a]?) : h_at D a c H1 := by
  rcases h with ⟨r, h1, h2⟩ | ⟨q, h0, h1, h2⟩
  · exact Or.inl ⟨r, h1, h2.kept hq⟩
  · exact Or.inr ⟨q, h0, h1, by rw [hq]; exact h2⟩
theorem h_at.lt {D : hD} {a : Nat} {c : hC} {H : Heap} (h : h_at D a c H) : a < H.size := by
  rcases h with ⟨r, h1, cell, h2, -⟩ | ⟨q, h0, h1, h2⟩
  · exact (Array.getElem?_eq_some_iff.mp h2).1
  · exact (Array.getElem?_eq_some_iff.mp h2).1
theorem hCl_lt {k : Nat} {r : vw_C} (h : vwCl[k]? = some r) : k < 10 := (List.getElem?_eq_some_iff.mp h).1
theorem h_at.obj {D : hD} {a k : Nat} {n : Nat} {V : Nat → Value} {H : Heap} (h : h_at D a (k, n, V) H) {r : vw_C} (hr : vwCl[k]? = some r) : t_OB a (D.1.1 k) r.2.2 (D.1.2 k) H V := by
  rcases h with ⟨r', h1, h2⟩ | ⟨q, h0, h1, h2⟩
  · cases hr.symm.trans h1
    exact h2
  · have := hCl_lt hr
    exact absurd h0 (by show ¬ 10 ≤ k; omega)
theorem h_at.arr {D : hD} {a k n : Nat} {V : Nat → Value} {H : Heap} (h : h_at D a (k, n, V) H) {q : ClassId × FieldType} (hk : 10 ≤ k) (hq : (h_tys D)[k - 10]? = some q) : H[a]? = some (arrV q.1 n V) := by
  rcases h with ⟨r', h1, h2⟩ | ⟨q', h0, h1, h2⟩
  · have := hCl_lt h1
    exact absurd hk (by show ¬ 10 ≤ k; have : k < 10 := this; omega)
  · cases hq.symm.trans h1
    exact h2
def h_P (D : hD) (S : hS) (H : Heap) : Prop := H.size = S.2 ∧ ∀ (a : Nat) (c : hC), S.1 a = some c → h_at D a c H
def h_A (S : hS) : Nat → Prop := fun q => S.1 q ≠ none ∨ S.2 ≤ q
def h_V (D : hD) (A : Nat → Prop) (s : State) (S : hS) (H : Heap) (locs : List Loc) : Prop := h_P D S H ∧ (∀ q, S.1 q ≠ none → A q) ∧ va_S A s.heap H locs ∧ (∀ q, s.heap.size ≤ q → A q)
def hset (S : hS) (a : Nat) (c : hC) : hS := (fun q => if q = a then some c else S.1 q, S.2)
def hpush (S : hS) (c : hC) : hS := (fun q => if q = S.2 then some c else S.1 q, S.2 + 1)
theorem h_V.set {D : hD} {A : Nat → Prop} {s : State} {S : hS} {H H1 : Heap} {locs : List Loc} {a k : Nat} {c c' : hC} (h : h_V D A s S H locs) (ha : S.1 a = some c) (h1 : h_at D a c' H1) (hz : H1.size = H.size) (oq : ∀ q, q ≠ a → H1[q]? = H[q]?) : h_V D A s (hset S a c') H1 (locs ++ [⟨a, k⟩]) := by
  obtain ⟨⟨p1, p2⟩, hd, hS, hA⟩ := h
  refine ⟨⟨by rw [hz]; exact p1, fun b cb hb => ?_⟩, fun q hq => ?_, hS.put hz oq (hd a (by rw [ha]; exact fun z => by cases z)), hA⟩
  · by_cases e : b = a
    · subst e
      simp [hset] at hb
      subst hb
      exact h1
    · simp [hset, e] at hb
      exact (p2 b cb hb).kept (oq b e)
  · by_cases e : q = a
    · subst e
      exact hd q (by rw [ha]; exact fun z => by cases z)
    · simp [hset, e] at hq
      exact hd q hq
theorem h_V.push {D : hD} {A : Nat → Prop} {s : State} {S : hS} {H H1 : Heap} {locs : List Loc} {c' : hC} (h : h_V D A s S H locs) (h1 : h_at D S.2 c' H1) (hz : H1.size = H.size + 1) (oq : ∀ q, q < H.size → H1[q]? = H[q]?) : h_V D A s (hpush S c') H1 locs := by
  obtain ⟨⟨p1, p2⟩, hd, hS, hA⟩ := h
  refine ⟨⟨by rw [hz, p1]; rfl, fun b cb hb => ?_⟩, fun q hq => ?_, ⟨Nat.le_trans hS.1 (by omega), fun q h1 h2 => (oq q (Nat.lt_of_lt_of_le h1 hS.1)).trans (hS.2.1 q h1 h2), hS.2.2⟩, hA⟩
  · by_cases e : b = S.2
    · subst e
      simp [hpush] at hb
      subst hb
      exact h1
    · simp [hpush, e] at hb
      exact (p2 b cb hb).kept (oq b ((p2 b cb hb).lt))
  · by_cases e : q = S.2
    · subst e
      exact hA _ (by rw [← p1]; exact hS.1)
    · simp [hpush, e] at hq
      exact hd q hq
theorem h_V.A {D : hD} {A : Nat → Prop} {s : State} {S : hS} {H : Heap} {locs : List Loc} (h : h_V D A s S H locs) : ∀ q, h_A S q → A q := by
  intro q hq
  rcases hq with hq | hq
  · exact h.2.1 q hq
  · exact h.2.2.2 q (Nat.le_trans h.2.2.1.1 (by rw [h.1.1]; exact hq))
/-! reads and writes of a world: none where the machine would throw (or a place isn't what it should be) -/
def vI : Value → Option Int32
  | .int x => some x
  | _ => none
def vR : Value → Option (Option Nat)
  | .null => some none
  | .ref a => some (some a)
  | _ => none
theorem vI_inv {v : Value} {x : Int32} (h : vI v = some x) : v = .int x := by
  cases v <;> simp [vI] at h
  subst h; rfl
theorem vR_inv {v : Value} {x : Option Nat} (h : vR v = some x) : v = va_rf x := by
  cases v <;> simp [vR] at h <;> subst h <;> rfl
/-- the cell at a reference, of a kind -/
def hc (S : hS) (k : Nat) (r : Option Nat) : Option (Nat × Nat × (Nat → Value)) := r.bind fun a => (S.1 a).bind fun c => if c.1 = k then some (a, c.2) else none
theorem hc_inv {S : hS} {k : Nat} {r : Option Nat} {a n : Nat} {V : Nat → Value} (h : hc S k r = some (a, n, V)) : r = some a ∧ S.1 a = some (k, n, V) := by
  unfold hc at h
  cases r with
  | none => cases h
  | some b =>
    simp only [Option.bind_some] at h
    cases hb : S.1 b with
    | none => rw [hb] at h; cases h
    | some c =>
      obtain ⟨c1, n', V'⟩ := c
      rw [hb] at h
      simp only [Option.bind_some] at h
      by_cases hk : c1 = k
      · rw [if_pos hk] at h
        cases h
        subst hk
        exact ⟨rfl, hb⟩
      · rw [if_neg hk] at h; cases h
def gI (S : hS) (k f : Nat) (r : Option Nat) : Option Int32 := (hc S k r).bind fun c => vI (c.2.2 f)
def gR (S : hS) (k f : Nat) (r : Option Nat) : Option (Option Nat) := (hc S k r).bind fun c => vR (c.2.2 f)
def pV (S : hS) (k f : Nat) (r : Option Nat) (v : Value) : Option hS := (hc S k r).bind fun c => some (hset S c.1 (k, c.2.1, updV c.2.2 f v))
def rcv (S : hS) (k : Nat) (r : Option Nat) : Option Nat := (hc S k r).bind fun c => some c.1
/-- the kind of a way of sorting -/
def hk4 (S : hS) (r : Option Nat) : Nat := match r with
  | none => 99
  | some a => match S.1 a with
    | none => 99
    | some c => if c.1 = 2 ∨ c.1 = 3 ∨ c.1 = 5 ∨ c.1 = 6 then c.1 else 99
def zz (x : Int32) : Option Int32 := if x = 0 ∨ x = 1 then some x else none
def aI (S : hS) (k : Nat) (r : Option Nat) (i : Int32) : Option Int32 := (hc S k r).bind fun c => if i < 0 ∨ c.2.1 ≤ i.toNatClampNeg then none else vI (c.2.2 i.toNatClampNeg)
def aR (S : hS) (r : Option Nat) (i : Int32) : Option (Option Nat) := (hc S 12 r).bind fun c => if i < 0 ∨ c.2.1 ≤ i.toNatClampNeg then none else vR (c.2.2 i.toNatClampNeg)
def aL (S : hS) (k : Nat) (r : Option Nat) : Option Int32 := (hc S k r).bind fun c => some (Int32.ofNat c.2.1)
def sV (S : hS) (k : Nat) (r : Option Nat) (i : Int32) (v : Value) : Option hS := (hc S k r).bind fun c => if i < 0 ∨ c.2.1 ≤ i.toNatClampNeg then none else some (hset S c.1 (k, c.2.1, updV c.2.2 i.toNatClampNeg v))
def sR (S : hS) (r : Option Nat) (i : Int32) (v : Option Nat) : Option hS := if v = none then sV S 12 r i .null else (rcv S 4 v).bind fun b => sV S 12 r i (.ref b)
def aC (S : hS) (r0 : Option Nat) (sp : Int32) (r1 : Option Nat) (dp n : Int32) : Option hS :=
  (hc S 10 r0).bind fun c0 => (hc S 10 r1).bind fun c1 => if sp < 0 ∨ dp < 0 ∨ n < 0 ∨ c0.2.1 < sp.toNatClampNeg + n.toNatClampNeg ∨ c1.2.1 < dp.toNatClampNeg + n.toNatClampNeg then none
    else if ∀ i, i < n.toNatClampNeg → (vI (c0.2.2 (sp.toNatClampNeg + i))).isSome = true then some (hset S c1.1 (10, c1.2.1, va_cpy c0.2.2 c1.2.2 sp.toNatClampNeg dp.toNatClampNeg n.toNatClampNeg)) else none
def hdf (k : Nat) : Nat → Value := match k with
  | 0 => fun j => defaultValue (tyX0 j)
  | 1 => fun j => defaultValue (tyX1 j)
  | 2 => fun j => defaultValue (tyX2 j)
  | 3 => fun j => defaultValue (tyX3 j)
  | 4 => fun j => defaultValue (tyX4 j)
  | 5 => fun j => defaultValue (tyX5 j)
  | 6 => fun j => defaultValue (tyX6 j)
  | 7 => fun j => defaultValue (tyX7 j)
  | 8 => fun j => defaultValue (tyX9 j)
  | _ => fun j => defaultValue (tyX10 j)
def hNf (k : Nat) : Nat := match k with
  | 0 => 2
  | 1 => 3
  | 2 => 7
  | 3 => 9
  | 4 => 11
  | 5 => 12
  | 6 => 10
  | 7 => 1
  | 8 => 6
  | _ => 32
def nO (S : hS) (k : Nat) : hS := hpush S (k, hNf k, hdf k)
def nA (S : hS) (k : Nat) (B : Nat) (n : Int32) (v : Value) : Option (Option Nat × hS) := if n < 0 ∨ B < n.toNatClampNeg then none else some (some S.2, hpush S (k, n.toNatClampNeg, fun _ => v))
def imx (x y : Int32) : Int32 := if x < y then y else x
def imn (x y : Int32) : Int32 := if y < x then y else x
theorem hbind {α β : Type} {x : Option α} {g : α → Option β} {z : β} (h : x.bind g = some z) : ∃ y, x = some y ∧ g y = some z := by
  cases x with
  | none => cases h
  | some y => exact ⟨y, rfl, h⟩
end
section
theorem gI_inv {S : hS} {k f : Nat} {r : Option Nat} {x : Int32} (h : gI S k f r = some x) : ∃ (a n : Nat) (V : Nat → Value), r = some a ∧ S.1 a = some (k, n, V) ∧ V f = .int x := by
  obtain ⟨⟨a, n, V⟩, h1, h2⟩ := hbind h
  obtain ⟨e1, e2⟩ := hc_inv h1
  exact ⟨a, n, V, e1, e2, vI_inv h2⟩
theorem gR_inv {S : hS} {k f : Nat} {r x : Option Nat} (h : gR S k f r = some x) : ∃ (a n : Nat) (V : Nat → Value), r = some a ∧ S.1 a = some (k, n, V) ∧ V f = va_rf x := by
  obtain ⟨⟨a, n, V⟩, h1, h2⟩ := hbind h
  obtain ⟨e1, e2⟩ := hc_inv h1
  exact ⟨a, n, V, e1, e2, vR_inv h2⟩
theorem pV_inv {S S1 : hS} {k f : Nat} {r : Option Nat} {v : Value} (h : pV S k f r v = some S1) : ∃ (a n : Nat) (V : Nat → Value), r = some a ∧ S.1 a = some (k, n, V) ∧ S1 = hset S a (k, n, updV V f v) := by
  obtain ⟨⟨a, n, V⟩, h1, h2⟩ := hbind h
  obtain ⟨e1, e2⟩ := hc_inv h1
  exact ⟨a, n, V, e1, e2, (Option.some.inj h2).symm⟩
theorem rcv_inv {S : hS} {k : Nat} {r : Option Nat} {b : Nat} (h : rcv S k r = some b) : ∃ (n : Nat) (V : Nat → Value), r = some b ∧ S.1 b = some (k, n, V) := by
  obtain ⟨⟨a, n, V⟩, h1, h2⟩ := hbind h
  obtain ⟨e1, e2⟩ := hc_inv h1
  cases h2
  exact ⟨n, V, e1, e2⟩
theorem hk4_inv {S : hS} {r : Option Nat} {k : Nat} (h : hk4 S r = k) (hk : k = 2 ∨ k = 3 ∨ k = 5 ∨ k = 6) : ∃ (b n : Nat) (V : Nat → Value), r = some b ∧ S.1 b = some (k, n, V) := by
  unfold hk4 at h
  cases r with
  | none => simp only at h; omega
  | some b =>
    simp only at h
    cases hb : S.1 b with
    | none => rw [hb] at h; simp only at h; omega
    | some c =>
      rw [hb] at h
      simp only at h
      split at h
      · obtain ⟨c1, n, V⟩ := c
        simp only at h
        subst h
        exact ⟨b, n, V, rfl, hb⟩
      · omega
theorem zz_inv {x y : Int32} (h : zz x = some y) : y = x ∧ (x = 0 ∨ x = 1) := by
  unfold zz at h
  split at h
  · rename_i c
    exact ⟨(Option.some.inj h).symm, c⟩
  · cases h
theorem zz_nar {x : Int32} (h : x = 0 ∨ x = 1) : narrow .boolean (.int x) = .int x := by
  rcases h with rfl | rfl <;> decide
theorem zz_fit {x : Int32} (h : x = 0 ∨ x = 1) : fits .boolean (.int x) = true := by
  rcases h with rfl | rfl <;> decide
/-- what a field's link says: its class, its slot -/
def h_fld (s : State) (args : Array Value) (own : String) (index ci k : Nat) (D : hD) : Prop := ∃ (r : vw_C) (ref name desc : String) (cf : Nat) (kf : Class) (fi : Nat) (f : Field), vwCl[ci]? = some r ∧ k < r.2.2 ∧ ((Cond.fieldLink own index ref name desc).before args s = true ∨ ∃ host, (Cond.fieldLinkNest own index ref name desc host).before args s = true) ∧ s.fieldFound? ref name desc = some (cf, kf, fi, f) ∧ f.isStatic = false ∧ f.slot = D.1.2 ci k
def h_fpt (s : State) (args : Array Value) (m : MethodId) (meth : Method) (own : String) (index ci k : Nat) (ty : FieldType) (D : hD) : Prop := ∃ (r : vw_C) (ref name desc : String) (cf : Nat) (kf : Class) (fi : Nat) (f : Field), vwCl[ci]? = some r ∧ k < r.2.2 ∧ ((Cond.fieldLink own index ref name desc).before args s = true ∨ ∃ host, (Cond.fieldLinkNest own index ref name desc host).before args s = true) ∧ s.fieldFound? ref name desc = some (cf, kf, fi, f) ∧ f.isStatic = false ∧ f.slot = D.1.2 ci k ∧ (hasFlag f.accessFlags Acc.final = false ∨ (m.cls = cf ∧ meth.name = "<init>")) ∧ (∀ v, narrow ty v = v → fits ty v = true → narrow f.type v = v ∧ s.fitsSlot (D.1.1 ci) .none f.slot v = true) ∧ (∀ x y, x < r.2.2 → y < r.2.2 → x ≠ y → D.1.2 ci x ≠ D.1.2 ci y)
theorem h_fld_of {s : State} {args : Array Value} {own ref C : String} {T : u_T} {N index ci : Nat} {D : hD} (hts : ∀ w ∈ hWs, w.before args s = true) (hK : h_K D s) (hc : vwCl[ci]? = some (C, T, N)) (hin : ∀ w ∈ u_ws C T N, w ∈ hWs) (k : Nat) (hk : k < N)
    (hlink : (Cond.fieldLink own index ref (T k).2.1 (T k).2.2.1).before args s = true ∨ ∃ host, (Cond.fieldLinkNest own index ref (T k).2.1 (T k).2.2.1 host).before args s = true) (hsame : ∀ x, s.fieldFound? (T k).1 (T k).2.1 (T k).2.2.1 = some x → s.fieldFound? ref (T k).2.1 (T k).2.2.1 = some x) : h_fld s args own index ci k D := by
  obtain ⟨hS, hfc, kC, hkC, hkind⟩ := hK.1.1 ci _ hc
  obtain ⟨cf, kf, fi, f, hi, hsl⟩ := hS k hk
  exact ⟨_, ref, _, _, cf, kf, fi, f, hc, hk, hlink, hsame _ hi, (u_facts hfc hkC (u_lays hts hin hk) hi).1, hsl⟩
theorem h_fpt_of {s : State} {args : Array Value} {m : MethodId} {meth : Method} {own ref C : String} {T : u_T} {N index ci : Nat} {D : hD} {ty0 : Nat → FieldType} (hts : ∀ w ∈ hWs, w.before args s = true) (hK : h_K D s) (hc : vwCl[ci]? = some (C, T, N)) (hin : ∀ w ∈ u_ws C T N, w ∈ hWs) (hty : ∀ k, k < N → parseFieldDescriptor (T k).2.2.1 = some (ty0 k)) (hnm : ∀ a, a < N → ∀ b, b < N → a ≠ b → (T a).2.1 ≠ (T b).2.1) (k : Nat) (hk : k < N)
    (hlink : (Cond.fieldLink own index ref (T k).2.1 (T k).2.2.1).before args s = true ∨ ∃ host, (Cond.fieldLinkNest own index ref (T k).2.1 (T k).2.2.1 host).before args s = true) (hsame : ∀ x, s.fieldFound? (T k).1 (T k).2.1 (T k).2.2.1 = some x → s.fieldFound? ref (T k).2.1 (T k).2.2.1 = some x) (hfin : (T k).2.2.2 = false) : h_fpt s args m meth own index ci k (ty0 k) D := by
  have hap := va_apart (own := own) hts hin ty0 hty hnm hK.1 hc
  obtain ⟨hS, hfc, kC, hkC, hkind⟩ := hK.1.1 ci _ hc
  obtain ⟨cf, kf, fi, f, hi, hsl⟩ := hS k hk
  have hlay := hts _ (hin _ (u_in_lay hk))
  unfold u_lay at hlay
  rw [if_neg (by rw [hfin]; decide)] at hlay
  obtain ⟨c', k', cf', kf', fi', fd', r1, r2, hi', hst, hfin', -⟩ := Cond.lays_spec hlay
  cases hi.symm.trans hi'
  exact ⟨_, ref, _, _, cf, kf, fi, f, hc, hk, hlink, hsame _ hi, (u_facts hfc hkC (u_lays hts hin hk) hi).1, hsl, Or.inl hfin', fun v h1 h2 => u_fits hfc hkC hkind (Or.inl hlay) hi (hty k hk) h1 h2, hap⟩
theorem h_fptF_of {s : State} {args : Array Value} {m : MethodId} {meth : Method} {own ref C : String} {T : u_T} {N index ci : Nat} {D : hD} {ty0 : Nat → FieldType} (hts : ∀ w ∈ hWs, w.before args s = true) (hK : h_K D s) (hown : s.vm.findClass own = some m.cls) (hin2 : meth.name = "<init>") (hc : vwCl[ci]? = some (C, T, N)) (hin : ∀ w ∈ u_ws C T N, w ∈ hWs) (hty : ∀ k, k < N → parseFieldDescriptor (T k).2.2.1 = some (ty0 k)) (hnm : ∀ a, a < N → ∀ b, b < N → a ≠ b → (T a).2.1 ≠ (T b).2.1) (k : Nat) (hk : k < N)
    (hlink : (Cond.fieldLink own index ref (T k).2.1 (T k).2.2.1).before args s = true ∨ ∃ host, (Cond.fieldLinkNest own index ref (T k).2.1 (T k).2.2.1 host).before args s = true) (hsame : ∀ x, s.fieldFound? (T k).1 (T k).2.1 (T k).2.2.1 = some x → s.fieldFound? ref (T k).2.1 (T k).2.2.1 = some x) (hfin : (T k).2.2.2 = true) (hdecl : (T k).1 = own) : h_fpt s args m meth own index ci k (ty0 k) D := by
  have hap := va_apart (own := own) hts hin ty0 hty hnm hK.1 hc
  obtain ⟨hS, hfc, kC, hkC, hkind⟩ := hK.1.1 ci _ hc
  obtain ⟨cf, kf, fi, f, hi, hsl⟩ := hS k hk
  have hlay := hts _ (hin _ (u_in_lay hk))
  unfold u_lay at hlay
  rw [if_pos hfin] at hlay
  have hcf : m.cls = cf := by
    obtain ⟨_, _, c', _, _, _, -, -, hf', -, -, -, hown2, -⟩ := Cond.laysFinal_spec hlay
    have e1 : c' = cf := by have := hi.symm.trans hf'; simp at this; exact this.1.symm
    rw [hdecl] at hown2
    rw [← e1]; exact Option.some.inj (hown.symm.trans hown2)
  exact ⟨_, ref, _, _, cf, kf, fi, f, hc, hk, hlink, hsame _ hi, (u_facts hfc hkC (u_lays hts hin hk) hi).1, hsl, Or.inr ⟨hcf, hin2⟩, fun v h1 h2 => u_fits hfc hkC hkind (Or.inr hlay) hi (hty k hk) h1 h2, hap⟩
def h_Pc (D : hD) (av : List Value) (S : hS) : Array Value → State → Prop := va_Pc av (fun U => h_P D S U.heap ∧ h_K D U)
def h_Q (D : hD) (A : Nat → Prop) (rv : Option Value) (S1 : hS) : Array Value → State → Outcome → State → Prop := fun _ st oc t => oc = .returned rv ∧ h_P D S1 t.heap ∧ (∀ q, S1.1 q ≠ none → A q) ∧ va_F A st t
theorem h_Pc.blind {D : hD} {av : List Value} {S : hS} : FrameBlind (h_Pc D av S) := fun _ _ _ _ q => ⟨q.1, q.2.1, q.2.2.call⟩
theorem h_V.entry {D : hD} {s : State} {S : hS} (hP : h_P D S s.heap) : h_V D (h_A S) s S s.heap [] := ⟨hP, fun _ h => Or.inl h, va_S.rf, fun q h => Or.inr (by rw [← hP.1]; exact h)⟩
section HROWS
variable {p : Program} {l : Launch} {e : Env} {R : Room} {s : State} {m : MethodId} {args : Array Value} {below : List Frame} {meth : Method} {c : Code} {H : Heap} {locs : List Loc} {cells slots : Nat} {Q : State → Prop}
variable {cc : ByteArray} {pc : Nat} {ls : Array Slot} {rest : List Value} {D : hD} {A : Nat → Prop} {S : hS}
theorem h_get (hx : p.tables.exec = Jvm.exec) (hb : c.code = cc) {own : String} {index ci k a n : Nat} {V : Nat → Value} (hown : s.vm.findClass own = some m.cls) (hf : h_fld s args own index ci k D) (hV : h_V D A s S H locs) (ha : S.1 a = some (ci, n, V)) (hdg : decode cc pc = .ok (.getfield index, 3))
    (kk : W p l e R s m args below meth c H locs cells slots Q (F0 m (pc + 3) ls (V k :: rest))) : W p l e R s m args below meth c H locs cells slots Q (F0 m pc ls (.ref a :: rest)) := by
  obtain ⟨r, ref, name, desc, cf, kf, fi, f, h1, h2, h3, h4, h5, h6⟩ := hf
  obtain ⟨cell, q1, q2, q3, q4⟩ := (hV.1.2 a _ ha).obj h1
  have hslot : cell.slots[f.slot]? = some (V k) := by rw [h6]; exact q4 k h2
  rcases h3 with h3 | ⟨host, h3⟩
  · exact W.getf hx hb hown h3 h4 h5 q1 (by rw [q3]; exact fun h => by cases h) hslot rfl rfl hdg kk
  · exact va_Wgetf hx hb hown h3 h4 h5 q1 (by rw [q3]; exact fun h => by cases h) hslot rfl rfl hdg kk
theorem h_gI (hx : p.tables.exec = Jvm.exec) (hb : c.code = cc) {own : String} {index ci k : Nat} {r : Option Nat} {x : Int32} (hown : s.vm.findClass own = some m.cls) (hV : h_V D A s S H locs) (hg : gI S ci k r = some x) (hf : h_fld s args own index ci k D) (hdg : decode cc pc = .ok (.getfield index, 3))
    (kk : W p l e R s m args below meth c H locs cells slots Q (F0 m (pc + 3) ls (.int x :: rest))) : W p l e R s m args below meth c H locs cells slots Q (F0 m pc ls (va_rf r :: rest)) := by
  obtain ⟨a, n, V, rfl, h2, h3⟩ := gI_inv hg
  refine h_get hx hb hown hf hV h2 hdg ?_
  rw [h3]; exact kk
theorem h_gR (hx : p.tables.exec = Jvm.exec) (hb : c.code = cc) {own : String} {index ci k : Nat} {r x : Option Nat} (hown : s.vm.findClass own = some m.cls) (hV : h_V D A s S H locs) (hg : gR S ci k r = some x) (hf : h_fld s args own index ci k D) (hdg : decode cc pc = .ok (.getfield index, 3))
    (kk : W p l e R s m args below meth c H locs cells slots Q (F0 m (pc + 3) ls (va_rf x :: rest))) : W p l e R s m args below meth c H locs cells slots Q (F0 m pc ls (va_rf r :: rest)) := by
  obtain ⟨a, n, V, rfl, h2, h3⟩ := gR_inv hg
  refine h_get hx hb hown hf hV h2 hdg ?_
  rw [h3]; exact kk
theorem h_put (hx : p.tables.exec = Jvm.exec) (hb : c.code = cc) {own : String} {index ci k : Nat} {r : Option Nat} {v : Value} {S1 : hS} {ty : FieldType} (hown : s.vm.findClass own = some m.cls) (hV : h_V D A s S H locs) (hg : pV S ci k r v = some S1) (hf : h_fpt s args m meth own index ci k ty D) (hn : narrow ty v = v) (hfit : fits ty v = true) (hdg : decode cc pc = .ok (.putfield index, 3))
    (kk : ∀ (H1 : Heap) (locs1 : List Loc), h_V D A s S1 H1 locs1 → W p l e R s m args below meth c H1 locs1 cells slots Q (F0 m (pc + 3) ls rest)) : W p l e R s m args below meth c H locs cells slots Q (F0 m pc ls (v :: va_rf r :: rest)) := by
  obtain ⟨a, n, V, rfl, h2, rfl⟩ := pV_inv hg
  obtain ⟨rr, ref, name, desc, cf, kf, fi, f, g1, g2, g3, g4, g5, g6, g7, g8, g9⟩ := hf
  obtain ⟨cell, q1, q2, q3, q4⟩ := (hV.1.2 a _ h2).obj g1
  have hlt : f.slot < cell.slots.size := by rw [g6]; exact k2_hasslot (q4 k g2)
  have hz := g8 v hn hfit
  have hal : a < H.size := (Array.getElem?_eq_some_iff.mp q1).1
  have key : ∀ H' : Heap, H'[a]? = some (cell.setSlot f.slot v) → H'.size = H.size → (∀ q, q ≠ a → H'[q]? = H[q]?) → W p l e R s m args below meth c H' (locs ++ [⟨a, f.slot⟩]) cells slots Q (F0 m (pc + 3) ls rest) := by
    intro H' e1 e2 e3
    rw [g6] at e1
    exact kk H' _ (hV.set h2 (Or.inl ⟨rr, g1, ⟨_, e1, q2, q3, t_set q4 g9 g2 v⟩⟩) e2 e3)
  have k1 := key (H.setIfInBounds a (cell.setSlot f.slot v)) (by simp [Array.getElem?_setIfInBounds, hal]) (by simp) (fun q hq => by simp [Array.getElem?_setIfInBounds, Ne.symm hq])
  rcases g3 with g3 | ⟨host, g3⟩
  · exact W.putf hx hb hown g3 g4 g5 g7 q1 (by rw [q3]; exact fun h => by cases h) hlt hz.1 (by rw [q3, q2]; exact hz.2) rfl rfl hdg k1
  · exact va_Wputf hx hb hown g3 g4 g5 g7 q1 (by rw [q3]; exact fun h => by cases h) hlt hz.1 (by rw [q3, q2]; exact hz.2) rfl rfl hdg k1
theorem hr_aload_n (hx : p.tables.exec = Jvm.exec) (hb : c.code = cc) {k : Fin 4} {i : Nat} {r : Option Nat} (hdg : decode cc pc = .ok (.aload_n k, 1)) (hi : (k : Nat) = i) (hl : ls[i]? = some (.val (va_rf r)))
    (kk : W p l e R s m args below meth c H locs cells slots Q (F0 m (pc + 1) ls (va_rf r :: rest))) : W p l e R s m args below meth c H locs cells slots Q (F0 m pc ls rest) := by
  cases r with
  | none => exact lv_aload_nN hx hb hdg hi hl kk
  | some a => exact lv_aload_n hx hb hdg hi hl kk
theorem hr_aload (hx : p.tables.exec = Jvm.exec) (hb : c.code = cc) {i : Nat} {r : Option Nat} (hdg : decode cc pc = .ok (.aload i, 2)) (hl : ls[i]? = some (.val (va_rf r)))
    (kk : W p l e R s m args below meth c H locs cells slots Q (F0 m (pc + 2) ls (va_rf r :: rest))) : W p l e R s m args below meth c H locs cells slots Q (F0 m pc ls rest) := by
  cases r with
  | none => exact lv_aloadN hx hb hdg hl kk
  | some a => exact lv_aload hx hb hdg hl kk
theorem hr_astore_n (hx : p.tables.exec = Jvm.exec) (hb : c.code = cc) {k : Fin 4} {i nL : Nat} {r : Option Nat} {lv lv' : List (Nat × Value)} (hdg : decode cc pc = .ok (.astore_n k, 1)) (hi : (k : Nat) = i) (h : lv_has ls nL lv) (hn : i < nL) (hl : (i, va_rf r) :: lv.filter (fun q => !(q.1 == i) && !(q.1 + 1 == i && q.2.category == 2)) = lv')
    (kk : ∀ ls' : Array Slot, lv_has ls' nL lv' → W p l e R s m args below meth c H locs cells slots Q (F0 m (pc + 1) ls' rest)) : W p l e R s m args below meth c H locs cells slots Q (F0 m pc ls (va_rf r :: rest)) := by
  cases r with
  | none => exact lv_astore_nN hx hb hdg hi h hn hl kk
  | some a => exact lv_astore_n hx hb hdg hi h hn hl kk
theorem hr_astore (hx : p.tables.exec = Jvm.exec) (hb : c.code = cc) {i nL : Nat} {r : Option Nat} {lv lv' : List (Nat × Value)} (hdg : decode cc pc = .ok (.astore i, 2)) (h : lv_has ls nL lv) (hn : i < nL) (hl : (i, va_rf r) :: lv.filter (fun q => !(q.1 == i) && !(q.1 + 1 == i && q.2.category == 2)) = lv')
    (kk : ∀ ls' : Array Slot, lv_has ls' nL lv' → W p l e R s m args below meth c H locs cells slots Q (F0 m (pc + 2) ls' rest)) : W p l e R s m args below meth c H locs cells slots Q (F0 m pc ls (va_rf r :: rest)) := by
  cases r with
  | none => exact lv_astoreN hx hb hdg h hn hl kk
  | some a => exact lv_astore hx hb hdg h hn hl kk
theorem hr_ifnull (hx : p.tables.exec = Jvm.exec) (hb : c.code = cc) {r : Option Nat} {off : Int} {tgt : Nat} (hdg : decode cc pc = .ok (.ifnull off, 3)) (ht : (pc : Int) + off = (tgt : Int)) (kt : r = none → W p l e R s m args below meth c H locs cells slots Q (F0 m tgt ls rest)) (kf : ¬ r = none → W p l e R s m args below meth c H locs cells slots Q (F0 m (pc + 3) ls rest)) : W p l e R s m args below meth c H locs cells slots Q (F0 m pc ls (va_rf r :: rest)) := by
  cases r with
  | none => exact lv_ifnullN hx hb hdg ht (kt rfl)
  | some a => exact lv_ifnull hx hb hdg (kf (fun h => by cases h))
theorem hr_ifnonnull (hx : p.tables.exec = Jvm.exec) (hb : c.code = cc) {r : Option Nat} {off : Int} {tgt : Nat} (hdg : decode cc pc = .ok (.ifnonnull off, 3)) (ht : (pc : Int) + off = (tgt : Int)) (kt : ¬ r = none → W p l e R s m args below meth c H locs cells slots Q (F0 m tgt ls rest)) (kf : r = none → W p l e R s m args below meth c H locs cells slots Q (F0 m (pc + 3) ls rest)) : W p l e R s m args below meth c H locs cells slots Q (F0 m pc ls (va_rf r :: rest)) := by
  cases r with
  | none => exact lv_ifnonnullN hx hb hdg (kf rfl)
  | some a => exact lv_ifnonnull hx hb hdg ht (kt (fun h => by cases h))
theorem hr_dup (hx : p.tables.exec = Jvm.exec) (hb : c.code = cc) {r : Option Nat} (hdg : decode cc pc = .ok (.dup, 1)) (k : W p l e R s m args below meth c H locs cells slots Q (F0 m (pc + 1) ls (va_rf r :: va_rf r :: rest))) : W p l e R s m args below meth c H locs cells slots Q (F0 m pc ls (va_rf r :: rest)) := by
  cases r <;> exact lv_dup hx hb hdg rfl k
theorem hr_dup2 (hx : p.tables.exec = Jvm.exec) (hb : c.code = cc) {r : Option Nat} {x : Int32} (hdg : decode cc pc = .ok (.dup2, 1)) (k : W p l e R s m args below meth c H locs cells slots Q (F0 m (pc + 1) ls (.int x :: va_rf r :: .int x :: va_rf r :: rest))) : W p l e R s m args below meth c H locs cells slots Q (F0 m pc ls (.int x :: va_rf r :: rest)) := by
  cases r <;> exact lv_dup2_11 hx hb hdg rfl rfl k
theorem h_iret {S0 : hS} {mc ms : Nat} {z : Int32 × hS} {v : Int32} (hx : p.tables.exec = Jvm.exec) (hb : c.code = cc) (hr : meth.sig.returnType = some .int) (hlk : meth.locks = false) (hV : h_V D (h_A S0) s S H locs) (h : some (v, S) = some z) (h1 : cells ≤ mc) (h2 : slots ≤ ms) (hdg : decode cc pc = .ok (.ireturn, 1)) : W p l e R s m args below meth c H locs cells slots (MQ below (h_Q D (h_A S0) (some (.int z.1)) z.2) args s mc ms (h_A S0)) (F0 m pc ls [.int v]) := by
  cases h
  exact W.widen h1 h2 (W.iret hx hb hr (fun t ht hW => ⟨rfl, by rw [ht]; exact hV.1, hV.2.1, hV.2.2.1.F ht⟩) hV.2.2.1.2.2 hdg hlk)
theorem h_zret {S0 : hS} {mc ms : Nat} {z : Int32 × hS} {v : Int32} (hx : p.tables.exec = Jvm.exec) (hb : c.code = cc) (hr : meth.sig.returnType = some .boolean) (hlk : meth.locks = false) (hV : h_V D (h_A S0) s S H locs) (h : (zz v).bind (fun v => some (v, S)) = some z) (h1 : cells ≤ mc) (h2 : slots ≤ ms) (hdg : decode cc pc = .ok (.ireturn, 1)) : W p l e R s m args below meth c H locs cells slots (MQ below (h_Q D (h_A S0) (some (.int z.1)) z.2) args s mc ms (h_A S0)) (F0 m pc ls [.int v]) := by
  obtain ⟨y, hy, h3⟩ := hbind h
  obtain ⟨e1, hz⟩ := zz_inv hy
  rw [e1] at h3
  cases h3
  exact W.widen h1 h2 (W.zret hx hb hr (zz_nar hz) (fun t ht hW => ⟨rfl, by rw [ht]; exact hV.1, hV.2.1, hV.2.2.1.F ht⟩) hV.2.2.1.2.2 hdg hlk)
theorem h_vret {S0 : hS} {mc ms : Nat} {z : Unit × hS} (hx : p.tables.exec = Jvm.exec) (hb : c.code = cc) (hr : meth.sig.returnType = none) (hlk : meth.locks = false) (hV : h_V D (h_A S0) s S H locs) (h : some ((), S) = some z) (h1 : cells ≤ mc) (h2 : slots ≤ ms) (hdg : decode cc pc = .ok (.return_, 1)) : W p l e R s m args below meth c H locs cells slots (MQ below (h_Q D (h_A S0) none z.2) args s mc ms (h_A S0)) (F0 m pc ls []) := by
  cases h
  exact W.widen h1 h2 (W.vret hx hb hr (fun t ht hW => ⟨rfl, by rw [ht]; exact hV.1, hV.2.1, hV.2.2.1.F ht⟩) hV.2.2.1.2.2 hdg hlk)
theorem h_aret {S0 : hS} {mc ms : Nat} {z : Option Nat × hS} {v : Option Nat} {n : String} (hx : p.tables.exec = Jvm.exec) (hb : c.code = cc) (hr : meth.sig.returnType = some (.object n)) (hlk : meth.locks = false) (hV : h_V D (h_A S0) s S H locs) (h : some (v, S) = some z) (h1 : cells ≤ mc) (h2 : slots ≤ ms) (hdg : decode cc pc = .ok (.areturn, 1)) : W p l e R s m args below meth c H locs cells slots (MQ below (h_Q D (h_A S0) (some (va_rf z.1)) z.2) args s mc ms (h_A S0)) (F0 m pc ls [va_rf v]) := by
  cases h
  exact W.widen h1 h2 (W.aret hx hb hr (Or.inl ⟨n, rfl⟩) (va_rf_or v) (fun t ht hW => ⟨rfl, by rw [ht]; exact hV.1, hV.2.1, hV.2.2.1.F ht⟩) hV.2.2.1.2.2 hdg hlk)
end HROWS
end
section
section HARR
variable {p : Program} {l : Launch} {e : Env} {R : Room} {s : State} {m : MethodId} {args : Array Value} {below : List Frame} {meth : Method} {c : Code} {H : Heap} {locs : List Loc} {cells slots : Nat} {Q : State → Prop}
variable {cc : ByteArray} {pc : Nat} {ls : Array Slot} {rest : List Value} {D : hD} {A : Nat → Prop} {S : hS}
theorem aI_inv {S : hS} {k : Nat} {r : Option Nat} {i x : Int32} (h : aI S k r i = some x) : ∃ (a n : Nat) (V : Nat → Value), r = some a ∧ S.1 a = some (k, n, V) ∧ ¬ (i < 0 ∨ n ≤ i.toNatClampNeg) ∧ V i.toNatClampNeg = .int x := by
  obtain ⟨⟨a, n, V⟩, h1, h2⟩ := hbind h
  obtain ⟨e1, e2⟩ := hc_inv h1
  simp only at h2
  split at h2
  · cases h2
  · rename_i hin
    exact ⟨a, n, V, e1, e2, hin, vI_inv h2⟩
theorem aR_inv {S : hS} {r : Option Nat} {i : Int32} {x : Option Nat} (h : aR S r i = some x) : ∃ (a n : Nat) (V : Nat → Value), r = some a ∧ S.1 a = some (12, n, V) ∧ ¬ (i < 0 ∨ n ≤ i.toNatClampNeg) ∧ V i.toNatClampNeg = va_rf x := by
  obtain ⟨⟨a, n, V⟩, h1, h2⟩ := hbind h
  obtain ⟨e1, e2⟩ := hc_inv h1
  simp only at h2
  split at h2
  · cases h2
  · rename_i hin
    exact ⟨a, n, V, e1, e2, hin, vR_inv h2⟩
theorem aL_inv {S : hS} {k : Nat} {r : Option Nat} {x : Int32} (h : aL S k r = some x) : ∃ (a n : Nat) (V : Nat → Value), r = some a ∧ S.1 a = some (k, n, V) ∧ x = Int32.ofNat n := by
  obtain ⟨⟨a, n, V⟩, h1, h2⟩ := hbind h
  obtain ⟨e1, e2⟩ := hc_inv h1
  exact ⟨a, n, V, e1, e2, (Option.some.inj h2).symm⟩
theorem sV_inv {S S1 : hS} {k : Nat} {r : Option Nat} {i : Int32} {v : Value} (h : sV S k r i v = some S1) : ∃ (a n : Nat) (V : Nat → Value), r = some a ∧ S.1 a = some (k, n, V) ∧ ¬ (i < 0 ∨ n ≤ i.toNatClampNeg) ∧ S1 = hset S a (k, n, updV V i.toNatClampNeg v) := by
  obtain ⟨⟨a, n, V⟩, h1, h2⟩ := hbind h
  obtain ⟨e1, e2⟩ := hc_inv h1
  simp only at h2
  split at h2
  · cases h2
  · rename_i hin
    exact ⟨a, n, V, e1, e2, hin, (Option.some.inj h2).symm⟩
theorem nA_inv {S : hS} {k B : Nat} {n : Int32} {v : Value} {z : Option Nat × hS} (h : nA S k B n v = some z) : ¬ n < 0 ∧ n.toNatClampNeg ≤ B ∧ z = (some S.2, hpush S (k, n.toNatClampNeg, fun _ => v)) := by
  unfold nA at h
  split at h
  · cases h
  · rename_i hc
    exact ⟨fun z => hc (Or.inl z), Nat.not_lt.mp (fun z => hc (Or.inr z)), (Option.some.inj h).symm⟩
theorem h_iald (hx : p.tables.exec = Jvm.exec) (hb : c.code = cc) (hK : h_K D s) {r : Option Nat} {i x : Int32} (hV : h_V D A s S H locs) (hg : aI S 10 r i = some x) (hdg : decode cc pc = .ok (.iaload, 1))
    (kk : W p l e R s m args below meth c H locs cells slots Q (F0 m (pc + 1) ls (.int x :: rest))) : W p l e R s m args below meth c H locs cells slots Q (F0 m pc ls (.int i :: va_rf r :: rest)) := by
  obtain ⟨a, n, V, rfl, h2, h3, h4⟩ := aI_inv hg
  have hlt : i.toNatClampNeg < n := Nat.not_le.mp fun q => h3 (Or.inr q)
  have hc := (hV.1.2 a _ h2).arr (q := (D.2.1, .int)) (by decide) rfl
  exact W.iald (v := .int x) hx hb hc ((hK.1.2 0 _ rfl).1 n V) (fun q => by cases q) (by rw [arrV_size]; exact h3) (by rw [arrV_read _ _ hlt, h4]) rfl rfl hdg kk
theorem h_zald (hx : p.tables.exec = Jvm.exec) (hb : c.code = cc) (hK : h_K D s) {r : Option Nat} {i x : Int32} (hV : h_V D A s S H locs) (hg : aI S 11 r i = some x) (hdg : decode cc pc = .ok (.baload, 1))
    (kk : W p l e R s m args below meth c H locs cells slots Q (F0 m (pc + 1) ls (.int x :: rest))) : W p l e R s m args below meth c H locs cells slots Q (F0 m pc ls (.int i :: va_rf r :: rest)) := by
  obtain ⟨a, n, V, rfl, h2, h3, h4⟩ := aI_inv hg
  have hlt : i.toNatClampNeg < n := Nat.not_le.mp fun q => h3 (Or.inr q)
  have hc := (hV.1.2 a _ h2).arr (q := (D.2.2.1, .boolean)) (by decide) rfl
  exact W.zald (v := .int x) hx hb hc ((hK.1.2 1 _ rfl).1 n V) (fun q => by cases q) (by rw [arrV_size]; exact h3) (by rw [arrV_read _ _ hlt, h4]) rfl rfl hdg kk
theorem h_aald (hx : p.tables.exec = Jvm.exec) (hb : c.code = cc) (hK : h_K D s) {r x : Option Nat} {i : Int32} (hV : h_V D A s S H locs) (hg : aR S r i = some x) (hdg : decode cc pc = .ok (.aaload, 1))
    (kk : W p l e R s m args below meth c H locs cells slots Q (F0 m (pc + 1) ls (va_rf x :: rest))) : W p l e R s m args below meth c H locs cells slots Q (F0 m pc ls (.int i :: va_rf r :: rest)) := by
  obtain ⟨a, n, V, rfl, h2, h3, h4⟩ := aR_inv hg
  have hlt : i.toNatClampNeg < n := Nat.not_le.mp fun q => h3 (Or.inr q)
  have hc := (hV.1.2 a _ h2).arr (q := (D.2.2.2, .object RX4)) (by decide) rfl
  exact W.aald (v := va_rf x) (ty := .object RX4) hx hb hc ((hK.1.2 2 _ rfl).1 n V) rfl (fun q => by cases q) (by rw [arrV_size]; exact h3) (by rw [arrV_read _ _ hlt, h4]) rfl rfl hdg kk
theorem h_alen (hx : p.tables.exec = Jvm.exec) (hb : c.code = cc) (hK : h_K D s) {k : Nat} {r : Option Nat} {x : Int32} (hV : h_V D A s S H locs) (hk : k = 10 ∨ k = 11 ∨ k = 12) (hg : aL S k r = some x) (hdg : decode cc pc = .ok (.arraylength, 1))
    (kk : W p l e R s m args below meth c H locs cells slots Q (F0 m (pc + 1) ls (.int x :: rest))) : W p l e R s m args below meth c H locs cells slots Q (F0 m pc ls (va_rf r :: rest)) := by
  obtain ⟨a, n, V, rfl, h2, rfl⟩ := aL_inv hg
  rcases hk with rfl | rfl | rfl
  · exact W.alen hx hb ((hV.1.2 a _ h2).arr (q := (D.2.1, .int)) (by decide) rfl) ((hK.1.2 0 _ rfl).1 n V) (by rw [arrV_size]) rfl rfl hdg kk
  · exact W.alen hx hb ((hV.1.2 a _ h2).arr (q := (D.2.2.1, .boolean)) (by decide) rfl) ((hK.1.2 1 _ rfl).1 n V) (by rw [arrV_size]) rfl rfl hdg kk
  · exact W.alen hx hb ((hV.1.2 a _ h2).arr (q := (D.2.2.2, .object RX4)) (by decide) rfl) ((hK.1.2 2 _ rfl).1 n V) (by rw [arrV_size]) rfl rfl hdg kk
theorem h_iast (hx : p.tables.exec = Jvm.exec) (hb : c.code = cc) (hK : h_K D s) {r : Option Nat} {i x : Int32} {S1 : hS} (hV : h_V D A s S H locs) (hg : sV S 10 r i (.int x) = some S1) (hdg : decode cc pc = .ok (.iastore, 1))
    (kk : ∀ (H1 : Heap) (locs1 : List Loc), h_V D A s S1 H1 locs1 → W p l e R s m args below meth c H1 locs1 cells slots Q (F0 m (pc + 1) ls rest)) : W p l e R s m args below meth c H locs cells slots Q (F0 m pc ls (.int x :: .int i :: va_rf r :: rest)) := by
  obtain ⟨a, n, V, rfl, h2, h3, rfl⟩ := sV_inv hg
  have hc := (hV.1.2 a _ h2).arr (q := (D.2.1, .int)) (by decide) rfl
  refine W.iast hx hb hc ((hK.1.2 0 _ rfl).1 n V) (fun q => by cases q) (by rw [arrV_size]; exact h3) rfl rfl hdg fun H1 e1 z oq => ?_
  exact kk H1 _ (hV.set h2 (Or.inr ⟨_, Nat.le_of_ble_eq_true rfl, rfl, by rw [e1, arrV_store]⟩) z oq)
theorem h_zast (hx : p.tables.exec = Jvm.exec) (hb : c.code = cc) (hK : h_K D s) {r : Option Nat} {i x : Int32} {S1 : hS} (hV : h_V D A s S H locs) (hz : x = 0 ∨ x = 1) (hg : sV S 11 r i (.int x) = some S1) (hdg : decode cc pc = .ok (.bastore, 1))
    (kk : ∀ (H1 : Heap) (locs1 : List Loc), h_V D A s S1 H1 locs1 → W p l e R s m args below meth c H1 locs1 cells slots Q (F0 m (pc + 1) ls rest)) : W p l e R s m args below meth c H locs cells slots Q (F0 m pc ls (.int x :: .int i :: va_rf r :: rest)) := by
  obtain ⟨a, n, V, rfl, h2, h3, rfl⟩ := sV_inv hg
  have hc := (hV.1.2 a _ h2).arr (q := (D.2.2.1, .boolean)) (by decide) rfl
  refine W.zast hx hb hc ((hK.1.2 1 _ rfl).1 n V) (fun q => by cases q) (by rw [arrV_size]; exact h3) rfl rfl hdg fun H1 e1 z oq => ?_
  rw [zz_nar hz] at e1
  exact kk H1 _ (hV.set h2 (Or.inr ⟨_, Nat.le_of_ble_eq_true rfl, rfl, by rw [e1, arrV_store]⟩) z oq)
theorem h_aast (hx : p.tables.exec = Jvm.exec) (hb : c.code = cc) (hK : h_K D s) {r v : Option Nat} {i : Int32} {S1 : hS} (hV : h_V D A s S H locs) (hg : sR S r i v = some S1) (hdg : decode cc pc = .ok (.aastore, 1))
    (kk : ∀ (H1 : Heap) (locs1 : List Loc), h_V D A s S1 H1 locs1 → W p l e R s m args below meth c H1 locs1 cells slots Q (F0 m (pc + 1) ls rest)) : W p l e R s m args below meth c H locs cells slots Q (F0 m pc ls (va_rf v :: .int i :: va_rf r :: rest)) := by
  unfold sR at hg
  split at hg
  · rename_i hv
    subst hv
    obtain ⟨a, n, V, rfl, h2, h3, rfl⟩ := sV_inv hg
    have hc := (hV.1.2 a _ h2).arr (q := (D.2.2.2, .object RX4)) (by decide) rfl
    refine va_WaastN (C := RX4) hx hb hc ((hK.1.2 2 _ rfl).1 n V) (fun q => by cases q) (by rw [arrV_size]; exact h3) rfl rfl hdg fun H1 e1 z oq => ?_
    exact kk H1 _ (hV.set h2 (Or.inr ⟨_, Nat.le_of_ble_eq_true rfl, rfl, by rw [e1, arrV_store]⟩) z oq)
  · obtain ⟨b, hb1, hg2⟩ := hbind hg
    clear hg
    obtain ⟨n', V', rfl, hb2⟩ := rcv_inv hb1
    obtain ⟨a, n, V, rfl, h2, h3, rfl⟩ := sV_inv hg2
    have hlt : i.toNatClampNeg < n := Nat.not_le.mp fun q => h3 (Or.inr q)
    have h0 : ¬ i < 0 := fun q => h3 (Or.inl q)
    have hc := (hV.1.2 a _ h2).arr (q := (D.2.2.2, .object RX4)) (by decide) rfl
    obtain ⟨cellV, g1, g2, g3, -⟩ := (hV.1.2 b _ hb2).obj (r := (RX4, TX4, 11)) rfl
    have hcls := (hK.1.1 4 (RX4, TX4, 11) rfl).2
    obtain ⟨kA, comp, k1, k2, k3, -⟩ := (hK.1.2 2 _ rfl).2
    have hcomp : comp = D.1.1 4 := Option.some.inj (k3.symm.trans hcls.1)
    subst hcomp
    obtain ⟨kC, hkC, -⟩ := hcls.2
    refine W.aast hx hb hc (fun q h => by cases h) (fun h => by cases h) k1 k2 rfl hkC ⟨h0, by rw [arrV_size]; exact hlt⟩ g1 (fun q h => by rw [g3] at h; cases h) (by rw [g2]; exact hkC) (by rw [g2]; exact va_assign hcls) rfl rfl hdg fun H1 e1 z oq => ?_
    exact kk H1 _ (hV.set h2 (Or.inr ⟨_, Nat.le_of_ble_eq_true rfl, rfl, by rw [e1, arrV_store]⟩) z oq)
theorem h_newa {atype : ArrayType} {k B : Nat} {q : ClassId × FieldType} (hx : p.tables.exec = Jvm.exec) (hb : c.code = cc) (hK : h_K D s) (harr : (Cond.arrayClass (newarray.typeOf atype)).before args s = true) (hq : q.2 = newarray.typeOf atype) (hk : 10 ≤ k) (ht : (h_tys D)[k - 10]? = some q) (hra : va_RA s q.1 (newarray.typeOf atype) → s.vm.findClass ("[" ++ (newarray.typeOf atype).toString) = some q.1)
    {n : Int32} {z : Option Nat × hS} (hV : h_V D A s S H locs) (hg : nA S k B n (defaultValue (newarray.typeOf atype)) = some z) (hbytes : B * componentBytes (newarray.typeOf atype) ≤ 536870912) (hcells : cells + 1 ≤ R.cells) (hslots : slots + B ≤ R.slots) (hdg : decode cc pc = .ok (.newarray atype, 2))
    (kk : ∀ (H1 : Heap), h_V D A s z.2 H1 locs → W p l e R s m args below meth c H1 locs (cells + 1) (slots + B) Q (F0 m (pc + 2) ls (va_rf z.1 :: rest))) : W p l e R s m args below meth c H locs cells slots Q (F0 m pc ls (.int n :: rest)) := by
  obtain ⟨hn, hB, rfl⟩ := nA_inv hg
  obtain ⟨q1, q2⟩ := q
  simp only at hq
  subst hq
  refine va_newaK hx hb harr rfl hdg rfl hn rfl (Nat.le_trans (Nat.mul_le_mul_right _ hB) hbytes) hcells (by omega) hV.1.1 fun H1 cA e1 z1 o1 hAr hNm => ?_
  have hcA : cA = q1 := by
    have h := hra (hK.1.2 (k - 10) _ ht).2
    exact Option.some.inj (hNm.symm.trans h)
  subst hcA
  refine W.widen (k := cells + 1) (n := slots + B) (Nat.le_refl _) (by omega) ?_
  exact kk H1 (hV.push (Or.inr ⟨_, hk, ht, e1⟩) (by rw [z1, hV.1.1]) (fun q hq => o1 q (by rw [← hV.1.1]; exact hq)))
theorem h_newq {B : Nat} {own : String} {index : Nat} (hx : p.tables.exec = Jvm.exec) (hb : c.code = cc) (hK : h_K D s) (hown : s.vm.findClass own = some m.cls) (hcl : (Cond.classLink own index RX4).before args s = true) (hover : va_AO RX4 s)
    {n : Int32} {z : Option Nat × hS} (hV : h_V D A s S H locs) (hg : nA S 12 B n .null = some z) (hbytes : B * 4 ≤ 536870912) (hcells : cells + 1 ≤ R.cells) (hslots : slots + B ≤ R.slots) (hdg : decode cc pc = .ok (.anewarray index, 3))
    (kk : ∀ (H1 : Heap), h_V D A s z.2 H1 locs → W p l e R s m args below meth c H1 locs (cells + 1) (slots + B) Q (F0 m (pc + 3) ls (va_rf z.1 :: rest))) : W p l e R s m args below meth c H locs cells slots Q (F0 m pc ls (.int n :: rest)) := by
  obtain ⟨hn, hB, rfl⟩ := nA_inv hg
  refine W.anew hx hb hown hcl (va_AO.use hover) rfl hdg rfl hn (Nat.le_trans (Nat.mul_le_mul_right _ hB) hbytes) hcells (by omega) fun cA kA comp f1 f2 f3 f4 => ?_
  generalize hH1 : H.push ({ cls := cA, slots := Array.replicate n.toNatClampNeg .null, vm := .none } : Cell) = H1
  have z1 : H1.size = H.size + 1 := by rw [← hH1, Array.size_push]
  have e1 : H1[H.size]? = some (arrV cA n.toNatClampNeg (fun _ => .null)) := by rw [← hH1, Array.getElem?_push_size, ← arrV_new]
  have o1 : ∀ q : Nat, q < H.size → H1[q]? = H[q]? := fun q hq => by rw [← hH1, Array.getElem?_push, if_neg (Nat.ne_of_lt hq)]
  obtain ⟨kA', comp', k1, k2, k3, k4⟩ := (hK.1.2 2 _ rfl).2
  have hcA : cA = D.2.2.2 := Option.some.inj (f1.symm.trans k4)
  subst hcA
  rw [hV.1.1] at e1
  refine W.widen (k := cells + 1) (n := slots + B) (Nat.le_refl _) (by omega) ?_
  rw [hV.1.1]
  exact kk H1 (hV.push (Or.inr ⟨(D.2.2.2, .object RX4), Nat.le_of_ble_eq_true rfl, rfl, e1⟩) z1 o1)
theorem h_new {own C : String} {T : u_T} {N ci index : Nat} {ty : Nat → FieldType} (hx : p.tables.exec = Jvm.exec) (hb : c.code = cc) (hts : ∀ w ∈ hWs, w.before args s = true) (hK : h_K D s) (hin : ∀ w ∈ u_ws C T N, w ∈ hWs) (hty : ∀ k, k < N → parseFieldDescriptor (T k).2.2.1 = some (ty k)) (hown : s.vm.findClass own = some m.cls) (hcl : (Cond.classLink own index C).before args s = true) (hinst : (Cond.instantiable C N).before args s = true) (hini : (Cond.initialized C).before args s = true)
    (hc : vwCl[ci]? = some (C, T, N)) (hdf1 : hdf ci = fun j => defaultValue (ty j)) (hV : h_V D A s S H locs) (hcells : cells + 1 ≤ R.cells) (hslots : slots + N ≤ R.slots) (hdg : decode cc pc = .ok (.new index, 3))
    (kk : ∀ (H1 : Heap), h_V D A s (nO S ci) H1 locs → W p l e R s m args below meth c H1 locs (cells + 1) (slots + N) Q (F0 m (pc + 3) ls (va_rf (some S.2) :: rest))) : W p l e R s m args below meth c H locs cells slots Q (F0 m pc ls rest) := by
  have hKn := hK.1.1 ci _ hc
  refine W.newcK hx hb hown hcl hinst hini rfl hdg hcells hslots hKn.2.1 hV.1.1 fun H1 kC hkC e1 z1 o1 => ?_
  refine kk H1 (hV.push (Or.inl ⟨_, hc, ?_⟩) (by rw [z1, hV.1.1]) (fun q hq => o1 q (by rw [← hV.1.1]; exact hq)))
  show t_OB S.2 (D.1.1 ci) N (D.1.2 ci) H1 (hdf ci)
  rw [hdf1]
  exact u_born ty hts hin hKn hkC e1 hty
end HARR
section HCALL
variable {p : Program} {l : Launch} {e : Env} {R : Room} {s : State} {m : MethodId} {args : Array Value} {below : List Frame} {meth : Method} {c : Code} {H : Heap} {locs : List Loc} {cells slots : Nat} {Q : State → Prop}
variable {pc : Nat} {ls : Array Slot} {rest st0 : List Value} {D : hD} {A : Nat → Prop} {S S1 : hS} {rv : Option Value} {a : Array Value} {mc ms : Nat}
theorem h_after (hV : h_V D A s S H locs) (hr : va_Run p l e R s m args below meth c H locs cells slots mc ms (F0 m pc ls st0) rest (h_Q D (h_A S) rv S1 a) (h_A S))
    (kk : ∀ (H1 : Heap) (locs1 : List Loc), h_V D A s S1 H1 locs1 → W p l e R s m args below meth c H1 locs1 (cells + mc) (slots + ms) Q (F0 m (pc + 3) ls (rv.toList ++ rest))) : W p l e R s m args below meth c H locs cells slots Q (F0 m pc ls st0) := by
  intro T hT X
  obtain ⟨v, st₀, t, T', L, h0, X', hL, e1, e2, ⟨hv, hP1, hD1, hz, hk⟩, st⟩ := hr T hT X
  cases hv
  rw [h0] at hz hk
  have hA := hV.A
  obtain ⟨⟨p1, p2⟩, hd, hS, hA0⟩ := hV
  obtain ⟨t2, a1, b1⟩ := kk t.heap (locs ++ L) ⟨hP1, fun q hq => hA q (hD1 q hq), ⟨Nat.le_trans hS.1 hz, fun q h1 h2 => by rw [hk q (Nat.lt_of_lt_of_le h1 hS.1) (fun z => h2 (hA q z))]; exact hS.2.1 q h1 h2, fun q hq => by
      rcases List.mem_append.mp hq with h | h
      · exact hS.2.2 q h
      · exact hA _ (hL q h)⟩, hA0⟩ T' e1 X'
  exact ⟨t2, st t2 a1, b1⟩
theorem h_preS {As : List Value} (hK : h_K D s) (hP : h_P D S H) : PreS s H (h_Pc D As S) As := ⟨h_Pc.blind, fun U hU hW => ⟨rfl, by rw [hU]; exact hP, hK.warm hW⟩⟩
theorem h_preV {As : List Value} {b ci n : Nat} {V : Nat → Value} {q : vw_C} (hK : h_K D s) (hP : h_P D S H) (hb : S.1 b = some (ci, n, V)) (hc : vwCl[ci]? = some q) : PreV s H q.1 b (h_Pc D (.ref b :: As) S) As := by
  refine ⟨h_Pc.blind, ?_, fun U hU hW => ⟨rfl, by rw [hU]; exact hP, hK.warm hW⟩⟩
  obtain ⟨cell, g1, g2, g3, -⟩ := (hP.2 b _ hb).obj hc
  exact ⟨cell, g1, by rw [g3]; rfl, by rw [g2]; exact (hK.1.1 ci q hc).2.1⟩
end HCALL
section HRUN
variable {p : Program} {l : Launch} {e : Env} {R : Room} {s : State} {m : MethodId} {args : Array Value} {below : List Frame} {meth : Method} {c : Code} {H : Heap} {locs : List Loc} {cells slots : Nat} {Q : State → Prop}
variable {pc : Nat} {ls : Array Slot} {rest : List Value} {D : hD} {A : Nat → Prop} {S S1 : hS} {rv : Option Value} {mc ms : Nat} {cc : ByteArray} {nL : Nat} {own : String}
variable {y0 : MethodName} {c0 : ByteArray} {n0 : Nat} {r0 : Option FieldType} {y : MethodName} {bytes : ByteArray} {maxL n index : Nat} {ret : Option FieldType} {rm : Room} {As : List Value}
abbrev hM (l : Launch) (D : hD) (y : MethodName) (bytes : ByteArray) (maxL : Nat) (ret : Option FieldType) (fr lo mc ms : Nat) (av : List Value) (S : hS) (rv : Option Value) (S1 : hS) : Prop := Met l y (hWy y bytes maxL ret) { frames := fr, cells := mc, slots := ms, locals := lo } (h_Pc D av S) (h_Q D (h_A S) rv S1) mc ms (h_A S)
abbrev hFix (p : Program) (m : MethodId) (c : Code) (cc : ByteArray) (nL : Nat) (s : State) (args : Array Value) (own : String) : Prop := ∃ (y0 : MethodName) (c0 : ByteArray) (n0 : Nat) (r0 : Option FieldType), CallFix p m c cc nL s args (hWy y0 c0 n0 r0) own
theorem hFix.ts (F : hFix p m c cc nL s args own) : ∀ w ∈ hWs, w.before args s = true := by
  obtain ⟨y0, c0, n0, r0, -, -, -, -, h⟩ := F
  exact fun w hw => h w (List.mem_cons_of_mem _ hw)
abbrev hDesc (y : MethodName) (n : Nat) : Prop := y.cls ≠ "java/lang/invoke/MethodHandle" ∧ y.cls ≠ "java/lang/invoke/VarHandle" ∧ (parseMethodDescriptor y.desc).map (fun d => d.parameters.length) = some n
abbrev hRoom (R : Room) (fr maxL lo : Nat) : Prop := fr + 1 ≤ R.frames ∧ 8 + (maxL + 11) + lo ≤ R.locals
variable {fr lo : Nat}
theorem h_len (hd : (parseMethodDescriptor y.desc).map (fun d => d.parameters.length) = some n) : ∀ sig, parseMethodDescriptor y.desc = some sig → n = sig.parameters.length := by
  intro sig h
  rw [h] at hd
  exact (Option.some.inj hd).symm
/-- a call of a method of the own class, by its object -/
theorem h_callV {b ci k : Nat} {V : Nat → Value} {q : vw_C} (F : hFix p m c cc nL s args own) (hK : h_K D s) (hV : h_V D A s S H locs) (hb : S.1 b = some (ci, k, V)) (hc : vwCl[ci]? = some q) (hyq : y.cls = q.1)
    (w1 : Cond.code y bytes maxL ret ∈ hWs) (w2 : Cond.methodLink own index y ∈ hWs) (w3 : Cond.instanceMethod y ∈ hWs) (w4 : Cond.selects q.1 y y ∈ hWs) (w5 : Cond.initialized y.cls ∈ hWs) (hd : hDesc y n) (hR : hRoom R fr maxL lo) (hn : As.length = n) (hsz : ls.size = nL) (hW : (rest.map fun v => v.category).sum ≤ 8) (hdg : decode cc pc = .ok (.invokevirtual index, 3)) (hf : cells + mc ≤ R.cells ∧ slots + ms ≤ R.slots)
    {st0 st1 : List Value} (hs1 : rv.toList ++ rest = st1) (hst : st0 = As.reverse ++ .ref b :: rest) (hMt : hM l D y bytes maxL ret fr lo mc ms (.ref b :: As) S rv S1)
    (kk : ∀ (H1 : Heap) (locs1 : List Loc), h_V D A s S1 H1 locs1 → W p l e R s m args below meth c H1 locs1 (cells + mc) (slots + ms) Q (F0 m (pc + 3) ls st1)) : W p l e R s m args below meth c H locs cells slots Q (F0 m pc ls st0) := by
  subst hs1
  have hts := F.ts
  obtain ⟨y0, c0, n0, r0, Fx⟩ := F
  refine h_after hV (va_runV (As := As) (rest := rest) Fx hMt (C := q.1) (n := n) ⟨⟨rfl, rfl, hR.1, hR.2, pay_in Fx.2.2.2.2 (hWy_good w1), List.mem_cons_self, hts _ w1, hts _ w5, ⟨hd.1, hd.2.1⟩, h_len hd.2.2, hts _ w2⟩, hts _ w3, hts _ w4⟩ (h_preV hK hV.1 hb hc) rfl hn hsz hst (lv_room hW) hdg hf) kk
theorem h_callVN {b ci k : Nat} {V : Nat → Value} {q : vw_C} {host : String} (F : hFix p m c cc nL s args own) (hK : h_K D s) (hV : h_V D A s S H locs) (hb : S.1 b = some (ci, k, V)) (hc : vwCl[ci]? = some q) (hyq : y.cls = q.1)
    (w1 : Cond.code y bytes maxL ret ∈ hWs) (w2 : va_Nw (.methodLinkNest own index y host) s) (w3 : Cond.instanceMethod y ∈ hWs) (w4 : Cond.selects q.1 y y ∈ hWs) (w5 : Cond.initialized y.cls ∈ hWs) (hd : hDesc y n) (hR : hRoom R fr maxL lo) (hn : As.length = n) (hsz : ls.size = nL) (hW : (rest.map fun v => v.category).sum ≤ 8) (hdg : decode cc pc = .ok (.invokevirtual index, 3)) (hf : cells + mc ≤ R.cells ∧ slots + ms ≤ R.slots)
    {st0 st1 : List Value} (hs1 : rv.toList ++ rest = st1) (hst : st0 = As.reverse ++ .ref b :: rest) (hMt : hM l D y bytes maxL ret fr lo mc ms (.ref b :: As) S rv S1)
    (kk : ∀ (H1 : Heap) (locs1 : List Loc), h_V D A s S1 H1 locs1 → W p l e R s m args below meth c H1 locs1 (cells + mc) (slots + ms) Q (F0 m (pc + 3) ls st1)) : W p l e R s m args below meth c H locs cells slots Q (F0 m pc ls st0) := by
  subst hs1
  have hts := F.ts
  obtain ⟨y0, c0, n0, r0, Fx⟩ := F
  refine h_after hV (va_runVN (As := As) (rest := rest) Fx hMt (C := q.1) (n := n) ⟨va_cnB n Fx.2.2.2.2 (hWy_good w1) rfl rfl rfl w2 (hts _ w5) hd hR, hts _ w3, hts _ w4⟩ (h_preV hK hV.1 hb hc) rfl hn hsz hst (lv_room hW) hdg hf) kk
/-- a call of an inherited method (y = owner's), or of one that is abstract at its owner -/
theorem h_callU {b ci k : Nat} {V : Nat → Value} {q : vw_C} {owner : String} {x : MethodName} (F : hFix p m c cc nL s args own) (hK : h_K D s) (hV : h_V D A s S H locs) (hb : S.1 b = some (ci, k, V)) (hc : vwCl[ci]? = some q)
    (w1 : Cond.code y bytes maxL ret ∈ hWs) (w2 : Cond.methodLink own index x ∈ hWs) (w3 : Cond.instanceMethod y ∈ hWs) (w4 : Cond.selects q.1 x y ∈ hWs) (w5 : Cond.initialized y.cls ∈ hWs) (w6 : Cond.sameMethod x.cls owner x.name x.desc ∈ hWs) (w7 : va_Decl s ⟨owner, x.name, x.desc⟩) (ho : owner ≠ "java/lang/invoke/MethodHandle" ∧ owner ≠ "java/lang/invoke/VarHandle") (hd : hDesc x n) (hR : hRoom R fr maxL lo) (hn : As.length = n) (hsz : ls.size = nL) (hW : (rest.map fun v => v.category).sum ≤ 8) (hdg : decode cc pc = .ok (.invokevirtual index, 3)) (hf : cells + mc ≤ R.cells ∧ slots + ms ≤ R.slots)
    {st0 st1 : List Value} (hs1 : rv.toList ++ rest = st1) (hst : st0 = As.reverse ++ .ref b :: rest) (hMt : hM l D y bytes maxL ret fr lo mc ms (.ref b :: As) S rv S1)
    (kk : ∀ (H1 : Heap) (locs1 : List Loc), h_V D A s S1 H1 locs1 → W p l e R s m args below meth c H1 locs1 (cells + mc) (slots + ms) Q (F0 m (pc + 3) ls st1)) : W p l e R s m args below meth c H locs cells slots Q (F0 m pc ls st0) := by
  subst hs1
  have hts := F.ts
  obtain ⟨y0, c0, n0, r0, Fx⟩ := F
  refine h_after hV (va_runU (As := As) (rest := rest) Fx hMt (C := q.1) (owner := owner) (x := x) (n := n) ⟨⟨rfl, rfl, hR.1, hR.2, pay_in Fx.2.2.2.2 (hWy_good w1), List.mem_cons_self⟩, hts _ w1, hts _ w5, ho, h_len hd.2.2, hts _ w2, hts _ w6, w7, hts _ w4, hts _ w3⟩ (h_preV hK hV.1 hb hc) rfl hn hsz hst (lv_room hW) hdg hf) kk
theorem h_callS (F : hFix p m c cc nL s args own) (hK : h_K D s) (hV : h_V D A s S H locs)
    (w1 : Cond.code y bytes maxL ret ∈ hWs) (w2 : Cond.methodLink own index y ∈ hWs) (w3 : Cond.static y ∈ hWs) (w5 : Cond.initialized y.cls ∈ hWs) (hd : hDesc y n) (hR : hRoom R fr maxL lo) (hn : As.length = n) (hsz : ls.size = nL) (hW : (rest.map fun v => v.category).sum ≤ 8) (hdg : decode cc pc = .ok (.invokestatic index, 3)) (hf : cells + mc ≤ R.cells ∧ slots + ms ≤ R.slots)
    {st0 st1 : List Value} (hs1 : rv.toList ++ rest = st1) (hst : st0 = As.reverse ++ rest) (hMt : hM l D y bytes maxL ret fr lo mc ms As S rv S1)
    (kk : ∀ (H1 : Heap) (locs1 : List Loc), h_V D A s S1 H1 locs1 → W p l e R s m args below meth c H1 locs1 (cells + mc) (slots + ms) Q (F0 m (pc + 3) ls st1)) : W p l e R s m args below meth c H locs cells slots Q (F0 m pc ls st0) := by
  subst hs1
  have hts := F.ts
  obtain ⟨y0, c0, n0, r0, Fx⟩ := F
  refine h_after hV (va_runS (As := As) (rest := rest) Fx hMt (n := n) ⟨⟨rfl, rfl, hR.1, hR.2, pay_in Fx.2.2.2.2 (hWy_good w1), List.mem_cons_self, hts _ w1, hts _ w5, ⟨hd.1, hd.2.1⟩, h_len hd.2.2, hts _ w2⟩, hts _ w3⟩ (h_preS hK hV.1) rfl hn hsz hst (lv_room hW) hdg hf) kk
theorem h_callI {b : Nat} (F : hFix p m c cc nL s args own) (hK : h_K D s) (hV : h_V D A s S H locs)
    (w1 : Cond.code y bytes maxL none ∈ hWs) (w2 : Cond.methodLink own index y ∈ hWs) (w3 : Cond.instanceMethod y ∈ hWs) (w5 : Cond.initialized y.cls ∈ hWs) (hy : y.name = "<init>") (hd : hDesc y n) (hR : hRoom R fr maxL lo) (hn : As.length = n) (hsz : ls.size = nL) (hW : (rest.map fun v => v.category).sum ≤ 8) (hdg : decode cc pc = .ok (.invokespecial index, 3)) (hf : cells + mc ≤ R.cells ∧ slots + ms ≤ R.slots)
    {st0 st1 : List Value} (hs1 : rv.toList ++ rest = st1) (hst : st0 = As.reverse ++ .ref b :: rest) (hMt : hM l D y bytes maxL none fr lo mc ms (.ref b :: As) S rv S1)
    (kk : ∀ (H1 : Heap) (locs1 : List Loc), h_V D A s S1 H1 locs1 → W p l e R s m args below meth c H1 locs1 (cells + mc) (slots + ms) Q (F0 m (pc + 3) ls st1)) : W p l e R s m args below meth c H locs cells slots Q (F0 m pc ls st0) := by
  subst hs1
  have hts := F.ts
  obtain ⟨y0, c0, n0, r0, Fx⟩ := F
  refine h_after hV (va_runI (As := As) (rest := rest) Fx hMt (n := n) ⟨⟨rfl, rfl, hR.1, hR.2, pay_in Fx.2.2.2.2 (hWy_good w1), List.mem_cons_self, hts _ w1, hts _ w5, ⟨hd.1, hd.2.1⟩, h_len hd.2.2, hts _ w2⟩, hy, hts _ w3⟩ (h_preS hK hV.1) rfl hn hsz hst (lv_room hW) hdg hf) kk
theorem h_callIN {b : Nat} {host : String} (F : hFix p m c cc nL s args own) (hK : h_K D s) (hV : h_V D A s S H locs)
    (w1 : Cond.code y bytes maxL none ∈ hWs) (w2 : va_Nw (.methodLinkNest own index y host) s) (w3 : Cond.instanceMethod y ∈ hWs) (w5 : Cond.initialized y.cls ∈ hWs) (hy : y.name = "<init>") (hd : hDesc y n) (hR : hRoom R fr maxL lo) (hn : As.length = n) (hsz : ls.size = nL) (hW : (rest.map fun v => v.category).sum ≤ 8) (hdg : decode cc pc = .ok (.invokespecial index, 3)) (hf : cells + mc ≤ R.cells ∧ slots + ms ≤ R.slots)
    {st0 st1 : List Value} (hs1 : rv.toList ++ rest = st1) (hst : st0 = As.reverse ++ .ref b :: rest) (hMt : hM l D y bytes maxL none fr lo mc ms (.ref b :: As) S rv S1)
    (kk : ∀ (H1 : Heap) (locs1 : List Loc), h_V D A s S1 H1 locs1 → W p l e R s m args below meth c H1 locs1 (cells + mc) (slots + ms) Q (F0 m (pc + 3) ls st1)) : W p l e R s m args below meth c H locs cells slots Q (F0 m pc ls st0) := by
  subst hs1
  have hts := F.ts
  obtain ⟨y0, c0, n0, r0, Fx⟩ := F
  refine h_after hV (va_runIN (As := As) (rest := rest) Fx hMt (n := n) ⟨va_cnB n Fx.2.2.2.2 (hWy_good w1) rfl rfl rfl w2 (hts _ w5) hd hR, hy, hts _ w3⟩ (h_preS hK hV.1) rfl hn hsz hst (lv_room hW) hdg hf) kk
end HRUN
end
section
theorem h_V.setL {D : hD} {A : Nat → Prop} {s : State} {S : hS} {H H1 : Heap} {locs L : List Loc} {a : Nat} {c c' : hC} (h : h_V D A s S H locs) (ha : S.1 a = some c) (h1 : h_at D a c' H1) (hz : H1.size = H.size) (oq : ∀ q, q ≠ a → H1[q]? = H[q]?) (hL : ∀ x ∈ L, x.base = a) : h_V D A s (hset S a c') H1 (locs ++ L) := by
  obtain ⟨g1, g2, g3, g4⟩ := h.set (k := 0) ha h1 hz oq
  refine ⟨g1, g2, ⟨g3.1, g3.2.1, fun x hx => ?_⟩, g4⟩
  rcases List.mem_append.mp hx with hx | hx
  · exact g3.2.2 x (List.mem_append_left _ hx)
  · rw [hL x hx]
    exact h.2.1 a (by rw [ha]; exact fun z => by cases z)
theorem h_copy {p : Program} {l : Launch} {e : Env} {R : Room} {s : State} {m : MethodId} {args : Array Value} {below : List Frame} {meth : Method} {c : Code} {H : Heap} {locs : List Loc} {cells slots : Nat} {Q : State → Prop} {cc : ByteArray} {pc : Nat} {ls : Array Slot} {rest : List Value} {D : hD} {A : Nat → Prop} {S S1 : hS}
    (hexec : p.tables.exec = Jvm.exec) (hb : c.code = cc) (hml : c.maxLocals = ls.size) {own : String} {index : Nat} (hown : s.vm.findClass own = some m.cls) (hlink : (Cond.methodLink own index arraycopyName).before args s = true) (hnat : (Cond.native arraycopyName).before args s = true) (hstat : (Cond.static arraycopyName).before args s = true) (hini : (Cond.initialized "java/lang/System").before args s = true)
    (hK : h_K D s) (hV : h_V D A s S H locs) {r0 r1 : Option Nat} {sp dp n : Int32} (hg : aC S r0 sp r1 dp n = some S1)
    (hframes : 1 ≤ R.frames) (hlocals : (rest.map fun v => v.category).sum + (nativeFrameWords "java/lang/System" "arraycopy" 5 + 11) ≤ R.locals) (hdg : decode cc pc = .ok (.invokestatic index, 3))
    (kk : ∀ (H1 : Heap) (locs1 : List Loc), h_V D A s S1 H1 locs1 → W p l e R s m args below meth c H1 locs1 cells slots Q (F0 m (pc + 3) ls rest)) : W p l e R s m args below meth c H locs cells slots Q (F0 m pc ls (.int n :: .int dp :: va_rf r1 :: .int sp :: va_rf r0 :: rest)) := by
  have nn : ∀ z : Int32, ¬ z < 0 → z.toInt = (z.toNatClampNeg : Int) := by
    intro z hz
    have hz0 : (0 : Int) ≤ z.toInt := by
      have := Int32.not_lt.mp hz
      simpa using Int32.le_iff_toInt_le.mp this
    show z.toInt = ((z.toInt.toNat : Nat) : Int)
    omega
  obtain ⟨⟨a0, n0, f⟩, hc0, hg1⟩ := hbind hg
  clear hg
  obtain ⟨⟨a, n1, g⟩, hc1, hg2⟩ := hbind hg1
  clear hg1
  obtain ⟨rfl, b0⟩ := hc_inv hc0
  obtain ⟨rfl, b1⟩ := hc_inv hc1
  simp only at hg2
  split at hg2
  · cases hg2
  · rename_i hcnd
    split at hg2
    · rename_i hint
      obtain ⟨h1, h2, h3, h4, h5⟩ : ¬ sp < 0 ∧ ¬ dp < 0 ∧ ¬ n < 0 ∧ sp.toNatClampNeg + n.toNatClampNeg ≤ n0 ∧ dp.toNatClampNeg + n.toNatClampNeg ≤ n1 := by
        refine ⟨fun z => hcnd (Or.inl z), fun z => hcnd (Or.inr (Or.inl z)), fun z => hcnd (Or.inr (Or.inr (Or.inl z))), Nat.not_lt.mp (fun z => hcnd (Or.inr (Or.inr (Or.inr (Or.inl z))))), Nat.not_lt.mp (fun z => hcnd (Or.inr (Or.inr (Or.inr (Or.inr z)))))⟩
      have hq := Option.some.inj hg2
      intro T hT X
      have hc0 : H[a0]? = some (arrV D.2.1 n0 f) := (hV.1.2 a0 _ b0).arr (q := (D.2.1, .int)) (by decide) rfl
      have hc1 : H[a]? = some (arrV D.2.1 n1 g) := (hV.1.2 a _ b1).arr (q := (D.2.1, .int)) (by decide) rfl
      obtain ⟨-, k0, hk0, cm0, hkk0⟩ := (hK.1.2 0 _ rfl).1 n0 f
      obtain ⟨-, k1, hk1, cm1, hkk1⟩ := (hK.1.2 0 _ rfl).1 n1 g
      obtain ⟨vm', X', step⟩ := X.arraycopy hexec hown hlink hnat hstat hini (src := a0) (dst := a) (cs := arrV D.2.1 n0 f) (cd := arrV D.2.1 n1 g) (srcPos := sp) (destPos := dp) (n := n) (by rw [hT]; exact hc0) (by rw [hT]; exact hc1)
        (fun _ h => by cases h) (fun _ h => by cases h) (fun h => by cases h) (fun h => by cases h) hk0 hk1 hkk0 hkk1 (by simp [refKind]) h1 h2 h3
        (by rw [nn sp h1, nn n h3, arrV_size]; omega)
        (by rw [nn dp h2, nn n h3, arrV_size]; omega)
        (fun vm₁ _ i hi => by
          obtain ⟨x, hx⟩ := Option.isSome_iff_exists.mp (hint i hi)
          have hx := vI_inv hx
          have e : (arrV D.2.1 n0 f).slots.getD (sp.toNatClampNeg + i) .null = .int x := by
            rw [Array.getD_eq_getD_getElem?, arrV_read _ _ (by omega), ← hx]
            rfl
          refine ⟨?_, ?_⟩
          · rw [e]
            rfl
          · rw [e]
            exact trivial)
        (g := F0 m pc ls (.int n :: .int dp :: .ref a :: .int sp :: .ref a0 :: rest)) rfl (by rw [hml]) (rest := rest) rfl (by rw [hb]; exact hdg) hframes (by show 2 * 0 + _ + _ ≤ _; omega)
      have e1 : copied (arrV D.2.1 n0 f) (arrV D.2.1 n1 g) sp dp n = arrV D.2.1 n1 (va_cpy f g sp.toNatClampNeg dp.toNatClampNeg n.toNatClampNeg) := va_copied (fun z => z) D.2.1 D.2.1 f g h4
      rw [e1] at X' step
      have hl : a < H.size := (Array.getElem?_eq_some_iff.mp hc1).1
      have hheap : ((T.setVm vm').setCell a (arrV D.2.1 n1 (va_cpy f g sp.toNatClampNeg dp.toNatClampNeg n.toNatClampNeg))).heap = H.setIfInBounds a (arrV D.2.1 n1 (va_cpy f g sp.toNatClampNeg dp.toNatClampNeg n.toNatClampNeg)) := by rw [← hT]; rfl
      have oq : ∀ q : Nat, q ≠ a → (H.setIfInBounds a (arrV D.2.1 n1 (va_cpy f g sp.toNatClampNeg dp.toNatClampNeg n.toNatClampNeg)))[q]? = H[q]? := fun q hq => by simp [Array.getElem?_setIfInBounds, Ne.symm hq]
      obtain ⟨t, a1, b1⟩ := kk _ _ (by
        rw [← hq]
        exact hV.setL b1 (Or.inr ⟨(D.2.1, .int), Nat.le_of_ble_eq_true rfl, rfl, show (H.setIfInBounds a _)[a]? = some _ by simp [Array.getElem?_setIfInBounds, hl]⟩) (by simp) oq (fun x hx => by
          obtain ⟨z, -, hz⟩ := List.mem_map.mp hx
          rw [← hz])) _ hheap X'
      exact ⟨t, step t a1, b1⟩
    · cases hg2
theorem h_tinj {x : Int32} {k : Int32} (h : ¬ x = k) : x.toInt ≠ k.toInt := fun z => h (Int32.toInt_inj.mp z)
end
section
def bn2 {α β γ : Type} (x : Option (α × β)) (g : α → β → Option γ) : Option γ := match x with
  | none => none
  | some q => g q.1 q.2
theorem hbn2 {α β γ : Type} {x : Option (α × β)} {g : α → β → Option γ} {z : γ} (h : bn2 x g = some z) : ∃ a b, x = some (a, b) ∧ g a b = some z := by
  cases x with
  | none => cases h
  | some q => exact ⟨q.1, q.2, rfl, h⟩
def gI4 (S : hS) (k : Nat) (r : Option Nat) : Option Int32 := if hk4 S r = 99 then none else gI S (hk4 S r) k r
def gR4 (S : hS) (k : Nat) (r : Option Nat) : Option (Option Nat) := if hk4 S r = 99 then none else gR S (hk4 S r) k r
def pV4 (S : hS) (k : Nat) (r : Option Nat) (v : Value) : Option hS := if hk4 S r = 99 then none else pV S (hk4 S r) k r v
theorem hk4_cases (S : hS) (r : Option Nat) : hk4 S r = 2 ∨ hk4 S r = 3 ∨ hk4 S r = 5 ∨ hk4 S r = 6 ∨ hk4 S r = 99 := by
  unfold hk4
  cases r with
  | none => simp
  | some a =>
    simp only
    cases S.1 a with
    | none => simp
    | some c =>
      simp only
      split
      · rename_i h; omega
      · simp
/-- what stands at every point of a method: the machine, its code, the tables -/
def hCx (p : Program) (m : MethodId) (c : Code) (cc : ByteArray) (nL : Nat) (s : State) (args : Array Value) (own : String) (meth : Method) (ret : Option FieldType) (D : hD) : Prop := hFix p m c cc nL s args own ∧ p.tables.exec = Jvm.exec ∧ c.code = cc ∧ c.maxLocals = nL ∧ s.vm.findClass own = some m.cls ∧ meth.sig.returnType = ret ∧ meth.locks = false ∧ h_K D s ∧ (∀ w ∈ hWs, w.before args s = true)
section HM
variable {p : Program} {l : Launch} {e : Env} {R : Room} {s : State} {m : MethodId} {args : Array Value} {below : List Frame} {meth : Method} {c : Code} {H : Heap} {locs : List Loc} {cells slots : Nat} {Q : State → Prop}
variable {cc : ByteArray} {pc : Nat} {ls : Array Slot} {rest : List Value} {D : hD} {A : Nat → Prop} {S : hS}
theorem h_gI4 (hx : p.tables.exec = Jvm.exec) (hb : c.code = cc) {own : String} {index k : Nat} {r : Option Nat} {x : Int32} (hown : s.vm.findClass own = some m.cls) (hV : h_V D A s S H locs) (hg : gI4 S k r = some x) (hf : ∀ ci, (ci = 2 ∨ ci = 3 ∨ ci = 5 ∨ ci = 6) → h_fld s args own index ci k D) (hdg : decode cc pc = .ok (.getfield index, 3))
    (kk : W p l e R s m args below meth c H locs cells slots Q (F0 m (pc + 3) ls (.int x :: rest))) : W p l e R s m args below meth c H locs cells slots Q (F0 m pc ls (va_rf r :: rest)) := by
  unfold gI4 at hg
  split at hg
  · cases hg
  · rename_i hne
    exact h_gI hx hb hown hV hg (hf _ (by have := hk4_cases S r; omega)) hdg kk
theorem h_gR4 (hx : p.tables.exec = Jvm.exec) (hb : c.code = cc) {own : String} {index k : Nat} {r x : Option Nat} (hown : s.vm.findClass own = some m.cls) (hV : h_V D A s S H locs) (hg : gR4 S k r = some x) (hf : ∀ ci, (ci = 2 ∨ ci = 3 ∨ ci = 5 ∨ ci = 6) → h_fld s args own index ci k D) (hdg : decode cc pc = .ok (.getfield index, 3))
    (kk : W p l e R s m args below meth c H locs cells slots Q (F0 m (pc + 3) ls (va_rf x :: rest))) : W p l e R s m args below meth c H locs cells slots Q (F0 m pc ls (va_rf r :: rest)) := by
  unfold gR4 at hg
  split at hg
  · cases hg
  · rename_i hne
    exact h_gR hx hb hown hV hg (hf _ (by have := hk4_cases S r; omega)) hdg kk
theorem h_put4 (hx : p.tables.exec = Jvm.exec) (hb : c.code = cc) {own : String} {index k : Nat} {r : Option Nat} {v : Value} {S1 : hS} {ty : FieldType} (hown : s.vm.findClass own = some m.cls) (hV : h_V D A s S H locs) (hg : pV4 S k r v = some S1) (hf : ∀ ci, (ci = 2 ∨ ci = 3 ∨ ci = 5 ∨ ci = 6) → h_fpt s args m meth own index ci k ty D) (hn : narrow ty v = v) (hfit : fits ty v = true) (hdg : decode cc pc = .ok (.putfield index, 3))
    (kk : ∀ (H1 : Heap) (locs1 : List Loc), h_V D A s S1 H1 locs1 → W p l e R s m args below meth c H1 locs1 cells slots Q (F0 m (pc + 3) ls rest)) : W p l e R s m args below meth c H locs cells slots Q (F0 m pc ls (v :: va_rf r :: rest)) := by
  unfold pV4 at hg
  split at hg
  · cases hg
  · rename_i hne
    exact h_put hx hb hown hV hg (hf _ (by have := hk4_cases S r; omega)) hn hfit hdg kk
theorem h_mmax (hx : p.tables.exec = Jvm.exec) (hb : c.code = cc) (hml : c.maxLocals = ls.size) {own : String} {index : Nat} (hown : s.vm.findClass own = some m.cls) (hts : ∀ w ∈ hWs, w.before args s = true) (w1 : Cond.methodLink own index Lib.Math.max.name ∈ hWs) (w2 : Cond.static Lib.Math.max.name ∈ hWs) (w3 : Cond.initialized "java/lang/Math" ∈ hWs) (w4 : Cond.code Lib.Math.max.name Lib.Math.max.code 2 (some .int) ∈ hWs)
    (hframes : 1 ≤ R.frames) (hlocals : (rest.map fun v => v.category).sum + 13 ≤ R.locals) (hc : cells ≤ R.cells) (hs : slots ≤ R.slots) {x y : Int32} (hdg : decode cc pc = .ok (.invokestatic index, 3))
    (kk : W p l e R s m args below meth c H locs cells slots Q (F0 m (pc + 3) ls (.int (imx x y) :: rest))) : W p l e R s m args below meth c H locs cells slots Q (F0 m pc ls (.int y :: .int x :: rest)) :=
  va_mmax hx hb hml hown (hts _ w1) (hts _ w2) (hts _ w3) (hts _ w4) hframes hlocals hc hs hdg kk
theorem h_mmin (hx : p.tables.exec = Jvm.exec) (hb : c.code = cc) (hml : c.maxLocals = ls.size) {own : String} {index : Nat} (hown : s.vm.findClass own = some m.cls) (hts : ∀ w ∈ hWs, w.before args s = true) (w1 : Cond.methodLink own index Lib.Math.min.name ∈ hWs) (w2 : Cond.static Lib.Math.min.name ∈ hWs) (w3 : Cond.initialized "java/lang/Math" ∈ hWs) (w4 : Cond.code Lib.Math.min.name Lib.Math.min.code 2 (some .int) ∈ hWs)
    (hframes : 1 ≤ R.frames) (hlocals : (rest.map fun v => v.category).sum + 13 ≤ R.locals) (hc : cells ≤ R.cells) (hs : slots ≤ R.slots) {x y : Int32} (hdg : decode cc pc = .ok (.invokestatic index, 3))
    (kk : W p l e R s m args below meth c H locs cells slots Q (F0 m (pc + 3) ls (.int (imn x y) :: rest))) : W p l e R s m args below meth c H locs cells slots Q (F0 m pc ls (.int y :: .int x :: rest)) :=
  va_mmin hx hb hml hown (hts _ w1) (hts _ w2) (hts _ w3) (hts _ w4) hframes hlocals hc hs hdg kk
theorem h_oinit (hx : p.tables.exec = Jvm.exec) (hb : c.code = cc) (hml : ls.size = c.maxLocals) {own : String} {index a : Nat} (hown : s.vm.findClass own = some m.cls) (hts : ∀ w ∈ hWs, w.before args s = true) (w1 : Cond.methodLink own index objectInit ∈ hWs) (w2 : Cond.instanceMethod objectInit ∈ hWs) (w3 : Cond.code objectInit ⟨#[0xb1]⟩ 1 none ∈ hWs)
    (hframes : 1 ≤ R.frames) (hlocals : (rest.map fun v => v.category).sum + 12 ≤ R.locals) (hdg : decode cc pc = .ok (.invokespecial index, 3))
    (kk : W p l e R s m args below meth c H locs cells slots Q (F0 m (pc + 3) ls rest)) : W p l e R s m args below meth c H locs cells slots Q (F0 m pc ls (va_rf (some a) :: rest)) :=
  W.objInit hx hb hown (hts _ w1) (hts _ w2) (hts _ w3) rfl hml rfl hdg hframes (by show 2 * 0 + _ + 12 ≤ _; omega) kk
theorem h_tout {x : Int32} {lo hi : Int} (h : ∀ k : Int, lo ≤ k → k ≤ hi → x.toInt ≠ k) : x.toInt < lo ∨ hi < x.toInt := by
  by_cases h1 : x.toInt < lo
  · exact Or.inl h1
  · by_cases h2 : hi < x.toInt
    · exact Or.inr h2
    · exact absurd rfl (h x.toInt (by omega) (by omega))
end HM
end
section
/-! locals and stacks of ints and references alone -/
abbrev hT : Type := Int32 ⊕ Option Nat
def hv : hT → Value
  | .inl x => .int x
  | .inr r => va_rf r
def hvq (q : Nat × hT) : Nat × Value := (q.1, hv q.2)
theorem hr_cat (r : Option Nat) : (va_rf r).category = 1 := by cases r <;> rfl
theorem hv_cat (t : hT) : (hv t).category = 1 := by
  cases t with
  | inl x => rfl
  | inr r => exact hr_cat r
theorem hW_sum : ∀ ts : List hT, ((ts.map hv).map fun v => v.category).sum = ts.length
  | [] => rfl
  | t :: ts => by
    have h := hW_sum ts
    simp only [List.map_cons, List.sum_cons, List.length_cons, hv_cat, h]
    omega
theorem hW_ok (ts : List hT) (h : ts.length ≤ 8) : ((ts.map hv).map fun v => v.category).sum ≤ 8 := by rw [hW_sum]; exact h
theorem hW_okL (ts : List hT) {k N : Nat} (h : ts.length + k ≤ N) : ((ts.map hv).map fun v => v.category).sum + k ≤ N := by rw [hW_sum]; exact h
def hl_has (ls : Array Slot) (nL : Nat) (tl : List (Nat × hT)) : Prop := lv_has ls nL (tl.map hvq)
theorem hi_at {ls : Array Slot} {nL : Nat} {tl : List (Nat × hT)} (h : hl_has ls nL tl) (k : Nat) {i : Nat} {x : Int32} (hk : tl[k]? = some (i, .inl x)) : ls[i]? = some (.val (.int x)) :=
  lv_at h k (by rw [List.getElem?_map, hk]; rfl)
theorem hr_at {ls : Array Slot} {nL : Nat} {tl : List (Nat × hT)} (h : hl_has ls nL tl) (k : Nat) {i : Nat} {r : Option Nat} (hk : tl[k]? = some (i, .inr r)) : ls[i]? = some (.val (va_rf r)) :=
  lv_at h k (by rw [List.getElem?_map, hk]; rfl)
theorem hl_sub {ls : Array Slot} {nL : Nat} {tl tl' : List (Nat × hT)} (h : hl_has ls nL tl) (ks : List Nat) (hl : ks.filterMap (fun k => tl[k]?) = tl') : hl_has ls nL tl' := by
  refine lv_sub h ks ?_
  subst hl
  unfold lv_pick
  rw [List.map_filterMap]
  congr 1
  funext k
  rw [List.getElem?_map]
theorem hl_filter (i : Nat) : ∀ tl : List (Nat × hT), (tl.map hvq).filter (fun q => !(q.1 == i) && !(q.1 + 1 == i && q.2.category == 2)) = (tl.filter (fun q => !(q.1 == i))).map hvq
  | [] => rfl
  | q :: tl => by
    have h := hl_filter i tl
    have hc : ((hvq q).2.category == 2) = false := by rw [show (hvq q).2.category = 1 from hv_cat q.2]; rfl
    simp only [List.map_cons, List.filter_cons, hc, Bool.and_false, Bool.not_false, Bool.and_true]
    rw [show (hvq q).1 = q.1 from rfl]
    by_cases hq : (!(q.1 == i)) = true
    · rw [if_pos hq, if_pos hq, List.map_cons, ← h]
    · rw [if_neg hq, if_neg hq, ← h]
def hE : Nat → List hT → List (Nat × hT)
  | _, [] => []
  | i, t :: ts => (i, t) :: hE (i + 1) ts
theorem hE_args : ∀ (ts : List hT) (i : Nat), lv_args i (ts.map hv) = (hE i ts).map hvq
  | [], _ => rfl
  | t :: ts, i => by
    have h := hE_args ts (i + 1)
    simp only [List.map_cons, lv_args, hE]
    rw [if_neg (by rw [hv_cat]; decide), h]
    rfl
theorem hE_len : ∀ ts : List hT, (lg_sl (ts.map hv)).length = ts.length
  | [] => rfl
  | t :: ts => by
    have h := hE_len ts
    unfold lg_sl at h ⊢
    simp only [List.map_cons, List.flatMap_cons, List.length_append, List.length_cons, h, hv_cat]
    simp
    omega
theorem hE_entry (ts : List hT) {n : Nat} (h : ts.length ≤ n) : hl_has ((lg_sl (ts.map hv) ++ List.replicate (n - (lg_sl (ts.map hv)).length) Slot.unset).toArray) n (hE 0 ts) := by
  unfold hl_has
  rw [← hE_args]
  exact lv_entry _ (by rw [hE_len]; exact h)
section HL
variable {p : Program} {l : Launch} {e : Env} {R : Room} {s : State} {m : MethodId} {args : Array Value} {below : List Frame} {meth : Method} {c : Code} {H : Heap} {locs : List Loc} {cells slots : Nat} {Q : State → Prop}
variable {cc : ByteArray} {pc : Nat} {ls : Array Slot} {rest : List Value}
theorem h_istore_n (hx : p.tables.exec = Jvm.exec) (hb : c.code = cc) {k : Fin 4} {i nL : Nat} {x : Int32} {tl tl' : List (Nat × hT)} (hdg : decode cc pc = .ok (.istore_n k, 1)) (hi : (k : Nat) = i) (h : hl_has ls nL tl) (hn : i < nL) (hl : (i, .inl x) :: tl.filter (fun q => !(q.1 == i)) = tl')
    (kk : ∀ ls' : Array Slot, hl_has ls' nL tl' → W p l e R s m args below meth c H locs cells slots Q (F0 m (pc + 1) ls' rest)) : W p l e R s m args below meth c H locs cells slots Q (F0 m pc ls (.int x :: rest)) :=
  lv_istore_n (lv' := tl'.map hvq) hx hb hdg hi h hn (by rw [hl_filter, ← hl]; rfl) kk
theorem h_istore (hx : p.tables.exec = Jvm.exec) (hb : c.code = cc) {i nL : Nat} {x : Int32} {tl tl' : List (Nat × hT)} (hdg : decode cc pc = .ok (.istore i, 2)) (h : hl_has ls nL tl) (hn : i < nL) (hl : (i, .inl x) :: tl.filter (fun q => !(q.1 == i)) = tl')
    (kk : ∀ ls' : Array Slot, hl_has ls' nL tl' → W p l e R s m args below meth c H locs cells slots Q (F0 m (pc + 2) ls' rest)) : W p l e R s m args below meth c H locs cells slots Q (F0 m pc ls (.int x :: rest)) :=
  lv_istore (lv' := tl'.map hvq) hx hb hdg h hn (by rw [hl_filter, ← hl]; rfl) kk
theorem h_astore_n (hx : p.tables.exec = Jvm.exec) (hb : c.code = cc) {k : Fin 4} {i nL : Nat} {r : Option Nat} {tl tl' : List (Nat × hT)} (hdg : decode cc pc = .ok (.astore_n k, 1)) (hi : (k : Nat) = i) (h : hl_has ls nL tl) (hn : i < nL) (hl : (i, .inr r) :: tl.filter (fun q => !(q.1 == i)) = tl')
    (kk : ∀ ls' : Array Slot, hl_has ls' nL tl' → W p l e R s m args below meth c H locs cells slots Q (F0 m (pc + 1) ls' rest)) : W p l e R s m args below meth c H locs cells slots Q (F0 m pc ls (va_rf r :: rest)) :=
  hr_astore_n (lv' := tl'.map hvq) hx hb hdg hi h hn (by rw [hl_filter, ← hl]; rfl) kk
theorem h_astore (hx : p.tables.exec = Jvm.exec) (hb : c.code = cc) {i nL : Nat} {r : Option Nat} {tl tl' : List (Nat × hT)} (hdg : decode cc pc = .ok (.astore i, 2)) (h : hl_has ls nL tl) (hn : i < nL) (hl : (i, .inr r) :: tl.filter (fun q => !(q.1 == i)) = tl')
    (kk : ∀ ls' : Array Slot, hl_has ls' nL tl' → W p l e R s m args below meth c H locs cells slots Q (F0 m (pc + 2) ls' rest)) : W p l e R s m args below meth c H locs cells slots Q (F0 m pc ls (va_rf r :: rest)) :=
  hr_astore (lv' := tl'.map hvq) hx hb hdg h hn (by rw [hl_filter, ← hl]; rfl) kk
theorem h_iinc (hx : p.tables.exec = Jvm.exec) (hb : c.code = cc) {i nL k : Nat} {n : Int} {x v : Int32} {tl tl' : List (Nat × hT)} (hdg : decode cc pc = .ok (.iinc i n, 3)) (h : hl_has ls nL tl) (hk : tl[k]? = some (i, .inl x)) (hv1 : x + Int32.ofInt n = v) (hn : i < nL) (hl : (i, .inl v) :: tl.filter (fun q => !(q.1 == i)) = tl')
    (kk : ∀ ls' : Array Slot, hl_has ls' nL tl' → W p l e R s m args below meth c H locs cells slots Q (F0 m (pc + 3) ls' rest)) : W p l e R s m args below meth c H locs cells slots Q (F0 m pc ls rest) :=
  lv_iinc (lv' := tl'.map hvq) hx hb hdg h (k := k) (by rw [List.getElem?_map, hk]; rfl) hv1 hn (by rw [hl_filter, ← hl]; rfl) kk
theorem h_null (hx : p.tables.exec = Jvm.exec) (hb : c.code = cc) (hdg : decode cc pc = .ok (.aconst_null, 1)) (kk : W p l e R s m args below meth c H locs cells slots Q (F0 m (pc + 1) ls (va_rf none :: rest))) : W p l e R s m args below meth c H locs cells slots Q (F0 m pc ls rest) := lv_null hx hb hdg kk
end HL
theorem h_narO {C : String} (r : Option Nat) : narrow (.object C) (va_rf r) = va_rf r := by cases r <;> rfl
theorem h_narA {t : FieldType} (r : Option Nat) : narrow (.array t) (va_rf r) = va_rf r := by cases r <;> rfl
theorem h_fitO {C : String} (r : Option Nat) : fits (.object C) (va_rf r) = true := by cases r <;> rfl
theorem h_fitA {t : FieldType} (r : Option Nat) : fits (.array t) (va_rf r) = true := by cases r <;> rfl
/-- a contract out of a walk of the body -/
theorem h_body {l : Launch} {D : hD} {y : MethodName} {cc : ByteArray} {maxL : Nat} {ret : Option FieldType} {fr lo mc ms : Nat} (ts : List hT) {S S1 : hS} {rv : Option Value} (own : String) (hy : plainName y.cls = true) (ho : y.cls = own) (hn : ts.length ≤ maxL)
    (body : ∀ (p : Program) (e : Env) (s : State) (m : MethodId) (args : Array Value) (below : List Frame) (meth : Method) (c : Code), hCx p m c cc maxL s args own meth ret D → meth.name = y.name → ∀ ls : Array Slot, h_V D (h_A S) s S s.heap [] → hl_has ls maxL (hE 0 ts) →
      W p l e { frames := fr, cells := mc, slots := ms, locals := lo } s m args below meth c s.heap [] 0 0 (MQ below (h_Q D (h_A S) rv S1) args s mc ms (h_A S)) (F0 m 0 ls [])) : hM l D y cc maxL ret fr lo mc ms (ts.map hv) S rv S1 := by
  refine Met.ofW (cc := cc) (maxL := maxL) (ret := ret) hy rfl ?_
  intro p e s m args below meth c s₁ B hml hv1
  obtain ⟨rfl, hP, hK⟩ := hv1
  have hts := atoms_spec (ws := hWy y cc maxL ret) B.pre
  have hown : s.vm.findClass own = some m.cls := by rw [← ho]; exact findClass_of_methodNamed B.named
  have C : hCx p m c cc maxL s (ts.map hv).toArray own meth ret D := ⟨⟨_, _, _, _, B.exec, B.bytes, hml, hown, hts⟩, B.exec, B.bytes, hml, hown, B.returns, B.notSynchronized, hK, fun w hw => hts w (List.mem_cons_of_mem _ hw)⟩
  rw [lg_entry_eq]
  exact body p e s m _ below meth c C (name_of_methodNamed B.named B.method).1 _ (h_V.entry hP) (hE_entry ts hn)
end
