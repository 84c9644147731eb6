section
-- ===== PART A: goes FIRST, ahead of the names: the tables' words, and 'selects' of the private methods out of them =====
/-- a private method of a class that the tables say can be made, by its rows of tables_1 -/
def lw_okq (q : MethodName × Nat) : Prop := (q.1.cls ≠ "java/lang/invoke/MethodHandle" ∧ q.1.cls ≠ "java/lang/invoke/VarHandle") ∧ Cond.instantiable q.1.cls q.2 ∈ tables_1 ∧ Cond.privateMethod q.1 ∈ tables_1 ∧ Cond.instanceMethod q.1 ∈ tables_1
theorem lw_p0 : lw_okq (⟨"TwinRows", "feedNumber", "(I)V"⟩, 14) := ⟨⟨by decide +kernel, by decide +kernel⟩, List.mem_of_getElem? (i := 22) (by decide +kernel), List.mem_of_getElem? (i := 235) (by decide +kernel), List.mem_of_getElem? (i := 236) (by decide +kernel)⟩
theorem lw_p1 : lw_okq (⟨"TwinRows$Reader", "advance", "()V"⟩, 9) := ⟨⟨by decide +kernel, by decide +kernel⟩, List.mem_of_getElem? (i := 30) (by decide +kernel), List.mem_of_getElem? (i := 264) (by decide +kernel), List.mem_of_getElem? (i := 265) (by decide +kernel)⟩
theorem lw_p2 : lw_okq (⟨"TwinRows$Reader", "advanceRun", "()V"⟩, 9) := ⟨⟨by decide +kernel, by decide +kernel⟩, List.mem_of_getElem? (i := 30) (by decide +kernel), List.mem_of_getElem? (i := 268) (by decide +kernel), List.mem_of_getElem? (i := 269) (by decide +kernel)⟩
theorem lw_p3 : lw_okq (⟨"TwinRows$Reader", "readRow", "(Z)Z"⟩, 9) := ⟨⟨by decide +kernel, by decide +kernel⟩, List.mem_of_getElem? (i := 30) (by decide +kernel), List.mem_of_getElem? (i := 272) (by decide +kernel), List.mem_of_getElem? (i := 273) (by decide +kernel)⟩
theorem lw_p4 : lw_okq (⟨"TwinRows$Reader", "isWord", "(Ljava/lang/String;)Z"⟩, 9) := ⟨⟨by decide +kernel, by decide +kernel⟩, List.mem_of_getElem? (i := 30) (by decide +kernel), List.mem_of_getElem? (i := 277) (by decide +kernel), List.mem_of_getElem? (i := 278) (by decide +kernel)⟩
theorem lw_p5 : lw_okq (⟨"TwinRows$Reader", "readCells", "()Z"⟩, 9) := ⟨⟨by decide +kernel, by decide +kernel⟩, List.mem_of_getElem? (i := 30) (by decide +kernel), List.mem_of_getElem? (i := 329) (by decide +kernel), List.mem_of_getElem? (i := 330) (by decide +kernel)⟩
theorem lw_p6 : lw_okq (⟨"TwinRows$Reader", "readNumber", "(I)Z"⟩, 9) := ⟨⟨by decide +kernel, by decide +kernel⟩, List.mem_of_getElem? (i := 30) (by decide +kernel), List.mem_of_getElem? (i := 333) (by decide +kernel), List.mem_of_getElem? (i := 334) (by decide +kernel)⟩
theorem lw_p7 : lw_okq (⟨"TwinRows$Reader", "fails", "(I)Z"⟩, 9) := ⟨⟨by decide +kernel, by decide +kernel⟩, List.mem_of_getElem? (i := 30) (by decide +kernel), List.mem_of_getElem? (i := 337) (by decide +kernel), List.mem_of_getElem? (i := 338) (by decide +kernel)⟩
theorem lw_p8 : lw_okq (⟨"TwinRows$Reader", "readHole", "()Z"⟩, 9) := ⟨⟨by decide +kernel, by decide +kernel⟩, List.mem_of_getElem? (i := 30) (by decide +kernel), List.mem_of_getElem? (i := 342) (by decide +kernel), List.mem_of_getElem? (i := 343) (by decide +kernel)⟩
theorem lw_p9 : lw_okq (⟨"TwinRows$Reader", "readPair", "()Z"⟩, 9) := ⟨⟨by decide +kernel, by decide +kernel⟩, List.mem_of_getElem? (i := 30) (by decide +kernel), List.mem_of_getElem? (i := 372) (by decide +kernel), List.mem_of_getElem? (i := 373) (by decide +kernel)⟩
theorem lw_p10 : lw_okq (⟨"TwinRows$Reader", "readPin", "()Z"⟩, 9) := ⟨⟨by decide +kernel, by decide +kernel⟩, List.mem_of_getElem? (i := 30) (by decide +kernel), List.mem_of_getElem? (i := 386) (by decide +kernel), List.mem_of_getElem? (i := 387) (by decide +kernel)⟩
theorem lw_p11 : lw_okq (⟨"TwinRows$Reader", "endsRow", "()Z"⟩, 9) := ⟨⟨by decide +kernel, by decide +kernel⟩, List.mem_of_getElem? (i := 30) (by decide +kernel), List.mem_of_getElem? (i := 394) (by decide +kernel), List.mem_of_getElem? (i := 395) (by decide +kernel)⟩
theorem lw_p12 : lw_okq (⟨"TwinRows", "becomes", "(LTwinRows$Frame;)V"⟩, 14) := ⟨⟨by decide +kernel, by decide +kernel⟩, List.mem_of_getElem? (i := 22) (by decide +kernel), List.mem_of_getElem? (i := 398) (by decide +kernel), List.mem_of_getElem? (i := 399) (by decide +kernel)⟩
theorem lw_p13 : lw_okq (⟨"TwinRows", "acted", "()V"⟩, 14) := ⟨⟨by decide +kernel, by decide +kernel⟩, List.mem_of_getElem? (i := 22) (by decide +kernel), List.mem_of_getElem? (i := 420) (by decide +kernel), List.mem_of_getElem? (i := 421) (by decide +kernel)⟩
theorem lw_p14 : lw_okq (⟨"TwinRows", "counted", "()LTwinRows$Fillings;"⟩, 14) := ⟨⟨by decide +kernel, by decide +kernel⟩, List.mem_of_getElem? (i := 22) (by decide +kernel), List.mem_of_getElem? (i := 459) (by decide +kernel), List.mem_of_getElem? (i := 460) (by decide +kernel)⟩
theorem lw_p15 : lw_okq (⟨"TwinRows$Fillings", "nameDigits", "(LTwinRows$Frame;)V"⟩, 8) := ⟨⟨by decide +kernel, by decide +kernel⟩, List.mem_of_getElem? (i := 131) (by decide +kernel), List.mem_of_getElem? (i := 468) (by decide +kernel), List.mem_of_getElem? (i := 469) (by decide +kernel)⟩
def lw_privs_1 : List (MethodName × Nat) := [(⟨"TwinRows", "feedNumber", "(I)V"⟩, 14), (⟨"TwinRows$Reader", "advance", "()V"⟩, 9), (⟨"TwinRows$Reader", "advanceRun", "()V"⟩, 9), (⟨"TwinRows$Reader", "readRow", "(Z)Z"⟩, 9), (⟨"TwinRows$Reader", "isWord", "(Ljava/lang/String;)Z"⟩, 9), (⟨"TwinRows$Reader", "readCells", "()Z"⟩, 9), (⟨"TwinRows$Reader", "readNumber", "(I)Z"⟩, 9), (⟨"TwinRows$Reader", "fails", "(I)Z"⟩, 9), (⟨"TwinRows$Reader", "readHole", "()Z"⟩, 9), (⟨"TwinRows$Reader", "readPair", "()Z"⟩, 9), (⟨"TwinRows$Reader", "readPin", "()Z"⟩, 9), (⟨"TwinRows$Reader", "endsRow", "()Z"⟩, 9), (⟨"TwinRows", "becomes", "(LTwinRows$Frame;)V"⟩, 14), (⟨"TwinRows", "acted", "()V"⟩, 14), (⟨"TwinRows", "counted", "()LTwinRows$Fillings;"⟩, 14), (⟨"TwinRows$Fillings", "nameDigits", "(LTwinRows$Frame;)V"⟩, 8)]
theorem lw_r1 : ∀ q ∈ lw_privs_1, lw_okq q := List.forall_mem_cons.mpr ⟨lw_p0, List.forall_mem_cons.mpr ⟨lw_p1, List.forall_mem_cons.mpr ⟨lw_p2, List.forall_mem_cons.mpr ⟨lw_p3, List.forall_mem_cons.mpr ⟨lw_p4, List.forall_mem_cons.mpr ⟨lw_p5, List.forall_mem_cons.mpr ⟨lw_p6, List.forall_mem_cons.mpr ⟨lw_p7, List.forall_mem_cons.mpr ⟨lw_p8, List.forall_mem_cons.mpr ⟨lw_p9, List.forall_mem_cons.mpr ⟨lw_p10, List.forall_mem_cons.mpr ⟨lw_p11, List.forall_mem_cons.mpr ⟨lw_p12, List.forall_mem_cons.mpr ⟨lw_p13, List.forall_mem_cons.mpr ⟨lw_p14, List.forall_mem_cons.mpr ⟨lw_p15, fun _ h => absurd h List.not_mem_nil⟩⟩⟩⟩⟩⟩⟩⟩⟩⟩⟩⟩⟩⟩⟩⟩
theorem lw_p16 : lw_okq (⟨"TwinRows$Fillings", "weighPlaces", "(LTwinRows$Frame;)V"⟩, 8) := ⟨⟨by decide +kernel, by decide +kernel⟩, List.mem_of_getElem? (i := 131) (by decide +kernel), List.mem_of_getElem? (i := 473) (by decide +kernel), List.mem_of_getElem? (i := 474) (by decide +kernel)⟩
theorem lw_p17 : lw_okq (⟨"TwinRows$Fillings", "fill", "(III)V"⟩, 8) := ⟨⟨by decide +kernel, by decide +kernel⟩, List.mem_of_getElem? (i := 131) (by decide +kernel), List.mem_of_getElem? (i := 483) (by decide +kernel), List.mem_of_getElem? (i := 484) (by decide +kernel)⟩
theorem lw_p18 : lw_okq (⟨"TwinRows$Fillings", "keep", "()V"⟩, 8) := ⟨⟨by decide +kernel, by decide +kernel⟩, List.mem_of_getElem? (i := 131) (by decide +kernel), List.mem_of_getElem? (i := 488) (by decide +kernel), List.mem_of_getElem? (i := 489) (by decide +kernel)⟩
theorem lw_p19 : lw_okq (⟨"TwinRows$Fillings", "stand", "(III)V"⟩, 8) := ⟨⟨by decide +kernel, by decide +kernel⟩, List.mem_of_getElem? (i := 131) (by decide +kernel), List.mem_of_getElem? (i := 493) (by decide +kernel), List.mem_of_getElem? (i := 494) (by decide +kernel)⟩
theorem lw_p20 : lw_okq (⟨"TwinRows", "lookAtTold", "()I"⟩, 14) := ⟨⟨by decide +kernel, by decide +kernel⟩, List.mem_of_getElem? (i := 22) (by decide +kernel), List.mem_of_getElem? (i := 517) (by decide +kernel), List.mem_of_getElem? (i := 518) (by decide +kernel)⟩
theorem lw_p21 : lw_okq (⟨"TwinRows$Fillings", "rankOfNumber", "(J)I"⟩, 8) := ⟨⟨by decide +kernel, by decide +kernel⟩, List.mem_of_getElem? (i := 131) (by decide +kernel), List.mem_of_getElem? (i := 525) (by decide +kernel), List.mem_of_getElem? (i := 526) (by decide +kernel)⟩
theorem lw_p22 : lw_okq (⟨"TwinRows$Look", "clear", "(I)V"⟩, 3) := ⟨⟨by decide +kernel, by decide +kernel⟩, List.mem_of_getElem? (i := 171) (by decide +kernel), List.mem_of_getElem? (i := 534) (by decide +kernel), List.mem_of_getElem? (i := 535) (by decide +kernel)⟩
theorem lw_p23 : lw_okq (⟨"TwinRows$Look", "makeLeaving0", "(I)V"⟩, 3) := ⟨⟨by decide +kernel, by decide +kernel⟩, List.mem_of_getElem? (i := 171) (by decide +kernel), List.mem_of_getElem? (i := 577) (by decide +kernel), List.mem_of_getElem? (i := 578) (by decide +kernel)⟩
theorem lw_p24 : lw_okq (⟨"TwinRows$Look", "nest", "(IIII)V"⟩, 3) := ⟨⟨by decide +kernel, by decide +kernel⟩, List.mem_of_getElem? (i := 171) (by decide +kernel), List.mem_of_getElem? (i := 581) (by decide +kernel), List.mem_of_getElem? (i := 582) (by decide +kernel)⟩
theorem lw_p25 : lw_okq (⟨"TwinRows$Look", "twin", "(II)V"⟩, 3) := ⟨⟨by decide +kernel, by decide +kernel⟩, List.mem_of_getElem? (i := 171) (by decide +kernel), List.mem_of_getElem? (i := 585) (by decide +kernel), List.mem_of_getElem? (i := 586) (by decide +kernel)⟩
theorem lw_p26 : lw_okq (⟨"TwinRows$Look", "makeLeaving1", "(I)V"⟩, 3) := ⟨⟨by decide +kernel, by decide +kernel⟩, List.mem_of_getElem? (i := 171) (by decide +kernel), List.mem_of_getElem? (i := 589) (by decide +kernel), List.mem_of_getElem? (i := 590) (by decide +kernel)⟩
theorem lw_p27 : lw_okq (⟨"TwinRows$Look", "makeLeaving2", "(I)V"⟩, 3) := ⟨⟨by decide +kernel, by decide +kernel⟩, List.mem_of_getElem? (i := 171) (by decide +kernel), List.mem_of_getElem? (i := 593) (by decide +kernel), List.mem_of_getElem? (i := 594) (by decide +kernel)⟩
theorem lw_p28 : lw_okq (⟨"TwinRows$Look", "ringOrder", "()I"⟩, 3) := ⟨⟨by decide +kernel, by decide +kernel⟩, List.mem_of_getElem? (i := 171) (by decide +kernel), List.mem_of_getElem? (i := 605) (by decide +kernel), List.mem_of_getElem? (i := 606) (by decide +kernel)⟩
theorem lw_p29 : lw_okq (⟨"TwinRows$Look", "thirdAlong", "(III)I"⟩, 3) := ⟨⟨by decide +kernel, by decide +kernel⟩, List.mem_of_getElem? (i := 171) (by decide +kernel), List.mem_of_getElem? (i := 610) (by decide +kernel), List.mem_of_getElem? (i := 611) (by decide +kernel)⟩
theorem lw_p30 : lw_okq (⟨"TwinRows$Draws", "draw", "(I)I"⟩, 1) := ⟨⟨by decide +kernel, by decide +kernel⟩, List.mem_of_getElem? (i := 120) (by decide +kernel), List.mem_of_getElem? (i := 640) (by decide +kernel), List.mem_of_getElem? (i := 641) (by decide +kernel)⟩
theorem lw_p31 : lw_okq (⟨"TwinRows$Draws", "doPin", "(LTwinRows$Frame;)Z"⟩, 1) := ⟨⟨by decide +kernel, by decide +kernel⟩, List.mem_of_getElem? (i := 120) (by decide +kernel), List.mem_of_getElem? (i := 649) (by decide +kernel), List.mem_of_getElem? (i := 650) (by decide +kernel)⟩
def lw_privs_2 : List (MethodName × Nat) := [(⟨"TwinRows$Fillings", "weighPlaces", "(LTwinRows$Frame;)V"⟩, 8), (⟨"TwinRows$Fillings", "fill", "(III)V"⟩, 8), (⟨"TwinRows$Fillings", "keep", "()V"⟩, 8), (⟨"TwinRows$Fillings", "stand", "(III)V"⟩, 8), (⟨"TwinRows", "lookAtTold", "()I"⟩, 14), (⟨"TwinRows$Fillings", "rankOfNumber", "(J)I"⟩, 8), (⟨"TwinRows$Look", "clear", "(I)V"⟩, 3), (⟨"TwinRows$Look", "makeLeaving0", "(I)V"⟩, 3), (⟨"TwinRows$Look", "nest", "(IIII)V"⟩, 3), (⟨"TwinRows$Look", "twin", "(II)V"⟩, 3), (⟨"TwinRows$Look", "makeLeaving1", "(I)V"⟩, 3), (⟨"TwinRows$Look", "makeLeaving2", "(I)V"⟩, 3), (⟨"TwinRows$Look", "ringOrder", "()I"⟩, 3), (⟨"TwinRows$Look", "thirdAlong", "(III)I"⟩, 3), (⟨"TwinRows$Draws", "draw", "(I)I"⟩, 1), (⟨"TwinRows$Draws", "doPin", "(LTwinRows$Frame;)Z"⟩, 1)]
theorem lw_r2 : ∀ q ∈ lw_privs_2, lw_okq q := List.forall_mem_cons.mpr ⟨lw_p16, List.forall_mem_cons.mpr ⟨lw_p17, List.forall_mem_cons.mpr ⟨lw_p18, List.forall_mem_cons.mpr ⟨lw_p19, List.forall_mem_cons.mpr ⟨lw_p20, List.forall_mem_cons.mpr ⟨lw_p21, List.forall_mem_cons.mpr ⟨lw_p22, List.forall_mem_cons.mpr ⟨lw_p23, List.forall_mem_cons.mpr ⟨lw_p24, List.forall_mem_cons.mpr ⟨lw_p25, List.forall_mem_cons.mpr ⟨lw_p26, List.forall_mem_cons.mpr ⟨lw_p27, List.forall_mem_cons.mpr ⟨lw_p28, List.forall_mem_cons.mpr ⟨lw_p29, List.forall_mem_cons.mpr ⟨lw_p30, List.forall_mem_cons.mpr ⟨lw_p31, fun _ h => absurd h List.not_mem_nil⟩⟩⟩⟩⟩⟩⟩⟩⟩⟩⟩⟩⟩⟩⟩⟩
theorem lw_p32 : lw_okq (⟨"java/lang/Throwable", "fillInStackTrace", "(I)Ljava/lang/Throwable;"⟩, 6) := ⟨⟨by decide +kernel, by decide +kernel⟩, List.mem_of_getElem? (i := 723) (by decide +kernel), List.mem_of_getElem? (i := 721) (by decide +kernel), List.mem_of_getElem? (i := 722) (by decide +kernel)⟩
theorem lw_p33 : lw_okq (⟨"TwinRowsModel", "lay", "(I)V"⟩, 31) := ⟨⟨by decide +kernel, by decide +kernel⟩, List.mem_of_getElem? (i := 763) (by decide +kernel), List.mem_of_getElem? (i := 761) (by decide +kernel), List.mem_of_getElem? (i := 762) (by decide +kernel)⟩
theorem lw_p34 : lw_okq (⟨"TwinRowsModel", "goes", "()V"⟩, 31) := ⟨⟨by decide +kernel, by decide +kernel⟩, List.mem_of_getElem? (i := 763) (by decide +kernel), List.mem_of_getElem? (i := 874) (by decide +kernel), List.mem_of_getElem? (i := 875) (by decide +kernel)⟩
theorem lw_p35 : lw_okq (⟨"TwinRowsModel", "tapeAt", "(I)I"⟩, 31) := ⟨⟨by decide +kernel, by decide +kernel⟩, List.mem_of_getElem? (i := 763) (by decide +kernel), List.mem_of_getElem? (i := 884) (by decide +kernel), List.mem_of_getElem? (i := 885) (by decide +kernel)⟩
theorem lw_p36 : lw_okq (⟨"TwinRowsModel", "readRow", "()Z"⟩, 31) := ⟨⟨by decide +kernel, by decide +kernel⟩, List.mem_of_getElem? (i := 763) (by decide +kernel), List.mem_of_getElem? (i := 890) (by decide +kernel), List.mem_of_getElem? (i := 891) (by decide +kernel)⟩
theorem lw_p37 : lw_okq (⟨"TwinRowsModel", "isCells", "()Z"⟩, 31) := ⟨⟨by decide +kernel, by decide +kernel⟩, List.mem_of_getElem? (i := 763) (by decide +kernel), List.mem_of_getElem? (i := 894) (by decide +kernel), List.mem_of_getElem? (i := 895) (by decide +kernel)⟩
theorem lw_p38 : lw_okq (⟨"TwinRowsModel", "isWord", "(J)Z"⟩, 31) := ⟨⟨by decide +kernel, by decide +kernel⟩, List.mem_of_getElem? (i := 763) (by decide +kernel), List.mem_of_getElem? (i := 901) (by decide +kernel), List.mem_of_getElem? (i := 902) (by decide +kernel)⟩
theorem lw_p39 : lw_okq (⟨"TwinRowsModel", "readCells", "()Z"⟩, 31) := ⟨⟨by decide +kernel, by decide +kernel⟩, List.mem_of_getElem? (i := 763) (by decide +kernel), List.mem_of_getElem? (i := 905) (by decide +kernel), List.mem_of_getElem? (i := 906) (by decide +kernel)⟩
theorem lw_p40 : lw_okq (⟨"TwinRowsModel", "isNumber", "(II)Z"⟩, 31) := ⟨⟨by decide +kernel, by decide +kernel⟩, List.mem_of_getElem? (i := 763) (by decide +kernel), List.mem_of_getElem? (i := 909) (by decide +kernel), List.mem_of_getElem? (i := 910) (by decide +kernel)⟩
theorem lw_p41 : lw_okq (⟨"TwinRowsModel", "bad", "(I)Z"⟩, 31) := ⟨⟨by decide +kernel, by decide +kernel⟩, List.mem_of_getElem? (i := 763) (by decide +kernel), List.mem_of_getElem? (i := 913) (by decide +kernel), List.mem_of_getElem? (i := 914) (by decide +kernel)⟩
theorem lw_p42 : lw_okq (⟨"TwinRowsModel", "isHole", "()Z"⟩, 31) := ⟨⟨by decide +kernel, by decide +kernel⟩, List.mem_of_getElem? (i := 763) (by decide +kernel), List.mem_of_getElem? (i := 920) (by decide +kernel), List.mem_of_getElem? (i := 921) (by decide +kernel)⟩
theorem lw_p43 : lw_okq (⟨"TwinRowsModel", "readHole", "()Z"⟩, 31) := ⟨⟨by decide +kernel, by decide +kernel⟩, List.mem_of_getElem? (i := 763) (by decide +kernel), List.mem_of_getElem? (i := 924) (by decide +kernel), List.mem_of_getElem? (i := 925) (by decide +kernel)⟩
theorem lw_p44 : lw_okq (⟨"TwinRowsModel", "isPair", "()Z"⟩, 31) := ⟨⟨by decide +kernel, by decide +kernel⟩, List.mem_of_getElem? (i := 763) (by decide +kernel), List.mem_of_getElem? (i := 937) (by decide +kernel), List.mem_of_getElem? (i := 938) (by decide +kernel)⟩
theorem lw_p45 : lw_okq (⟨"TwinRowsModel", "readPair", "()Z"⟩, 31) := ⟨⟨by decide +kernel, by decide +kernel⟩, List.mem_of_getElem? (i := 763) (by decide +kernel), List.mem_of_getElem? (i := 941) (by decide +kernel), List.mem_of_getElem? (i := 942) (by decide +kernel)⟩
theorem lw_p46 : lw_okq (⟨"TwinRowsModel", "isAt", "()Z"⟩, 31) := ⟨⟨by decide +kernel, by decide +kernel⟩, List.mem_of_getElem? (i := 763) (by decide +kernel), List.mem_of_getElem? (i := 948) (by decide +kernel), List.mem_of_getElem? (i := 949) (by decide +kernel)⟩
theorem lw_p47 : lw_okq (⟨"TwinRowsModel", "readEnd", "()Z"⟩, 31) := ⟨⟨by decide +kernel, by decide +kernel⟩, List.mem_of_getElem? (i := 763) (by decide +kernel), List.mem_of_getElem? (i := 955) (by decide +kernel), List.mem_of_getElem? (i := 956) (by decide +kernel)⟩
def lw_privs_3 : List (MethodName × Nat) := [(⟨"java/lang/Throwable", "fillInStackTrace", "(I)Ljava/lang/Throwable;"⟩, 6), (⟨"TwinRowsModel", "lay", "(I)V"⟩, 31), (⟨"TwinRowsModel", "goes", "()V"⟩, 31), (⟨"TwinRowsModel", "tapeAt", "(I)I"⟩, 31), (⟨"TwinRowsModel", "readRow", "()Z"⟩, 31), (⟨"TwinRowsModel", "isCells", "()Z"⟩, 31), (⟨"TwinRowsModel", "isWord", "(J)Z"⟩, 31), (⟨"TwinRowsModel", "readCells", "()Z"⟩, 31), (⟨"TwinRowsModel", "isNumber", "(II)Z"⟩, 31), (⟨"TwinRowsModel", "bad", "(I)Z"⟩, 31), (⟨"TwinRowsModel", "isHole", "()Z"⟩, 31), (⟨"TwinRowsModel", "readHole", "()Z"⟩, 31), (⟨"TwinRowsModel", "isPair", "()Z"⟩, 31), (⟨"TwinRowsModel", "readPair", "()Z"⟩, 31), (⟨"TwinRowsModel", "isAt", "()Z"⟩, 31), (⟨"TwinRowsModel", "readEnd", "()Z"⟩, 31)]
theorem lw_r3 : ∀ q ∈ lw_privs_3, lw_okq q := List.forall_mem_cons.mpr ⟨lw_p32, List.forall_mem_cons.mpr ⟨lw_p33, List.forall_mem_cons.mpr ⟨lw_p34, List.forall_mem_cons.mpr ⟨lw_p35, List.forall_mem_cons.mpr ⟨lw_p36, List.forall_mem_cons.mpr ⟨lw_p37, List.forall_mem_cons.mpr ⟨lw_p38, List.forall_mem_cons.mpr ⟨lw_p39, List.forall_mem_cons.mpr ⟨lw_p40, List.forall_mem_cons.mpr ⟨lw_p41, List.forall_mem_cons.mpr ⟨lw_p42, List.forall_mem_cons.mpr ⟨lw_p43, List.forall_mem_cons.mpr ⟨lw_p44, List.forall_mem_cons.mpr ⟨lw_p45, List.forall_mem_cons.mpr ⟨lw_p46, List.forall_mem_cons.mpr ⟨lw_p47, fun _ h => absurd h List.not_mem_nil⟩⟩⟩⟩⟩⟩⟩⟩⟩⟩⟩⟩⟩⟩⟩⟩
theorem lw_p48 : lw_okq (⟨"TwinRowsModel", "snap", "()V"⟩, 31) := ⟨⟨by decide +kernel, by decide +kernel⟩, List.mem_of_getElem? (i := 763) (by decide +kernel), List.mem_of_getElem? (i := 970) (by decide +kernel), List.mem_of_getElem? (i := 971) (by decide +kernel)⟩
theorem lw_p49 : lw_okq (⟨"TwinRowsModel", "all", "([II)I"⟩, 31) := ⟨⟨by decide +kernel, by decide +kernel⟩, List.mem_of_getElem? (i := 763) (by decide +kernel), List.mem_of_getElem? (i := 981) (by decide +kernel), List.mem_of_getElem? (i := 982) (by decide +kernel)⟩
theorem lw_p50 : lw_okq (⟨"TwinRowsModel", "isEven", "([I)Z"⟩, 31) := ⟨⟨by decide +kernel, by decide +kernel⟩, List.mem_of_getElem? (i := 763) (by decide +kernel), List.mem_of_getElem? (i := 985) (by decide +kernel), List.mem_of_getElem? (i := 986) (by decide +kernel)⟩
theorem lw_p51 : lw_okq (⟨"TwinRowsModel", "fills", "([III)V"⟩, 31) := ⟨⟨by decide +kernel, by decide +kernel⟩, List.mem_of_getElem? (i := 763) (by decide +kernel), List.mem_of_getElem? (i := 989) (by decide +kernel), List.mem_of_getElem? (i := 990) (by decide +kernel)⟩
theorem lw_p52 : lw_okq (⟨"TwinRowsModel", "counts", "([I)V"⟩, 31) := ⟨⟨by decide +kernel, by decide +kernel⟩, List.mem_of_getElem? (i := 763) (by decide +kernel), List.mem_of_getElem? (i := 993) (by decide +kernel), List.mem_of_getElem? (i := 994) (by decide +kernel)⟩
theorem lw_p53 : lw_okq (⟨"TwinRowsModel", "refuse", "()I"⟩, 31) := ⟨⟨by decide +kernel, by decide +kernel⟩, List.mem_of_getElem? (i := 763) (by decide +kernel), List.mem_of_getElem? (i := 1001) (by decide +kernel), List.mem_of_getElem? (i := 1002) (by decide +kernel)⟩
theorem lw_p54 : lw_okq (⟨"TwinRowsModel", "looks", "([II)V"⟩, 31) := ⟨⟨by decide +kernel, by decide +kernel⟩, List.mem_of_getElem? (i := 763) (by decide +kernel), List.mem_of_getElem? (i := 1005) (by decide +kernel), List.mem_of_getElem? (i := 1006) (by decide +kernel)⟩
theorem lw_p55 : lw_okq (⟨"TwinRowsModel", "firstOf", "(I)I"⟩, 31) := ⟨⟨by decide +kernel, by decide +kernel⟩, List.mem_of_getElem? (i := 763) (by decide +kernel), List.mem_of_getElem? (i := 1017) (by decide +kernel), List.mem_of_getElem? (i := 1018) (by decide +kernel)⟩
theorem lw_p56 : lw_okq (⟨"TwinRowsModel", "ranked", "()I"⟩, 31) := ⟨⟨by decide +kernel, by decide +kernel⟩, List.mem_of_getElem? (i := 763) (by decide +kernel), List.mem_of_getElem? (i := 1025) (by decide +kernel), List.mem_of_getElem? (i := 1026) (by decide +kernel)⟩
theorem lw_p57 : lw_okq (⟨"TwinRowsModel", "laysFours", "(I)V"⟩, 31) := ⟨⟨by decide +kernel, by decide +kernel⟩, List.mem_of_getElem? (i := 763) (by decide +kernel), List.mem_of_getElem? (i := 1053) (by decide +kernel), List.mem_of_getElem? (i := 1054) (by decide +kernel)⟩
theorem lw_p58 : lw_okq (⟨"TwinRowsModel", "two", "(II)V"⟩, 31) := ⟨⟨by decide +kernel, by decide +kernel⟩, List.mem_of_getElem? (i := 763) (by decide +kernel), List.mem_of_getElem? (i := 1057) (by decide +kernel), List.mem_of_getElem? (i := 1058) (by decide +kernel)⟩
theorem lw_p59 : lw_okq (⟨"TwinRowsModel", "laysOnes", "(I)V"⟩, 31) := ⟨⟨by decide +kernel, by decide +kernel⟩, List.mem_of_getElem? (i := 763) (by decide +kernel), List.mem_of_getElem? (i := 1061) (by decide +kernel), List.mem_of_getElem? (i := 1062) (by decide +kernel)⟩
theorem lw_p60 : lw_okq (⟨"TwinRowsModel", "laysTwos", "(I)V"⟩, 31) := ⟨⟨by decide +kernel, by decide +kernel⟩, List.mem_of_getElem? (i := 763) (by decide +kernel), List.mem_of_getElem? (i := 1065) (by decide +kernel), List.mem_of_getElem? (i := 1066) (by decide +kernel)⟩
theorem lw_p61 : lw_okq (⟨"TwinRowsModel", "orderOf", "()I"⟩, 31) := ⟨⟨by decide +kernel, by decide +kernel⟩, List.mem_of_getElem? (i := 763) (by decide +kernel), List.mem_of_getElem? (i := 1073) (by decide +kernel), List.mem_of_getElem? (i := 1074) (by decide +kernel)⟩
theorem lw_p62 : lw_okq (⟨"TwinRowsModel", "pinnedOnes", "()I"⟩, 31) := ⟨⟨by decide +kernel, by decide +kernel⟩, List.mem_of_getElem? (i := 763) (by decide +kernel), List.mem_of_getElem? (i := 1081) (by decide +kernel), List.mem_of_getElem? (i := 1082) (by decide +kernel)⟩
theorem lw_p63 : lw_okq (⟨"TwinRowsModel", "mayHole", "(IZ)Z"⟩, 31) := ⟨⟨by decide +kernel, by decide +kernel⟩, List.mem_of_getElem? (i := 763) (by decide +kernel), List.mem_of_getElem? (i := 1093) (by decide +kernel), List.mem_of_getElem? (i := 1094) (by decide +kernel)⟩
def lw_privs_4 : List (MethodName × Nat) := [(⟨"TwinRowsModel", "snap", "()V"⟩, 31), (⟨"TwinRowsModel", "all", "([II)I"⟩, 31), (⟨"TwinRowsModel", "isEven", "([I)Z"⟩, 31), (⟨"TwinRowsModel", "fills", "([III)V"⟩, 31), (⟨"TwinRowsModel", "counts", "([I)V"⟩, 31), (⟨"TwinRowsModel", "refuse", "()I"⟩, 31), (⟨"TwinRowsModel", "looks", "([II)V"⟩, 31), (⟨"TwinRowsModel", "firstOf", "(I)I"⟩, 31), (⟨"TwinRowsModel", "ranked", "()I"⟩, 31), (⟨"TwinRowsModel", "laysFours", "(I)V"⟩, 31), (⟨"TwinRowsModel", "two", "(II)V"⟩, 31), (⟨"TwinRowsModel", "laysOnes", "(I)V"⟩, 31), (⟨"TwinRowsModel", "laysTwos", "(I)V"⟩, 31), (⟨"TwinRowsModel", "orderOf", "()I"⟩, 31), (⟨"TwinRowsModel", "pinnedOnes", "()I"⟩, 31), (⟨"TwinRowsModel", "mayHole", "(IZ)Z"⟩, 31)]
theorem lw_r4 : ∀ q ∈ lw_privs_4, lw_okq q := List.forall_mem_cons.mpr ⟨lw_p48, List.forall_mem_cons.mpr ⟨lw_p49, List.forall_mem_cons.mpr ⟨lw_p50, List.forall_mem_cons.mpr ⟨lw_p51, List.forall_mem_cons.mpr ⟨lw_p52, List.forall_mem_cons.mpr ⟨lw_p53, List.forall_mem_cons.mpr ⟨lw_p54, List.forall_mem_cons.mpr ⟨lw_p55, List.forall_mem_cons.mpr ⟨lw_p56, List.forall_mem_cons.mpr ⟨lw_p57, List.forall_mem_cons.mpr ⟨lw_p58, List.forall_mem_cons.mpr ⟨lw_p59, List.forall_mem_cons.mpr ⟨lw_p60, List.forall_mem_cons.mpr ⟨lw_p61, List.forall_mem_cons.mpr ⟨lw_p62, List.forall_mem_cons.mpr ⟨lw_p63, fun _ h => absurd h List.not_mem_nil⟩⟩⟩⟩⟩⟩⟩⟩⟩⟩⟩⟩⟩⟩⟩⟩
theorem lw_p64 : lw_okq (⟨"TwinRowsModel", "mayPair", "(IZ)Z"⟩, 31) := ⟨⟨by decide +kernel, by decide +kernel⟩, List.mem_of_getElem? (i := 763) (by decide +kernel), List.mem_of_getElem? (i := 1101) (by decide +kernel), List.mem_of_getElem? (i := 1102) (by decide +kernel)⟩
theorem lw_p65 : lw_okq (⟨"TwinRowsModel", "turns", "(I)V"⟩, 31) := ⟨⟨by decide +kernel, by decide +kernel⟩, List.mem_of_getElem? (i := 763) (by decide +kernel), List.mem_of_getElem? (i := 1105) (by decide +kernel), List.mem_of_getElem? (i := 1106) (by decide +kernel)⟩
theorem lw_p66 : lw_okq (⟨"TwinRowsModel", "does", "()Z"⟩, 31) := ⟨⟨by decide +kernel, by decide +kernel⟩, List.mem_of_getElem? (i := 763) (by decide +kernel), List.mem_of_getElem? (i := 1117) (by decide +kernel), List.mem_of_getElem? (i := 1118) (by decide +kernel)⟩
theorem lw_p67 : lw_okq (⟨"TwinRowsModel", "draw", "(I)I"⟩, 31) := ⟨⟨by decide +kernel, by decide +kernel⟩, List.mem_of_getElem? (i := 763) (by decide +kernel), List.mem_of_getElem? (i := 1121) (by decide +kernel), List.mem_of_getElem? (i := 1122) (by decide +kernel)⟩
theorem lw_p68 : lw_okq (⟨"TwinRowsModel", "distance", "(I)I"⟩, 31) := ⟨⟨by decide +kernel, by decide +kernel⟩, List.mem_of_getElem? (i := 763) (by decide +kernel), List.mem_of_getElem? (i := 1126) (by decide +kernel), List.mem_of_getElem? (i := 1127) (by decide +kernel)⟩
theorem lw_p69 : lw_okq (⟨"TwinRowsModel", "stay", "()V"⟩, 31) := ⟨⟨by decide +kernel, by decide +kernel⟩, List.mem_of_getElem? (i := 763) (by decide +kernel), List.mem_of_getElem? (i := 1130) (by decide +kernel), List.mem_of_getElem? (i := 1131) (by decide +kernel)⟩
def lw_privs_5 : List (MethodName × Nat) := [(⟨"TwinRowsModel", "mayPair", "(IZ)Z"⟩, 31), (⟨"TwinRowsModel", "turns", "(I)V"⟩, 31), (⟨"TwinRowsModel", "does", "()Z"⟩, 31), (⟨"TwinRowsModel", "draw", "(I)I"⟩, 31), (⟨"TwinRowsModel", "distance", "(I)I"⟩, 31), (⟨"TwinRowsModel", "stay", "()V"⟩, 31)]
theorem lw_r5 : ∀ q ∈ lw_privs_5, lw_okq q := List.forall_mem_cons.mpr ⟨lw_p64, List.forall_mem_cons.mpr ⟨lw_p65, List.forall_mem_cons.mpr ⟨lw_p66, List.forall_mem_cons.mpr ⟨lw_p67, List.forall_mem_cons.mpr ⟨lw_p68, List.forall_mem_cons.mpr ⟨lw_p69, fun _ h => absurd h List.not_mem_nil⟩⟩⟩⟩⟩⟩
def lw_privs : List (MethodName × Nat) := lw_privs_1 ++ (lw_privs_2 ++ (lw_privs_3 ++ (lw_privs_4 ++ (lw_privs_5))))
def lw_tbl : List Cond := k2_sels lw_privs ++ tables_1
theorem lw_privs_ok : ∀ q ∈ lw_privs, lw_okq q := by
  show ∀ q ∈ lw_privs_1 ++ (lw_privs_2 ++ (lw_privs_3 ++ (lw_privs_4 ++ (lw_privs_5)))), lw_okq q
  exact List.forall_mem_append.mpr ⟨lw_r1, List.forall_mem_append.mpr ⟨lw_r2, List.forall_mem_append.mpr ⟨lw_r3, List.forall_mem_append.mpr ⟨lw_r4, lw_r5⟩⟩⟩⟩
/-- the kit's printed names use these four rows and do not bring them -/
def va_AOA (t : FieldType) (U : State) : Prop := (Cond.arrayOver (.array t)).before #[] U = true
theorem va_AOA.of {t : FieldType} {A : Array Value} {U : State} (h : (Cond.arrayOver (.array t)).before A U = true) : va_AOA t U := h
theorem va_AOA.use {t : FieldType} {A : Array Value} {U : State} (h : va_AOA t U) : (Cond.arrayOver (.array t)).before A U = true := h
/-! ===== BEGIN words of one list among another's, by their places ===== -/
theorem goodIn_r {big : List Cond} (ws : List Cond) (ps : List Nat) (hp : ws = ps.filterMap (fun i => big[i]?)) (h : ws.all goodWord = true) : GoodIn big ws := by
  intro w hw
  have h1 := List.all_eq_true.mp h w hw
  rw [hp] at hw
  obtain ⟨i, -, hi⟩ := List.mem_filterMap.mp hw
  have hm : w ∈ big := by first | exact List.mem_of_getElem? hi | exact List.getElem?_mem hi
  exact ⟨hm, good_of_word h1⟩
theorem goodIn_app {big a b : List Cond} (ha : GoodIn big a) (hb : GoodIn big b) : GoodIn big (a ++ b) := fun w h => (List.mem_append.mp h).elim (ha w) (hb w)
theorem goodIn_ca {big a b : List Cond} {c : Cond} (ha : GoodIn big (c :: a)) (hb : GoodIn big b) : GoodIn big (c :: (a ++ b)) := fun w h => (List.mem_cons.mp h).elim (fun e => ha w (List.mem_cons.mpr (Or.inl e))) (fun h => (List.mem_append.mp h).elim (fun h => ha w (List.mem_cons.mpr (Or.inr h))) (hb w))
theorem goodIn_sub {big ws : List Cond} (hm : ∀ w ∈ ws, w ∈ big) (h : ws.all goodWord = true) : GoodIn big ws := fun w hw => ⟨hm w hw, good_of_word (List.all_eq_true.mp h w hw)⟩
/-! ===== END ===== -/

/-! ===== BEGIN new T[n][m]: the outer array a place, the inner ones among the pooled ===== -/
/-- f, but v at every address of l -/
def vr_up {α : Type} (f : Nat → α) (l : List Nat) (v : α) : Nat → α := fun a => if a ∈ l then v else f a
theorem vr_up_in {α : Type} {f : Nat → α} {l : List Nat} {v : α} {a : Nat} (h : a ∈ l) : vr_up f l v a = v := if_pos h
theorem vr_up_ne {α : Type} {f : Nat → α} {l : List Nat} {v : α} {a : Nat} (h : a ∉ l) : vr_up f l v a = f a := if_neg h
theorem vr_rows {L l : List Nat} {f : Nat → va_E} {e : va_E} (h : ∀ a, a ∈ l → a ∉ L) : va_pl L f ++ l.map (fun a => (a, e)) = va_pl (L ++ l) (vr_up f l e) := by
  unfold va_pl
  rw [List.map_append]
  congr 1
  · apply List.map_congr_left
    intro a ha
    rw [vr_up_ne (fun q => h a q ha)]
  · apply List.map_congr_left
    intro a ha
    rw [vr_up_in ha]
theorem vr_lay {X rows : va_W} {x : Nat × va_E} {pl : va_W} {D : va_G} {cl : List vw_C} {H : Heap} (hP : va_P D cl (((X ++ pl) ++ [x]) ++ rows) H) : va_P D cl ((X ++ [x]) ++ (pl ++ rows)) H := by
  rw [List.append_assoc (X ++ pl)] at hP
  have h := va_P.swap hP
  rw [← List.append_assoc X] at h
  have h2 := va_P.swap h
  rw [List.append_assoc (X ++ [x])] at h2
  exact h2
theorem vr_layD {X rows : va_W} {x : Nat × va_E} {pl : va_W} {A : Nat → Prop} (hD : va_D A (((X ++ pl) ++ [x]) ++ rows)) : va_D A ((X ++ [x]) ++ (pl ++ rows)) := by
  rw [List.append_assoc (X ++ pl)] at hD
  have h := va_D.swap hD
  rw [← List.append_assoc X] at h
  have h2 := va_D.swap h
  rw [List.append_assoc (X ++ [x])] at h2
  exact h2
theorem vr_outer (c : ClassId) (N h0 : Nat) : ∀ i : Nat, Jvm.Free.Multi.outerC c N h0 i = arrV c N (fun j => va_rf (if j < i then some (h0 + 1 + j) else none))
  | 0 => by
    show ({ cls := c, slots := Array.replicate N .null, vm := .none } : Cell) = _
    rw [arrV_new]
    refine congrArg (arrV c N) (funext fun j => ?_)
    simp [va_rf]
  | i + 1 => by
    show (Jvm.Free.Multi.outerC c N h0 i).setSlot i (.ref (h0 + 1 + i)) = _
    rw [vr_outer c N h0 i, arrV_store]
    refine congrArg (arrV c N) (funext fun j => ?_)
    by_cases e : j = i
    · subst e
      simp [updV, va_rf]
    · by_cases h : j < i
      · simp [updV, e, h, Nat.lt_succ_of_lt h]
      · simp [updV, e, h, show ¬ j < i + 1 by omega]
section VGM
variable {p : Program} {l : Launch} {e : Env} {R : Room} {s : State} {m : MethodId} {args : Array Value} {below : List Frame} {meth : Method} {c : Code} {H : Heap} {locs : List Loc} {cells slots : Nat} {Q : State → Prop}
variable {cc : ByteArray} {pc : Nat} {ls : Array Slot} {rest : List Value} {D : va_G} {cl : List vw_C} {A : Nat → Prop} {a : Nat} {tys : List (ClassId × FieldType)} {ws : va_W} {H0 : Heap}
theorem va_mna {X : va_W} {L : List Nat} {f : Nat → va_E} {cc : ByteArray} (hexec : p.tables.exec = Jvm.exec) (hb : c.code = cc) {own : String} {index : Nat} {ty : FieldType} {cy : ClassId} (hown : s.vm.findClass own = some m.cls) (hclink : (Cond.classLink own index ("[" ++ (FieldType.array ty).toString)).before args s = true) (hover : va_AOA ty s) (harr : (Cond.arrayClass ty).before args s = true) (hcy : s.vm.findClass (FieldType.array ty).toString = some cy)
    (hK : va_K D cl tys s) (hP : va_P D cl (X ++ va_pl L f) H) (hD : va_D A (X ++ va_pl L f)) (hS : va_S A H0 H locs) (hA : ∀ q, H0.size ≤ q → A q) {n k : Int32} {N' K' : Nat} {z : vp_A} (hn : ¬ n < 0) (hk : ¬ k < 0) (hN : n.toNatClampNeg = N') (hM : k.toNatClampNeg = K')
    (hb1 : N' * 4 ≤ 536870912) (hb2 : K' * componentBytes ty ≤ 536870912) (hb3 : K' ≤ 536870912) (hdf : fits ty (defaultValue ty) = true) (hdd : (defaultValue ty).isDefault = true) (hcells : cells + (1 + N') ≤ R.cells) (hslots : slots + (N' + N' * K') ≤ R.slots) (hz : ∀ c : ClassId, Jvm.Free.Multi.innerC c K' (defaultValue ty) = vp_cell c z) (hdg : decode cc pc = .ok (.multianewarray index 2, 4))
    (kk : ∀ (q : Nat) (r : Nat → Nat) (cA : ClassId) (H1 : Heap), (∀ i j : Nat, i < N' → j < N' → r i = r j → i = j) → (∀ i : Nat, i < N' → r i ∉ L) → va_K D cl (tys ++ [(cA, .array ty)]) s →
      va_P D cl ((X ++ [(q, .inl (cA, N', .inr (.inr (.inr (.inr (fun i => if i < N' then some (r i) else none))))))]) ++ va_pl (L ++ (List.range N').map r) (vr_up f ((List.range N').map r) (.inl (cy, z)))) H1 → va_D A ((X ++ [(q, .inl (cA, N', .inr (.inr (.inr (.inr (fun i => if i < N' then some (r i) else none))))))]) ++ va_pl (L ++ (List.range N').map r) (vr_up f ((List.range N').map r) (.inl (cy, z)))) → va_S A H0 H1 locs →
      W p l e R s m args below meth c H1 locs (cells + 1 + N') (slots + N' + N' * K') Q (F0 m (pc + 4) ls (.ref q :: rest))) : W p l e R s m args below meth c H locs cells slots Q (F0 m pc ls (.int k :: .int n :: rest)) := by
  subst hN
  subst hM
  intro T hT Xs
  obtain ⟨vm₁, cA, comp, -, fA, fC, hO, -, X', step⟩ := Xs.multianewarray2F hexec hown hclink (va_AOA.use hover) harr (g := F0 m pc ls (.int k :: .int n :: rest)) rfl (by rw [hb]; exact hdg) rfl hn hk hb1 hb2 hb3 hdf hdd hcells hslots
  have ec : some cy = some comp := hcy.symm.trans fC
  cases ec
  generalize hF : Jvm.Free.Multi.fill (T.setVm vm₁) cA cy n.toNatClampNeg k.toNatClampNeg (defaultValue ty) n.toNatClampNeg = F at X' step
  have hTh : (T.setVm vm₁).heap = H := hT
  obtain ⟨f1, f2, -, -⟩ := Jvm.Free.Multi.fill_facts (T.setVm vm₁) cA cy n.toNatClampNeg k.toNatClampNeg (defaultValue ty) n.toNatClampNeg
  rw [hF, hTh] at f1 f2
  have hold : ∀ x : Nat, x < H.size → F.heap[x]? = H[x]? := fun x hx => by
    have := Jvm.Free.Multi.fill_old (T.setVm vm₁) cA cy n.toNatClampNeg k.toNatClampNeg (defaultValue ty) (a := x) (by rw [hTh]; exact hx) n.toNatClampNeg
    rw [hF, hTh] at this
    exact this
  have hrow : ∀ j : Nat, j < n.toNatClampNeg → F.heap[H.size + 1 + j]? = some (vp_cell cy z) := fun j hj => by
    have := Jvm.Free.Multi.fill_inner (T.setVm vm₁) cA cy n.toNatClampNeg k.toNatClampNeg (defaultValue ty) n.toNatClampNeg j hj
    rw [hF, hTh, hz] at this
    exact this
  have hout : Jvm.Free.Multi.outerC cA n.toNatClampNeg H.size n.toNatClampNeg = vp_cell cA (n.toNatClampNeg, .inr (.inr (.inr (.inr (fun i => if i < n.toNatClampNeg then some (H.size + 1 + i) else none))))) := by
    rw [vp_cell_q]
    exact vr_outer cA n.toNatClampNeg H.size n.toNatClampNeg
  rw [hout] at f2
  have hlt : ∀ a, a ∈ L → a < H.size := fun a ha => by
    obtain ⟨k9, hk9⟩ := va_pl_get (X := X) (f := f) ha
    exact (hP k9 _ hk9).lt
  have hnl : ∀ i : Nat, i < n.toNatClampNeg → H.size + 1 + i ∉ L := fun i _ h => by
    have := hlt _ h
    omega
  have hnm : ∀ a, a ∈ (List.range n.toNatClampNeg).map (fun i => H.size + 1 + i) → a ∉ L := fun a ha h => by
    obtain ⟨i, -, rfl⟩ := List.mem_map.mp ha
    have := hlt _ h
    omega
  have hP0 : va_P D cl (X ++ va_pl L f) F.heap := hP.kept (fun k9 x hx => hold x.1 ((hP k9 x hx).lt))
  have hP1 : va_P D cl ((X ++ va_pl L f) ++ [(H.size, .inl (cA, n.toNatClampNeg, .inr (.inr (.inr (.inr (fun i => if i < n.toNatClampNeg then some (H.size + 1 + i) else none))))))]) F.heap := hP0.app (fun k9 x hx => by
    have h0 : k9 < 1 := (List.getElem?_eq_some_iff.mp hx).1
    rw [show k9 = 0 by omega] at hx
    cases hx
    exact f2)
  have hP2 : va_P D cl (((X ++ va_pl L f) ++ [(H.size, .inl (cA, n.toNatClampNeg, .inr (.inr (.inr (.inr (fun i => if i < n.toNatClampNeg then some (H.size + 1 + i) else none))))))]) ++ ((List.range n.toNatClampNeg).map (fun i => H.size + 1 + i)).map (fun a => (a, .inl (cy, z)))) F.heap := hP1.app (fun k9 x hx => by
    obtain ⟨a, ha, rfl⟩ := List.mem_map.mp (List.mem_of_getElem? hx)
    obtain ⟨i, hi, rfl⟩ := List.mem_map.mp ha
    exact hrow i (List.mem_range.mp hi))
  have hD2 : va_D A (((X ++ va_pl L f) ++ [(H.size, .inl (cA, n.toNatClampNeg, .inr (.inr (.inr (.inr (fun i => if i < n.toNatClampNeg then some (H.size + 1 + i) else none))))))]) ++ ((List.range n.toNatClampNeg).map (fun i => H.size + 1 + i)).map (fun a => (a, .inl (cy, z)))) := by
    have hD1 := hD.push (e := .inl (cA, n.toNatClampNeg, .inr (.inr (.inr (.inr (fun i => if i < n.toNatClampNeg then some (H.size + 1 + i) else none)))))) hP rfl (hA _ hS.1)
    generalize hW1 : (X ++ va_pl L f) ++ [(H.size, .inl (cA, n.toNatClampNeg, .inr (.inr (.inr (.inr (fun i => if i < n.toNatClampNeg then some (H.size + 1 + i) else none))))))] = W1 at hD1 hP1 ⊢
    have hle : ∀ (k9 : Nat) (x : Nat × va_E), W1[k9]? = some x → x.1 ≤ H.size := fun k9 x hx => by
      rw [← hW1] at hx
      by_cases hl : k9 < (X ++ va_pl L f).length
      · rw [List.getElem?_append_left hl] at hx
        exact Nat.le_of_lt ((hP k9 x hx).lt)
      · rw [List.getElem?_append_right (by omega)] at hx
        have h0 : k9 - (X ++ va_pl L f).length < 1 := (List.getElem?_eq_some_iff.mp hx).1
        rw [show k9 - (X ++ va_pl L f).length = 0 by omega] at hx
        cases hx
        exact Nat.le_refl _
    have hr : ∀ (k9 : Nat) (x : Nat × va_E), (((List.range n.toNatClampNeg).map (fun i => H.size + 1 + i)).map (fun a => ((a, .inl (cy, z)) : Nat × va_E)))[k9]? = some x → x.1 = H.size + 1 + k9 := fun k9 x hx => by
      rw [List.getElem?_map, List.getElem?_map] at hx
      by_cases h9 : k9 < n.toNatClampNeg
      · rw [List.getElem?_range h9] at hx
        cases hx
        rfl
      · have hn0 : (List.range n.toNatClampNeg)[k9]? = none := List.getElem?_eq_none (by rw [List.length_range]; omega)
        rw [hn0] at hx
        cases hx
    refine ⟨fun i j x y hi hj hxy => ?_, fun k9 x hx => ?_⟩
    · by_cases h1 : i < W1.length <;> by_cases h2 : j < W1.length
      · rw [List.getElem?_append_left h1] at hi
        rw [List.getElem?_append_left h2] at hj
        exact hD1.1 i j x y hi hj hxy
      · rw [List.getElem?_append_left h1] at hi
        rw [List.getElem?_append_right (by omega)] at hj
        have := hle _ _ hi
        have := hr _ _ hj
        omega
      · rw [List.getElem?_append_right (by omega)] at hi
        rw [List.getElem?_append_left h2] at hj
        have := hle _ _ hj
        have := hr _ _ hi
        omega
      · rw [List.getElem?_append_right (by omega)] at hi hj
        have := hr _ _ hi
        have := hr _ _ hj
        omega
    · by_cases h1 : k9 < W1.length
      · rw [List.getElem?_append_left h1] at hx
        exact hD1.2 k9 x hx
      · rw [List.getElem?_append_right (by omega)] at hx
        have := hr _ _ hx
        exact hA _ (by have := hS.1; omega)
  have hAr : ArrOfT s cA (.array ty) := fun N9 z9 => by
    obtain ⟨-, k9, hk9, cm9, hkk9⟩ := (hO 0 0 0).1
    exact ⟨(fun q hq => by cases hq), k9, hk9, cm9, hkk9⟩
  have hK2 : va_K D cl (tys ++ [(cA, .array ty)]) s := ⟨hK.1, fun k9 x hx => by
    by_cases hl : k9 < tys.length
    · rw [List.getElem?_append_left hl] at hx
      exact hK.2 k9 x hx
    · rw [List.getElem?_append_right (by omega)] at hx
      have h0 : k9 - tys.length < 1 := (List.getElem?_eq_some_iff.mp hx).1
      rw [show k9 - tys.length = 0 by omega] at hx
      cases hx
      exact ⟨hAr, fA⟩⟩
  obtain ⟨t, a1, b1⟩ := kk H.size (fun i => H.size + 1 + i) cA F.heap (fun i j _ _ h => by have h9 : H.size + 1 + i = H.size + 1 + j := h; omega) hnl hK2 (by rw [← vr_rows hnm]; exact vr_lay hP2) (by rw [← vr_rows hnm]; exact vr_layD hD2) ⟨by rw [f1]; have := hS.1; omega, fun x h1 h2 => (hold x (Nat.lt_of_lt_of_le h1 hS.1)).trans (hS.2.1 x h1 h2), hS.2.2⟩ F rfl X'
  refine ⟨t, step t ?_, b1⟩
  have e : T.heap.size = H.size := by rw [hT]
  rw [e]
  exact a1
end VGM
/-! ===== END ===== -/

/-! ===== BEGIN exceptions that leave a method, and their catching by the caller (launches without stack traces) ===== -/
section VXA
/-! The laws vx_back, vx_callV, vx_callS, vx_callSW, vx_throw0, vx_throwS follow proofs of the library, with one case more: JvmDerived/Free/Laws.lean (Back.of_free), Shelf42/LK1.lean (callV, callS), Shelf/KitTraced.lean (throwNew0V, throwNewS). -/
/-- where a method has thrown q: the class by its name, the cell, what was written, the world -/
def vx_T (XC : String → State → State → Prop) (st : State) (q : Addr) (t : State) (mc ms : Nat) (free : Addr → Prop) : Prop :=
  ∃ (E : String) (ce : Cell) (L : List Loc), XC E st t ∧ t.heap[q]? = some ce ∧ ce.vm = .none ∧ st.vm.findClass E = some ce.cls ∧ st.WarmedH t.vm ∧ st.sameButNew ({ t with vm := st.vm } : State) L mc ms ∧ ∀ z ∈ L, free z.base
def vx_Q (Qc : Array Value → State → Outcome → State → Prop) (XC : String → State → State → Prop) (mc ms : Nat) (free : Addr → Prop) : Array Value → State → Outcome → State → Prop := fun a st o t =>
  (Qc a st o t ∧ ∃ L, FrameEnd st o t L mc ms ∧ ∀ q ∈ L, free q.base) ∨ ∃ q, o = .threw q ∧ vx_T XC st q t mc ms free
/-- a callee that returns or throws -/
def vx_Met (l : Launch) (y : MethodName) (ws : List Cond) (rm : Room) (Pc : Array Value → State → Prop) (Qc : Array Value → State → Outcome → State → Prop) (XC : String → State → State → Prop) (mc ms : Nat) (free : Addr → Prop) : Prop :=
  MetFree l y (headSpec ws rm) Pc (fun _ _ _ _ _ => True) (vx_Q Qc XC mc ms free)
def vx_Post (XC : String → State → State → Prop) (mc ms : Nat) (free : Addr → Prop) : Pt → Array Value → Addr → Pt → Prop := fun A a q B =>
  ∃ (g : JFrame) (mk : MethodId) (t : State) (L : List Loc) (E : String) (ce : Cell), B.U.heap = t.heap ∧ B.U.vm = t.vm ∧ XC E (A.U.calling g mk a) t ∧ t.heap[q]? = some ce ∧ ce.vm = .none ∧ A.U.vm.findClass E = some ce.cls ∧ B.locs = A.locs ++ L ∧ (∀ z ∈ L, free z.base) ∧ B.cells = A.cells + mc ∧ B.slots = A.slots + ms
def vx_Back (l : Launch) (R : Room) (p : Program) (e : Env) (below : List Frame) (s : State) (sargs : Array Value) (y : MethodName) (len W9 : Nat)
    (Pre : Pt → Array Value → Prop) (Post : Pt → Array Value → Option Value → Pt → Prop) (PostX : Pt → Array Value → Addr → Pt → Prop) : Prop :=
  ∀ (m : MethodId) (meth : Method) (c : Code) (A : Pt) (g : JFrame) (ig : Instr) (mk : MethodId) (a : Array Value),
    Stand p l e R s m sargs below meth c A.U A.locs A.cells A.slots → g.method = m → g.locals.size = c.maxLocals → decode c.code g.pc = .ok (ig, len) →
    2 * g.monitorRoom + (g.stack.map fun v => v.category).sum ≤ W9 → A.U.methodNamed? y = some mk → Pre A a →
    (∃ (v : Option Value) (B : Pt), Stand p l e R s m sargs below meth c B.U B.locs B.cells B.slots ∧ Post A a v B ∧
      Steps p.tables e below (doInvoke e (A.U.setTop g) [] mk a).1 (B.U.setTop { g with pc := g.pc + len, stack := v.toList ++ g.stack })) ∨
    (∃ (q : Addr) (B : Pt), Stand p l e R s m sargs below meth c B.U B.locs B.cells B.slots ∧ PostX A a q B ∧
      Steps p.tables e below (doInvoke e (A.U.setTop g) [] mk a).1 ((B.U.setTop g).pushFrame (.throwing q)))
section Payer
variable {l : Launch} {R : Room} {p : Program} {e : Env} {below : List Frame} {s : State} {sargs : Array Value} {y : MethodName} {len W9 : Nat}
theorem vx_back {ws : List Cond} {rm : Room} {Pc : Array Value → State → Prop} {Qc : Array Value → State → Outcome → State → Prop} {XC : String → State → State → Prop} {mc ms : Nat} {free : Addr → Prop} {bytes : ByteArray} {maxL : Nat} {ret : Option FieldType}
    (hM : vx_Met l y ws rm Pc Qc XC mc ms free) (hblind : FrameBlind Pc) (hrc : rm.cells = mc) (hrs : rm.slots = ms)
    (hframes : rm.frames + 1 ≤ R.frames) (hlocals : W9 + (maxL + 11) + rm.locals ≤ R.locals)
    (hws : ∀ w ∈ ws, ∀ a' U, s.WarmedH U.vm → w.before a' U = true) (hcode : Cond.code y bytes maxL ret ∈ ws) (hinit : ∀ a' U, s.WarmedH U.vm → (Cond.initialized y.cls).before a' U = true) :
    vx_Back l R p e below s sargs y len W9 (PreOf R mc ms Pc) (PostOf Qc mc ms free) (vx_Post XC mc ms free) := by
  intro m meth c A g ig mk a X hg hsize hdg hW hn hp
  have h1 : (headSpec ws rm).pre.before a A.U = true := atoms_intro fun w hw => hws w hw _ _ X.warmed
  have h2 : (Cond.code y bytes maxL ret).before a A.U = true := hws _ hcode _ _ X.warmed
  have h3 : (Cond.initialized y.cls).before a A.U = true := hinit _ _ X.warmed
  have h4 : A.cells + (headSpec ws rm).room.cells ≤ R.cells := by rw [show (headSpec ws rm).room.cells = mc from hrc]; exact hp.1
  have h5 : A.slots + (headSpec ws rm).room.slots ≤ R.slots := by rw [show (headSpec ws rm).room.slots = ms from hrs]; exact hp.2.1
  have hPc : Pc a (A.U.calling g mk a) := hblind _ _ _ _ hp.2.2
  obtain ⟨U, Ls, c0, s0⟩ := A
  dsimp only [Pt.U, Pt.locs, Pt.cells, Pt.slots] at h1 h2 h3 h4 h5 X hn hPc ⊢
  obtain ⟨methY, cY, hmY, hcY, -, hlY, -, -, -, -⟩ := Cond.code_spec hn h2
  obtain ⟨kY, hkY, -⟩ := className_of_methodNamed hn
  have hinitY : kY.init = .initialized := Cond.initialized_spec (findClass_of_methodNamed hn) hkY h3
  have h : At U g.method c below := by rw [hg]; exact X.here
  have hlocals9 : W9 + (maxL + 11) + (headSpec ws rm).room.locals ≤ R.locals := hlocals
  have happ : (headSpec ws rm).appliesLoose y e.platform (U.calling g mk a) = true :=
    Spec.appliesLoose_calling (g := g) h hdg hn hkY hinitY
      (X.room_calling (g := g) (R' := (headSpec ws rm).room) hsize hmY hcY hframes (by rw [hlY]; omega) h4 h5) h1
  obtain ⟨mid, hmid⟩ := h.above
  have hfr : (U.setTop g).frames = (.java g :: mid) ++ below := by rw [State.frames_setTop' g h.top, hmid]; rfl
  obtain ⟨o, s₂, hsteps, -, hend, hq⟩ := Steps.callFree hM p X.admits X.cas X.clock (acts := []) hfr happ hPc trivial
  have hq' : vx_Q Qc XC mc ms free a (U.calling g mk a) o s₂ := hq
  rw [State.frames_setTop' g h.top] at hend
  obtain ⟨g₀, hg0⟩ := Option.isSome_iff_exists.mp h.top
  obtain ⟨r, hr⟩ := State.topJava?_eq_some.mp hg0
  have hr' : (({ U with heap := s₂.heap, slotsUsed := s₂.slotsUsed } : State).setVm s₂.vm).frames = .java g₀ :: r := hr
  rcases hq' with ⟨hqc, L, hfe, hL⟩ | ⟨q, rfl, E, ce, L, hx, hce, hcv, hcl, hW₂, hsm, hL⟩
  · obtain ⟨⟨v, rfl⟩, hW₂, e2, q2, q3, q4, q5, q6⟩ := id hfe
    have e3 : s₂ = ({ (U.calling g mk a).setFrames s₂.frames with heap := s₂.heap, slotsUsed := s₂.slotsUsed } : State).setVm s₂.vm := by
      have : s₂ = ({ s₂ with vm := (U.calling g mk a).vm } : State).setVm s₂.vm := rfl
      rw [e2] at this
      exact this
    obtain ⟨c₂, i₂, len₂, hc₂, hd₂, hf₂⟩ := hend
    have hW' : U.WarmedH s₂.vm := hW₂
    have hcc : c₂ = c := by
      have h1 : s₂.code? g.method = U.code? g.method := by
        rw [State.code?_eq, State.code?_eq, hW'.alike.method?]
      exact Option.some.inj (hc₂.symm.trans (h1.trans h.code))
    subst hcc
    have hlen : len₂ = len := by rw [hdg] at hd₂; cases hd₂; rfl
    subst hlen
    have hs₂ : s₂ = (({ U with heap := s₂.heap, slotsUsed := s₂.slotsUsed } : State).setVm s₂.vm).setTop { g with pc := g.pc + len₂, stack := v.toList ++ g.stack } := by
      refine e3.trans ?_
      rw [hf₂, State.calling_eq h.top, State.setFrames_setFrames, State.setTop_of_frames _ hr', hr]
      rfl
    have hsame : U.sameButNew ({ U with heap := s₂.heap, slotsUsed := s₂.slotsUsed } : State) L mc ms := by
      refine ⟨?_, q2, q3, q4, q5, q6⟩
      obtain ⟨t, ht, -⟩ := State.frames_cons hr
      show ({ U with heap := s₂.heap, slotsUsed := s₂.slotsUsed } : State) = { U.setFrames U.frames with heap := s₂.heap, slotsUsed := s₂.slotsUsed }
      rw [State.setFrames_self ht]
    subst hg
    refine Or.inl ⟨v, ⟨(({ U with heap := s₂.heap, slotsUsed := s₂.slotsUsed } : State).setVm s₂.vm), Ls ++ L, c0 + mc, s0 + ms⟩,
      ⟨X.admits, X.cas, X.clock, X.frames, X.room, X.hears, X.method, X.code, (X.here.setHeapUsed s₂.heap s₂.slotsUsed).setVm hW'.alike, X.tail, State.WarmedH.trans X.warmed hW', X.limits, X.bytes, X.same.trans (hsame.setVm s.vm)⟩,
      ⟨g, mk, s₂, L, rfl, rfl, hqc, rfl, hL, rfl, rfl⟩, ?_⟩
    show Steps p.tables e below _ ((({ U with heap := s₂.heap, slotsUsed := s₂.slotsUsed } : State).setVm s₂.vm).setTop { g with pc := g.pc + len₂, stack := v.toList ++ g.stack })
    rw [← hs₂]
    exact hsteps
  · obtain ⟨e2, q2, q3, q4, q5, q6⟩ := id hsm
    have e3 : s₂ = ({ (U.calling g mk a).setFrames s₂.frames with heap := s₂.heap, slotsUsed := s₂.slotsUsed } : State).setVm s₂.vm := by
      have : s₂ = ({ s₂ with vm := (U.calling g mk a).vm } : State).setVm s₂.vm := rfl
      rw [e2] at this
      exact this
    have hf₂ : s₂.frames = .throwing q :: .java g :: U.frames.tail := hend
    have hW' : U.WarmedH s₂.vm := hW₂
    have hs₂ : s₂ = ((({ U with heap := s₂.heap, slotsUsed := s₂.slotsUsed } : State).setVm s₂.vm).setTop g).pushFrame (.throwing q) := by
      refine e3.trans ?_
      rw [hf₂, State.calling_eq h.top, State.setFrames_setFrames, State.pushFrame, State.frames_setTop _ hr', State.setTop_of_frames _ hr', State.setFrames_setFrames, hr]
      rfl
    have hsame : U.sameButNew ({ U with heap := s₂.heap, slotsUsed := s₂.slotsUsed } : State) L mc ms := by
      refine ⟨?_, q2, q3, q4, q5, q6⟩
      obtain ⟨t, ht, -⟩ := State.frames_cons hr
      show ({ U with heap := s₂.heap, slotsUsed := s₂.slotsUsed } : State) = { U.setFrames U.frames with heap := s₂.heap, slotsUsed := s₂.slotsUsed }
      rw [State.setFrames_self ht]
    subst hg
    refine Or.inr ⟨q, ⟨(({ U with heap := s₂.heap, slotsUsed := s₂.slotsUsed } : State).setVm s₂.vm), Ls ++ L, c0 + mc, s0 + ms⟩,
      ⟨X.admits, X.cas, X.clock, X.frames, X.room, X.hears, X.method, X.code, (X.here.setHeapUsed s₂.heap s₂.slotsUsed).setVm hW'.alike, X.tail, State.WarmedH.trans X.warmed hW', X.limits, X.bytes, X.same.trans (hsame.setVm s.vm)⟩,
      ⟨g, mk, s₂, L, E, ce, rfl, rfl, hx, hce, hcv, hcl, rfl, hL, rfl, rfl⟩, ?_⟩
    show Steps p.tables e below _ (((({ U with heap := s₂.heap, slotsUsed := s₂.slotsUsed } : State).setVm s₂.vm).setTop g).pushFrame (.throwing q))
    rw [← hs₂]
    exact hsteps
end Payer
section Calls
variable {p : Program} {l : Launch} {e : Env} {R : Room} {s : State} {m : MethodId} {args : Array Value} {below : List Frame} {meth : Method} {c : Code} {T : State} {locs : List Loc} {cells slots : Nat}
theorem vx_callV (X : Stand p l e R s m args below meth c T locs cells slots) (hexec : p.tables.exec = Jvm.exec) {own C : String} {index : Nat} {y : MethodName} {bytes : ByteArray} {maxL : Nat} {ret : Option FieldType}
    (hown : s.vm.findClass own = some m.cls) (hlink : (Cond.methodLink own index y).before args s = true) (hinst : (Cond.instanceMethod y).before args s = true) (hsel : (Cond.selects C y y).before args s = true)
    (hcode : (Cond.code y bytes maxL ret).before args s = true) (hy : y.cls ≠ "java/lang/invoke/MethodHandle" ∧ y.cls ≠ "java/lang/invoke/VarHandle")
    {W9 : Nat} {Pre : Pt → Array Value → Prop} {Post : Pt → Array Value → Option Value → Pt → Prop} {PostX : Pt → Array Value → Addr → Pt → Prop} (hK : vx_Back l R p e below s args y 3 W9 Pre Post PostX)
    {b : Addr} {cellB : Cell} (hcell : T.heap[b]? = some cellB) (hobj : cellB.vm.isStatics = false) (hcls : s.vm.findClass C = some cellB.cls)
    {g : JFrame} (hg : g.method = m) (hsize : g.locals.size = c.maxLocals) {argsL rest : List Value} (hlen : ∀ sig, parseMethodDescriptor y.desc = some sig → argsL.length = sig.parameters.length)
    (hstack : g.stack = argsL.reverse ++ .ref b :: rest) (hW : 2 * g.monitorRoom + (rest.map fun v => v.category).sum ≤ W9) (hdg : decode c.code g.pc = .ok (.invokevirtual index, 3))
    (hpre : ∀ vm₁, s.WarmedH vm₁ → Pre ⟨T.setVm vm₁, locs, cells, slots⟩ (Value.ref b :: argsL).toArray) :
    (∃ (v : Option Value) (vm₁ : Vm) (B : Pt), s.WarmedH vm₁ ∧ Stand p l e R s m args below meth c B.U B.locs B.cells B.slots ∧ Post ⟨T.setVm vm₁, locs, cells, slots⟩ (Value.ref b :: argsL).toArray v B ∧
      ∀ target, Steps p.tables e below (B.U.setTop { g with pc := g.pc + 3, stack := v.toList ++ rest }) target → Steps p.tables e below (T.setTop g) target) ∨
    (∃ (q : Addr) (vm₁ : Vm) (B : Pt), s.WarmedH vm₁ ∧ Stand p l e R s m args below meth c B.U B.locs B.cells B.slots ∧ PostX ⟨T.setVm vm₁, locs, cells, slots⟩ (Value.ref b :: argsL).toArray q B ∧
      Steps p.tables e below (T.setTop g) ((B.U.setTop { g with stack := rest }).pushFrame (.throwing q))) := by
  obtain ⟨mk, methM, hnamed, hmethM, hstM, habM⟩ := Cond.instanceMethod_spec hinst
  obtain ⟨methM', cM, hmethM', -, -, -, -, -, -, hsigM⟩ := Cond.code_spec hnamed hcode
  cases hmethM.symm.trans hmethM'
  obtain ⟨c2, r2, m2, q1, q2, q3, q4, kP, hkP, hkPi⟩ := Cond.selects_spec hsel
  cases hcls.symm.trans q1
  cases (State.methodFound?_of_named hnamed hy).symm.trans q2
  cases hnamed.symm.trans q3
  have hselP : selectMethod e.platform s.vm cellB.cls mk = .method mk := by rw [Launch.admits_selectMethod X.admits]; exact q4
  obtain ⟨vm₁, X₁, hstep₁⟩ := X.invokevirtual hexec hown hlink hnamed hmethM hstM hkP hkPi hy (a := b) (cell := cellB) hcell
    (fun z h => by rw [h] at hobj; cases hobj) hselP hmethM habM hkP hkPi (g := g) hg (argsL := argsL) (rest := rest) (hlen _ hsigM) hstack hdg
  rcases hK m meth c ⟨T.setVm vm₁, locs, cells, slots⟩ { g with stack := rest } (.invokevirtual index) mk (Value.ref b :: argsL).toArray X₁ hg hsize hdg hW (X₁.named hnamed) (hpre vm₁ X₁.warmed) with ⟨v, B, X', hpost, hsteps⟩ | ⟨q, B, X', hpost, hsteps⟩
  · exact Or.inl ⟨v, vm₁, B, X₁.warmed, X', hpost, fun target h => hstep₁ _ fun acts => by rw [doInvoke_state]; exact hsteps.trans h⟩
  · exact Or.inr ⟨q, vm₁, B, X₁.warmed, X', hpost, hstep₁ _ fun acts => by rw [doInvoke_state]; exact hsteps⟩
theorem vx_callS (X : Stand p l e R s m args below meth c T locs cells slots) (hexec : p.tables.exec = Jvm.exec) {own : String} {index : Nat} {y : MethodName} {bytes : ByteArray} {maxL : Nat} {ret : Option FieldType}
    (hown : s.vm.findClass own = some m.cls) (hlink : (Cond.methodLink own index y).before args s = true) (hstat : (Cond.static y).before args s = true) (hinit : (Cond.initialized y.cls).before args s = true)
    (hcode : (Cond.code y bytes maxL ret).before args s = true) (hy : y.cls ≠ "java/lang/invoke/MethodHandle" ∧ y.cls ≠ "java/lang/invoke/VarHandle")
    {W9 : Nat} {Pre : Pt → Array Value → Prop} {Post : Pt → Array Value → Option Value → Pt → Prop} {PostX : Pt → Array Value → Addr → Pt → Prop} (hK : vx_Back l R p e below s args y 3 W9 Pre Post PostX)
    {g : JFrame} (hg : g.method = m) (hsize : g.locals.size = c.maxLocals) {argsL rest : List Value} (hlen : ∀ sig, parseMethodDescriptor y.desc = some sig → argsL.length = sig.parameters.length)
    (hstack : g.stack = argsL.reverse ++ rest) (hW : 2 * g.monitorRoom + (rest.map fun v => v.category).sum ≤ W9) (hdg : decode c.code g.pc = .ok (.invokestatic index, 3))
    (hpre : ∀ vm₁, s.WarmedH vm₁ → Pre ⟨T.setVm vm₁, locs, cells, slots⟩ argsL.toArray) :
    (∃ (v : Option Value) (vm₁ : Vm) (B : Pt), s.WarmedH vm₁ ∧ Stand p l e R s m args below meth c B.U B.locs B.cells B.slots ∧ Post ⟨T.setVm vm₁, locs, cells, slots⟩ argsL.toArray v B ∧
      ∀ target, Steps p.tables e below (B.U.setTop { g with pc := g.pc + 3, stack := v.toList ++ rest }) target → Steps p.tables e below (T.setTop g) target) ∨
    (∃ (q : Addr) (vm₁ : Vm) (B : Pt), s.WarmedH vm₁ ∧ Stand p l e R s m args below meth c B.U B.locs B.cells B.slots ∧ PostX ⟨T.setVm vm₁, locs, cells, slots⟩ argsL.toArray q B ∧
      Steps p.tables e below (T.setTop g) ((B.U.setTop { g with stack := rest }).pushFrame (.throwing q))) := by
  obtain ⟨mk, hnamed⟩ := Cond.code_named hcode
  obtain ⟨methM, cM, hmethM, -, -, -, -, -, -, hsigM⟩ := Cond.code_spec hnamed hcode
  have hstatic : methM.isStatic = true := Cond.static_spec hnamed hmethM hstat
  obtain ⟨kP, hkP, -⟩ := className_of_methodNamed hnamed
  have hinitP : kP.init = .initialized := Cond.initialized_spec (findClass_of_methodNamed hnamed) hkP hinit
  obtain ⟨vm₁, X₁, hstep₁⟩ := X.invokestatic hexec hown hlink hnamed hmethM hstatic hkP hinitP hy (g := g) hg (argsL := argsL) (rest := rest) (hlen _ hsigM) hstack hdg
  rcases hK m meth c ⟨T.setVm vm₁, locs, cells, slots⟩ { g with stack := rest } (.invokestatic index) mk argsL.toArray X₁ hg hsize hdg hW (X₁.named hnamed) (hpre vm₁ X₁.warmed) with ⟨v, B, X', hpost, hsteps⟩ | ⟨q, B, X', hpost, hsteps⟩
  · exact Or.inl ⟨v, vm₁, B, X₁.warmed, X', hpost, fun target h => hstep₁ _ fun acts => by rw [doInvoke_state]; exact hsteps.trans h⟩
  · exact Or.inr ⟨q, vm₁, B, X₁.warmed, X', hpost, hstep₁ _ fun acts => by rw [doInvoke_state]; exact hsteps⟩
end Calls
theorem vx_cls {s : State} {T : State} {vm₁ : Vm} {E : String} {k : ClassId} (hW : s.WarmedH vm₁) (h : (T.setVm vm₁).vm.findClass E = some k) : s.vm.findClass E = some k := by
  have h1 : vm₁.findClass E = some k := h
  rw [hW.alike.findClass] at h1
  exact h1
/-- the method's frame g, with q thrown over it -/
def vx_W (p : Program) (l : Launch) (e : Env) (R : Room) (s : State) (m : MethodId) (args : Array Value) (below : List Frame) (meth : Method) (c : Code) (H : Heap) (locs : List Loc) (cells slots : Nat) (Q : State → Prop) (g : JFrame) (q : Addr) : Prop :=
  ∀ T : State, T.heap = H → Stand p l e R s m args below meth c T locs cells slots → ∃ t, Steps p.tables e below ((T.setTop g).pushFrame (.throwing q)) t ∧ Q t
def vx_Run (p : Program) (l : Launch) (e : Env) (R : Room) (s : State) (m : MethodId) (args : Array Value) (below : List Frame) (meth : Method) (c : Code) (H : Heap) (locs : List Loc) (cells slots mc ms : Nat) (g : JFrame) (rest : List Value) (Qa : State → Outcome → State → Prop) (XC : String → State → State → Prop) (free : Addr → Prop) : Prop :=
  ∀ T : State, T.heap = H → Stand p l e R s m args below meth c T locs cells slots →
    (∃ (v : Option Value) (st₀ t T' : State) (L : List Loc), st₀.heap = H ∧ Stand p l e R s m args below meth c T' (locs ++ L) (cells + mc) (slots + ms) ∧ (∀ q ∈ L, free q.base) ∧ T'.heap = t.heap ∧ T'.vm = t.vm ∧ Qa st₀ (.returned v) t ∧
      Goes p e below T g T' { g with pc := g.pc + 3, stack := v.toList ++ rest }) ∨
    (∃ (q : Addr) (st₀ t T' : State) (L : List Loc) (E : String) (ce : Cell), st₀.heap = H ∧ Stand p l e R s m args below meth c T' (locs ++ L) (cells + mc) (slots + ms) ∧ (∀ z ∈ L, free z.base) ∧ T'.heap = t.heap ∧ T'.vm = t.vm ∧ XC E st₀ t ∧ t.heap[q]? = some ce ∧ ce.vm = .none ∧ s.vm.findClass E = some ce.cls ∧
      Steps p.tables e below (T.setTop g) ((T'.setTop { g with stack := rest }).pushFrame (.throwing q)))
def vx_X {S : Type} (px : S → Prop) (B : String → S → State → Prop) (A : Nat → Prop) : String → State → State → Prop := fun E st t => ∃ u : S, px u ∧ B E u t ∧ va_F A st t
section Runs
variable {p : Program} {l : Launch} {e : Env} {R : Room} {s : State} {m : MethodId} {args : Array Value} {below : List Frame} {meth : Method} {c : Code} {H : Heap} {locs : List Loc} {cells slots : Nat}
variable {y : MethodName} {bytes cc : ByteArray} {maxL nL mc ms n index : Nat} {ret : Option FieldType} {ws : List Cond} {rm : Room} {Pc : Array Value → State → Prop} {Qc : Array Value → State → Outcome → State → Prop} {XC : String → State → State → Prop} {free : Addr → Prop} {Ts : List Cond} {own C : String} {b : Addr} {As rest : List Value} {g : JFrame}
theorem vx_callBack (cb : CallB R s args own index y bytes maxL ret ws rm mc ms n) (hM : vx_Met l y ws rm Pc Qc XC mc ms free) (hbl : FrameBlind Pc) : vx_Back l R p e below s args y 3 8 (PreOf R mc ms Pc) (PostOf Qc mc ms free) (vx_Post XC mc ms free) := by
  obtain ⟨hrc, hrs, hfr, hlo, hws, hcw, -, hini, -⟩ := cb
  exact vx_back (bytes := bytes) (maxL := maxL) (ret := ret) hM hbl hrc hrs hfr hlo hws hcw (fun a' U hW => word_at hW (Or.inl (by first | rfl | simp [Cond.onTables, Cond.keeps, Cond.steady])) hini)
theorem vx_runV (S : CallFix p m c cc nL s args Ts own) (hM : vx_Met l y ws rm Pc Qc XC mc ms free) (cw : CallW R s args own C index y bytes maxL ret ws rm mc ms n) (hp : PreV s H C b Pc As)
    (hg : g.method = m) (hn : As.length = n) (hsize : g.locals.size = nL) (hstack : g.stack = As.reverse ++ .ref b :: rest) (hW : 2 * g.monitorRoom + (rest.map fun v => v.category).sum ≤ 8) (hdg : decode cc g.pc = .ok (.invokevirtual index, 3)) (hf : cells + mc ≤ R.cells ∧ slots + ms ≤ R.slots) :
    vx_Run p l e R s m args below meth c H locs cells slots mc ms g rest (Qc (Value.ref b :: As).toArray) XC free := by
  have hK : vx_Back l R p e below s args y 3 8 (PreOf R mc ms Pc) (PostOf Qc mc ms free) (vx_Post XC mc ms free) := vx_callBack cw.1 hM hp.1
  obtain ⟨⟨-, -, -, -, -, -, hcode, -, hy, hlen, hl⟩, hin, hse⟩ := cw
  obtain ⟨hx, hb, hml, ho, -⟩ := S
  obtain ⟨-, ⟨cellB, hcB, hoB, hclB⟩, hPc⟩ := hp
  intro T hT X
  rcases vx_callV X hx (C := C) (bytes := bytes) (maxL := maxL) (ret := ret) ho hl hin hse hcode hy hK (by rw [hT]; exact hcB) hoB hclB hg (hsize.trans hml.symm) (argsL := As) (rest := rest) (fun sig h => hn.trans (hlen sig h)) hstack hW (by rw [hb]; exact hdg)
    (fun vm₁ hW₁ => ⟨hf.1, hf.2, hPc (T.setVm vm₁) hT hW₁⟩) with ⟨v, vm₁, ⟨U', l2, c2, s2⟩, hW₁, X', ⟨g', mk, t, L, e1, e2, hq, h1, hL, h2, h3⟩, st⟩ | ⟨q, vm₁, ⟨U', l2, c2, s2⟩, hW₁, X', ⟨g', mk, t, L, E, ce, e1, e2, hq, hce, hcv, hcl, h1, hL, h2, h3⟩, st⟩
  · dsimp only [Pt.U, Pt.locs, Pt.cells, Pt.slots] at X' e1 e2 h1 h2 h3 st
    subst h1; subst h2; subst h3
    exact Or.inl ⟨v, (T.setVm vm₁).calling g' mk (Value.ref b :: As).toArray, t, U', L, hT, X', hL, e1, e2, hq, st⟩
  · dsimp only [Pt.U, Pt.locs, Pt.cells, Pt.slots] at X' e1 e2 h1 h2 h3 st hcl
    subst h1; subst h2; subst h3
    exact Or.inr ⟨q, (T.setVm vm₁).calling g' mk (Value.ref b :: As).toArray, t, U', L, E, ce, hT, X', hL, e1, e2, hq, hce, hcv, vx_cls hW₁ hcl, st⟩
theorem vx_runS (S : CallFix p m c cc nL s args Ts own) (hM : vx_Met l y ws rm Pc Qc XC mc ms free) (cw : CallB R s args own index y bytes maxL ret ws rm mc ms n ∧ (Cond.static y).before args s = true) (hp : PreS s H Pc As)
    (hg : g.method = m) (hn : As.length = n) (hsize : g.locals.size = nL) (hstack : g.stack = As.reverse ++ rest) (hW : 2 * g.monitorRoom + (rest.map fun v => v.category).sum ≤ 8) (hdg : decode cc g.pc = .ok (.invokestatic index, 3)) (hf : cells + mc ≤ R.cells ∧ slots + ms ≤ R.slots) :
    vx_Run p l e R s m args below meth c H locs cells slots mc ms g rest (Qc As.toArray) XC free := by
  have hK : vx_Back l R p e below s args y 3 8 (PreOf R mc ms Pc) (PostOf Qc mc ms free) (vx_Post XC mc ms free) := vx_callBack cw.1 hM hp.1
  obtain ⟨⟨-, -, -, -, -, -, hcode, hini, hy, hlen, hl⟩, hstt⟩ := cw
  obtain ⟨hx, hb, hml, ho, -⟩ := S
  intro T hT X
  rcases vx_callS X hx (bytes := bytes) (maxL := maxL) (ret := ret) ho hl hstt hini hcode hy hK hg (hsize.trans hml.symm) (argsL := As) (rest := rest) (fun sig h => hn.trans (hlen sig h)) hstack hW (by rw [hb]; exact hdg)
    (fun vm₁ hW₁ => ⟨hf.1, hf.2, hp.2 (T.setVm vm₁) hT hW₁⟩) with ⟨v, vm₁, ⟨U', l2, c2, s2⟩, hW₁, X', ⟨g', mk, t, L, e1, e2, hq, h1, hL, h2, h3⟩, st⟩ | ⟨q, vm₁, ⟨U', l2, c2, s2⟩, hW₁, X', ⟨g', mk, t, L, E, ce, e1, e2, hq, hce, hcv, hcl, h1, hL, h2, h3⟩, st⟩
  · dsimp only [Pt.U, Pt.locs, Pt.cells, Pt.slots] at X' e1 e2 h1 h2 h3 st
    subst h1; subst h2; subst h3
    exact Or.inl ⟨v, (T.setVm vm₁).calling g' mk As.toArray, t, U', L, hT, X', hL, e1, e2, hq, st⟩
  · dsimp only [Pt.U, Pt.locs, Pt.cells, Pt.slots] at X' e1 e2 h1 h2 h3 st hcl
    subst h1; subst h2; subst h3
    exact Or.inr ⟨q, (T.setVm vm₁).calling g' mk As.toArray, t, U', L, E, ce, hT, X', hL, e1, e2, hq, hce, hcv, vx_cls hW₁ hcl, st⟩
end Runs
section Rows
variable {p : Program} {l : Launch} {e : Env} {R : Room} {s : State} {m : MethodId} {args : Array Value} {below : List Frame} {meth : Method} {c : Code} {H : Heap} {locs : List Loc} {cells slots : Nat} {Q : State → Prop}
variable {mc ms : Nat} {free : Addr → Prop} {A0 A1 : Nat → Prop} {H0 : Heap} {a : Array Value} {pc : Nat} {ls : Array Slot} {st0 rest : List Value}
theorem vx_keep {st₀ t T' : State} {L : List Loc} (h0 : st₀.heap = H) (e1 : T'.heap = t.heap) (hS : va_S A0 H0 H locs) (hA : ∀ q, q < H.size → A1 q → A0 q) (hf : ∀ q, free q → A0 q) (hL : ∀ q ∈ L, free q.base) (hF : va_F A1 st₀ t) :
    H.size ≤ T'.heap.size ∧ (∀ q : Nat, q < H.size → ¬ A1 q → T'.heap[q]? = H[q]?) ∧ va_S A0 H0 T'.heap (locs ++ L) := by
  obtain ⟨hz, hk⟩ := hF
  rw [h0] at hz hk
  exact ⟨by rw [e1]; exact hz, fun q h1 h2 => by rw [e1]; exact hk q h1 h2,
    ⟨Nat.le_trans hS.1 (by rw [e1]; exact hz), fun q h1 h2 => by rw [e1, hk q (Nat.lt_of_lt_of_le h1 hS.1) (fun z => h2 (hA q (Nat.lt_of_lt_of_le h1 hS.1) z))]; exact hS.2.1 q h1 h2, fun q hq => by
      rcases List.mem_append.mp hq with h | h
      · exact hS.2.2 q h
      · exact hf _ (hL q h)⟩⟩
theorem vx_calli {S SX : Type} {post : Int32 → S → Prop} {px : SX → Prop} {B : S → State → Prop} {BX : String → SX → State → Prop} {AX : Nat → Prop} (hr : vx_Run p l e R s m args below meth c H locs cells slots mc ms (F0 m pc ls st0) rest (va_Qi post B A1 a) (vx_X px BX AX) free) (hS : va_S A0 H0 H locs) (hA : ∀ q, q < H.size → A1 q → A0 q) (hf : ∀ q, free q → A0 q) (hAX : ∀ q, q < H.size → AX q → A0 q)
    (kx : ∀ (E : String) (ce : Cell) (q9 : Addr) (u : SX) (t : State) (H1 : Heap) (locs1 : List Loc), t.heap = H1 → s.vm.Alike t.vm → px u → BX E u t → H.size ≤ H1.size → (∀ q : Nat, q < H.size → ¬ AX q → H1[q]? = H[q]?) → va_S A0 H0 H1 locs1 → H1[q9]? = some ce → ce.vm = .none → s.vm.findClass E = some ce.cls → vx_W p l e R s m args below meth c H1 locs1 (cells + mc) (slots + ms) Q (F0 m pc ls rest) q9)
    (kk : ∀ (r : Int32) (u : S) (t : State) (H1 : Heap) (locs1 : List Loc), t.heap = H1 → s.vm.Alike t.vm → post r u → B u t → H.size ≤ H1.size → (∀ q : Nat, q < H.size → ¬ A1 q → H1[q]? = H[q]?) → va_S A0 H0 H1 locs1 → W p l e R s m args below meth c H1 locs1 (cells + mc) (slots + ms) Q (F0 m (pc + 3) ls (.int r :: rest))) : W p l e R s m args below meth c H locs cells slots Q (F0 m pc ls st0) := by
  intro T hT X
  rcases hr T hT X with ⟨v, st₀, t, T', L, h0, X', hL, e1, e2, ⟨⟨r, u, hv, hp, hb⟩, hF⟩, st⟩ | ⟨q, st₀, t, T', L, E, ce, h0, X', hL, e1, e2, ⟨u, hp, hb, hF⟩, hce, hcv, hcl, st⟩
  · cases hv
    obtain ⟨k1, k2, k3⟩ := vx_keep h0 e1 hS hA hf hL hF
    obtain ⟨t2, a1, b1⟩ := kk r u t T'.heap (locs ++ L) e1.symm (by rw [← e2]; exact X'.warmed.alike) hp hb k1 k2 k3 T' rfl X'
    exact ⟨t2, st t2 a1, b1⟩
  · obtain ⟨k1, k2, k3⟩ := vx_keep h0 e1 hS hAX hf hL hF
    obtain ⟨t2, a1, b1⟩ := kx E ce q u t T'.heap (locs ++ L) e1.symm (by rw [← e2]; exact X'.warmed.alike) hp hb k1 k2 k3 (by rw [e1]; exact hce) hcv hcl T' rfl X'
    exact ⟨t2, st.trans a1, b1⟩
theorem vx_calll {S SX : Type} {post : Int64 → S → Prop} {px : SX → Prop} {B : S → State → Prop} {BX : String → SX → State → Prop} {AX : Nat → Prop} (hr : vx_Run p l e R s m args below meth c H locs cells slots mc ms (F0 m pc ls st0) rest (va_Ql post B A1 a) (vx_X px BX AX) free) (hS : va_S A0 H0 H locs) (hA : ∀ q, q < H.size → A1 q → A0 q) (hf : ∀ q, free q → A0 q) (hAX : ∀ q, q < H.size → AX q → A0 q)
    (kx : ∀ (E : String) (ce : Cell) (q9 : Addr) (u : SX) (t : State) (H1 : Heap) (locs1 : List Loc), t.heap = H1 → s.vm.Alike t.vm → px u → BX E u t → H.size ≤ H1.size → (∀ q : Nat, q < H.size → ¬ AX q → H1[q]? = H[q]?) → va_S A0 H0 H1 locs1 → H1[q9]? = some ce → ce.vm = .none → s.vm.findClass E = some ce.cls → vx_W p l e R s m args below meth c H1 locs1 (cells + mc) (slots + ms) Q (F0 m pc ls rest) q9)
    (kk : ∀ (r : Int64) (u : S) (t : State) (H1 : Heap) (locs1 : List Loc), t.heap = H1 → s.vm.Alike t.vm → post r u → B u t → H.size ≤ H1.size → (∀ q : Nat, q < H.size → ¬ A1 q → H1[q]? = H[q]?) → va_S A0 H0 H1 locs1 → W p l e R s m args below meth c H1 locs1 (cells + mc) (slots + ms) Q (F0 m (pc + 3) ls (.long r :: rest))) : W p l e R s m args below meth c H locs cells slots Q (F0 m pc ls st0) := by
  intro T hT X
  rcases hr T hT X with ⟨v, st₀, t, T', L, h0, X', hL, e1, e2, ⟨⟨r, u, hv, hp, hb⟩, hF⟩, st⟩ | ⟨q, st₀, t, T', L, E, ce, h0, X', hL, e1, e2, ⟨u, hp, hb, hF⟩, hce, hcv, hcl, st⟩
  · cases hv
    obtain ⟨k1, k2, k3⟩ := vx_keep h0 e1 hS hA hf hL hF
    obtain ⟨t2, a1, b1⟩ := kk r u t T'.heap (locs ++ L) e1.symm (by rw [← e2]; exact X'.warmed.alike) hp hb k1 k2 k3 T' rfl X'
    exact ⟨t2, st t2 a1, b1⟩
  · obtain ⟨k1, k2, k3⟩ := vx_keep h0 e1 hS hAX hf hL hF
    obtain ⟨t2, a1, b1⟩ := kx E ce q u t T'.heap (locs ++ L) e1.symm (by rw [← e2]; exact X'.warmed.alike) hp hb k1 k2 k3 (by rw [e1]; exact hce) hcv hcl T' rfl X'
    exact ⟨t2, st.trans a1, b1⟩
theorem vx_callf {S SX : Type} {post : UInt32 → S → Prop} {px : SX → Prop} {B : S → State → Prop} {BX : String → SX → State → Prop} {AX : Nat → Prop} (hr : vx_Run p l e R s m args below meth c H locs cells slots mc ms (F0 m pc ls st0) rest (va_Qf post B A1 a) (vx_X px BX AX) free) (hS : va_S A0 H0 H locs) (hA : ∀ q, q < H.size → A1 q → A0 q) (hf : ∀ q, free q → A0 q) (hAX : ∀ q, q < H.size → AX q → A0 q)
    (kx : ∀ (E : String) (ce : Cell) (q9 : Addr) (u : SX) (t : State) (H1 : Heap) (locs1 : List Loc), t.heap = H1 → s.vm.Alike t.vm → px u → BX E u t → H.size ≤ H1.size → (∀ q : Nat, q < H.size → ¬ AX q → H1[q]? = H[q]?) → va_S A0 H0 H1 locs1 → H1[q9]? = some ce → ce.vm = .none → s.vm.findClass E = some ce.cls → vx_W p l e R s m args below meth c H1 locs1 (cells + mc) (slots + ms) Q (F0 m pc ls rest) q9)
    (kk : ∀ (r : UInt32) (u : S) (t : State) (H1 : Heap) (locs1 : List Loc), t.heap = H1 → s.vm.Alike t.vm → post r u → B u t → H.size ≤ H1.size → (∀ q : Nat, q < H.size → ¬ A1 q → H1[q]? = H[q]?) → va_S A0 H0 H1 locs1 → W p l e R s m args below meth c H1 locs1 (cells + mc) (slots + ms) Q (F0 m (pc + 3) ls (.float r :: rest))) : W p l e R s m args below meth c H locs cells slots Q (F0 m pc ls st0) := by
  intro T hT X
  rcases hr T hT X with ⟨v, st₀, t, T', L, h0, X', hL, e1, e2, ⟨⟨r, u, hv, hp, hb⟩, hF⟩, st⟩ | ⟨q, st₀, t, T', L, E, ce, h0, X', hL, e1, e2, ⟨u, hp, hb, hF⟩, hce, hcv, hcl, st⟩
  · cases hv
    obtain ⟨k1, k2, k3⟩ := vx_keep h0 e1 hS hA hf hL hF
    obtain ⟨t2, a1, b1⟩ := kk r u t T'.heap (locs ++ L) e1.symm (by rw [← e2]; exact X'.warmed.alike) hp hb k1 k2 k3 T' rfl X'
    exact ⟨t2, st t2 a1, b1⟩
  · obtain ⟨k1, k2, k3⟩ := vx_keep h0 e1 hS hAX hf hL hF
    obtain ⟨t2, a1, b1⟩ := kx E ce q u t T'.heap (locs ++ L) e1.symm (by rw [← e2]; exact X'.warmed.alike) hp hb k1 k2 k3 (by rw [e1]; exact hce) hcv hcl T' rfl X'
    exact ⟨t2, st.trans a1, b1⟩
theorem vx_calld {S SX : Type} {post : UInt64 → S → Prop} {px : SX → Prop} {B : S → State → Prop} {BX : String → SX → State → Prop} {AX : Nat → Prop} (hr : vx_Run p l e R s m args below meth c H locs cells slots mc ms (F0 m pc ls st0) rest (va_Qd post B A1 a) (vx_X px BX AX) free) (hS : va_S A0 H0 H locs) (hA : ∀ q, q < H.size → A1 q → A0 q) (hf : ∀ q, free q → A0 q) (hAX : ∀ q, q < H.size → AX q → A0 q)
    (kx : ∀ (E : String) (ce : Cell) (q9 : Addr) (u : SX) (t : State) (H1 : Heap) (locs1 : List Loc), t.heap = H1 → s.vm.Alike t.vm → px u → BX E u t → H.size ≤ H1.size → (∀ q : Nat, q < H.size → ¬ AX q → H1[q]? = H[q]?) → va_S A0 H0 H1 locs1 → H1[q9]? = some ce → ce.vm = .none → s.vm.findClass E = some ce.cls → vx_W p l e R s m args below meth c H1 locs1 (cells + mc) (slots + ms) Q (F0 m pc ls rest) q9)
    (kk : ∀ (r : UInt64) (u : S) (t : State) (H1 : Heap) (locs1 : List Loc), t.heap = H1 → s.vm.Alike t.vm → post r u → B u t → H.size ≤ H1.size → (∀ q : Nat, q < H.size → ¬ A1 q → H1[q]? = H[q]?) → va_S A0 H0 H1 locs1 → W p l e R s m args below meth c H1 locs1 (cells + mc) (slots + ms) Q (F0 m (pc + 3) ls (.double r :: rest))) : W p l e R s m args below meth c H locs cells slots Q (F0 m pc ls st0) := by
  intro T hT X
  rcases hr T hT X with ⟨v, st₀, t, T', L, h0, X', hL, e1, e2, ⟨⟨r, u, hv, hp, hb⟩, hF⟩, st⟩ | ⟨q, st₀, t, T', L, E, ce, h0, X', hL, e1, e2, ⟨u, hp, hb, hF⟩, hce, hcv, hcl, st⟩
  · cases hv
    obtain ⟨k1, k2, k3⟩ := vx_keep h0 e1 hS hA hf hL hF
    obtain ⟨t2, a1, b1⟩ := kk r u t T'.heap (locs ++ L) e1.symm (by rw [← e2]; exact X'.warmed.alike) hp hb k1 k2 k3 T' rfl X'
    exact ⟨t2, st t2 a1, b1⟩
  · obtain ⟨k1, k2, k3⟩ := vx_keep h0 e1 hS hAX hf hL hF
    obtain ⟨t2, a1, b1⟩ := kx E ce q u t T'.heap (locs ++ L) e1.symm (by rw [← e2]; exact X'.warmed.alike) hp hb k1 k2 k3 (by rw [e1]; exact hce) hcv hcl T' rfl X'
    exact ⟨t2, st.trans a1, b1⟩
theorem vx_callv {S SX : Type} {post : S → Prop} {px : SX → Prop} {B : S → State → Prop} {BX : String → SX → State → Prop} {AX : Nat → Prop} (hr : vx_Run p l e R s m args below meth c H locs cells slots mc ms (F0 m pc ls st0) rest (va_Qv post B A1 a) (vx_X px BX AX) free) (hS : va_S A0 H0 H locs) (hA : ∀ q, q < H.size → A1 q → A0 q) (hf : ∀ q, free q → A0 q) (hAX : ∀ q, q < H.size → AX q → A0 q)
    (kx : ∀ (E : String) (ce : Cell) (q9 : Addr) (u : SX) (t : State) (H1 : Heap) (locs1 : List Loc), t.heap = H1 → s.vm.Alike t.vm → px u → BX E u t → H.size ≤ H1.size → (∀ q : Nat, q < H.size → ¬ AX q → H1[q]? = H[q]?) → va_S A0 H0 H1 locs1 → H1[q9]? = some ce → ce.vm = .none → s.vm.findClass E = some ce.cls → vx_W p l e R s m args below meth c H1 locs1 (cells + mc) (slots + ms) Q (F0 m pc ls rest) q9)
    (kk : ∀ (u : S) (t : State) (H1 : Heap) (locs1 : List Loc), t.heap = H1 → s.vm.Alike t.vm → post u → B u t → H.size ≤ H1.size → (∀ q : Nat, q < H.size → ¬ A1 q → H1[q]? = H[q]?) → va_S A0 H0 H1 locs1 → W p l e R s m args below meth c H1 locs1 (cells + mc) (slots + ms) Q (F0 m (pc + 3) ls (rest))) : W p l e R s m args below meth c H locs cells slots Q (F0 m pc ls st0) := by
  intro T hT X
  rcases hr T hT X with ⟨v, st₀, t, T', L, h0, X', hL, e1, e2, ⟨⟨u, hv, hp, hb⟩, hF⟩, st⟩ | ⟨q, st₀, t, T', L, E, ce, h0, X', hL, e1, e2, ⟨u, hp, hb, hF⟩, hce, hcv, hcl, st⟩
  · cases hv
    obtain ⟨k1, k2, k3⟩ := vx_keep h0 e1 hS hA hf hL hF
    obtain ⟨t2, a1, b1⟩ := kk u t T'.heap (locs ++ L) e1.symm (by rw [← e2]; exact X'.warmed.alike) hp hb k1 k2 k3 T' rfl X'
    exact ⟨t2, st t2 a1, b1⟩
  · obtain ⟨k1, k2, k3⟩ := vx_keep h0 e1 hS hAX hf hL hF
    obtain ⟨t2, a1, b1⟩ := kx E ce q u t T'.heap (locs ++ L) e1.symm (by rw [← e2]; exact X'.warmed.alike) hp hb k1 k2 k3 (by rw [e1]; exact hce) hcv hcl T' rfl X'
    exact ⟨t2, st.trans a1, b1⟩
/-- caught by the row x of this method's table; the rows ahead don't take it -/
theorem vx_catch {own name : String} {E : String} {ce : Cell} {q : Addr} (hown : s.vm.findClass own = some m.cls) (pre : List ExceptionTableEntry) (x : ExceptionTableEntry) (suf : List ExceptionTableEntry) (hsplit : c.exceptionTable.toList = pre ++ x :: suf)
    (hpass : ∀ z ∈ pre, covers z pc = false ∨ (z.catchType ≠ 0 ∧ ∃ nm : String, (Cond.classLink own z.catchType nm).before args s = true ∧ va_Nc E nm s)) (hx : covers x pc = true) (h0 : x.catchType ≠ 0)
    (hlink : (Cond.classLink own x.catchType name).before args s = true) (hcast : (Cond.castable E name).before args s = true) (hcell : H[q]? = some ce) (hv : ce.vm = .none) (hcl : s.vm.findClass E = some ce.cls)
    (kk : W p l e R s m args below meth c H locs cells slots Q (F0 m x.handlerPc ls [.ref q])) : vx_W p l e R s m args below meth c H locs cells slots Q (F0 m pc ls rest) q := by
  intro T hT X
  have hpl : e.platform.magicAccessors = ({} : Platform).magicAccessors := by rw [X.admits.platform]
  obtain ⟨c3, c4, hc3, hc4, hasg⟩ := Cond.castable_spec hcast
  cases Option.some.inj (hc3.symm.trans hcl)
  obtain ⟨c5, hc5, hcl5⟩ := Cond.classLink_spec hown hlink e.platform hpl
  cases Option.some.inj (hc4.symm.trans hc5)
  obtain ⟨vm', X', st⟩ := X.thenCaughtThrough q (g := F0 m pc ls rest) rfl (Steps.refl _) (by rw [hT]; exact hcell) (by rw [hv]; rfl) (by obtain ⟨k9, h9, -⟩ := Vm.findClass_spec hcl; exact ⟨k9, h9⟩) pre x suf hsplit
    (fun z hz => by
      rcases hpass z hz with h | ⟨hz0, nm, hl1, hn1⟩
      · exact Or.inl h
      · obtain ⟨c6, hc6, hcl6⟩ := Cond.classLink_spec hown hl1 e.platform hpl
        obtain ⟨a8, b8, h1, h2, h3⟩ := hn1
        cases Option.some.inj (h1.symm.trans hcl)
        cases Option.some.inj (h2.symm.trans hc6)
        exact Or.inr ⟨hz0, _, hcl6, h3⟩) hx (Or.inr ⟨h0, c4, hcl5, hasg⟩)
  obtain ⟨t, a1, b1⟩ := kk (T.setVm vm') hT X'
  exact ⟨t, st.trans a1, b1⟩
end Rows
section Ends
variable {p : Program} {l : Launch} {e : Env} {R : Room} {s : State} {m : MethodId} {args : Array Value} {below : List Frame} {meth : Method} {c : Code} {H : Heap} {locs : List Loc} {cells slots : Nat} {Q : State → Prop}
variable {mc ms : Nat} {free : Addr → Prop} {A0 A1 : Nat → Prop} {H0 : Heap} {a : Array Value} {ls : Array Slot} {st0 rest : List Value}
variable {Qc : Array Value → State → Outcome → State → Prop} {XC : String → State → State → Prop}
/-- what a body that may throw owes at its end -/
def vx_MQ (below : List Frame) (Qc : Array Value → State → Outcome → State → Prop) (XC : String → State → State → Prop) (a : Array Value) (s : State) (mc ms : Nat) (free : Addr → Prop) : State → Prop := fun t =>
  ∃ o, t.status = .running ∧ Ended t below o ∧ vx_Q Qc XC mc ms free a s o t
theorem vx_ret {g : JFrame} {mc ms : Nat} (k : W p l e R s m args below meth c H locs cells slots (MQ below Qc args s mc ms free) g) : W p l e R s m args below meth c H locs cells slots (vx_MQ below Qc XC args s mc ms free) g := by
  intro T hT X
  obtain ⟨t, a1, o, b1, b2, b3, b4⟩ := k T hT X
  exact ⟨t, a1, o, b1, b2, Or.inl ⟨b3, b4⟩⟩
/-- not caught here: it goes on to the caller -/
theorem vx_widen {g : JFrame} {q : Addr} {k n : Nat} (h1 : cells ≤ k) (h2 : slots ≤ n) (kk : vx_W p l e R s m args below meth c H locs k n Q g q) : vx_W p l e R s m args below meth c H locs cells slots Q g q := fun T hT X => kk T hT (stand_widen X h1 h2)
theorem vx_out {pc : Nat} {E : String} {ce : Cell} {q : Addr} {mc ms : Nat} (hout : ∀ x ∈ c.exceptionTable.toList, covers x pc = false) (hlocks : meth.locks = false) (hcell : H[q]? = some ce) (hv : ce.vm = .none) (hcl : s.vm.findClass E = some ce.cls)
    (hx : ∀ t : State, t.heap = H → s.vm.Alike t.vm → XC E s t) (hf : ∀ z ∈ locs, free z.base) (hc : cells ≤ mc) (hs : slots ≤ ms) :
    vx_W p l e R s m args below meth c H locs cells slots (vx_MQ below Qc XC args s mc ms free) (F0 m pc ls rest) q := by
  intro T hT X
  obtain ⟨st1, hrun, hend, hW, hsm⟩ := X.leaveThrown q (g := F0 m pc ls rest) rfl rfl rfl hout hlocks
  have hcell9 : (T.setFrames (.throwing q :: below)).heap[q]? = some ce := by
    show T.heap[q]? = some ce
    rw [hT]; exact hcell
  exact ⟨_, st1, .threw q, hrun, hend, Or.inr ⟨q, rfl, E, ce, locs, hx _ hT hW.alike, hcell9, hv, hcl, hW, hsm.mono hc hs, hf⟩⟩
theorem vx_frame {U : State} {k n : Nat} (h : s.sameButNew ({ U with vm := s.vm } : State) locs k n) : s.heap.size ≤ U.heap.size ∧ ∀ q : Nat, q < s.heap.size → (∀ z ∈ locs, z.base ≠ q) → U.heap[q]? = s.heap[q]? := by
  obtain ⟨-, h2, -, -, -, h6⟩ := h
  refine ⟨h2, fun q hq hz => ?_⟩
  obtain ⟨c9, e1, e2, e3, e4⟩ := h6 q _ (Array.getElem?_eq_getElem hq)
  have hs : c9.slots = (s.heap[q]).slots := Array.ext_getElem? fun i => e4 i fun hm => hz _ hm rfl
  have h9 : c9 = s.heap[q] := by
    rw [hs] at e2
    exact e2
  have e5 : U.heap[q]? = some c9 := e1
  rw [e5, h9, Array.getElem?_eq_getElem hq]
/-- the words of a throw but the four that speak of the heap -/
def vx_no (w : Cond) : Bool := decide (w ≠ .isRef (.static Bundle.tN "UNASSIGNED_STACK" Bundle.steD)) && decide (w ≠ .isRef (.static Bundle.tN "SUPPRESSED_SENTINEL" Bundle.listD)) && decide (w ≠ .laysStatic Bundle.tN "UNASSIGNED_STACK" Bundle.steD) && decide (w ≠ .laysStatic Bundle.tN "SUPPRESSED_SENTINEL" Bundle.listD)
def vx_at0 (own : String) (ic : Nat) (X : String) (names : List String) : List Cond := (Bundle.ownAtoms0 own ic X names).filter vx_no
def vx_atS (own : String) (ic : Nat) (X : String) (names : List String) : List Cond := (Bundle.ownAtoms own ic X names).filter vx_no
/-- a word that the tables alone decide, or a good one -/
def vx_ot (w : Cond) : Bool := w.onTables || goodWord w
theorem vx_ot_at {args a' : Array Value} {s U : State} {w : Cond} (hW : s.WarmedH U.vm) (hvm : s.vm = U.vm) (hg : vx_ot w = true) (h : w.before args s = true) : w.before a' U = true := by
  simp only [vx_ot, Bool.or_eq_true] at hg
  rcases hg with hg | hg
  · exact va_tabs hg hvm h
  · exact word_at hW (good_of_word hg) h
/-- a list's words: the good ones out of the method's own list, the others by premises of their own -/
theorem vx_hat {args : Array Value} {s : State} {L B : List Cond} (h1 : ∀ w ∈ L.filter goodWord, w.before args s = true) (h2 : ∀ w ∈ L.filter (fun w => !goodWord w), w ∈ B) (h3 : ∀ w ∈ B, w.before args s = true) : ∀ w ∈ L, w.before args s = true := by
  intro w hw
  by_cases g : goodWord w = true
  · exact h1 w (List.mem_filter.mpr ⟨hw, g⟩)
  · refine h3 w (h2 w (List.mem_filter.mpr ⟨hw, ?_⟩))
    show (!goodWord w) = true
    cases hgw : goodWord w
    · rfl
    · exact absurd hgw g
theorem vx_c {args : Array Value} {s : State} {w : Cond} {B : List Cond} (h : w.before args s = true) (t : ∀ w ∈ B, w.before args s = true) : ∀ w' ∈ w :: B, w'.before args s = true := fun w' h' => (List.mem_cons.mp h').elim (fun e => by rw [e]; exact h) (t w')
theorem vx_n {args : Array Value} {s : State} : ∀ w ∈ ([] : List Cond), w.before args s = true := fun _ h => nomatch h
theorem vx_own {args : Array Value} {s : State} {L : List Cond} (h1 : ∀ w ∈ L.filter vx_no, w.before args s = true)
    (hU : (Cond.isRef (.static Bundle.tN "UNASSIGNED_STACK" Bundle.steD)).before args s = true) (hN : (Cond.isRef (.static Bundle.tN "SUPPRESSED_SENTINEL" Bundle.listD)).before args s = true)
    (lU : (Cond.laysStatic Bundle.tN "UNASSIGNED_STACK" Bundle.steD).before args s = true) (lN : (Cond.laysStatic Bundle.tN "SUPPRESSED_SENTINEL" Bundle.listD).before args s = true) : ∀ w ∈ L, w.before args s = true := by
  intro w hw
  by_cases e1 : w = .isRef (.static Bundle.tN "UNASSIGNED_STACK" Bundle.steD)
  · rw [e1]; exact hU
  · by_cases e2 : w = .isRef (.static Bundle.tN "SUPPRESSED_SENTINEL" Bundle.listD)
    · rw [e2]; exact hN
    · by_cases e3 : w = .laysStatic Bundle.tN "UNASSIGNED_STACK" Bundle.steD
      · rw [e3]; exact lU
      · by_cases e4 : w = .laysStatic Bundle.tN "SUPPRESSED_SENTINEL" Bundle.listD
        · rw [e4]; exact lN
        · exact h1 w (List.mem_filter.mpr ⟨hw, by unfold vx_no; rw [decide_eq_true e1, decide_eq_true e2, decide_eq_true e3, decide_eq_true e4]; rfl⟩)
/-- where a static field lies, its class's statics cell in H -/
def vx_L (C n d : String) (A : Nat → Prop) (U : State) (H : Heap) : Prop := ∃ (c : ClassId) (k : Class) (i : Nat) (f : Field) (a : Nat) (cell : Cell), U.vm.findClass C = some c ∧ U.fieldFound? C n d = some (c, k, i, f) ∧ f.isStatic = true ∧ k.statics = some a ∧ H[a]? = some cell ∧ cell.vm.isStatics = true ∧ cell.cls = c ∧ f.slot < cell.slots.size ∧ k.staticTypes[f.slot]? = some f.type ∧ ¬ A a
theorem vx_L.moved {C n d : String} {A : Nat → Prop} {u U : State} {H : Heap} (hvm : u.vm.Alike U.vm) (h : vx_L C n d A u H) : vx_L C n d A U H := by
  obtain ⟨c, k, i, f, a, cell, h1, h2, h3, h4, h5, h6, h7, h8, h9, h10⟩ := h
  obtain ⟨k', hi', he⟩ := State.fieldFound?_setVm hvm h2
  exact ⟨c, k', i, f, a, cell, by rw [hvm.findClass]; exact h1, hi', h3, by rw [he]; exact h4, h5, h6, h7, h8, by rw [he]; exact h9, h10⟩
theorem vx_L.kept {C n d : String} {A : Nat → Prop} {U : State} {H H1 : Heap} (h : vx_L C n d A U H) (hq : ∀ a : Nat, a < H.size → ¬ A a → H1[a]? = H[a]?) : vx_L C n d A U H1 := by
  obtain ⟨c, k, i, f, a, cell, h1, h2, h3, h4, h5, h6, h7, h8, h9, h10⟩ := h
  exact ⟨c, k, i, f, a, cell, h1, h2, h3, h4, by rw [hq a (Array.getElem?_eq_some_iff.mp h5).1 h10]; exact h5, h6, h7, h8, h9, h10⟩
theorem vx_L.narrow {C n d : String} {A B : Nat → Prop} {U : State} {H : Heap} (h : vx_L C n d A U H) (hAB : ∀ q, B q → A q) : vx_L C n d B U H := by
  obtain ⟨c, k, i, f, a, cell, h1, h2, h3, h4, h5, h6, h7, h8, h9, h10⟩ := h
  exact ⟨c, k, i, f, a, cell, h1, h2, h3, h4, h5, h6, h7, h8, h9, fun z => h10 (hAB _ z)⟩
theorem vx_L.word {C n d : String} {A : Nat → Prop} {s : State} {args : Array Value} (h : vx_L C n d A s s.heap) : (Cond.laysStatic C n d).before args s = true := by
  obtain ⟨c, k, i, f, a, cell, h1, h2, h3, h4, h5, h6, h7, h8, h9, -⟩ := h
  show (Cond.laysStatic C n d).holds args s none s [] = true
  exact Cond.laysStatic_of h1 h2 h3 h4 h5 h6 h7 h8 h9
/-- .. and what it holds: null or some reference -/
def vx_Zq (C n d : String) (A : Nat → Prop) (U : State) (H : Heap) : Prop := va_Zq C n d A U H ∧ vx_L C n d A U H
theorem vx_Zq.moved {C n d : String} {A : Nat → Prop} {u U : State} {H : Heap} (hvm : u.vm.Alike U.vm) (h : vx_Zq C n d A u H) : vx_Zq C n d A U H := ⟨va_Zq.moved hvm h.1, vx_L.moved hvm h.2⟩
theorem vx_Zq.kept {C n d : String} {A : Nat → Prop} {U : State} {H H1 : Heap} (h : vx_Zq C n d A U H) (hq : ∀ a : Nat, a < H.size → ¬ A a → H1[a]? = H[a]?) : vx_Zq C n d A U H1 := ⟨va_Zq.kept h.1 hq, vx_L.kept h.2 hq⟩
theorem vx_Zq.narrow {C n d : String} {A B : Nat → Prop} {U : State} {H : Heap} (h : vx_Zq C n d A U H) (hAB : ∀ q, B q → A q) : vx_Zq C n d B U H := ⟨va_Zq.narrow h.1 hAB, vx_L.narrow h.2 hAB⟩
theorem vx_Zqof {args : Array Value} {s : State} {C n d : String} {A : Nat → Prop} (hl : (Cond.laysStatic C n d).before args s = true) (hini : (Cond.initialized C).before args s = true) (h : (Cond.isRef (.static C n d)).before args s = true) (hA : ∀ a : Nat, a < s.heap.size → ¬ A a) : vx_Zq C n d A s s.heap := by
  refine ⟨va_Zqof hl hini h hA, ?_⟩
  obtain ⟨c, k, i, f, a, cell, h1, h2, h3, h4, h5, h6, h7, h8, h9⟩ := Cond.laysStatic_spec hl
  exact ⟨c, k, i, f, a, cell, h1, h2, h3, h4, h5, h6, h7, h8, h9, hA a (Array.getElem?_eq_some_iff.mp h5).1⟩
theorem vx_isRef {C n d : String} {v : Value} {A : Nat → Prop} {s : State} {args : Array Value} (h : va_Z C n d v A s s.heap) (hv : v.isRef = true) : (Cond.isRef (.static C n d)).before args s = true := by
  obtain ⟨cf, kf, fi, f, a, cell, h1, h2, h3, h4, h5, h6, h7, -⟩ := h
  have he : (Term.static C n d).eval args s none [] s = some v := by
    simp [Term.eval, State.fieldNamed?, h1, h2, h4, h5, h6, h7]
  simp only [Cond.before, Cond.holds, Cond.value, he]
  cases v <;> simp_all [Value.isRef]
theorem vx_isRefq {C n d : String} {A : Nat → Prop} {s : State} {args : Array Value} (h : va_Zq C n d A s s.heap) : (Cond.isRef (.static C n d)).before args s = true := by
  rcases h with h | ⟨t, h⟩
  · exact vx_isRef h rfl
  · exact vx_isRef h rfl
/-- the same frame, seen from here: as if the method were called anew in this heap -/
theorem vx_rebase {T : State} (X : Stand p l e R s m args below meth c T locs cells slots) {R' : Room} (hf : R'.frames ≤ R.frames) (hl : R'.locals ≤ R.locals) (hc : cells + R'.cells ≤ R.cells) (hs : slots + R'.slots ≤ R.slots) :
    Stand p l e R' ((T.setVm s.vm).setFrames (.invoking m args :: below)) m args below meth c T [] 0 0 := by
  have htop : (T.setVm s.vm).topJava?.isSome := X.here.top
  have hF : ((T.setVm s.vm).setFrames (.invoking m args :: below)).frames = .invoking m args :: below := State.frames_setFrames _ (State.cur_lt_of_top htop)
  obtain ⟨g₀, hg0⟩ := Option.isSome_iff_exists.mp htop
  obtain ⟨r, hr⟩ := State.topJava?_eq_some.mp hg0
  have hl9 : e.platform.stackLimits (T.setVm s.vm).me = e.platform.stackLimits s.me := X.limits
  have hb9 : (T.setVm s.vm).me.stackBytes = s.me.stackBytes := X.bytes
  refine ⟨X.admits, X.cas, X.clock, hF, ?_, X.hears, X.method, X.code, X.here, X.tail, X.warmed, ?_, ?_, ?_⟩
  · have h := X.room
    have hU : ((T.setVm s.vm).setFrames (.invoking m args :: below)).localsInUse = s.localsInUse := by
      rw [State.localsInUse_invoking hF (meth := meth) (c := c) X.method X.code, State.localsInUse_invoking X.frames X.method X.code]
    simp only [State.hasRoom, Bool.and_eq_true, decide_eq_true_eq] at h ⊢
    obtain ⟨⟨⟨⟨h1, h2, h3, h4, h5, h6⟩, h7⟩, h8⟩, h9⟩ := h
    rw [X.frames, List.length_cons] at h2 h3
    have q1 := X.heapSize
    have q2 := X.used
    simp only [hF, hU, List.length_cons, State.stackLimits_setFrames, State.stackBytes_setFrames, hl9, hb9]
    refine ⟨⟨⟨⟨by omega, by omega, by omega, by omega, by omega, h6⟩, ?_⟩, ?_⟩, X.book⟩
    · show T.heap.size + R'.cells ≤ e.platform.maxCells
      omega
    · show T.slotsUsed + R'.slots ≤ e.platform.maxSlots
      omega
  · rw [State.stackLimits_setFrames]; rfl
  · rw [State.stackBytes_setFrames]; rfl
  · refine ⟨?_, Nat.le_refl _, Nat.le_refl _, ?_, ?_, fun a c9 h9 => ⟨c9, h9, rfl, rfl, fun _ _ => rfl⟩⟩
    · obtain ⟨t, ht, -⟩ := State.frames_cons hr
      show T.setVm s.vm = { ((T.setVm s.vm).setFrames (.invoking m args :: below)).setFrames (T.setVm s.vm).frames with heap := T.heap, slotsUsed := T.slotsUsed }
      rw [State.setFrames_setFrames, State.setFrames_self ht]
      rfl
    · show T.slotsUsed = T.slotsUsed + ((T.heap.toList.drop T.heap.size).map (·.slots.size)).sum
      rw [List.drop_eq_nil_of_le (Nat.le_of_eq Array.length_toList)]
      rfl
    · show ((T.heap.toList.drop T.heap.size).map (·.slots.size)).sum ≤ 0
      rw [List.drop_eq_nil_of_le (Nat.le_of_eq Array.length_toList)]
      exact Nat.le_refl _
/-- 'throw new E()': new; dup; invokespecial; athrow -/
theorem vx_throw0 {cc : ByteArray} {pc : Nat} (hexec : p.tables.exec = Jvm.exec) (hb : c.code = cc) (hl : l.stackTraces = false) {own cls : String} {names : List String} {ik ic mc ms : Nat} {A : Nat → Prop}
    (hown : s.vm.findClass own = some m.cls) (hcls : Bundle.fit cls = true) (hnames : ∀ n ∈ names, Bundle.fit n = true)
    (hk : (Cond.classLink own ik cls).before args s = true) (hini : (Cond.initialized cls).before args s = true) (hat : ∀ w ∈ vx_at0 own ic cls names, w.before args s = true)
    (hgood : ∀ w ∈ Cond.classLink own ik cls :: Cond.initialized cls :: vx_at0 own ic cls names, vx_ot w = true)
    (hU : vx_Zq Bundle.tN "UNASSIGNED_STACK" Bundle.steD A s s.heap) (hN : vx_Zq Bundle.tN "SUPPRESSED_SENTINEL" Bundle.listD A s s.heap) (hS : va_S A s.heap H locs) (hsize : ls.size = c.maxLocals)
    (d0 : decode cc pc = .ok (.new ik, 3)) (d3 : decode cc (pc + 3) = .ok (.dup, 1)) (d4 : decode cc (pc + 4) = .ok (.invokespecial ic, 3)) (d7 : decode cc (pc + 7) = .ok (.athrow, 1))
    (hout : ∀ x ∈ c.exceptionTable.toList, covers x (pc + 7) = false)
    (hRframes : names.length + 3 < R.frames) (hRlocals : (rest.map fun v => v.category).sum + (13 * (names.length + 1) + 42) ≤ R.locals) (hRcells : cells + 1 ≤ R.cells) (hRslots : slots + 6 ≤ R.slots) (hlocks : meth.locks = false)
    (hx : ∀ t : State, s.vm.Alike t.vm → H.size ≤ t.heap.size → (∀ q : Nat, q < H.size → t.heap[q]? = H[q]?) → XC cls s t)
    (hf : ∀ z ∈ locs, free z.base) (hc : cells + 1 ≤ mc) (hs : slots + 6 ≤ ms) :
    W p l e R s m args below meth c H locs cells slots (vx_MQ below Qc XC args s mc ms free) (F0 m pc ls rest) := by
  intro T hT X
  have htr : e.platform.stackTraces = false := (show e.platform.stackTraces = l.stackTraces by rw [X.admits.platform]).trans hl
  have Y := vx_rebase X (R' := { frames := R.frames, locals := R.locals, cells := 1, slots := 6 }) (Nat.le_refl _) (Nat.le_refl _) hRcells hRslots
  obtain ⟨s', hA⟩ : ∃ z, z = (T.setVm s.vm).setFrames (.invoking m args :: below) := ⟨_, rfl⟩
  rw [← hA] at Y
  have hvm : s'.vm = s.vm := by rw [hA]; rfl
  have hhp : s'.heap = H := by rw [hA]; exact hT
  have hW0 : s.WarmedH s'.vm := by rw [hvm]; exact State.WarmedH.refl s
  have hat' : ∀ w ∈ vx_at0 own ic cls names, w.before args s' = true := fun w hw => vx_ot_at hW0 hvm.symm (hgood w (List.mem_cons_of_mem _ (List.mem_cons_of_mem _ hw))) (hat w hw)
  have hk' : (Cond.classLink own ik cls).before args s' = true := vx_ot_at hW0 hvm.symm (hgood _ List.mem_cons_self) hk
  have hini' : (Cond.initialized cls).before args s' = true := vx_ot_at hW0 hvm.symm (hgood _ (List.mem_cons_of_mem _ List.mem_cons_self)) hini
  have hU' : vx_Zq Bundle.tN "UNASSIGNED_STACK" Bundle.steD A s' s'.heap := by rw [hhp]; exact vx_Zq.moved hW0.alike (hU.kept hS.2.1)
  have hN' : vx_Zq Bundle.tN "SUPPRESSED_SENTINEL" Bundle.listD A s' s'.heap := by rw [hhp]; exact vx_Zq.moved hW0.alike (hN.kept hS.2.1)
  have h : ∀ w ∈ Bundle.ownAtoms0 own ic cls names, w.before args s' = true := vx_own hat' (vx_isRefq hU'.1) (vx_isRefq hN'.1) hU'.2.word hN'.2.word
  have hown' : s'.vm.findClass own = some m.cls := by rw [hvm]; exact hown
  have hins : (Cond.instantiable cls 6).before args s' = true := h _ (by simp [Bundle.ownAtoms0])
  obtain ⟨vm₁, cX, kX, hfX, hkX, -, -, X₁, st1⟩ := Y.newCold hexec (own := own) (C := cls) (index := ik) (n := 6) hown' hk' hins hini'
    (g := F0 m pc ls rest) rfl (by rw [hb]; exact d0) (Nat.le_refl _) (Nat.le_refl _)
  generalize hT1 : (T.setVm vm₁).pushCell { cls := cX, slots := kX.instanceTypes.map defaultValue, vm := .none } = T1 at X₁ st1
  have hcat : (Value.ref T.heap.size).category = 1 := rfl
  have hcellA : T1.heap[T.heap.size]? = some (freshCell cX kX) := by rw [← hT1]; exact State.heap_pushCell_size _ _
  have d3' : decode c.code (pc + 3) = .ok (.dup, 1) := by rw [hb]; exact d3
  obtain ⟨U, hsteps, hrun, hend, hW, hsame, ce, hce, hO⟩ := X₁.ctorThrow0 hexec htr (own := own) (cls := cls) (names := names) (ic := ic) hown' hcls hnames h (fun x hx => nomatch hx) hfX hkX hcellA (by rw [hhp, hT]; exact Nat.le_refl _)
    (g := { method := m, pc := pc + 4, locals := ls, stack := .ref T.heap.size :: .ref T.heap.size :: rest, locked := none }) rfl hsize rfl rfl (rest := rest) rfl
    (by rw [hb]; exact d4) (by rw [hb]; exact d7) hout hRframes (by simp only [List.map_cons, List.sum_cons, hcat]; omega) hlocks
  obtain ⟨f1, f2⟩ := vx_frame hsame
  rw [hhp] at f1 f2
  have hWs : s.WarmedH U.vm := State.WarmedH.trans hW0 hW
  have hcl : s.vm.findClass cls = some ce.cls := by
    have h9 := hO.cls
    rw [hvm] at h9
    exact h9
  have hall : s.sameButNew ({ U with vm := s.vm } : State) locs mc ms := by
    subst hA
    obtain ⟨e1, e2⟩ := hsame
    rw [State.setFrames_setFrames] at e1
    have h2 : (T.setVm s.vm).sameButNew ({ U with vm := s.vm } : State) [] (0 + 1) (0 + 6) := ⟨e1, e2⟩
    have h3 := X.same.trans h2
    rw [List.append_nil] at h3
    exact h3.mono hc hs
  refine ⟨U, ?_, .threw T.heap.size, hrun, hend, Or.inr ⟨T.heap.size, rfl, cls, ce, locs, hx U hWs.alike f1 (fun q hq => f2 q hq (fun z hz => nomatch hz)), hce, hO.vm, hcl, hWs, hall, hf⟩⟩
  refine st1 _ ?_
  show Steps p.tables e below (T1.setTop { method := m, pc := pc + 3, locals := ls, stack := .ref T.heap.size :: rest, locked := none }) _
  jvm_step X₁.here [X₁.here.top, hexec, d3', Value.category]
  exact hsteps
/-- 'throw new E("text")': new; dup; ldc; invokespecial; athrow -/
theorem vx_throwS {cc : ByteArray} {pc : Nat} (hexec : p.tables.exec = Jvm.exec) (hb : c.code = cc) (hl : l.stackTraces = false) {own cls text : String} {names : List String} {ik is ic mc ms sa : Nat} {A : Nat → Prop}
    (hown : s.vm.findClass own = some m.cls) (hcls : Bundle.fit cls = true) (hnames : ∀ n ∈ names, Bundle.fit n = true)
    (hk : (Cond.classLink own ik cls).before args s = true) (hini : (Cond.initialized cls).before args s = true) (hstr : vk_R own is text sa s) (hat : ∀ w ∈ vx_atS own ic cls names, w.before args s = true)
    (hgood : ∀ w ∈ Cond.classLink own ik cls :: Cond.initialized cls :: vx_atS own ic cls names, vx_ot w = true)
    (hU : vx_Zq Bundle.tN "UNASSIGNED_STACK" Bundle.steD A s s.heap) (hN : vx_Zq Bundle.tN "SUPPRESSED_SENTINEL" Bundle.listD A s s.heap) (hS : va_S A s.heap H locs) (hsize : ls.size = c.maxLocals)
    (d0 : decode cc pc = .ok (.new ik, 3)) (d3 : decode cc (pc + 3) = .ok (.dup, 1)) (d4 : decode cc (pc + 4) = .ok (.ldc is, 2)) (d6 : decode cc (pc + 6) = .ok (.invokespecial ic, 3)) (d9 : decode cc (pc + 9) = .ok (.athrow, 1))
    (hout : ∀ x ∈ c.exceptionTable.toList, covers x (pc + 9) = false)
    (hRframes : names.length + 3 < R.frames) (hRlocals : (rest.map fun v => v.category).sum + (13 * (names.length + 1) + 43) ≤ R.locals) (hRcells : cells + 1 ≤ R.cells) (hRslots : slots + 6 ≤ R.slots) (hlocks : meth.locks = false)
    (hx : ∀ t : State, s.vm.Alike t.vm → H.size ≤ t.heap.size → (∀ q : Nat, q < H.size → t.heap[q]? = H[q]?) → XC cls s t)
    (hf : ∀ z ∈ locs, free z.base) (hc : cells + 1 ≤ mc) (hs : slots + 6 ≤ ms) :
    W p l e R s m args below meth c H locs cells slots (vx_MQ below Qc XC args s mc ms free) (F0 m pc ls rest) := by
  intro T hT X
  have htr : e.platform.stackTraces = false := (show e.platform.stackTraces = l.stackTraces by rw [X.admits.platform]).trans hl
  have Y := vx_rebase X (R' := { frames := R.frames, locals := R.locals, cells := 1, slots := 6 }) (Nat.le_refl _) (Nat.le_refl _) hRcells hRslots
  obtain ⟨s', hA⟩ : ∃ z, z = (T.setVm s.vm).setFrames (.invoking m args :: below) := ⟨_, rfl⟩
  rw [← hA] at Y
  have hvm : s'.vm = s.vm := by rw [hA]; rfl
  have hhp : s'.heap = H := by rw [hA]; exact hT
  have hW0 : s.WarmedH s'.vm := by rw [hvm]; exact State.WarmedH.refl s
  have hat' : ∀ w ∈ vx_atS own ic cls names, w.before args s' = true := fun w hw => vx_ot_at hW0 hvm.symm (hgood w (List.mem_cons_of_mem _ (List.mem_cons_of_mem _ hw))) (hat w hw)
  have hk' : (Cond.classLink own ik cls).before args s' = true := vx_ot_at hW0 hvm.symm (hgood _ List.mem_cons_self) hk
  have hini' : (Cond.initialized cls).before args s' = true := vx_ot_at hW0 hvm.symm (hgood _ (List.mem_cons_of_mem _ List.mem_cons_self)) hini
  have hU' : vx_Zq Bundle.tN "UNASSIGNED_STACK" Bundle.steD A s' s'.heap := by rw [hhp]; exact vx_Zq.moved hW0.alike (hU.kept hS.2.1)
  have hN' : vx_Zq Bundle.tN "SUPPRESSED_SENTINEL" Bundle.listD A s' s'.heap := by rw [hhp]; exact vx_Zq.moved hW0.alike (hN.kept hS.2.1)
  have h : ∀ w ∈ Bundle.ownAtoms own ic cls names, w.before args s' = true := vx_own hat' (vx_isRefq hU'.1) (vx_isRefq hN'.1) hU'.2.word hN'.2.word
  have hown' : s'.vm.findClass own = some m.cls := by rw [hvm]; exact hown
  have hins : (Cond.instantiable cls 6).before args s' = true := h _ (by simp [Bundle.ownAtoms])
  obtain ⟨vm₁, cX, kX, hfX, hkX, -, -, X₁, st1⟩ := Y.newCold hexec (own := own) (C := cls) (index := ik) (n := 6) hown' hk' hins hini'
    (g := F0 m pc ls rest) rfl (by rw [hb]; exact d0) (Nat.le_refl _) (Nat.le_refl _)
  generalize hT1 : (T.setVm vm₁).pushCell { cls := cX, slots := kX.instanceTypes.map defaultValue, vm := .none } = T1 at X₁ st1
  have hcat : (Value.ref T.heap.size).category = 1 := rfl
  have hcellA : T1.heap[T.heap.size]? = some (freshCell cX kX) := by rw [← hT1]; exact State.heap_pushCell_size _ _
  have d3' : decode c.code (pc + 3) = .ok (.dup, 1) := by rw [hb]; exact d3
  have d4' : decode c.code (pc + 4) = .ok (.ldc is, 2) := by rw [hb]; exact d4
  have hstr' : vk_R own is text sa s' := vk_R.warm hW0 hstr
  obtain ⟨U, hsteps, hrun, hend, hW, hsame, ce, hce, hO⟩ := X₁.ctorThrowS hexec htr (own := own) (cls := cls) (names := names) (ic := ic) hown' hcls hnames h (fun x hx => nomatch hx) hfX hkX hcellA (by rw [hhp, hT]; exact Nat.le_refl _) (msg := .ref sa) rfl
    (g := { method := m, pc := pc + 6, locals := ls, stack := .ref sa :: .ref T.heap.size :: .ref T.heap.size :: rest, locked := none }) rfl hsize rfl rfl (rest := rest) rfl
    (by rw [hb]; exact d6) (by rw [hb]; exact d9) hout hRframes (by simp only [List.map_cons, List.sum_cons, hcat]; omega) hlocks
  obtain ⟨f1, f2⟩ := vx_frame hsame
  rw [hhp] at f1 f2
  have hWs : s.WarmedH U.vm := State.WarmedH.trans hW0 hW
  have hcl : s.vm.findClass cls = some ce.cls := by
    have h9 := hO.cls
    rw [hvm] at h9
    exact h9
  have hall : s.sameButNew ({ U with vm := s.vm } : State) locs mc ms := by
    subst hA
    obtain ⟨e1, e2⟩ := hsame
    rw [State.setFrames_setFrames] at e1
    have h2 : (T.setVm s.vm).sameButNew ({ U with vm := s.vm } : State) [] (0 + 1) (0 + 6) := ⟨e1, e2⟩
    have h3 := X.same.trans h2
    rw [List.append_nil] at h3
    exact h3.mono hc hs
  refine ⟨U, ?_, .threw T.heap.size, hrun, hend, Or.inr ⟨T.heap.size, rfl, cls, ce, locs, hx U hWs.alike f1 (fun q hq => f2 q hq (fun z hz => nomatch hz)), hce, hO.vm, hcl, hWs, hall, hf⟩⟩
  refine st1 _ ?_
  show Steps p.tables e below (T1.setTop { method := m, pc := pc + 3, locals := ls, stack := .ref T.heap.size :: rest, locked := none }) _
  jvm_step X₁.here [X₁.here.top, hexec, d3', Value.category]
  exact X₁.ldcString hexec (own := own) (text := text) (index := is) (a := sa) hown' hstr'.1 hstr'.2
    (g := { method := m, pc := pc + 4, locals := ls, stack := .ref T.heap.size :: .ref T.heap.size :: rest, locked := none }) rfl d4' _ hsteps
/-- 'throw new E("text")', the text by a wide index -/
theorem vx_throwSW {cc : ByteArray} {pc : Nat} (hexec : p.tables.exec = Jvm.exec) (hb : c.code = cc) (hl : l.stackTraces = false) {own cls text : String} {names : List String} {ik is ic mc ms sa : Nat} {A : Nat → Prop}
    (hown : s.vm.findClass own = some m.cls) (hcls : Bundle.fit cls = true) (hnames : ∀ n ∈ names, Bundle.fit n = true)
    (hk : (Cond.classLink own ik cls).before args s = true) (hini : (Cond.initialized cls).before args s = true) (hstr : vk_R own is text sa s) (hat : ∀ w ∈ vx_atS own ic cls names, w.before args s = true)
    (hgood : ∀ w ∈ Cond.classLink own ik cls :: Cond.initialized cls :: vx_atS own ic cls names, vx_ot w = true)
    (hU : vx_Zq Bundle.tN "UNASSIGNED_STACK" Bundle.steD A s s.heap) (hN : vx_Zq Bundle.tN "SUPPRESSED_SENTINEL" Bundle.listD A s s.heap) (hS : va_S A s.heap H locs) (hsize : ls.size = c.maxLocals)
    (d0 : decode cc pc = .ok (.new ik, 3)) (d3 : decode cc (pc + 3) = .ok (.dup, 1)) (d4 : decode cc (pc + 4) = .ok (.ldc_w is, 3)) (d7 : decode cc (pc + 7) = .ok (.invokespecial ic, 3)) (d10 : decode cc (pc + 10) = .ok (.athrow, 1))
    (hout : ∀ x ∈ c.exceptionTable.toList, covers x (pc + 10) = false)
    (hRframes : names.length + 3 < R.frames) (hRlocals : (rest.map fun v => v.category).sum + (13 * (names.length + 1) + 43) ≤ R.locals) (hRcells : cells + 1 ≤ R.cells) (hRslots : slots + 6 ≤ R.slots) (hlocks : meth.locks = false)
    (hx : ∀ t : State, s.vm.Alike t.vm → H.size ≤ t.heap.size → (∀ q : Nat, q < H.size → t.heap[q]? = H[q]?) → XC cls s t)
    (hf : ∀ z ∈ locs, free z.base) (hc : cells + 1 ≤ mc) (hs : slots + 6 ≤ ms) :
    W p l e R s m args below meth c H locs cells slots (vx_MQ below Qc XC args s mc ms free) (F0 m pc ls rest) := by
  intro T hT X
  have htr : e.platform.stackTraces = false := (show e.platform.stackTraces = l.stackTraces by rw [X.admits.platform]).trans hl
  have Y := vx_rebase X (R' := { frames := R.frames, locals := R.locals, cells := 1, slots := 6 }) (Nat.le_refl _) (Nat.le_refl _) hRcells hRslots
  obtain ⟨s', hA⟩ : ∃ z, z = (T.setVm s.vm).setFrames (.invoking m args :: below) := ⟨_, rfl⟩
  rw [← hA] at Y
  have hvm : s'.vm = s.vm := by rw [hA]; rfl
  have hhp : s'.heap = H := by rw [hA]; exact hT
  have hW0 : s.WarmedH s'.vm := by rw [hvm]; exact State.WarmedH.refl s
  have hat' : ∀ w ∈ vx_atS own ic cls names, w.before args s' = true := fun w hw => vx_ot_at hW0 hvm.symm (hgood w (List.mem_cons_of_mem _ (List.mem_cons_of_mem _ hw))) (hat w hw)
  have hk' : (Cond.classLink own ik cls).before args s' = true := vx_ot_at hW0 hvm.symm (hgood _ List.mem_cons_self) hk
  have hini' : (Cond.initialized cls).before args s' = true := vx_ot_at hW0 hvm.symm (hgood _ (List.mem_cons_of_mem _ List.mem_cons_self)) hini
  have hU' : vx_Zq Bundle.tN "UNASSIGNED_STACK" Bundle.steD A s' s'.heap := by rw [hhp]; exact vx_Zq.moved hW0.alike (hU.kept hS.2.1)
  have hN' : vx_Zq Bundle.tN "SUPPRESSED_SENTINEL" Bundle.listD A s' s'.heap := by rw [hhp]; exact vx_Zq.moved hW0.alike (hN.kept hS.2.1)
  have h : ∀ w ∈ Bundle.ownAtoms own ic cls names, w.before args s' = true := vx_own hat' (vx_isRefq hU'.1) (vx_isRefq hN'.1) hU'.2.word hN'.2.word
  have hown' : s'.vm.findClass own = some m.cls := by rw [hvm]; exact hown
  have hins : (Cond.instantiable cls 6).before args s' = true := h _ (by simp [Bundle.ownAtoms])
  obtain ⟨vm₁, cX, kX, hfX, hkX, -, -, X₁, st1⟩ := Y.newCold hexec (own := own) (C := cls) (index := ik) (n := 6) hown' hk' hins hini'
    (g := F0 m pc ls rest) rfl (by rw [hb]; exact d0) (Nat.le_refl _) (Nat.le_refl _)
  generalize hT1 : (T.setVm vm₁).pushCell { cls := cX, slots := kX.instanceTypes.map defaultValue, vm := .none } = T1 at X₁ st1
  have hcat : (Value.ref T.heap.size).category = 1 := rfl
  have hcellA : T1.heap[T.heap.size]? = some (freshCell cX kX) := by rw [← hT1]; exact State.heap_pushCell_size _ _
  have d3' : decode c.code (pc + 3) = .ok (.dup, 1) := by rw [hb]; exact d3
  have d4' : decode c.code (pc + 4) = .ok (.ldc_w is, 3) := by rw [hb]; exact d4
  have hstr' : vk_R own is text sa s' := vk_R.warm hW0 hstr
  obtain ⟨U, hsteps, hrun, hend, hW, hsame, ce, hce, hO⟩ := X₁.ctorThrowS hexec htr (own := own) (cls := cls) (names := names) (ic := ic) hown' hcls hnames h (fun x hx => nomatch hx) hfX hkX hcellA (by rw [hhp, hT]; exact Nat.le_refl _) (msg := .ref sa) rfl
    (g := { method := m, pc := pc + 7, locals := ls, stack := .ref sa :: .ref T.heap.size :: .ref T.heap.size :: rest, locked := none }) rfl hsize rfl rfl (rest := rest) rfl
    (by rw [hb]; exact d7) (by rw [hb]; exact d10) hout hRframes (by simp only [List.map_cons, List.sum_cons, hcat]; omega) hlocks
  obtain ⟨f1, f2⟩ := vx_frame hsame
  rw [hhp] at f1 f2
  have hWs : s.WarmedH U.vm := State.WarmedH.trans hW0 hW
  have hcl : s.vm.findClass cls = some ce.cls := by
    have h9 := hO.cls
    rw [hvm] at h9
    exact h9
  have hall : s.sameButNew ({ U with vm := s.vm } : State) locs mc ms := by
    subst hA
    obtain ⟨e1, e2⟩ := hsame
    rw [State.setFrames_setFrames] at e1
    have h2 : (T.setVm s.vm).sameButNew ({ U with vm := s.vm } : State) [] (0 + 1) (0 + 6) := ⟨e1, e2⟩
    have h3 := X.same.trans h2
    rw [List.append_nil] at h3
    exact h3.mono hc hs
  refine ⟨U, ?_, .threw T.heap.size, hrun, hend, Or.inr ⟨T.heap.size, rfl, cls, ce, locs, hx U hWs.alike f1 (fun q hq => f2 q hq (fun z hz => nomatch hz)), hce, hO.vm, hcl, hWs, hall, hf⟩⟩
  refine st1 _ ?_
  show Steps p.tables e below (T1.setTop { method := m, pc := pc + 3, locals := ls, stack := .ref T.heap.size :: rest, locked := none }) _
  jvm_step X₁.here [X₁.here.top, hexec, d3', Value.category]
  exact X₁.ldcStringW hexec (own := own) (text := text) (index := is) (a := sa) hown' hstr'.1 hstr'.2
    (g := { method := m, pc := pc + 4, locals := ls, stack := .ref T.heap.size :: .ref T.heap.size :: rest, locked := none }) rfl d4' _ hsteps
end Ends
section Bodies
variable {l : Launch}
theorem vx_ofW {y : MethodName} {ws ws' : List Cond} {rm : Room} {Pc : Array Value → State → Prop} {Qc : Array Value → State → Outcome → State → Prop} {XC : String → State → State → Prop} {mc ms : Nat} {free : Addr → Prop} {cc : ByteArray} {maxL : Nat} {ret : Option FieldType}
    (hy : plainName y.cls = true) (hw : ws = Cond.code y cc maxL ret :: ws')
    (body : ∀ p e s m args below meth c s₁, BodyLoose p l y (headSpec ws rm) cc maxL ret e s m args below meth c s₁ → c.maxLocals = maxL → (∀ x ∈ c.exceptionTable.toList, False) → Pc args s →
      W p l e (headSpec ws rm).room s m args below meth c s.heap [] 0 0 (vx_MQ below Qc XC args s mc ms free) (entryFrame m args maxL)) : vx_Met l y ws rm Pc Qc XC mc ms free := by
  refine MetFree.of_bodyS (code := cc) (maxLocals := maxL) (ret := ret) hy ?_ ?_
  · intro args s m h hn
    obtain ⟨meth, c, h1, h2, h3, h4, h5, h6, -, -⟩ := Cond.code_spec hn (atoms_spec (ws := ws) h _ (by rw [hw]; exact List.mem_cons_self))
    exact ⟨meth, c, h1, h2, h3, h4, h5, h6⟩
  · intro p e s m args below meth c s₁ B hml hP _
    have hh0 : s₁.heap = s.heap := by rw [B.state]; rfl
    have ht : ∀ x ∈ c.exceptionTable.toList, False := by
      obtain ⟨meth9, c9, h1, h2, -, -, -, -, h7, -⟩ := Cond.code_spec B.named (atoms_spec (ws := ws) B.pre _ (by rw [hw]; exact List.mem_cons_self))
      cases Option.some.inj (h1.symm.trans B.method)
      cases Option.some.inj (h2.symm.trans (Stand.of_body B).code)
      intro x hx
      rw [Array.isEmpty_iff.mp h7] at hx
      cases hx
    obtain ⟨t, a1, o, b1, b2, b3⟩ := body p e s m args below meth c s₁ B hml ht hP s₁ hh0 (Stand.of_body B)
    exact ⟨t, o, a1, b1, b2, b3⟩
/-- the table of a body with handlers -/
theorem vx_table {p : Program} {x y : MethodName} {S : Spec} {cc bytes : ByteArray} {maxL maxL' : Nat} {ret ret' : Option FieldType} {e : Env} {s s₁ : State} {m : MethodId} {args : Array Value} {below : List Frame} {meth : Method} {c : Code} {hh : List (Nat × Nat × Nat × Nat)}
    (B : BodyLoose p l y S cc maxL ret e s m args below meth c s₁) (h : (Cond.codeWith y bytes maxL' ret' hh).before args s = true) : c.exceptionTable.toList = tableOf hh := by
  obtain ⟨m9, meth9, c9, hn9, h1, h2, -, -, h6, -⟩ := Cond.codeWith_spec h
  cases Option.some.inj (hn9.symm.trans B.named)
  cases Option.some.inj (h1.symm.trans B.method)
  cases Option.some.inj (h2.symm.trans (Stand.of_body B).code)
  rw [← h6, table_eq]
end Bodies
end VXA
/-! ===== END ===== -/
/-! ===== BEGIN a static call of a method with an exception table ===== -/
section VXS
variable {p : Program} {l : Launch} {e : Env} {R : Room} {s : State} {m : MethodId} {args : Array Value} {below : List Frame} {meth : Method} {c : Code} {T : State} {H : Heap} {locs : List Loc} {cells slots : Nat}
abbrev vx_CSW (R : Room) (s : State) (args : Array Value) (own : String) (index : Nat) (y : MethodName) (bytes : ByteArray) (maxL : Nat) (ret : Option FieldType) (hh : List (Nat × Nat × Nat × Nat)) (ws : List Cond) (rm : Room) (mc ms n : Nat) : Prop :=
  (rm.cells = mc ∧ rm.slots = ms ∧ rm.frames + 1 ≤ R.frames ∧ 8 + (maxL + 11) + rm.locals ≤ R.locals ∧ (∀ w ∈ ws, ∀ (a' : Array Value) (U : State), s.WarmedH U.vm → w.before a' U = true) ∧ Cond.codeWith y bytes maxL ret hh ∈ ws) ∧
  (Cond.codeWith y bytes maxL ret hh).before args s = true ∧ (Cond.initialized y.cls).before args s = true ∧ (y.cls ≠ "java/lang/invoke/MethodHandle" ∧ y.cls ≠ "java/lang/invoke/VarHandle") ∧
  (∀ sig, parseMethodDescriptor y.desc = some sig → n = sig.parameters.length) ∧ (Cond.methodLink own index y).before args s = true ∧ (Cond.static y).before args s = true
theorem vx_cwSW {own : String} {index maxL mc ms : Nat} {y : MethodName} {bytes : ByteArray} {ret : Option FieldType} {hh : List (Nat × Nat × Nat × Nat)} {Ts ws ws' : List Cond} {rm : Room} (n : Nat) (ht : ∀ w ∈ Ts, w.before args s = true) (hT : GoodIn Ts (va_wsS own index y ws)) (hw : ws = Cond.codeWith y bytes maxL ret hh :: ws') (hrc : rm.cells = mc) (hrs : rm.slots = ms)
    (hd : y.cls ≠ "java/lang/invoke/MethodHandle" ∧ y.cls ≠ "java/lang/invoke/VarHandle" ∧ (parseMethodDescriptor y.desc).map (fun d => d.parameters.length) = some n) (hR : rm.frames + 1 ≤ R.frames ∧ 8 + (maxL + 11) + rm.locals ≤ R.locals) :
    vx_CSW R s args own index y bytes maxL ret hh ws rm mc ms n := by
  have ok : ∀ w ∈ va_wsS own index y ws, w.before args s = true := fun w h => ht w (hT w h).1
  have hG : GoodIn Ts ws := fun w h => hT w (by unfold va_wsS; exact List.mem_append_right _ h)
  have hc : Cond.codeWith y bytes maxL ret hh ∈ ws := by rw [hw]; exact List.mem_cons_self
  refine ⟨⟨hrc, hrs, hR.1, hR.2, pay_in ht hG, hc⟩, ht _ (hG _ hc).1, ok _ (by simp [va_wsS]), ⟨hd.1, hd.2.1⟩, fun sig h => ?_, ok _ (by simp [va_wsS]), ok _ (by simp [va_wsS])⟩
  have h2 := hd.2.2
  rw [h] at h2
  exact (Option.some.inj h2).symm
theorem vx_callSW (X : Stand p l e R s m args below meth c T locs cells slots) (hexec : p.tables.exec = Jvm.exec) {own : String} {index : Nat} {y : MethodName} {bytes : ByteArray} {maxL : Nat} {ret : Option FieldType} {hh : List (Nat × Nat × Nat × Nat)}
    (hown : s.vm.findClass own = some m.cls) (hlink : (Cond.methodLink own index y).before args s = true) (hstat : (Cond.static y).before args s = true) (hinit : (Cond.initialized y.cls).before args s = true)
    (hcode : (Cond.codeWith y bytes maxL ret hh).before args s = true) (hy : y.cls ≠ "java/lang/invoke/MethodHandle" ∧ y.cls ≠ "java/lang/invoke/VarHandle")
    {W9 : Nat} {Pre : Pt → Array Value → Prop} {Post : Pt → Array Value → Option Value → Pt → Prop} (hK : Back l R p e below s args y 3 W9 Pre Post)
    {g : JFrame} (hg : g.method = m) (hsize : g.locals.size = c.maxLocals) {argsL rest : List Value} (hlen : ∀ sig, parseMethodDescriptor y.desc = some sig → argsL.length = sig.parameters.length)
    (hstack : g.stack = argsL.reverse ++ rest) (hW : 2 * g.monitorRoom + (rest.map fun v => v.category).sum ≤ W9) (hdg : decode c.code g.pc = .ok (.invokestatic index, 3))
    (hpre : ∀ vm₁, s.WarmedH vm₁ → Pre ⟨T.setVm vm₁, locs, cells, slots⟩ argsL.toArray) :
    ∃ (v : Option Value) (vm₁ : Vm) (B : Pt), s.WarmedH vm₁ ∧ Stand p l e R s m args below meth c B.U B.locs B.cells B.slots ∧ Post ⟨T.setVm vm₁, locs, cells, slots⟩ argsL.toArray v B ∧
      ∀ target, Steps p.tables e below (B.U.setTop { g with pc := g.pc + 3, stack := v.toList ++ rest }) target → Steps p.tables e below (T.setTop g) target := by
  obtain ⟨mk, methM, cM, hnamed, hmethM, -, -, -, -, -, -, hsigM⟩ := Cond.codeWith_spec hcode
  have hstatic : methM.isStatic = true := Cond.static_spec hnamed hmethM hstat
  obtain ⟨kP, hkP, -⟩ := className_of_methodNamed hnamed
  have hinitP : kP.init = .initialized := Cond.initialized_spec (findClass_of_methodNamed hnamed) hkP hinit
  obtain ⟨vm₁, X₁, hstep₁⟩ := X.invokestatic hexec hown hlink hnamed hmethM hstatic hkP hinitP hy (g := g) hg (argsL := argsL) (rest := rest) (hlen _ hsigM) hstack hdg
  obtain ⟨v, B, X', hpost, hsteps⟩ := hK m meth c ⟨T.setVm vm₁, locs, cells, slots⟩ { g with stack := rest } (.invokestatic index) mk argsL.toArray X₁ hg hsize hdg hW (X₁.named hnamed) (hpre vm₁ X₁.warmed)
  exact ⟨v, vm₁, B, X₁.warmed, X', hpost, fun target h => hstep₁ _ fun acts => by rw [doInvoke_state]; exact hsteps.trans h⟩
theorem vx_runSW {y : MethodName} {bytes cc : ByteArray} {maxL nL mc ms n index : Nat} {ret : Option FieldType} {hh : List (Nat × Nat × Nat × Nat)} {ws : List Cond} {rm : Room} {Pc : Array Value → State → Prop} {Qc : Array Value → State → Outcome → State → Prop} {free : Addr → Prop} {Ts : List Cond} {own : String} {As rest : List Value} {g : JFrame}
    (S : CallFix p m c cc nL s args Ts own) (hM : Met l y ws rm Pc Qc mc ms free) (cw : vx_CSW R s args own index y bytes maxL ret hh ws rm mc ms n) (hp : PreS s H Pc As)
    (hg : g.method = m) (hn : As.length = n) (hsize : g.locals.size = nL) (hstack : g.stack = As.reverse ++ rest) (hW : 2 * g.monitorRoom + (rest.map fun v => v.category).sum ≤ 8) (hdg : decode cc g.pc = .ok (.invokestatic index, 3)) (hf : cells + mc ≤ R.cells ∧ slots + ms ≤ R.slots) :
    va_Run p l e R s m args below meth c H locs cells slots mc ms g rest (Qc As.toArray) (free) := by
  obtain ⟨⟨hrc, hrs, hfr, hlo, hws, hcw⟩, hcode, hini, hy, hlen, hl, hstt⟩ := cw
  have hK : Back l R p e below s args y 3 8 (PreOf R mc ms Pc) (PostOf Qc mc ms free) := va_backW (hh := hh) (bytes := bytes) (maxL := maxL) (ret := ret) hM hp.1 hrc hrs hfr hlo hws hcw (fun a' U hW => word_at hW (Or.inl (by first | rfl | simp [Cond.onTables, Cond.keeps, Cond.steady])) hini)
  obtain ⟨hx, hb, hml, ho, -⟩ := S
  intro T hT X
  obtain ⟨v, vm₁, ⟨U', l2, c2, s2⟩, hW₁, X', ⟨g', mk, t, L, e1, e2, hq, h1, hL, h2, h3⟩, st⟩ := vx_callSW X hx (hh := hh) (bytes := bytes) (maxL := maxL) (ret := ret) ho hl hstt hini hcode hy hK hg (hsize.trans hml.symm) (argsL := As) (rest := rest) (fun sig h => hn.trans (hlen sig h)) hstack hW (by rw [hb]; exact hdg)
    (fun vm₁ hW₁ => ⟨hf.1, hf.2, hp.2 (T.setVm vm₁) hT hW₁⟩)
  dsimp only [Pt.U, Pt.locs, Pt.cells, Pt.slots] at X' e1 e2 h1 h2 h3 st
  subst h1; subst h2; subst h3
  exact ⟨v, (T.setVm vm₁).calling g' mk As.toArray, t, U', L, hT, X', hL, e1, e2, hq, st⟩
/-- not caught here, past rows that name other classes: it goes on to the caller -/
theorem vx_outP {p : Program} {l : Launch} {e : Env} {R : Room} {s : State} {m : MethodId} {args : Array Value} {below : List Frame} {meth : Method} {c : Code} {H : Heap} {locs : List Loc} {cells slots : Nat} {free : Addr → Prop} {ls : Array Slot} {rest : List Value} {Qc : Array Value → State → Outcome → State → Prop} {XC : String → State → State → Prop}
    {pc : Nat} {own E : String} {ce : Cell} {q : Addr} {mc ms : Nat} (hown : s.vm.findClass own = some m.cls) (hlocks : meth.locks = false)
    (hpass : ∀ z ∈ c.exceptionTable.toList, covers z pc = false ∨ (z.catchType ≠ 0 ∧ ∃ nm : String, (Cond.classLink own z.catchType nm).before args s = true ∧ va_Nc E nm s)) (hcell : H[q]? = some ce) (hv : ce.vm = .none) (hcl : s.vm.findClass E = some ce.cls)
    (hx : ∀ t : State, t.heap = H → s.vm.Alike t.vm → XC E s t) (hf : ∀ z ∈ locs, free z.base) (hc : cells ≤ mc) (hs : slots ≤ ms) :
    vx_W p l e R s m args below meth c H locs cells slots (vx_MQ below Qc XC args s mc ms free) (F0 m pc ls rest) q := by
  intro T hT X
  have hpl : e.platform.magicAccessors = ({} : Platform).magicAccessors := by rw [X.admits.platform]
  obtain ⟨vm', hW', X', st⟩ := X.outThrough hlocks q (g := F0 m pc ls rest) rfl rfl rfl (cell := ce) (by rw [hT]; exact hcell) (by rw [hv]; rfl)
    (by obtain ⟨k9, h9, -⟩ := Vm.findClass_spec hcl; exact ⟨k9, h9⟩) (fun z hz => by
      rcases hpass z hz with h | ⟨hz0, nm, hl1, hn1⟩
      · exact Or.inl h
      · obtain ⟨c6, hc6, hcl6⟩ := Cond.classLink_spec hown hl1 e.platform hpl
        obtain ⟨a8, b8, h1, h2, h3⟩ := hn1
        cases Option.some.inj (h1.symm.trans hcl)
        cases Option.some.inj (h2.symm.trans hc6)
        exact Or.inr ⟨hz0, _, hcl6, h3⟩)
  obtain ⟨g₀, hfr⟩ := X'.frames_eq
  have hcell9 : ((T.setVm vm').setFrames (.throwing q :: below)).heap[q]? = some ce := by
    show T.heap[q]? = some ce
    rw [hT]; exact hcell
  have hend : Ended ((T.setVm vm').setFrames (.throwing q :: below)) below (.threw q) := State.frames_setFrames _ (State.cur_lt_of_frames hfr)
  refine ⟨(T.setVm vm').setFrames (.throwing q :: below), ?_, .threw q, X'.here.running, hend, Or.inr ⟨q, rfl, E, ce, locs, hx _ hT (X'.ends _).1.alike, hcell9, hv, hcl, (X'.ends _).1, (X'.ends _).2.mono hc hs, hf⟩⟩
  rw [X.pushThrowing_eq]
  exact st
/-- a thing of a world lies in the heap -/
theorem vx_lt {D : va_G} {cl : List vw_C} {ws : va_W} {H1 : Heap} (h : va_P D cl ws H1) {k : Nat} {q : Nat × va_E} (hk : ws[k]? = some q) : q.1 < H1.size := (h k q hk).lt
end VXS
/-! ===== END ===== -/
/-! ===== BEGIN methods with a table of their own: called by a name, returning or throwing ===== -/
section VXH
/-! vx_backW, vx_callVX, vx_callSX, vx_callVW, vx_runVW, vx_runVX, vx_runSX, vx_ofWH follow the same proofs as their sisters above (Free/Laws.lean, Shelf42/LK1.lean); vx_outP calls Shelf42/NT130.lean (outThrough). -/
section
variable {l : Launch} {R : Room} {p : Program} {e : Env} {below : List Frame} {s : State} {sargs : Array Value} {y : MethodName} {len W9 : Nat}
theorem vx_backW {ws : List Cond} {rm : Room} {Pc : Array Value → State → Prop} {Qc : Array Value → State → Outcome → State → Prop} {XC : String → State → State → Prop} {mc ms : Nat} {free : Addr → Prop} {bytes : ByteArray} {maxL : Nat} {ret : Option FieldType} {hh : List (Nat × Nat × Nat × Nat)}
    (hM : vx_Met l y ws rm Pc Qc XC mc ms free) (hblind : FrameBlind Pc) (hrc : rm.cells = mc) (hrs : rm.slots = ms)
    (hframes : rm.frames + 1 ≤ R.frames) (hlocals : W9 + (maxL + 11) + rm.locals ≤ R.locals)
    (hws : ∀ w ∈ ws, ∀ a' U, s.WarmedH U.vm → w.before a' U = true) (hcode : Cond.codeWith y bytes maxL ret hh ∈ ws) (hinit : ∀ a' U, s.WarmedH U.vm → (Cond.initialized y.cls).before a' U = true) :
    vx_Back l R p e below s sargs y len W9 (PreOf R mc ms Pc) (PostOf Qc mc ms free) (vx_Post XC mc ms free) := by
  intro m meth c A g ig mk a X hg hsize hdg hW hn hp
  have h1 : (headSpec ws rm).pre.before a A.U = true := atoms_intro fun w hw => hws w hw _ _ X.warmed
  have h2 : (Cond.codeWith y bytes maxL ret hh).before a A.U = true := hws _ hcode _ _ X.warmed
  have h3 : (Cond.initialized y.cls).before a A.U = true := hinit _ _ X.warmed
  have h4 : A.cells + (headSpec ws rm).room.cells ≤ R.cells := by rw [show (headSpec ws rm).room.cells = mc from hrc]; exact hp.1
  have h5 : A.slots + (headSpec ws rm).room.slots ≤ R.slots := by rw [show (headSpec ws rm).room.slots = ms from hrs]; exact hp.2.1
  have hPc : Pc a (A.U.calling g mk a) := hblind _ _ _ _ hp.2.2
  obtain ⟨U, Ls, c0, s0⟩ := A
  dsimp only [Pt.U, Pt.locs, Pt.cells, Pt.slots] at h1 h2 h3 h4 h5 X hn hPc ⊢
  obtain ⟨m9, methY, cY, hn9, hmY, hcY, -, hlY, -⟩ := Cond.codeWith_spec h2
  cases Option.some.inj (hn9.symm.trans hn)
  obtain ⟨kY, hkY, -⟩ := className_of_methodNamed hn
  have hinitY : kY.init = .initialized := Cond.initialized_spec (findClass_of_methodNamed hn) hkY h3
  have h : At U g.method c below := by rw [hg]; exact X.here
  have hlocals9 : W9 + (maxL + 11) + (headSpec ws rm).room.locals ≤ R.locals := hlocals
  have happ : (headSpec ws rm).appliesLoose y e.platform (U.calling g mk a) = true :=
    Spec.appliesLoose_calling (g := g) h hdg hn hkY hinitY
      (X.room_calling (g := g) (R' := (headSpec ws rm).room) hsize hmY hcY hframes (by rw [hlY]; omega) h4 h5) h1
  obtain ⟨mid, hmid⟩ := h.above
  have hfr : (U.setTop g).frames = (.java g :: mid) ++ below := by rw [State.frames_setTop' g h.top, hmid]; rfl
  obtain ⟨o, s₂, hsteps, -, hend, hq⟩ := Steps.callFree hM p X.admits X.cas X.clock (acts := []) hfr happ hPc trivial
  have hq' : vx_Q Qc XC mc ms free a (U.calling g mk a) o s₂ := hq
  rw [State.frames_setTop' g h.top] at hend
  obtain ⟨g₀, hg0⟩ := Option.isSome_iff_exists.mp h.top
  obtain ⟨r, hr⟩ := State.topJava?_eq_some.mp hg0
  have hr' : (({ U with heap := s₂.heap, slotsUsed := s₂.slotsUsed } : State).setVm s₂.vm).frames = .java g₀ :: r := hr
  rcases hq' with ⟨hqc, L, hfe, hL⟩ | ⟨q, rfl, E, ce, L, hx, hce, hcv, hcl, hW₂, hsm, hL⟩
  · obtain ⟨⟨v, rfl⟩, hW₂, e2, q2, q3, q4, q5, q6⟩ := id hfe
    have e3 : s₂ = ({ (U.calling g mk a).setFrames s₂.frames with heap := s₂.heap, slotsUsed := s₂.slotsUsed } : State).setVm s₂.vm := by
      have : s₂ = ({ s₂ with vm := (U.calling g mk a).vm } : State).setVm s₂.vm := rfl
      rw [e2] at this
      exact this
    obtain ⟨c₂, i₂, len₂, hc₂, hd₂, hf₂⟩ := hend
    have hW' : U.WarmedH s₂.vm := hW₂
    have hcc : c₂ = c := by
      have h1 : s₂.code? g.method = U.code? g.method := by
        rw [State.code?_eq, State.code?_eq, hW'.alike.method?]
      exact Option.some.inj (hc₂.symm.trans (h1.trans h.code))
    subst hcc
    have hlen : len₂ = len := by rw [hdg] at hd₂; cases hd₂; rfl
    subst hlen
    have hs₂ : s₂ = (({ U with heap := s₂.heap, slotsUsed := s₂.slotsUsed } : State).setVm s₂.vm).setTop { g with pc := g.pc + len₂, stack := v.toList ++ g.stack } := by
      refine e3.trans ?_
      rw [hf₂, State.calling_eq h.top, State.setFrames_setFrames, State.setTop_of_frames _ hr', hr]
      rfl
    have hsame : U.sameButNew ({ U with heap := s₂.heap, slotsUsed := s₂.slotsUsed } : State) L mc ms := by
      refine ⟨?_, q2, q3, q4, q5, q6⟩
      obtain ⟨t, ht, -⟩ := State.frames_cons hr
      show ({ U with heap := s₂.heap, slotsUsed := s₂.slotsUsed } : State) = { U.setFrames U.frames with heap := s₂.heap, slotsUsed := s₂.slotsUsed }
      rw [State.setFrames_self ht]
    subst hg
    refine Or.inl ⟨v, ⟨(({ U with heap := s₂.heap, slotsUsed := s₂.slotsUsed } : State).setVm s₂.vm), Ls ++ L, c0 + mc, s0 + ms⟩,
      ⟨X.admits, X.cas, X.clock, X.frames, X.room, X.hears, X.method, X.code, (X.here.setHeapUsed s₂.heap s₂.slotsUsed).setVm hW'.alike, X.tail, State.WarmedH.trans X.warmed hW', X.limits, X.bytes, X.same.trans (hsame.setVm s.vm)⟩,
      ⟨g, mk, s₂, L, rfl, rfl, hqc, rfl, hL, rfl, rfl⟩, ?_⟩
    show Steps p.tables e below _ ((({ U with heap := s₂.heap, slotsUsed := s₂.slotsUsed } : State).setVm s₂.vm).setTop { g with pc := g.pc + len₂, stack := v.toList ++ g.stack })
    rw [← hs₂]
    exact hsteps
  · obtain ⟨e2, q2, q3, q4, q5, q6⟩ := id hsm
    have e3 : s₂ = ({ (U.calling g mk a).setFrames s₂.frames with heap := s₂.heap, slotsUsed := s₂.slotsUsed } : State).setVm s₂.vm := by
      have : s₂ = ({ s₂ with vm := (U.calling g mk a).vm } : State).setVm s₂.vm := rfl
      rw [e2] at this
      exact this
    have hf₂ : s₂.frames = .throwing q :: .java g :: U.frames.tail := hend
    have hW' : U.WarmedH s₂.vm := hW₂
    have hs₂ : s₂ = ((({ U with heap := s₂.heap, slotsUsed := s₂.slotsUsed } : State).setVm s₂.vm).setTop g).pushFrame (.throwing q) := by
      refine e3.trans ?_
      rw [hf₂, State.calling_eq h.top, State.setFrames_setFrames, State.pushFrame, State.frames_setTop _ hr', State.setTop_of_frames _ hr', State.setFrames_setFrames, hr]
      rfl
    have hsame : U.sameButNew ({ U with heap := s₂.heap, slotsUsed := s₂.slotsUsed } : State) L mc ms := by
      refine ⟨?_, q2, q3, q4, q5, q6⟩
      obtain ⟨t, ht, -⟩ := State.frames_cons hr
      show ({ U with heap := s₂.heap, slotsUsed := s₂.slotsUsed } : State) = { U.setFrames U.frames with heap := s₂.heap, slotsUsed := s₂.slotsUsed }
      rw [State.setFrames_self ht]
    subst hg
    refine Or.inr ⟨q, ⟨(({ U with heap := s₂.heap, slotsUsed := s₂.slotsUsed } : State).setVm s₂.vm), Ls ++ L, c0 + mc, s0 + ms⟩,
      ⟨X.admits, X.cas, X.clock, X.frames, X.room, X.hears, X.method, X.code, (X.here.setHeapUsed s₂.heap s₂.slotsUsed).setVm hW'.alike, X.tail, State.WarmedH.trans X.warmed hW', X.limits, X.bytes, X.same.trans (hsame.setVm s.vm)⟩,
      ⟨g, mk, s₂, L, E, ce, rfl, rfl, hx, hce, hcv, hcl, rfl, hL, rfl, rfl⟩, ?_⟩
    show Steps p.tables e below _ (((({ U with heap := s₂.heap, slotsUsed := s₂.slotsUsed } : State).setVm s₂.vm).setTop g).pushFrame (.throwing q))
    rw [← hs₂]
    exact hsteps
end
variable {p : Program} {l : Launch} {e : Env} {R : Room} {s : State} {m : MethodId} {args : Array Value} {below : List Frame} {meth : Method} {c : Code} {T : State} {H : Heap} {locs : List Loc} {cells slots : Nat}
theorem vx_callVX (X : Stand p l e R s m args below meth c T locs cells slots) (hexec : p.tables.exec = Jvm.exec) {own C : String} {index : Nat} {y : MethodName} {bytes : ByteArray} {maxL : Nat} {ret : Option FieldType} {hh : List (Nat × Nat × Nat × Nat)}
    (hown : s.vm.findClass own = some m.cls) (hlink : (Cond.methodLink own index y).before args s = true) (hinst : (Cond.instanceMethod y).before args s = true) (hsel : (Cond.selects C y y).before args s = true)
    (hcode : (Cond.codeWith y bytes maxL ret hh).before args s = true) (hy : y.cls ≠ "java/lang/invoke/MethodHandle" ∧ y.cls ≠ "java/lang/invoke/VarHandle")
    {W9 : Nat} {Pre : Pt → Array Value → Prop} {Post : Pt → Array Value → Option Value → Pt → Prop} {PostX : Pt → Array Value → Addr → Pt → Prop} (hK : vx_Back l R p e below s args y 3 W9 Pre Post PostX)
    {b : Addr} {cellB : Cell} (hcell : T.heap[b]? = some cellB) (hobj : cellB.vm.isStatics = false) (hcls : s.vm.findClass C = some cellB.cls)
    {g : JFrame} (hg : g.method = m) (hsize : g.locals.size = c.maxLocals) {argsL rest : List Value} (hlen : ∀ sig, parseMethodDescriptor y.desc = some sig → argsL.length = sig.parameters.length)
    (hstack : g.stack = argsL.reverse ++ .ref b :: rest) (hW : 2 * g.monitorRoom + (rest.map fun v => v.category).sum ≤ W9) (hdg : decode c.code g.pc = .ok (.invokevirtual index, 3))
    (hpre : ∀ vm₁, s.WarmedH vm₁ → Pre ⟨T.setVm vm₁, locs, cells, slots⟩ (Value.ref b :: argsL).toArray) :
    (∃ (v : Option Value) (vm₁ : Vm) (B : Pt), s.WarmedH vm₁ ∧ Stand p l e R s m args below meth c B.U B.locs B.cells B.slots ∧ Post ⟨T.setVm vm₁, locs, cells, slots⟩ (Value.ref b :: argsL).toArray v B ∧
      ∀ target, Steps p.tables e below (B.U.setTop { g with pc := g.pc + 3, stack := v.toList ++ rest }) target → Steps p.tables e below (T.setTop g) target) ∨
    (∃ (q : Addr) (vm₁ : Vm) (B : Pt), s.WarmedH vm₁ ∧ Stand p l e R s m args below meth c B.U B.locs B.cells B.slots ∧ PostX ⟨T.setVm vm₁, locs, cells, slots⟩ (Value.ref b :: argsL).toArray q B ∧
      Steps p.tables e below (T.setTop g) ((B.U.setTop { g with stack := rest }).pushFrame (.throwing q))) := by
  obtain ⟨mk, methM, hnamed, hmethM, hstM, habM⟩ := Cond.instanceMethod_spec hinst
  obtain ⟨m8, methM', cM, hn8, hmethM', -, -, -, -, -, -, hsigM⟩ := Cond.codeWith_spec hcode
  cases Option.some.inj (hn8.symm.trans hnamed)
  cases hmethM.symm.trans hmethM'
  obtain ⟨c2, r2, m2, q1, q2, q3, q4, kP, hkP, hkPi⟩ := Cond.selects_spec hsel
  cases hcls.symm.trans q1
  cases (State.methodFound?_of_named hnamed hy).symm.trans q2
  cases hnamed.symm.trans q3
  have hselP : selectMethod e.platform s.vm cellB.cls mk = .method mk := by rw [Launch.admits_selectMethod X.admits]; exact q4
  obtain ⟨vm₁, X₁, hstep₁⟩ := X.invokevirtual hexec hown hlink hnamed hmethM hstM hkP hkPi hy (a := b) (cell := cellB) hcell
    (fun z h => by rw [h] at hobj; cases hobj) hselP hmethM habM hkP hkPi (g := g) hg (argsL := argsL) (rest := rest) (hlen _ hsigM) hstack hdg
  rcases hK m meth c ⟨T.setVm vm₁, locs, cells, slots⟩ { g with stack := rest } (.invokevirtual index) mk (Value.ref b :: argsL).toArray X₁ hg hsize hdg hW (X₁.named hnamed) (hpre vm₁ X₁.warmed) with ⟨v, B, X', hpost, hsteps⟩ | ⟨q, B, X', hpost, hsteps⟩
  · exact Or.inl ⟨v, vm₁, B, X₁.warmed, X', hpost, fun target h => hstep₁ _ fun acts => by rw [doInvoke_state]; exact hsteps.trans h⟩
  · exact Or.inr ⟨q, vm₁, B, X₁.warmed, X', hpost, hstep₁ _ fun acts => by rw [doInvoke_state]; exact hsteps⟩
theorem vx_callSX (X : Stand p l e R s m args below meth c T locs cells slots) (hexec : p.tables.exec = Jvm.exec) {own : String} {index : Nat} {y : MethodName} {bytes : ByteArray} {maxL : Nat} {ret : Option FieldType} {hh : List (Nat × Nat × Nat × Nat)}
    (hown : s.vm.findClass own = some m.cls) (hlink : (Cond.methodLink own index y).before args s = true) (hstat : (Cond.static y).before args s = true) (hinit : (Cond.initialized y.cls).before args s = true)
    (hcode : (Cond.codeWith y bytes maxL ret hh).before args s = true) (hy : y.cls ≠ "java/lang/invoke/MethodHandle" ∧ y.cls ≠ "java/lang/invoke/VarHandle")
    {W9 : Nat} {Pre : Pt → Array Value → Prop} {Post : Pt → Array Value → Option Value → Pt → Prop} {PostX : Pt → Array Value → Addr → Pt → Prop} (hK : vx_Back l R p e below s args y 3 W9 Pre Post PostX)
    {g : JFrame} (hg : g.method = m) (hsize : g.locals.size = c.maxLocals) {argsL rest : List Value} (hlen : ∀ sig, parseMethodDescriptor y.desc = some sig → argsL.length = sig.parameters.length)
    (hstack : g.stack = argsL.reverse ++ rest) (hW : 2 * g.monitorRoom + (rest.map fun v => v.category).sum ≤ W9) (hdg : decode c.code g.pc = .ok (.invokestatic index, 3))
    (hpre : ∀ vm₁, s.WarmedH vm₁ → Pre ⟨T.setVm vm₁, locs, cells, slots⟩ argsL.toArray) :
    (∃ (v : Option Value) (vm₁ : Vm) (B : Pt), s.WarmedH vm₁ ∧ Stand p l e R s m args below meth c B.U B.locs B.cells B.slots ∧ Post ⟨T.setVm vm₁, locs, cells, slots⟩ argsL.toArray v B ∧
      ∀ target, Steps p.tables e below (B.U.setTop { g with pc := g.pc + 3, stack := v.toList ++ rest }) target → Steps p.tables e below (T.setTop g) target) ∨
    (∃ (q : Addr) (vm₁ : Vm) (B : Pt), s.WarmedH vm₁ ∧ Stand p l e R s m args below meth c B.U B.locs B.cells B.slots ∧ PostX ⟨T.setVm vm₁, locs, cells, slots⟩ argsL.toArray q B ∧
      Steps p.tables e below (T.setTop g) ((B.U.setTop { g with stack := rest }).pushFrame (.throwing q))) := by
  obtain ⟨mk, methM, cM, hnamed, hmethM, -, -, -, -, -, -, hsigM⟩ := Cond.codeWith_spec hcode
  have hstatic : methM.isStatic = true := Cond.static_spec hnamed hmethM hstat
  obtain ⟨kP, hkP, -⟩ := className_of_methodNamed hnamed
  have hinitP : kP.init = .initialized := Cond.initialized_spec (findClass_of_methodNamed hnamed) hkP hinit
  obtain ⟨vm₁, X₁, hstep₁⟩ := X.invokestatic hexec hown hlink hnamed hmethM hstatic hkP hinitP hy (g := g) hg (argsL := argsL) (rest := rest) (hlen _ hsigM) hstack hdg
  rcases hK m meth c ⟨T.setVm vm₁, locs, cells, slots⟩ { g with stack := rest } (.invokestatic index) mk argsL.toArray X₁ hg hsize hdg hW (X₁.named hnamed) (hpre vm₁ X₁.warmed) with ⟨v, B, X', hpost, hsteps⟩ | ⟨q, B, X', hpost, hsteps⟩
  · exact Or.inl ⟨v, vm₁, B, X₁.warmed, X', hpost, fun target h => hstep₁ _ fun acts => by rw [doInvoke_state]; exact hsteps.trans h⟩
  · exact Or.inr ⟨q, vm₁, B, X₁.warmed, X', hpost, hstep₁ _ fun acts => by rw [doInvoke_state]; exact hsteps⟩
theorem vx_callVW (X : Stand p l e R s m args below meth c T locs cells slots) (hexec : p.tables.exec = Jvm.exec) {own C : String} {index : Nat} {y : MethodName} {bytes : ByteArray} {maxL : Nat} {ret : Option FieldType} {hh : List (Nat × Nat × Nat × Nat)}
    (hown : s.vm.findClass own = some m.cls) (hlink : (Cond.methodLink own index y).before args s = true) (hinst : (Cond.instanceMethod y).before args s = true) (hsel : (Cond.selects C y y).before args s = true)
    (hcode : (Cond.codeWith y bytes maxL ret hh).before args s = true) (hy : y.cls ≠ "java/lang/invoke/MethodHandle" ∧ y.cls ≠ "java/lang/invoke/VarHandle")
    {W9 : Nat} {Pre : Pt → Array Value → Prop} {Post : Pt → Array Value → Option Value → Pt → Prop} (hK : Back l R p e below s args y 3 W9 Pre Post)
    {b : Addr} {cellB : Cell} (hcell : T.heap[b]? = some cellB) (hobj : cellB.vm.isStatics = false) (hcls : s.vm.findClass C = some cellB.cls)
    {g : JFrame} (hg : g.method = m) (hsize : g.locals.size = c.maxLocals) {argsL rest : List Value} (hlen : ∀ sig, parseMethodDescriptor y.desc = some sig → argsL.length = sig.parameters.length)
    (hstack : g.stack = argsL.reverse ++ .ref b :: rest) (hW : 2 * g.monitorRoom + (rest.map fun v => v.category).sum ≤ W9) (hdg : decode c.code g.pc = .ok (.invokevirtual index, 3))
    (hpre : ∀ vm₁, s.WarmedH vm₁ → Pre ⟨T.setVm vm₁, locs, cells, slots⟩ (Value.ref b :: argsL).toArray) :
    ∃ (v : Option Value) (vm₁ : Vm) (B : Pt), s.WarmedH vm₁ ∧ Stand p l e R s m args below meth c B.U B.locs B.cells B.slots ∧ Post ⟨T.setVm vm₁, locs, cells, slots⟩ (Value.ref b :: argsL).toArray v B ∧
      ∀ target, Steps p.tables e below (B.U.setTop { g with pc := g.pc + 3, stack := v.toList ++ rest }) target → Steps p.tables e below (T.setTop g) target := by
  obtain ⟨mk, methM, hnamed, hmethM, hstM, habM⟩ := Cond.instanceMethod_spec hinst
  obtain ⟨m8, methM', cM, hn8, hmethM', -, -, -, -, -, -, hsigM⟩ := Cond.codeWith_spec hcode
  cases Option.some.inj (hn8.symm.trans hnamed)
  cases hmethM.symm.trans hmethM'
  obtain ⟨c2, r2, m2, q1, q2, q3, q4, kP, hkP, hkPi⟩ := Cond.selects_spec hsel
  cases hcls.symm.trans q1
  cases (State.methodFound?_of_named hnamed hy).symm.trans q2
  cases hnamed.symm.trans q3
  have hselP : selectMethod e.platform s.vm cellB.cls mk = .method mk := by rw [Launch.admits_selectMethod X.admits]; exact q4
  obtain ⟨vm₁, X₁, hstep₁⟩ := X.invokevirtual hexec hown hlink hnamed hmethM hstM hkP hkPi hy (a := b) (cell := cellB) hcell
    (fun z h => by rw [h] at hobj; cases hobj) hselP hmethM habM hkP hkPi (g := g) hg (argsL := argsL) (rest := rest) (hlen _ hsigM) hstack hdg
  obtain ⟨v, B, X', hpost, hsteps⟩ := hK m meth c ⟨T.setVm vm₁, locs, cells, slots⟩ { g with stack := rest } (.invokevirtual index) mk (Value.ref b :: argsL).toArray X₁ hg hsize hdg hW (X₁.named hnamed) (hpre vm₁ X₁.warmed)
  exact ⟨v, vm₁, B, X₁.warmed, X', hpost, fun target h => hstep₁ _ fun acts => by rw [doInvoke_state]; exact hsteps.trans h⟩
abbrev vx_CVW (R : Room) (s : State) (args : Array Value) (own C : String) (index : Nat) (y : MethodName) (bytes : ByteArray) (maxL : Nat) (ret : Option FieldType) (hh : List (Nat × Nat × Nat × Nat)) (ws : List Cond) (rm : Room) (mc ms n : Nat) : Prop :=
  (rm.cells = mc ∧ rm.slots = ms ∧ rm.frames + 1 ≤ R.frames ∧ 8 + (maxL + 11) + rm.locals ≤ R.locals ∧ (∀ w ∈ ws, ∀ (a' : Array Value) (U : State), s.WarmedH U.vm → w.before a' U = true) ∧ Cond.codeWith y bytes maxL ret hh ∈ ws) ∧
  (Cond.codeWith y bytes maxL ret hh).before args s = true ∧ (Cond.initialized y.cls).before args s = true ∧ (y.cls ≠ "java/lang/invoke/MethodHandle" ∧ y.cls ≠ "java/lang/invoke/VarHandle") ∧
  (∀ sig, parseMethodDescriptor y.desc = some sig → n = sig.parameters.length) ∧ (Cond.methodLink own index y).before args s = true ∧ (Cond.instanceMethod y).before args s = true ∧ (Cond.selects C y y).before args s = true
theorem vx_cwVW {own C : String} {index maxL mc ms : Nat} {y : MethodName} {bytes : ByteArray} {ret : Option FieldType} {hh : List (Nat × Nat × Nat × Nat)} {Ts ws ws' : List Cond} {rm : Room} (n : Nat) (ht : ∀ w ∈ Ts, w.before args s = true) (hT : GoodIn Ts (wsV own index C y ws)) (hw : ws = Cond.codeWith y bytes maxL ret hh :: ws') (hrc : rm.cells = mc) (hrs : rm.slots = ms)
    (hd : y.cls = C ∧ y.cls ≠ "java/lang/invoke/MethodHandle" ∧ y.cls ≠ "java/lang/invoke/VarHandle" ∧ (parseMethodDescriptor y.desc).map (fun d => d.parameters.length) = some n) (hR : rm.frames + 1 ≤ R.frames ∧ 8 + (maxL + 11) + rm.locals ≤ R.locals) :
    vx_CVW R s args own C index y bytes maxL ret hh ws rm mc ms n := by
  obtain ⟨hC, hd⟩ := hd
  subst hC
  have ok : ∀ w ∈ wsV own index y.cls y ws, w.before args s = true := fun w h => ht w (hT w h).1
  have hG : GoodIn Ts ws := fun w h => hT w (by unfold wsV; exact List.mem_append_right _ h)
  have hc : Cond.codeWith y bytes maxL ret hh ∈ ws := by rw [hw]; exact List.mem_cons_self
  refine ⟨⟨hrc, hrs, hR.1, hR.2, pay_in ht hG, hc⟩, ht _ (hG _ hc).1, ok _ (by simp [wsV]), ⟨hd.1, hd.2.1⟩, fun sig h => ?_, ok _ (by simp [wsV]), ok _ (by simp [wsV]), ok _ (by simp [wsV])⟩
  have h2 := hd.2.2
  rw [h] at h2
  exact (Option.some.inj h2).symm
theorem vx_runVW {y : MethodName} {bytes cc : ByteArray} {maxL nL mc ms n index : Nat} {ret : Option FieldType} {hh : List (Nat × Nat × Nat × Nat)} {ws : List Cond} {rm : Room} {Pc : Array Value → State → Prop} {Qc : Array Value → State → Outcome → State → Prop} {free : Addr → Prop} {Ts : List Cond} {own C : String} {b : Addr} {As rest : List Value} {g : JFrame}
    (S : CallFix p m c cc nL s args Ts own) (hM : Met l y ws rm Pc Qc mc ms free) (cw : vx_CVW R s args own C index y bytes maxL ret hh ws rm mc ms n) (hp : PreV s H C b Pc As)
    (hg : g.method = m) (hn : As.length = n) (hsize : g.locals.size = nL) (hstack : g.stack = As.reverse ++ .ref b :: rest) (hW : 2 * g.monitorRoom + (rest.map fun v => v.category).sum ≤ 8) (hdg : decode cc g.pc = .ok (.invokevirtual index, 3)) (hf : cells + mc ≤ R.cells ∧ slots + ms ≤ R.slots) :
    va_Run p l e R s m args below meth c H locs cells slots mc ms g rest (Qc (Value.ref b :: As).toArray) free := by
  obtain ⟨⟨hrc, hrs, hfr, hlo, hws, hcw⟩, hcode, hini, hy, hlen, hl, hin, hse⟩ := cw
  have hK : Back l R p e below s args y 3 8 (PreOf R mc ms Pc) (PostOf Qc mc ms free) := va_backW (hh := hh) (bytes := bytes) (maxL := maxL) (ret := ret) hM hp.1 hrc hrs hfr hlo hws hcw (fun a' U hW => word_at hW (Or.inl (by first | rfl | simp [Cond.onTables, Cond.keeps, Cond.steady])) hini)
  obtain ⟨hx, hb, hml, ho, -⟩ := S
  obtain ⟨-, ⟨cellB, hcB, hoB, hclB⟩, hPc⟩ := hp
  intro T hT X
  obtain ⟨v, vm₁, ⟨U', l2, c2, s2⟩, hW₁, X', ⟨g', mk, t, L, e1, e2, hq, h1, hL, h2, h3⟩, st⟩ := vx_callVW X hx (C := C) (hh := hh) (bytes := bytes) (maxL := maxL) (ret := ret) ho hl hin hse hcode hy hK (by rw [hT]; exact hcB) hoB hclB hg (hsize.trans hml.symm) (argsL := As) (rest := rest) (fun sig h => hn.trans (hlen sig h)) hstack hW (by rw [hb]; exact hdg)
    (fun vm₁ hW₁ => ⟨hf.1, hf.2, hPc (T.setVm vm₁) hT hW₁⟩)
  dsimp only [Pt.U, Pt.locs, Pt.cells, Pt.slots] at X' e1 e2 h1 h2 h3 st
  subst h1; subst h2; subst h3
  exact ⟨v, (T.setVm vm₁).calling g' mk (Value.ref b :: As).toArray, t, U', L, hT, X', hL, e1, e2, hq, st⟩
section
variable {y : MethodName} {bytes cc : ByteArray} {maxL nL mc ms n index : Nat} {ret : Option FieldType} {ws : List Cond} {rm : Room} {Pc : Array Value → State → Prop} {Qc : Array Value → State → Outcome → State → Prop} {XC : String → State → State → Prop} {free : Addr → Prop} {Ts : List Cond} {own C : String} {b : Addr} {As rest : List Value} {g : JFrame}
theorem vx_runVX {hh : List (Nat × Nat × Nat × Nat)} (S : CallFix p m c cc nL s args Ts own) (hM : vx_Met l y ws rm Pc Qc XC mc ms free) (cw : vx_CVW R s args own C index y bytes maxL ret hh ws rm mc ms n) (hp : PreV s H C b Pc As)
    (hg : g.method = m) (hn : As.length = n) (hsize : g.locals.size = nL) (hstack : g.stack = As.reverse ++ .ref b :: rest) (hW : 2 * g.monitorRoom + (rest.map fun v => v.category).sum ≤ 8) (hdg : decode cc g.pc = .ok (.invokevirtual index, 3)) (hf : cells + mc ≤ R.cells ∧ slots + ms ≤ R.slots) :
    vx_Run p l e R s m args below meth c H locs cells slots mc ms g rest (Qc (Value.ref b :: As).toArray) XC free := by
  obtain ⟨⟨hrc, hrs, hfr, hlo, hws, hcw⟩, hcode, hini, hy, hlen, hl, hin, hse⟩ := cw
  have hK : vx_Back l R p e below s args y 3 8 (PreOf R mc ms Pc) (PostOf Qc mc ms free) (vx_Post XC mc ms free) := vx_backW (hh := hh) (bytes := bytes) (maxL := maxL) (ret := ret) hM hp.1 hrc hrs hfr hlo hws hcw (fun a' U hW => word_at hW (Or.inl (by first | rfl | simp [Cond.onTables, Cond.keeps, Cond.steady])) hini)
  obtain ⟨hx, hb, hml, ho, -⟩ := S
  obtain ⟨-, ⟨cellB, hcB, hoB, hclB⟩, hPc⟩ := hp
  intro T hT X
  rcases vx_callVX X hx (C := C) (hh := hh) (bytes := bytes) (maxL := maxL) (ret := ret) ho hl hin hse hcode hy hK (by rw [hT]; exact hcB) hoB hclB hg (hsize.trans hml.symm) (argsL := As) (rest := rest) (fun sig h => hn.trans (hlen sig h)) hstack hW (by rw [hb]; exact hdg)
    (fun vm₁ hW₁ => ⟨hf.1, hf.2, hPc (T.setVm vm₁) hT hW₁⟩) with ⟨v, vm₁, ⟨U', l2, c2, s2⟩, hW₁, X', ⟨g', mk, t, L, e1, e2, hq, h1, hL, h2, h3⟩, st⟩ | ⟨q, vm₁, ⟨U', l2, c2, s2⟩, hW₁, X', ⟨g', mk, t, L, E, ce, e1, e2, hq, hce, hcv, hcl, h1, hL, h2, h3⟩, st⟩
  · dsimp only [Pt.U, Pt.locs, Pt.cells, Pt.slots] at X' e1 e2 h1 h2 h3 st
    subst h1; subst h2; subst h3
    exact Or.inl ⟨v, (T.setVm vm₁).calling g' mk (Value.ref b :: As).toArray, t, U', L, hT, X', hL, e1, e2, hq, st⟩
  · dsimp only [Pt.U, Pt.locs, Pt.cells, Pt.slots] at X' e1 e2 h1 h2 h3 st hcl
    subst h1; subst h2; subst h3
    exact Or.inr ⟨q, (T.setVm vm₁).calling g' mk (Value.ref b :: As).toArray, t, U', L, E, ce, hT, X', hL, e1, e2, hq, hce, hcv, vx_cls hW₁ hcl, st⟩
theorem vx_runSX {hh : List (Nat × Nat × Nat × Nat)} (S : CallFix p m c cc nL s args Ts own) (hM : vx_Met l y ws rm Pc Qc XC mc ms free) (cw : vx_CSW R s args own index y bytes maxL ret hh ws rm mc ms n) (hp : PreS s H Pc As)
    (hg : g.method = m) (hn : As.length = n) (hsize : g.locals.size = nL) (hstack : g.stack = As.reverse ++ rest) (hW : 2 * g.monitorRoom + (rest.map fun v => v.category).sum ≤ 8) (hdg : decode cc g.pc = .ok (.invokestatic index, 3)) (hf : cells + mc ≤ R.cells ∧ slots + ms ≤ R.slots) :
    vx_Run p l e R s m args below meth c H locs cells slots mc ms g rest (Qc As.toArray) XC free := by
  obtain ⟨⟨hrc, hrs, hfr, hlo, hws, hcw⟩, hcode, hini, hy, hlen, hl, hstt⟩ := cw
  have hK : vx_Back l R p e below s args y 3 8 (PreOf R mc ms Pc) (PostOf Qc mc ms free) (vx_Post XC mc ms free) := vx_backW (hh := hh) (bytes := bytes) (maxL := maxL) (ret := ret) hM hp.1 hrc hrs hfr hlo hws hcw (fun a' U hW => word_at hW (Or.inl (by first | rfl | simp [Cond.onTables, Cond.keeps, Cond.steady])) hini)
  obtain ⟨hx, hb, hml, ho, -⟩ := S
  intro T hT X
  rcases vx_callSX X hx (hh := hh) (bytes := bytes) (maxL := maxL) (ret := ret) ho hl hstt hini hcode hy hK hg (hsize.trans hml.symm) (argsL := As) (rest := rest) (fun sig h => hn.trans (hlen sig h)) hstack hW (by rw [hb]; exact hdg)
    (fun vm₁ hW₁ => ⟨hf.1, hf.2, hp.2 (T.setVm vm₁) hT hW₁⟩) with ⟨v, vm₁, ⟨U', l2, c2, s2⟩, hW₁, X', ⟨g', mk, t, L, e1, e2, hq, h1, hL, h2, h3⟩, st⟩ | ⟨q, vm₁, ⟨U', l2, c2, s2⟩, hW₁, X', ⟨g', mk, t, L, E, ce, e1, e2, hq, hce, hcv, hcl, h1, hL, h2, h3⟩, st⟩
  · dsimp only [Pt.U, Pt.locs, Pt.cells, Pt.slots] at X' e1 e2 h1 h2 h3 st
    subst h1; subst h2; subst h3
    exact Or.inl ⟨v, (T.setVm vm₁).calling g' mk As.toArray, t, U', L, hT, X', hL, e1, e2, hq, st⟩
  · dsimp only [Pt.U, Pt.locs, Pt.cells, Pt.slots] at X' e1 e2 h1 h2 h3 st hcl
    subst h1; subst h2; subst h3
    exact Or.inr ⟨q, (T.setVm vm₁).calling g' mk As.toArray, t, U', L, E, ce, hT, X', hL, e1, e2, hq, hce, hcv, vx_cls hW₁ hcl, st⟩
end
end VXH
theorem vx_ofWH {l : Launch} {y : MethodName} {ws ws' : List Cond} {rm : Room} {Pc : Array Value → State → Prop} {Qc : Array Value → State → Outcome → State → Prop} {XC : String → State → State → Prop} {mc ms : Nat} {free : Addr → Prop} {cc : ByteArray} {maxL : Nat} {ret : Option FieldType} {hh : List (Nat × Nat × Nat × Nat)}
    (hy : plainName y.cls = true) (hw : ws = Cond.codeWith y cc maxL ret hh :: ws')
    (body : ∀ p e s m args below meth c s₁, BodyLoose p l y (headSpec ws rm) cc maxL ret e s m args below meth c s₁ → c.maxLocals = maxL → Pc args s →
      W p l e (headSpec ws rm).room s m args below meth c s.heap [] 0 0 (vx_MQ below Qc XC args s mc ms free) (entryFrame m args maxL)) : vx_Met l y ws rm Pc Qc XC mc ms free := by
  refine MetFree.of_bodyS (code := cc) (maxLocals := maxL) (ret := ret) hy ?_ ?_
  · intro args s m h hn
    obtain ⟨m9, meth, c, hn9, h1, h2, h3, h4, -, h5, h6, -⟩ := Cond.codeWith_spec (atoms_spec (ws := ws) h _ (by rw [hw]; exact List.mem_cons_self))
    cases hn.symm.trans hn9
    exact ⟨meth, c, h1, h2, h3, h4, h5, h6⟩
  · intro p e s m args below meth c s₁ B hml hP _
    have hh0 : s₁.heap = s.heap := by rw [B.state]; rfl
    obtain ⟨t, a1, o, b1, b2, b3⟩ := body p e s m args below meth c s₁ B hml hP s₁ hh0 (Stand.of_body B)
    exact ⟨t, o, a1, b1, b2, b3⟩
/-! ===== END ===== -/
end
section
/-! ===== BEGIN printed: names, fields, word lists, decode rows ===== -/
def RX0 : String := "TwinRows$Draws"
def TX0 : u_T := fun k => match k with
  | _ => ("TwinRows$Draws", "seed", "I", false)
def tyX0 : Nat → FieldType := fun k => match k with
  | _ => .int
abbrev wsX00 : List Cond := u_ws RX0 TX0 1
theorem nmX0 : ∀ a, a < 1 → ∀ b, b < 1 → a ≠ b → (TX0 a).2.1 ≠ (TX0 b).2.1 := by decide +kernel
theorem tyX0_ok : ∀ k, k < 1 → parseFieldDescriptor (TX0 k).2.2.1 = some (tyX0 k) := by decide +kernel
abbrev cX0_init : ByteArray := prog_2_method_1_code
def yX0_init : MethodName := ⟨RX0, "<init>", "()V"⟩
abbrev cX0_draw : ByteArray := prog_2_method_2_code
def yX0_draw : MethodName := ⟨RX0, "draw", "(I)I"⟩
abbrev cX0_doDeed : ByteArray := prog_2_method_3_code
def yX0_doDeed : MethodName := ⟨RX0, "doDeed", "(LTwinRows$Frame;)Z"⟩
abbrev cX0_doPin : ByteArray := prog_2_method_4_code
def yX0_doPin : MethodName := ⟨RX0, "doPin", "(LTwinRows$Frame;)Z"⟩
def RX1 : String := "TwinRows$Fillings"
def TX1 : u_T := fun k => match k with
  | 0 => ("TwinRows$Fillings", "numbers", "[J", true)
  | 1 => ("TwinRows$Fillings", "weights", "[J", true)
  | 2 => ("TwinRows$Fillings", "digits", "[I", true)
  | 3 => ("TwinRows$Fillings", "distances", "[I", true)
  | 4 => ("TwinRows$Fillings", "firsts", "[[I", true)
  | 5 => ("TwinRows$Fillings", "isCounted", "Z", false)
  | 6 => ("TwinRows$Fillings", "cells", "I", false)
  | _ => ("TwinRows$Fillings", "count", "I", false)
def tyX1 : Nat → FieldType := fun k => match k with
  | 0 => .array .long
  | 1 => .array .long
  | 2 => .array .int
  | 3 => .array .int
  | 4 => .array (.array .int)
  | 5 => .boolean
  | 6 => .int
  | _ => .int
abbrev wsX10 : List Cond := u_ws RX1 TX1 8
theorem nmX1 : ∀ a, a < 8 → ∀ b, b < 8 → a ≠ b → (TX1 a).2.1 ≠ (TX1 b).2.1 := by decide +kernel
theorem tyX1_ok : ∀ k, k < 8 → parseFieldDescriptor (TX1 k).2.2.1 = some (tyX1 k) := by decide +kernel
abbrev cX1_init : ByteArray := prog_3_method_1_code
def yX1_init : MethodName := ⟨RX1, "<init>", "(I)V"⟩
abbrev cX1_countAll : ByteArray := prog_3_method_2_code
def yX1_countAll : MethodName := ⟨RX1, "countAll", "(LTwinRows$Frame;)V"⟩
abbrev cX1_nameDigits : ByteArray := prog_3_method_3_code
def yX1_nameDigits : MethodName := ⟨RX1, "nameDigits", "(LTwinRows$Frame;)V"⟩
abbrev cX1_weighPlaces : ByteArray := prog_3_method_4_code
def yX1_weighPlaces : MethodName := ⟨RX1, "weighPlaces", "(LTwinRows$Frame;)V"⟩
abbrev cX1_fill : ByteArray := prog_3_method_5_code
def yX1_fill : MethodName := ⟨RX1, "fill", "(III)V"⟩
abbrev cX1_keep : ByteArray := prog_3_method_6_code
def yX1_keep : MethodName := ⟨RX1, "keep", "()V"⟩
abbrev cX1_stand : ByteArray := prog_3_method_7_code
def yX1_stand : MethodName := ⟨RX1, "stand", "(III)V"⟩
abbrev cX1_hasRank : ByteArray := prog_3_method_8_code
def yX1_hasRank : MethodName := ⟨RX1, "hasRank", "(I)Z"⟩
abbrev cX1_tell : ByteArray := prog_3_method_9_code
def yX1_tell : MethodName := ⟨RX1, "tell", "(I[I)V"⟩
abbrev cX1_rankOf : ByteArray := prog_3_method_10_code
def yX1_rankOf : MethodName := ⟨RX1, "rankOf", "([I)I"⟩
abbrev cX1_rankOfNumber : ByteArray := prog_3_method_11_code
def yX1_rankOfNumber : MethodName := ⟨RX1, "rankOfNumber", "(J)I"⟩
abbrev cX1_placesOf : ByteArray := prog_3_method_12_code
def yX1_placesOf : MethodName := ⟨RX1, "placesOf", "(I)I"⟩
abbrev cX1_isSure : ByteArray := prog_3_method_13_code
def yX1_isSure : MethodName := ⟨RX1, "isSure", "(I)Z"⟩
def RX2 : String := "TwinRows$Frame"
def TX2 : u_T := fun k => match k with
  | 0 => ("TwinRows$Frame", "cells", "I", false)
  | 1 => ("TwinRows$Frame", "holes", "I", false)
  | 2 => ("TwinRows$Frame", "pairs", "I", false)
  | _ => ("TwinRows$Frame", "pins", "[I", true)
def tyX2 : Nat → FieldType := fun k => match k with
  | 0 => .int
  | 1 => .int
  | 2 => .int
  | _ => .array .int
abbrev wsX20 : List Cond := u_ws RX2 TX2 4
theorem nmX2 : ∀ a, a < 4 → ∀ b, b < 4 → a ≠ b → (TX2 a).2.1 ≠ (TX2 b).2.1 := by decide +kernel
theorem tyX2_ok : ∀ k, k < 4 → parseFieldDescriptor (TX2 k).2.2.1 = some (tyX2 k) := by decide +kernel
abbrev cX2_init : ByteArray := prog_4_method_1_code
def yX2_init : MethodName := ⟨RX2, "<init>", "()V"⟩
abbrev cX2_begin : ByteArray := prog_4_method_2_code
def yX2_begin : MethodName := ⟨RX2, "begin", "(III)V"⟩
abbrev cX2_copy : ByteArray := prog_4_method_3_code
def yX2_copy : MethodName := ⟨RX2, "copy", "(LTwinRows$Frame;)V"⟩
abbrev cX2_hasPlace : ByteArray := prog_4_method_4_code
def yX2_hasPlace : MethodName := ⟨RX2, "hasPlace", "(I)Z"⟩
abbrev cX2_hasHole : ByteArray := prog_4_method_5_code
def yX2_hasHole : MethodName := ⟨RX2, "hasHole", "(I)Z"⟩
abbrev cX2_hasPair : ByteArray := prog_4_method_6_code
def yX2_hasPair : MethodName := ⟨RX2, "hasPair", "(I)Z"⟩
abbrev cX2_placesToFill : ByteArray := prog_4_method_7_code
def yX2_placesToFill : MethodName := ⟨RX2, "placesToFill", "()I"⟩
abbrev cX2_pinnedPairs : ByteArray := prog_4_method_8_code
def yX2_pinnedPairs : MethodName := ⟨RX2, "pinnedPairs", "()I"⟩
abbrev cX2_pinnedPlaces : ByteArray := prog_4_method_9_code
def yX2_pinnedPlaces : MethodName := ⟨RX2, "pinnedPlaces", "(I)I"⟩
abbrev cX2_isEven : ByteArray := prog_4_method_10_code
def yX2_isEven : MethodName := ⟨RX2, "isEven", "()Z"⟩
abbrev cX2_sumOf : ByteArray := prog_4_method_11_code
def yX2_sumOf : MethodName := ⟨RX2, "sumOf", "(I)I"⟩
abbrev cX2_distanceOf : ByteArray := prog_4_method_12_code
def yX2_distanceOf : MethodName := ⟨RX2, "distanceOf", "(I)I"⟩
abbrev cX2_setHole : ByteArray := prog_4_method_13_code
def yX2_setHole : MethodName := ⟨RX2, "setHole", "(IZ)I"⟩
abbrev cX2_setPair : ByteArray := prog_4_method_14_code
def yX2_setPair : MethodName := ⟨RX2, "setPair", "(IZ)I"⟩
abbrev cX2_setPin : ByteArray := prog_4_method_15_code
def yX2_setPin : MethodName := ⟨RX2, "setPin", "(II)I"⟩
def RX3 : String := "TwinRows$History"
def TX3 : u_T := fun k => match k with
  | 0 => ("TwinRows$History", "ring", "[LTwinRows$Frame;", true)
  | 1 => ("TwinRows$History", "latest", "I", false)
  | _ => ("TwinRows$History", "size", "I", false)
def tyX3 : Nat → FieldType := fun k => match k with
  | 0 => .array (.object "TwinRows$Frame")
  | 1 => .int
  | _ => .int
abbrev wsX30 : List Cond := u_ws RX3 TX3 3
theorem nmX3 : ∀ a, a < 3 → ∀ b, b < 3 → a ≠ b → (TX3 a).2.1 ≠ (TX3 b).2.1 := by decide +kernel
theorem tyX3_ok : ∀ k, k < 3 → parseFieldDescriptor (TX3 k).2.2.1 = some (tyX3 k) := by decide +kernel
abbrev cX3_init : ByteArray := prog_5_method_1_code
def yX3_init : MethodName := ⟨RX3, "<init>", "()V"⟩
abbrev cX3_keep : ByteArray := prog_5_method_2_code
def yX3_keep : MethodName := ⟨RX3, "keep", "(LTwinRows$Frame;)V"⟩
abbrev cX3_takeLatest : ByteArray := prog_5_method_3_code
def yX3_takeLatest : MethodName := ⟨RX3, "takeLatest", "(LTwinRows$Frame;)V"⟩
def RX4 : String := "TwinRows$Look"
def TX4 : u_T := fun k => match k with
  | 0 => ("TwinRows$Look", "numbers", "[I", true)
  | 1 => ("TwinRows$Look", "firsts", "[I", true)
  | _ => ("TwinRows$Look", "places", "I", false)
def tyX4 : Nat → FieldType := fun k => match k with
  | 0 => .array .int
  | 1 => .array .int
  | _ => .int
abbrev wsX40 : List Cond := u_ws RX4 TX4 3
theorem nmX4 : ∀ a, a < 3 → ∀ b, b < 3 → a ≠ b → (TX4 a).2.1 ≠ (TX4 b).2.1 := by decide +kernel
theorem tyX4_ok : ∀ k, k < 3 → parseFieldDescriptor (TX4 k).2.2.1 = some (tyX4 k) := by decide +kernel
abbrev cX4_init : ByteArray := prog_6_method_1_code
def yX4_init : MethodName := ⟨RX4, "<init>", "()V"⟩
abbrev cX4_clear : ByteArray := prog_6_method_2_code
def yX4_clear : MethodName := ⟨RX4, "clear", "(I)V"⟩
abbrev cX4_take : ByteArray := prog_6_method_3_code
def yX4_take : MethodName := ⟨RX4, "take", "([II)V"⟩
abbrev cX4_numberAt : ByteArray := prog_6_method_4_code
def yX4_numberAt : MethodName := ⟨RX4, "numberAt", "(I)I"⟩
abbrev cX4_firstOf : ByteArray := prog_6_method_5_code
def yX4_firstOf : MethodName := ⟨RX4, "firstOf", "(I)I"⟩
abbrev cX4_make : ByteArray := prog_6_method_6_code
def yX4_make : MethodName := ⟨RX4, "make", "(I)V"⟩
abbrev cX4_makeLeaving0 : ByteArray := prog_6_method_7_code
def yX4_makeLeaving0 : MethodName := ⟨RX4, "makeLeaving0", "(I)V"⟩
abbrev cX4_makeLeaving1 : ByteArray := prog_6_method_8_code
def yX4_makeLeaving1 : MethodName := ⟨RX4, "makeLeaving1", "(I)V"⟩
abbrev cX4_makeLeaving2 : ByteArray := prog_6_method_9_code
def yX4_makeLeaving2 : MethodName := ⟨RX4, "makeLeaving2", "(I)V"⟩
abbrev cX4_nest : ByteArray := prog_6_method_10_code
def yX4_nest : MethodName := ⟨RX4, "nest", "(IIII)V"⟩
abbrev cX4_twin : ByteArray := prog_6_method_11_code
def yX4_twin : MethodName := ⟨RX4, "twin", "(II)V"⟩
abbrev cX4_thirdOf : ByteArray := prog_6_method_12_code
def yX4_thirdOf : MethodName := ⟨RX4, "thirdOf", "(II)I"⟩
abbrev cX4_ringOrder : ByteArray := prog_6_method_13_code
def yX4_ringOrder : MethodName := ⟨RX4, "ringOrder", "()I"⟩
abbrev cX4_thirdAlong : ByteArray := prog_6_method_14_code
def yX4_thirdAlong : MethodName := ⟨RX4, "thirdAlong", "(III)I"⟩
def RX5 : String := "TwinRows$Reader"
def TX5 : u_T := fun k => match k with
  | 0 => ("TwinRows$Reader", "draft", "LTwinRows$Frame;", true)
  | 1 => ("TwinRows$Reader", "text", "[B", true)
  | 2 => ("TwinRows$Reader", "length", "I", false)
  | 3 => ("TwinRows$Reader", "token", "I", false)
  | 4 => ("TwinRows$Reader", "begin", "I", false)
  | 5 => ("TwinRows$Reader", "next", "I", false)
  | 6 => ("TwinRows$Reader", "value", "I", false)
  | 7 => ("TwinRows$Reader", "distance", "I", false)
  | _ => ("TwinRows$Reader", "fault", "I", false)
def tyX5 : Nat → FieldType := fun k => match k with
  | 0 => .object "TwinRows$Frame"
  | 1 => .array .byte
  | 2 => .int
  | 3 => .int
  | 4 => .int
  | 5 => .int
  | 6 => .int
  | 7 => .int
  | _ => .int
abbrev wsX50 : List Cond := u_ws RX5 TX5 9
theorem nmX5 : ∀ a, a < 9 → ∀ b, b < 9 → a ≠ b → (TX5 a).2.1 ≠ (TX5 b).2.1 := by decide +kernel
theorem tyX5_ok : ∀ k, k < 9 → parseFieldDescriptor (TX5 k).2.2.1 = some (tyX5 k) := by decide +kernel
abbrev cX5_init : ByteArray := prog_7_method_1_code
def yX5_init : MethodName := ⟨RX5, "<init>", "()V"⟩
abbrev cX5_read : ByteArray := prog_7_method_2_code
def yX5_read : MethodName := ⟨RX5, "read", "([BI)I"⟩
abbrev cX5_readRow : ByteArray := prog_7_method_3_code
def yX5_readRow : MethodName := ⟨RX5, "readRow", "(Z)Z"⟩
abbrev cX5_readCells : ByteArray := prog_7_method_4_code
def yX5_readCells : MethodName := ⟨RX5, "readCells", "()Z"⟩
abbrev cX5_readHole : ByteArray := prog_7_method_5_code
def yX5_readHole : MethodName := ⟨RX5, "readHole", "()Z"⟩
abbrev cX5_readPair : ByteArray := prog_7_method_6_code
def yX5_readPair : MethodName := ⟨RX5, "readPair", "()Z"⟩
abbrev cX5_readPin : ByteArray := prog_7_method_7_code
def yX5_readPin : MethodName := ⟨RX5, "readPin", "()Z"⟩
abbrev cX5_readNumber : ByteArray := prog_7_method_8_code
def yX5_readNumber : MethodName := ⟨RX5, "readNumber", "(I)Z"⟩
abbrev cX5_endsRow : ByteArray := prog_7_method_9_code
def yX5_endsRow : MethodName := ⟨RX5, "endsRow", "()Z"⟩
abbrev cX5_fails : ByteArray := prog_7_method_10_code
def yX5_fails : MethodName := ⟨RX5, "fails", "(I)Z"⟩
abbrev cX5_isWord : ByteArray := prog_7_method_11_code
def yX5_isWord : MethodName := ⟨RX5, "isWord", "(Ljava/lang/String;)Z"⟩
abbrev cX5_advance : ByteArray := prog_7_method_12_code
def yX5_advance : MethodName := ⟨RX5, "advance", "()V"⟩
abbrev cX5_advanceRun : ByteArray := prog_7_method_13_code
def yX5_advanceRun : MethodName := ⟨RX5, "advanceRun", "()V"⟩
def RX6 : String := "TwinRows"
def TX6 : u_T := fun k => match k with
  | 0 => ("TwinRows", "tape", "[B", true)
  | 1 => ("TwinRows", "tapeLength", "I", false)
  | 2 => ("TwinRows", "reader", "LTwinRows$Reader;", true)
  | 3 => ("TwinRows", "latestFault", "I", false)
  | 4 => ("TwinRows", "frame", "LTwinRows$Frame;", true)
  | 5 => ("TwinRows", "before", "LTwinRows$Frame;", true)
  | 6 => ("TwinRows", "history", "LTwinRows$History;", true)
  | 7 => ("TwinRows", "images", "[LTwinRows$Frame;", true)
  | 8 => ("TwinRows", "draws", "LTwinRows$Draws;", true)
  | 9 => ("TwinRows", "fillings", "LTwinRows$Fillings;", true)
  | 10 => ("TwinRows", "extendedFrame", "LTwinRows$Frame;", true)
  | 11 => ("TwinRows", "extendedFillings", "LTwinRows$Fillings;", true)
  | 12 => ("TwinRows", "look", "LTwinRows$Look;", true)
  | _ => ("TwinRows", "told", "[I", true)
def tyX6 : Nat → FieldType := fun k => match k with
  | 0 => .array .byte
  | 1 => .int
  | 2 => .object "TwinRows$Reader"
  | 3 => .int
  | 4 => .object "TwinRows$Frame"
  | 5 => .object "TwinRows$Frame"
  | 6 => .object "TwinRows$History"
  | 7 => .array (.object "TwinRows$Frame")
  | 8 => .object "TwinRows$Draws"
  | 9 => .object "TwinRows$Fillings"
  | 10 => .object "TwinRows$Frame"
  | 11 => .object "TwinRows$Fillings"
  | 12 => .object "TwinRows$Look"
  | _ => .array .int
abbrev wsX60 : List Cond := u_ws RX6 TX6 14
theorem nmX6 : ∀ a, a < 14 → ∀ b, b < 14 → a ≠ b → (TX6 a).2.1 ≠ (TX6 b).2.1 := by decide +kernel
theorem tyX6_ok : ∀ k, k < 14 → parseFieldDescriptor (TX6 k).2.2.1 = some (tyX6 k) := by decide +kernel
abbrev cX6_init : ByteArray := prog_1_method_1_code
def yX6_init : MethodName := ⟨RX6, "<init>", "()V"⟩
abbrev cX6_feed : ByteArray := prog_1_method_2_code
def yX6_feed : MethodName := ⟨RX6, "feed", "(IIIII)I"⟩
abbrev cX6_feedNumber : ByteArray := prog_1_method_3_code
def yX6_feedNumber : MethodName := ⟨RX6, "feedNumber", "(I)V"⟩
abbrev cX6_end : ByteArray := prog_1_method_4_code
def yX6_end : MethodName := ⟨RX6, "end", "(I)Z"⟩
abbrev cX6_frame : ByteArray := prog_1_method_5_code
def yX6_frame : MethodName := ⟨RX6, "frame", "()I"⟩
abbrev cX6_fault : ByteArray := prog_1_method_6_code
def yX6_fault : MethodName := ⟨RX6, "fault", "()I"⟩
abbrev cX6_kind : ByteArray := prog_1_method_7_code
def yX6_kind : MethodName := ⟨RX6, "kind", "(II)I"⟩
abbrev cX6_mostOrder : ByteArray := prog_1_method_8_code
def yX6_mostOrder : MethodName := ⟨RX6, "mostOrder", "(I)I"⟩
abbrev cX6_now : ByteArray := prog_1_method_9_code
def yX6_now : MethodName := ⟨RX6, "now", "(I)I"⟩
abbrev cX6_pinned : ByteArray := prog_1_method_10_code
def yX6_pinned : MethodName := ⟨RX6, "pinned", "(I)I"⟩
abbrev cX6_ways : ByteArray := prog_1_method_11_code
def yX6_ways : MethodName := ⟨RX6, "ways", "()I"⟩
abbrev cX6_row : ByteArray := prog_1_method_12_code
def yX6_row : MethodName := ⟨RX6, "row", "(I)I"⟩
abbrev cX6_at : ByteArray := prog_1_method_13_code
def yX6_at : MethodName := ⟨RX6, "at", "(I)I"⟩
abbrev cX6_first : ByteArray := prog_1_method_14_code
def yX6_first : MethodName := ⟨RX6, "first", "(I)I"⟩
abbrev cX6_rank : ByteArray := prog_1_method_15_code
def yX6_rank : MethodName := ⟨RX6, "rank", "()I"⟩
abbrev cX6_behind : ByteArray := prog_1_method_16_code
def yX6_behind : MethodName := ⟨RX6, "behind", "()I"⟩
abbrev cX6_lookAtTold : ByteArray := prog_1_method_17_code
def yX6_lookAtTold : MethodName := ⟨RX6, "lookAtTold", "()I"⟩
abbrev cX6_standing : ByteArray := prog_1_method_18_code
def yX6_standing : MethodName := ⟨RX6, "standing", "(II)I"⟩
abbrev cX6_may : ByteArray := prog_1_method_19_code
def yX6_may : MethodName := ⟨RX6, "may", "(I)I"⟩
abbrev cX6_sure : ByteArray := prog_1_method_20_code
def yX6_sure : MethodName := ⟨RX6, "sure", "()I"⟩
abbrev cX6_extended : ByteArray := prog_1_method_21_code
def yX6_extended : MethodName := ⟨RX6, "extended", "(II)I"⟩
abbrev cX6_made : ByteArray := prog_1_method_22_code
def yX6_made : MethodName := ⟨RX6, "made", "(I)I"⟩
abbrev cX6_third : ByteArray := prog_1_method_23_code
def yX6_third : MethodName := ⟨RX6, "third", "(II)I"⟩
abbrev cX6_hole : ByteArray := prog_1_method_24_code
def yX6_hole : MethodName := ⟨RX6, "hole", "(IZ)I"⟩
abbrev cX6_pair : ByteArray := prog_1_method_25_code
def yX6_pair : MethodName := ⟨RX6, "pair", "(IZ)I"⟩
abbrev cX6_pin : ByteArray := prog_1_method_26_code
def yX6_pin : MethodName := ⟨RX6, "pin", "(II)I"⟩
abbrev cX6_drawn : ByteArray := prog_1_method_27_code
def yX6_drawn : MethodName := ⟨RX6, "drawn", "(II)I"⟩
abbrev cX6_undo : ByteArray := prog_1_method_28_code
def yX6_undo : MethodName := ⟨RX6, "undo", "()I"⟩
abbrev cX6_image : ByteArray := prog_1_method_29_code
def yX6_image : MethodName := ⟨RX6, "image", "(I)Z"⟩
abbrev cX6_restore : ByteArray := prog_1_method_30_code
def yX6_restore : MethodName := ⟨RX6, "restore", "(I)Z"⟩
abbrev cX6_becomes : ByteArray := prog_1_method_31_code
def yX6_becomes : MethodName := ⟨RX6, "becomes", "(LTwinRows$Frame;)V"⟩
abbrev cX6_acted : ByteArray := prog_1_method_32_code
def yX6_acted : MethodName := ⟨RX6, "acted", "()V"⟩
abbrev cX6_counted : ByteArray := prog_1_method_33_code
def yX6_counted : MethodName := ⟨RX6, "counted", "()LTwinRows$Fillings;"⟩
abbrev cX6_bit : ByteArray := prog_1_method_34_code
def yX6_bit : MethodName := ⟨RX6, "bit", "(I)I"⟩
def RX7 : String := "TwinRowsModel"
def TX7 : u_T := fun k => match k with
  | 0 => ("TwinRowsModel", "thrown", "I", false)
  | 1 => ("TwinRowsModel", "tape", "[I", true)
  | 2 => ("TwinRowsModel", "taped", "I", false)
  | 3 => ("TwinRowsModel", "size", "I", false)
  | 4 => ("TwinRowsModel", "next", "I", false)
  | 5 => ("TwinRowsModel", "from", "I", false)
  | 6 => ("TwinRowsModel", "sort", "I", false)
  | 7 => ("TwinRowsModel", "number", "I", false)
  | 8 => ("TwinRowsModel", "fault", "I", false)
  | 9 => ("TwinRowsModel", "place", "I", false)
  | 10 => ("TwinRowsModel", "word", "J", false)
  | 11 => ("TwinRowsModel", "now", "[I", true)
  | 12 => ("TwinRowsModel", "read", "[I", true)
  | 13 => ("TwinRowsModel", "kept", "[I", true)
  | 14 => ("TwinRowsModel", "snaps", "[I", true)
  | 15 => ("TwinRowsModel", "before", "[I", true)
  | 16 => ("TwinRowsModel", "live", "[I", true)
  | 17 => ("TwinRowsModel", "other", "[I", true)
  | 18 => ("TwinRowsModel", "isKept", "[Z", true)
  | 19 => ("TwinRowsModel", "snapMany", "I", false)
  | 20 => ("TwinRowsModel", "cell", "[I", true)
  | 21 => ("TwinRowsModel", "wantedRow", "[I", true)
  | 22 => ("TwinRowsModel", "asked", "[I", true)
  | 23 => ("TwinRowsModel", "standing", "[I", true)
  | 24 => ("TwinRowsModel", "found", "I", false)
  | 25 => ("TwinRowsModel", "wanted", "I", false)
  | 26 => ("TwinRowsModel", "rankOf", "I", false)
  | 27 => ("TwinRowsModel", "row", "[I", true)
  | 28 => ("TwinRowsModel", "rowMany", "I", false)
  | 29 => ("TwinRowsModel", "madeRow", "[I", true)
  | _ => ("TwinRowsModel", "seed", "I", false)
def tyX7 : Nat → FieldType := fun k => match k with
  | 0 => .int
  | 1 => .array .int
  | 2 => .int
  | 3 => .int
  | 4 => .int
  | 5 => .int
  | 6 => .int
  | 7 => .int
  | 8 => .int
  | 9 => .int
  | 10 => .long
  | 11 => .array .int
  | 12 => .array .int
  | 13 => .array .int
  | 14 => .array .int
  | 15 => .array .int
  | 16 => .array .int
  | 17 => .array .int
  | 18 => .array .boolean
  | 19 => .int
  | 20 => .array .int
  | 21 => .array .int
  | 22 => .array .int
  | 23 => .array .int
  | 24 => .int
  | 25 => .int
  | 26 => .int
  | 27 => .array .int
  | 28 => .int
  | 29 => .array .int
  | _ => .int
abbrev wsX70 : List Cond := u_ws RX7 TX7 31
theorem nmX7 : ∀ a, a < 31 → ∀ b, b < 31 → a ≠ b → (TX7 a).2.1 ≠ (TX7 b).2.1 := by decide +kernel
theorem tyX7_ok : ∀ k, k < 31 → parseFieldDescriptor (TX7 k).2.2.1 = some (tyX7 k) := by decide +kernel
abbrev cX7_thrown : ByteArray := prog_9_method_1_code
def yX7_thrown : MethodName := ⟨RX7, "thrown", "()I"⟩
abbrev cX7_refuse : ByteArray := prog_9_method_2_code
def yX7_refuse : MethodName := ⟨RX7, "refuse", "()I"⟩
abbrev cX7_isIn : ByteArray := prog_9_method_3_code
def yX7_isIn : MethodName := ⟨RX7, "isIn", "(III)Z"⟩
abbrev cX7_has : ByteArray := prog_9_method_4_code
def yX7_has : MethodName := ⟨RX7, "has", "(II)Z"⟩
abbrev cX7_bits : ByteArray := prog_9_method_5_code
def yX7_bits : MethodName := ⟨RX7, "bits", "(I)I"⟩
abbrev cX7_lay : ByteArray := prog_9_method_6_code
def yX7_lay : MethodName := ⟨RX7, "lay", "(I)V"⟩
abbrev cX7_feed : ByteArray := prog_9_method_7_code
def yX7_feed : MethodName := ⟨RX7, "feed", "(IIIII)I"⟩
abbrev cX7_end : ByteArray := prog_9_method_8_code
def yX7_end : MethodName := ⟨RX7, "end", "(I)Z"⟩
abbrev cX7_tapeAt : ByteArray := prog_9_method_9_code
def yX7_tapeAt : MethodName := ⟨RX7, "tapeAt", "(I)I"⟩
abbrev cX7_isDigit : ByteArray := prog_9_method_10_code
def yX7_isDigit : MethodName := ⟨RX7, "isDigit", "(I)Z"⟩
abbrev cX7_isLetter : ByteArray := prog_9_method_11_code
def yX7_isLetter : MethodName := ⟨RX7, "isLetter", "(I)Z"⟩
abbrev cX7_goes : ByteArray := prog_9_method_12_code
def yX7_goes : MethodName := ⟨RX7, "goes", "()V"⟩
abbrev cX7_spelt : ByteArray := prog_9_method_13_code
def yX7_spelt : MethodName := ⟨RX7, "spelt", "(IIIII)J"⟩
abbrev cX7_isWord : ByteArray := prog_9_method_14_code
def yX7_isWord : MethodName := ⟨RX7, "isWord", "(J)Z"⟩
abbrev cX7_isCells : ByteArray := prog_9_method_15_code
def yX7_isCells : MethodName := ⟨RX7, "isCells", "()Z"⟩
abbrev cX7_isHole : ByteArray := prog_9_method_16_code
def yX7_isHole : MethodName := ⟨RX7, "isHole", "()Z"⟩
abbrev cX7_isPair : ByteArray := prog_9_method_17_code
def yX7_isPair : MethodName := ⟨RX7, "isPair", "()Z"⟩
abbrev cX7_isAt : ByteArray := prog_9_method_18_code
def yX7_isAt : MethodName := ⟨RX7, "isAt", "()Z"⟩
abbrev cX7_bad : ByteArray := prog_9_method_19_code
def yX7_bad : MethodName := ⟨RX7, "bad", "(I)Z"⟩
abbrev cX7_isNumber : ByteArray := prog_9_method_20_code
def yX7_isNumber : MethodName := ⟨RX7, "isNumber", "(II)Z"⟩
abbrev cX7_init : ByteArray := prog_9_method_21_code
def yX7_init : MethodName := ⟨RX7, "<init>", "()V"⟩
abbrev cX7_copy : ByteArray := prog_9_method_22_code
def yX7_copy : MethodName := ⟨RX7, "copy", "([II[II)V"⟩
abbrev cX7_isTold : ByteArray := prog_9_method_23_code
def yX7_isTold : MethodName := ⟨RX7, "isTold", "([II)Z"⟩
abbrev cX7_pins : ByteArray := prog_9_method_24_code
def yX7_pins : MethodName := ⟨RX7, "pins", "([II)I"⟩
abbrev cX7_mayPin : ByteArray := prog_9_method_25_code
def yX7_mayPin : MethodName := ⟨RX7, "mayPin", "([III)Z"⟩
abbrev cX7_readHole : ByteArray := prog_9_method_26_code
def yX7_readHole : MethodName := ⟨RX7, "readHole", "()Z"⟩
abbrev cX7_readPair : ByteArray := prog_9_method_27_code
def yX7_readPair : MethodName := ⟨RX7, "readPair", "()Z"⟩
abbrev cX7_readCells : ByteArray := prog_9_method_28_code
def yX7_readCells : MethodName := ⟨RX7, "readCells", "()Z"⟩
abbrev cX7_readRow : ByteArray := prog_9_method_29_code
def yX7_readRow : MethodName := ⟨RX7, "readRow", "()Z"⟩
abbrev cX7_readEnd : ByteArray := prog_9_method_30_code
def yX7_readEnd : MethodName := ⟨RX7, "readEnd", "()Z"⟩
abbrev cX7_frame : ByteArray := prog_9_method_31_code
def yX7_frame : MethodName := ⟨RX7, "frame", "()I"⟩
abbrev cX7_fault : ByteArray := prog_9_method_32_code
def yX7_fault : MethodName := ⟨RX7, "fault", "()I"⟩
abbrev cX7_laysKind : ByteArray := prog_9_method_33_code
def yX7_laysKind : MethodName := ⟨RX7, "laysKind", "([III)V"⟩
abbrev cX7_kind : ByteArray := prog_9_method_34_code
def yX7_kind : MethodName := ⟨RX7, "kind", "(II)I"⟩
abbrev cX7_isEven : ByteArray := prog_9_method_35_code
def yX7_isEven : MethodName := ⟨RX7, "isEven", "([I)Z"⟩
abbrev cX7_fills : ByteArray := prog_9_method_36_code
def yX7_fills : MethodName := ⟨RX7, "fills", "([III)V"⟩
abbrev cX7_counts : ByteArray := prog_9_method_37_code
def yX7_counts : MethodName := ⟨RX7, "counts", "([I)V"⟩
abbrev cX7_all : ByteArray := prog_9_method_38_code
def yX7_all : MethodName := ⟨RX7, "all", "([II)I"⟩
abbrev cX7_ways : ByteArray := prog_9_method_39_code
def yX7_ways : MethodName := ⟨RX7, "ways", "()I"⟩
abbrev cX7_looks : ByteArray := prog_9_method_40_code
def yX7_looks : MethodName := ⟨RX7, "looks", "([II)V"⟩
abbrev cX7_row : ByteArray := prog_9_method_41_code
def yX7_row : MethodName := ⟨RX7, "row", "(I)I"⟩
abbrev cX7_at : ByteArray := prog_9_method_42_code
def yX7_at : MethodName := ⟨RX7, "at", "(I)I"⟩
abbrev cX7_firstOf : ByteArray := prog_9_method_43_code
def yX7_firstOf : MethodName := ⟨RX7, "firstOf", "(I)I"⟩
abbrev cX7_first : ByteArray := prog_9_method_44_code
def yX7_first : MethodName := ⟨RX7, "first", "(I)I"⟩
abbrev cX7_ranked : ByteArray := prog_9_method_45_code
def yX7_ranked : MethodName := ⟨RX7, "ranked", "()I"⟩
abbrev cX7_rank : ByteArray := prog_9_method_46_code
def yX7_rank : MethodName := ⟨RX7, "rank", "()I"⟩
abbrev cX7_behind : ByteArray := prog_9_method_47_code
def yX7_behind : MethodName := ⟨RX7, "behind", "()I"⟩
abbrev cX7_standing : ByteArray := prog_9_method_48_code
def yX7_standing : MethodName := ⟨RX7, "standing", "(II)I"⟩
abbrev cX7_may : ByteArray := prog_9_method_49_code
def yX7_may : MethodName := ⟨RX7, "may", "(I)I"⟩
abbrev cX7_sure : ByteArray := prog_9_method_50_code
def yX7_sure : MethodName := ⟨RX7, "sure", "()I"⟩
abbrev cX7_extended : ByteArray := prog_9_method_51_code
def yX7_extended : MethodName := ⟨RX7, "extended", "(II)I"⟩
abbrev cX7_two : ByteArray := prog_9_method_52_code
def yX7_two : MethodName := ⟨RX7, "two", "(II)V"⟩
abbrev cX7_laysFours : ByteArray := prog_9_method_53_code
def yX7_laysFours : MethodName := ⟨RX7, "laysFours", "(I)V"⟩
abbrev cX7_laysOnes : ByteArray := prog_9_method_54_code
def yX7_laysOnes : MethodName := ⟨RX7, "laysOnes", "(I)V"⟩
abbrev cX7_laysTwos : ByteArray := prog_9_method_55_code
def yX7_laysTwos : MethodName := ⟨RX7, "laysTwos", "(I)V"⟩
abbrev cX7_made : ByteArray := prog_9_method_56_code
def yX7_made : MethodName := ⟨RX7, "made", "(I)I"⟩
abbrev cX7_orderOf : ByteArray := prog_9_method_57_code
def yX7_orderOf : MethodName := ⟨RX7, "orderOf", "()I"⟩
abbrev cX7_third : ByteArray := prog_9_method_58_code
def yX7_third : MethodName := ⟨RX7, "third", "(II)I"⟩
abbrev cX7_pinnedOnes : ByteArray := prog_9_method_59_code
def yX7_pinnedOnes : MethodName := ⟨RX7, "pinnedOnes", "()I"⟩
abbrev cX7_now : ByteArray := prog_9_method_60_code
def yX7_now : MethodName := ⟨RX7, "now", "(I)I"⟩
abbrev cX7_pinned : ByteArray := prog_9_method_61_code
def yX7_pinned : MethodName := ⟨RX7, "pinned", "(I)I"⟩
abbrev cX7_snap : ByteArray := prog_9_method_62_code
def yX7_snap : MethodName := ⟨RX7, "snap", "()V"⟩
abbrev cX7_stay : ByteArray := prog_9_method_63_code
def yX7_stay : MethodName := ⟨RX7, "stay", "()V"⟩
abbrev cX7_mayHole : ByteArray := prog_9_method_64_code
def yX7_mayHole : MethodName := ⟨RX7, "mayHole", "(IZ)Z"⟩
abbrev cX7_hole : ByteArray := prog_9_method_65_code
def yX7_hole : MethodName := ⟨RX7, "hole", "(IZ)I"⟩
abbrev cX7_mayPair : ByteArray := prog_9_method_66_code
def yX7_mayPair : MethodName := ⟨RX7, "mayPair", "(IZ)Z"⟩
abbrev cX7_turns : ByteArray := prog_9_method_67_code
def yX7_turns : MethodName := ⟨RX7, "turns", "(I)V"⟩
abbrev cX7_pair : ByteArray := prog_9_method_68_code
def yX7_pair : MethodName := ⟨RX7, "pair", "(IZ)I"⟩
abbrev cX7_pin : ByteArray := prog_9_method_69_code
def yX7_pin : MethodName := ⟨RX7, "pin", "(II)I"⟩
abbrev cX7_draw : ByteArray := prog_9_method_70_code
def yX7_draw : MethodName := ⟨RX7, "draw", "(I)I"⟩
abbrev cX7_distance : ByteArray := prog_9_method_71_code
def yX7_distance : MethodName := ⟨RX7, "distance", "(I)I"⟩
abbrev cX7_does : ByteArray := prog_9_method_72_code
def yX7_does : MethodName := ⟨RX7, "does", "()Z"⟩
abbrev cX7_drawn : ByteArray := prog_9_method_73_code
def yX7_drawn : MethodName := ⟨RX7, "drawn", "(II)I"⟩
abbrev cX7_undo : ByteArray := prog_9_method_74_code
def yX7_undo : MethodName := ⟨RX7, "undo", "()I"⟩
abbrev cX7_image : ByteArray := prog_9_method_75_code
def yX7_image : MethodName := ⟨RX7, "image", "(I)Z"⟩
abbrev cX7_restore : ByteArray := prog_9_method_76_code
def yX7_restore : MethodName := ⟨RX7, "restore", "(I)Z"⟩
def RJx145de : String := "java/io/Serializable"
def TJx145de : u_T := fun k => match k with
  | _ => ("", "", "", false)
def tyJx145de : Nat → FieldType := fun k => match k with
  | _ => .int
abbrev wsJx145de0 : List Cond := u_ws RJx145de TJx145de 0
theorem nmJx145de : ∀ a, a < 0 → ∀ b, b < 0 → a ≠ b → (TJx145de a).2.1 ≠ (TJx145de b).2.1 := by decide +kernel
theorem tyJx145de_ok : ∀ k, k < 0 → parseFieldDescriptor (TJx145de k).2.2.1 = some (tyJx145de k) := by decide +kernel
def RJx9f9b0 : String := "java/lang/CharSequence"
def TJx9f9b0 : u_T := fun k => match k with
  | _ => ("", "", "", false)
def tyJx9f9b0 : Nat → FieldType := fun k => match k with
  | _ => .int
abbrev wsJx9f9b00 : List Cond := u_ws RJx9f9b0 TJx9f9b0 0
theorem nmJx9f9b0 : ∀ a, a < 0 → ∀ b, b < 0 → a ≠ b → (TJx9f9b0 a).2.1 ≠ (TJx9f9b0 b).2.1 := by decide +kernel
theorem tyJx9f9b0_ok : ∀ k, k < 0 → parseFieldDescriptor (TJx9f9b0 k).2.2.1 = some (tyJx9f9b0 k) := by decide +kernel
def RJxb160c : String := "java/lang/Comparable"
def TJxb160c : u_T := fun k => match k with
  | _ => ("", "", "", false)
def tyJxb160c : Nat → FieldType := fun k => match k with
  | _ => .int
abbrev wsJxb160c0 : List Cond := u_ws RJxb160c TJxb160c 0
theorem nmJxb160c : ∀ a, a < 0 → ∀ b, b < 0 → a ≠ b → (TJxb160c a).2.1 ≠ (TJxb160c b).2.1 := by decide +kernel
theorem tyJxb160c_ok : ∀ k, k < 0 → parseFieldDescriptor (TJxb160c k).2.2.1 = some (tyJxb160c k) := by decide +kernel
def RJ6 : String := "java/lang/Integer"
def TJ6 : u_T := fun k => match k with
  | _ => ("", "", "", false)
def tyJ6 : Nat → FieldType := fun k => match k with
  | _ => .int
abbrev wsJ60 : List Cond := u_ws RJ6 TJ6 0
theorem nmJ6 : ∀ a, a < 0 → ∀ b, b < 0 → a ≠ b → (TJ6 a).2.1 ≠ (TJ6 b).2.1 := by decide +kernel
theorem tyJ6_ok : ∀ k, k < 0 → parseFieldDescriptor (TJ6 k).2.2.1 = some (tyJ6 k) := by decide +kernel
abbrev cJ6_bitCount_0f7a4 : ByteArray := prog_14_method_49_code
def yJ6_bitCount_0f7a4 : MethodName := ⟨RJ6, "bitCount", "(I)I"⟩
def RJ9 : String := "java/lang/Math"
def TJ9 : u_T := fun k => match k with
  | _ => ("", "", "", false)
def tyJ9 : Nat → FieldType := fun k => match k with
  | _ => .int
abbrev wsJ90 : List Cond := u_ws RJ9 TJ9 0
theorem nmJ9 : ∀ a, a < 0 → ∀ b, b < 0 → a ≠ b → (TJ9 a).2.1 ≠ (TJ9 b).2.1 := by decide +kernel
theorem tyJ9_ok : ∀ k, k < 0 → parseFieldDescriptor (TJ9 k).2.2.1 = some (tyJ9 k) := by decide +kernel
abbrev cJ9_floorMod_7cf53 : ByteArray := prog_15_method_50_code
def yJ9_floorMod_7cf53 : MethodName := ⟨RJ9, "floorMod", "(II)I"⟩
abbrev cJ9_max_7cf53 : ByteArray := prog_15_method_65_code
def yJ9_max_7cf53 : MethodName := ⟨RJ9, "max", "(II)I"⟩
abbrev cJ9_min_7cf53 : ByteArray := prog_15_method_69_code
def yJ9_min_7cf53 : MethodName := ⟨RJ9, "min", "(II)I"⟩
def RJ0 : String := "java/lang/String"
def TJ0 : u_T := fun k => match k with
  | _ => ("", "", "", false)
def tyJ0 : Nat → FieldType := fun k => match k with
  | _ => .int
abbrev wsJ00 : List Cond := u_ws RJ0 TJ0 0
theorem nmJ0 : ∀ a, a < 0 → ∀ b, b < 0 → a ≠ b → (TJ0 a).2.1 ≠ (TJ0 b).2.1 := by decide +kernel
theorem tyJ0_ok : ∀ k, k < 0 → parseFieldDescriptor (TJ0 k).2.2.1 = some (tyJ0 k) := by decide +kernel
abbrev cJ0_length_8abf5 : ByteArray := prog_17_method_54_code
def yJ0_length_8abf5 : MethodName := ⟨RJ0, "length", "()I"⟩
abbrev cJ0_charAt_5068e : ByteArray := prog_17_method_56_code
def yJ0_charAt_5068e : MethodName := ⟨RJ0, "charAt", "(I)C"⟩
abbrev cJ0_coder_7d493 : ByteArray := prog_17_method_152_code
def yJ0_coder_7d493 : MethodName := ⟨RJ0, "coder", "()B"⟩
abbrev cJ0_isLatin1_aae02 : ByteArray := prog_17_method_154_code
def yJ0_isLatin1_aae02 : MethodName := ⟨RJ0, "isLatin1", "()Z"⟩
abbrev cJ0_checkIndex_df160 : ByteArray := prog_17_method_155_code
def yJ0_checkIndex_df160 : MethodName := ⟨RJ0, "checkIndex", "(II)V"⟩
def RJ1 : String := "java/lang/StringLatin1"
def TJ1 : u_T := fun k => match k with
  | _ => ("", "", "", false)
def tyJ1 : Nat → FieldType := fun k => match k with
  | _ => .int
abbrev wsJ10 : List Cond := u_ws RJ1 TJ1 0
theorem nmJ1 : ∀ a, a < 0 → ∀ b, b < 0 → a ≠ b → (TJ1 a).2.1 ≠ (TJ1 b).2.1 := by decide +kernel
theorem tyJ1_ok : ∀ k, k < 0 → parseFieldDescriptor (TJ1 k).2.2.1 = some (tyJ1 k) := by decide +kernel
abbrev cJ1_charAt_3b067 : ByteArray := prog_18_method_2_code
def yJ1_charAt_3b067 : MethodName := ⟨RJ1, "charAt", "([BI)C"⟩
def RJ2 : String := "java/lang/StringUTF16"
def TJ2 : u_T := fun k => match k with
  | _ => ("", "", "", false)
def tyJ2 : Nat → FieldType := fun k => match k with
  | _ => .int
abbrev wsJ20 : List Cond := u_ws RJ2 TJ2 0
theorem nmJ2 : ∀ a, a < 0 → ∀ b, b < 0 → a ≠ b → (TJ2 a).2.1 ≠ (TJ2 b).2.1 := by decide +kernel
theorem tyJ2_ok : ∀ k, k < 0 → parseFieldDescriptor (TJ2 k).2.2.1 = some (tyJ2 k) := by decide +kernel
abbrev cJ2_getChar_3b067 : ByteArray := prog_19_method_5_code
def yJ2_getChar_3b067 : MethodName := ⟨RJ2, "getChar", "([BI)C"⟩
abbrev cJ2_length_9d52b : ByteArray := prog_19_method_6_code
def yJ2_length_9d52b : MethodName := ⟨RJ2, "length", "([B)I"⟩
abbrev cJ2_charAt_3b067 : ByteArray := prog_19_method_83_code
def yJ2_charAt_3b067 : MethodName := ⟨RJ2, "charAt", "([BI)C"⟩
abbrev cJ2_checkIndex_2214a : ByteArray := prog_19_method_91_code
def yJ2_checkIndex_2214a : MethodName := ⟨RJ2, "checkIndex", "(I[B)V"⟩
def RJ10 : String := "java/lang/System"
def TJ10 : u_T := fun k => match k with
  | _ => ("", "", "", false)
def tyJ10 : Nat → FieldType := fun k => match k with
  | _ => .int
abbrev wsJ100 : List Cond := u_ws RJ10 TJ10 0
theorem nmJ10 : ∀ a, a < 0 → ∀ b, b < 0 → a ≠ b → (TJ10 a).2.1 ≠ (TJ10 b).2.1 := by decide +kernel
theorem tyJ10_ok : ∀ k, k < 0 → parseFieldDescriptor (TJ10 k).2.2.1 = some (tyJ10 k) := by decide +kernel
def RJxfd54e : String := "java/lang/constant/Constable"
def TJxfd54e : u_T := fun k => match k with
  | _ => ("", "", "", false)
def tyJxfd54e : Nat → FieldType := fun k => match k with
  | _ => .int
abbrev wsJxfd54e0 : List Cond := u_ws RJxfd54e TJxfd54e 0
theorem nmJxfd54e : ∀ a, a < 0 → ∀ b, b < 0 → a ≠ b → (TJxfd54e a).2.1 ≠ (TJxfd54e b).2.1 := by decide +kernel
theorem tyJxfd54e_ok : ∀ k, k < 0 → parseFieldDescriptor (TJxfd54e k).2.2.1 = some (tyJxfd54e k) := by decide +kernel
def RJx3cf43 : String := "java/lang/constant/ConstantDesc"
def TJx3cf43 : u_T := fun k => match k with
  | _ => ("", "", "", false)
def tyJx3cf43 : Nat → FieldType := fun k => match k with
  | _ => .int
abbrev wsJx3cf430 : List Cond := u_ws RJx3cf43 TJx3cf43 0
theorem nmJx3cf43 : ∀ a, a < 0 → ∀ b, b < 0 → a ≠ b → (TJx3cf43 a).2.1 ≠ (TJx3cf43 b).2.1 := by decide +kernel
theorem tyJx3cf43_ok : ∀ k, k < 0 → parseFieldDescriptor (TJx3cf43 k).2.2.1 = some (tyJx3cf43 k) := by decide +kernel
def RJ7 : String := "java/util/Arrays"
def TJ7 : u_T := fun k => match k with
  | _ => ("", "", "", false)
def tyJ7 : Nat → FieldType := fun k => match k with
  | _ => .int
abbrev wsJ70 : List Cond := u_ws RJ7 TJ7 0
theorem nmJ7 : ∀ a, a < 0 → ∀ b, b < 0 → a ≠ b → (TJ7 a).2.1 ≠ (TJ7 b).2.1 := by decide +kernel
theorem tyJ7_ok : ∀ k, k < 0 → parseFieldDescriptor (TJ7 k).2.2.1 = some (tyJ7 k) := by decide +kernel
abbrev cJ7_fill_53178 : ByteArray := prog_24_method_103_code
def yJ7_fill_53178 : MethodName := ⟨RJ7, "fill", "([II)V"⟩
def RJ3 : String := "jdk/internal/util/Preconditions"
def TJ3 : u_T := fun k => match k with
  | _ => ("", "", "", false)
def tyJ3 : Nat → FieldType := fun k => match k with
  | _ => .int
abbrev wsJ30 : List Cond := u_ws RJ3 TJ3 0
theorem nmJ3 : ∀ a, a < 0 → ∀ b, b < 0 → a ≠ b → (TJ3 a).2.1 ≠ (TJ3 b).2.1 := by decide +kernel
theorem tyJ3_ok : ∀ k, k < 0 → parseFieldDescriptor (TJ3 k).2.2.1 = some (tyJ3 k) := by decide +kernel
abbrev cJ3_checkIndex_8e157 : ByteArray := prog_26_method_11_code
def yJ3_checkIndex_8e157 : MethodName := ⟨RJ3, "checkIndex", "(IILjava/util/function/BiFunction;)I"⟩
def RL : String := "TwinRowsLaw"
abbrev cL_row : ByteArray := method_3_code
def yL_row : MethodName := ⟨RL, "row", "(LTwinRows;I[J)I"⟩
abbrev cL_law : ByteArray := code
def yL_law : MethodName := ⟨RL, "law", "([I)Z"⟩
def wsX0_init : List Cond := .code yX0_init cX0_init 1 none :: ([.methodLink RX0 3 objectInit, .instanceMethod objectInit, .code objectInit ⟨#[0xb1]⟩ 1 none, .fieldLink RX0 9 "TwinRows$Draws" "seed" "I"] ++ wsX00)
def wsX0_draw : List Cond := .code yX0_draw cX0_draw 2 (some .int) :: ([.fieldLink RX0 9 "TwinRows$Draws" "seed" "I", .constant RX0 15 (1103515245)] ++ wsX00)
def wsX2_hasPlace : List Cond := .code yX2_hasPlace cX2_hasPlace 2 (some .boolean) :: ([.fieldLink RX2 9 "TwinRows$Frame" "cells" "I"] ++ wsX20)
def wsX6_bit : List Cond := .code yX6_bit cX6_bit 1 (some .int) :: ([])
def wsX2_hasHole : List Cond := .code yX2_hasHole cX2_hasHole 2 (some .boolean) :: ([.fieldLink RX2 15 "TwinRows$Frame" "holes" "I", .methodLink RX2 37 yX2_hasPlace, .instanceMethod yX2_hasPlace, .selects RX2 yX2_hasPlace yX2_hasPlace, .initialized RX2, .code yX2_hasPlace cX2_hasPlace 2 (some .boolean), .fieldLink RX2 9 "TwinRows$Frame" "cells" "I", .static yX6_bit, .initialized RX6, .code yX6_bit cX6_bit 1 (some .int)] ++ wsX20)
def wsX2_pinnedPlaces : List Cond := .code yX2_pinnedPlaces cX2_pinnedPlaces 4 (some .int) :: ([.fieldLink RX2 21 "TwinRows$Frame" "pins" "[I", .static yX6_bit, .initialized RX6, .code yX6_bit cX6_bit 1 (some .int)] ++ wsX20)
def wsJ6_bitCount_0f7a4 : List Cond := .code yJ6_bitCount_0f7a4 cJ6_bitCount_0f7a4 1 (some .int) :: ([.constant RJ6 265 (1431655765), .constant RJ6 266 (858993459), .constant RJ6 267 (252645135)])
def wsX2_setHole_r1 : List Cond := [Cond.fieldLink RX2 15 "TwinRows$Frame" "holes" "I", Cond.methodLink RX2 37 yX2_hasPlace, Cond.instanceMethod yX2_hasPlace, Cond.selects RX2 yX2_hasPlace yX2_hasPlace, Cond.initialized RX2, Cond.code yX2_hasPlace cX2_hasPlace 2 (some .boolean), Cond.fieldLink RX2 9 "TwinRows$Frame" "cells" "I", Cond.methodLink RX2 60 yX2_hasHole, Cond.instanceMethod yX2_hasHole, Cond.selects RX2 yX2_hasHole yX2_hasHole, Cond.code yX2_hasHole cX2_hasHole 2 (some .boolean), Cond.static yX6_bit, Cond.initialized RX6, Cond.code yX6_bit cX6_bit 1 (some .int), Cond.methodLink RX2 63 yX2_pinnedPlaces, Cond.instanceMethod yX2_pinnedPlaces, Cond.selects RX2 yX2_pinnedPlaces yX2_pinnedPlaces, Cond.code yX2_pinnedPlaces cX2_pinnedPlaces 4 (some .int), Cond.fieldLink RX2 21 "TwinRows$Frame" "pins" "[I", Cond.methodLink RX2 49 yJ6_bitCount_0f7a4, Cond.static yJ6_bitCount_0f7a4, Cond.initialized RJ6, Cond.code yJ6_bitCount_0f7a4 cJ6_bitCount_0f7a4 1 (some .int), Cond.constant RJ6 265 (1431655765)]
def wsX2_setHole_r2 : List Cond := [Cond.constant RJ6 266 (858993459), Cond.constant RJ6 267 (252645135)]
def wsX2_setHole : List Cond := .code yX2_setHole cX2_setHole 3 (some .int) :: ((wsX2_setHole_r1 ++ wsX2_setHole_r2) ++ wsX20)
def wsX2_hasPair : List Cond := .code yX2_hasPair cX2_hasPair 2 (some .boolean) :: ([.fieldLink RX2 18 "TwinRows$Frame" "pairs" "I", .static yX6_bit, .initialized RX6, .code yX6_bit cX6_bit 1 (some .int)] ++ wsX20)
def wsX2_setPair : List Cond := .code yX2_setPair cX2_setPair 3 (some .int) :: ([.fieldLink RX2 18 "TwinRows$Frame" "pairs" "I", .fieldLink RX2 21 "TwinRows$Frame" "pins" "[I", .methodLink RX2 57 yX2_hasPair, .instanceMethod yX2_hasPair, .selects RX2 yX2_hasPair yX2_hasPair, .initialized RX2, .code yX2_hasPair cX2_hasPair 2 (some .boolean), .static yX6_bit, .initialized RX6, .code yX6_bit cX6_bit 1 (some .int), .methodLink RX2 49 yJ6_bitCount_0f7a4, .static yJ6_bitCount_0f7a4, .initialized RJ6, .code yJ6_bitCount_0f7a4 cJ6_bitCount_0f7a4 1 (some .int), .constant RJ6 265 (1431655765), .constant RJ6 266 (858993459), .constant RJ6 267 (252645135)] ++ wsX20)
def wsX2_distanceOf : List Cond := .code yX2_distanceOf cX2_distanceOf 4 (some .int) :: ([.methodLink RX2 57 yX2_hasPair, .instanceMethod yX2_hasPair, .selects RX2 yX2_hasPair yX2_hasPair, .initialized RX2, .code yX2_hasPair cX2_hasPair 2 (some .boolean), .fieldLink RX2 18 "TwinRows$Frame" "pairs" "I", .static yX6_bit, .initialized RX6, .code yX6_bit cX6_bit 1 (some .int)] ++ wsX20)
def wsX2_setPin : List Cond := .code yX2_setPin cX2_setPin 3 (some .int) :: ([.fieldLink RX2 21 "TwinRows$Frame" "pins" "[I", .fieldLink RX2 15 "TwinRows$Frame" "holes" "I", .methodLink RX2 57 yX2_hasPair, .instanceMethod yX2_hasPair, .selects RX2 yX2_hasPair yX2_hasPair, .initialized RX2, .code yX2_hasPair cX2_hasPair 2 (some .boolean), .fieldLink RX2 18 "TwinRows$Frame" "pairs" "I", .static yX6_bit, .initialized RX6, .code yX6_bit cX6_bit 1 (some .int), .methodLink RX2 37 yX2_hasPlace, .instanceMethod yX2_hasPlace, .selects RX2 yX2_hasPlace yX2_hasPlace, .code yX2_hasPlace cX2_hasPlace 2 (some .boolean), .fieldLink RX2 9 "TwinRows$Frame" "cells" "I", .methodLink RX2 63 yX2_pinnedPlaces, .instanceMethod yX2_pinnedPlaces, .selects RX2 yX2_pinnedPlaces yX2_pinnedPlaces, .code yX2_pinnedPlaces cX2_pinnedPlaces 4 (some .int)] ++ wsX20)
def wsX0_doPin_r1 : List Cond := [Cond.methodLink RX0 46 yJ6_bitCount_0f7a4, Cond.static yJ6_bitCount_0f7a4, Cond.initialized RJ6, Cond.code yJ6_bitCount_0f7a4 cJ6_bitCount_0f7a4 1 (some .int), Cond.constant RJ6 265 (1431655765), Cond.constant RJ6 266 (858993459), Cond.constant RJ6 267 (252645135), Cond.methodLink RX0 16 yX0_draw, Cond.instanceMethod yX0_draw, Cond.selects RX0 yX0_draw yX0_draw, Cond.initialized RX0, Cond.code yX0_draw cX0_draw 2 (some .int), Cond.fieldLink RX0 9 "TwinRows$Draws" "seed" "I", Cond.constant RX0 15 (1103515245), Cond.methodLink RX0 51 yX2_distanceOf, Cond.instanceMethod yX2_distanceOf, Cond.selects RX2 yX2_distanceOf yX2_distanceOf, Cond.initialized RX2, Cond.code yX2_distanceOf cX2_distanceOf 4 (some .int), Cond.methodLink RX2 57 yX2_hasPair, Cond.instanceMethod yX2_hasPair, Cond.selects RX2 yX2_hasPair yX2_hasPair, Cond.code yX2_hasPair cX2_hasPair 2 (some .boolean), Cond.fieldLink RX2 18 "TwinRows$Frame" "pairs" "I"]
def wsX0_doPin_r2 : List Cond := [Cond.static yX6_bit, Cond.initialized RX6, Cond.code yX6_bit cX6_bit 1 (some .int), Cond.methodLink RX0 33 yX2_hasPair, Cond.methodLink RX0 58 yX2_setPin, Cond.instanceMethod yX2_setPin, Cond.selects RX2 yX2_setPin yX2_setPin, Cond.code yX2_setPin cX2_setPin 3 (some .int), Cond.fieldLink RX2 21 "TwinRows$Frame" "pins" "[I", Cond.fieldLink RX2 15 "TwinRows$Frame" "holes" "I", Cond.methodLink RX2 37 yX2_hasPlace, Cond.instanceMethod yX2_hasPlace, Cond.selects RX2 yX2_hasPlace yX2_hasPlace, Cond.code yX2_hasPlace cX2_hasPlace 2 (some .boolean), Cond.fieldLink RX2 9 "TwinRows$Frame" "cells" "I", Cond.methodLink RX2 63 yX2_pinnedPlaces, Cond.instanceMethod yX2_pinnedPlaces, Cond.selects RX2 yX2_pinnedPlaces yX2_pinnedPlaces, Cond.code yX2_pinnedPlaces cX2_pinnedPlaces 4 (some .int)]
def wsX0_doPin : List Cond := .code yX0_doPin cX0_doPin 6 (some .boolean) :: ((wsX0_doPin_r1 ++ wsX0_doPin_r2) ++ wsX20 ++ wsX00)
def wsX0_doDeed_r1 : List Cond := [Cond.methodLink RX0 16 yX0_draw, Cond.instanceMethod yX0_draw, Cond.selects RX0 yX0_draw yX0_draw, Cond.initialized RX0, Cond.code yX0_draw cX0_draw 2 (some .int), Cond.fieldLink RX0 9 "TwinRows$Draws" "seed" "I", Cond.constant RX0 15 (1103515245), Cond.methodLink RX0 25 yX2_hasHole, Cond.instanceMethod yX2_hasHole, Cond.selects RX2 yX2_hasHole yX2_hasHole, Cond.initialized RX2, Cond.code yX2_hasHole cX2_hasHole 2 (some .boolean), Cond.fieldLink RX2 15 "TwinRows$Frame" "holes" "I", Cond.methodLink RX2 37 yX2_hasPlace, Cond.instanceMethod yX2_hasPlace, Cond.selects RX2 yX2_hasPlace yX2_hasPlace, Cond.code yX2_hasPlace cX2_hasPlace 2 (some .boolean), Cond.fieldLink RX2 9 "TwinRows$Frame" "cells" "I", Cond.static yX6_bit, Cond.initialized RX6, Cond.code yX6_bit cX6_bit 1 (some .int), Cond.methodLink RX0 29 yX2_setHole, Cond.instanceMethod yX2_setHole, Cond.selects RX2 yX2_setHole yX2_setHole]
def wsX0_doDeed_r2 : List Cond := [Cond.code yX2_setHole cX2_setHole 3 (some .int), Cond.methodLink RX2 60 yX2_hasHole, Cond.methodLink RX2 63 yX2_pinnedPlaces, Cond.instanceMethod yX2_pinnedPlaces, Cond.selects RX2 yX2_pinnedPlaces yX2_pinnedPlaces, Cond.code yX2_pinnedPlaces cX2_pinnedPlaces 4 (some .int), Cond.fieldLink RX2 21 "TwinRows$Frame" "pins" "[I", Cond.methodLink RX2 49 yJ6_bitCount_0f7a4, Cond.static yJ6_bitCount_0f7a4, Cond.initialized RJ6, Cond.code yJ6_bitCount_0f7a4 cJ6_bitCount_0f7a4 1 (some .int), Cond.constant RJ6 265 (1431655765), Cond.constant RJ6 266 (858993459), Cond.constant RJ6 267 (252645135), Cond.methodLink RX0 33 yX2_hasPair, Cond.instanceMethod yX2_hasPair, Cond.selects RX2 yX2_hasPair yX2_hasPair, Cond.code yX2_hasPair cX2_hasPair 2 (some .boolean), Cond.fieldLink RX2 18 "TwinRows$Frame" "pairs" "I", Cond.methodLink RX0 36 yX2_setPair, Cond.instanceMethod yX2_setPair, Cond.selects RX2 yX2_setPair yX2_setPair, Cond.code yX2_setPair cX2_setPair 3 (some .int), Cond.methodLink RX2 57 yX2_hasPair]
def wsX0_doDeed_r3 : List Cond := [Cond.methodLink RX0 39 yX0_doPin, Cond.instanceMethod yX0_doPin, Cond.selects RX0 yX0_doPin yX0_doPin, Cond.code yX0_doPin cX0_doPin 6 (some .boolean), Cond.methodLink RX0 46 yJ6_bitCount_0f7a4, Cond.methodLink RX0 51 yX2_distanceOf, Cond.instanceMethod yX2_distanceOf, Cond.selects RX2 yX2_distanceOf yX2_distanceOf, Cond.code yX2_distanceOf cX2_distanceOf 4 (some .int), Cond.methodLink RX0 58 yX2_setPin, Cond.instanceMethod yX2_setPin, Cond.selects RX2 yX2_setPin yX2_setPin, Cond.code yX2_setPin cX2_setPin 3 (some .int)]
def wsX0_doDeed : List Cond := .code yX0_doDeed cX0_doDeed 4 (some .boolean) :: ((wsX0_doDeed_r1 ++ (wsX0_doDeed_r2 ++ wsX0_doDeed_r3)) ++ wsX20 ++ wsX00)
def wsX1_init : List Cond := .code yX1_init cX1_init 2 none :: ([.methodLink RX1 3 objectInit, .instanceMethod objectInit, .code objectInit ⟨#[0xb1]⟩ 1 none, .arrayClass .long, .fieldLink RX1 9 "TwinRows$Fillings" "weights" "[J", .arrayClass .int, .fieldLink RX1 15 "TwinRows$Fillings" "digits" "[I", .fieldLink RX1 19 "TwinRows$Fillings" "distances" "[I", .classLink RX1 22 "[[I", .fieldLink RX1 24 "TwinRows$Fillings" "firsts" "[[I", .fieldLink RX1 27 "TwinRows$Fillings" "isCounted" "Z", .fieldLink RX1 31 "TwinRows$Fillings" "cells" "I", .fieldLink RX1 35 "TwinRows$Fillings" "count" "I", .methodLink RX1 38 Lib.Math.max.name, .static Lib.Math.max.name, .initialized "java/lang/Math", .code Lib.Math.max.name Lib.Math.max.code 2 (some .int), .fieldLink RX1 44 "TwinRows$Fillings" "numbers" "[J"] ++ wsX10)
def wsJ7_fill_53178 : List Cond := .code yJ7_fill_53178 cJ7_fill_53178 4 none :: ([])
def wsX1_nameDigits : List Cond := .code yX1_nameDigits cX1_nameDigits 4 none :: ([.fieldLink RX1 15 "TwinRows$Fillings" "digits" "[I", .fieldLink RX1 19 "TwinRows$Fillings" "distances" "[I", .methodLink RX1 89 yX2_hasPair, .instanceMethod yX2_hasPair, .selects RX2 yX2_hasPair yX2_hasPair, .initialized RX2, .code yX2_hasPair cX2_hasPair 2 (some .boolean), .fieldLink RX2 18 "TwinRows$Frame" "pairs" "I", .static yX6_bit, .initialized RX6, .code yX6_bit cX6_bit 1 (some .int)] ++ wsX10 ++ wsX20)
def wsX1_weighPlaces : List Cond := .code yX1_weighPlaces cX1_weighPlaces 5 none :: ([.methodLink RX1 94 Lib.Math.min.name, .static Lib.Math.min.name, .initialized "java/lang/Math", .code Lib.Math.min.name Lib.Math.min.code 2 (some .int), .fieldLink RX1 31 "TwinRows$Fillings" "cells" "I", .fieldLink RX1 9 "TwinRows$Fillings" "weights" "[J", .constantLong RX1 97 (10)] ++ wsX20 ++ wsX10)
def wsX2_placesToFill : List Cond := .code yX2_placesToFill cX2_placesToFill 1 (some .int) :: ([.fieldLink RX2 9 "TwinRows$Frame" "cells" "I", .fieldLink RX2 15 "TwinRows$Frame" "holes" "I"] ++ wsX20)
def wsX2_sumOf : List Cond := .code yX2_sumOf cX2_sumOf 3 (some .int) :: ([.static yX6_bit, .initialized RX6, .code yX6_bit cX6_bit 1 (some .int)])
def wsX2_isEven : List Cond := .code yX2_isEven cX2_isEven 2 (some .boolean) :: ([.fieldLink RX2 18 "TwinRows$Frame" "pairs" "I", .methodLink RX2 45 yX2_placesToFill, .instanceMethod yX2_placesToFill, .selects RX2 yX2_placesToFill yX2_placesToFill, .initialized RX2, .code yX2_placesToFill cX2_placesToFill 1 (some .int), .fieldLink RX2 9 "TwinRows$Frame" "cells" "I", .fieldLink RX2 15 "TwinRows$Frame" "holes" "I", .methodLink RX2 49 yJ6_bitCount_0f7a4, .static yJ6_bitCount_0f7a4, .initialized RJ6, .code yJ6_bitCount_0f7a4 cJ6_bitCount_0f7a4 1 (some .int), .constant RJ6 265 (1431655765), .constant RJ6 266 (858993459), .constant RJ6 267 (252645135), .methodLink RX2 54 yX2_sumOf, .static yX2_sumOf, .code yX2_sumOf cX2_sumOf 3 (some .int), .static yX6_bit, .initialized RX6, .code yX6_bit cX6_bit 1 (some .int)] ++ wsX20)
def wsX2_pinnedPairs : List Cond := .code yX2_pinnedPairs cX2_pinnedPairs 3 (some .int) :: ([.fieldLink RX2 21 "TwinRows$Frame" "pins" "[I", .static yX6_bit, .initialized RX6, .code yX6_bit cX6_bit 1 (some .int)] ++ wsX20)
def wsX1_keep : List Cond := .code yX1_keep cX1_keep 1 none :: ([.fieldLink RX1 35 "TwinRows$Fillings" "count" "I", .fieldLink RX1 44 "TwinRows$Fillings" "numbers" "[J"] ++ wsX10)
def wsX1_stand : List Cond := .code yX1_stand cX1_stand 7 none :: ([.fieldLink RX1 31 "TwinRows$Fillings" "cells" "I", .fieldLink RX1 24 "TwinRows$Fillings" "firsts" "[[I", .fieldLink RX1 35 "TwinRows$Fillings" "count" "I", .fieldLink RX1 15 "TwinRows$Fillings" "digits" "[I", .fieldLink RX1 9 "TwinRows$Fillings" "weights" "[J", .fieldLink RX1 44 "TwinRows$Fillings" "numbers" "[J"] ++ wsX10)
def wsX1_fill_r1 : List Cond := [Cond.fieldLink RX1 31 "TwinRows$Fillings" "cells" "I", Cond.fieldLink RX1 35 "TwinRows$Fillings" "count" "I", Cond.static yX6_bit, Cond.initialized RX6, Cond.code yX6_bit cX6_bit 1 (some .int), Cond.methodLink RX1 102 yX1_keep, Cond.instanceMethod yX1_keep, Cond.selects RX1 yX1_keep yX1_keep, Cond.initialized RX1, Cond.code yX1_keep cX1_keep 1 none, Cond.fieldLink RX1 44 "TwinRows$Fillings" "numbers" "[J", Cond.methodLink RX1 80 yX1_fill, Cond.instanceMethod yX1_fill, Cond.selects RX1 yX1_fill yX1_fill, Cond.methodLink RX1 105 yJ6_bitCount_0f7a4, Cond.static yJ6_bitCount_0f7a4, Cond.initialized RJ6, Cond.code yJ6_bitCount_0f7a4 cJ6_bitCount_0f7a4 1 (some .int), Cond.constant RJ6 265 (1431655765), Cond.constant RJ6 266 (858993459), Cond.constant RJ6 267 (252645135), Cond.methodLink RX1 86 yX1_stand, Cond.instanceMethod yX1_stand, Cond.selects RX1 yX1_stand yX1_stand]
def wsX1_fill_r2 : List Cond := [Cond.code yX1_stand cX1_stand 7 none, Cond.fieldLink RX1 24 "TwinRows$Fillings" "firsts" "[[I", Cond.fieldLink RX1 15 "TwinRows$Fillings" "digits" "[I", Cond.fieldLink RX1 9 "TwinRows$Fillings" "weights" "[J"]
def wsX1_fill : List Cond := .code yX1_fill cX1_fill 10 none :: ((wsX1_fill_r1 ++ wsX1_fill_r2) ++ wsX10)
def wsX1_countAll_r1 : List Cond := [Cond.fieldLink RX1 27 "TwinRows$Fillings" "isCounted" "Z", Cond.fieldLink RX1 35 "TwinRows$Fillings" "count" "I", Cond.fieldLink RX1 24 "TwinRows$Fillings" "firsts" "[[I", Cond.methodLink RX1 47 yJ7_fill_53178, Cond.static yJ7_fill_53178, Cond.initialized RJ7, Cond.code yJ7_fill_53178 cJ7_fill_53178 4 none, Cond.methodLink RX1 53 yX1_nameDigits, Cond.instanceMethod yX1_nameDigits, Cond.selects RX1 yX1_nameDigits yX1_nameDigits, Cond.initialized RX1, Cond.code yX1_nameDigits cX1_nameDigits 4 none, Cond.fieldLink RX1 15 "TwinRows$Fillings" "digits" "[I", Cond.fieldLink RX1 19 "TwinRows$Fillings" "distances" "[I", Cond.methodLink RX1 89 yX2_hasPair, Cond.instanceMethod yX2_hasPair, Cond.selects RX2 yX2_hasPair yX2_hasPair, Cond.initialized RX2, Cond.code yX2_hasPair cX2_hasPair 2 (some .boolean), Cond.fieldLink RX2 18 "TwinRows$Frame" "pairs" "I", Cond.static yX6_bit, Cond.initialized RX6, Cond.code yX6_bit cX6_bit 1 (some .int), Cond.methodLink RX1 57 yX1_weighPlaces]
def wsX1_countAll_r2 : List Cond := [Cond.instanceMethod yX1_weighPlaces, Cond.selects RX1 yX1_weighPlaces yX1_weighPlaces, Cond.code yX1_weighPlaces cX1_weighPlaces 5 none, Cond.methodLink RX1 94 Lib.Math.min.name, Cond.static Lib.Math.min.name, Cond.initialized "java/lang/Math", Cond.code Lib.Math.min.name Lib.Math.min.code 2 (some .int), Cond.fieldLink RX1 31 "TwinRows$Fillings" "cells" "I", Cond.fieldLink RX1 9 "TwinRows$Fillings" "weights" "[J", Cond.constantLong RX1 97 (10), Cond.methodLink RX1 60 yX2_isEven, Cond.instanceMethod yX2_isEven, Cond.selects RX2 yX2_isEven yX2_isEven, Cond.code yX2_isEven cX2_isEven 2 (some .boolean), Cond.methodLink RX2 45 yX2_placesToFill, Cond.instanceMethod yX2_placesToFill, Cond.selects RX2 yX2_placesToFill yX2_placesToFill, Cond.code yX2_placesToFill cX2_placesToFill 1 (some .int), Cond.fieldLink RX2 9 "TwinRows$Frame" "cells" "I", Cond.fieldLink RX2 15 "TwinRows$Frame" "holes" "I", Cond.methodLink RX2 49 yJ6_bitCount_0f7a4, Cond.static yJ6_bitCount_0f7a4, Cond.initialized RJ6, Cond.code yJ6_bitCount_0f7a4 cJ6_bitCount_0f7a4 1 (some .int)]
def wsX1_countAll_r3 : List Cond := [Cond.constant RJ6 265 (1431655765), Cond.constant RJ6 266 (858993459), Cond.constant RJ6 267 (252645135), Cond.methodLink RX2 54 yX2_sumOf, Cond.static yX2_sumOf, Cond.code yX2_sumOf cX2_sumOf 3 (some .int), Cond.methodLink RX1 66 yX2_placesToFill, Cond.methodLink RX1 70 yX2_pinnedPlaces, Cond.instanceMethod yX2_pinnedPlaces, Cond.selects RX2 yX2_pinnedPlaces yX2_pinnedPlaces, Cond.code yX2_pinnedPlaces cX2_pinnedPlaces 4 (some .int), Cond.fieldLink RX2 21 "TwinRows$Frame" "pins" "[I", Cond.methodLink RX1 77 yX2_pinnedPairs, Cond.instanceMethod yX2_pinnedPairs, Cond.selects RX2 yX2_pinnedPairs yX2_pinnedPairs, Cond.code yX2_pinnedPairs cX2_pinnedPairs 3 (some .int), Cond.methodLink RX1 80 yX1_fill, Cond.instanceMethod yX1_fill, Cond.selects RX1 yX1_fill yX1_fill, Cond.code yX1_fill cX1_fill 10 none, Cond.methodLink RX1 102 yX1_keep, Cond.instanceMethod yX1_keep, Cond.selects RX1 yX1_keep yX1_keep, Cond.code yX1_keep cX1_keep 1 none]
def wsX1_countAll_r4 : List Cond := [Cond.fieldLink RX1 44 "TwinRows$Fillings" "numbers" "[J", Cond.methodLink RX1 105 yJ6_bitCount_0f7a4, Cond.methodLink RX1 86 yX1_stand, Cond.instanceMethod yX1_stand, Cond.selects RX1 yX1_stand yX1_stand, Cond.code yX1_stand cX1_stand 7 none]
def wsX1_countAll : List Cond := .code yX1_countAll cX1_countAll 3 none :: ((wsX1_countAll_r1 ++ (wsX1_countAll_r2 ++ (wsX1_countAll_r3 ++ wsX1_countAll_r4))) ++ wsX10 ++ wsX20)
def wsX1_hasRank : List Cond := .code yX1_hasRank cX1_hasRank 2 (some .boolean) :: ([.fieldLink RX1 35 "TwinRows$Fillings" "count" "I", .fieldLink RX1 44 "TwinRows$Fillings" "numbers" "[J"] ++ wsX10)
def wsX1_tell : List Cond := .code yX1_tell cX1_tell 7 none :: ([.fieldLink RX1 31 "TwinRows$Fillings" "cells" "I", .fieldLink RX1 44 "TwinRows$Fillings" "numbers" "[J", .constantLong RX1 97 (10), .fieldLink RX1 19 "TwinRows$Fillings" "distances" "[I", .methodLink RX1 110 yX1_hasRank, .instanceMethod yX1_hasRank, .selects RX1 yX1_hasRank yX1_hasRank, .initialized RX1, .code yX1_hasRank cX1_hasRank 2 (some .boolean), .fieldLink RX1 35 "TwinRows$Fillings" "count" "I"] ++ wsX10)
def wsX1_rankOfNumber : List Cond := .code yX1_rankOfNumber cX1_rankOfNumber 6 (some .int) :: ([.fieldLink RX1 35 "TwinRows$Fillings" "count" "I", .fieldLink RX1 44 "TwinRows$Fillings" "numbers" "[J", .methodLink RX1 94 Lib.Math.min.name, .static Lib.Math.min.name, .initialized "java/lang/Math", .code Lib.Math.min.name Lib.Math.min.code 2 (some .int)] ++ wsX10)
def wsX1_rankOf : List Cond := .code yX1_rankOf cX1_rankOf 6 (some .int) :: ([.fieldLink RX1 31 "TwinRows$Fillings" "cells" "I", .fieldLink RX1 15 "TwinRows$Fillings" "digits" "[I", .constantLong RX1 97 (10), .methodLink RX1 113 yX1_rankOfNumber, .instanceMethod yX1_rankOfNumber, .selects RX1 yX1_rankOfNumber yX1_rankOfNumber, .initialized RX1, .code yX1_rankOfNumber cX1_rankOfNumber 6 (some .int), .fieldLink RX1 35 "TwinRows$Fillings" "count" "I", .fieldLink RX1 44 "TwinRows$Fillings" "numbers" "[J", .methodLink RX1 94 Lib.Math.min.name, .static Lib.Math.min.name, .initialized "java/lang/Math", .code Lib.Math.min.name Lib.Math.min.code 2 (some .int)] ++ wsX10)
def wsX1_placesOf : List Cond := .code yX1_placesOf cX1_placesOf 4 (some .int) :: ([.fieldLink RX1 31 "TwinRows$Fillings" "cells" "I", .fieldLink RX1 24 "TwinRows$Fillings" "firsts" "[[I", .static yX6_bit, .initialized RX6, .code yX6_bit cX6_bit 1 (some .int)] ++ wsX10)
def wsX1_isSure : List Cond := .code yX1_isSure cX1_isSure 2 (some .boolean) :: ([.methodLink RX1 117 yX1_placesOf, .instanceMethod yX1_placesOf, .selects RX1 yX1_placesOf yX1_placesOf, .initialized RX1, .code yX1_placesOf cX1_placesOf 4 (some .int), .fieldLink RX1 31 "TwinRows$Fillings" "cells" "I", .fieldLink RX1 24 "TwinRows$Fillings" "firsts" "[[I", .static yX6_bit, .initialized RX6, .code yX6_bit cX6_bit 1 (some .int), .methodLink RX1 105 yJ6_bitCount_0f7a4, .static yJ6_bitCount_0f7a4, .initialized RJ6, .code yJ6_bitCount_0f7a4 cJ6_bitCount_0f7a4 1 (some .int), .constant RJ6 265 (1431655765), .constant RJ6 266 (858993459), .constant RJ6 267 (252645135)] ++ wsX10)
def wsX2_init : List Cond := .code yX2_init cX2_init 1 none :: ([.methodLink RX2 3 objectInit, .instanceMethod objectInit, .code objectInit ⟨#[0xb1]⟩ 1 none, .fieldLink RX2 9 "TwinRows$Frame" "cells" "I", .fieldLink RX2 15 "TwinRows$Frame" "holes" "I", .fieldLink RX2 18 "TwinRows$Frame" "pairs" "I", .arrayClass .int, .fieldLink RX2 21 "TwinRows$Frame" "pins" "[I"] ++ wsX20)
def wsX2_begin : List Cond := .code yX2_begin cX2_begin 4 none :: ([.fieldLink RX2 9 "TwinRows$Frame" "cells" "I", .fieldLink RX2 15 "TwinRows$Frame" "holes" "I", .fieldLink RX2 18 "TwinRows$Frame" "pairs" "I", .fieldLink RX2 21 "TwinRows$Frame" "pins" "[I", .methodLink RX2 25 yJ7_fill_53178, .static yJ7_fill_53178, .initialized RJ7, .code yJ7_fill_53178 cJ7_fill_53178 4 none] ++ wsX20)
def wsX2_copy : List Cond := .code yX2_copy cX2_copy 2 none :: ([.fieldLink RX2 9 "TwinRows$Frame" "cells" "I", .fieldLink RX2 15 "TwinRows$Frame" "holes" "I", .fieldLink RX2 18 "TwinRows$Frame" "pairs" "I", .fieldLink RX2 21 "TwinRows$Frame" "pins" "[I", .methodLink RX2 31 arraycopyName, .native arraycopyName, .static arraycopyName, .initialized "java/lang/System"] ++ wsX20)
def wsX3_init : List Cond := .code yX3_init cX3_init 1 none :: ([.methodLink RX3 3 objectInit, .instanceMethod objectInit, .code objectInit ⟨#[0xb1]⟩ 1 none, .classLink RX3 9 RX2, .fieldLink RX3 11 "TwinRows$History" "ring" "[LTwinRows$Frame;", .fieldLink RX3 17 "TwinRows$History" "latest" "I", .fieldLink RX3 21 "TwinRows$History" "size" "I"] ++ wsX30)
def wsX3_keep_r1 : List Cond := [Cond.fieldLink RX3 17 "TwinRows$History" "latest" "I", Cond.fieldLink RX3 11 "TwinRows$History" "ring" "[LTwinRows$Frame;", Cond.classLink RX3 9 RX2, Cond.instantiable RX2 4, Cond.initialized RX2, Cond.fieldLink RX3 21 "TwinRows$History" "size" "I", Cond.methodLink RX3 29 Lib.Math.min.name, Cond.static Lib.Math.min.name, Cond.initialized "java/lang/Math", Cond.code Lib.Math.min.name Lib.Math.min.code 2 (some .int), Cond.instanceMethod yX2_init, Cond.code yX2_init cX2_init 1 none, Cond.methodLink RX2 3 objectInit, Cond.instanceMethod objectInit, Cond.code objectInit ⟨#[0xb1]⟩ 1 none, Cond.fieldLink RX2 9 "TwinRows$Frame" "cells" "I", Cond.fieldLink RX2 15 "TwinRows$Frame" "holes" "I", Cond.fieldLink RX2 18 "TwinRows$Frame" "pairs" "I", Cond.arrayClass .int, Cond.fieldLink RX2 21 "TwinRows$Frame" "pins" "[I", Cond.methodLink RX3 25 yX2_copy, Cond.instanceMethod yX2_copy, Cond.selects RX2 yX2_copy yX2_copy, Cond.code yX2_copy cX2_copy 2 none]
def wsX3_keep_r2 : List Cond := [Cond.methodLink RX2 31 arraycopyName, Cond.native arraycopyName, Cond.static arraycopyName, Cond.initialized "java/lang/System"]
def wsX3_keep : List Cond := .code yX3_keep cX3_keep 2 none :: ((wsX3_keep_r1 ++ wsX3_keep_r2) ++ wsX30 ++ wsX20)
def wsX3_takeLatest : List Cond := .code yX3_takeLatest cX3_takeLatest 2 none :: ([.fieldLink RX3 21 "TwinRows$History" "size" "I", .fieldLink RX3 11 "TwinRows$History" "ring" "[LTwinRows$Frame;", .fieldLink RX3 17 "TwinRows$History" "latest" "I", .methodLink RX3 25 yX2_copy, .instanceMethod yX2_copy, .selects RX2 yX2_copy yX2_copy, .initialized RX2, .code yX2_copy cX2_copy 2 none, .fieldLink RX2 9 "TwinRows$Frame" "cells" "I", .fieldLink RX2 15 "TwinRows$Frame" "holes" "I", .fieldLink RX2 18 "TwinRows$Frame" "pairs" "I", .fieldLink RX2 21 "TwinRows$Frame" "pins" "[I", .methodLink RX2 31 arraycopyName, .native arraycopyName, .static arraycopyName, .initialized "java/lang/System"] ++ wsX30 ++ wsX20)
def wsX4_init : List Cond := .code yX4_init cX4_init 1 none :: ([.methodLink RX4 3 objectInit, .instanceMethod objectInit, .code objectInit ⟨#[0xb1]⟩ 1 none, .arrayClass .int, .fieldLink RX4 9 "TwinRows$Look" "numbers" "[I", .fieldLink RX4 15 "TwinRows$Look" "firsts" "[I", .fieldLink RX4 18 "TwinRows$Look" "places" "I"] ++ wsX40)
def wsX4_clear : List Cond := .code yX4_clear cX4_clear 2 none :: ([.fieldLink RX4 9 "TwinRows$Look" "numbers" "[I", .fieldLink RX4 15 "TwinRows$Look" "firsts" "[I", .methodLink RX4 28 Lib.Math.min.name, .static Lib.Math.min.name, .initialized "java/lang/Math", .code Lib.Math.min.name Lib.Math.min.code 2 (some .int), .fieldLink RX4 18 "TwinRows$Look" "places" "I", .methodLink RX4 22 yJ7_fill_53178, .static yJ7_fill_53178, .initialized RJ7, .code yJ7_fill_53178 cJ7_fill_53178 4 none] ++ wsX40)
def wsX4_take : List Cond := .code yX4_take cX4_take 5 none :: ([.methodLink RX4 28 Lib.Math.min.name, .static Lib.Math.min.name, .initialized "java/lang/Math", .code Lib.Math.min.name Lib.Math.min.code 2 (some .int), .fieldLink RX4 18 "TwinRows$Look" "places" "I", .fieldLink RX4 9 "TwinRows$Look" "numbers" "[I", .fieldLink RX4 15 "TwinRows$Look" "firsts" "[I", .methodLink RX4 34 yX4_clear, .instanceMethod yX4_clear, .selects RX4 yX4_clear yX4_clear, .initialized RX4, .code yX4_clear cX4_clear 2 none, .methodLink RX4 22 yJ7_fill_53178, .static yJ7_fill_53178, .initialized RJ7, .code yJ7_fill_53178 cJ7_fill_53178 4 none] ++ wsX40)
def wsX4_numberAt : List Cond := .code yX4_numberAt cX4_numberAt 2 (some .int) :: ([.fieldLink RX4 18 "TwinRows$Look" "places" "I", .fieldLink RX4 9 "TwinRows$Look" "numbers" "[I"] ++ wsX40)
def wsX4_firstOf : List Cond := .code yX4_firstOf cX4_firstOf 2 (some .int) :: ([.fieldLink RX4 15 "TwinRows$Look" "firsts" "[I"] ++ wsX40)
def wsX4_twin : List Cond := .code yX4_twin cX4_twin 4 none :: ([.fieldLink RX4 18 "TwinRows$Look" "places" "I", .fieldLink RX4 9 "TwinRows$Look" "numbers" "[I", .fieldLink RX4 15 "TwinRows$Look" "firsts" "[I"] ++ wsX40)
def wsX4_nest : List Cond := .code yX4_nest cX4_nest 6 none :: ([.methodLink RX4 51 yX4_twin, .instanceMethod yX4_twin, .selects RX4 yX4_twin yX4_twin, .initialized RX4, .code yX4_twin cX4_twin 4 none, .fieldLink RX4 18 "TwinRows$Look" "places" "I", .fieldLink RX4 9 "TwinRows$Look" "numbers" "[I", .fieldLink RX4 15 "TwinRows$Look" "firsts" "[I"] ++ wsX40)
def wsX4_makeLeaving0 : List Cond := .code yX4_makeLeaving0 cX4_makeLeaving0 2 none :: ([.methodLink RX4 47 yX4_nest, .instanceMethod yX4_nest, .selects RX4 yX4_nest yX4_nest, .initialized RX4, .code yX4_nest cX4_nest 6 none, .methodLink RX4 51 yX4_twin, .instanceMethod yX4_twin, .selects RX4 yX4_twin yX4_twin, .code yX4_twin cX4_twin 4 none, .fieldLink RX4 18 "TwinRows$Look" "places" "I", .fieldLink RX4 9 "TwinRows$Look" "numbers" "[I", .fieldLink RX4 15 "TwinRows$Look" "firsts" "[I"] ++ wsX40)
def wsX4_makeLeaving1 : List Cond := .code yX4_makeLeaving1 cX4_makeLeaving1 2 none :: ([.methodLink RX4 47 yX4_nest, .instanceMethod yX4_nest, .selects RX4 yX4_nest yX4_nest, .initialized RX4, .code yX4_nest cX4_nest 6 none, .methodLink RX4 51 yX4_twin, .instanceMethod yX4_twin, .selects RX4 yX4_twin yX4_twin, .code yX4_twin cX4_twin 4 none, .fieldLink RX4 18 "TwinRows$Look" "places" "I", .fieldLink RX4 9 "TwinRows$Look" "numbers" "[I", .fieldLink RX4 15 "TwinRows$Look" "firsts" "[I"] ++ wsX40)
def wsX4_makeLeaving2 : List Cond := .code yX4_makeLeaving2 cX4_makeLeaving2 2 none :: ([.methodLink RX4 47 yX4_nest, .instanceMethod yX4_nest, .selects RX4 yX4_nest yX4_nest, .initialized RX4, .code yX4_nest cX4_nest 6 none, .methodLink RX4 51 yX4_twin, .instanceMethod yX4_twin, .selects RX4 yX4_twin yX4_twin, .code yX4_twin cX4_twin 4 none, .fieldLink RX4 18 "TwinRows$Look" "places" "I", .fieldLink RX4 9 "TwinRows$Look" "numbers" "[I", .fieldLink RX4 15 "TwinRows$Look" "firsts" "[I"] ++ wsX40)
def wsX4_make_r1 : List Cond := [Cond.methodLink RX4 34 yX4_clear, Cond.instanceMethod yX4_clear, Cond.selects RX4 yX4_clear yX4_clear, Cond.initialized RX4, Cond.code yX4_clear cX4_clear 2 none, Cond.fieldLink RX4 9 "TwinRows$Look" "numbers" "[I", Cond.fieldLink RX4 15 "TwinRows$Look" "firsts" "[I", Cond.methodLink RX4 28 Lib.Math.min.name, Cond.static Lib.Math.min.name, Cond.initialized "java/lang/Math", Cond.code Lib.Math.min.name Lib.Math.min.code 2 (some .int), Cond.fieldLink RX4 18 "TwinRows$Look" "places" "I", Cond.methodLink RX4 22 yJ7_fill_53178, Cond.static yJ7_fill_53178, Cond.initialized RJ7, Cond.code yJ7_fill_53178 cJ7_fill_53178 4 none, Cond.methodLink RX4 38 yX4_makeLeaving0, Cond.instanceMethod yX4_makeLeaving0, Cond.selects RX4 yX4_makeLeaving0 yX4_makeLeaving0, Cond.code yX4_makeLeaving0 cX4_makeLeaving0 2 none, Cond.methodLink RX4 47 yX4_nest, Cond.instanceMethod yX4_nest, Cond.selects RX4 yX4_nest yX4_nest, Cond.code yX4_nest cX4_nest 6 none]
def wsX4_make_r2 : List Cond := [Cond.methodLink RX4 51 yX4_twin, Cond.instanceMethod yX4_twin, Cond.selects RX4 yX4_twin yX4_twin, Cond.code yX4_twin cX4_twin 4 none, Cond.methodLink RX4 41 yX4_makeLeaving1, Cond.instanceMethod yX4_makeLeaving1, Cond.selects RX4 yX4_makeLeaving1 yX4_makeLeaving1, Cond.code yX4_makeLeaving1 cX4_makeLeaving1 2 none, Cond.methodLink RX4 44 yX4_makeLeaving2, Cond.instanceMethod yX4_makeLeaving2, Cond.selects RX4 yX4_makeLeaving2 yX4_makeLeaving2, Cond.code yX4_makeLeaving2 cX4_makeLeaving2 2 none]
def wsX4_make : List Cond := .code yX4_make cX4_make 3 none :: ((wsX4_make_r1 ++ wsX4_make_r2) ++ wsX40)
def wsX4_ringOrder : List Cond := .code yX4_ringOrder cX4_ringOrder 6 (some .int) :: ([.fieldLink RX4 18 "TwinRows$Look" "places" "I", .fieldLink RX4 9 "TwinRows$Look" "numbers" "[I", .methodLink RX4 63 Lib.Math.max.name, .static Lib.Math.max.name, .initialized "java/lang/Math", .code Lib.Math.max.name Lib.Math.max.code 2 (some .int)] ++ wsX40)
def wsJ9_floorMod_7cf53 : List Cond := .code yJ9_floorMod_7cf53 cJ9_floorMod_7cf53 3 (some .int) :: ([])
def wsX4_thirdAlong : List Cond := .code yX4_thirdAlong cX4_thirdAlong 8 (some .int) :: ([.fieldLink RX4 15 "TwinRows$Look" "firsts" "[I", .methodLink RX4 66 yJ9_floorMod_7cf53, .static yJ9_floorMod_7cf53, .initialized RJ9, .code yJ9_floorMod_7cf53 cJ9_floorMod_7cf53 3 (some .int)] ++ wsX40)
def wsX4_thirdOf : List Cond := .code yX4_thirdOf cX4_thirdOf 5 (some .int) :: ([.methodLink RX4 55 yX4_ringOrder, .instanceMethod yX4_ringOrder, .selects RX4 yX4_ringOrder yX4_ringOrder, .initialized RX4, .code yX4_ringOrder cX4_ringOrder 6 (some .int), .fieldLink RX4 18 "TwinRows$Look" "places" "I", .fieldLink RX4 9 "TwinRows$Look" "numbers" "[I", .methodLink RX4 63 Lib.Math.max.name, .static Lib.Math.max.name, .initialized "java/lang/Math", .code Lib.Math.max.name Lib.Math.max.code 2 (some .int), .methodLink RX4 59 yX4_thirdAlong, .instanceMethod yX4_thirdAlong, .selects RX4 yX4_thirdAlong yX4_thirdAlong, .code yX4_thirdAlong cX4_thirdAlong 8 (some .int), .fieldLink RX4 15 "TwinRows$Look" "firsts" "[I", .methodLink RX4 66 yJ9_floorMod_7cf53, .static yJ9_floorMod_7cf53, .initialized RJ9, .code yJ9_floorMod_7cf53 cJ9_floorMod_7cf53 3 (some .int)] ++ wsX40)
def wsX5_init : List Cond := .code yX5_init cX5_init 1 none :: ([.methodLink RX5 3 objectInit, .instanceMethod objectInit, .code objectInit ⟨#[0xb1]⟩ 1 none, .classLink RX5 9 RX2, .instantiable RX2 4, .initialized RX2, .fieldLink RX5 12 "TwinRows$Reader" "draft" "LTwinRows$Frame;", .arrayClass .byte, .fieldLink RX5 18 "TwinRows$Reader" "text" "[B", .fieldLink RX5 22 "TwinRows$Reader" "length" "I", .fieldLink RX5 26 "TwinRows$Reader" "token" "I", .fieldLink RX5 29 "TwinRows$Reader" "begin" "I", .fieldLink RX5 32 "TwinRows$Reader" "next" "I", .fieldLink RX5 35 "TwinRows$Reader" "value" "I", .fieldLink RX5 38 "TwinRows$Reader" "distance" "I", .fieldLink RX5 41 "TwinRows$Reader" "fault" "I", .instanceMethod yX2_init, .code yX2_init cX2_init 1 none, .methodLink RX2 3 objectInit, .fieldLink RX2 9 "TwinRows$Frame" "cells" "I", .fieldLink RX2 15 "TwinRows$Frame" "holes" "I", .fieldLink RX2 18 "TwinRows$Frame" "pairs" "I", .arrayClass .int, .fieldLink RX2 21 "TwinRows$Frame" "pins" "[I"] ++ wsX20 ++ wsX50)
def wsX5_advanceRun : List Cond := .code yX5_advanceRun cX5_advanceRun 4 none :: ([.fieldLink RX5 35 "TwinRows$Reader" "value" "I", .fieldLink RX5 32 "TwinRows$Reader" "next" "I", .fieldLink RX5 22 "TwinRows$Reader" "length" "I", .fieldLink RX5 18 "TwinRows$Reader" "text" "[B", .fieldLink RX5 26 "TwinRows$Reader" "token" "I"] ++ wsX50)
def wsX5_advance : List Cond := .code yX5_advance cX5_advance 1 none :: ([.fieldLink RX5 32 "TwinRows$Reader" "next" "I", .fieldLink RX5 22 "TwinRows$Reader" "length" "I", .fieldLink RX5 18 "TwinRows$Reader" "text" "[B", .fieldLink RX5 29 "TwinRows$Reader" "begin" "I", .fieldLink RX5 26 "TwinRows$Reader" "token" "I", .methodLink RX5 131 yX5_advanceRun, .instanceMethod yX5_advanceRun, .selects RX5 yX5_advanceRun yX5_advanceRun, .initialized RX5, .code yX5_advanceRun cX5_advanceRun 4 none, .fieldLink RX5 35 "TwinRows$Reader" "value" "I"] ++ wsX50)
def wsJ0_coder_7d493 : List Cond := .code yJ0_coder_7d493 cJ0_coder_7d493 1 (some .byte) :: ([.fieldLink RJ0 38 "java/lang/String" "COMPACT_STRINGS" "Z", .fieldLink RJ0 15 "java/lang/String" "coder" "B"])
def wsJ0_length_8abf5 : List Cond := .code yJ0_length_8abf5 cJ0_length_8abf5 1 (some .int) :: ([.fieldLink RJ0 9 "java/lang/String" "value" "[B", .methodLink RJ0 335 yJ0_coder_7d493, .instanceMethod yJ0_coder_7d493, .selects RJ0 yJ0_coder_7d493 yJ0_coder_7d493, .initialized RJ0, .code yJ0_coder_7d493 cJ0_coder_7d493 1 (some .byte), .fieldLink RJ0 38 "java/lang/String" "COMPACT_STRINGS" "Z", .fieldLink RJ0 15 "java/lang/String" "coder" "B"])
def wsJ0_isLatin1_aae02 : List Cond := .code yJ0_isLatin1_aae02 cJ0_isLatin1_aae02 1 (some .boolean) :: ([.fieldLink RJ0 38 "java/lang/String" "COMPACT_STRINGS" "Z", .fieldLink RJ0 15 "java/lang/String" "coder" "B"])
def wsJ3_checkIndex_8e157 : List Cond := .code yJ3_checkIndex_8e157 cJ3_checkIndex_8e157 3 (some .int) :: ([])
def wsJ0_checkIndex_df160 : List Cond := .code yJ0_checkIndex_df160 cJ0_checkIndex_df160 2 none :: ([.fieldLink RJ0 1053 "jdk/internal/util/Preconditions" "SIOOBE_FORMATTER" "Ljava/util/function/BiFunction;", .methodLink RJ0 1059 yJ3_checkIndex_8e157, .static yJ3_checkIndex_8e157, .initialized RJ3, .code yJ3_checkIndex_8e157 cJ3_checkIndex_8e157 3 (some .int)])
def wsJ1_charAt_3b067 : List Cond := .code yJ1_charAt_3b067 cJ1_charAt_3b067 2 (some .char) :: ([.methodLink RJ1 9 yJ0_checkIndex_df160, .static yJ0_checkIndex_df160, .initialized RJ0, .code yJ0_checkIndex_df160 cJ0_checkIndex_df160 2 none, .fieldLink RJ0 1053 "jdk/internal/util/Preconditions" "SIOOBE_FORMATTER" "Ljava/util/function/BiFunction;", .methodLink RJ0 1059 yJ3_checkIndex_8e157, .static yJ3_checkIndex_8e157, .initialized RJ3, .code yJ3_checkIndex_8e157 cJ3_checkIndex_8e157 3 (some .int)])
def wsJ2_length_9d52b : List Cond := .code yJ2_length_9d52b cJ2_length_9d52b 1 (some .int) :: ([])
def wsJ2_checkIndex_2214a : List Cond := .code yJ2_checkIndex_2214a cJ2_checkIndex_2214a 2 none :: ([.methodLink RJ2 48 yJ2_length_9d52b, .static yJ2_length_9d52b, .initialized RJ2, .code yJ2_length_9d52b cJ2_length_9d52b 1 (some .int), .methodLink RJ2 414 yJ0_checkIndex_df160, .static yJ0_checkIndex_df160, .initialized RJ0, .code yJ0_checkIndex_df160 cJ0_checkIndex_df160 2 none, .fieldLink RJ0 1053 "jdk/internal/util/Preconditions" "SIOOBE_FORMATTER" "Ljava/util/function/BiFunction;", .methodLink RJ0 1059 yJ3_checkIndex_8e157, .static yJ3_checkIndex_8e157, .initialized RJ3, .code yJ3_checkIndex_8e157 cJ3_checkIndex_8e157 3 (some .int)])
def wsJ2_getChar_3b067 : List Cond := .code yJ2_getChar_3b067 cJ2_getChar_3b067 2 (some .char) :: ([.fieldLink RJ2 44 "java/lang/StringUTF16" "$assertionsDisabled" "Z", .fieldLink RJ2 59 "java/lang/StringUTF16" "HI_BYTE_SHIFT" "I", .fieldLink RJ2 63 "java/lang/StringUTF16" "LO_BYTE_SHIFT" "I", .methodLink RJ2 48 yJ2_length_9d52b, .static yJ2_length_9d52b, .initialized RJ2, .code yJ2_length_9d52b cJ2_length_9d52b 1 (some .int)])
def wsJ2_charAt_3b067 : List Cond := .code yJ2_charAt_3b067 cJ2_charAt_3b067 2 (some .char) :: ([.methodLink RJ2 67 yJ2_checkIndex_2214a, .static yJ2_checkIndex_2214a, .initialized RJ2, .code yJ2_checkIndex_2214a cJ2_checkIndex_2214a 2 none, .methodLink RJ2 48 yJ2_length_9d52b, .static yJ2_length_9d52b, .code yJ2_length_9d52b cJ2_length_9d52b 1 (some .int), .methodLink RJ2 414 yJ0_checkIndex_df160, .static yJ0_checkIndex_df160, .initialized RJ0, .code yJ0_checkIndex_df160 cJ0_checkIndex_df160 2 none, .fieldLink RJ0 1053 "jdk/internal/util/Preconditions" "SIOOBE_FORMATTER" "Ljava/util/function/BiFunction;", .methodLink RJ0 1059 yJ3_checkIndex_8e157, .static yJ3_checkIndex_8e157, .initialized RJ3, .code yJ3_checkIndex_8e157 cJ3_checkIndex_8e157 3 (some .int), .methodLink RJ2 71 yJ2_getChar_3b067, .static yJ2_getChar_3b067, .code yJ2_getChar_3b067 cJ2_getChar_3b067 2 (some .char), .fieldLink RJ2 44 "java/lang/StringUTF16" "$assertionsDisabled" "Z", .fieldLink RJ2 59 "java/lang/StringUTF16" "HI_BYTE_SHIFT" "I", .fieldLink RJ2 63 "java/lang/StringUTF16" "LO_BYTE_SHIFT" "I"])
def wsJ0_charAt_5068e_r1 : List Cond := [Cond.fieldLink RJ0 9 "java/lang/String" "value" "[B", Cond.methodLink RJ0 492 yJ0_isLatin1_aae02, Cond.instanceMethod yJ0_isLatin1_aae02, Cond.selects RJ0 yJ0_isLatin1_aae02 yJ0_isLatin1_aae02, Cond.initialized RJ0, Cond.code yJ0_isLatin1_aae02 cJ0_isLatin1_aae02 1 (some .boolean), Cond.fieldLink RJ0 38 "java/lang/String" "COMPACT_STRINGS" "Z", Cond.fieldLink RJ0 15 "java/lang/String" "coder" "B", Cond.methodLink RJ0 495 yJ1_charAt_3b067, Cond.static yJ1_charAt_3b067, Cond.initialized RJ1, Cond.code yJ1_charAt_3b067 cJ1_charAt_3b067 2 (some .char), Cond.methodLink RJ1 9 yJ0_checkIndex_df160, Cond.static yJ0_checkIndex_df160, Cond.code yJ0_checkIndex_df160 cJ0_checkIndex_df160 2 none, Cond.fieldLink RJ0 1053 "jdk/internal/util/Preconditions" "SIOOBE_FORMATTER" "Ljava/util/function/BiFunction;", Cond.methodLink RJ0 1059 yJ3_checkIndex_8e157, Cond.static yJ3_checkIndex_8e157, Cond.initialized RJ3, Cond.code yJ3_checkIndex_8e157 cJ3_checkIndex_8e157 3 (some .int), Cond.methodLink RJ0 498 yJ2_charAt_3b067, Cond.static yJ2_charAt_3b067, Cond.initialized RJ2, Cond.code yJ2_charAt_3b067 cJ2_charAt_3b067 2 (some .char)]
def wsJ0_charAt_5068e_r2 : List Cond := [Cond.methodLink RJ2 67 yJ2_checkIndex_2214a, Cond.static yJ2_checkIndex_2214a, Cond.code yJ2_checkIndex_2214a cJ2_checkIndex_2214a 2 none, Cond.methodLink RJ2 48 yJ2_length_9d52b, Cond.static yJ2_length_9d52b, Cond.code yJ2_length_9d52b cJ2_length_9d52b 1 (some .int), Cond.methodLink RJ2 414 yJ0_checkIndex_df160, Cond.methodLink RJ2 71 yJ2_getChar_3b067, Cond.static yJ2_getChar_3b067, Cond.code yJ2_getChar_3b067 cJ2_getChar_3b067 2 (some .char), Cond.fieldLink RJ2 44 "java/lang/StringUTF16" "$assertionsDisabled" "Z", Cond.fieldLink RJ2 59 "java/lang/StringUTF16" "HI_BYTE_SHIFT" "I", Cond.fieldLink RJ2 63 "java/lang/StringUTF16" "LO_BYTE_SHIFT" "I"]
def wsJ0_charAt_5068e : List Cond := .code yJ0_charAt_5068e cJ0_charAt_5068e 2 (some .char) :: ((wsJ0_charAt_5068e_r1 ++ wsJ0_charAt_5068e_r2))
def wsX5_isWord_r1 : List Cond := [Cond.fieldLink RX5 26 "TwinRows$Reader" "token" "I", Cond.fieldLink RX5 32 "TwinRows$Reader" "next" "I", Cond.fieldLink RX5 29 "TwinRows$Reader" "begin" "I", Cond.fieldLink RX5 18 "TwinRows$Reader" "text" "[B", Cond.methodLink RX5 122 yJ0_length_8abf5, Cond.instanceMethod yJ0_length_8abf5, Cond.selects RJ0 yJ0_length_8abf5 yJ0_length_8abf5, Cond.initialized RJ0, Cond.code yJ0_length_8abf5 cJ0_length_8abf5 1 (some .int), Cond.fieldLink RJ0 9 "java/lang/String" "value" "[B", Cond.methodLink RJ0 335 yJ0_coder_7d493, Cond.instanceMethod yJ0_coder_7d493, Cond.selects RJ0 yJ0_coder_7d493 yJ0_coder_7d493, Cond.code yJ0_coder_7d493 cJ0_coder_7d493 1 (some .byte), Cond.fieldLink RJ0 38 "java/lang/String" "COMPACT_STRINGS" "Z", Cond.fieldLink RJ0 15 "java/lang/String" "coder" "B", Cond.methodLink RX5 127 yJ0_charAt_5068e, Cond.instanceMethod yJ0_charAt_5068e, Cond.selects RJ0 yJ0_charAt_5068e yJ0_charAt_5068e, Cond.code yJ0_charAt_5068e cJ0_charAt_5068e 2 (some .char), Cond.methodLink RJ0 492 yJ0_isLatin1_aae02, Cond.instanceMethod yJ0_isLatin1_aae02, Cond.selects RJ0 yJ0_isLatin1_aae02 yJ0_isLatin1_aae02, Cond.code yJ0_isLatin1_aae02 cJ0_isLatin1_aae02 1 (some .boolean)]
def wsX5_isWord_r2 : List Cond := [Cond.methodLink RJ0 495 yJ1_charAt_3b067, Cond.static yJ1_charAt_3b067, Cond.initialized RJ1, Cond.code yJ1_charAt_3b067 cJ1_charAt_3b067 2 (some .char), Cond.methodLink RJ1 9 yJ0_checkIndex_df160, Cond.static yJ0_checkIndex_df160, Cond.code yJ0_checkIndex_df160 cJ0_checkIndex_df160 2 none, Cond.fieldLink RJ0 1053 "jdk/internal/util/Preconditions" "SIOOBE_FORMATTER" "Ljava/util/function/BiFunction;", Cond.methodLink RJ0 1059 yJ3_checkIndex_8e157, Cond.static yJ3_checkIndex_8e157, Cond.initialized RJ3, Cond.code yJ3_checkIndex_8e157 cJ3_checkIndex_8e157 3 (some .int), Cond.methodLink RJ0 498 yJ2_charAt_3b067, Cond.static yJ2_charAt_3b067, Cond.initialized RJ2, Cond.code yJ2_charAt_3b067 cJ2_charAt_3b067 2 (some .char), Cond.methodLink RJ2 67 yJ2_checkIndex_2214a, Cond.static yJ2_checkIndex_2214a, Cond.code yJ2_checkIndex_2214a cJ2_checkIndex_2214a 2 none, Cond.methodLink RJ2 48 yJ2_length_9d52b, Cond.static yJ2_length_9d52b, Cond.code yJ2_length_9d52b cJ2_length_9d52b 1 (some .int), Cond.methodLink RJ2 414 yJ0_checkIndex_df160, Cond.methodLink RJ2 71 yJ2_getChar_3b067]
def wsX5_isWord_r3 : List Cond := [Cond.static yJ2_getChar_3b067, Cond.code yJ2_getChar_3b067 cJ2_getChar_3b067 2 (some .char), Cond.fieldLink RJ2 44 "java/lang/StringUTF16" "$assertionsDisabled" "Z", Cond.fieldLink RJ2 59 "java/lang/StringUTF16" "HI_BYTE_SHIFT" "I", Cond.fieldLink RJ2 63 "java/lang/StringUTF16" "LO_BYTE_SHIFT" "I"]
def wsX5_isWord : List Cond := .code yX5_isWord cX5_isWord 3 (some .boolean) :: ((wsX5_isWord_r1 ++ (wsX5_isWord_r2 ++ wsX5_isWord_r3)) ++ wsX50)
def wsX5_fails : List Cond := .code yX5_fails cX5_fails 2 (some .boolean) :: ([.fieldLink RX5 41 "TwinRows$Reader" "fault" "I"] ++ wsX50)
def wsX5_readNumber : List Cond := .code yX5_readNumber cX5_readNumber 2 (some .boolean) :: ([.fieldLink RX5 26 "TwinRows$Reader" "token" "I", .fieldLink RX5 35 "TwinRows$Reader" "value" "I", .methodLink RX5 59 yX5_advance, .instanceMethod yX5_advance, .selects RX5 yX5_advance yX5_advance, .initialized RX5, .code yX5_advance cX5_advance 1 none, .fieldLink RX5 32 "TwinRows$Reader" "next" "I", .fieldLink RX5 22 "TwinRows$Reader" "length" "I", .fieldLink RX5 18 "TwinRows$Reader" "text" "[B", .fieldLink RX5 29 "TwinRows$Reader" "begin" "I", .methodLink RX5 131 yX5_advanceRun, .instanceMethod yX5_advanceRun, .selects RX5 yX5_advanceRun yX5_advanceRun, .code yX5_advanceRun cX5_advanceRun 4 none, .methodLink RX5 79 yX5_fails, .instanceMethod yX5_fails, .selects RX5 yX5_fails yX5_fails, .code yX5_fails cX5_fails 2 (some .boolean), .fieldLink RX5 41 "TwinRows$Reader" "fault" "I"] ++ wsX50)
def wsX5_readCells_r1 : List Cond := [Cond.fieldLink RX5 12 "TwinRows$Reader" "draft" "LTwinRows$Frame;", Cond.fieldLink RX5 35 "TwinRows$Reader" "value" "I", Cond.methodLink RX5 98 yX5_readNumber, Cond.instanceMethod yX5_readNumber, Cond.selects RX5 yX5_readNumber yX5_readNumber, Cond.initialized RX5, Cond.code yX5_readNumber cX5_readNumber 2 (some .boolean), Cond.fieldLink RX5 26 "TwinRows$Reader" "token" "I", Cond.methodLink RX5 59 yX5_advance, Cond.instanceMethod yX5_advance, Cond.selects RX5 yX5_advance yX5_advance, Cond.code yX5_advance cX5_advance 1 none, Cond.fieldLink RX5 32 "TwinRows$Reader" "next" "I", Cond.fieldLink RX5 22 "TwinRows$Reader" "length" "I", Cond.fieldLink RX5 18 "TwinRows$Reader" "text" "[B", Cond.fieldLink RX5 29 "TwinRows$Reader" "begin" "I", Cond.methodLink RX5 131 yX5_advanceRun, Cond.instanceMethod yX5_advanceRun, Cond.selects RX5 yX5_advanceRun yX5_advanceRun, Cond.code yX5_advanceRun cX5_advanceRun 4 none, Cond.methodLink RX5 79 yX5_fails, Cond.instanceMethod yX5_fails, Cond.selects RX5 yX5_fails yX5_fails, Cond.code yX5_fails cX5_fails 2 (some .boolean)]
def wsX5_readCells_r2 : List Cond := [Cond.fieldLink RX5 41 "TwinRows$Reader" "fault" "I", Cond.methodLink RX5 56 yX2_begin, Cond.instanceMethod yX2_begin, Cond.selects RX2 yX2_begin yX2_begin, Cond.initialized RX2, Cond.code yX2_begin cX2_begin 4 none, Cond.fieldLink RX2 9 "TwinRows$Frame" "cells" "I", Cond.fieldLink RX2 15 "TwinRows$Frame" "holes" "I", Cond.fieldLink RX2 18 "TwinRows$Frame" "pairs" "I", Cond.fieldLink RX2 21 "TwinRows$Frame" "pins" "[I", Cond.methodLink RX2 25 yJ7_fill_53178, Cond.static yJ7_fill_53178, Cond.initialized RJ7, Cond.code yJ7_fill_53178 cJ7_fill_53178 4 none]
def wsX5_readCells : List Cond := .code yX5_readCells cX5_readCells 1 (some .boolean) :: ((wsX5_readCells_r1 ++ wsX5_readCells_r2) ++ wsX50 ++ wsX20)
def wsX5_readHole_r1 : List Cond := [Cond.fieldLink RX5 12 "TwinRows$Reader" "draft" "LTwinRows$Frame;", Cond.fieldLink RX5 35 "TwinRows$Reader" "value" "I", Cond.methodLink RX5 98 yX5_readNumber, Cond.instanceMethod yX5_readNumber, Cond.selects RX5 yX5_readNumber yX5_readNumber, Cond.initialized RX5, Cond.code yX5_readNumber cX5_readNumber 2 (some .boolean), Cond.fieldLink RX5 26 "TwinRows$Reader" "token" "I", Cond.methodLink RX5 59 yX5_advance, Cond.instanceMethod yX5_advance, Cond.selects RX5 yX5_advance yX5_advance, Cond.code yX5_advance cX5_advance 1 none, Cond.fieldLink RX5 32 "TwinRows$Reader" "next" "I", Cond.fieldLink RX5 22 "TwinRows$Reader" "length" "I", Cond.fieldLink RX5 18 "TwinRows$Reader" "text" "[B", Cond.fieldLink RX5 29 "TwinRows$Reader" "begin" "I", Cond.methodLink RX5 131 yX5_advanceRun, Cond.instanceMethod yX5_advanceRun, Cond.selects RX5 yX5_advanceRun yX5_advanceRun, Cond.code yX5_advanceRun cX5_advanceRun 4 none, Cond.methodLink RX5 79 yX5_fails, Cond.instanceMethod yX5_fails, Cond.selects RX5 yX5_fails yX5_fails, Cond.code yX5_fails cX5_fails 2 (some .boolean)]
def wsX5_readHole_r2 : List Cond := [Cond.fieldLink RX5 41 "TwinRows$Reader" "fault" "I", Cond.methodLink RX5 103 yX2_setHole, Cond.instanceMethod yX2_setHole, Cond.selects RX2 yX2_setHole yX2_setHole, Cond.initialized RX2, Cond.code yX2_setHole cX2_setHole 3 (some .int), Cond.fieldLink RX2 15 "TwinRows$Frame" "holes" "I", Cond.methodLink RX2 37 yX2_hasPlace, Cond.instanceMethod yX2_hasPlace, Cond.selects RX2 yX2_hasPlace yX2_hasPlace, Cond.code yX2_hasPlace cX2_hasPlace 2 (some .boolean), Cond.fieldLink RX2 9 "TwinRows$Frame" "cells" "I", Cond.methodLink RX2 60 yX2_hasHole, Cond.instanceMethod yX2_hasHole, Cond.selects RX2 yX2_hasHole yX2_hasHole, Cond.code yX2_hasHole cX2_hasHole 2 (some .boolean), Cond.static yX6_bit, Cond.initialized RX6, Cond.code yX6_bit cX6_bit 1 (some .int), Cond.methodLink RX2 63 yX2_pinnedPlaces, Cond.instanceMethod yX2_pinnedPlaces, Cond.selects RX2 yX2_pinnedPlaces yX2_pinnedPlaces, Cond.code yX2_pinnedPlaces cX2_pinnedPlaces 4 (some .int), Cond.fieldLink RX2 21 "TwinRows$Frame" "pins" "[I"]
def wsX5_readHole_r3 : List Cond := [Cond.methodLink RX2 49 yJ6_bitCount_0f7a4, Cond.static yJ6_bitCount_0f7a4, Cond.initialized RJ6, Cond.code yJ6_bitCount_0f7a4 cJ6_bitCount_0f7a4 1 (some .int), Cond.constant RJ6 265 (1431655765), Cond.constant RJ6 266 (858993459), Cond.constant RJ6 267 (252645135)]
def wsX5_readHole : List Cond := .code yX5_readHole cX5_readHole 1 (some .boolean) :: ((wsX5_readHole_r1 ++ (wsX5_readHole_r2 ++ wsX5_readHole_r3)) ++ wsX50 ++ wsX20)
def wsX5_readPair_r1 : List Cond := [Cond.fieldLink RX5 12 "TwinRows$Reader" "draft" "LTwinRows$Frame;", Cond.fieldLink RX5 35 "TwinRows$Reader" "value" "I", Cond.fieldLink RX5 38 "TwinRows$Reader" "distance" "I", Cond.methodLink RX5 110 yJ6_bitCount_0f7a4, Cond.static yJ6_bitCount_0f7a4, Cond.initialized RJ6, Cond.code yJ6_bitCount_0f7a4 cJ6_bitCount_0f7a4 1 (some .int), Cond.constant RJ6 265 (1431655765), Cond.constant RJ6 266 (858993459), Cond.constant RJ6 267 (252645135), Cond.methodLink RX5 79 yX5_fails, Cond.instanceMethod yX5_fails, Cond.selects RX5 yX5_fails yX5_fails, Cond.initialized RX5, Cond.code yX5_fails cX5_fails 2 (some .boolean), Cond.fieldLink RX5 41 "TwinRows$Reader" "fault" "I", Cond.methodLink RX5 98 yX5_readNumber, Cond.instanceMethod yX5_readNumber, Cond.selects RX5 yX5_readNumber yX5_readNumber, Cond.code yX5_readNumber cX5_readNumber 2 (some .boolean), Cond.fieldLink RX5 26 "TwinRows$Reader" "token" "I", Cond.methodLink RX5 59 yX5_advance, Cond.instanceMethod yX5_advance, Cond.selects RX5 yX5_advance yX5_advance]
def wsX5_readPair_r2 : List Cond := [Cond.code yX5_advance cX5_advance 1 none, Cond.fieldLink RX5 32 "TwinRows$Reader" "next" "I", Cond.fieldLink RX5 22 "TwinRows$Reader" "length" "I", Cond.fieldLink RX5 18 "TwinRows$Reader" "text" "[B", Cond.fieldLink RX5 29 "TwinRows$Reader" "begin" "I", Cond.methodLink RX5 131 yX5_advanceRun, Cond.instanceMethod yX5_advanceRun, Cond.selects RX5 yX5_advanceRun yX5_advanceRun, Cond.code yX5_advanceRun cX5_advanceRun 4 none, Cond.methodLink RX5 116 yX2_setPair, Cond.instanceMethod yX2_setPair, Cond.selects RX2 yX2_setPair yX2_setPair, Cond.initialized RX2, Cond.code yX2_setPair cX2_setPair 3 (some .int), Cond.fieldLink RX2 18 "TwinRows$Frame" "pairs" "I", Cond.fieldLink RX2 21 "TwinRows$Frame" "pins" "[I", Cond.methodLink RX2 57 yX2_hasPair, Cond.instanceMethod yX2_hasPair, Cond.selects RX2 yX2_hasPair yX2_hasPair, Cond.code yX2_hasPair cX2_hasPair 2 (some .boolean), Cond.static yX6_bit, Cond.initialized RX6, Cond.code yX6_bit cX6_bit 1 (some .int), Cond.methodLink RX2 49 yJ6_bitCount_0f7a4]
def wsX5_readPair : List Cond := .code yX5_readPair cX5_readPair 1 (some .boolean) :: ((wsX5_readPair_r1 ++ wsX5_readPair_r2) ++ wsX50 ++ wsX20)
def wsX5_readPin_r1 : List Cond := [Cond.fieldLink RX5 12 "TwinRows$Reader" "draft" "LTwinRows$Frame;", Cond.fieldLink RX5 38 "TwinRows$Reader" "distance" "I", Cond.fieldLink RX5 35 "TwinRows$Reader" "value" "I", Cond.methodLink RX5 98 yX5_readNumber, Cond.instanceMethod yX5_readNumber, Cond.selects RX5 yX5_readNumber yX5_readNumber, Cond.initialized RX5, Cond.code yX5_readNumber cX5_readNumber 2 (some .boolean), Cond.fieldLink RX5 26 "TwinRows$Reader" "token" "I", Cond.methodLink RX5 59 yX5_advance, Cond.instanceMethod yX5_advance, Cond.selects RX5 yX5_advance yX5_advance, Cond.code yX5_advance cX5_advance 1 none, Cond.fieldLink RX5 32 "TwinRows$Reader" "next" "I", Cond.fieldLink RX5 22 "TwinRows$Reader" "length" "I", Cond.fieldLink RX5 18 "TwinRows$Reader" "text" "[B", Cond.fieldLink RX5 29 "TwinRows$Reader" "begin" "I", Cond.methodLink RX5 131 yX5_advanceRun, Cond.instanceMethod yX5_advanceRun, Cond.selects RX5 yX5_advanceRun yX5_advanceRun, Cond.code yX5_advanceRun cX5_advanceRun 4 none, Cond.methodLink RX5 79 yX5_fails, Cond.instanceMethod yX5_fails, Cond.selects RX5 yX5_fails yX5_fails]
def wsX5_readPin_r2 : List Cond := [Cond.code yX5_fails cX5_fails 2 (some .boolean), Cond.fieldLink RX5 41 "TwinRows$Reader" "fault" "I", Cond.methodLink RX5 119 yX2_setPin, Cond.instanceMethod yX2_setPin, Cond.selects RX2 yX2_setPin yX2_setPin, Cond.initialized RX2, Cond.code yX2_setPin cX2_setPin 3 (some .int), Cond.fieldLink RX2 21 "TwinRows$Frame" "pins" "[I", Cond.fieldLink RX2 15 "TwinRows$Frame" "holes" "I", Cond.methodLink RX2 57 yX2_hasPair, Cond.instanceMethod yX2_hasPair, Cond.selects RX2 yX2_hasPair yX2_hasPair, Cond.code yX2_hasPair cX2_hasPair 2 (some .boolean), Cond.fieldLink RX2 18 "TwinRows$Frame" "pairs" "I", Cond.static yX6_bit, Cond.initialized RX6, Cond.code yX6_bit cX6_bit 1 (some .int), Cond.methodLink RX2 37 yX2_hasPlace, Cond.instanceMethod yX2_hasPlace, Cond.selects RX2 yX2_hasPlace yX2_hasPlace, Cond.code yX2_hasPlace cX2_hasPlace 2 (some .boolean), Cond.fieldLink RX2 9 "TwinRows$Frame" "cells" "I", Cond.methodLink RX2 63 yX2_pinnedPlaces, Cond.instanceMethod yX2_pinnedPlaces]
def wsX5_readPin_r3 : List Cond := [Cond.selects RX2 yX2_pinnedPlaces yX2_pinnedPlaces, Cond.code yX2_pinnedPlaces cX2_pinnedPlaces 4 (some .int)]
def wsX5_readPin : List Cond := .code yX5_readPin cX5_readPin 1 (some .boolean) :: ((wsX5_readPin_r1 ++ (wsX5_readPin_r2 ++ wsX5_readPin_r3)) ++ wsX50 ++ wsX20)
def wsX5_readRow_r1 : List Cond := [Cond.methodLink RX5 72 yX5_isWord, Cond.instanceMethod yX5_isWord, Cond.selects RX5 yX5_isWord yX5_isWord, Cond.initialized RX5, Cond.code yX5_isWord cX5_isWord 3 (some .boolean), Cond.fieldLink RX5 26 "TwinRows$Reader" "token" "I", Cond.fieldLink RX5 32 "TwinRows$Reader" "next" "I", Cond.fieldLink RX5 29 "TwinRows$Reader" "begin" "I", Cond.fieldLink RX5 18 "TwinRows$Reader" "text" "[B", Cond.methodLink RX5 122 yJ0_length_8abf5, Cond.instanceMethod yJ0_length_8abf5, Cond.selects RJ0 yJ0_length_8abf5 yJ0_length_8abf5, Cond.initialized RJ0, Cond.code yJ0_length_8abf5 cJ0_length_8abf5 1 (some .int), Cond.fieldLink RJ0 9 "java/lang/String" "value" "[B", Cond.methodLink RJ0 335 yJ0_coder_7d493, Cond.instanceMethod yJ0_coder_7d493, Cond.selects RJ0 yJ0_coder_7d493 yJ0_coder_7d493, Cond.code yJ0_coder_7d493 cJ0_coder_7d493 1 (some .byte), Cond.fieldLink RJ0 38 "java/lang/String" "COMPACT_STRINGS" "Z", Cond.fieldLink RJ0 15 "java/lang/String" "coder" "B", Cond.methodLink RX5 127 yJ0_charAt_5068e, Cond.instanceMethod yJ0_charAt_5068e, Cond.selects RJ0 yJ0_charAt_5068e yJ0_charAt_5068e]
def wsX5_readRow_r2 : List Cond := [Cond.code yJ0_charAt_5068e cJ0_charAt_5068e 2 (some .char), Cond.methodLink RJ0 492 yJ0_isLatin1_aae02, Cond.instanceMethod yJ0_isLatin1_aae02, Cond.selects RJ0 yJ0_isLatin1_aae02 yJ0_isLatin1_aae02, Cond.code yJ0_isLatin1_aae02 cJ0_isLatin1_aae02 1 (some .boolean), Cond.methodLink RJ0 495 yJ1_charAt_3b067, Cond.static yJ1_charAt_3b067, Cond.initialized RJ1, Cond.code yJ1_charAt_3b067 cJ1_charAt_3b067 2 (some .char), Cond.methodLink RJ1 9 yJ0_checkIndex_df160, Cond.static yJ0_checkIndex_df160, Cond.code yJ0_checkIndex_df160 cJ0_checkIndex_df160 2 none, Cond.fieldLink RJ0 1053 "jdk/internal/util/Preconditions" "SIOOBE_FORMATTER" "Ljava/util/function/BiFunction;", Cond.methodLink RJ0 1059 yJ3_checkIndex_8e157, Cond.static yJ3_checkIndex_8e157, Cond.initialized RJ3, Cond.code yJ3_checkIndex_8e157 cJ3_checkIndex_8e157 3 (some .int), Cond.methodLink RJ0 498 yJ2_charAt_3b067, Cond.static yJ2_charAt_3b067, Cond.initialized RJ2, Cond.code yJ2_charAt_3b067 cJ2_charAt_3b067 2 (some .char), Cond.methodLink RJ2 67 yJ2_checkIndex_2214a, Cond.static yJ2_checkIndex_2214a, Cond.code yJ2_checkIndex_2214a cJ2_checkIndex_2214a 2 none]
def wsX5_readRow_r3 : List Cond := [Cond.methodLink RJ2 48 yJ2_length_9d52b, Cond.static yJ2_length_9d52b, Cond.code yJ2_length_9d52b cJ2_length_9d52b 1 (some .int), Cond.methodLink RJ2 414 yJ0_checkIndex_df160, Cond.methodLink RJ2 71 yJ2_getChar_3b067, Cond.static yJ2_getChar_3b067, Cond.code yJ2_getChar_3b067 cJ2_getChar_3b067 2 (some .char), Cond.fieldLink RJ2 44 "java/lang/StringUTF16" "$assertionsDisabled" "Z", Cond.fieldLink RJ2 59 "java/lang/StringUTF16" "HI_BYTE_SHIFT" "I", Cond.fieldLink RJ2 63 "java/lang/StringUTF16" "LO_BYTE_SHIFT" "I", Cond.methodLink RX5 76 yX5_readCells, Cond.instanceMethod yX5_readCells, Cond.selects RX5 yX5_readCells yX5_readCells, Cond.code yX5_readCells cX5_readCells 1 (some .boolean), Cond.fieldLink RX5 12 "TwinRows$Reader" "draft" "LTwinRows$Frame;", Cond.fieldLink RX5 35 "TwinRows$Reader" "value" "I", Cond.methodLink RX5 98 yX5_readNumber, Cond.instanceMethod yX5_readNumber, Cond.selects RX5 yX5_readNumber yX5_readNumber, Cond.code yX5_readNumber cX5_readNumber 2 (some .boolean), Cond.methodLink RX5 59 yX5_advance, Cond.instanceMethod yX5_advance, Cond.selects RX5 yX5_advance yX5_advance, Cond.code yX5_advance cX5_advance 1 none]
def wsX5_readRow_r4 : List Cond := [Cond.fieldLink RX5 22 "TwinRows$Reader" "length" "I", Cond.methodLink RX5 131 yX5_advanceRun, Cond.instanceMethod yX5_advanceRun, Cond.selects RX5 yX5_advanceRun yX5_advanceRun, Cond.code yX5_advanceRun cX5_advanceRun 4 none, Cond.methodLink RX5 79 yX5_fails, Cond.instanceMethod yX5_fails, Cond.selects RX5 yX5_fails yX5_fails, Cond.code yX5_fails cX5_fails 2 (some .boolean), Cond.fieldLink RX5 41 "TwinRows$Reader" "fault" "I", Cond.methodLink RX5 56 yX2_begin, Cond.instanceMethod yX2_begin, Cond.selects RX2 yX2_begin yX2_begin, Cond.initialized RX2, Cond.code yX2_begin cX2_begin 4 none, Cond.fieldLink RX2 9 "TwinRows$Frame" "cells" "I", Cond.fieldLink RX2 15 "TwinRows$Frame" "holes" "I", Cond.fieldLink RX2 18 "TwinRows$Frame" "pairs" "I", Cond.fieldLink RX2 21 "TwinRows$Frame" "pins" "[I", Cond.methodLink RX2 25 yJ7_fill_53178, Cond.static yJ7_fill_53178, Cond.initialized RJ7, Cond.code yJ7_fill_53178 cJ7_fill_53178 4 none, Cond.methodLink RX5 85 yX5_readHole]
def wsX5_readRow_r5 : List Cond := [Cond.instanceMethod yX5_readHole, Cond.selects RX5 yX5_readHole yX5_readHole, Cond.code yX5_readHole cX5_readHole 1 (some .boolean), Cond.methodLink RX5 103 yX2_setHole, Cond.instanceMethod yX2_setHole, Cond.selects RX2 yX2_setHole yX2_setHole, Cond.code yX2_setHole cX2_setHole 3 (some .int), Cond.methodLink RX2 37 yX2_hasPlace, Cond.instanceMethod yX2_hasPlace, Cond.selects RX2 yX2_hasPlace yX2_hasPlace, Cond.code yX2_hasPlace cX2_hasPlace 2 (some .boolean), Cond.methodLink RX2 60 yX2_hasHole, Cond.instanceMethod yX2_hasHole, Cond.selects RX2 yX2_hasHole yX2_hasHole, Cond.code yX2_hasHole cX2_hasHole 2 (some .boolean), Cond.static yX6_bit, Cond.initialized RX6, Cond.code yX6_bit cX6_bit 1 (some .int), Cond.methodLink RX2 63 yX2_pinnedPlaces, Cond.instanceMethod yX2_pinnedPlaces, Cond.selects RX2 yX2_pinnedPlaces yX2_pinnedPlaces, Cond.code yX2_pinnedPlaces cX2_pinnedPlaces 4 (some .int), Cond.methodLink RX2 49 yJ6_bitCount_0f7a4, Cond.static yJ6_bitCount_0f7a4]
def wsX5_readRow_r6 : List Cond := [Cond.initialized RJ6, Cond.code yJ6_bitCount_0f7a4 cJ6_bitCount_0f7a4 1 (some .int), Cond.constant RJ6 265 (1431655765), Cond.constant RJ6 266 (858993459), Cond.constant RJ6 267 (252645135), Cond.methodLink RX5 90 yX5_readPair, Cond.instanceMethod yX5_readPair, Cond.selects RX5 yX5_readPair yX5_readPair, Cond.code yX5_readPair cX5_readPair 1 (some .boolean), Cond.fieldLink RX5 38 "TwinRows$Reader" "distance" "I", Cond.methodLink RX5 110 yJ6_bitCount_0f7a4, Cond.methodLink RX5 116 yX2_setPair, Cond.instanceMethod yX2_setPair, Cond.selects RX2 yX2_setPair yX2_setPair, Cond.code yX2_setPair cX2_setPair 3 (some .int), Cond.methodLink RX2 57 yX2_hasPair, Cond.instanceMethod yX2_hasPair, Cond.selects RX2 yX2_hasPair yX2_hasPair, Cond.code yX2_hasPair cX2_hasPair 2 (some .boolean), Cond.methodLink RX5 95 yX5_readPin, Cond.instanceMethod yX5_readPin, Cond.selects RX5 yX5_readPin yX5_readPin, Cond.code yX5_readPin cX5_readPin 1 (some .boolean), Cond.methodLink RX5 119 yX2_setPin]
def wsX5_readRow_r7 : List Cond := [Cond.instanceMethod yX2_setPin, Cond.selects RX2 yX2_setPin yX2_setPin, Cond.code yX2_setPin cX2_setPin 3 (some .int)]
def wsX5_readRow : List Cond := .code yX5_readRow cX5_readRow 2 (some .boolean) :: ((wsX5_readRow_r1 ++ (wsX5_readRow_r2 ++ (wsX5_readRow_r3 ++ (wsX5_readRow_r4 ++ (wsX5_readRow_r5 ++ (wsX5_readRow_r6 ++ wsX5_readRow_r7)))))) ++ wsX50 ++ wsX20)
def wsX5_endsRow : List Cond := .code yX5_endsRow cX5_endsRow 1 (some .boolean) :: ([.fieldLink RX5 26 "TwinRows$Reader" "token" "I", .methodLink RX5 79 yX5_fails, .instanceMethod yX5_fails, .selects RX5 yX5_fails yX5_fails, .initialized RX5, .code yX5_fails cX5_fails 2 (some .boolean), .fieldLink RX5 41 "TwinRows$Reader" "fault" "I"] ++ wsX50)
def wsX5_read_r1 : List Cond := [Cond.methodLink RX5 44 Lib.Math.min.name, Cond.static Lib.Math.min.name, Cond.initialized "java/lang/Math", Cond.code Lib.Math.min.name Lib.Math.min.code 2 (some .int), Cond.fieldLink RX5 22 "TwinRows$Reader" "length" "I", Cond.fieldLink RX5 18 "TwinRows$Reader" "text" "[B", Cond.methodLink RX5 50 arraycopyName, Cond.native arraycopyName, Cond.static arraycopyName, Cond.initialized "java/lang/System", Cond.fieldLink RX5 32 "TwinRows$Reader" "next" "I", Cond.fieldLink RX5 41 "TwinRows$Reader" "fault" "I", Cond.fieldLink RX5 12 "TwinRows$Reader" "draft" "LTwinRows$Frame;", Cond.fieldLink RX5 26 "TwinRows$Reader" "token" "I", Cond.fieldLink RX5 29 "TwinRows$Reader" "begin" "I", Cond.methodLink RX5 56 yX2_begin, Cond.instanceMethod yX2_begin, Cond.selects RX2 yX2_begin yX2_begin, Cond.initialized RX2, Cond.code yX2_begin cX2_begin 4 none, Cond.fieldLink RX2 9 "TwinRows$Frame" "cells" "I", Cond.fieldLink RX2 15 "TwinRows$Frame" "holes" "I", Cond.fieldLink RX2 18 "TwinRows$Frame" "pairs" "I", Cond.fieldLink RX2 21 "TwinRows$Frame" "pins" "[I"]
def wsX5_read_r2 : List Cond := [Cond.methodLink RX2 25 yJ7_fill_53178, Cond.static yJ7_fill_53178, Cond.initialized RJ7, Cond.code yJ7_fill_53178 cJ7_fill_53178 4 none, Cond.methodLink RX5 59 yX5_advance, Cond.instanceMethod yX5_advance, Cond.selects RX5 yX5_advance yX5_advance, Cond.initialized RX5, Cond.code yX5_advance cX5_advance 1 none, Cond.methodLink RX5 131 yX5_advanceRun, Cond.instanceMethod yX5_advanceRun, Cond.selects RX5 yX5_advanceRun yX5_advanceRun, Cond.code yX5_advanceRun cX5_advanceRun 4 none, Cond.fieldLink RX5 35 "TwinRows$Reader" "value" "I", Cond.methodLink RX5 62 yX5_readRow, Cond.instanceMethod yX5_readRow, Cond.selects RX5 yX5_readRow yX5_readRow, Cond.code yX5_readRow cX5_readRow 2 (some .boolean), Cond.methodLink RX5 72 yX5_isWord, Cond.instanceMethod yX5_isWord, Cond.selects RX5 yX5_isWord yX5_isWord, Cond.code yX5_isWord cX5_isWord 3 (some .boolean), Cond.methodLink RX5 122 yJ0_length_8abf5, Cond.instanceMethod yJ0_length_8abf5]
def wsX5_read_r3 : List Cond := [Cond.selects RJ0 yJ0_length_8abf5 yJ0_length_8abf5, Cond.initialized RJ0, Cond.code yJ0_length_8abf5 cJ0_length_8abf5 1 (some .int), Cond.fieldLink RJ0 9 "java/lang/String" "value" "[B", Cond.methodLink RJ0 335 yJ0_coder_7d493, Cond.instanceMethod yJ0_coder_7d493, Cond.selects RJ0 yJ0_coder_7d493 yJ0_coder_7d493, Cond.code yJ0_coder_7d493 cJ0_coder_7d493 1 (some .byte), Cond.fieldLink RJ0 38 "java/lang/String" "COMPACT_STRINGS" "Z", Cond.fieldLink RJ0 15 "java/lang/String" "coder" "B", Cond.methodLink RX5 127 yJ0_charAt_5068e, Cond.instanceMethod yJ0_charAt_5068e, Cond.selects RJ0 yJ0_charAt_5068e yJ0_charAt_5068e, Cond.code yJ0_charAt_5068e cJ0_charAt_5068e 2 (some .char), Cond.methodLink RJ0 492 yJ0_isLatin1_aae02, Cond.instanceMethod yJ0_isLatin1_aae02, Cond.selects RJ0 yJ0_isLatin1_aae02 yJ0_isLatin1_aae02, Cond.code yJ0_isLatin1_aae02 cJ0_isLatin1_aae02 1 (some .boolean), Cond.methodLink RJ0 495 yJ1_charAt_3b067, Cond.static yJ1_charAt_3b067, Cond.initialized RJ1, Cond.code yJ1_charAt_3b067 cJ1_charAt_3b067 2 (some .char), Cond.methodLink RJ1 9 yJ0_checkIndex_df160, Cond.static yJ0_checkIndex_df160]
def wsX5_read_r4 : List Cond := [Cond.code yJ0_checkIndex_df160 cJ0_checkIndex_df160 2 none, Cond.fieldLink RJ0 1053 "jdk/internal/util/Preconditions" "SIOOBE_FORMATTER" "Ljava/util/function/BiFunction;", Cond.methodLink RJ0 1059 yJ3_checkIndex_8e157, Cond.static yJ3_checkIndex_8e157, Cond.initialized RJ3, Cond.code yJ3_checkIndex_8e157 cJ3_checkIndex_8e157 3 (some .int), Cond.methodLink RJ0 498 yJ2_charAt_3b067, Cond.static yJ2_charAt_3b067, Cond.initialized RJ2, Cond.code yJ2_charAt_3b067 cJ2_charAt_3b067 2 (some .char), Cond.methodLink RJ2 67 yJ2_checkIndex_2214a, Cond.static yJ2_checkIndex_2214a, Cond.code yJ2_checkIndex_2214a cJ2_checkIndex_2214a 2 none, Cond.methodLink RJ2 48 yJ2_length_9d52b, Cond.static yJ2_length_9d52b, Cond.code yJ2_length_9d52b cJ2_length_9d52b 1 (some .int), Cond.methodLink RJ2 414 yJ0_checkIndex_df160, Cond.methodLink RJ2 71 yJ2_getChar_3b067, Cond.static yJ2_getChar_3b067, Cond.code yJ2_getChar_3b067 cJ2_getChar_3b067 2 (some .char), Cond.fieldLink RJ2 44 "java/lang/StringUTF16" "$assertionsDisabled" "Z", Cond.fieldLink RJ2 59 "java/lang/StringUTF16" "HI_BYTE_SHIFT" "I", Cond.fieldLink RJ2 63 "java/lang/StringUTF16" "LO_BYTE_SHIFT" "I", Cond.methodLink RX5 76 yX5_readCells]
def wsX5_read_r5 : List Cond := [Cond.instanceMethod yX5_readCells, Cond.selects RX5 yX5_readCells yX5_readCells, Cond.code yX5_readCells cX5_readCells 1 (some .boolean), Cond.methodLink RX5 98 yX5_readNumber, Cond.instanceMethod yX5_readNumber, Cond.selects RX5 yX5_readNumber yX5_readNumber, Cond.code yX5_readNumber cX5_readNumber 2 (some .boolean), Cond.methodLink RX5 79 yX5_fails, Cond.instanceMethod yX5_fails, Cond.selects RX5 yX5_fails yX5_fails, Cond.code yX5_fails cX5_fails 2 (some .boolean), Cond.methodLink RX5 85 yX5_readHole, Cond.instanceMethod yX5_readHole, Cond.selects RX5 yX5_readHole yX5_readHole, Cond.code yX5_readHole cX5_readHole 1 (some .boolean), Cond.methodLink RX5 103 yX2_setHole, Cond.instanceMethod yX2_setHole, Cond.selects RX2 yX2_setHole yX2_setHole, Cond.code yX2_setHole cX2_setHole 3 (some .int), Cond.methodLink RX2 37 yX2_hasPlace, Cond.instanceMethod yX2_hasPlace, Cond.selects RX2 yX2_hasPlace yX2_hasPlace, Cond.code yX2_hasPlace cX2_hasPlace 2 (some .boolean), Cond.methodLink RX2 60 yX2_hasHole]
def wsX5_read_r6 : List Cond := [Cond.instanceMethod yX2_hasHole, Cond.selects RX2 yX2_hasHole yX2_hasHole, Cond.code yX2_hasHole cX2_hasHole 2 (some .boolean), Cond.static yX6_bit, Cond.initialized RX6, Cond.code yX6_bit cX6_bit 1 (some .int), Cond.methodLink RX2 63 yX2_pinnedPlaces, Cond.instanceMethod yX2_pinnedPlaces, Cond.selects RX2 yX2_pinnedPlaces yX2_pinnedPlaces, Cond.code yX2_pinnedPlaces cX2_pinnedPlaces 4 (some .int), Cond.methodLink RX2 49 yJ6_bitCount_0f7a4, Cond.static yJ6_bitCount_0f7a4, Cond.initialized RJ6, Cond.code yJ6_bitCount_0f7a4 cJ6_bitCount_0f7a4 1 (some .int), Cond.constant RJ6 265 (1431655765), Cond.constant RJ6 266 (858993459), Cond.constant RJ6 267 (252645135), Cond.methodLink RX5 90 yX5_readPair, Cond.instanceMethod yX5_readPair, Cond.selects RX5 yX5_readPair yX5_readPair, Cond.code yX5_readPair cX5_readPair 1 (some .boolean), Cond.fieldLink RX5 38 "TwinRows$Reader" "distance" "I", Cond.methodLink RX5 110 yJ6_bitCount_0f7a4, Cond.methodLink RX5 116 yX2_setPair]
def wsX5_read_r7 : List Cond := [Cond.instanceMethod yX2_setPair, Cond.selects RX2 yX2_setPair yX2_setPair, Cond.code yX2_setPair cX2_setPair 3 (some .int), Cond.methodLink RX2 57 yX2_hasPair, Cond.instanceMethod yX2_hasPair, Cond.selects RX2 yX2_hasPair yX2_hasPair, Cond.code yX2_hasPair cX2_hasPair 2 (some .boolean), Cond.methodLink RX5 95 yX5_readPin, Cond.instanceMethod yX5_readPin, Cond.selects RX5 yX5_readPin yX5_readPin, Cond.code yX5_readPin cX5_readPin 1 (some .boolean), Cond.methodLink RX5 119 yX2_setPin, Cond.instanceMethod yX2_setPin, Cond.selects RX2 yX2_setPin yX2_setPin, Cond.code yX2_setPin cX2_setPin 3 (some .int), Cond.methodLink RX5 66 yX5_endsRow, Cond.instanceMethod yX5_endsRow, Cond.selects RX5 yX5_endsRow yX5_endsRow, Cond.code yX5_endsRow cX5_endsRow 1 (some .boolean)]
def wsX5_read : List Cond := .code yX5_read cX5_read 4 (some .int) :: ((wsX5_read_r1 ++ (wsX5_read_r2 ++ (wsX5_read_r3 ++ (wsX5_read_r4 ++ (wsX5_read_r5 ++ (wsX5_read_r6 ++ wsX5_read_r7)))))) ++ wsX50 ++ wsX20)
def wsX6_init_r1 : List Cond := [Cond.methodLink RX6 1 objectInit, Cond.instanceMethod objectInit, Cond.code objectInit ⟨#[0xb1]⟩ 1 none, Cond.arrayClass .byte, Cond.fieldLink RX6 9 "TwinRows" "tape" "[B", Cond.fieldLink RX6 13 "TwinRows" "tapeLength" "I", Cond.classLink RX6 17 RX5, Cond.instantiable RX5 9, Cond.initialized RX5, Cond.fieldLink RX6 20 "TwinRows" "reader" "LTwinRows$Reader;", Cond.fieldLink RX6 24 "TwinRows" "latestFault" "I", Cond.classLink RX6 27 RX2, Cond.instantiable RX2 4, Cond.initialized RX2, Cond.fieldLink RX6 30 "TwinRows" "frame" "LTwinRows$Frame;", Cond.fieldLink RX6 34 "TwinRows" "before" "LTwinRows$Frame;", Cond.classLink RX6 37 RX3, Cond.instantiable RX3 3, Cond.initialized RX3, Cond.fieldLink RX6 40 "TwinRows" "history" "LTwinRows$History;", Cond.fieldLink RX6 44 "TwinRows" "images" "[LTwinRows$Frame;", Cond.classLink RX6 48 RX0, Cond.instantiable RX0 1, Cond.initialized RX0]
def wsX6_init_r2 : List Cond := [Cond.fieldLink RX6 51 "TwinRows" "draws" "LTwinRows$Draws;", Cond.classLink RX6 55 RX1, Cond.instantiable RX1 8, Cond.initialized RX1, Cond.fieldLink RX6 60 "TwinRows" "fillings" "LTwinRows$Fillings;", Cond.fieldLink RX6 64 "TwinRows" "extendedFrame" "LTwinRows$Frame;", Cond.fieldLink RX6 67 "TwinRows" "extendedFillings" "LTwinRows$Fillings;", Cond.classLink RX6 70 RX4, Cond.instantiable RX4 3, Cond.initialized RX4, Cond.fieldLink RX6 73 "TwinRows" "look" "LTwinRows$Look;", Cond.arrayClass .int, Cond.fieldLink RX6 77 "TwinRows" "told" "[I", Cond.instanceMethod yX5_init, Cond.code yX5_init cX5_init 1 none, Cond.methodLink RX5 3 objectInit, Cond.classLink RX5 9 RX2, Cond.fieldLink RX5 12 "TwinRows$Reader" "draft" "LTwinRows$Frame;", Cond.fieldLink RX5 18 "TwinRows$Reader" "text" "[B", Cond.fieldLink RX5 22 "TwinRows$Reader" "length" "I", Cond.fieldLink RX5 26 "TwinRows$Reader" "token" "I", Cond.fieldLink RX5 29 "TwinRows$Reader" "begin" "I", Cond.fieldLink RX5 32 "TwinRows$Reader" "next" "I", Cond.fieldLink RX5 35 "TwinRows$Reader" "value" "I"]
def wsX6_init_r3 : List Cond := [Cond.fieldLink RX5 38 "TwinRows$Reader" "distance" "I", Cond.fieldLink RX5 41 "TwinRows$Reader" "fault" "I", Cond.instanceMethod yX2_init, Cond.code yX2_init cX2_init 1 none, Cond.methodLink RX2 3 objectInit, Cond.fieldLink RX2 9 "TwinRows$Frame" "cells" "I", Cond.fieldLink RX2 15 "TwinRows$Frame" "holes" "I", Cond.fieldLink RX2 18 "TwinRows$Frame" "pairs" "I", Cond.fieldLink RX2 21 "TwinRows$Frame" "pins" "[I", Cond.instanceMethod yX3_init, Cond.code yX3_init cX3_init 1 none, Cond.methodLink RX3 3 objectInit, Cond.classLink RX3 9 RX2, Cond.fieldLink RX3 11 "TwinRows$History" "ring" "[LTwinRows$Frame;", Cond.fieldLink RX3 17 "TwinRows$History" "latest" "I", Cond.fieldLink RX3 21 "TwinRows$History" "size" "I", Cond.instanceMethod yX0_init, Cond.code yX0_init cX0_init 1 none, Cond.methodLink RX0 3 objectInit, Cond.fieldLink RX0 9 "TwinRows$Draws" "seed" "I", Cond.methodLink RX6 57 yX1_init, Cond.instanceMethod yX1_init, Cond.code yX1_init cX1_init 2 none, Cond.methodLink RX1 3 objectInit]
def wsX6_init_r4 : List Cond := [Cond.arrayClass .long, Cond.fieldLink RX1 9 "TwinRows$Fillings" "weights" "[J", Cond.fieldLink RX1 15 "TwinRows$Fillings" "digits" "[I", Cond.fieldLink RX1 19 "TwinRows$Fillings" "distances" "[I", Cond.classLink RX1 22 "[[I", Cond.fieldLink RX1 24 "TwinRows$Fillings" "firsts" "[[I", Cond.fieldLink RX1 27 "TwinRows$Fillings" "isCounted" "Z", Cond.fieldLink RX1 31 "TwinRows$Fillings" "cells" "I", Cond.fieldLink RX1 35 "TwinRows$Fillings" "count" "I", Cond.methodLink RX1 38 Lib.Math.max.name, Cond.static Lib.Math.max.name, Cond.initialized "java/lang/Math", Cond.code Lib.Math.max.name Lib.Math.max.code 2 (some .int), Cond.fieldLink RX1 44 "TwinRows$Fillings" "numbers" "[J", Cond.instanceMethod yX4_init, Cond.code yX4_init cX4_init 1 none, Cond.methodLink RX4 3 objectInit, Cond.fieldLink RX4 9 "TwinRows$Look" "numbers" "[I", Cond.fieldLink RX4 15 "TwinRows$Look" "firsts" "[I", Cond.fieldLink RX4 18 "TwinRows$Look" "places" "I"]
def wsX6_init : List Cond := .code yX6_init cX6_init 1 none :: ((wsX6_init_r1 ++ (wsX6_init_r2 ++ (wsX6_init_r3 ++ wsX6_init_r4))) ++ wsX60 ++ wsX50 ++ wsX20 ++ wsX30 ++ wsX00 ++ wsX10 ++ wsX40)
def wsX6_feedNumber : List Cond := .code yX6_feedNumber cX6_feedNumber 3 none :: ([.fieldLink RX6 13 "TwinRows" "tapeLength" "I", .fieldLink RX6 9 "TwinRows" "tape" "[B"] ++ wsX60)
def wsX6_feed : List Cond := .code yX6_feed cX6_feed 6 (some .int) :: ([.fieldLink RX6 13 "TwinRows" "tapeLength" "I", .methodLink RX6 81 yX6_feedNumber, .instanceMethod yX6_feedNumber, .selects RX6 yX6_feedNumber yX6_feedNumber, .initialized RX6, .code yX6_feedNumber cX6_feedNumber 3 none, .fieldLink RX6 9 "TwinRows" "tape" "[B"] ++ wsX60)
def wsX6_end : List Cond := .code yX6_end cX6_end 2 (some .boolean) :: ([.fieldLink RX6 13 "TwinRows" "tapeLength" "I"] ++ wsX60)
def wsX6_becomes : List Cond := .code yX6_becomes cX6_becomes 2 none :: ([.fieldLink RX6 30 "TwinRows" "frame" "LTwinRows$Frame;", .fieldLink RX6 40 "TwinRows" "history" "LTwinRows$History;", .fieldLink RX6 60 "TwinRows" "fillings" "LTwinRows$Fillings;", .methodLink RX6 102 yX2_copy, .instanceMethod yX2_copy, .selects RX2 yX2_copy yX2_copy, .initialized RX2, .code yX2_copy cX2_copy 2 none, .fieldLink RX2 9 "TwinRows$Frame" "cells" "I", .fieldLink RX2 15 "TwinRows$Frame" "holes" "I", .fieldLink RX2 18 "TwinRows$Frame" "pairs" "I", .fieldLink RX2 21 "TwinRows$Frame" "pins" "[I", .methodLink RX2 31 arraycopyName, .native arraycopyName, .static arraycopyName, .initialized "java/lang/System"] ++ wsX60 ++ wsX30 ++ wsX10 ++ wsX20)
def wsX6_frame_r1 : List Cond := [Cond.fieldLink RX6 13 "TwinRows" "tapeLength" "I", Cond.fieldLink RX6 20 "TwinRows" "reader" "LTwinRows$Reader;", Cond.fieldLink RX6 9 "TwinRows" "tape" "[B", Cond.fieldLink RX6 24 "TwinRows" "latestFault" "I", Cond.methodLink RX6 84 yX5_read, Cond.instanceMethod yX5_read, Cond.selects RX5 yX5_read yX5_read, Cond.initialized RX5, Cond.code yX5_read cX5_read 4 (some .int), Cond.methodLink RX5 44 Lib.Math.min.name, Cond.static Lib.Math.min.name, Cond.initialized "java/lang/Math", Cond.code Lib.Math.min.name Lib.Math.min.code 2 (some .int), Cond.fieldLink RX5 22 "TwinRows$Reader" "length" "I", Cond.fieldLink RX5 18 "TwinRows$Reader" "text" "[B", Cond.methodLink RX5 50 arraycopyName, Cond.native arraycopyName, Cond.static arraycopyName, Cond.initialized "java/lang/System", Cond.fieldLink RX5 32 "TwinRows$Reader" "next" "I", Cond.fieldLink RX5 41 "TwinRows$Reader" "fault" "I", Cond.fieldLink RX5 12 "TwinRows$Reader" "draft" "LTwinRows$Frame;", Cond.fieldLink RX5 26 "TwinRows$Reader" "token" "I", Cond.fieldLink RX5 29 "TwinRows$Reader" "begin" "I"]
def wsX6_frame_r2 : List Cond := [Cond.methodLink RX5 56 yX2_begin, Cond.instanceMethod yX2_begin, Cond.selects RX2 yX2_begin yX2_begin, Cond.initialized RX2, Cond.code yX2_begin cX2_begin 4 none, Cond.fieldLink RX2 9 "TwinRows$Frame" "cells" "I", Cond.fieldLink RX2 15 "TwinRows$Frame" "holes" "I", Cond.fieldLink RX2 18 "TwinRows$Frame" "pairs" "I", Cond.fieldLink RX2 21 "TwinRows$Frame" "pins" "[I", Cond.methodLink RX2 25 yJ7_fill_53178, Cond.static yJ7_fill_53178, Cond.initialized RJ7, Cond.code yJ7_fill_53178 cJ7_fill_53178 4 none, Cond.methodLink RX5 59 yX5_advance, Cond.instanceMethod yX5_advance, Cond.selects RX5 yX5_advance yX5_advance, Cond.code yX5_advance cX5_advance 1 none, Cond.methodLink RX5 131 yX5_advanceRun, Cond.instanceMethod yX5_advanceRun, Cond.selects RX5 yX5_advanceRun yX5_advanceRun, Cond.code yX5_advanceRun cX5_advanceRun 4 none, Cond.fieldLink RX5 35 "TwinRows$Reader" "value" "I", Cond.methodLink RX5 62 yX5_readRow, Cond.instanceMethod yX5_readRow]
def wsX6_frame_r3 : List Cond := [Cond.selects RX5 yX5_readRow yX5_readRow, Cond.code yX5_readRow cX5_readRow 2 (some .boolean), Cond.methodLink RX5 72 yX5_isWord, Cond.instanceMethod yX5_isWord, Cond.selects RX5 yX5_isWord yX5_isWord, Cond.code yX5_isWord cX5_isWord 3 (some .boolean), Cond.methodLink RX5 122 yJ0_length_8abf5, Cond.instanceMethod yJ0_length_8abf5, Cond.selects RJ0 yJ0_length_8abf5 yJ0_length_8abf5, Cond.initialized RJ0, Cond.code yJ0_length_8abf5 cJ0_length_8abf5 1 (some .int), Cond.fieldLink RJ0 9 "java/lang/String" "value" "[B", Cond.methodLink RJ0 335 yJ0_coder_7d493, Cond.instanceMethod yJ0_coder_7d493, Cond.selects RJ0 yJ0_coder_7d493 yJ0_coder_7d493, Cond.code yJ0_coder_7d493 cJ0_coder_7d493 1 (some .byte), Cond.fieldLink RJ0 38 "java/lang/String" "COMPACT_STRINGS" "Z", Cond.fieldLink RJ0 15 "java/lang/String" "coder" "B", Cond.methodLink RX5 127 yJ0_charAt_5068e, Cond.instanceMethod yJ0_charAt_5068e, Cond.selects RJ0 yJ0_charAt_5068e yJ0_charAt_5068e, Cond.code yJ0_charAt_5068e cJ0_charAt_5068e 2 (some .char), Cond.methodLink RJ0 492 yJ0_isLatin1_aae02, Cond.instanceMethod yJ0_isLatin1_aae02]
def wsX6_frame_r4 : List Cond := [Cond.selects RJ0 yJ0_isLatin1_aae02 yJ0_isLatin1_aae02, Cond.code yJ0_isLatin1_aae02 cJ0_isLatin1_aae02 1 (some .boolean), Cond.methodLink RJ0 495 yJ1_charAt_3b067, Cond.static yJ1_charAt_3b067, Cond.initialized RJ1, Cond.code yJ1_charAt_3b067 cJ1_charAt_3b067 2 (some .char), Cond.methodLink RJ1 9 yJ0_checkIndex_df160, Cond.static yJ0_checkIndex_df160, Cond.code yJ0_checkIndex_df160 cJ0_checkIndex_df160 2 none, Cond.fieldLink RJ0 1053 "jdk/internal/util/Preconditions" "SIOOBE_FORMATTER" "Ljava/util/function/BiFunction;", Cond.methodLink RJ0 1059 yJ3_checkIndex_8e157, Cond.static yJ3_checkIndex_8e157, Cond.initialized RJ3, Cond.code yJ3_checkIndex_8e157 cJ3_checkIndex_8e157 3 (some .int), Cond.methodLink RJ0 498 yJ2_charAt_3b067, Cond.static yJ2_charAt_3b067, Cond.initialized RJ2, Cond.code yJ2_charAt_3b067 cJ2_charAt_3b067 2 (some .char), Cond.methodLink RJ2 67 yJ2_checkIndex_2214a, Cond.static yJ2_checkIndex_2214a, Cond.code yJ2_checkIndex_2214a cJ2_checkIndex_2214a 2 none, Cond.methodLink RJ2 48 yJ2_length_9d52b, Cond.static yJ2_length_9d52b, Cond.code yJ2_length_9d52b cJ2_length_9d52b 1 (some .int)]
def wsX6_frame_r5 : List Cond := [Cond.methodLink RJ2 414 yJ0_checkIndex_df160, Cond.methodLink RJ2 71 yJ2_getChar_3b067, Cond.static yJ2_getChar_3b067, Cond.code yJ2_getChar_3b067 cJ2_getChar_3b067 2 (some .char), Cond.fieldLink RJ2 44 "java/lang/StringUTF16" "$assertionsDisabled" "Z", Cond.fieldLink RJ2 59 "java/lang/StringUTF16" "HI_BYTE_SHIFT" "I", Cond.fieldLink RJ2 63 "java/lang/StringUTF16" "LO_BYTE_SHIFT" "I", Cond.methodLink RX5 76 yX5_readCells, Cond.instanceMethod yX5_readCells, Cond.selects RX5 yX5_readCells yX5_readCells, Cond.code yX5_readCells cX5_readCells 1 (some .boolean), Cond.methodLink RX5 98 yX5_readNumber, Cond.instanceMethod yX5_readNumber, Cond.selects RX5 yX5_readNumber yX5_readNumber, Cond.code yX5_readNumber cX5_readNumber 2 (some .boolean), Cond.methodLink RX5 79 yX5_fails, Cond.instanceMethod yX5_fails, Cond.selects RX5 yX5_fails yX5_fails, Cond.code yX5_fails cX5_fails 2 (some .boolean), Cond.methodLink RX5 85 yX5_readHole, Cond.instanceMethod yX5_readHole, Cond.selects RX5 yX5_readHole yX5_readHole, Cond.code yX5_readHole cX5_readHole 1 (some .boolean), Cond.methodLink RX5 103 yX2_setHole]
def wsX6_frame_r6 : List Cond := [Cond.instanceMethod yX2_setHole, Cond.selects RX2 yX2_setHole yX2_setHole, Cond.code yX2_setHole cX2_setHole 3 (some .int), Cond.methodLink RX2 37 yX2_hasPlace, Cond.instanceMethod yX2_hasPlace, Cond.selects RX2 yX2_hasPlace yX2_hasPlace, Cond.code yX2_hasPlace cX2_hasPlace 2 (some .boolean), Cond.methodLink RX2 60 yX2_hasHole, Cond.instanceMethod yX2_hasHole, Cond.selects RX2 yX2_hasHole yX2_hasHole, Cond.code yX2_hasHole cX2_hasHole 2 (some .boolean), Cond.static yX6_bit, Cond.initialized RX6, Cond.code yX6_bit cX6_bit 1 (some .int), Cond.methodLink RX2 63 yX2_pinnedPlaces, Cond.instanceMethod yX2_pinnedPlaces, Cond.selects RX2 yX2_pinnedPlaces yX2_pinnedPlaces, Cond.code yX2_pinnedPlaces cX2_pinnedPlaces 4 (some .int), Cond.methodLink RX2 49 yJ6_bitCount_0f7a4, Cond.static yJ6_bitCount_0f7a4, Cond.initialized RJ6, Cond.code yJ6_bitCount_0f7a4 cJ6_bitCount_0f7a4 1 (some .int), Cond.constant RJ6 265 (1431655765), Cond.constant RJ6 266 (858993459)]
def wsX6_frame_r7 : List Cond := [Cond.constant RJ6 267 (252645135), Cond.methodLink RX5 90 yX5_readPair, Cond.instanceMethod yX5_readPair, Cond.selects RX5 yX5_readPair yX5_readPair, Cond.code yX5_readPair cX5_readPair 1 (some .boolean), Cond.fieldLink RX5 38 "TwinRows$Reader" "distance" "I", Cond.methodLink RX5 110 yJ6_bitCount_0f7a4, Cond.methodLink RX5 116 yX2_setPair, Cond.instanceMethod yX2_setPair, Cond.selects RX2 yX2_setPair yX2_setPair, Cond.code yX2_setPair cX2_setPair 3 (some .int), Cond.methodLink RX2 57 yX2_hasPair, Cond.instanceMethod yX2_hasPair, Cond.selects RX2 yX2_hasPair yX2_hasPair, Cond.code yX2_hasPair cX2_hasPair 2 (some .boolean), Cond.methodLink RX5 95 yX5_readPin, Cond.instanceMethod yX5_readPin, Cond.selects RX5 yX5_readPin yX5_readPin, Cond.code yX5_readPin cX5_readPin 1 (some .boolean), Cond.methodLink RX5 119 yX2_setPin, Cond.instanceMethod yX2_setPin, Cond.selects RX2 yX2_setPin yX2_setPin, Cond.code yX2_setPin cX2_setPin 3 (some .int), Cond.methodLink RX5 66 yX5_endsRow]
def wsX6_frame_r8 : List Cond := [Cond.instanceMethod yX5_endsRow, Cond.selects RX5 yX5_endsRow yX5_endsRow, Cond.code yX5_endsRow cX5_endsRow 1 (some .boolean), Cond.methodLink RX6 94 yX6_becomes, Cond.instanceMethod yX6_becomes, Cond.selects RX6 yX6_becomes yX6_becomes, Cond.code yX6_becomes cX6_becomes 2 none, Cond.fieldLink RX6 30 "TwinRows" "frame" "LTwinRows$Frame;", Cond.fieldLink RX6 40 "TwinRows" "history" "LTwinRows$History;", Cond.fieldLink RX6 60 "TwinRows" "fillings" "LTwinRows$Fillings;", Cond.methodLink RX6 102 yX2_copy, Cond.instanceMethod yX2_copy, Cond.selects RX2 yX2_copy yX2_copy, Cond.code yX2_copy cX2_copy 2 none, Cond.methodLink RX2 31 arraycopyName]
def wsX6_frame : List Cond := .code yX6_frame cX6_frame 3 (some .int) :: ((wsX6_frame_r1 ++ (wsX6_frame_r2 ++ (wsX6_frame_r3 ++ (wsX6_frame_r4 ++ (wsX6_frame_r5 ++ (wsX6_frame_r6 ++ (wsX6_frame_r7 ++ wsX6_frame_r8))))))) ++ wsX60 ++ wsX50 ++ wsX20 ++ wsX30 ++ wsX10)
def wsX6_fault : List Cond := .code yX6_fault cX6_fault 1 (some .int) :: ([.fieldLink RX6 24 "TwinRows" "latestFault" "I"] ++ wsX60)
def wsX6_mostOrder : List Cond := .code yX6_mostOrder cX6_mostOrder 1 (some .int) :: ([])
def wsX6_acted_r1 : List Cond := [Cond.fieldLink RX6 40 "TwinRows" "history" "LTwinRows$History;", Cond.fieldLink RX6 34 "TwinRows" "before" "LTwinRows$Frame;", Cond.fieldLink RX6 60 "TwinRows" "fillings" "LTwinRows$Fillings;", Cond.methodLink RX6 226 yX3_keep, Cond.instanceMethod yX3_keep, Cond.selects RX3 yX3_keep yX3_keep, Cond.initialized RX3, Cond.code yX3_keep cX3_keep 2 none, Cond.fieldLink RX3 17 "TwinRows$History" "latest" "I", Cond.fieldLink RX3 11 "TwinRows$History" "ring" "[LTwinRows$Frame;", Cond.classLink RX3 9 RX2, Cond.instantiable RX2 4, Cond.initialized RX2, Cond.fieldLink RX3 21 "TwinRows$History" "size" "I", Cond.methodLink RX3 29 Lib.Math.min.name, Cond.static Lib.Math.min.name, Cond.initialized "java/lang/Math", Cond.code Lib.Math.min.name Lib.Math.min.code 2 (some .int), Cond.instanceMethod yX2_init, Cond.code yX2_init cX2_init 1 none, Cond.methodLink RX2 3 objectInit, Cond.instanceMethod objectInit, Cond.code objectInit ⟨#[0xb1]⟩ 1 none, Cond.fieldLink RX2 9 "TwinRows$Frame" "cells" "I"]
def wsX6_acted_r2 : List Cond := [Cond.fieldLink RX2 15 "TwinRows$Frame" "holes" "I", Cond.fieldLink RX2 18 "TwinRows$Frame" "pairs" "I", Cond.arrayClass .int, Cond.fieldLink RX2 21 "TwinRows$Frame" "pins" "[I", Cond.methodLink RX3 25 yX2_copy, Cond.instanceMethod yX2_copy, Cond.selects RX2 yX2_copy yX2_copy, Cond.code yX2_copy cX2_copy 2 none, Cond.methodLink RX2 31 arraycopyName, Cond.native arraycopyName, Cond.static arraycopyName, Cond.initialized "java/lang/System"]
def wsX6_acted : List Cond := .code yX6_acted cX6_acted 1 none :: ((wsX6_acted_r1 ++ wsX6_acted_r2) ++ wsX60 ++ wsX10 ++ wsX30 ++ wsX20)
def wsX6_kind_r1 : List Cond := [Cond.fieldLink RX6 34 "TwinRows" "before" "LTwinRows$Frame;", Cond.fieldLink RX6 30 "TwinRows" "frame" "LTwinRows$Frame;", Cond.methodLink RX6 98 yX6_mostOrder, Cond.static yX6_mostOrder, Cond.initialized RX6, Cond.code yX6_mostOrder cX6_mostOrder 1 (some .int), Cond.methodLink RX6 102 yX2_copy, Cond.instanceMethod yX2_copy, Cond.selects RX2 yX2_copy yX2_copy, Cond.initialized RX2, Cond.code yX2_copy cX2_copy 2 none, Cond.fieldLink RX2 9 "TwinRows$Frame" "cells" "I", Cond.fieldLink RX2 15 "TwinRows$Frame" "holes" "I", Cond.fieldLink RX2 18 "TwinRows$Frame" "pairs" "I", Cond.fieldLink RX2 21 "TwinRows$Frame" "pins" "[I", Cond.methodLink RX2 31 arraycopyName, Cond.native arraycopyName, Cond.static arraycopyName, Cond.initialized "java/lang/System", Cond.methodLink RX6 105 yX6_bit, Cond.static yX6_bit, Cond.code yX6_bit cX6_bit 1 (some .int), Cond.methodLink RX6 108 yX2_begin, Cond.instanceMethod yX2_begin]
def wsX6_kind_r2 : List Cond := [Cond.selects RX2 yX2_begin yX2_begin, Cond.code yX2_begin cX2_begin 4 none, Cond.methodLink RX2 25 yJ7_fill_53178, Cond.static yJ7_fill_53178, Cond.initialized RJ7, Cond.code yJ7_fill_53178 cJ7_fill_53178 4 none, Cond.methodLink RX6 112 yX6_acted, Cond.instanceMethod yX6_acted, Cond.selects RX6 yX6_acted yX6_acted, Cond.code yX6_acted cX6_acted 1 none, Cond.fieldLink RX6 40 "TwinRows" "history" "LTwinRows$History;", Cond.fieldLink RX6 60 "TwinRows" "fillings" "LTwinRows$Fillings;", Cond.methodLink RX6 226 yX3_keep, Cond.instanceMethod yX3_keep, Cond.selects RX3 yX3_keep yX3_keep, Cond.initialized RX3, Cond.code yX3_keep cX3_keep 2 none, Cond.fieldLink RX3 17 "TwinRows$History" "latest" "I", Cond.fieldLink RX3 11 "TwinRows$History" "ring" "[LTwinRows$Frame;", Cond.classLink RX3 9 RX2, Cond.instantiable RX2 4, Cond.fieldLink RX3 21 "TwinRows$History" "size" "I", Cond.methodLink RX3 29 Lib.Math.min.name, Cond.static Lib.Math.min.name]
def wsX6_kind_r3 : List Cond := [Cond.initialized "java/lang/Math", Cond.code Lib.Math.min.name Lib.Math.min.code 2 (some .int), Cond.instanceMethod yX2_init, Cond.code yX2_init cX2_init 1 none, Cond.methodLink RX2 3 objectInit, Cond.instanceMethod objectInit, Cond.code objectInit ⟨#[0xb1]⟩ 1 none, Cond.arrayClass .int, Cond.methodLink RX3 25 yX2_copy]
def wsX6_kind : List Cond := .code yX6_kind cX6_kind 4 (some .int) :: ((wsX6_kind_r1 ++ (wsX6_kind_r2 ++ wsX6_kind_r3)) ++ wsX60 ++ wsX20 ++ wsX10 ++ wsX30)
def wsX6_now_r1 : List Cond := [Cond.fieldLink RX6 30 "TwinRows" "frame" "LTwinRows$Frame;", Cond.fieldLink RX6 40 "TwinRows" "history" "LTwinRows$History;", Cond.fieldLink RX6 13 "TwinRows" "tapeLength" "I", Cond.methodLink RX6 124 yX2_pinnedPairs, Cond.instanceMethod yX2_pinnedPairs, Cond.selects RX2 yX2_pinnedPairs yX2_pinnedPairs, Cond.initialized RX2, Cond.code yX2_pinnedPairs cX2_pinnedPairs 3 (some .int), Cond.fieldLink RX2 21 "TwinRows$Frame" "pins" "[I", Cond.static yX6_bit, Cond.initialized RX6, Cond.code yX6_bit cX6_bit 1 (some .int), Cond.methodLink RX6 128 yX2_isEven, Cond.instanceMethod yX2_isEven, Cond.selects RX2 yX2_isEven yX2_isEven, Cond.code yX2_isEven cX2_isEven 2 (some .boolean), Cond.fieldLink RX2 18 "TwinRows$Frame" "pairs" "I", Cond.methodLink RX2 45 yX2_placesToFill, Cond.instanceMethod yX2_placesToFill, Cond.selects RX2 yX2_placesToFill yX2_placesToFill, Cond.code yX2_placesToFill cX2_placesToFill 1 (some .int), Cond.fieldLink RX2 9 "TwinRows$Frame" "cells" "I", Cond.fieldLink RX2 15 "TwinRows$Frame" "holes" "I", Cond.methodLink RX2 49 yJ6_bitCount_0f7a4]
def wsX6_now_r2 : List Cond := [Cond.static yJ6_bitCount_0f7a4, Cond.initialized RJ6, Cond.code yJ6_bitCount_0f7a4 cJ6_bitCount_0f7a4 1 (some .int), Cond.constant RJ6 265 (1431655765), Cond.constant RJ6 266 (858993459), Cond.constant RJ6 267 (252645135), Cond.methodLink RX2 54 yX2_sumOf, Cond.static yX2_sumOf, Cond.code yX2_sumOf cX2_sumOf 3 (some .int)]
def wsX6_now : List Cond := .code yX6_now cX6_now 2 (some .int) :: ((wsX6_now_r1 ++ wsX6_now_r2) ++ wsX60 ++ wsX20 ++ wsX30)
def wsX6_pinned : List Cond := .code yX6_pinned cX6_pinned 2 (some .int) :: ([.fieldLink RX6 30 "TwinRows" "frame" "LTwinRows$Frame;", .methodLink RX6 135 yX2_hasPair, .instanceMethod yX2_hasPair, .selects RX2 yX2_hasPair yX2_hasPair, .initialized RX2, .code yX2_hasPair cX2_hasPair 2 (some .boolean), .fieldLink RX2 18 "TwinRows$Frame" "pairs" "I", .static yX6_bit, .initialized RX6, .code yX6_bit cX6_bit 1 (some .int)] ++ wsX60 ++ wsX20)
def wsX6_counted_r1 : List Cond := [Cond.fieldLink RX6 60 "TwinRows" "fillings" "LTwinRows$Fillings;", Cond.fieldLink RX6 30 "TwinRows" "frame" "LTwinRows$Frame;", Cond.methodLink RX6 192 yX1_countAll, Cond.instanceMethod yX1_countAll, Cond.selects RX1 yX1_countAll yX1_countAll, Cond.initialized RX1, Cond.code yX1_countAll cX1_countAll 3 none, Cond.fieldLink RX1 27 "TwinRows$Fillings" "isCounted" "Z", Cond.fieldLink RX1 35 "TwinRows$Fillings" "count" "I", Cond.fieldLink RX1 24 "TwinRows$Fillings" "firsts" "[[I", Cond.methodLink RX1 47 yJ7_fill_53178, Cond.static yJ7_fill_53178, Cond.initialized RJ7, Cond.code yJ7_fill_53178 cJ7_fill_53178 4 none, Cond.methodLink RX1 53 yX1_nameDigits, Cond.instanceMethod yX1_nameDigits, Cond.selects RX1 yX1_nameDigits yX1_nameDigits, Cond.code yX1_nameDigits cX1_nameDigits 4 none, Cond.fieldLink RX1 15 "TwinRows$Fillings" "digits" "[I", Cond.fieldLink RX1 19 "TwinRows$Fillings" "distances" "[I", Cond.methodLink RX1 89 yX2_hasPair, Cond.instanceMethod yX2_hasPair, Cond.selects RX2 yX2_hasPair yX2_hasPair, Cond.initialized RX2]
def wsX6_counted_r2 : List Cond := [Cond.code yX2_hasPair cX2_hasPair 2 (some .boolean), Cond.fieldLink RX2 18 "TwinRows$Frame" "pairs" "I", Cond.static yX6_bit, Cond.initialized RX6, Cond.code yX6_bit cX6_bit 1 (some .int), Cond.methodLink RX1 57 yX1_weighPlaces, Cond.instanceMethod yX1_weighPlaces, Cond.selects RX1 yX1_weighPlaces yX1_weighPlaces, Cond.code yX1_weighPlaces cX1_weighPlaces 5 none, Cond.methodLink RX1 94 Lib.Math.min.name, Cond.static Lib.Math.min.name, Cond.initialized "java/lang/Math", Cond.code Lib.Math.min.name Lib.Math.min.code 2 (some .int), Cond.fieldLink RX1 31 "TwinRows$Fillings" "cells" "I", Cond.fieldLink RX1 9 "TwinRows$Fillings" "weights" "[J", Cond.constantLong RX1 97 (10), Cond.methodLink RX1 60 yX2_isEven, Cond.instanceMethod yX2_isEven, Cond.selects RX2 yX2_isEven yX2_isEven, Cond.code yX2_isEven cX2_isEven 2 (some .boolean), Cond.methodLink RX2 45 yX2_placesToFill, Cond.instanceMethod yX2_placesToFill, Cond.selects RX2 yX2_placesToFill yX2_placesToFill, Cond.code yX2_placesToFill cX2_placesToFill 1 (some .int)]
def wsX6_counted_r3 : List Cond := [Cond.fieldLink RX2 9 "TwinRows$Frame" "cells" "I", Cond.fieldLink RX2 15 "TwinRows$Frame" "holes" "I", Cond.methodLink RX2 49 yJ6_bitCount_0f7a4, Cond.static yJ6_bitCount_0f7a4, Cond.initialized RJ6, Cond.code yJ6_bitCount_0f7a4 cJ6_bitCount_0f7a4 1 (some .int), Cond.constant RJ6 265 (1431655765), Cond.constant RJ6 266 (858993459), Cond.constant RJ6 267 (252645135), Cond.methodLink RX2 54 yX2_sumOf, Cond.static yX2_sumOf, Cond.code yX2_sumOf cX2_sumOf 3 (some .int), Cond.methodLink RX1 66 yX2_placesToFill, Cond.methodLink RX1 70 yX2_pinnedPlaces, Cond.instanceMethod yX2_pinnedPlaces, Cond.selects RX2 yX2_pinnedPlaces yX2_pinnedPlaces, Cond.code yX2_pinnedPlaces cX2_pinnedPlaces 4 (some .int), Cond.fieldLink RX2 21 "TwinRows$Frame" "pins" "[I", Cond.methodLink RX1 77 yX2_pinnedPairs, Cond.instanceMethod yX2_pinnedPairs, Cond.selects RX2 yX2_pinnedPairs yX2_pinnedPairs, Cond.code yX2_pinnedPairs cX2_pinnedPairs 3 (some .int), Cond.methodLink RX1 80 yX1_fill, Cond.instanceMethod yX1_fill]
def wsX6_counted_r4 : List Cond := [Cond.selects RX1 yX1_fill yX1_fill, Cond.code yX1_fill cX1_fill 10 none, Cond.methodLink RX1 102 yX1_keep, Cond.instanceMethod yX1_keep, Cond.selects RX1 yX1_keep yX1_keep, Cond.code yX1_keep cX1_keep 1 none, Cond.fieldLink RX1 44 "TwinRows$Fillings" "numbers" "[J", Cond.methodLink RX1 105 yJ6_bitCount_0f7a4, Cond.methodLink RX1 86 yX1_stand, Cond.instanceMethod yX1_stand, Cond.selects RX1 yX1_stand yX1_stand, Cond.code yX1_stand cX1_stand 7 none]
def wsX6_counted : List Cond := .code yX6_counted cX6_counted 1 (some (.object "TwinRows$Fillings")) :: ((wsX6_counted_r1 ++ (wsX6_counted_r2 ++ (wsX6_counted_r3 ++ wsX6_counted_r4))) ++ wsX60 ++ wsX10 ++ wsX20)
def wsX6_ways_r1 : List Cond := [Cond.methodLink RX6 142 yX6_counted, Cond.instanceMethod yX6_counted, Cond.selects RX6 yX6_counted yX6_counted, Cond.initialized RX6, Cond.code yX6_counted cX6_counted 1 (some (.object "TwinRows$Fillings")), Cond.fieldLink RX6 60 "TwinRows" "fillings" "LTwinRows$Fillings;", Cond.fieldLink RX6 30 "TwinRows" "frame" "LTwinRows$Frame;", Cond.methodLink RX6 192 yX1_countAll, Cond.instanceMethod yX1_countAll, Cond.selects RX1 yX1_countAll yX1_countAll, Cond.initialized RX1, Cond.code yX1_countAll cX1_countAll 3 none, Cond.fieldLink RX1 27 "TwinRows$Fillings" "isCounted" "Z", Cond.fieldLink RX1 35 "TwinRows$Fillings" "count" "I", Cond.fieldLink RX1 24 "TwinRows$Fillings" "firsts" "[[I", Cond.methodLink RX1 47 yJ7_fill_53178, Cond.static yJ7_fill_53178, Cond.initialized RJ7, Cond.code yJ7_fill_53178 cJ7_fill_53178 4 none, Cond.methodLink RX1 53 yX1_nameDigits, Cond.instanceMethod yX1_nameDigits, Cond.selects RX1 yX1_nameDigits yX1_nameDigits, Cond.code yX1_nameDigits cX1_nameDigits 4 none, Cond.fieldLink RX1 15 "TwinRows$Fillings" "digits" "[I"]
def wsX6_ways_r2 : List Cond := [Cond.fieldLink RX1 19 "TwinRows$Fillings" "distances" "[I", Cond.methodLink RX1 89 yX2_hasPair, Cond.instanceMethod yX2_hasPair, Cond.selects RX2 yX2_hasPair yX2_hasPair, Cond.initialized RX2, Cond.code yX2_hasPair cX2_hasPair 2 (some .boolean), Cond.fieldLink RX2 18 "TwinRows$Frame" "pairs" "I", Cond.static yX6_bit, Cond.code yX6_bit cX6_bit 1 (some .int), Cond.methodLink RX1 57 yX1_weighPlaces, Cond.instanceMethod yX1_weighPlaces, Cond.selects RX1 yX1_weighPlaces yX1_weighPlaces, Cond.code yX1_weighPlaces cX1_weighPlaces 5 none, Cond.methodLink RX1 94 Lib.Math.min.name, Cond.static Lib.Math.min.name, Cond.initialized "java/lang/Math", Cond.code Lib.Math.min.name Lib.Math.min.code 2 (some .int), Cond.fieldLink RX1 31 "TwinRows$Fillings" "cells" "I", Cond.fieldLink RX1 9 "TwinRows$Fillings" "weights" "[J", Cond.constantLong RX1 97 (10), Cond.methodLink RX1 60 yX2_isEven, Cond.instanceMethod yX2_isEven, Cond.selects RX2 yX2_isEven yX2_isEven, Cond.code yX2_isEven cX2_isEven 2 (some .boolean)]
def wsX6_ways_r3 : List Cond := [Cond.methodLink RX2 45 yX2_placesToFill, Cond.instanceMethod yX2_placesToFill, Cond.selects RX2 yX2_placesToFill yX2_placesToFill, Cond.code yX2_placesToFill cX2_placesToFill 1 (some .int), Cond.fieldLink RX2 9 "TwinRows$Frame" "cells" "I", Cond.fieldLink RX2 15 "TwinRows$Frame" "holes" "I", Cond.methodLink RX2 49 yJ6_bitCount_0f7a4, Cond.static yJ6_bitCount_0f7a4, Cond.initialized RJ6, Cond.code yJ6_bitCount_0f7a4 cJ6_bitCount_0f7a4 1 (some .int), Cond.constant RJ6 265 (1431655765), Cond.constant RJ6 266 (858993459), Cond.constant RJ6 267 (252645135), Cond.methodLink RX2 54 yX2_sumOf, Cond.static yX2_sumOf, Cond.code yX2_sumOf cX2_sumOf 3 (some .int), Cond.methodLink RX1 66 yX2_placesToFill, Cond.methodLink RX1 70 yX2_pinnedPlaces, Cond.instanceMethod yX2_pinnedPlaces, Cond.selects RX2 yX2_pinnedPlaces yX2_pinnedPlaces, Cond.code yX2_pinnedPlaces cX2_pinnedPlaces 4 (some .int), Cond.fieldLink RX2 21 "TwinRows$Frame" "pins" "[I", Cond.methodLink RX1 77 yX2_pinnedPairs, Cond.instanceMethod yX2_pinnedPairs]
def wsX6_ways_r4 : List Cond := [Cond.selects RX2 yX2_pinnedPairs yX2_pinnedPairs, Cond.code yX2_pinnedPairs cX2_pinnedPairs 3 (some .int), Cond.methodLink RX1 80 yX1_fill, Cond.instanceMethod yX1_fill, Cond.selects RX1 yX1_fill yX1_fill, Cond.code yX1_fill cX1_fill 10 none, Cond.methodLink RX1 102 yX1_keep, Cond.instanceMethod yX1_keep, Cond.selects RX1 yX1_keep yX1_keep, Cond.code yX1_keep cX1_keep 1 none, Cond.fieldLink RX1 44 "TwinRows$Fillings" "numbers" "[J", Cond.methodLink RX1 105 yJ6_bitCount_0f7a4, Cond.methodLink RX1 86 yX1_stand, Cond.instanceMethod yX1_stand, Cond.selects RX1 yX1_stand yX1_stand, Cond.code yX1_stand cX1_stand 7 none]
def wsX6_ways : List Cond := .code yX6_ways cX6_ways 1 (some .int) :: ((wsX6_ways_r1 ++ (wsX6_ways_r2 ++ (wsX6_ways_r3 ++ wsX6_ways_r4))) ++ wsX10 ++ wsX60 ++ wsX20)
def wsX6_row_r1 : List Cond := [Cond.classLink RX6 152 "java/util/NoSuchElementException", Cond.initialized "java/util/NoSuchElementException", Cond.fieldLink RX6 77 "TwinRows" "told" "[I", Cond.fieldLink RX6 73 "TwinRows" "look" "LTwinRows$Look;", Cond.fieldLink RX6 30 "TwinRows" "frame" "LTwinRows$Frame;", Cond.methodLink RX6 142 yX6_counted, Cond.instanceMethod yX6_counted, Cond.selects RX6 yX6_counted yX6_counted, Cond.initialized RX6, Cond.code yX6_counted cX6_counted 1 (some (.object "TwinRows$Fillings")), Cond.fieldLink RX6 60 "TwinRows" "fillings" "LTwinRows$Fillings;", Cond.methodLink RX6 192 yX1_countAll, Cond.instanceMethod yX1_countAll, Cond.selects RX1 yX1_countAll yX1_countAll, Cond.initialized RX1, Cond.code yX1_countAll cX1_countAll 3 none, Cond.fieldLink RX1 27 "TwinRows$Fillings" "isCounted" "Z", Cond.fieldLink RX1 35 "TwinRows$Fillings" "count" "I", Cond.fieldLink RX1 24 "TwinRows$Fillings" "firsts" "[[I", Cond.methodLink RX1 47 yJ7_fill_53178, Cond.static yJ7_fill_53178, Cond.initialized RJ7, Cond.code yJ7_fill_53178 cJ7_fill_53178 4 none, Cond.methodLink RX1 53 yX1_nameDigits]
def wsX6_row_r2 : List Cond := [Cond.instanceMethod yX1_nameDigits, Cond.selects RX1 yX1_nameDigits yX1_nameDigits, Cond.code yX1_nameDigits cX1_nameDigits 4 none, Cond.fieldLink RX1 15 "TwinRows$Fillings" "digits" "[I", Cond.fieldLink RX1 19 "TwinRows$Fillings" "distances" "[I", Cond.methodLink RX1 89 yX2_hasPair, Cond.instanceMethod yX2_hasPair, Cond.selects RX2 yX2_hasPair yX2_hasPair, Cond.initialized RX2, Cond.code yX2_hasPair cX2_hasPair 2 (some .boolean), Cond.fieldLink RX2 18 "TwinRows$Frame" "pairs" "I", Cond.static yX6_bit, Cond.code yX6_bit cX6_bit 1 (some .int), Cond.methodLink RX1 57 yX1_weighPlaces, Cond.instanceMethod yX1_weighPlaces, Cond.selects RX1 yX1_weighPlaces yX1_weighPlaces, Cond.code yX1_weighPlaces cX1_weighPlaces 5 none, Cond.methodLink RX1 94 Lib.Math.min.name, Cond.static Lib.Math.min.name, Cond.initialized "java/lang/Math", Cond.code Lib.Math.min.name Lib.Math.min.code 2 (some .int), Cond.fieldLink RX1 31 "TwinRows$Fillings" "cells" "I", Cond.fieldLink RX1 9 "TwinRows$Fillings" "weights" "[J", Cond.constantLong RX1 97 (10)]
def wsX6_row_r3 : List Cond := [Cond.methodLink RX1 60 yX2_isEven, Cond.instanceMethod yX2_isEven, Cond.selects RX2 yX2_isEven yX2_isEven, Cond.code yX2_isEven cX2_isEven 2 (some .boolean), Cond.methodLink RX2 45 yX2_placesToFill, Cond.instanceMethod yX2_placesToFill, Cond.selects RX2 yX2_placesToFill yX2_placesToFill, Cond.code yX2_placesToFill cX2_placesToFill 1 (some .int), Cond.fieldLink RX2 9 "TwinRows$Frame" "cells" "I", Cond.fieldLink RX2 15 "TwinRows$Frame" "holes" "I", Cond.methodLink RX2 49 yJ6_bitCount_0f7a4, Cond.static yJ6_bitCount_0f7a4, Cond.initialized RJ6, Cond.code yJ6_bitCount_0f7a4 cJ6_bitCount_0f7a4 1 (some .int), Cond.constant RJ6 265 (1431655765), Cond.constant RJ6 266 (858993459), Cond.constant RJ6 267 (252645135), Cond.methodLink RX2 54 yX2_sumOf, Cond.static yX2_sumOf, Cond.code yX2_sumOf cX2_sumOf 3 (some .int), Cond.methodLink RX1 66 yX2_placesToFill, Cond.methodLink RX1 70 yX2_pinnedPlaces, Cond.instanceMethod yX2_pinnedPlaces, Cond.selects RX2 yX2_pinnedPlaces yX2_pinnedPlaces]
def wsX6_row_r4 : List Cond := [Cond.code yX2_pinnedPlaces cX2_pinnedPlaces 4 (some .int), Cond.fieldLink RX2 21 "TwinRows$Frame" "pins" "[I", Cond.methodLink RX1 77 yX2_pinnedPairs, Cond.instanceMethod yX2_pinnedPairs, Cond.selects RX2 yX2_pinnedPairs yX2_pinnedPairs, Cond.code yX2_pinnedPairs cX2_pinnedPairs 3 (some .int), Cond.methodLink RX1 80 yX1_fill, Cond.instanceMethod yX1_fill, Cond.selects RX1 yX1_fill yX1_fill, Cond.code yX1_fill cX1_fill 10 none, Cond.methodLink RX1 102 yX1_keep, Cond.instanceMethod yX1_keep, Cond.selects RX1 yX1_keep yX1_keep, Cond.code yX1_keep cX1_keep 1 none, Cond.fieldLink RX1 44 "TwinRows$Fillings" "numbers" "[J", Cond.methodLink RX1 105 yJ6_bitCount_0f7a4, Cond.methodLink RX1 86 yX1_stand, Cond.instanceMethod yX1_stand, Cond.selects RX1 yX1_stand yX1_stand, Cond.code yX1_stand cX1_stand 7 none, Cond.methodLink RX6 149 yX1_hasRank, Cond.instanceMethod yX1_hasRank, Cond.selects RX1 yX1_hasRank yX1_hasRank, Cond.code yX1_hasRank cX1_hasRank 2 (some .boolean)]
def wsX6_row_r5 : List Cond := [Cond.methodLink RX6 155 yX1_tell, Cond.instanceMethod yX1_tell, Cond.selects RX1 yX1_tell yX1_tell, Cond.code yX1_tell cX1_tell 7 none, Cond.methodLink RX1 110 yX1_hasRank, Cond.methodLink RX6 159 yX4_take, Cond.instanceMethod yX4_take, Cond.selects RX4 yX4_take yX4_take, Cond.initialized RX4, Cond.code yX4_take cX4_take 5 none, Cond.methodLink RX4 28 Lib.Math.min.name, Cond.fieldLink RX4 18 "TwinRows$Look" "places" "I", Cond.fieldLink RX4 9 "TwinRows$Look" "numbers" "[I", Cond.fieldLink RX4 15 "TwinRows$Look" "firsts" "[I", Cond.methodLink RX4 34 yX4_clear, Cond.instanceMethod yX4_clear, Cond.selects RX4 yX4_clear yX4_clear, Cond.code yX4_clear cX4_clear 2 none, Cond.methodLink RX4 22 yJ7_fill_53178, Cond.methodLink RX6 163 yX4_numberAt, Cond.instanceMethod yX4_numberAt, Cond.selects RX4 yX4_numberAt yX4_numberAt, Cond.code yX4_numberAt cX4_numberAt 2 (some .int)]
def wsX6_row : List Cond := .code yX6_row cX6_row 3 (some .int) :: ((wsX6_row_r1 ++ (wsX6_row_r2 ++ (wsX6_row_r3 ++ (wsX6_row_r4 ++ wsX6_row_r5)))) ++ wsX60 ++ wsX20 ++ wsX10 ++ wsX40 ++ (vx_at0 RX6 154 "java/util/NoSuchElementException" ["java/lang/RuntimeException", "java/lang/Exception"]).filter goodWord)
def wsX6_at : List Cond := .code yX6_at cX6_at 2 (some .int) :: ([.fieldLink RX6 73 "TwinRows" "look" "LTwinRows$Look;", .methodLink RX6 163 yX4_numberAt, .instanceMethod yX4_numberAt, .selects RX4 yX4_numberAt yX4_numberAt, .initialized RX4, .code yX4_numberAt cX4_numberAt 2 (some .int), .fieldLink RX4 18 "TwinRows$Look" "places" "I", .fieldLink RX4 9 "TwinRows$Look" "numbers" "[I"] ++ wsX60 ++ wsX40)
def wsX6_first : List Cond := .code yX6_first cX6_first 2 (some .int) :: ([.fieldLink RX6 73 "TwinRows" "look" "LTwinRows$Look;", .methodLink RX6 166 yX4_firstOf, .instanceMethod yX4_firstOf, .selects RX4 yX4_firstOf yX4_firstOf, .initialized RX4, .code yX4_firstOf cX4_firstOf 2 (some .int), .fieldLink RX4 15 "TwinRows$Look" "firsts" "[I"] ++ wsX60 ++ wsX40)
def wsX6_lookAtTold_r1 : List Cond := [Cond.fieldLink RX6 77 "TwinRows" "told" "[I", Cond.fieldLink RX6 73 "TwinRows" "look" "LTwinRows$Look;", Cond.fieldLink RX6 30 "TwinRows" "frame" "LTwinRows$Frame;", Cond.methodLink RX6 142 yX6_counted, Cond.instanceMethod yX6_counted, Cond.selects RX6 yX6_counted yX6_counted, Cond.initialized RX6, Cond.code yX6_counted cX6_counted 1 (some (.object "TwinRows$Fillings")), Cond.fieldLink RX6 60 "TwinRows" "fillings" "LTwinRows$Fillings;", Cond.methodLink RX6 192 yX1_countAll, Cond.instanceMethod yX1_countAll, Cond.selects RX1 yX1_countAll yX1_countAll, Cond.initialized RX1, Cond.code yX1_countAll cX1_countAll 3 none, Cond.fieldLink RX1 27 "TwinRows$Fillings" "isCounted" "Z", Cond.fieldLink RX1 35 "TwinRows$Fillings" "count" "I", Cond.fieldLink RX1 24 "TwinRows$Fillings" "firsts" "[[I", Cond.methodLink RX1 47 yJ7_fill_53178, Cond.static yJ7_fill_53178, Cond.initialized RJ7, Cond.code yJ7_fill_53178 cJ7_fill_53178 4 none, Cond.methodLink RX1 53 yX1_nameDigits, Cond.instanceMethod yX1_nameDigits, Cond.selects RX1 yX1_nameDigits yX1_nameDigits]
def wsX6_lookAtTold_r2 : List Cond := [Cond.code yX1_nameDigits cX1_nameDigits 4 none, Cond.fieldLink RX1 15 "TwinRows$Fillings" "digits" "[I", Cond.fieldLink RX1 19 "TwinRows$Fillings" "distances" "[I", Cond.methodLink RX1 89 yX2_hasPair, Cond.instanceMethod yX2_hasPair, Cond.selects RX2 yX2_hasPair yX2_hasPair, Cond.initialized RX2, Cond.code yX2_hasPair cX2_hasPair 2 (some .boolean), Cond.fieldLink RX2 18 "TwinRows$Frame" "pairs" "I", Cond.static yX6_bit, Cond.code yX6_bit cX6_bit 1 (some .int), Cond.methodLink RX1 57 yX1_weighPlaces, Cond.instanceMethod yX1_weighPlaces, Cond.selects RX1 yX1_weighPlaces yX1_weighPlaces, Cond.code yX1_weighPlaces cX1_weighPlaces 5 none, Cond.methodLink RX1 94 Lib.Math.min.name, Cond.static Lib.Math.min.name, Cond.initialized "java/lang/Math", Cond.code Lib.Math.min.name Lib.Math.min.code 2 (some .int), Cond.fieldLink RX1 31 "TwinRows$Fillings" "cells" "I", Cond.fieldLink RX1 9 "TwinRows$Fillings" "weights" "[J", Cond.constantLong RX1 97 (10), Cond.methodLink RX1 60 yX2_isEven, Cond.instanceMethod yX2_isEven]
def wsX6_lookAtTold_r3 : List Cond := [Cond.selects RX2 yX2_isEven yX2_isEven, Cond.code yX2_isEven cX2_isEven 2 (some .boolean), Cond.methodLink RX2 45 yX2_placesToFill, Cond.instanceMethod yX2_placesToFill, Cond.selects RX2 yX2_placesToFill yX2_placesToFill, Cond.code yX2_placesToFill cX2_placesToFill 1 (some .int), Cond.fieldLink RX2 9 "TwinRows$Frame" "cells" "I", Cond.fieldLink RX2 15 "TwinRows$Frame" "holes" "I", Cond.methodLink RX2 49 yJ6_bitCount_0f7a4, Cond.static yJ6_bitCount_0f7a4, Cond.initialized RJ6, Cond.code yJ6_bitCount_0f7a4 cJ6_bitCount_0f7a4 1 (some .int), Cond.constant RJ6 265 (1431655765), Cond.constant RJ6 266 (858993459), Cond.constant RJ6 267 (252645135), Cond.methodLink RX2 54 yX2_sumOf, Cond.static yX2_sumOf, Cond.code yX2_sumOf cX2_sumOf 3 (some .int), Cond.methodLink RX1 66 yX2_placesToFill, Cond.methodLink RX1 70 yX2_pinnedPlaces, Cond.instanceMethod yX2_pinnedPlaces, Cond.selects RX2 yX2_pinnedPlaces yX2_pinnedPlaces, Cond.code yX2_pinnedPlaces cX2_pinnedPlaces 4 (some .int), Cond.fieldLink RX2 21 "TwinRows$Frame" "pins" "[I"]
def wsX6_lookAtTold_r4 : List Cond := [Cond.methodLink RX1 77 yX2_pinnedPairs, Cond.instanceMethod yX2_pinnedPairs, Cond.selects RX2 yX2_pinnedPairs yX2_pinnedPairs, Cond.code yX2_pinnedPairs cX2_pinnedPairs 3 (some .int), Cond.methodLink RX1 80 yX1_fill, Cond.instanceMethod yX1_fill, Cond.selects RX1 yX1_fill yX1_fill, Cond.code yX1_fill cX1_fill 10 none, Cond.methodLink RX1 102 yX1_keep, Cond.instanceMethod yX1_keep, Cond.selects RX1 yX1_keep yX1_keep, Cond.code yX1_keep cX1_keep 1 none, Cond.fieldLink RX1 44 "TwinRows$Fillings" "numbers" "[J", Cond.methodLink RX1 105 yJ6_bitCount_0f7a4, Cond.methodLink RX1 86 yX1_stand, Cond.instanceMethod yX1_stand, Cond.selects RX1 yX1_stand yX1_stand, Cond.code yX1_stand cX1_stand 7 none, Cond.methodLink RX6 175 yX1_rankOf, Cond.instanceMethod yX1_rankOf, Cond.selects RX1 yX1_rankOf yX1_rankOf, Cond.code yX1_rankOf cX1_rankOf 6 (some .int), Cond.methodLink RX1 113 yX1_rankOfNumber, Cond.instanceMethod yX1_rankOfNumber]
def wsX6_lookAtTold_r5 : List Cond := [Cond.selects RX1 yX1_rankOfNumber yX1_rankOfNumber, Cond.code yX1_rankOfNumber cX1_rankOfNumber 6 (some .int), Cond.methodLink RX6 159 yX4_take, Cond.instanceMethod yX4_take, Cond.selects RX4 yX4_take yX4_take, Cond.initialized RX4, Cond.code yX4_take cX4_take 5 none, Cond.methodLink RX4 28 Lib.Math.min.name, Cond.fieldLink RX4 18 "TwinRows$Look" "places" "I", Cond.fieldLink RX4 9 "TwinRows$Look" "numbers" "[I", Cond.fieldLink RX4 15 "TwinRows$Look" "firsts" "[I", Cond.methodLink RX4 34 yX4_clear, Cond.instanceMethod yX4_clear, Cond.selects RX4 yX4_clear yX4_clear, Cond.code yX4_clear cX4_clear 2 none, Cond.methodLink RX4 22 yJ7_fill_53178]
def wsX6_lookAtTold : List Cond := .code yX6_lookAtTold cX6_lookAtTold 2 (some .int) :: ((wsX6_lookAtTold_r1 ++ (wsX6_lookAtTold_r2 ++ (wsX6_lookAtTold_r3 ++ (wsX6_lookAtTold_r4 ++ wsX6_lookAtTold_r5)))) ++ wsX60 ++ wsX20 ++ wsX10 ++ wsX40)
def wsX6_rank_r1 : List Cond := [Cond.fieldLink RX6 13 "TwinRows" "tapeLength" "I", Cond.fieldLink RX6 30 "TwinRows" "frame" "LTwinRows$Frame;", Cond.fieldLink RX6 77 "TwinRows" "told" "[I", Cond.fieldLink RX6 9 "TwinRows" "tape" "[B", Cond.methodLink RX6 169 yX6_lookAtTold, Cond.instanceMethod yX6_lookAtTold, Cond.selects RX6 yX6_lookAtTold yX6_lookAtTold, Cond.initialized RX6, Cond.code yX6_lookAtTold cX6_lookAtTold 2 (some .int), Cond.fieldLink RX6 73 "TwinRows" "look" "LTwinRows$Look;", Cond.methodLink RX6 142 yX6_counted, Cond.instanceMethod yX6_counted, Cond.selects RX6 yX6_counted yX6_counted, Cond.code yX6_counted cX6_counted 1 (some (.object "TwinRows$Fillings")), Cond.fieldLink RX6 60 "TwinRows" "fillings" "LTwinRows$Fillings;", Cond.methodLink RX6 192 yX1_countAll, Cond.instanceMethod yX1_countAll, Cond.selects RX1 yX1_countAll yX1_countAll, Cond.initialized RX1, Cond.code yX1_countAll cX1_countAll 3 none, Cond.fieldLink RX1 27 "TwinRows$Fillings" "isCounted" "Z", Cond.fieldLink RX1 35 "TwinRows$Fillings" "count" "I", Cond.fieldLink RX1 24 "TwinRows$Fillings" "firsts" "[[I", Cond.methodLink RX1 47 yJ7_fill_53178]
def wsX6_rank_r2 : List Cond := [Cond.static yJ7_fill_53178, Cond.initialized RJ7, Cond.code yJ7_fill_53178 cJ7_fill_53178 4 none, Cond.methodLink RX1 53 yX1_nameDigits, Cond.instanceMethod yX1_nameDigits, Cond.selects RX1 yX1_nameDigits yX1_nameDigits, Cond.code yX1_nameDigits cX1_nameDigits 4 none, Cond.fieldLink RX1 15 "TwinRows$Fillings" "digits" "[I", Cond.fieldLink RX1 19 "TwinRows$Fillings" "distances" "[I", Cond.methodLink RX1 89 yX2_hasPair, Cond.instanceMethod yX2_hasPair, Cond.selects RX2 yX2_hasPair yX2_hasPair, Cond.initialized RX2, Cond.code yX2_hasPair cX2_hasPair 2 (some .boolean), Cond.fieldLink RX2 18 "TwinRows$Frame" "pairs" "I", Cond.static yX6_bit, Cond.code yX6_bit cX6_bit 1 (some .int), Cond.methodLink RX1 57 yX1_weighPlaces, Cond.instanceMethod yX1_weighPlaces, Cond.selects RX1 yX1_weighPlaces yX1_weighPlaces, Cond.code yX1_weighPlaces cX1_weighPlaces 5 none, Cond.methodLink RX1 94 Lib.Math.min.name, Cond.static Lib.Math.min.name, Cond.initialized "java/lang/Math"]
def wsX6_rank_r3 : List Cond := [Cond.code Lib.Math.min.name Lib.Math.min.code 2 (some .int), Cond.fieldLink RX1 31 "TwinRows$Fillings" "cells" "I", Cond.fieldLink RX1 9 "TwinRows$Fillings" "weights" "[J", Cond.constantLong RX1 97 (10), Cond.methodLink RX1 60 yX2_isEven, Cond.instanceMethod yX2_isEven, Cond.selects RX2 yX2_isEven yX2_isEven, Cond.code yX2_isEven cX2_isEven 2 (some .boolean), Cond.methodLink RX2 45 yX2_placesToFill, Cond.instanceMethod yX2_placesToFill, Cond.selects RX2 yX2_placesToFill yX2_placesToFill, Cond.code yX2_placesToFill cX2_placesToFill 1 (some .int), Cond.fieldLink RX2 9 "TwinRows$Frame" "cells" "I", Cond.fieldLink RX2 15 "TwinRows$Frame" "holes" "I", Cond.methodLink RX2 49 yJ6_bitCount_0f7a4, Cond.static yJ6_bitCount_0f7a4, Cond.initialized RJ6, Cond.code yJ6_bitCount_0f7a4 cJ6_bitCount_0f7a4 1 (some .int), Cond.constant RJ6 265 (1431655765), Cond.constant RJ6 266 (858993459), Cond.constant RJ6 267 (252645135), Cond.methodLink RX2 54 yX2_sumOf, Cond.static yX2_sumOf, Cond.code yX2_sumOf cX2_sumOf 3 (some .int)]
def wsX6_rank_r4 : List Cond := [Cond.methodLink RX1 66 yX2_placesToFill, Cond.methodLink RX1 70 yX2_pinnedPlaces, Cond.instanceMethod yX2_pinnedPlaces, Cond.selects RX2 yX2_pinnedPlaces yX2_pinnedPlaces, Cond.code yX2_pinnedPlaces cX2_pinnedPlaces 4 (some .int), Cond.fieldLink RX2 21 "TwinRows$Frame" "pins" "[I", Cond.methodLink RX1 77 yX2_pinnedPairs, Cond.instanceMethod yX2_pinnedPairs, Cond.selects RX2 yX2_pinnedPairs yX2_pinnedPairs, Cond.code yX2_pinnedPairs cX2_pinnedPairs 3 (some .int), Cond.methodLink RX1 80 yX1_fill, Cond.instanceMethod yX1_fill, Cond.selects RX1 yX1_fill yX1_fill, Cond.code yX1_fill cX1_fill 10 none, Cond.methodLink RX1 102 yX1_keep, Cond.instanceMethod yX1_keep, Cond.selects RX1 yX1_keep yX1_keep, Cond.code yX1_keep cX1_keep 1 none, Cond.fieldLink RX1 44 "TwinRows$Fillings" "numbers" "[J", Cond.methodLink RX1 105 yJ6_bitCount_0f7a4, Cond.methodLink RX1 86 yX1_stand, Cond.instanceMethod yX1_stand, Cond.selects RX1 yX1_stand yX1_stand, Cond.code yX1_stand cX1_stand 7 none]
def wsX6_rank_r5 : List Cond := [Cond.methodLink RX6 175 yX1_rankOf, Cond.instanceMethod yX1_rankOf, Cond.selects RX1 yX1_rankOf yX1_rankOf, Cond.code yX1_rankOf cX1_rankOf 6 (some .int), Cond.methodLink RX1 113 yX1_rankOfNumber, Cond.instanceMethod yX1_rankOfNumber, Cond.selects RX1 yX1_rankOfNumber yX1_rankOfNumber, Cond.code yX1_rankOfNumber cX1_rankOfNumber 6 (some .int), Cond.methodLink RX6 159 yX4_take, Cond.instanceMethod yX4_take, Cond.selects RX4 yX4_take yX4_take, Cond.initialized RX4, Cond.code yX4_take cX4_take 5 none, Cond.methodLink RX4 28 Lib.Math.min.name, Cond.fieldLink RX4 18 "TwinRows$Look" "places" "I", Cond.fieldLink RX4 9 "TwinRows$Look" "numbers" "[I", Cond.fieldLink RX4 15 "TwinRows$Look" "firsts" "[I", Cond.methodLink RX4 34 yX4_clear, Cond.instanceMethod yX4_clear, Cond.selects RX4 yX4_clear yX4_clear, Cond.code yX4_clear cX4_clear 2 none, Cond.methodLink RX4 22 yJ7_fill_53178]
def wsX6_rank : List Cond := .code yX6_rank cX6_rank 3 (some .int) :: ((wsX6_rank_r1 ++ (wsX6_rank_r2 ++ (wsX6_rank_r3 ++ (wsX6_rank_r4 ++ wsX6_rank_r5)))) ++ wsX60 ++ wsX20 ++ wsX10 ++ wsX40)
def wsX6_behind_r1 : List Cond := [Cond.fieldLink RX6 73 "TwinRows" "look" "LTwinRows$Look;", Cond.fieldLink RX6 30 "TwinRows" "frame" "LTwinRows$Frame;", Cond.fieldLink RX6 77 "TwinRows" "told" "[I", Cond.methodLink RX6 163 yX4_numberAt, Cond.instanceMethod yX4_numberAt, Cond.selects RX4 yX4_numberAt yX4_numberAt, Cond.initialized RX4, Cond.code yX4_numberAt cX4_numberAt 2 (some .int), Cond.fieldLink RX4 18 "TwinRows$Look" "places" "I", Cond.fieldLink RX4 9 "TwinRows$Look" "numbers" "[I", Cond.methodLink RX6 169 yX6_lookAtTold, Cond.instanceMethod yX6_lookAtTold, Cond.selects RX6 yX6_lookAtTold yX6_lookAtTold, Cond.initialized RX6, Cond.code yX6_lookAtTold cX6_lookAtTold 2 (some .int), Cond.methodLink RX6 142 yX6_counted, Cond.instanceMethod yX6_counted, Cond.selects RX6 yX6_counted yX6_counted, Cond.code yX6_counted cX6_counted 1 (some (.object "TwinRows$Fillings")), Cond.fieldLink RX6 60 "TwinRows" "fillings" "LTwinRows$Fillings;", Cond.methodLink RX6 192 yX1_countAll, Cond.instanceMethod yX1_countAll, Cond.selects RX1 yX1_countAll yX1_countAll, Cond.initialized RX1]
def wsX6_behind_r2 : List Cond := [Cond.code yX1_countAll cX1_countAll 3 none, Cond.fieldLink RX1 27 "TwinRows$Fillings" "isCounted" "Z", Cond.fieldLink RX1 35 "TwinRows$Fillings" "count" "I", Cond.fieldLink RX1 24 "TwinRows$Fillings" "firsts" "[[I", Cond.methodLink RX1 47 yJ7_fill_53178, Cond.static yJ7_fill_53178, Cond.initialized RJ7, Cond.code yJ7_fill_53178 cJ7_fill_53178 4 none, Cond.methodLink RX1 53 yX1_nameDigits, Cond.instanceMethod yX1_nameDigits, Cond.selects RX1 yX1_nameDigits yX1_nameDigits, Cond.code yX1_nameDigits cX1_nameDigits 4 none, Cond.fieldLink RX1 15 "TwinRows$Fillings" "digits" "[I", Cond.fieldLink RX1 19 "TwinRows$Fillings" "distances" "[I", Cond.methodLink RX1 89 yX2_hasPair, Cond.instanceMethod yX2_hasPair, Cond.selects RX2 yX2_hasPair yX2_hasPair, Cond.initialized RX2, Cond.code yX2_hasPair cX2_hasPair 2 (some .boolean), Cond.fieldLink RX2 18 "TwinRows$Frame" "pairs" "I", Cond.static yX6_bit, Cond.code yX6_bit cX6_bit 1 (some .int), Cond.methodLink RX1 57 yX1_weighPlaces, Cond.instanceMethod yX1_weighPlaces]
def wsX6_behind_r3 : List Cond := [Cond.selects RX1 yX1_weighPlaces yX1_weighPlaces, Cond.code yX1_weighPlaces cX1_weighPlaces 5 none, Cond.methodLink RX1 94 Lib.Math.min.name, Cond.static Lib.Math.min.name, Cond.initialized "java/lang/Math", Cond.code Lib.Math.min.name Lib.Math.min.code 2 (some .int), Cond.fieldLink RX1 31 "TwinRows$Fillings" "cells" "I", Cond.fieldLink RX1 9 "TwinRows$Fillings" "weights" "[J", Cond.constantLong RX1 97 (10), Cond.methodLink RX1 60 yX2_isEven, Cond.instanceMethod yX2_isEven, Cond.selects RX2 yX2_isEven yX2_isEven, Cond.code yX2_isEven cX2_isEven 2 (some .boolean), Cond.methodLink RX2 45 yX2_placesToFill, Cond.instanceMethod yX2_placesToFill, Cond.selects RX2 yX2_placesToFill yX2_placesToFill, Cond.code yX2_placesToFill cX2_placesToFill 1 (some .int), Cond.fieldLink RX2 9 "TwinRows$Frame" "cells" "I", Cond.fieldLink RX2 15 "TwinRows$Frame" "holes" "I", Cond.methodLink RX2 49 yJ6_bitCount_0f7a4, Cond.static yJ6_bitCount_0f7a4, Cond.initialized RJ6, Cond.code yJ6_bitCount_0f7a4 cJ6_bitCount_0f7a4 1 (some .int), Cond.constant RJ6 265 (1431655765)]
def wsX6_behind_r4 : List Cond := [Cond.constant RJ6 266 (858993459), Cond.constant RJ6 267 (252645135), Cond.methodLink RX2 54 yX2_sumOf, Cond.static yX2_sumOf, Cond.code yX2_sumOf cX2_sumOf 3 (some .int), Cond.methodLink RX1 66 yX2_placesToFill, Cond.methodLink RX1 70 yX2_pinnedPlaces, Cond.instanceMethod yX2_pinnedPlaces, Cond.selects RX2 yX2_pinnedPlaces yX2_pinnedPlaces, Cond.code yX2_pinnedPlaces cX2_pinnedPlaces 4 (some .int), Cond.fieldLink RX2 21 "TwinRows$Frame" "pins" "[I", Cond.methodLink RX1 77 yX2_pinnedPairs, Cond.instanceMethod yX2_pinnedPairs, Cond.selects RX2 yX2_pinnedPairs yX2_pinnedPairs, Cond.code yX2_pinnedPairs cX2_pinnedPairs 3 (some .int), Cond.methodLink RX1 80 yX1_fill, Cond.instanceMethod yX1_fill, Cond.selects RX1 yX1_fill yX1_fill, Cond.code yX1_fill cX1_fill 10 none, Cond.methodLink RX1 102 yX1_keep, Cond.instanceMethod yX1_keep, Cond.selects RX1 yX1_keep yX1_keep, Cond.code yX1_keep cX1_keep 1 none, Cond.fieldLink RX1 44 "TwinRows$Fillings" "numbers" "[J"]
def wsX6_behind_r5 : List Cond := [Cond.methodLink RX1 105 yJ6_bitCount_0f7a4, Cond.methodLink RX1 86 yX1_stand, Cond.instanceMethod yX1_stand, Cond.selects RX1 yX1_stand yX1_stand, Cond.code yX1_stand cX1_stand 7 none, Cond.methodLink RX6 175 yX1_rankOf, Cond.instanceMethod yX1_rankOf, Cond.selects RX1 yX1_rankOf yX1_rankOf, Cond.code yX1_rankOf cX1_rankOf 6 (some .int), Cond.methodLink RX1 113 yX1_rankOfNumber, Cond.instanceMethod yX1_rankOfNumber, Cond.selects RX1 yX1_rankOfNumber yX1_rankOfNumber, Cond.code yX1_rankOfNumber cX1_rankOfNumber 6 (some .int), Cond.methodLink RX6 159 yX4_take, Cond.instanceMethod yX4_take, Cond.selects RX4 yX4_take yX4_take, Cond.code yX4_take cX4_take 5 none, Cond.methodLink RX4 28 Lib.Math.min.name, Cond.fieldLink RX4 15 "TwinRows$Look" "firsts" "[I", Cond.methodLink RX4 34 yX4_clear, Cond.instanceMethod yX4_clear, Cond.selects RX4 yX4_clear yX4_clear, Cond.code yX4_clear cX4_clear 2 none, Cond.methodLink RX4 22 yJ7_fill_53178]
def wsX6_behind : List Cond := .code yX6_behind cX6_behind 3 (some .int) :: ((wsX6_behind_r1 ++ (wsX6_behind_r2 ++ (wsX6_behind_r3 ++ (wsX6_behind_r4 ++ wsX6_behind_r5)))) ++ wsX60 ++ wsX40 ++ wsX20 ++ wsX10)
def wsX6_standing_r1 : List Cond := [Cond.fieldLink RX6 30 "TwinRows" "frame" "LTwinRows$Frame;", Cond.methodLink RX6 135 yX2_hasPair, Cond.instanceMethod yX2_hasPair, Cond.selects RX2 yX2_hasPair yX2_hasPair, Cond.initialized RX2, Cond.code yX2_hasPair cX2_hasPair 2 (some .boolean), Cond.fieldLink RX2 18 "TwinRows$Frame" "pairs" "I", Cond.static yX6_bit, Cond.initialized RX6, Cond.code yX6_bit cX6_bit 1 (some .int), Cond.methodLink RX6 179 yX2_hasPlace, Cond.instanceMethod yX2_hasPlace, Cond.selects RX2 yX2_hasPlace yX2_hasPlace, Cond.code yX2_hasPlace cX2_hasPlace 2 (some .boolean), Cond.fieldLink RX2 9 "TwinRows$Frame" "cells" "I", Cond.methodLink RX6 142 yX6_counted, Cond.instanceMethod yX6_counted, Cond.selects RX6 yX6_counted yX6_counted, Cond.code yX6_counted cX6_counted 1 (some (.object "TwinRows$Fillings")), Cond.fieldLink RX6 60 "TwinRows" "fillings" "LTwinRows$Fillings;", Cond.methodLink RX6 192 yX1_countAll, Cond.instanceMethod yX1_countAll, Cond.selects RX1 yX1_countAll yX1_countAll, Cond.initialized RX1]
def wsX6_standing_r2 : List Cond := [Cond.code yX1_countAll cX1_countAll 3 none, Cond.fieldLink RX1 27 "TwinRows$Fillings" "isCounted" "Z", Cond.fieldLink RX1 35 "TwinRows$Fillings" "count" "I", Cond.fieldLink RX1 24 "TwinRows$Fillings" "firsts" "[[I", Cond.methodLink RX1 47 yJ7_fill_53178, Cond.static yJ7_fill_53178, Cond.initialized RJ7, Cond.code yJ7_fill_53178 cJ7_fill_53178 4 none, Cond.methodLink RX1 53 yX1_nameDigits, Cond.instanceMethod yX1_nameDigits, Cond.selects RX1 yX1_nameDigits yX1_nameDigits, Cond.code yX1_nameDigits cX1_nameDigits 4 none, Cond.fieldLink RX1 15 "TwinRows$Fillings" "digits" "[I", Cond.fieldLink RX1 19 "TwinRows$Fillings" "distances" "[I", Cond.methodLink RX1 89 yX2_hasPair, Cond.methodLink RX1 57 yX1_weighPlaces, Cond.instanceMethod yX1_weighPlaces, Cond.selects RX1 yX1_weighPlaces yX1_weighPlaces, Cond.code yX1_weighPlaces cX1_weighPlaces 5 none, Cond.methodLink RX1 94 Lib.Math.min.name, Cond.static Lib.Math.min.name, Cond.initialized "java/lang/Math", Cond.code Lib.Math.min.name Lib.Math.min.code 2 (some .int), Cond.fieldLink RX1 31 "TwinRows$Fillings" "cells" "I"]
def wsX6_standing_r3 : List Cond := [Cond.fieldLink RX1 9 "TwinRows$Fillings" "weights" "[J", Cond.constantLong RX1 97 (10), Cond.methodLink RX1 60 yX2_isEven, Cond.instanceMethod yX2_isEven, Cond.selects RX2 yX2_isEven yX2_isEven, Cond.code yX2_isEven cX2_isEven 2 (some .boolean), Cond.methodLink RX2 45 yX2_placesToFill, Cond.instanceMethod yX2_placesToFill, Cond.selects RX2 yX2_placesToFill yX2_placesToFill, Cond.code yX2_placesToFill cX2_placesToFill 1 (some .int), Cond.fieldLink RX2 15 "TwinRows$Frame" "holes" "I", Cond.methodLink RX2 49 yJ6_bitCount_0f7a4, Cond.static yJ6_bitCount_0f7a4, Cond.initialized RJ6, Cond.code yJ6_bitCount_0f7a4 cJ6_bitCount_0f7a4 1 (some .int), Cond.constant RJ6 265 (1431655765), Cond.constant RJ6 266 (858993459), Cond.constant RJ6 267 (252645135), Cond.methodLink RX2 54 yX2_sumOf, Cond.static yX2_sumOf, Cond.code yX2_sumOf cX2_sumOf 3 (some .int), Cond.methodLink RX1 66 yX2_placesToFill, Cond.methodLink RX1 70 yX2_pinnedPlaces, Cond.instanceMethod yX2_pinnedPlaces]
def wsX6_standing_r4 : List Cond := [Cond.selects RX2 yX2_pinnedPlaces yX2_pinnedPlaces, Cond.code yX2_pinnedPlaces cX2_pinnedPlaces 4 (some .int), Cond.fieldLink RX2 21 "TwinRows$Frame" "pins" "[I", Cond.methodLink RX1 77 yX2_pinnedPairs, Cond.instanceMethod yX2_pinnedPairs, Cond.selects RX2 yX2_pinnedPairs yX2_pinnedPairs, Cond.code yX2_pinnedPairs cX2_pinnedPairs 3 (some .int), Cond.methodLink RX1 80 yX1_fill, Cond.instanceMethod yX1_fill, Cond.selects RX1 yX1_fill yX1_fill, Cond.code yX1_fill cX1_fill 10 none, Cond.methodLink RX1 102 yX1_keep, Cond.instanceMethod yX1_keep, Cond.selects RX1 yX1_keep yX1_keep, Cond.code yX1_keep cX1_keep 1 none, Cond.fieldLink RX1 44 "TwinRows$Fillings" "numbers" "[J", Cond.methodLink RX1 105 yJ6_bitCount_0f7a4, Cond.methodLink RX1 86 yX1_stand, Cond.instanceMethod yX1_stand, Cond.selects RX1 yX1_stand yX1_stand, Cond.code yX1_stand cX1_stand 7 none]
def wsX6_standing : List Cond := .code yX6_standing cX6_standing 3 (some .int) :: ((wsX6_standing_r1 ++ (wsX6_standing_r2 ++ (wsX6_standing_r3 ++ wsX6_standing_r4))) ++ wsX60 ++ wsX10 ++ wsX20)
def wsX6_may_r1 : List Cond := [Cond.fieldLink RX6 30 "TwinRows" "frame" "LTwinRows$Frame;", Cond.methodLink RX6 135 yX2_hasPair, Cond.instanceMethod yX2_hasPair, Cond.selects RX2 yX2_hasPair yX2_hasPair, Cond.initialized RX2, Cond.code yX2_hasPair cX2_hasPair 2 (some .boolean), Cond.fieldLink RX2 18 "TwinRows$Frame" "pairs" "I", Cond.static yX6_bit, Cond.initialized RX6, Cond.code yX6_bit cX6_bit 1 (some .int), Cond.methodLink RX6 142 yX6_counted, Cond.instanceMethod yX6_counted, Cond.selects RX6 yX6_counted yX6_counted, Cond.code yX6_counted cX6_counted 1 (some (.object "TwinRows$Fillings")), Cond.fieldLink RX6 60 "TwinRows" "fillings" "LTwinRows$Fillings;", Cond.methodLink RX6 192 yX1_countAll, Cond.instanceMethod yX1_countAll, Cond.selects RX1 yX1_countAll yX1_countAll, Cond.initialized RX1, Cond.code yX1_countAll cX1_countAll 3 none, Cond.fieldLink RX1 27 "TwinRows$Fillings" "isCounted" "Z", Cond.fieldLink RX1 35 "TwinRows$Fillings" "count" "I", Cond.fieldLink RX1 24 "TwinRows$Fillings" "firsts" "[[I", Cond.methodLink RX1 47 yJ7_fill_53178]
def wsX6_may_r2 : List Cond := [Cond.static yJ7_fill_53178, Cond.initialized RJ7, Cond.code yJ7_fill_53178 cJ7_fill_53178 4 none, Cond.methodLink RX1 53 yX1_nameDigits, Cond.instanceMethod yX1_nameDigits, Cond.selects RX1 yX1_nameDigits yX1_nameDigits, Cond.code yX1_nameDigits cX1_nameDigits 4 none, Cond.fieldLink RX1 15 "TwinRows$Fillings" "digits" "[I", Cond.fieldLink RX1 19 "TwinRows$Fillings" "distances" "[I", Cond.methodLink RX1 89 yX2_hasPair, Cond.methodLink RX1 57 yX1_weighPlaces, Cond.instanceMethod yX1_weighPlaces, Cond.selects RX1 yX1_weighPlaces yX1_weighPlaces, Cond.code yX1_weighPlaces cX1_weighPlaces 5 none, Cond.methodLink RX1 94 Lib.Math.min.name, Cond.static Lib.Math.min.name, Cond.initialized "java/lang/Math", Cond.code Lib.Math.min.name Lib.Math.min.code 2 (some .int), Cond.fieldLink RX1 31 "TwinRows$Fillings" "cells" "I", Cond.fieldLink RX1 9 "TwinRows$Fillings" "weights" "[J", Cond.constantLong RX1 97 (10), Cond.methodLink RX1 60 yX2_isEven, Cond.instanceMethod yX2_isEven, Cond.selects RX2 yX2_isEven yX2_isEven]
def wsX6_may_r3 : List Cond := [Cond.code yX2_isEven cX2_isEven 2 (some .boolean), Cond.methodLink RX2 45 yX2_placesToFill, Cond.instanceMethod yX2_placesToFill, Cond.selects RX2 yX2_placesToFill yX2_placesToFill, Cond.code yX2_placesToFill cX2_placesToFill 1 (some .int), Cond.fieldLink RX2 9 "TwinRows$Frame" "cells" "I", Cond.fieldLink RX2 15 "TwinRows$Frame" "holes" "I", Cond.methodLink RX2 49 yJ6_bitCount_0f7a4, Cond.static yJ6_bitCount_0f7a4, Cond.initialized RJ6, Cond.code yJ6_bitCount_0f7a4 cJ6_bitCount_0f7a4 1 (some .int), Cond.constant RJ6 265 (1431655765), Cond.constant RJ6 266 (858993459), Cond.constant RJ6 267 (252645135), Cond.methodLink RX2 54 yX2_sumOf, Cond.static yX2_sumOf, Cond.code yX2_sumOf cX2_sumOf 3 (some .int), Cond.methodLink RX1 66 yX2_placesToFill, Cond.methodLink RX1 70 yX2_pinnedPlaces, Cond.instanceMethod yX2_pinnedPlaces, Cond.selects RX2 yX2_pinnedPlaces yX2_pinnedPlaces, Cond.code yX2_pinnedPlaces cX2_pinnedPlaces 4 (some .int), Cond.fieldLink RX2 21 "TwinRows$Frame" "pins" "[I", Cond.methodLink RX1 77 yX2_pinnedPairs]
def wsX6_may_r4 : List Cond := [Cond.instanceMethod yX2_pinnedPairs, Cond.selects RX2 yX2_pinnedPairs yX2_pinnedPairs, Cond.code yX2_pinnedPairs cX2_pinnedPairs 3 (some .int), Cond.methodLink RX1 80 yX1_fill, Cond.instanceMethod yX1_fill, Cond.selects RX1 yX1_fill yX1_fill, Cond.code yX1_fill cX1_fill 10 none, Cond.methodLink RX1 102 yX1_keep, Cond.instanceMethod yX1_keep, Cond.selects RX1 yX1_keep yX1_keep, Cond.code yX1_keep cX1_keep 1 none, Cond.fieldLink RX1 44 "TwinRows$Fillings" "numbers" "[J", Cond.methodLink RX1 105 yJ6_bitCount_0f7a4, Cond.methodLink RX1 86 yX1_stand, Cond.instanceMethod yX1_stand, Cond.selects RX1 yX1_stand yX1_stand, Cond.code yX1_stand cX1_stand 7 none, Cond.methodLink RX6 186 yX1_placesOf, Cond.instanceMethod yX1_placesOf, Cond.selects RX1 yX1_placesOf yX1_placesOf, Cond.code yX1_placesOf cX1_placesOf 4 (some .int)]
def wsX6_may : List Cond := .code yX6_may cX6_may 2 (some .int) :: ((wsX6_may_r1 ++ (wsX6_may_r2 ++ (wsX6_may_r3 ++ wsX6_may_r4))) ++ wsX60 ++ wsX20 ++ wsX10)
def wsX6_sure_r1 : List Cond := [Cond.fieldLink RX6 30 "TwinRows" "frame" "LTwinRows$Frame;", Cond.methodLink RX6 142 yX6_counted, Cond.instanceMethod yX6_counted, Cond.selects RX6 yX6_counted yX6_counted, Cond.initialized RX6, Cond.code yX6_counted cX6_counted 1 (some (.object "TwinRows$Fillings")), Cond.fieldLink RX6 60 "TwinRows" "fillings" "LTwinRows$Fillings;", Cond.methodLink RX6 192 yX1_countAll, Cond.instanceMethod yX1_countAll, Cond.selects RX1 yX1_countAll yX1_countAll, Cond.initialized RX1, Cond.code yX1_countAll cX1_countAll 3 none, Cond.fieldLink RX1 27 "TwinRows$Fillings" "isCounted" "Z", Cond.fieldLink RX1 35 "TwinRows$Fillings" "count" "I", Cond.fieldLink RX1 24 "TwinRows$Fillings" "firsts" "[[I", Cond.methodLink RX1 47 yJ7_fill_53178, Cond.static yJ7_fill_53178, Cond.initialized RJ7, Cond.code yJ7_fill_53178 cJ7_fill_53178 4 none, Cond.methodLink RX1 53 yX1_nameDigits, Cond.instanceMethod yX1_nameDigits, Cond.selects RX1 yX1_nameDigits yX1_nameDigits, Cond.code yX1_nameDigits cX1_nameDigits 4 none, Cond.fieldLink RX1 15 "TwinRows$Fillings" "digits" "[I"]
def wsX6_sure_r2 : List Cond := [Cond.fieldLink RX1 19 "TwinRows$Fillings" "distances" "[I", Cond.methodLink RX1 89 yX2_hasPair, Cond.instanceMethod yX2_hasPair, Cond.selects RX2 yX2_hasPair yX2_hasPair, Cond.initialized RX2, Cond.code yX2_hasPair cX2_hasPair 2 (some .boolean), Cond.fieldLink RX2 18 "TwinRows$Frame" "pairs" "I", Cond.static yX6_bit, Cond.code yX6_bit cX6_bit 1 (some .int), Cond.methodLink RX1 57 yX1_weighPlaces, Cond.instanceMethod yX1_weighPlaces, Cond.selects RX1 yX1_weighPlaces yX1_weighPlaces, Cond.code yX1_weighPlaces cX1_weighPlaces 5 none, Cond.methodLink RX1 94 Lib.Math.min.name, Cond.static Lib.Math.min.name, Cond.initialized "java/lang/Math", Cond.code Lib.Math.min.name Lib.Math.min.code 2 (some .int), Cond.fieldLink RX1 31 "TwinRows$Fillings" "cells" "I", Cond.fieldLink RX1 9 "TwinRows$Fillings" "weights" "[J", Cond.constantLong RX1 97 (10), Cond.methodLink RX1 60 yX2_isEven, Cond.instanceMethod yX2_isEven, Cond.selects RX2 yX2_isEven yX2_isEven, Cond.code yX2_isEven cX2_isEven 2 (some .boolean)]
def wsX6_sure_r3 : List Cond := [Cond.methodLink RX2 45 yX2_placesToFill, Cond.instanceMethod yX2_placesToFill, Cond.selects RX2 yX2_placesToFill yX2_placesToFill, Cond.code yX2_placesToFill cX2_placesToFill 1 (some .int), Cond.fieldLink RX2 9 "TwinRows$Frame" "cells" "I", Cond.fieldLink RX2 15 "TwinRows$Frame" "holes" "I", Cond.methodLink RX2 49 yJ6_bitCount_0f7a4, Cond.static yJ6_bitCount_0f7a4, Cond.initialized RJ6, Cond.code yJ6_bitCount_0f7a4 cJ6_bitCount_0f7a4 1 (some .int), Cond.constant RJ6 265 (1431655765), Cond.constant RJ6 266 (858993459), Cond.constant RJ6 267 (252645135), Cond.methodLink RX2 54 yX2_sumOf, Cond.static yX2_sumOf, Cond.code yX2_sumOf cX2_sumOf 3 (some .int), Cond.methodLink RX1 66 yX2_placesToFill, Cond.methodLink RX1 70 yX2_pinnedPlaces, Cond.instanceMethod yX2_pinnedPlaces, Cond.selects RX2 yX2_pinnedPlaces yX2_pinnedPlaces, Cond.code yX2_pinnedPlaces cX2_pinnedPlaces 4 (some .int), Cond.fieldLink RX2 21 "TwinRows$Frame" "pins" "[I", Cond.methodLink RX1 77 yX2_pinnedPairs, Cond.instanceMethod yX2_pinnedPairs]
def wsX6_sure_r4 : List Cond := [Cond.selects RX2 yX2_pinnedPairs yX2_pinnedPairs, Cond.code yX2_pinnedPairs cX2_pinnedPairs 3 (some .int), Cond.methodLink RX1 80 yX1_fill, Cond.instanceMethod yX1_fill, Cond.selects RX1 yX1_fill yX1_fill, Cond.code yX1_fill cX1_fill 10 none, Cond.methodLink RX1 102 yX1_keep, Cond.instanceMethod yX1_keep, Cond.selects RX1 yX1_keep yX1_keep, Cond.code yX1_keep cX1_keep 1 none, Cond.fieldLink RX1 44 "TwinRows$Fillings" "numbers" "[J", Cond.methodLink RX1 105 yJ6_bitCount_0f7a4, Cond.methodLink RX1 86 yX1_stand, Cond.instanceMethod yX1_stand, Cond.selects RX1 yX1_stand yX1_stand, Cond.code yX1_stand cX1_stand 7 none, Cond.methodLink RX6 135 yX2_hasPair, Cond.methodLink RX6 189 yX1_isSure, Cond.instanceMethod yX1_isSure, Cond.selects RX1 yX1_isSure yX1_isSure, Cond.code yX1_isSure cX1_isSure 2 (some .boolean), Cond.methodLink RX1 117 yX1_placesOf, Cond.instanceMethod yX1_placesOf, Cond.selects RX1 yX1_placesOf yX1_placesOf]
def wsX6_sure_r5 : List Cond := [Cond.code yX1_placesOf cX1_placesOf 4 (some .int), Cond.methodLink RX6 105 yX6_bit]
def wsX6_sure : List Cond := .code yX6_sure cX6_sure 4 (some .int) :: ((wsX6_sure_r1 ++ (wsX6_sure_r2 ++ (wsX6_sure_r3 ++ (wsX6_sure_r4 ++ wsX6_sure_r5)))) ++ wsX60 ++ wsX10 ++ wsX20)
def wsX6_extended_r1 : List Cond := [Cond.fieldLink RX6 64 "TwinRows" "extendedFrame" "LTwinRows$Frame;", Cond.fieldLink RX6 67 "TwinRows" "extendedFillings" "LTwinRows$Fillings;", Cond.methodLink RX6 105 yX6_bit, Cond.static yX6_bit, Cond.initialized RX6, Cond.code yX6_bit cX6_bit 1 (some .int), Cond.methodLink RX6 108 yX2_begin, Cond.instanceMethod yX2_begin, Cond.selects RX2 yX2_begin yX2_begin, Cond.initialized RX2, Cond.code yX2_begin cX2_begin 4 none, Cond.fieldLink RX2 9 "TwinRows$Frame" "cells" "I", Cond.fieldLink RX2 15 "TwinRows$Frame" "holes" "I", Cond.fieldLink RX2 18 "TwinRows$Frame" "pairs" "I", Cond.fieldLink RX2 21 "TwinRows$Frame" "pins" "[I", Cond.methodLink RX2 25 yJ7_fill_53178, Cond.static yJ7_fill_53178, Cond.initialized RJ7, Cond.code yJ7_fill_53178 cJ7_fill_53178 4 none, Cond.methodLink RX6 192 yX1_countAll, Cond.instanceMethod yX1_countAll, Cond.selects RX1 yX1_countAll yX1_countAll, Cond.initialized RX1, Cond.code yX1_countAll cX1_countAll 3 none]
def wsX6_extended_r2 : List Cond := [Cond.fieldLink RX1 27 "TwinRows$Fillings" "isCounted" "Z", Cond.fieldLink RX1 35 "TwinRows$Fillings" "count" "I", Cond.fieldLink RX1 24 "TwinRows$Fillings" "firsts" "[[I", Cond.methodLink RX1 47 yJ7_fill_53178, Cond.methodLink RX1 53 yX1_nameDigits, Cond.instanceMethod yX1_nameDigits, Cond.selects RX1 yX1_nameDigits yX1_nameDigits, Cond.code yX1_nameDigits cX1_nameDigits 4 none, Cond.fieldLink RX1 15 "TwinRows$Fillings" "digits" "[I", Cond.fieldLink RX1 19 "TwinRows$Fillings" "distances" "[I", Cond.methodLink RX1 89 yX2_hasPair, Cond.instanceMethod yX2_hasPair, Cond.selects RX2 yX2_hasPair yX2_hasPair, Cond.code yX2_hasPair cX2_hasPair 2 (some .boolean), Cond.methodLink RX1 57 yX1_weighPlaces, Cond.instanceMethod yX1_weighPlaces, Cond.selects RX1 yX1_weighPlaces yX1_weighPlaces, Cond.code yX1_weighPlaces cX1_weighPlaces 5 none, Cond.methodLink RX1 94 Lib.Math.min.name, Cond.static Lib.Math.min.name, Cond.initialized "java/lang/Math", Cond.code Lib.Math.min.name Lib.Math.min.code 2 (some .int), Cond.fieldLink RX1 31 "TwinRows$Fillings" "cells" "I", Cond.fieldLink RX1 9 "TwinRows$Fillings" "weights" "[J"]
def wsX6_extended_r3 : List Cond := [Cond.constantLong RX1 97 (10), Cond.methodLink RX1 60 yX2_isEven, Cond.instanceMethod yX2_isEven, Cond.selects RX2 yX2_isEven yX2_isEven, Cond.code yX2_isEven cX2_isEven 2 (some .boolean), Cond.methodLink RX2 45 yX2_placesToFill, Cond.instanceMethod yX2_placesToFill, Cond.selects RX2 yX2_placesToFill yX2_placesToFill, Cond.code yX2_placesToFill cX2_placesToFill 1 (some .int), Cond.methodLink RX2 49 yJ6_bitCount_0f7a4, Cond.static yJ6_bitCount_0f7a4, Cond.initialized RJ6, Cond.code yJ6_bitCount_0f7a4 cJ6_bitCount_0f7a4 1 (some .int), Cond.constant RJ6 265 (1431655765), Cond.constant RJ6 266 (858993459), Cond.constant RJ6 267 (252645135), Cond.methodLink RX2 54 yX2_sumOf, Cond.static yX2_sumOf, Cond.code yX2_sumOf cX2_sumOf 3 (some .int), Cond.methodLink RX1 66 yX2_placesToFill, Cond.methodLink RX1 70 yX2_pinnedPlaces, Cond.instanceMethod yX2_pinnedPlaces, Cond.selects RX2 yX2_pinnedPlaces yX2_pinnedPlaces, Cond.code yX2_pinnedPlaces cX2_pinnedPlaces 4 (some .int)]
def wsX6_extended_r4 : List Cond := [Cond.methodLink RX1 77 yX2_pinnedPairs, Cond.instanceMethod yX2_pinnedPairs, Cond.selects RX2 yX2_pinnedPairs yX2_pinnedPairs, Cond.code yX2_pinnedPairs cX2_pinnedPairs 3 (some .int), Cond.methodLink RX1 80 yX1_fill, Cond.instanceMethod yX1_fill, Cond.selects RX1 yX1_fill yX1_fill, Cond.code yX1_fill cX1_fill 10 none, Cond.methodLink RX1 102 yX1_keep, Cond.instanceMethod yX1_keep, Cond.selects RX1 yX1_keep yX1_keep, Cond.code yX1_keep cX1_keep 1 none, Cond.fieldLink RX1 44 "TwinRows$Fillings" "numbers" "[J", Cond.methodLink RX1 105 yJ6_bitCount_0f7a4, Cond.methodLink RX1 86 yX1_stand, Cond.instanceMethod yX1_stand, Cond.selects RX1 yX1_stand yX1_stand, Cond.code yX1_stand cX1_stand 7 none]
def wsX6_extended : List Cond := .code yX6_extended cX6_extended 3 (some .int) :: ((wsX6_extended_r1 ++ (wsX6_extended_r2 ++ (wsX6_extended_r3 ++ wsX6_extended_r4))) ++ wsX60 ++ wsX10 ++ wsX20)
def wsX6_made_r1 : List Cond := [Cond.fieldLink RX6 73 "TwinRows" "look" "LTwinRows$Look;", Cond.methodLink RX6 195 yX4_make, Cond.instanceMethod yX4_make, Cond.selects RX4 yX4_make yX4_make, Cond.initialized RX4, Cond.code yX4_make cX4_make 3 none, Cond.methodLink RX4 34 yX4_clear, Cond.instanceMethod yX4_clear, Cond.selects RX4 yX4_clear yX4_clear, Cond.code yX4_clear cX4_clear 2 none, Cond.fieldLink RX4 9 "TwinRows$Look" "numbers" "[I", Cond.fieldLink RX4 15 "TwinRows$Look" "firsts" "[I", Cond.methodLink RX4 28 Lib.Math.min.name, Cond.static Lib.Math.min.name, Cond.initialized "java/lang/Math", Cond.code Lib.Math.min.name Lib.Math.min.code 2 (some .int), Cond.fieldLink RX4 18 "TwinRows$Look" "places" "I", Cond.methodLink RX4 22 yJ7_fill_53178, Cond.static yJ7_fill_53178, Cond.initialized RJ7, Cond.code yJ7_fill_53178 cJ7_fill_53178 4 none, Cond.methodLink RX4 38 yX4_makeLeaving0, Cond.instanceMethod yX4_makeLeaving0, Cond.selects RX4 yX4_makeLeaving0 yX4_makeLeaving0]
def wsX6_made_r2 : List Cond := [Cond.code yX4_makeLeaving0 cX4_makeLeaving0 2 none, Cond.methodLink RX4 47 yX4_nest, Cond.instanceMethod yX4_nest, Cond.selects RX4 yX4_nest yX4_nest, Cond.code yX4_nest cX4_nest 6 none, Cond.methodLink RX4 51 yX4_twin, Cond.instanceMethod yX4_twin, Cond.selects RX4 yX4_twin yX4_twin, Cond.code yX4_twin cX4_twin 4 none, Cond.methodLink RX4 41 yX4_makeLeaving1, Cond.instanceMethod yX4_makeLeaving1, Cond.selects RX4 yX4_makeLeaving1 yX4_makeLeaving1, Cond.code yX4_makeLeaving1 cX4_makeLeaving1 2 none, Cond.methodLink RX4 44 yX4_makeLeaving2, Cond.instanceMethod yX4_makeLeaving2, Cond.selects RX4 yX4_makeLeaving2 yX4_makeLeaving2, Cond.code yX4_makeLeaving2 cX4_makeLeaving2 2 none]
def wsX6_made : List Cond := .code yX6_made cX6_made 2 (some .int) :: ((wsX6_made_r1 ++ wsX6_made_r2) ++ wsX60 ++ wsX40)
def wsX6_third_r1 : List Cond := [Cond.fieldLink RX6 73 "TwinRows" "look" "LTwinRows$Look;", Cond.methodLink RX6 198 yX4_thirdOf, Cond.instanceMethod yX4_thirdOf, Cond.selects RX4 yX4_thirdOf yX4_thirdOf, Cond.initialized RX4, Cond.code yX4_thirdOf cX4_thirdOf 5 (some .int), Cond.methodLink RX4 55 yX4_ringOrder, Cond.instanceMethod yX4_ringOrder, Cond.selects RX4 yX4_ringOrder yX4_ringOrder, Cond.code yX4_ringOrder cX4_ringOrder 6 (some .int), Cond.fieldLink RX4 18 "TwinRows$Look" "places" "I", Cond.fieldLink RX4 9 "TwinRows$Look" "numbers" "[I", Cond.methodLink RX4 63 Lib.Math.max.name, Cond.static Lib.Math.max.name, Cond.initialized "java/lang/Math", Cond.code Lib.Math.max.name Lib.Math.max.code 2 (some .int), Cond.methodLink RX4 59 yX4_thirdAlong, Cond.instanceMethod yX4_thirdAlong, Cond.selects RX4 yX4_thirdAlong yX4_thirdAlong, Cond.code yX4_thirdAlong cX4_thirdAlong 8 (some .int), Cond.fieldLink RX4 15 "TwinRows$Look" "firsts" "[I", Cond.methodLink RX4 66 yJ9_floorMod_7cf53, Cond.static yJ9_floorMod_7cf53, Cond.initialized RJ9]
def wsX6_third_r2 : List Cond := [Cond.code yJ9_floorMod_7cf53 cJ9_floorMod_7cf53 3 (some .int)]
def wsX6_third : List Cond := .code yX6_third cX6_third 3 (some .int) :: ((wsX6_third_r1 ++ wsX6_third_r2) ++ wsX60 ++ wsX40)
def wsX6_hole_r1 : List Cond := [Cond.fieldLink RX6 34 "TwinRows" "before" "LTwinRows$Frame;", Cond.fieldLink RX6 30 "TwinRows" "frame" "LTwinRows$Frame;", Cond.methodLink RX6 102 yX2_copy, Cond.instanceMethod yX2_copy, Cond.selects RX2 yX2_copy yX2_copy, Cond.initialized RX2, Cond.code yX2_copy cX2_copy 2 none, Cond.fieldLink RX2 9 "TwinRows$Frame" "cells" "I", Cond.fieldLink RX2 15 "TwinRows$Frame" "holes" "I", Cond.fieldLink RX2 18 "TwinRows$Frame" "pairs" "I", Cond.fieldLink RX2 21 "TwinRows$Frame" "pins" "[I", Cond.methodLink RX2 31 arraycopyName, Cond.native arraycopyName, Cond.static arraycopyName, Cond.initialized "java/lang/System", Cond.methodLink RX6 202 yX2_setHole, Cond.instanceMethod yX2_setHole, Cond.selects RX2 yX2_setHole yX2_setHole, Cond.code yX2_setHole cX2_setHole 3 (some .int), Cond.methodLink RX2 37 yX2_hasPlace, Cond.instanceMethod yX2_hasPlace, Cond.selects RX2 yX2_hasPlace yX2_hasPlace, Cond.code yX2_hasPlace cX2_hasPlace 2 (some .boolean), Cond.methodLink RX2 60 yX2_hasHole]
def wsX6_hole_r2 : List Cond := [Cond.instanceMethod yX2_hasHole, Cond.selects RX2 yX2_hasHole yX2_hasHole, Cond.code yX2_hasHole cX2_hasHole 2 (some .boolean), Cond.static yX6_bit, Cond.initialized RX6, Cond.code yX6_bit cX6_bit 1 (some .int), Cond.methodLink RX2 63 yX2_pinnedPlaces, Cond.instanceMethod yX2_pinnedPlaces, Cond.selects RX2 yX2_pinnedPlaces yX2_pinnedPlaces, Cond.code yX2_pinnedPlaces cX2_pinnedPlaces 4 (some .int), Cond.methodLink RX2 49 yJ6_bitCount_0f7a4, Cond.static yJ6_bitCount_0f7a4, Cond.initialized RJ6, Cond.code yJ6_bitCount_0f7a4 cJ6_bitCount_0f7a4 1 (some .int), Cond.constant RJ6 265 (1431655765), Cond.constant RJ6 266 (858993459), Cond.constant RJ6 267 (252645135), Cond.methodLink RX6 112 yX6_acted, Cond.instanceMethod yX6_acted, Cond.selects RX6 yX6_acted yX6_acted, Cond.code yX6_acted cX6_acted 1 none, Cond.fieldLink RX6 40 "TwinRows" "history" "LTwinRows$History;", Cond.fieldLink RX6 60 "TwinRows" "fillings" "LTwinRows$Fillings;", Cond.methodLink RX6 226 yX3_keep]
def wsX6_hole_r3 : List Cond := [Cond.instanceMethod yX3_keep, Cond.selects RX3 yX3_keep yX3_keep, Cond.initialized RX3, Cond.code yX3_keep cX3_keep 2 none, Cond.fieldLink RX3 17 "TwinRows$History" "latest" "I", Cond.fieldLink RX3 11 "TwinRows$History" "ring" "[LTwinRows$Frame;", Cond.classLink RX3 9 RX2, Cond.instantiable RX2 4, Cond.fieldLink RX3 21 "TwinRows$History" "size" "I", Cond.methodLink RX3 29 Lib.Math.min.name, Cond.static Lib.Math.min.name, Cond.initialized "java/lang/Math", Cond.code Lib.Math.min.name Lib.Math.min.code 2 (some .int), Cond.instanceMethod yX2_init, Cond.code yX2_init cX2_init 1 none, Cond.methodLink RX2 3 objectInit, Cond.instanceMethod objectInit, Cond.code objectInit ⟨#[0xb1]⟩ 1 none, Cond.arrayClass .int, Cond.methodLink RX3 25 yX2_copy]
def wsX6_hole : List Cond := .code yX6_hole cX6_hole 4 (some .int) :: ((wsX6_hole_r1 ++ (wsX6_hole_r2 ++ wsX6_hole_r3)) ++ wsX60 ++ wsX20 ++ wsX10 ++ wsX30)
def wsX6_pair_r1 : List Cond := [Cond.fieldLink RX6 34 "TwinRows" "before" "LTwinRows$Frame;", Cond.fieldLink RX6 30 "TwinRows" "frame" "LTwinRows$Frame;", Cond.methodLink RX6 102 yX2_copy, Cond.instanceMethod yX2_copy, Cond.selects RX2 yX2_copy yX2_copy, Cond.initialized RX2, Cond.code yX2_copy cX2_copy 2 none, Cond.fieldLink RX2 9 "TwinRows$Frame" "cells" "I", Cond.fieldLink RX2 15 "TwinRows$Frame" "holes" "I", Cond.fieldLink RX2 18 "TwinRows$Frame" "pairs" "I", Cond.fieldLink RX2 21 "TwinRows$Frame" "pins" "[I", Cond.methodLink RX2 31 arraycopyName, Cond.native arraycopyName, Cond.static arraycopyName, Cond.initialized "java/lang/System", Cond.methodLink RX6 206 yX2_setPair, Cond.instanceMethod yX2_setPair, Cond.selects RX2 yX2_setPair yX2_setPair, Cond.code yX2_setPair cX2_setPair 3 (some .int), Cond.methodLink RX2 57 yX2_hasPair, Cond.instanceMethod yX2_hasPair, Cond.selects RX2 yX2_hasPair yX2_hasPair, Cond.code yX2_hasPair cX2_hasPair 2 (some .boolean), Cond.static yX6_bit]
def wsX6_pair_r2 : List Cond := [Cond.initialized RX6, Cond.code yX6_bit cX6_bit 1 (some .int), Cond.methodLink RX2 49 yJ6_bitCount_0f7a4, Cond.static yJ6_bitCount_0f7a4, Cond.initialized RJ6, Cond.code yJ6_bitCount_0f7a4 cJ6_bitCount_0f7a4 1 (some .int), Cond.constant RJ6 265 (1431655765), Cond.constant RJ6 266 (858993459), Cond.constant RJ6 267 (252645135), Cond.methodLink RX6 112 yX6_acted, Cond.instanceMethod yX6_acted, Cond.selects RX6 yX6_acted yX6_acted, Cond.code yX6_acted cX6_acted 1 none, Cond.fieldLink RX6 40 "TwinRows" "history" "LTwinRows$History;", Cond.fieldLink RX6 60 "TwinRows" "fillings" "LTwinRows$Fillings;", Cond.methodLink RX6 226 yX3_keep, Cond.instanceMethod yX3_keep, Cond.selects RX3 yX3_keep yX3_keep, Cond.initialized RX3, Cond.code yX3_keep cX3_keep 2 none, Cond.fieldLink RX3 17 "TwinRows$History" "latest" "I", Cond.fieldLink RX3 11 "TwinRows$History" "ring" "[LTwinRows$Frame;", Cond.classLink RX3 9 RX2, Cond.instantiable RX2 4]
def wsX6_pair_r3 : List Cond := [Cond.fieldLink RX3 21 "TwinRows$History" "size" "I", Cond.methodLink RX3 29 Lib.Math.min.name, Cond.static Lib.Math.min.name, Cond.initialized "java/lang/Math", Cond.code Lib.Math.min.name Lib.Math.min.code 2 (some .int), Cond.instanceMethod yX2_init, Cond.code yX2_init cX2_init 1 none, Cond.methodLink RX2 3 objectInit, Cond.instanceMethod objectInit, Cond.code objectInit ⟨#[0xb1]⟩ 1 none, Cond.arrayClass .int, Cond.methodLink RX3 25 yX2_copy]
def wsX6_pair : List Cond := .code yX6_pair cX6_pair 4 (some .int) :: ((wsX6_pair_r1 ++ (wsX6_pair_r2 ++ wsX6_pair_r3)) ++ wsX60 ++ wsX20 ++ wsX10 ++ wsX30)
def wsX6_pin_r1 : List Cond := [Cond.fieldLink RX6 34 "TwinRows" "before" "LTwinRows$Frame;", Cond.fieldLink RX6 30 "TwinRows" "frame" "LTwinRows$Frame;", Cond.methodLink RX6 102 yX2_copy, Cond.instanceMethod yX2_copy, Cond.selects RX2 yX2_copy yX2_copy, Cond.initialized RX2, Cond.code yX2_copy cX2_copy 2 none, Cond.fieldLink RX2 9 "TwinRows$Frame" "cells" "I", Cond.fieldLink RX2 15 "TwinRows$Frame" "holes" "I", Cond.fieldLink RX2 18 "TwinRows$Frame" "pairs" "I", Cond.fieldLink RX2 21 "TwinRows$Frame" "pins" "[I", Cond.methodLink RX2 31 arraycopyName, Cond.native arraycopyName, Cond.static arraycopyName, Cond.initialized "java/lang/System", Cond.methodLink RX6 209 yX2_setPin, Cond.instanceMethod yX2_setPin, Cond.selects RX2 yX2_setPin yX2_setPin, Cond.code yX2_setPin cX2_setPin 3 (some .int), Cond.methodLink RX2 57 yX2_hasPair, Cond.instanceMethod yX2_hasPair, Cond.selects RX2 yX2_hasPair yX2_hasPair, Cond.code yX2_hasPair cX2_hasPair 2 (some .boolean), Cond.static yX6_bit]
def wsX6_pin_r2 : List Cond := [Cond.initialized RX6, Cond.code yX6_bit cX6_bit 1 (some .int), Cond.methodLink RX2 37 yX2_hasPlace, Cond.instanceMethod yX2_hasPlace, Cond.selects RX2 yX2_hasPlace yX2_hasPlace, Cond.code yX2_hasPlace cX2_hasPlace 2 (some .boolean), Cond.methodLink RX2 63 yX2_pinnedPlaces, Cond.instanceMethod yX2_pinnedPlaces, Cond.selects RX2 yX2_pinnedPlaces yX2_pinnedPlaces, Cond.code yX2_pinnedPlaces cX2_pinnedPlaces 4 (some .int), Cond.methodLink RX6 112 yX6_acted, Cond.instanceMethod yX6_acted, Cond.selects RX6 yX6_acted yX6_acted, Cond.code yX6_acted cX6_acted 1 none, Cond.fieldLink RX6 40 "TwinRows" "history" "LTwinRows$History;", Cond.fieldLink RX6 60 "TwinRows" "fillings" "LTwinRows$Fillings;", Cond.methodLink RX6 226 yX3_keep, Cond.instanceMethod yX3_keep, Cond.selects RX3 yX3_keep yX3_keep, Cond.initialized RX3, Cond.code yX3_keep cX3_keep 2 none, Cond.fieldLink RX3 17 "TwinRows$History" "latest" "I", Cond.fieldLink RX3 11 "TwinRows$History" "ring" "[LTwinRows$Frame;", Cond.classLink RX3 9 RX2]
def wsX6_pin_r3 : List Cond := [Cond.instantiable RX2 4, Cond.fieldLink RX3 21 "TwinRows$History" "size" "I", Cond.methodLink RX3 29 Lib.Math.min.name, Cond.static Lib.Math.min.name, Cond.initialized "java/lang/Math", Cond.code Lib.Math.min.name Lib.Math.min.code 2 (some .int), Cond.instanceMethod yX2_init, Cond.code yX2_init cX2_init 1 none, Cond.methodLink RX2 3 objectInit, Cond.instanceMethod objectInit, Cond.code objectInit ⟨#[0xb1]⟩ 1 none, Cond.arrayClass .int, Cond.methodLink RX3 25 yX2_copy]
def wsX6_pin : List Cond := .code yX6_pin cX6_pin 4 (some .int) :: ((wsX6_pin_r1 ++ (wsX6_pin_r2 ++ wsX6_pin_r3)) ++ wsX60 ++ wsX20 ++ wsX10 ++ wsX30)
def wsX6_drawn_r1 : List Cond := [Cond.fieldLink RX6 34 "TwinRows" "before" "LTwinRows$Frame;", Cond.fieldLink RX6 30 "TwinRows" "frame" "LTwinRows$Frame;", Cond.fieldLink RX6 51 "TwinRows" "draws" "LTwinRows$Draws;", Cond.methodLink RX6 102 yX2_copy, Cond.instanceMethod yX2_copy, Cond.selects RX2 yX2_copy yX2_copy, Cond.initialized RX2, Cond.code yX2_copy cX2_copy 2 none, Cond.fieldLink RX2 9 "TwinRows$Frame" "cells" "I", Cond.fieldLink RX2 15 "TwinRows$Frame" "holes" "I", Cond.fieldLink RX2 18 "TwinRows$Frame" "pairs" "I", Cond.fieldLink RX2 21 "TwinRows$Frame" "pins" "[I", Cond.methodLink RX2 31 arraycopyName, Cond.native arraycopyName, Cond.static arraycopyName, Cond.initialized "java/lang/System", Cond.methodLink RX6 215 yX0_doDeed, Cond.instanceMethod yX0_doDeed, Cond.selects RX0 yX0_doDeed yX0_doDeed, Cond.initialized RX0, Cond.code yX0_doDeed cX0_doDeed 4 (some .boolean), Cond.methodLink RX0 16 yX0_draw, Cond.instanceMethod yX0_draw, Cond.selects RX0 yX0_draw yX0_draw]
def wsX6_drawn_r2 : List Cond := [Cond.code yX0_draw cX0_draw 2 (some .int), Cond.fieldLink RX0 9 "TwinRows$Draws" "seed" "I", Cond.constant RX0 15 (1103515245), Cond.methodLink RX0 25 yX2_hasHole, Cond.instanceMethod yX2_hasHole, Cond.selects RX2 yX2_hasHole yX2_hasHole, Cond.code yX2_hasHole cX2_hasHole 2 (some .boolean), Cond.methodLink RX2 37 yX2_hasPlace, Cond.instanceMethod yX2_hasPlace, Cond.selects RX2 yX2_hasPlace yX2_hasPlace, Cond.code yX2_hasPlace cX2_hasPlace 2 (some .boolean), Cond.static yX6_bit, Cond.initialized RX6, Cond.code yX6_bit cX6_bit 1 (some .int), Cond.methodLink RX0 29 yX2_setHole, Cond.instanceMethod yX2_setHole, Cond.selects RX2 yX2_setHole yX2_setHole, Cond.code yX2_setHole cX2_setHole 3 (some .int), Cond.methodLink RX2 60 yX2_hasHole, Cond.methodLink RX2 63 yX2_pinnedPlaces, Cond.instanceMethod yX2_pinnedPlaces, Cond.selects RX2 yX2_pinnedPlaces yX2_pinnedPlaces, Cond.code yX2_pinnedPlaces cX2_pinnedPlaces 4 (some .int), Cond.methodLink RX2 49 yJ6_bitCount_0f7a4]
def wsX6_drawn_r3 : List Cond := [Cond.static yJ6_bitCount_0f7a4, Cond.initialized RJ6, Cond.code yJ6_bitCount_0f7a4 cJ6_bitCount_0f7a4 1 (some .int), Cond.constant RJ6 265 (1431655765), Cond.constant RJ6 266 (858993459), Cond.constant RJ6 267 (252645135), Cond.methodLink RX0 33 yX2_hasPair, Cond.instanceMethod yX2_hasPair, Cond.selects RX2 yX2_hasPair yX2_hasPair, Cond.code yX2_hasPair cX2_hasPair 2 (some .boolean), Cond.methodLink RX0 36 yX2_setPair, Cond.instanceMethod yX2_setPair, Cond.selects RX2 yX2_setPair yX2_setPair, Cond.code yX2_setPair cX2_setPair 3 (some .int), Cond.methodLink RX2 57 yX2_hasPair, Cond.methodLink RX0 39 yX0_doPin, Cond.instanceMethod yX0_doPin, Cond.selects RX0 yX0_doPin yX0_doPin, Cond.code yX0_doPin cX0_doPin 6 (some .boolean), Cond.methodLink RX0 46 yJ6_bitCount_0f7a4, Cond.methodLink RX0 51 yX2_distanceOf, Cond.instanceMethod yX2_distanceOf, Cond.selects RX2 yX2_distanceOf yX2_distanceOf, Cond.code yX2_distanceOf cX2_distanceOf 4 (some .int)]
def wsX6_drawn_r4 : List Cond := [Cond.methodLink RX0 58 yX2_setPin, Cond.instanceMethod yX2_setPin, Cond.selects RX2 yX2_setPin yX2_setPin, Cond.code yX2_setPin cX2_setPin 3 (some .int), Cond.methodLink RX6 112 yX6_acted, Cond.instanceMethod yX6_acted, Cond.selects RX6 yX6_acted yX6_acted, Cond.code yX6_acted cX6_acted 1 none, Cond.fieldLink RX6 40 "TwinRows" "history" "LTwinRows$History;", Cond.fieldLink RX6 60 "TwinRows" "fillings" "LTwinRows$Fillings;", Cond.methodLink RX6 226 yX3_keep, Cond.instanceMethod yX3_keep, Cond.selects RX3 yX3_keep yX3_keep, Cond.initialized RX3, Cond.code yX3_keep cX3_keep 2 none, Cond.fieldLink RX3 17 "TwinRows$History" "latest" "I", Cond.fieldLink RX3 11 "TwinRows$History" "ring" "[LTwinRows$Frame;", Cond.classLink RX3 9 RX2, Cond.instantiable RX2 4, Cond.fieldLink RX3 21 "TwinRows$History" "size" "I", Cond.methodLink RX3 29 Lib.Math.min.name, Cond.static Lib.Math.min.name, Cond.initialized "java/lang/Math", Cond.code Lib.Math.min.name Lib.Math.min.code 2 (some .int)]
def wsX6_drawn_r5 : List Cond := [Cond.instanceMethod yX2_init, Cond.code yX2_init cX2_init 1 none, Cond.methodLink RX2 3 objectInit, Cond.instanceMethod objectInit, Cond.code objectInit ⟨#[0xb1]⟩ 1 none, Cond.arrayClass .int, Cond.methodLink RX3 25 yX2_copy]
def wsX6_drawn : List Cond := .code yX6_drawn cX6_drawn 5 (some .int) :: ((wsX6_drawn_r1 ++ (wsX6_drawn_r2 ++ (wsX6_drawn_r3 ++ (wsX6_drawn_r4 ++ wsX6_drawn_r5)))) ++ wsX60 ++ wsX00 ++ wsX20 ++ wsX10 ++ wsX30)
def wsX6_undo : List Cond := .code yX6_undo cX6_undo 1 (some .int) :: ([.fieldLink RX6 40 "TwinRows" "history" "LTwinRows$History;", .fieldLink RX6 30 "TwinRows" "frame" "LTwinRows$Frame;", .fieldLink RX6 60 "TwinRows" "fillings" "LTwinRows$Fillings;", .methodLink RX6 219 yX3_takeLatest, .instanceMethod yX3_takeLatest, .selects RX3 yX3_takeLatest yX3_takeLatest, .initialized RX3, .code yX3_takeLatest cX3_takeLatest 2 none, .fieldLink RX3 21 "TwinRows$History" "size" "I", .fieldLink RX3 11 "TwinRows$History" "ring" "[LTwinRows$Frame;", .fieldLink RX3 17 "TwinRows$History" "latest" "I", .methodLink RX3 25 yX2_copy, .instanceMethod yX2_copy, .selects RX2 yX2_copy yX2_copy, .initialized RX2, .code yX2_copy cX2_copy 2 none, .fieldLink RX2 9 "TwinRows$Frame" "cells" "I", .fieldLink RX2 15 "TwinRows$Frame" "holes" "I", .fieldLink RX2 18 "TwinRows$Frame" "pairs" "I", .fieldLink RX2 21 "TwinRows$Frame" "pins" "[I", .methodLink RX2 31 arraycopyName, .native arraycopyName, .static arraycopyName, .initialized "java/lang/System"] ++ wsX60 ++ wsX30 ++ wsX10 ++ wsX20)
def wsX6_image : List Cond := .code yX6_image cX6_image 2 (some .boolean) :: ([.fieldLink RX6 44 "TwinRows" "images" "[LTwinRows$Frame;", .classLink RX6 27 RX2, .instantiable RX2 4, .initialized RX2, .fieldLink RX6 30 "TwinRows" "frame" "LTwinRows$Frame;", .instanceMethod yX2_init, .code yX2_init cX2_init 1 none, .methodLink RX2 3 objectInit, .instanceMethod objectInit, .code objectInit ⟨#[0xb1]⟩ 1 none, .fieldLink RX2 9 "TwinRows$Frame" "cells" "I", .fieldLink RX2 15 "TwinRows$Frame" "holes" "I", .fieldLink RX2 18 "TwinRows$Frame" "pairs" "I", .arrayClass .int, .fieldLink RX2 21 "TwinRows$Frame" "pins" "[I", .methodLink RX6 102 yX2_copy, .instanceMethod yX2_copy, .selects RX2 yX2_copy yX2_copy, .code yX2_copy cX2_copy 2 none, .methodLink RX2 31 arraycopyName, .native arraycopyName, .static arraycopyName, .initialized "java/lang/System"] ++ wsX60 ++ wsX20)
def wsX6_restore : List Cond := .code yX6_restore cX6_restore 2 (some .boolean) :: ([.fieldLink RX6 44 "TwinRows" "images" "[LTwinRows$Frame;", .methodLink RX6 94 yX6_becomes, .instanceMethod yX6_becomes, .selects RX6 yX6_becomes yX6_becomes, .initialized RX6, .code yX6_becomes cX6_becomes 2 none, .fieldLink RX6 30 "TwinRows" "frame" "LTwinRows$Frame;", .fieldLink RX6 40 "TwinRows" "history" "LTwinRows$History;", .fieldLink RX6 60 "TwinRows" "fillings" "LTwinRows$Fillings;", .methodLink RX6 102 yX2_copy, .instanceMethod yX2_copy, .selects RX2 yX2_copy yX2_copy, .initialized RX2, .code yX2_copy cX2_copy 2 none, .fieldLink RX2 9 "TwinRows$Frame" "cells" "I", .fieldLink RX2 15 "TwinRows$Frame" "holes" "I", .fieldLink RX2 18 "TwinRows$Frame" "pairs" "I", .fieldLink RX2 21 "TwinRows$Frame" "pins" "[I", .methodLink RX2 31 arraycopyName, .native arraycopyName, .static arraycopyName, .initialized "java/lang/System"] ++ wsX60 ++ wsX30 ++ wsX10 ++ wsX20)
def wsX7_thrown : List Cond := .code yX7_thrown cX7_thrown 1 (some .int) :: ([.fieldLink RX7 1 "TwinRowsModel" "thrown" "I"] ++ wsX70)
def wsX7_refuse : List Cond := .code yX7_refuse cX7_refuse 1 (some .int) :: ([.fieldLink RX7 1 "TwinRowsModel" "thrown" "I"] ++ wsX70)
def wsX7_isIn : List Cond := .code yX7_isIn cX7_isIn 3 (some .boolean) :: ([])
def wsX7_has : List Cond := .code yX7_has cX7_has 2 (some .boolean) :: ([])
def wsX7_bits : List Cond := .code yX7_bits cX7_bits 3 (some .int) :: ([])
def wsX7_lay : List Cond := .code yX7_lay cX7_lay 3 none :: ([.fieldLink RX7 7 "TwinRowsModel" "tape" "[I", .fieldLink RX7 11 "TwinRowsModel" "taped" "I"] ++ wsX70)
def wsX7_feed : List Cond := .code yX7_feed cX7_feed 6 (some .int) :: ([.fieldLink RX7 1 "TwinRowsModel" "thrown" "I", .fieldLink RX7 11 "TwinRowsModel" "taped" "I", .methodLink RX7 14 yX7_lay, .instanceMethod yX7_lay, .selects RX7 yX7_lay yX7_lay, .initialized RX7, .code yX7_lay cX7_lay 3 none, .fieldLink RX7 7 "TwinRowsModel" "tape" "[I"] ++ wsX70)
def wsX7_end : List Cond := .code yX7_end cX7_end 2 (some .boolean) :: ([.fieldLink RX7 1 "TwinRowsModel" "thrown" "I", .fieldLink RX7 11 "TwinRowsModel" "taped" "I"] ++ wsX70)
def wsX7_tapeAt : List Cond := .code yX7_tapeAt cX7_tapeAt 2 (some .int) :: ([.fieldLink RX7 18 "TwinRowsModel" "size" "I", .fieldLink RX7 7 "TwinRowsModel" "tape" "[I"] ++ wsX70)
def wsX7_isDigit : List Cond := .code yX7_isDigit cX7_isDigit 1 (some .boolean) :: ([])
def wsX7_isLetter : List Cond := .code yX7_isLetter cX7_isLetter 1 (some .boolean) :: ([])
def wsX7_goes : List Cond := .code yX7_goes cX7_goes 5 none :: ([.fieldLink RX7 21 "TwinRowsModel" "next" "I", .fieldLink RX7 18 "TwinRowsModel" "size" "I", .fieldLink RX7 7 "TwinRowsModel" "tape" "[I", .fieldLink RX7 24 "TwinRowsModel" "from" "I", .fieldLink RX7 27 "TwinRowsModel" "sort" "I", .fieldLink RX7 37 "TwinRowsModel" "word" "J", .fieldLink RX7 41 "TwinRowsModel" "number" "I", .constantLong RX7 48 (27), .constantLong RX7 50 (96), .methodLink RX7 30 yX7_isLetter, .static yX7_isLetter, .initialized RX7, .code yX7_isLetter cX7_isLetter 1 (some .boolean), .methodLink RX7 34 yX7_isDigit, .static yX7_isDigit, .code yX7_isDigit cX7_isDigit 1 (some .boolean), .methodLink RX7 44 yX7_tapeAt, .instanceMethod yX7_tapeAt, .selects RX7 yX7_tapeAt yX7_tapeAt, .code yX7_tapeAt cX7_tapeAt 2 (some .int)] ++ wsX70)
def wsX7_spelt : List Cond := .code yX7_spelt cX7_spelt 7 (some .long) :: ([.constantLong RX7 48 (27), .constantLong RX7 50 (96)])
def wsX7_isWord : List Cond := .code yX7_isWord cX7_isWord 3 (some .boolean) :: ([.fieldLink RX7 27 "TwinRowsModel" "sort" "I", .fieldLink RX7 37 "TwinRowsModel" "word" "J"] ++ wsX70)
def wsX7_isCells : List Cond := .code yX7_isCells cX7_isCells 1 (some .boolean) :: ([.methodLink RX7 52 yX7_spelt, .static yX7_spelt, .initialized RX7, .code yX7_spelt cX7_spelt 7 (some .long), .constantLong RX7 48 (27), .constantLong RX7 50 (96), .methodLink RX7 56 yX7_isWord, .instanceMethod yX7_isWord, .selects RX7 yX7_isWord yX7_isWord, .code yX7_isWord cX7_isWord 3 (some .boolean), .fieldLink RX7 27 "TwinRowsModel" "sort" "I", .fieldLink RX7 37 "TwinRowsModel" "word" "J"] ++ wsX70)
def wsX7_isHole : List Cond := .code yX7_isHole cX7_isHole 1 (some .boolean) :: ([.methodLink RX7 52 yX7_spelt, .static yX7_spelt, .initialized RX7, .code yX7_spelt cX7_spelt 7 (some .long), .constantLong RX7 48 (27), .constantLong RX7 50 (96), .methodLink RX7 56 yX7_isWord, .instanceMethod yX7_isWord, .selects RX7 yX7_isWord yX7_isWord, .code yX7_isWord cX7_isWord 3 (some .boolean), .fieldLink RX7 27 "TwinRowsModel" "sort" "I", .fieldLink RX7 37 "TwinRowsModel" "word" "J"] ++ wsX70)
def wsX7_isPair : List Cond := .code yX7_isPair cX7_isPair 1 (some .boolean) :: ([.methodLink RX7 52 yX7_spelt, .static yX7_spelt, .initialized RX7, .code yX7_spelt cX7_spelt 7 (some .long), .constantLong RX7 48 (27), .constantLong RX7 50 (96), .methodLink RX7 56 yX7_isWord, .instanceMethod yX7_isWord, .selects RX7 yX7_isWord yX7_isWord, .code yX7_isWord cX7_isWord 3 (some .boolean), .fieldLink RX7 27 "TwinRowsModel" "sort" "I", .fieldLink RX7 37 "TwinRowsModel" "word" "J"] ++ wsX70)
def wsX7_isAt : List Cond := .code yX7_isAt cX7_isAt 1 (some .boolean) :: ([.methodLink RX7 52 yX7_spelt, .static yX7_spelt, .initialized RX7, .code yX7_spelt cX7_spelt 7 (some .long), .constantLong RX7 48 (27), .constantLong RX7 50 (96), .methodLink RX7 56 yX7_isWord, .instanceMethod yX7_isWord, .selects RX7 yX7_isWord yX7_isWord, .code yX7_isWord cX7_isWord 3 (some .boolean), .fieldLink RX7 27 "TwinRowsModel" "sort" "I", .fieldLink RX7 37 "TwinRowsModel" "word" "J"] ++ wsX70)
def wsX7_bad : List Cond := .code yX7_bad cX7_bad 2 (some .boolean) :: ([.fieldLink RX7 27 "TwinRowsModel" "sort" "I", .fieldLink RX7 60 "TwinRowsModel" "fault" "I", .fieldLink RX7 24 "TwinRowsModel" "from" "I", .fieldLink RX7 63 "TwinRowsModel" "place" "I"] ++ wsX70)
def wsX7_isNumber : List Cond := .code yX7_isNumber cX7_isNumber 3 (some .boolean) :: ([.fieldLink RX7 27 "TwinRowsModel" "sort" "I", .fieldLink RX7 41 "TwinRowsModel" "number" "I", .methodLink RX7 66 yX7_bad, .instanceMethod yX7_bad, .selects RX7 yX7_bad yX7_bad, .initialized RX7, .code yX7_bad cX7_bad 2 (some .boolean), .fieldLink RX7 60 "TwinRowsModel" "fault" "I", .fieldLink RX7 24 "TwinRowsModel" "from" "I", .fieldLink RX7 63 "TwinRowsModel" "place" "I", .methodLink RX7 69 yX7_isIn, .static yX7_isIn, .code yX7_isIn cX7_isIn 3 (some .boolean)] ++ wsX70)
def wsX7_init : List Cond := .code yX7_init cX7_init 1 none :: ([.methodLink RX7 73 objectInit, .instanceMethod objectInit, .code objectInit ⟨#[0xb1]⟩ 1 none, .arrayClass .int, .fieldLink RX7 7 "TwinRowsModel" "tape" "[I", .fieldLink RX7 79 "TwinRowsModel" "now" "[I", .fieldLink RX7 82 "TwinRowsModel" "read" "[I", .fieldLink RX7 85 "TwinRowsModel" "kept" "[I", .fieldLink RX7 88 "TwinRowsModel" "snaps" "[I", .fieldLink RX7 91 "TwinRowsModel" "before" "[I", .fieldLink RX7 94 "TwinRowsModel" "live" "[I", .fieldLink RX7 97 "TwinRowsModel" "other" "[I", .arrayClass .boolean, .fieldLink RX7 100 "TwinRowsModel" "isKept" "[Z", .fieldLink RX7 104 "TwinRowsModel" "cell" "[I", .fieldLink RX7 107 "TwinRowsModel" "wantedRow" "[I", .fieldLink RX7 110 "TwinRowsModel" "asked" "[I", .fieldLink RX7 113 "TwinRowsModel" "standing" "[I", .fieldLink RX7 116 "TwinRowsModel" "row" "[I", .fieldLink RX7 119 "TwinRowsModel" "rowMany" "I", .fieldLink RX7 122 "TwinRowsModel" "madeRow" "[I"] ++ wsX70)
def wsX7_copy : List Cond := .code yX7_copy cX7_copy 5 none :: ([])
def wsX7_isTold : List Cond := .code yX7_isTold cX7_isTold 2 (some .boolean) :: ([.methodLink RX7 69 yX7_isIn, .static yX7_isIn, .initialized RX7, .code yX7_isIn cX7_isIn 3 (some .boolean), .methodLink RX7 125 yX7_has, .static yX7_has, .code yX7_has cX7_has 2 (some .boolean)])
def wsX7_pins : List Cond := .code yX7_pins cX7_pins 4 (some .int) :: ([.methodLink RX7 129 yX7_isTold, .static yX7_isTold, .initialized RX7, .code yX7_isTold cX7_isTold 2 (some .boolean), .methodLink RX7 69 yX7_isIn, .static yX7_isIn, .code yX7_isIn cX7_isIn 3 (some .boolean), .methodLink RX7 125 yX7_has, .static yX7_has, .code yX7_has cX7_has 2 (some .boolean)])
def wsX7_mayPin : List Cond := .code yX7_mayPin cX7_mayPin 3 (some .boolean) :: ([.methodLink RX7 133 yX7_pins, .static yX7_pins, .initialized RX7, .code yX7_pins cX7_pins 4 (some .int), .methodLink RX7 129 yX7_isTold, .static yX7_isTold, .code yX7_isTold cX7_isTold 2 (some .boolean), .methodLink RX7 69 yX7_isIn, .static yX7_isIn, .code yX7_isIn cX7_isIn 3 (some .boolean), .methodLink RX7 125 yX7_has, .static yX7_has, .code yX7_has cX7_has 2 (some .boolean)])
def wsX7_readHole_r1 : List Cond := [Cond.fieldLink RX7 82 "TwinRowsModel" "read" "[I", Cond.fieldLink RX7 41 "TwinRowsModel" "number" "I", Cond.methodLink RX7 137 yX7_goes, Cond.instanceMethod yX7_goes, Cond.selects RX7 yX7_goes yX7_goes, Cond.initialized RX7, Cond.code yX7_goes cX7_goes 5 none, Cond.fieldLink RX7 21 "TwinRowsModel" "next" "I", Cond.fieldLink RX7 18 "TwinRowsModel" "size" "I", Cond.fieldLink RX7 7 "TwinRowsModel" "tape" "[I", Cond.fieldLink RX7 24 "TwinRowsModel" "from" "I", Cond.fieldLink RX7 27 "TwinRowsModel" "sort" "I", Cond.fieldLink RX7 37 "TwinRowsModel" "word" "J", Cond.constantLong RX7 48 (27), Cond.constantLong RX7 50 (96), Cond.methodLink RX7 30 yX7_isLetter, Cond.static yX7_isLetter, Cond.code yX7_isLetter cX7_isLetter 1 (some .boolean), Cond.methodLink RX7 34 yX7_isDigit, Cond.static yX7_isDigit, Cond.code yX7_isDigit cX7_isDigit 1 (some .boolean), Cond.methodLink RX7 44 yX7_tapeAt, Cond.instanceMethod yX7_tapeAt, Cond.selects RX7 yX7_tapeAt yX7_tapeAt]
def wsX7_readHole_r2 : List Cond := [Cond.code yX7_tapeAt cX7_tapeAt 2 (some .int), Cond.methodLink RX7 140 yX7_isNumber, Cond.instanceMethod yX7_isNumber, Cond.selects RX7 yX7_isNumber yX7_isNumber, Cond.code yX7_isNumber cX7_isNumber 3 (some .boolean), Cond.methodLink RX7 66 yX7_bad, Cond.instanceMethod yX7_bad, Cond.selects RX7 yX7_bad yX7_bad, Cond.code yX7_bad cX7_bad 2 (some .boolean), Cond.fieldLink RX7 60 "TwinRowsModel" "fault" "I", Cond.fieldLink RX7 63 "TwinRowsModel" "place" "I", Cond.methodLink RX7 69 yX7_isIn, Cond.static yX7_isIn, Cond.code yX7_isIn cX7_isIn 3 (some .boolean), Cond.methodLink RX7 133 yX7_pins, Cond.static yX7_pins, Cond.code yX7_pins cX7_pins 4 (some .int), Cond.methodLink RX7 129 yX7_isTold, Cond.static yX7_isTold, Cond.code yX7_isTold cX7_isTold 2 (some .boolean), Cond.methodLink RX7 125 yX7_has, Cond.static yX7_has, Cond.code yX7_has cX7_has 2 (some .boolean)]
def wsX7_readHole : List Cond := .code yX7_readHole cX7_readHole 1 (some .boolean) :: ((wsX7_readHole_r1 ++ wsX7_readHole_r2) ++ wsX70)
def wsX7_readPair_r1 : List Cond := [Cond.fieldLink RX7 82 "TwinRowsModel" "read" "[I", Cond.fieldLink RX7 41 "TwinRowsModel" "number" "I", Cond.methodLink RX7 143 yX7_bits, Cond.static yX7_bits, Cond.initialized RX7, Cond.code yX7_bits cX7_bits 3 (some .int), Cond.methodLink RX7 66 yX7_bad, Cond.instanceMethod yX7_bad, Cond.selects RX7 yX7_bad yX7_bad, Cond.code yX7_bad cX7_bad 2 (some .boolean), Cond.fieldLink RX7 27 "TwinRowsModel" "sort" "I", Cond.fieldLink RX7 60 "TwinRowsModel" "fault" "I", Cond.fieldLink RX7 24 "TwinRowsModel" "from" "I", Cond.fieldLink RX7 63 "TwinRowsModel" "place" "I", Cond.methodLink RX7 137 yX7_goes, Cond.instanceMethod yX7_goes, Cond.selects RX7 yX7_goes yX7_goes, Cond.code yX7_goes cX7_goes 5 none, Cond.fieldLink RX7 21 "TwinRowsModel" "next" "I", Cond.fieldLink RX7 18 "TwinRowsModel" "size" "I", Cond.fieldLink RX7 7 "TwinRowsModel" "tape" "[I", Cond.fieldLink RX7 37 "TwinRowsModel" "word" "J", Cond.constantLong RX7 48 (27), Cond.constantLong RX7 50 (96)]
def wsX7_readPair_r2 : List Cond := [Cond.methodLink RX7 30 yX7_isLetter, Cond.static yX7_isLetter, Cond.code yX7_isLetter cX7_isLetter 1 (some .boolean), Cond.methodLink RX7 34 yX7_isDigit, Cond.static yX7_isDigit, Cond.code yX7_isDigit cX7_isDigit 1 (some .boolean), Cond.methodLink RX7 44 yX7_tapeAt, Cond.instanceMethod yX7_tapeAt, Cond.selects RX7 yX7_tapeAt yX7_tapeAt, Cond.code yX7_tapeAt cX7_tapeAt 2 (some .int), Cond.methodLink RX7 140 yX7_isNumber, Cond.instanceMethod yX7_isNumber, Cond.selects RX7 yX7_isNumber yX7_isNumber, Cond.code yX7_isNumber cX7_isNumber 3 (some .boolean), Cond.methodLink RX7 69 yX7_isIn, Cond.static yX7_isIn, Cond.code yX7_isIn cX7_isIn 3 (some .boolean), Cond.methodLink RX7 129 yX7_isTold, Cond.static yX7_isTold, Cond.code yX7_isTold cX7_isTold 2 (some .boolean), Cond.methodLink RX7 125 yX7_has, Cond.static yX7_has, Cond.code yX7_has cX7_has 2 (some .boolean), Cond.methodLink RX7 146 yX7_isAt]
def wsX7_readPair_r3 : List Cond := [Cond.instanceMethod yX7_isAt, Cond.selects RX7 yX7_isAt yX7_isAt, Cond.code yX7_isAt cX7_isAt 1 (some .boolean), Cond.methodLink RX7 52 yX7_spelt, Cond.static yX7_spelt, Cond.code yX7_spelt cX7_spelt 7 (some .long), Cond.methodLink RX7 56 yX7_isWord, Cond.instanceMethod yX7_isWord, Cond.selects RX7 yX7_isWord yX7_isWord, Cond.code yX7_isWord cX7_isWord 3 (some .boolean), Cond.methodLink RX7 150 yX7_mayPin, Cond.static yX7_mayPin, Cond.code yX7_mayPin cX7_mayPin 3 (some .boolean), Cond.methodLink RX7 133 yX7_pins, Cond.static yX7_pins, Cond.code yX7_pins cX7_pins 4 (some .int)]
def wsX7_readPair : List Cond := .code yX7_readPair cX7_readPair 3 (some .boolean) :: ((wsX7_readPair_r1 ++ (wsX7_readPair_r2 ++ wsX7_readPair_r3)) ++ wsX70)
def wsX7_readCells_r1 : List Cond := [Cond.fieldLink RX7 82 "TwinRowsModel" "read" "[I", Cond.fieldLink RX7 41 "TwinRowsModel" "number" "I", Cond.methodLink RX7 137 yX7_goes, Cond.instanceMethod yX7_goes, Cond.selects RX7 yX7_goes yX7_goes, Cond.initialized RX7, Cond.code yX7_goes cX7_goes 5 none, Cond.fieldLink RX7 21 "TwinRowsModel" "next" "I", Cond.fieldLink RX7 18 "TwinRowsModel" "size" "I", Cond.fieldLink RX7 7 "TwinRowsModel" "tape" "[I", Cond.fieldLink RX7 24 "TwinRowsModel" "from" "I", Cond.fieldLink RX7 27 "TwinRowsModel" "sort" "I", Cond.fieldLink RX7 37 "TwinRowsModel" "word" "J", Cond.constantLong RX7 48 (27), Cond.constantLong RX7 50 (96), Cond.methodLink RX7 30 yX7_isLetter, Cond.static yX7_isLetter, Cond.code yX7_isLetter cX7_isLetter 1 (some .boolean), Cond.methodLink RX7 34 yX7_isDigit, Cond.static yX7_isDigit, Cond.code yX7_isDigit cX7_isDigit 1 (some .boolean), Cond.methodLink RX7 44 yX7_tapeAt, Cond.instanceMethod yX7_tapeAt, Cond.selects RX7 yX7_tapeAt yX7_tapeAt]
def wsX7_readCells_r2 : List Cond := [Cond.code yX7_tapeAt cX7_tapeAt 2 (some .int), Cond.methodLink RX7 140 yX7_isNumber, Cond.instanceMethod yX7_isNumber, Cond.selects RX7 yX7_isNumber yX7_isNumber, Cond.code yX7_isNumber cX7_isNumber 3 (some .boolean), Cond.methodLink RX7 66 yX7_bad, Cond.instanceMethod yX7_bad, Cond.selects RX7 yX7_bad yX7_bad, Cond.code yX7_bad cX7_bad 2 (some .boolean), Cond.fieldLink RX7 60 "TwinRowsModel" "fault" "I", Cond.fieldLink RX7 63 "TwinRowsModel" "place" "I", Cond.methodLink RX7 69 yX7_isIn, Cond.static yX7_isIn, Cond.code yX7_isIn cX7_isIn 3 (some .boolean)]
def wsX7_readCells : List Cond := .code yX7_readCells cX7_readCells 1 (some .boolean) :: ((wsX7_readCells_r1 ++ wsX7_readCells_r2) ++ wsX70)
def wsX7_readRow_r1 : List Cond := [Cond.fieldLink RX7 82 "TwinRowsModel" "read" "[I", Cond.methodLink RX7 154 yX7_isCells, Cond.instanceMethod yX7_isCells, Cond.selects RX7 yX7_isCells yX7_isCells, Cond.initialized RX7, Cond.code yX7_isCells cX7_isCells 1 (some .boolean), Cond.methodLink RX7 52 yX7_spelt, Cond.static yX7_spelt, Cond.code yX7_spelt cX7_spelt 7 (some .long), Cond.constantLong RX7 48 (27), Cond.constantLong RX7 50 (96), Cond.methodLink RX7 56 yX7_isWord, Cond.instanceMethod yX7_isWord, Cond.selects RX7 yX7_isWord yX7_isWord, Cond.code yX7_isWord cX7_isWord 3 (some .boolean), Cond.fieldLink RX7 27 "TwinRowsModel" "sort" "I", Cond.fieldLink RX7 37 "TwinRowsModel" "word" "J", Cond.methodLink RX7 157 yX7_readCells, Cond.instanceMethod yX7_readCells, Cond.selects RX7 yX7_readCells yX7_readCells, Cond.code yX7_readCells cX7_readCells 1 (some .boolean), Cond.fieldLink RX7 41 "TwinRowsModel" "number" "I", Cond.methodLink RX7 137 yX7_goes, Cond.instanceMethod yX7_goes]
def wsX7_readRow_r2 : List Cond := [Cond.selects RX7 yX7_goes yX7_goes, Cond.code yX7_goes cX7_goes 5 none, Cond.fieldLink RX7 21 "TwinRowsModel" "next" "I", Cond.fieldLink RX7 18 "TwinRowsModel" "size" "I", Cond.fieldLink RX7 7 "TwinRowsModel" "tape" "[I", Cond.fieldLink RX7 24 "TwinRowsModel" "from" "I", Cond.methodLink RX7 30 yX7_isLetter, Cond.static yX7_isLetter, Cond.code yX7_isLetter cX7_isLetter 1 (some .boolean), Cond.methodLink RX7 34 yX7_isDigit, Cond.static yX7_isDigit, Cond.code yX7_isDigit cX7_isDigit 1 (some .boolean), Cond.methodLink RX7 44 yX7_tapeAt, Cond.instanceMethod yX7_tapeAt, Cond.selects RX7 yX7_tapeAt yX7_tapeAt, Cond.code yX7_tapeAt cX7_tapeAt 2 (some .int), Cond.methodLink RX7 140 yX7_isNumber, Cond.instanceMethod yX7_isNumber, Cond.selects RX7 yX7_isNumber yX7_isNumber, Cond.code yX7_isNumber cX7_isNumber 3 (some .boolean), Cond.methodLink RX7 66 yX7_bad, Cond.instanceMethod yX7_bad, Cond.selects RX7 yX7_bad yX7_bad, Cond.code yX7_bad cX7_bad 2 (some .boolean)]
def wsX7_readRow_r3 : List Cond := [Cond.fieldLink RX7 60 "TwinRowsModel" "fault" "I", Cond.fieldLink RX7 63 "TwinRowsModel" "place" "I", Cond.methodLink RX7 69 yX7_isIn, Cond.static yX7_isIn, Cond.code yX7_isIn cX7_isIn 3 (some .boolean), Cond.methodLink RX7 160 yX7_isHole, Cond.instanceMethod yX7_isHole, Cond.selects RX7 yX7_isHole yX7_isHole, Cond.code yX7_isHole cX7_isHole 1 (some .boolean), Cond.methodLink RX7 163 yX7_readHole, Cond.instanceMethod yX7_readHole, Cond.selects RX7 yX7_readHole yX7_readHole, Cond.code yX7_readHole cX7_readHole 1 (some .boolean), Cond.methodLink RX7 133 yX7_pins, Cond.static yX7_pins, Cond.code yX7_pins cX7_pins 4 (some .int), Cond.methodLink RX7 129 yX7_isTold, Cond.static yX7_isTold, Cond.code yX7_isTold cX7_isTold 2 (some .boolean), Cond.methodLink RX7 125 yX7_has, Cond.static yX7_has, Cond.code yX7_has cX7_has 2 (some .boolean), Cond.methodLink RX7 166 yX7_isPair, Cond.instanceMethod yX7_isPair]
def wsX7_readRow_r4 : List Cond := [Cond.selects RX7 yX7_isPair yX7_isPair, Cond.code yX7_isPair cX7_isPair 1 (some .boolean), Cond.methodLink RX7 169 yX7_readPair, Cond.instanceMethod yX7_readPair, Cond.selects RX7 yX7_readPair yX7_readPair, Cond.code yX7_readPair cX7_readPair 3 (some .boolean), Cond.methodLink RX7 143 yX7_bits, Cond.static yX7_bits, Cond.code yX7_bits cX7_bits 3 (some .int), Cond.methodLink RX7 146 yX7_isAt, Cond.instanceMethod yX7_isAt, Cond.selects RX7 yX7_isAt yX7_isAt, Cond.code yX7_isAt cX7_isAt 1 (some .boolean), Cond.methodLink RX7 150 yX7_mayPin, Cond.static yX7_mayPin, Cond.code yX7_mayPin cX7_mayPin 3 (some .boolean)]
def wsX7_readRow : List Cond := .code yX7_readRow cX7_readRow 1 (some .boolean) :: ((wsX7_readRow_r1 ++ (wsX7_readRow_r2 ++ (wsX7_readRow_r3 ++ wsX7_readRow_r4))) ++ wsX70)
def wsX7_readEnd_r1 : List Cond := [Cond.fieldLink RX7 27 "TwinRowsModel" "sort" "I", Cond.methodLink RX7 66 yX7_bad, Cond.instanceMethod yX7_bad, Cond.selects RX7 yX7_bad yX7_bad, Cond.initialized RX7, Cond.code yX7_bad cX7_bad 2 (some .boolean), Cond.fieldLink RX7 60 "TwinRowsModel" "fault" "I", Cond.fieldLink RX7 24 "TwinRowsModel" "from" "I", Cond.fieldLink RX7 63 "TwinRowsModel" "place" "I", Cond.methodLink RX7 137 yX7_goes, Cond.instanceMethod yX7_goes, Cond.selects RX7 yX7_goes yX7_goes, Cond.code yX7_goes cX7_goes 5 none, Cond.fieldLink RX7 21 "TwinRowsModel" "next" "I", Cond.fieldLink RX7 18 "TwinRowsModel" "size" "I", Cond.fieldLink RX7 7 "TwinRowsModel" "tape" "[I", Cond.fieldLink RX7 37 "TwinRowsModel" "word" "J", Cond.fieldLink RX7 41 "TwinRowsModel" "number" "I", Cond.constantLong RX7 48 (27), Cond.constantLong RX7 50 (96), Cond.methodLink RX7 30 yX7_isLetter, Cond.static yX7_isLetter, Cond.code yX7_isLetter cX7_isLetter 1 (some .boolean), Cond.methodLink RX7 34 yX7_isDigit]
def wsX7_readEnd_r2 : List Cond := [Cond.static yX7_isDigit, Cond.code yX7_isDigit cX7_isDigit 1 (some .boolean), Cond.methodLink RX7 44 yX7_tapeAt, Cond.instanceMethod yX7_tapeAt, Cond.selects RX7 yX7_tapeAt yX7_tapeAt, Cond.code yX7_tapeAt cX7_tapeAt 2 (some .int)]
def wsX7_readEnd : List Cond := .code yX7_readEnd cX7_readEnd 1 (some .boolean) :: ((wsX7_readEnd_r1 ++ wsX7_readEnd_r2) ++ wsX70)
def wsX7_frame_r1 : List Cond := [Cond.fieldLink RX7 1 "TwinRowsModel" "thrown" "I", Cond.fieldLink RX7 11 "TwinRowsModel" "taped" "I", Cond.fieldLink RX7 18 "TwinRowsModel" "size" "I", Cond.fieldLink RX7 60 "TwinRowsModel" "fault" "I", Cond.fieldLink RX7 21 "TwinRowsModel" "next" "I", Cond.fieldLink RX7 82 "TwinRowsModel" "read" "[I", Cond.fieldLink RX7 27 "TwinRowsModel" "sort" "I", Cond.fieldLink RX7 63 "TwinRowsModel" "place" "I", Cond.fieldLink RX7 79 "TwinRowsModel" "now" "[I", Cond.fieldLink RX7 182 "TwinRowsModel" "snapMany" "I", Cond.methodLink RX7 137 yX7_goes, Cond.instanceMethod yX7_goes, Cond.selects RX7 yX7_goes yX7_goes, Cond.initialized RX7, Cond.code yX7_goes cX7_goes 5 none, Cond.fieldLink RX7 7 "TwinRowsModel" "tape" "[I", Cond.fieldLink RX7 24 "TwinRowsModel" "from" "I", Cond.fieldLink RX7 37 "TwinRowsModel" "word" "J", Cond.fieldLink RX7 41 "TwinRowsModel" "number" "I", Cond.constantLong RX7 48 (27), Cond.constantLong RX7 50 (96), Cond.methodLink RX7 30 yX7_isLetter, Cond.static yX7_isLetter, Cond.code yX7_isLetter cX7_isLetter 1 (some .boolean)]
def wsX7_frame_r2 : List Cond := [Cond.methodLink RX7 34 yX7_isDigit, Cond.static yX7_isDigit, Cond.code yX7_isDigit cX7_isDigit 1 (some .boolean), Cond.methodLink RX7 44 yX7_tapeAt, Cond.instanceMethod yX7_tapeAt, Cond.selects RX7 yX7_tapeAt yX7_tapeAt, Cond.code yX7_tapeAt cX7_tapeAt 2 (some .int), Cond.methodLink RX7 172 yX7_readRow, Cond.instanceMethod yX7_readRow, Cond.selects RX7 yX7_readRow yX7_readRow, Cond.code yX7_readRow cX7_readRow 1 (some .boolean), Cond.methodLink RX7 154 yX7_isCells, Cond.instanceMethod yX7_isCells, Cond.selects RX7 yX7_isCells yX7_isCells, Cond.code yX7_isCells cX7_isCells 1 (some .boolean), Cond.methodLink RX7 52 yX7_spelt, Cond.static yX7_spelt, Cond.code yX7_spelt cX7_spelt 7 (some .long), Cond.methodLink RX7 56 yX7_isWord, Cond.instanceMethod yX7_isWord, Cond.selects RX7 yX7_isWord yX7_isWord, Cond.code yX7_isWord cX7_isWord 3 (some .boolean), Cond.methodLink RX7 157 yX7_readCells, Cond.instanceMethod yX7_readCells]
def wsX7_frame_r3 : List Cond := [Cond.selects RX7 yX7_readCells yX7_readCells, Cond.code yX7_readCells cX7_readCells 1 (some .boolean), Cond.methodLink RX7 140 yX7_isNumber, Cond.instanceMethod yX7_isNumber, Cond.selects RX7 yX7_isNumber yX7_isNumber, Cond.code yX7_isNumber cX7_isNumber 3 (some .boolean), Cond.methodLink RX7 66 yX7_bad, Cond.instanceMethod yX7_bad, Cond.selects RX7 yX7_bad yX7_bad, Cond.code yX7_bad cX7_bad 2 (some .boolean), Cond.methodLink RX7 69 yX7_isIn, Cond.static yX7_isIn, Cond.code yX7_isIn cX7_isIn 3 (some .boolean), Cond.methodLink RX7 160 yX7_isHole, Cond.instanceMethod yX7_isHole, Cond.selects RX7 yX7_isHole yX7_isHole, Cond.code yX7_isHole cX7_isHole 1 (some .boolean), Cond.methodLink RX7 163 yX7_readHole, Cond.instanceMethod yX7_readHole, Cond.selects RX7 yX7_readHole yX7_readHole, Cond.code yX7_readHole cX7_readHole 1 (some .boolean), Cond.methodLink RX7 133 yX7_pins, Cond.static yX7_pins, Cond.code yX7_pins cX7_pins 4 (some .int)]
def wsX7_frame_r4 : List Cond := [Cond.methodLink RX7 129 yX7_isTold, Cond.static yX7_isTold, Cond.code yX7_isTold cX7_isTold 2 (some .boolean), Cond.methodLink RX7 125 yX7_has, Cond.static yX7_has, Cond.code yX7_has cX7_has 2 (some .boolean), Cond.methodLink RX7 166 yX7_isPair, Cond.instanceMethod yX7_isPair, Cond.selects RX7 yX7_isPair yX7_isPair, Cond.code yX7_isPair cX7_isPair 1 (some .boolean), Cond.methodLink RX7 169 yX7_readPair, Cond.instanceMethod yX7_readPair, Cond.selects RX7 yX7_readPair yX7_readPair, Cond.code yX7_readPair cX7_readPair 3 (some .boolean), Cond.methodLink RX7 143 yX7_bits, Cond.static yX7_bits, Cond.code yX7_bits cX7_bits 3 (some .int), Cond.methodLink RX7 146 yX7_isAt, Cond.instanceMethod yX7_isAt, Cond.selects RX7 yX7_isAt yX7_isAt, Cond.code yX7_isAt cX7_isAt 1 (some .boolean), Cond.methodLink RX7 150 yX7_mayPin, Cond.static yX7_mayPin, Cond.code yX7_mayPin cX7_mayPin 3 (some .boolean)]
def wsX7_frame_r5 : List Cond := [Cond.methodLink RX7 175 yX7_readEnd, Cond.instanceMethod yX7_readEnd, Cond.selects RX7 yX7_readEnd yX7_readEnd, Cond.code yX7_readEnd cX7_readEnd 1 (some .boolean), Cond.methodLink RX7 178 yX7_copy, Cond.static yX7_copy, Cond.code yX7_copy cX7_copy 5 none]
def wsX7_frame : List Cond := .code yX7_frame cX7_frame 3 (some .int) :: ((wsX7_frame_r1 ++ (wsX7_frame_r2 ++ (wsX7_frame_r3 ++ (wsX7_frame_r4 ++ wsX7_frame_r5)))) ++ wsX70)
def wsX7_fault : List Cond := .code yX7_fault cX7_fault 1 (some .int) :: ([.fieldLink RX7 1 "TwinRowsModel" "thrown" "I", .fieldLink RX7 60 "TwinRowsModel" "fault" "I"] ++ wsX70)
def wsX7_laysKind : List Cond := .code yX7_laysKind cX7_laysKind 4 none :: ([])
def wsX7_snap : List Cond := .code yX7_snap cX7_snap 2 none :: ([.fieldLink RX7 182 "TwinRowsModel" "snapMany" "I", .fieldLink RX7 88 "TwinRowsModel" "snaps" "[I", .fieldLink RX7 79 "TwinRowsModel" "now" "[I", .methodLink RX7 178 yX7_copy, .static yX7_copy, .initialized RX7, .code yX7_copy cX7_copy 5 none] ++ wsX70)
def wsX7_kind : List Cond := .code yX7_kind cX7_kind 3 (some .int) :: ([.fieldLink RX7 1 "TwinRowsModel" "thrown" "I", .fieldLink RX7 79 "TwinRowsModel" "now" "[I", .methodLink RX7 69 yX7_isIn, .static yX7_isIn, .initialized RX7, .code yX7_isIn cX7_isIn 3 (some .boolean), .methodLink RX7 185 yX7_snap, .instanceMethod yX7_snap, .selects RX7 yX7_snap yX7_snap, .code yX7_snap cX7_snap 2 none, .fieldLink RX7 182 "TwinRowsModel" "snapMany" "I", .fieldLink RX7 88 "TwinRowsModel" "snaps" "[I", .methodLink RX7 178 yX7_copy, .static yX7_copy, .code yX7_copy cX7_copy 5 none, .methodLink RX7 188 yX7_laysKind, .static yX7_laysKind, .code yX7_laysKind cX7_laysKind 4 none] ++ wsX70)
def wsX7_isEven : List Cond := .code yX7_isEven cX7_isEven 5 (some .boolean) :: ([.methodLink RX7 125 yX7_has, .static yX7_has, .initialized RX7, .code yX7_has cX7_has 2 (some .boolean), .methodLink RX7 129 yX7_isTold, .static yX7_isTold, .code yX7_isTold cX7_isTold 2 (some .boolean), .methodLink RX7 69 yX7_isIn, .static yX7_isIn, .code yX7_isIn cX7_isIn 3 (some .boolean), .methodLink RX7 143 yX7_bits, .static yX7_bits, .code yX7_bits cX7_bits 3 (some .int)])
def wsX7_counts : List Cond := .code yX7_counts cX7_counts 5 none :: ([.fieldLink RX7 199 "TwinRowsModel" "found" "I", .fieldLink RX7 202 "TwinRowsModel" "wanted" "I", .fieldLink RX7 107 "TwinRowsModel" "wantedRow" "[I", .fieldLink RX7 104 "TwinRowsModel" "cell" "[I", .fieldLink RX7 110 "TwinRowsModel" "asked" "[I", .fieldLink RX7 113 "TwinRowsModel" "standing" "[I", .fieldLink RX7 205 "TwinRowsModel" "rankOf" "I"] ++ wsX70)
def wsX7_fills : List Cond := .code yX7_fills cX7_fills 6 none :: ([.fieldLink RX7 104 "TwinRowsModel" "cell" "[I", .methodLink RX7 125 yX7_has, .static yX7_has, .initialized RX7, .code yX7_has cX7_has 2 (some .boolean), .methodLink RX7 192 yX7_counts, .instanceMethod yX7_counts, .selects RX7 yX7_counts yX7_counts, .code yX7_counts cX7_counts 5 none, .fieldLink RX7 199 "TwinRowsModel" "found" "I", .fieldLink RX7 202 "TwinRowsModel" "wanted" "I", .fieldLink RX7 107 "TwinRowsModel" "wantedRow" "[I", .fieldLink RX7 110 "TwinRowsModel" "asked" "[I", .fieldLink RX7 113 "TwinRowsModel" "standing" "[I", .fieldLink RX7 205 "TwinRowsModel" "rankOf" "I", .methodLink RX7 196 yX7_fills, .instanceMethod yX7_fills, .selects RX7 yX7_fills yX7_fills] ++ wsX70)
def wsX7_all_r1 : List Cond := [Cond.fieldLink RX7 199 "TwinRowsModel" "found" "I", Cond.fieldLink RX7 202 "TwinRowsModel" "wanted" "I", Cond.fieldLink RX7 205 "TwinRowsModel" "rankOf" "I", Cond.fieldLink RX7 104 "TwinRowsModel" "cell" "[I", Cond.fieldLink RX7 113 "TwinRowsModel" "standing" "[I", Cond.methodLink RX7 208 yX7_isEven, Cond.instanceMethod yX7_isEven, Cond.selects RX7 yX7_isEven yX7_isEven, Cond.initialized RX7, Cond.code yX7_isEven cX7_isEven 5 (some .boolean), Cond.methodLink RX7 125 yX7_has, Cond.static yX7_has, Cond.code yX7_has cX7_has 2 (some .boolean), Cond.methodLink RX7 129 yX7_isTold, Cond.static yX7_isTold, Cond.code yX7_isTold cX7_isTold 2 (some .boolean), Cond.methodLink RX7 69 yX7_isIn, Cond.static yX7_isIn, Cond.code yX7_isIn cX7_isIn 3 (some .boolean), Cond.methodLink RX7 143 yX7_bits, Cond.static yX7_bits, Cond.code yX7_bits cX7_bits 3 (some .int), Cond.methodLink RX7 196 yX7_fills, Cond.instanceMethod yX7_fills]
def wsX7_all_r2 : List Cond := [Cond.selects RX7 yX7_fills yX7_fills, Cond.code yX7_fills cX7_fills 6 none, Cond.methodLink RX7 192 yX7_counts, Cond.instanceMethod yX7_counts, Cond.selects RX7 yX7_counts yX7_counts, Cond.code yX7_counts cX7_counts 5 none, Cond.fieldLink RX7 107 "TwinRowsModel" "wantedRow" "[I", Cond.fieldLink RX7 110 "TwinRowsModel" "asked" "[I"]
def wsX7_all : List Cond := .code yX7_all cX7_all 4 (some .int) :: ((wsX7_all_r1 ++ wsX7_all_r2) ++ wsX70)
def wsX7_ways_r1 : List Cond := [Cond.fieldLink RX7 1 "TwinRowsModel" "thrown" "I", Cond.fieldLink RX7 79 "TwinRowsModel" "now" "[I", Cond.methodLink RX7 212 yX7_all, Cond.instanceMethod yX7_all, Cond.selects RX7 yX7_all yX7_all, Cond.initialized RX7, Cond.code yX7_all cX7_all 4 (some .int), Cond.fieldLink RX7 199 "TwinRowsModel" "found" "I", Cond.fieldLink RX7 202 "TwinRowsModel" "wanted" "I", Cond.fieldLink RX7 205 "TwinRowsModel" "rankOf" "I", Cond.fieldLink RX7 104 "TwinRowsModel" "cell" "[I", Cond.fieldLink RX7 113 "TwinRowsModel" "standing" "[I", Cond.methodLink RX7 208 yX7_isEven, Cond.instanceMethod yX7_isEven, Cond.selects RX7 yX7_isEven yX7_isEven, Cond.code yX7_isEven cX7_isEven 5 (some .boolean), Cond.methodLink RX7 125 yX7_has, Cond.static yX7_has, Cond.code yX7_has cX7_has 2 (some .boolean), Cond.methodLink RX7 129 yX7_isTold, Cond.static yX7_isTold, Cond.code yX7_isTold cX7_isTold 2 (some .boolean), Cond.methodLink RX7 69 yX7_isIn, Cond.static yX7_isIn]
def wsX7_ways_r2 : List Cond := [Cond.code yX7_isIn cX7_isIn 3 (some .boolean), Cond.methodLink RX7 143 yX7_bits, Cond.static yX7_bits, Cond.code yX7_bits cX7_bits 3 (some .int), Cond.methodLink RX7 196 yX7_fills, Cond.instanceMethod yX7_fills, Cond.selects RX7 yX7_fills yX7_fills, Cond.code yX7_fills cX7_fills 6 none, Cond.methodLink RX7 192 yX7_counts, Cond.instanceMethod yX7_counts, Cond.selects RX7 yX7_counts yX7_counts, Cond.code yX7_counts cX7_counts 5 none, Cond.fieldLink RX7 107 "TwinRowsModel" "wantedRow" "[I", Cond.fieldLink RX7 110 "TwinRowsModel" "asked" "[I"]
def wsX7_ways : List Cond := .code yX7_ways cX7_ways 1 (some .int) :: ((wsX7_ways_r1 ++ wsX7_ways_r2) ++ wsX70)
def wsX7_looks : List Cond := .code yX7_looks cX7_looks 4 none :: ([.fieldLink RX7 119 "TwinRowsModel" "rowMany" "I", .fieldLink RX7 116 "TwinRowsModel" "row" "[I"] ++ wsX70)
def wsX7_row_r1 : List Cond := [Cond.fieldLink RX7 1 "TwinRowsModel" "thrown" "I", Cond.fieldLink RX7 79 "TwinRowsModel" "now" "[I", Cond.fieldLink RX7 107 "TwinRowsModel" "wantedRow" "[I", Cond.fieldLink RX7 119 "TwinRowsModel" "rowMany" "I", Cond.fieldLink RX7 116 "TwinRowsModel" "row" "[I", Cond.methodLink RX7 212 yX7_all, Cond.instanceMethod yX7_all, Cond.selects RX7 yX7_all yX7_all, Cond.initialized RX7, Cond.code yX7_all cX7_all 4 (some .int), Cond.fieldLink RX7 199 "TwinRowsModel" "found" "I", Cond.fieldLink RX7 202 "TwinRowsModel" "wanted" "I", Cond.fieldLink RX7 205 "TwinRowsModel" "rankOf" "I", Cond.fieldLink RX7 104 "TwinRowsModel" "cell" "[I", Cond.fieldLink RX7 113 "TwinRowsModel" "standing" "[I", Cond.methodLink RX7 208 yX7_isEven, Cond.instanceMethod yX7_isEven, Cond.selects RX7 yX7_isEven yX7_isEven, Cond.code yX7_isEven cX7_isEven 5 (some .boolean), Cond.methodLink RX7 125 yX7_has, Cond.static yX7_has, Cond.code yX7_has cX7_has 2 (some .boolean), Cond.methodLink RX7 129 yX7_isTold, Cond.static yX7_isTold]
def wsX7_row_r2 : List Cond := [Cond.code yX7_isTold cX7_isTold 2 (some .boolean), Cond.methodLink RX7 69 yX7_isIn, Cond.static yX7_isIn, Cond.code yX7_isIn cX7_isIn 3 (some .boolean), Cond.methodLink RX7 143 yX7_bits, Cond.static yX7_bits, Cond.code yX7_bits cX7_bits 3 (some .int), Cond.methodLink RX7 196 yX7_fills, Cond.instanceMethod yX7_fills, Cond.selects RX7 yX7_fills yX7_fills, Cond.code yX7_fills cX7_fills 6 none, Cond.methodLink RX7 192 yX7_counts, Cond.instanceMethod yX7_counts, Cond.selects RX7 yX7_counts yX7_counts, Cond.code yX7_counts cX7_counts 5 none, Cond.fieldLink RX7 110 "TwinRowsModel" "asked" "[I", Cond.methodLink RX7 215 yX7_refuse, Cond.instanceMethod yX7_refuse, Cond.selects RX7 yX7_refuse yX7_refuse, Cond.code yX7_refuse cX7_refuse 1 (some .int), Cond.methodLink RX7 219 yX7_looks, Cond.instanceMethod yX7_looks, Cond.selects RX7 yX7_looks yX7_looks, Cond.code yX7_looks cX7_looks 4 none]
def wsX7_row : List Cond := .code yX7_row cX7_row 2 (some .int) :: ((wsX7_row_r1 ++ wsX7_row_r2) ++ wsX70)
def wsX7_at : List Cond := .code yX7_at cX7_at 2 (some .int) :: ([.fieldLink RX7 1 "TwinRowsModel" "thrown" "I", .fieldLink RX7 119 "TwinRowsModel" "rowMany" "I", .fieldLink RX7 116 "TwinRowsModel" "row" "[I", .methodLink RX7 69 yX7_isIn, .static yX7_isIn, .initialized RX7, .code yX7_isIn cX7_isIn 3 (some .boolean)] ++ wsX70)
def wsX7_firstOf : List Cond := .code yX7_firstOf cX7_firstOf 3 (some .int) :: ([.fieldLink RX7 119 "TwinRowsModel" "rowMany" "I", .fieldLink RX7 116 "TwinRowsModel" "row" "[I"] ++ wsX70)
def wsX7_first : List Cond := .code yX7_first cX7_first 2 (some .int) :: ([.fieldLink RX7 1 "TwinRowsModel" "thrown" "I", .methodLink RX7 223 yX7_firstOf, .instanceMethod yX7_firstOf, .selects RX7 yX7_firstOf yX7_firstOf, .initialized RX7, .code yX7_firstOf cX7_firstOf 3 (some .int), .fieldLink RX7 119 "TwinRowsModel" "rowMany" "I", .fieldLink RX7 116 "TwinRowsModel" "row" "[I"] ++ wsX70)
def wsX7_ranked_r1 : List Cond := [Cond.fieldLink RX7 79 "TwinRowsModel" "now" "[I", Cond.fieldLink RX7 205 "TwinRowsModel" "rankOf" "I", Cond.fieldLink RX7 110 "TwinRowsModel" "asked" "[I", Cond.methodLink RX7 212 yX7_all, Cond.instanceMethod yX7_all, Cond.selects RX7 yX7_all yX7_all, Cond.initialized RX7, Cond.code yX7_all cX7_all 4 (some .int), Cond.fieldLink RX7 199 "TwinRowsModel" "found" "I", Cond.fieldLink RX7 202 "TwinRowsModel" "wanted" "I", Cond.fieldLink RX7 104 "TwinRowsModel" "cell" "[I", Cond.fieldLink RX7 113 "TwinRowsModel" "standing" "[I", Cond.methodLink RX7 208 yX7_isEven, Cond.instanceMethod yX7_isEven, Cond.selects RX7 yX7_isEven yX7_isEven, Cond.code yX7_isEven cX7_isEven 5 (some .boolean), Cond.methodLink RX7 125 yX7_has, Cond.static yX7_has, Cond.code yX7_has cX7_has 2 (some .boolean), Cond.methodLink RX7 129 yX7_isTold, Cond.static yX7_isTold, Cond.code yX7_isTold cX7_isTold 2 (some .boolean), Cond.methodLink RX7 69 yX7_isIn, Cond.static yX7_isIn]
def wsX7_ranked_r2 : List Cond := [Cond.code yX7_isIn cX7_isIn 3 (some .boolean), Cond.methodLink RX7 143 yX7_bits, Cond.static yX7_bits, Cond.code yX7_bits cX7_bits 3 (some .int), Cond.methodLink RX7 196 yX7_fills, Cond.instanceMethod yX7_fills, Cond.selects RX7 yX7_fills yX7_fills, Cond.code yX7_fills cX7_fills 6 none, Cond.methodLink RX7 192 yX7_counts, Cond.instanceMethod yX7_counts, Cond.selects RX7 yX7_counts yX7_counts, Cond.code yX7_counts cX7_counts 5 none, Cond.fieldLink RX7 107 "TwinRowsModel" "wantedRow" "[I", Cond.methodLink RX7 219 yX7_looks, Cond.instanceMethod yX7_looks, Cond.selects RX7 yX7_looks yX7_looks, Cond.code yX7_looks cX7_looks 4 none, Cond.fieldLink RX7 119 "TwinRowsModel" "rowMany" "I", Cond.fieldLink RX7 116 "TwinRowsModel" "row" "[I"]
def wsX7_ranked : List Cond := .code yX7_ranked cX7_ranked 1 (some .int) :: ((wsX7_ranked_r1 ++ wsX7_ranked_r2) ++ wsX70)
def wsX7_rank_r1 : List Cond := [Cond.fieldLink RX7 1 "TwinRowsModel" "thrown" "I", Cond.fieldLink RX7 11 "TwinRowsModel" "taped" "I", Cond.fieldLink RX7 79 "TwinRowsModel" "now" "[I", Cond.fieldLink RX7 110 "TwinRowsModel" "asked" "[I", Cond.fieldLink RX7 7 "TwinRowsModel" "tape" "[I", Cond.methodLink RX7 226 yX7_ranked, Cond.instanceMethod yX7_ranked, Cond.selects RX7 yX7_ranked yX7_ranked, Cond.initialized RX7, Cond.code yX7_ranked cX7_ranked 1 (some .int), Cond.fieldLink RX7 205 "TwinRowsModel" "rankOf" "I", Cond.methodLink RX7 212 yX7_all, Cond.instanceMethod yX7_all, Cond.selects RX7 yX7_all yX7_all, Cond.code yX7_all cX7_all 4 (some .int), Cond.fieldLink RX7 199 "TwinRowsModel" "found" "I", Cond.fieldLink RX7 202 "TwinRowsModel" "wanted" "I", Cond.fieldLink RX7 104 "TwinRowsModel" "cell" "[I", Cond.fieldLink RX7 113 "TwinRowsModel" "standing" "[I", Cond.methodLink RX7 208 yX7_isEven, Cond.instanceMethod yX7_isEven, Cond.selects RX7 yX7_isEven yX7_isEven, Cond.code yX7_isEven cX7_isEven 5 (some .boolean), Cond.methodLink RX7 125 yX7_has]
def wsX7_rank_r2 : List Cond := [Cond.static yX7_has, Cond.code yX7_has cX7_has 2 (some .boolean), Cond.methodLink RX7 129 yX7_isTold, Cond.static yX7_isTold, Cond.code yX7_isTold cX7_isTold 2 (some .boolean), Cond.methodLink RX7 69 yX7_isIn, Cond.static yX7_isIn, Cond.code yX7_isIn cX7_isIn 3 (some .boolean), Cond.methodLink RX7 143 yX7_bits, Cond.static yX7_bits, Cond.code yX7_bits cX7_bits 3 (some .int), Cond.methodLink RX7 196 yX7_fills, Cond.instanceMethod yX7_fills, Cond.selects RX7 yX7_fills yX7_fills, Cond.code yX7_fills cX7_fills 6 none, Cond.methodLink RX7 192 yX7_counts, Cond.instanceMethod yX7_counts, Cond.selects RX7 yX7_counts yX7_counts, Cond.code yX7_counts cX7_counts 5 none, Cond.fieldLink RX7 107 "TwinRowsModel" "wantedRow" "[I", Cond.methodLink RX7 219 yX7_looks, Cond.instanceMethod yX7_looks, Cond.selects RX7 yX7_looks yX7_looks, Cond.code yX7_looks cX7_looks 4 none]
def wsX7_rank_r3 : List Cond := [Cond.fieldLink RX7 119 "TwinRowsModel" "rowMany" "I", Cond.fieldLink RX7 116 "TwinRowsModel" "row" "[I"]
def wsX7_rank : List Cond := .code yX7_rank cX7_rank 3 (some .int) :: ((wsX7_rank_r1 ++ (wsX7_rank_r2 ++ wsX7_rank_r3)) ++ wsX70)
def wsX7_behind_r1 : List Cond := [Cond.fieldLink RX7 1 "TwinRowsModel" "thrown" "I", Cond.fieldLink RX7 119 "TwinRowsModel" "rowMany" "I", Cond.fieldLink RX7 79 "TwinRowsModel" "now" "[I", Cond.fieldLink RX7 110 "TwinRowsModel" "asked" "[I", Cond.fieldLink RX7 116 "TwinRowsModel" "row" "[I", Cond.methodLink RX7 226 yX7_ranked, Cond.instanceMethod yX7_ranked, Cond.selects RX7 yX7_ranked yX7_ranked, Cond.initialized RX7, Cond.code yX7_ranked cX7_ranked 1 (some .int), Cond.fieldLink RX7 205 "TwinRowsModel" "rankOf" "I", Cond.methodLink RX7 212 yX7_all, Cond.instanceMethod yX7_all, Cond.selects RX7 yX7_all yX7_all, Cond.code yX7_all cX7_all 4 (some .int), Cond.fieldLink RX7 199 "TwinRowsModel" "found" "I", Cond.fieldLink RX7 202 "TwinRowsModel" "wanted" "I", Cond.fieldLink RX7 104 "TwinRowsModel" "cell" "[I", Cond.fieldLink RX7 113 "TwinRowsModel" "standing" "[I", Cond.methodLink RX7 208 yX7_isEven, Cond.instanceMethod yX7_isEven, Cond.selects RX7 yX7_isEven yX7_isEven, Cond.code yX7_isEven cX7_isEven 5 (some .boolean), Cond.methodLink RX7 125 yX7_has]
def wsX7_behind_r2 : List Cond := [Cond.static yX7_has, Cond.code yX7_has cX7_has 2 (some .boolean), Cond.methodLink RX7 129 yX7_isTold, Cond.static yX7_isTold, Cond.code yX7_isTold cX7_isTold 2 (some .boolean), Cond.methodLink RX7 69 yX7_isIn, Cond.static yX7_isIn, Cond.code yX7_isIn cX7_isIn 3 (some .boolean), Cond.methodLink RX7 143 yX7_bits, Cond.static yX7_bits, Cond.code yX7_bits cX7_bits 3 (some .int), Cond.methodLink RX7 196 yX7_fills, Cond.instanceMethod yX7_fills, Cond.selects RX7 yX7_fills yX7_fills, Cond.code yX7_fills cX7_fills 6 none, Cond.methodLink RX7 192 yX7_counts, Cond.instanceMethod yX7_counts, Cond.selects RX7 yX7_counts yX7_counts, Cond.code yX7_counts cX7_counts 5 none, Cond.fieldLink RX7 107 "TwinRowsModel" "wantedRow" "[I", Cond.methodLink RX7 219 yX7_looks, Cond.instanceMethod yX7_looks, Cond.selects RX7 yX7_looks yX7_looks, Cond.code yX7_looks cX7_looks 4 none]
def wsX7_behind : List Cond := .code yX7_behind cX7_behind 2 (some .int) :: ((wsX7_behind_r1 ++ wsX7_behind_r2) ++ wsX70)
def wsX7_standing_r1 : List Cond := [Cond.fieldLink RX7 1 "TwinRowsModel" "thrown" "I", Cond.fieldLink RX7 79 "TwinRowsModel" "now" "[I", Cond.fieldLink RX7 113 "TwinRowsModel" "standing" "[I", Cond.methodLink RX7 129 yX7_isTold, Cond.static yX7_isTold, Cond.initialized RX7, Cond.code yX7_isTold cX7_isTold 2 (some .boolean), Cond.methodLink RX7 69 yX7_isIn, Cond.static yX7_isIn, Cond.code yX7_isIn cX7_isIn 3 (some .boolean), Cond.methodLink RX7 125 yX7_has, Cond.static yX7_has, Cond.code yX7_has cX7_has 2 (some .boolean), Cond.methodLink RX7 212 yX7_all, Cond.instanceMethod yX7_all, Cond.selects RX7 yX7_all yX7_all, Cond.code yX7_all cX7_all 4 (some .int), Cond.fieldLink RX7 199 "TwinRowsModel" "found" "I", Cond.fieldLink RX7 202 "TwinRowsModel" "wanted" "I", Cond.fieldLink RX7 205 "TwinRowsModel" "rankOf" "I", Cond.fieldLink RX7 104 "TwinRowsModel" "cell" "[I", Cond.methodLink RX7 208 yX7_isEven, Cond.instanceMethod yX7_isEven, Cond.selects RX7 yX7_isEven yX7_isEven]
def wsX7_standing_r2 : List Cond := [Cond.code yX7_isEven cX7_isEven 5 (some .boolean), Cond.methodLink RX7 143 yX7_bits, Cond.static yX7_bits, Cond.code yX7_bits cX7_bits 3 (some .int), Cond.methodLink RX7 196 yX7_fills, Cond.instanceMethod yX7_fills, Cond.selects RX7 yX7_fills yX7_fills, Cond.code yX7_fills cX7_fills 6 none, Cond.methodLink RX7 192 yX7_counts, Cond.instanceMethod yX7_counts, Cond.selects RX7 yX7_counts yX7_counts, Cond.code yX7_counts cX7_counts 5 none, Cond.fieldLink RX7 107 "TwinRowsModel" "wantedRow" "[I", Cond.fieldLink RX7 110 "TwinRowsModel" "asked" "[I"]
def wsX7_standing : List Cond := .code yX7_standing cX7_standing 3 (some .int) :: ((wsX7_standing_r1 ++ wsX7_standing_r2) ++ wsX70)
def wsX7_may_r1 : List Cond := [Cond.fieldLink RX7 1 "TwinRowsModel" "thrown" "I", Cond.fieldLink RX7 79 "TwinRowsModel" "now" "[I", Cond.fieldLink RX7 113 "TwinRowsModel" "standing" "[I", Cond.methodLink RX7 129 yX7_isTold, Cond.static yX7_isTold, Cond.initialized RX7, Cond.code yX7_isTold cX7_isTold 2 (some .boolean), Cond.methodLink RX7 69 yX7_isIn, Cond.static yX7_isIn, Cond.code yX7_isIn cX7_isIn 3 (some .boolean), Cond.methodLink RX7 125 yX7_has, Cond.static yX7_has, Cond.code yX7_has cX7_has 2 (some .boolean), Cond.methodLink RX7 212 yX7_all, Cond.instanceMethod yX7_all, Cond.selects RX7 yX7_all yX7_all, Cond.code yX7_all cX7_all 4 (some .int), Cond.fieldLink RX7 199 "TwinRowsModel" "found" "I", Cond.fieldLink RX7 202 "TwinRowsModel" "wanted" "I", Cond.fieldLink RX7 205 "TwinRowsModel" "rankOf" "I", Cond.fieldLink RX7 104 "TwinRowsModel" "cell" "[I", Cond.methodLink RX7 208 yX7_isEven, Cond.instanceMethod yX7_isEven, Cond.selects RX7 yX7_isEven yX7_isEven]
def wsX7_may_r2 : List Cond := [Cond.code yX7_isEven cX7_isEven 5 (some .boolean), Cond.methodLink RX7 143 yX7_bits, Cond.static yX7_bits, Cond.code yX7_bits cX7_bits 3 (some .int), Cond.methodLink RX7 196 yX7_fills, Cond.instanceMethod yX7_fills, Cond.selects RX7 yX7_fills yX7_fills, Cond.code yX7_fills cX7_fills 6 none, Cond.methodLink RX7 192 yX7_counts, Cond.instanceMethod yX7_counts, Cond.selects RX7 yX7_counts yX7_counts, Cond.code yX7_counts cX7_counts 5 none, Cond.fieldLink RX7 107 "TwinRowsModel" "wantedRow" "[I", Cond.fieldLink RX7 110 "TwinRowsModel" "asked" "[I"]
def wsX7_may : List Cond := .code yX7_may cX7_may 4 (some .int) :: ((wsX7_may_r1 ++ wsX7_may_r2) ++ wsX70)
def wsX7_sure_r1 : List Cond := [Cond.fieldLink RX7 1 "TwinRowsModel" "thrown" "I", Cond.fieldLink RX7 79 "TwinRowsModel" "now" "[I", Cond.fieldLink RX7 113 "TwinRowsModel" "standing" "[I", Cond.methodLink RX7 212 yX7_all, Cond.instanceMethod yX7_all, Cond.selects RX7 yX7_all yX7_all, Cond.initialized RX7, Cond.code yX7_all cX7_all 4 (some .int), Cond.fieldLink RX7 199 "TwinRowsModel" "found" "I", Cond.fieldLink RX7 202 "TwinRowsModel" "wanted" "I", Cond.fieldLink RX7 205 "TwinRowsModel" "rankOf" "I", Cond.fieldLink RX7 104 "TwinRowsModel" "cell" "[I", Cond.methodLink RX7 208 yX7_isEven, Cond.instanceMethod yX7_isEven, Cond.selects RX7 yX7_isEven yX7_isEven, Cond.code yX7_isEven cX7_isEven 5 (some .boolean), Cond.methodLink RX7 125 yX7_has, Cond.static yX7_has, Cond.code yX7_has cX7_has 2 (some .boolean), Cond.methodLink RX7 129 yX7_isTold, Cond.static yX7_isTold, Cond.code yX7_isTold cX7_isTold 2 (some .boolean), Cond.methodLink RX7 69 yX7_isIn, Cond.static yX7_isIn]
def wsX7_sure_r2 : List Cond := [Cond.code yX7_isIn cX7_isIn 3 (some .boolean), Cond.methodLink RX7 143 yX7_bits, Cond.static yX7_bits, Cond.code yX7_bits cX7_bits 3 (some .int), Cond.methodLink RX7 196 yX7_fills, Cond.instanceMethod yX7_fills, Cond.selects RX7 yX7_fills yX7_fills, Cond.code yX7_fills cX7_fills 6 none, Cond.methodLink RX7 192 yX7_counts, Cond.instanceMethod yX7_counts, Cond.selects RX7 yX7_counts yX7_counts, Cond.code yX7_counts cX7_counts 5 none, Cond.fieldLink RX7 107 "TwinRowsModel" "wantedRow" "[I", Cond.fieldLink RX7 110 "TwinRowsModel" "asked" "[I"]
def wsX7_sure : List Cond := .code yX7_sure cX7_sure 5 (some .int) :: ((wsX7_sure_r1 ++ wsX7_sure_r2) ++ wsX70)
def wsX7_extended_r1 : List Cond := [Cond.fieldLink RX7 1 "TwinRowsModel" "thrown" "I", Cond.fieldLink RX7 97 "TwinRowsModel" "other" "[I", Cond.methodLink RX7 69 yX7_isIn, Cond.static yX7_isIn, Cond.initialized RX7, Cond.code yX7_isIn cX7_isIn 3 (some .boolean), Cond.methodLink RX7 188 yX7_laysKind, Cond.static yX7_laysKind, Cond.code yX7_laysKind cX7_laysKind 4 none, Cond.methodLink RX7 212 yX7_all, Cond.instanceMethod yX7_all, Cond.selects RX7 yX7_all yX7_all, Cond.code yX7_all cX7_all 4 (some .int), Cond.fieldLink RX7 199 "TwinRowsModel" "found" "I", Cond.fieldLink RX7 202 "TwinRowsModel" "wanted" "I", Cond.fieldLink RX7 205 "TwinRowsModel" "rankOf" "I", Cond.fieldLink RX7 104 "TwinRowsModel" "cell" "[I", Cond.fieldLink RX7 113 "TwinRowsModel" "standing" "[I", Cond.methodLink RX7 208 yX7_isEven, Cond.instanceMethod yX7_isEven, Cond.selects RX7 yX7_isEven yX7_isEven, Cond.code yX7_isEven cX7_isEven 5 (some .boolean), Cond.methodLink RX7 125 yX7_has, Cond.static yX7_has]
def wsX7_extended_r2 : List Cond := [Cond.code yX7_has cX7_has 2 (some .boolean), Cond.methodLink RX7 129 yX7_isTold, Cond.static yX7_isTold, Cond.code yX7_isTold cX7_isTold 2 (some .boolean), Cond.methodLink RX7 143 yX7_bits, Cond.static yX7_bits, Cond.code yX7_bits cX7_bits 3 (some .int), Cond.methodLink RX7 196 yX7_fills, Cond.instanceMethod yX7_fills, Cond.selects RX7 yX7_fills yX7_fills, Cond.code yX7_fills cX7_fills 6 none, Cond.methodLink RX7 192 yX7_counts, Cond.instanceMethod yX7_counts, Cond.selects RX7 yX7_counts yX7_counts, Cond.code yX7_counts cX7_counts 5 none, Cond.fieldLink RX7 107 "TwinRowsModel" "wantedRow" "[I", Cond.fieldLink RX7 110 "TwinRowsModel" "asked" "[I"]
def wsX7_extended : List Cond := .code yX7_extended cX7_extended 3 (some .int) :: ((wsX7_extended_r1 ++ wsX7_extended_r2) ++ wsX70)
def wsX7_two : List Cond := .code yX7_two cX7_two 4 none :: ([.fieldLink RX7 122 "TwinRowsModel" "madeRow" "[I"] ++ wsX70)
def wsX7_laysFours : List Cond := .code yX7_laysFours cX7_laysFours 3 none :: ([.methodLink RX7 229 yX7_two, .instanceMethod yX7_two, .selects RX7 yX7_two yX7_two, .initialized RX7, .code yX7_two cX7_two 4 none, .fieldLink RX7 122 "TwinRowsModel" "madeRow" "[I"] ++ wsX70)
def wsX7_laysOnes : List Cond := .code yX7_laysOnes cX7_laysOnes 3 none :: ([.methodLink RX7 229 yX7_two, .instanceMethod yX7_two, .selects RX7 yX7_two yX7_two, .initialized RX7, .code yX7_two cX7_two 4 none, .fieldLink RX7 122 "TwinRowsModel" "madeRow" "[I"] ++ wsX70)
def wsX7_laysTwos : List Cond := .code yX7_laysTwos cX7_laysTwos 3 none :: ([.methodLink RX7 229 yX7_two, .instanceMethod yX7_two, .selects RX7 yX7_two yX7_two, .initialized RX7, .code yX7_two cX7_two 4 none, .fieldLink RX7 122 "TwinRowsModel" "madeRow" "[I"] ++ wsX70)
def wsX7_made_r1 : List Cond := [Cond.fieldLink RX7 1 "TwinRowsModel" "thrown" "I", Cond.fieldLink RX7 122 "TwinRowsModel" "madeRow" "[I", Cond.fieldLink RX7 119 "TwinRowsModel" "rowMany" "I", Cond.methodLink RX7 69 yX7_isIn, Cond.static yX7_isIn, Cond.initialized RX7, Cond.code yX7_isIn cX7_isIn 3 (some .boolean), Cond.methodLink RX7 233 yX7_laysFours, Cond.instanceMethod yX7_laysFours, Cond.selects RX7 yX7_laysFours yX7_laysFours, Cond.code yX7_laysFours cX7_laysFours 3 none, Cond.methodLink RX7 229 yX7_two, Cond.instanceMethod yX7_two, Cond.selects RX7 yX7_two yX7_two, Cond.code yX7_two cX7_two 4 none, Cond.methodLink RX7 236 yX7_laysOnes, Cond.instanceMethod yX7_laysOnes, Cond.selects RX7 yX7_laysOnes yX7_laysOnes, Cond.code yX7_laysOnes cX7_laysOnes 3 none, Cond.methodLink RX7 239 yX7_laysTwos, Cond.instanceMethod yX7_laysTwos, Cond.selects RX7 yX7_laysTwos yX7_laysTwos, Cond.code yX7_laysTwos cX7_laysTwos 3 none, Cond.methodLink RX7 219 yX7_looks]
def wsX7_made_r2 : List Cond := [Cond.instanceMethod yX7_looks, Cond.selects RX7 yX7_looks yX7_looks, Cond.code yX7_looks cX7_looks 4 none, Cond.fieldLink RX7 116 "TwinRowsModel" "row" "[I"]
def wsX7_made : List Cond := .code yX7_made cX7_made 3 (some .int) :: ((wsX7_made_r1 ++ wsX7_made_r2) ++ wsX70)
def wsX7_orderOf : List Cond := .code yX7_orderOf cX7_orderOf 5 (some .int) :: ([.fieldLink RX7 119 "TwinRowsModel" "rowMany" "I", .fieldLink RX7 116 "TwinRowsModel" "row" "[I", .methodLink RX7 223 yX7_firstOf, .instanceMethod yX7_firstOf, .selects RX7 yX7_firstOf yX7_firstOf, .initialized RX7, .code yX7_firstOf cX7_firstOf 3 (some .int)] ++ wsX70)
def wsX7_third : List Cond := .code yX7_third cX7_third 12 (some .int) :: ([.fieldLink RX7 1 "TwinRowsModel" "thrown" "I", .methodLink RX7 242 yX7_orderOf, .instanceMethod yX7_orderOf, .selects RX7 yX7_orderOf yX7_orderOf, .initialized RX7, .code yX7_orderOf cX7_orderOf 5 (some .int), .fieldLink RX7 119 "TwinRowsModel" "rowMany" "I", .fieldLink RX7 116 "TwinRowsModel" "row" "[I", .methodLink RX7 223 yX7_firstOf, .instanceMethod yX7_firstOf, .selects RX7 yX7_firstOf yX7_firstOf, .code yX7_firstOf cX7_firstOf 3 (some .int), .methodLink RX7 69 yX7_isIn, .static yX7_isIn, .code yX7_isIn cX7_isIn 3 (some .boolean)] ++ wsX70)
def wsX7_pinnedOnes : List Cond := .code yX7_pinnedOnes cX7_pinnedOnes 3 (some .int) :: ([.fieldLink RX7 79 "TwinRowsModel" "now" "[I", .methodLink RX7 129 yX7_isTold, .static yX7_isTold, .initialized RX7, .code yX7_isTold cX7_isTold 2 (some .boolean), .methodLink RX7 69 yX7_isIn, .static yX7_isIn, .code yX7_isIn cX7_isIn 3 (some .boolean), .methodLink RX7 125 yX7_has, .static yX7_has, .code yX7_has cX7_has 2 (some .boolean)] ++ wsX70)
def wsX7_now_r1 : List Cond := [Cond.fieldLink RX7 1 "TwinRowsModel" "thrown" "I", Cond.fieldLink RX7 79 "TwinRowsModel" "now" "[I", Cond.fieldLink RX7 182 "TwinRowsModel" "snapMany" "I", Cond.fieldLink RX7 11 "TwinRowsModel" "taped" "I", Cond.methodLink RX7 245 yX7_pinnedOnes, Cond.instanceMethod yX7_pinnedOnes, Cond.selects RX7 yX7_pinnedOnes yX7_pinnedOnes, Cond.initialized RX7, Cond.code yX7_pinnedOnes cX7_pinnedOnes 3 (some .int), Cond.methodLink RX7 129 yX7_isTold, Cond.static yX7_isTold, Cond.code yX7_isTold cX7_isTold 2 (some .boolean), Cond.methodLink RX7 69 yX7_isIn, Cond.static yX7_isIn, Cond.code yX7_isIn cX7_isIn 3 (some .boolean), Cond.methodLink RX7 125 yX7_has, Cond.static yX7_has, Cond.code yX7_has cX7_has 2 (some .boolean), Cond.methodLink RX7 208 yX7_isEven, Cond.instanceMethod yX7_isEven, Cond.selects RX7 yX7_isEven yX7_isEven, Cond.code yX7_isEven cX7_isEven 5 (some .boolean), Cond.methodLink RX7 143 yX7_bits, Cond.static yX7_bits]
def wsX7_now_r2 : List Cond := [Cond.code yX7_bits cX7_bits 3 (some .int)]
def wsX7_now : List Cond := .code yX7_now cX7_now 2 (some .int) :: ((wsX7_now_r1 ++ wsX7_now_r2) ++ wsX70)
def wsX7_pinned : List Cond := .code yX7_pinned cX7_pinned 2 (some .int) :: ([.fieldLink RX7 1 "TwinRowsModel" "thrown" "I", .fieldLink RX7 79 "TwinRowsModel" "now" "[I", .methodLink RX7 129 yX7_isTold, .static yX7_isTold, .initialized RX7, .code yX7_isTold cX7_isTold 2 (some .boolean), .methodLink RX7 69 yX7_isIn, .static yX7_isIn, .code yX7_isIn cX7_isIn 3 (some .boolean), .methodLink RX7 125 yX7_has, .static yX7_has, .code yX7_has cX7_has 2 (some .boolean)] ++ wsX70)
def wsX7_stay : List Cond := .code yX7_stay cX7_stay 1 none :: ([.fieldLink RX7 79 "TwinRowsModel" "now" "[I", .fieldLink RX7 94 "TwinRowsModel" "live" "[I", .fieldLink RX7 91 "TwinRowsModel" "before" "[I", .methodLink RX7 178 yX7_copy, .static yX7_copy, .initialized RX7, .code yX7_copy cX7_copy 5 none, .methodLink RX7 185 yX7_snap, .instanceMethod yX7_snap, .selects RX7 yX7_snap yX7_snap, .code yX7_snap cX7_snap 2 none, .fieldLink RX7 182 "TwinRowsModel" "snapMany" "I", .fieldLink RX7 88 "TwinRowsModel" "snaps" "[I"] ++ wsX70)
def wsX7_mayHole : List Cond := .code yX7_mayHole cX7_mayHole 3 (some .boolean) :: ([.fieldLink RX7 79 "TwinRowsModel" "now" "[I", .methodLink RX7 69 yX7_isIn, .static yX7_isIn, .initialized RX7, .code yX7_isIn cX7_isIn 3 (some .boolean), .methodLink RX7 125 yX7_has, .static yX7_has, .code yX7_has cX7_has 2 (some .boolean), .methodLink RX7 133 yX7_pins, .static yX7_pins, .code yX7_pins cX7_pins 4 (some .int), .methodLink RX7 129 yX7_isTold, .static yX7_isTold, .code yX7_isTold cX7_isTold 2 (some .boolean)] ++ wsX70)
def wsX7_hole_r1 : List Cond := [Cond.fieldLink RX7 1 "TwinRowsModel" "thrown" "I", Cond.fieldLink RX7 79 "TwinRowsModel" "now" "[I", Cond.methodLink RX7 248 yX7_mayHole, Cond.instanceMethod yX7_mayHole, Cond.selects RX7 yX7_mayHole yX7_mayHole, Cond.initialized RX7, Cond.code yX7_mayHole cX7_mayHole 3 (some .boolean), Cond.methodLink RX7 69 yX7_isIn, Cond.static yX7_isIn, Cond.code yX7_isIn cX7_isIn 3 (some .boolean), Cond.methodLink RX7 125 yX7_has, Cond.static yX7_has, Cond.code yX7_has cX7_has 2 (some .boolean), Cond.methodLink RX7 133 yX7_pins, Cond.static yX7_pins, Cond.code yX7_pins cX7_pins 4 (some .int), Cond.methodLink RX7 129 yX7_isTold, Cond.static yX7_isTold, Cond.code yX7_isTold cX7_isTold 2 (some .boolean), Cond.methodLink RX7 185 yX7_snap, Cond.instanceMethod yX7_snap, Cond.selects RX7 yX7_snap yX7_snap, Cond.code yX7_snap cX7_snap 2 none, Cond.fieldLink RX7 182 "TwinRowsModel" "snapMany" "I"]
def wsX7_hole_r2 : List Cond := [Cond.fieldLink RX7 88 "TwinRowsModel" "snaps" "[I", Cond.methodLink RX7 178 yX7_copy, Cond.static yX7_copy, Cond.code yX7_copy cX7_copy 5 none, Cond.methodLink RX7 143 yX7_bits, Cond.static yX7_bits, Cond.code yX7_bits cX7_bits 3 (some .int)]
def wsX7_hole : List Cond := .code yX7_hole cX7_hole 3 (some .int) :: ((wsX7_hole_r1 ++ wsX7_hole_r2) ++ wsX70)
def wsX7_mayPair : List Cond := .code yX7_mayPair cX7_mayPair 3 (some .boolean) :: ([.fieldLink RX7 79 "TwinRowsModel" "now" "[I", .methodLink RX7 69 yX7_isIn, .static yX7_isIn, .initialized RX7, .code yX7_isIn cX7_isIn 3 (some .boolean), .methodLink RX7 129 yX7_isTold, .static yX7_isTold, .code yX7_isTold cX7_isTold 2 (some .boolean), .methodLink RX7 125 yX7_has, .static yX7_has, .code yX7_has cX7_has 2 (some .boolean), .methodLink RX7 143 yX7_bits, .static yX7_bits, .code yX7_bits cX7_bits 3 (some .int)] ++ wsX70)
def wsX7_turns : List Cond := .code yX7_turns cX7_turns 2 none :: ([.fieldLink RX7 79 "TwinRowsModel" "now" "[I"] ++ wsX70)
def wsX7_pair_r1 : List Cond := [Cond.fieldLink RX7 1 "TwinRowsModel" "thrown" "I", Cond.fieldLink RX7 79 "TwinRowsModel" "now" "[I", Cond.methodLink RX7 252 yX7_mayPair, Cond.instanceMethod yX7_mayPair, Cond.selects RX7 yX7_mayPair yX7_mayPair, Cond.initialized RX7, Cond.code yX7_mayPair cX7_mayPair 3 (some .boolean), Cond.methodLink RX7 69 yX7_isIn, Cond.static yX7_isIn, Cond.code yX7_isIn cX7_isIn 3 (some .boolean), Cond.methodLink RX7 129 yX7_isTold, Cond.static yX7_isTold, Cond.code yX7_isTold cX7_isTold 2 (some .boolean), Cond.methodLink RX7 125 yX7_has, Cond.static yX7_has, Cond.code yX7_has cX7_has 2 (some .boolean), Cond.methodLink RX7 143 yX7_bits, Cond.static yX7_bits, Cond.code yX7_bits cX7_bits 3 (some .int), Cond.methodLink RX7 185 yX7_snap, Cond.instanceMethod yX7_snap, Cond.selects RX7 yX7_snap yX7_snap, Cond.code yX7_snap cX7_snap 2 none, Cond.fieldLink RX7 182 "TwinRowsModel" "snapMany" "I"]
def wsX7_pair_r2 : List Cond := [Cond.fieldLink RX7 88 "TwinRowsModel" "snaps" "[I", Cond.methodLink RX7 178 yX7_copy, Cond.static yX7_copy, Cond.code yX7_copy cX7_copy 5 none, Cond.methodLink RX7 255 yX7_turns, Cond.instanceMethod yX7_turns, Cond.selects RX7 yX7_turns yX7_turns, Cond.code yX7_turns cX7_turns 2 none]
def wsX7_pair : List Cond := .code yX7_pair cX7_pair 3 (some .int) :: ((wsX7_pair_r1 ++ wsX7_pair_r2) ++ wsX70)
def wsX7_pin_r1 : List Cond := [Cond.fieldLink RX7 1 "TwinRowsModel" "thrown" "I", Cond.fieldLink RX7 79 "TwinRowsModel" "now" "[I", Cond.methodLink RX7 129 yX7_isTold, Cond.static yX7_isTold, Cond.initialized RX7, Cond.code yX7_isTold cX7_isTold 2 (some .boolean), Cond.methodLink RX7 69 yX7_isIn, Cond.static yX7_isIn, Cond.code yX7_isIn cX7_isIn 3 (some .boolean), Cond.methodLink RX7 125 yX7_has, Cond.static yX7_has, Cond.code yX7_has cX7_has 2 (some .boolean), Cond.methodLink RX7 150 yX7_mayPin, Cond.static yX7_mayPin, Cond.code yX7_mayPin cX7_mayPin 3 (some .boolean), Cond.methodLink RX7 133 yX7_pins, Cond.static yX7_pins, Cond.code yX7_pins cX7_pins 4 (some .int), Cond.methodLink RX7 185 yX7_snap, Cond.instanceMethod yX7_snap, Cond.selects RX7 yX7_snap yX7_snap, Cond.code yX7_snap cX7_snap 2 none, Cond.fieldLink RX7 182 "TwinRowsModel" "snapMany" "I", Cond.fieldLink RX7 88 "TwinRowsModel" "snaps" "[I"]
def wsX7_pin_r2 : List Cond := [Cond.methodLink RX7 178 yX7_copy, Cond.static yX7_copy, Cond.code yX7_copy cX7_copy 5 none]
def wsX7_pin : List Cond := .code yX7_pin cX7_pin 3 (some .int) :: ((wsX7_pin_r1 ++ wsX7_pin_r2) ++ wsX70)
def wsX7_draw : List Cond := .code yX7_draw cX7_draw 2 (some .int) :: ([.fieldLink RX7 258 "TwinRowsModel" "seed" "I", .constant RX7 261 (1103515245)] ++ wsX70)
def wsX7_distance : List Cond := .code yX7_distance cX7_distance 4 (some .int) :: ([.fieldLink RX7 79 "TwinRowsModel" "now" "[I", .methodLink RX7 129 yX7_isTold, .static yX7_isTold, .initialized RX7, .code yX7_isTold cX7_isTold 2 (some .boolean), .methodLink RX7 69 yX7_isIn, .static yX7_isIn, .code yX7_isIn cX7_isIn 3 (some .boolean), .methodLink RX7 125 yX7_has, .static yX7_has, .code yX7_has cX7_has 2 (some .boolean)] ++ wsX70)
def wsX7_does_r1 : List Cond := [Cond.fieldLink RX7 79 "TwinRowsModel" "now" "[I", Cond.methodLink RX7 262 yX7_draw, Cond.instanceMethod yX7_draw, Cond.selects RX7 yX7_draw yX7_draw, Cond.initialized RX7, Cond.code yX7_draw cX7_draw 2 (some .int), Cond.fieldLink RX7 258 "TwinRowsModel" "seed" "I", Cond.constant RX7 261 (1103515245), Cond.methodLink RX7 133 yX7_pins, Cond.static yX7_pins, Cond.code yX7_pins cX7_pins 4 (some .int), Cond.methodLink RX7 129 yX7_isTold, Cond.static yX7_isTold, Cond.code yX7_isTold cX7_isTold 2 (some .boolean), Cond.methodLink RX7 69 yX7_isIn, Cond.static yX7_isIn, Cond.code yX7_isIn cX7_isIn 3 (some .boolean), Cond.methodLink RX7 125 yX7_has, Cond.static yX7_has, Cond.code yX7_has cX7_has 2 (some .boolean), Cond.methodLink RX7 252 yX7_mayPair, Cond.instanceMethod yX7_mayPair, Cond.selects RX7 yX7_mayPair yX7_mayPair, Cond.code yX7_mayPair cX7_mayPair 3 (some .boolean)]
def wsX7_does_r2 : List Cond := [Cond.methodLink RX7 143 yX7_bits, Cond.static yX7_bits, Cond.code yX7_bits cX7_bits 3 (some .int), Cond.methodLink RX7 255 yX7_turns, Cond.instanceMethod yX7_turns, Cond.selects RX7 yX7_turns yX7_turns, Cond.code yX7_turns cX7_turns 2 none, Cond.methodLink RX7 265 yX7_distance, Cond.instanceMethod yX7_distance, Cond.selects RX7 yX7_distance yX7_distance, Cond.code yX7_distance cX7_distance 4 (some .int), Cond.methodLink RX7 150 yX7_mayPin, Cond.static yX7_mayPin, Cond.code yX7_mayPin cX7_mayPin 3 (some .boolean)]
def wsX7_does : List Cond := .code yX7_does cX7_does 4 (some .boolean) :: ((wsX7_does_r1 ++ wsX7_does_r2) ++ wsX70)
def wsX7_drawn_r1 : List Cond := [Cond.fieldLink RX7 1 "TwinRowsModel" "thrown" "I", Cond.fieldLink RX7 79 "TwinRowsModel" "now" "[I", Cond.fieldLink RX7 91 "TwinRowsModel" "before" "[I", Cond.fieldLink RX7 258 "TwinRowsModel" "seed" "I", Cond.methodLink RX7 69 yX7_isIn, Cond.static yX7_isIn, Cond.initialized RX7, Cond.code yX7_isIn cX7_isIn 3 (some .boolean), Cond.methodLink RX7 178 yX7_copy, Cond.static yX7_copy, Cond.code yX7_copy cX7_copy 5 none, Cond.methodLink RX7 268 yX7_does, Cond.instanceMethod yX7_does, Cond.selects RX7 yX7_does yX7_does, Cond.code yX7_does cX7_does 4 (some .boolean), Cond.methodLink RX7 262 yX7_draw, Cond.instanceMethod yX7_draw, Cond.selects RX7 yX7_draw yX7_draw, Cond.code yX7_draw cX7_draw 2 (some .int), Cond.constant RX7 261 (1103515245), Cond.methodLink RX7 133 yX7_pins, Cond.static yX7_pins, Cond.code yX7_pins cX7_pins 4 (some .int), Cond.methodLink RX7 129 yX7_isTold]
def wsX7_drawn_r2 : List Cond := [Cond.static yX7_isTold, Cond.code yX7_isTold cX7_isTold 2 (some .boolean), Cond.methodLink RX7 125 yX7_has, Cond.static yX7_has, Cond.code yX7_has cX7_has 2 (some .boolean), Cond.methodLink RX7 252 yX7_mayPair, Cond.instanceMethod yX7_mayPair, Cond.selects RX7 yX7_mayPair yX7_mayPair, Cond.code yX7_mayPair cX7_mayPair 3 (some .boolean), Cond.methodLink RX7 143 yX7_bits, Cond.static yX7_bits, Cond.code yX7_bits cX7_bits 3 (some .int), Cond.methodLink RX7 255 yX7_turns, Cond.instanceMethod yX7_turns, Cond.selects RX7 yX7_turns yX7_turns, Cond.code yX7_turns cX7_turns 2 none, Cond.methodLink RX7 265 yX7_distance, Cond.instanceMethod yX7_distance, Cond.selects RX7 yX7_distance yX7_distance, Cond.code yX7_distance cX7_distance 4 (some .int), Cond.methodLink RX7 150 yX7_mayPin, Cond.static yX7_mayPin, Cond.code yX7_mayPin cX7_mayPin 3 (some .boolean), Cond.methodLink RX7 271 yX7_stay]
def wsX7_drawn_r3 : List Cond := [Cond.instanceMethod yX7_stay, Cond.selects RX7 yX7_stay yX7_stay, Cond.code yX7_stay cX7_stay 1 none, Cond.fieldLink RX7 94 "TwinRowsModel" "live" "[I", Cond.methodLink RX7 185 yX7_snap, Cond.instanceMethod yX7_snap, Cond.selects RX7 yX7_snap yX7_snap, Cond.code yX7_snap cX7_snap 2 none, Cond.fieldLink RX7 182 "TwinRowsModel" "snapMany" "I", Cond.fieldLink RX7 88 "TwinRowsModel" "snaps" "[I"]
def wsX7_drawn : List Cond := .code yX7_drawn cX7_drawn 5 (some .int) :: ((wsX7_drawn_r1 ++ (wsX7_drawn_r2 ++ wsX7_drawn_r3)) ++ wsX70)
def wsX7_undo : List Cond := .code yX7_undo cX7_undo 1 (some .int) :: ([.fieldLink RX7 1 "TwinRowsModel" "thrown" "I", .fieldLink RX7 182 "TwinRowsModel" "snapMany" "I", .fieldLink RX7 88 "TwinRowsModel" "snaps" "[I", .fieldLink RX7 79 "TwinRowsModel" "now" "[I", .methodLink RX7 178 yX7_copy, .static yX7_copy, .initialized RX7, .code yX7_copy cX7_copy 5 none] ++ wsX70)
def wsX7_image : List Cond := .code yX7_image cX7_image 2 (some .boolean) :: ([.fieldLink RX7 1 "TwinRowsModel" "thrown" "I", .fieldLink RX7 79 "TwinRowsModel" "now" "[I", .fieldLink RX7 85 "TwinRowsModel" "kept" "[I", .fieldLink RX7 100 "TwinRowsModel" "isKept" "[Z", .methodLink RX7 69 yX7_isIn, .static yX7_isIn, .initialized RX7, .code yX7_isIn cX7_isIn 3 (some .boolean), .methodLink RX7 178 yX7_copy, .static yX7_copy, .code yX7_copy cX7_copy 5 none] ++ wsX70)
def wsX7_restore : List Cond := .code yX7_restore cX7_restore 2 (some .boolean) :: ([.fieldLink RX7 1 "TwinRowsModel" "thrown" "I", .fieldLink RX7 100 "TwinRowsModel" "isKept" "[Z", .fieldLink RX7 85 "TwinRowsModel" "kept" "[I", .fieldLink RX7 79 "TwinRowsModel" "now" "[I", .fieldLink RX7 182 "TwinRowsModel" "snapMany" "I", .methodLink RX7 69 yX7_isIn, .static yX7_isIn, .initialized RX7, .code yX7_isIn cX7_isIn 3 (some .boolean), .methodLink RX7 178 yX7_copy, .static yX7_copy, .code yX7_copy cX7_copy 5 none] ++ wsX70)
def wsJ9_max_7cf53 : List Cond := .code yJ9_max_7cf53 cJ9_max_7cf53 2 (some .int) :: ([])
def wsJ9_min_7cf53 : List Cond := .code yJ9_min_7cf53 cJ9_min_7cf53 2 (some .int) :: ([])
def wsL_row_r1 : List Cond := [Cond.classLink RL 13 "java/util/NoSuchElementException", Cond.methodLink RL 7 yX6_row, Cond.instanceMethod yX6_row, Cond.selects RX6 yX6_row yX6_row, Cond.initialized RX6, Cond.code yX6_row cX6_row 3 (some .int), Cond.classLink RX6 152 "java/util/NoSuchElementException", Cond.initialized "java/util/NoSuchElementException", Cond.fieldLink RX6 77 "TwinRows" "told" "[I", Cond.fieldLink RX6 73 "TwinRows" "look" "LTwinRows$Look;", Cond.fieldLink RX6 30 "TwinRows" "frame" "LTwinRows$Frame;", Cond.methodLink RX6 142 yX6_counted, Cond.instanceMethod yX6_counted, Cond.selects RX6 yX6_counted yX6_counted, Cond.code yX6_counted cX6_counted 1 (some (.object "TwinRows$Fillings")), Cond.fieldLink RX6 60 "TwinRows" "fillings" "LTwinRows$Fillings;", Cond.methodLink RX6 192 yX1_countAll, Cond.instanceMethod yX1_countAll, Cond.selects RX1 yX1_countAll yX1_countAll, Cond.initialized RX1, Cond.code yX1_countAll cX1_countAll 3 none, Cond.fieldLink RX1 27 "TwinRows$Fillings" "isCounted" "Z", Cond.fieldLink RX1 35 "TwinRows$Fillings" "count" "I", Cond.fieldLink RX1 24 "TwinRows$Fillings" "firsts" "[[I"]
def wsL_row_r2 : List Cond := [Cond.methodLink RX1 47 yJ7_fill_53178, Cond.static yJ7_fill_53178, Cond.initialized RJ7, Cond.code yJ7_fill_53178 cJ7_fill_53178 4 none, Cond.methodLink RX1 53 yX1_nameDigits, Cond.instanceMethod yX1_nameDigits, Cond.selects RX1 yX1_nameDigits yX1_nameDigits, Cond.code yX1_nameDigits cX1_nameDigits 4 none, Cond.fieldLink RX1 15 "TwinRows$Fillings" "digits" "[I", Cond.fieldLink RX1 19 "TwinRows$Fillings" "distances" "[I", Cond.methodLink RX1 89 yX2_hasPair, Cond.instanceMethod yX2_hasPair, Cond.selects RX2 yX2_hasPair yX2_hasPair, Cond.initialized RX2, Cond.code yX2_hasPair cX2_hasPair 2 (some .boolean), Cond.fieldLink RX2 18 "TwinRows$Frame" "pairs" "I", Cond.static yX6_bit, Cond.code yX6_bit cX6_bit 1 (some .int), Cond.methodLink RX1 57 yX1_weighPlaces, Cond.instanceMethod yX1_weighPlaces, Cond.selects RX1 yX1_weighPlaces yX1_weighPlaces, Cond.code yX1_weighPlaces cX1_weighPlaces 5 none, Cond.methodLink RX1 94 Lib.Math.min.name, Cond.static Lib.Math.min.name]
def wsL_row_r3 : List Cond := [Cond.initialized "java/lang/Math", Cond.code Lib.Math.min.name Lib.Math.min.code 2 (some .int), Cond.fieldLink RX1 31 "TwinRows$Fillings" "cells" "I", Cond.fieldLink RX1 9 "TwinRows$Fillings" "weights" "[J", Cond.constantLong RX1 97 (10), Cond.methodLink RX1 60 yX2_isEven, Cond.instanceMethod yX2_isEven, Cond.selects RX2 yX2_isEven yX2_isEven, Cond.code yX2_isEven cX2_isEven 2 (some .boolean), Cond.methodLink RX2 45 yX2_placesToFill, Cond.instanceMethod yX2_placesToFill, Cond.selects RX2 yX2_placesToFill yX2_placesToFill, Cond.code yX2_placesToFill cX2_placesToFill 1 (some .int), Cond.fieldLink RX2 9 "TwinRows$Frame" "cells" "I", Cond.fieldLink RX2 15 "TwinRows$Frame" "holes" "I", Cond.methodLink RX2 49 yJ6_bitCount_0f7a4, Cond.static yJ6_bitCount_0f7a4, Cond.initialized RJ6, Cond.code yJ6_bitCount_0f7a4 cJ6_bitCount_0f7a4 1 (some .int), Cond.constant RJ6 265 (1431655765), Cond.constant RJ6 266 (858993459), Cond.constant RJ6 267 (252645135), Cond.methodLink RX2 54 yX2_sumOf, Cond.static yX2_sumOf]
def wsL_row_r4 : List Cond := [Cond.code yX2_sumOf cX2_sumOf 3 (some .int), Cond.methodLink RX1 66 yX2_placesToFill, Cond.methodLink RX1 70 yX2_pinnedPlaces, Cond.instanceMethod yX2_pinnedPlaces, Cond.selects RX2 yX2_pinnedPlaces yX2_pinnedPlaces, Cond.code yX2_pinnedPlaces cX2_pinnedPlaces 4 (some .int), Cond.fieldLink RX2 21 "TwinRows$Frame" "pins" "[I", Cond.methodLink RX1 77 yX2_pinnedPairs, Cond.instanceMethod yX2_pinnedPairs, Cond.selects RX2 yX2_pinnedPairs yX2_pinnedPairs, Cond.code yX2_pinnedPairs cX2_pinnedPairs 3 (some .int), Cond.methodLink RX1 80 yX1_fill, Cond.instanceMethod yX1_fill, Cond.selects RX1 yX1_fill yX1_fill, Cond.code yX1_fill cX1_fill 10 none, Cond.methodLink RX1 102 yX1_keep, Cond.instanceMethod yX1_keep, Cond.selects RX1 yX1_keep yX1_keep, Cond.code yX1_keep cX1_keep 1 none, Cond.fieldLink RX1 44 "TwinRows$Fillings" "numbers" "[J", Cond.methodLink RX1 105 yJ6_bitCount_0f7a4, Cond.methodLink RX1 86 yX1_stand, Cond.instanceMethod yX1_stand, Cond.selects RX1 yX1_stand yX1_stand]
def wsL_row_r5 : List Cond := [Cond.code yX1_stand cX1_stand 7 none, Cond.methodLink RX6 149 yX1_hasRank, Cond.instanceMethod yX1_hasRank, Cond.selects RX1 yX1_hasRank yX1_hasRank, Cond.code yX1_hasRank cX1_hasRank 2 (some .boolean), Cond.methodLink RX6 155 yX1_tell, Cond.instanceMethod yX1_tell, Cond.selects RX1 yX1_tell yX1_tell, Cond.code yX1_tell cX1_tell 7 none, Cond.methodLink RX1 110 yX1_hasRank, Cond.methodLink RX6 159 yX4_take, Cond.instanceMethod yX4_take, Cond.selects RX4 yX4_take yX4_take, Cond.initialized RX4, Cond.code yX4_take cX4_take 5 none, Cond.methodLink RX4 28 Lib.Math.min.name, Cond.fieldLink RX4 18 "TwinRows$Look" "places" "I", Cond.fieldLink RX4 9 "TwinRows$Look" "numbers" "[I", Cond.fieldLink RX4 15 "TwinRows$Look" "firsts" "[I", Cond.methodLink RX4 34 yX4_clear, Cond.instanceMethod yX4_clear, Cond.selects RX4 yX4_clear yX4_clear, Cond.code yX4_clear cX4_clear 2 none, Cond.methodLink RX4 22 yJ7_fill_53178]
def wsL_row_r6 : List Cond := [Cond.methodLink RX6 163 yX4_numberAt, Cond.instanceMethod yX4_numberAt, Cond.selects RX4 yX4_numberAt yX4_numberAt, Cond.code yX4_numberAt cX4_numberAt 2 (some .int)]
def wsL_row : List Cond := .codeWith yL_row cL_row 4 (some .int) [(0, 9, 12, 13)] :: ((wsL_row_r1 ++ (wsL_row_r2 ++ (wsL_row_r3 ++ (wsL_row_r4 ++ (wsL_row_r5 ++ wsL_row_r6))))) ++ wsX60 ++ wsX20 ++ wsX10 ++ wsX40 ++ (vx_at0 RX6 154 "java/util/NoSuchElementException" ["java/lang/RuntimeException", "java/lang/Exception"]).filter goodWord)
def wsL_law0_r1 : List Cond := [Cond.classLink RL 8 RX6, Cond.instantiable RX6 14, Cond.initialized RX6, Cond.classLink RL 16 RX7, Cond.instantiable RX7 31, Cond.initialized RX7, Cond.arrayClass .long, Cond.methodLink RL 15 yX6_init, Cond.instanceMethod yX6_init, Cond.code yX6_init cX6_init 1 none, Cond.methodLink RX6 1 objectInit, Cond.instanceMethod objectInit, Cond.code objectInit ⟨#[0xb1]⟩ 1 none, Cond.arrayClass .byte, Cond.fieldLink RX6 9 "TwinRows" "tape" "[B", Cond.fieldLink RX6 13 "TwinRows" "tapeLength" "I", Cond.classLink RX6 17 RX5, Cond.instantiable RX5 9, Cond.initialized RX5, Cond.fieldLink RX6 20 "TwinRows" "reader" "LTwinRows$Reader;", Cond.fieldLink RX6 24 "TwinRows" "latestFault" "I", Cond.classLink RX6 27 RX2, Cond.instantiable RX2 4, Cond.initialized RX2]
def wsL_law0_r2 : List Cond := [Cond.fieldLink RX6 30 "TwinRows" "frame" "LTwinRows$Frame;", Cond.fieldLink RX6 34 "TwinRows" "before" "LTwinRows$Frame;", Cond.classLink RX6 37 RX3, Cond.instantiable RX3 3, Cond.initialized RX3, Cond.fieldLink RX6 40 "TwinRows" "history" "LTwinRows$History;", Cond.fieldLink RX6 44 "TwinRows" "images" "[LTwinRows$Frame;", Cond.classLink RX6 48 RX0, Cond.instantiable RX0 1, Cond.initialized RX0, Cond.fieldLink RX6 51 "TwinRows" "draws" "LTwinRows$Draws;", Cond.classLink RX6 55 RX1, Cond.instantiable RX1 8, Cond.initialized RX1, Cond.fieldLink RX6 60 "TwinRows" "fillings" "LTwinRows$Fillings;", Cond.fieldLink RX6 64 "TwinRows" "extendedFrame" "LTwinRows$Frame;", Cond.fieldLink RX6 67 "TwinRows" "extendedFillings" "LTwinRows$Fillings;", Cond.classLink RX6 70 RX4, Cond.instantiable RX4 3, Cond.initialized RX4, Cond.fieldLink RX6 73 "TwinRows" "look" "LTwinRows$Look;", Cond.arrayClass .int, Cond.fieldLink RX6 77 "TwinRows" "told" "[I", Cond.instanceMethod yX5_init]
def wsL_law0_r3 : List Cond := [Cond.code yX5_init cX5_init 1 none, Cond.methodLink RX5 3 objectInit, Cond.classLink RX5 9 RX2, Cond.fieldLink RX5 12 "TwinRows$Reader" "draft" "LTwinRows$Frame;", Cond.fieldLink RX5 18 "TwinRows$Reader" "text" "[B", Cond.fieldLink RX5 22 "TwinRows$Reader" "length" "I", Cond.fieldLink RX5 26 "TwinRows$Reader" "token" "I", Cond.fieldLink RX5 29 "TwinRows$Reader" "begin" "I", Cond.fieldLink RX5 32 "TwinRows$Reader" "next" "I", Cond.fieldLink RX5 35 "TwinRows$Reader" "value" "I", Cond.fieldLink RX5 38 "TwinRows$Reader" "distance" "I", Cond.fieldLink RX5 41 "TwinRows$Reader" "fault" "I", Cond.instanceMethod yX2_init, Cond.code yX2_init cX2_init 1 none, Cond.methodLink RX2 3 objectInit, Cond.fieldLink RX2 9 "TwinRows$Frame" "cells" "I", Cond.fieldLink RX2 15 "TwinRows$Frame" "holes" "I", Cond.fieldLink RX2 18 "TwinRows$Frame" "pairs" "I", Cond.fieldLink RX2 21 "TwinRows$Frame" "pins" "[I", Cond.instanceMethod yX3_init, Cond.code yX3_init cX3_init 1 none, Cond.methodLink RX3 3 objectInit, Cond.classLink RX3 9 RX2, Cond.fieldLink RX3 11 "TwinRows$History" "ring" "[LTwinRows$Frame;"]
def wsL_law0_r4 : List Cond := [Cond.fieldLink RX3 17 "TwinRows$History" "latest" "I", Cond.fieldLink RX3 21 "TwinRows$History" "size" "I", Cond.instanceMethod yX0_init, Cond.code yX0_init cX0_init 1 none, Cond.methodLink RX0 3 objectInit, Cond.fieldLink RX0 9 "TwinRows$Draws" "seed" "I", Cond.methodLink RX6 57 yX1_init, Cond.instanceMethod yX1_init, Cond.code yX1_init cX1_init 2 none, Cond.methodLink RX1 3 objectInit, Cond.fieldLink RX1 9 "TwinRows$Fillings" "weights" "[J", Cond.fieldLink RX1 15 "TwinRows$Fillings" "digits" "[I", Cond.fieldLink RX1 19 "TwinRows$Fillings" "distances" "[I", Cond.classLink RX1 22 "[[I", Cond.fieldLink RX1 24 "TwinRows$Fillings" "firsts" "[[I", Cond.fieldLink RX1 27 "TwinRows$Fillings" "isCounted" "Z", Cond.fieldLink RX1 31 "TwinRows$Fillings" "cells" "I", Cond.fieldLink RX1 35 "TwinRows$Fillings" "count" "I", Cond.methodLink RX1 38 Lib.Math.max.name, Cond.static Lib.Math.max.name, Cond.initialized "java/lang/Math", Cond.code Lib.Math.max.name Lib.Math.max.code 2 (some .int), Cond.fieldLink RX1 44 "TwinRows$Fillings" "numbers" "[J", Cond.instanceMethod yX4_init]
def wsL_law0_r5 : List Cond := [Cond.code yX4_init cX4_init 1 none, Cond.methodLink RX4 3 objectInit, Cond.fieldLink RX4 9 "TwinRows$Look" "numbers" "[I", Cond.fieldLink RX4 15 "TwinRows$Look" "firsts" "[I", Cond.fieldLink RX4 18 "TwinRows$Look" "places" "I", Cond.methodLink RL 18 yX7_init, Cond.instanceMethod yX7_init, Cond.code yX7_init cX7_init 1 none, Cond.methodLink RX7 73 objectInit, Cond.fieldLink RX7 7 "TwinRowsModel" "tape" "[I", Cond.fieldLink RX7 79 "TwinRowsModel" "now" "[I", Cond.fieldLink RX7 82 "TwinRowsModel" "read" "[I", Cond.fieldLink RX7 85 "TwinRowsModel" "kept" "[I", Cond.fieldLink RX7 88 "TwinRowsModel" "snaps" "[I", Cond.fieldLink RX7 91 "TwinRowsModel" "before" "[I", Cond.fieldLink RX7 94 "TwinRowsModel" "live" "[I", Cond.fieldLink RX7 97 "TwinRowsModel" "other" "[I", Cond.arrayClass .boolean, Cond.fieldLink RX7 100 "TwinRowsModel" "isKept" "[Z", Cond.fieldLink RX7 104 "TwinRowsModel" "cell" "[I", Cond.fieldLink RX7 107 "TwinRowsModel" "wantedRow" "[I", Cond.fieldLink RX7 110 "TwinRowsModel" "asked" "[I", Cond.fieldLink RX7 113 "TwinRowsModel" "standing" "[I", Cond.fieldLink RX7 116 "TwinRowsModel" "row" "[I"]
def wsL_law0_r6 : List Cond := [Cond.fieldLink RX7 119 "TwinRowsModel" "rowMany" "I", Cond.fieldLink RX7 122 "TwinRowsModel" "madeRow" "[I", Cond.methodLink RL 19 yX6_feed, Cond.instanceMethod yX6_feed, Cond.selects RX6 yX6_feed yX6_feed, Cond.code yX6_feed cX6_feed 6 (some .int), Cond.methodLink RX6 81 yX6_feedNumber, Cond.instanceMethod yX6_feedNumber, Cond.selects RX6 yX6_feedNumber yX6_feedNumber, Cond.code yX6_feedNumber cX6_feedNumber 3 none, Cond.methodLink RL 23 yX7_feed, Cond.instanceMethod yX7_feed, Cond.selects RX7 yX7_feed yX7_feed, Cond.code yX7_feed cX7_feed 6 (some .int), Cond.fieldLink RX7 1 "TwinRowsModel" "thrown" "I", Cond.fieldLink RX7 11 "TwinRowsModel" "taped" "I", Cond.methodLink RX7 14 yX7_lay, Cond.instanceMethod yX7_lay, Cond.selects RX7 yX7_lay yX7_lay, Cond.code yX7_lay cX7_lay 3 none, Cond.methodLink RL 24 yX6_end, Cond.instanceMethod yX6_end, Cond.selects RX6 yX6_end yX6_end, Cond.code yX6_end cX6_end 2 (some .boolean)]
def wsL_law0_r7 : List Cond := [Cond.methodLink RL 28 yX7_end, Cond.instanceMethod yX7_end, Cond.selects RX7 yX7_end yX7_end, Cond.code yX7_end cX7_end 2 (some .boolean), Cond.methodLink RL 29 yX6_frame, Cond.instanceMethod yX6_frame, Cond.selects RX6 yX6_frame yX6_frame, Cond.code yX6_frame cX6_frame 3 (some .int), Cond.methodLink RX6 84 yX5_read, Cond.instanceMethod yX5_read, Cond.selects RX5 yX5_read yX5_read, Cond.code yX5_read cX5_read 4 (some .int), Cond.methodLink RX5 44 Lib.Math.min.name, Cond.static Lib.Math.min.name, Cond.code Lib.Math.min.name Lib.Math.min.code 2 (some .int), Cond.methodLink RX5 50 arraycopyName, Cond.native arraycopyName, Cond.static arraycopyName, Cond.initialized "java/lang/System", Cond.methodLink RX5 56 yX2_begin, Cond.instanceMethod yX2_begin, Cond.selects RX2 yX2_begin yX2_begin, Cond.code yX2_begin cX2_begin 4 none, Cond.methodLink RX2 25 yJ7_fill_53178]
def wsL_law0_r8 : List Cond := [Cond.static yJ7_fill_53178, Cond.initialized RJ7, Cond.code yJ7_fill_53178 cJ7_fill_53178 4 none, Cond.methodLink RX5 59 yX5_advance, Cond.instanceMethod yX5_advance, Cond.selects RX5 yX5_advance yX5_advance, Cond.code yX5_advance cX5_advance 1 none, Cond.methodLink RX5 131 yX5_advanceRun, Cond.instanceMethod yX5_advanceRun, Cond.selects RX5 yX5_advanceRun yX5_advanceRun, Cond.code yX5_advanceRun cX5_advanceRun 4 none, Cond.methodLink RX5 62 yX5_readRow, Cond.instanceMethod yX5_readRow, Cond.selects RX5 yX5_readRow yX5_readRow, Cond.code yX5_readRow cX5_readRow 2 (some .boolean), Cond.methodLink RX5 72 yX5_isWord, Cond.instanceMethod yX5_isWord, Cond.selects RX5 yX5_isWord yX5_isWord, Cond.code yX5_isWord cX5_isWord 3 (some .boolean), Cond.methodLink RX5 122 yJ0_length_8abf5, Cond.instanceMethod yJ0_length_8abf5, Cond.selects RJ0 yJ0_length_8abf5 yJ0_length_8abf5, Cond.initialized RJ0, Cond.code yJ0_length_8abf5 cJ0_length_8abf5 1 (some .int)]
def wsL_law0_r9 : List Cond := [Cond.fieldLink RJ0 9 "java/lang/String" "value" "[B", Cond.methodLink RJ0 335 yJ0_coder_7d493, Cond.instanceMethod yJ0_coder_7d493, Cond.selects RJ0 yJ0_coder_7d493 yJ0_coder_7d493, Cond.code yJ0_coder_7d493 cJ0_coder_7d493 1 (some .byte), Cond.fieldLink RJ0 38 "java/lang/String" "COMPACT_STRINGS" "Z", Cond.fieldLink RJ0 15 "java/lang/String" "coder" "B", Cond.methodLink RX5 127 yJ0_charAt_5068e, Cond.instanceMethod yJ0_charAt_5068e, Cond.selects RJ0 yJ0_charAt_5068e yJ0_charAt_5068e, Cond.code yJ0_charAt_5068e cJ0_charAt_5068e 2 (some .char), Cond.methodLink RJ0 492 yJ0_isLatin1_aae02, Cond.instanceMethod yJ0_isLatin1_aae02, Cond.selects RJ0 yJ0_isLatin1_aae02 yJ0_isLatin1_aae02, Cond.code yJ0_isLatin1_aae02 cJ0_isLatin1_aae02 1 (some .boolean), Cond.methodLink RJ0 495 yJ1_charAt_3b067, Cond.static yJ1_charAt_3b067, Cond.initialized RJ1, Cond.code yJ1_charAt_3b067 cJ1_charAt_3b067 2 (some .char), Cond.methodLink RJ1 9 yJ0_checkIndex_df160, Cond.static yJ0_checkIndex_df160, Cond.code yJ0_checkIndex_df160 cJ0_checkIndex_df160 2 none, Cond.fieldLink RJ0 1053 "jdk/internal/util/Preconditions" "SIOOBE_FORMATTER" "Ljava/util/function/BiFunction;", Cond.methodLink RJ0 1059 yJ3_checkIndex_8e157]
def wsL_law0_r10 : List Cond := [Cond.static yJ3_checkIndex_8e157, Cond.initialized RJ3, Cond.code yJ3_checkIndex_8e157 cJ3_checkIndex_8e157 3 (some .int), Cond.methodLink RJ0 498 yJ2_charAt_3b067, Cond.static yJ2_charAt_3b067, Cond.initialized RJ2, Cond.code yJ2_charAt_3b067 cJ2_charAt_3b067 2 (some .char), Cond.methodLink RJ2 67 yJ2_checkIndex_2214a, Cond.static yJ2_checkIndex_2214a, Cond.code yJ2_checkIndex_2214a cJ2_checkIndex_2214a 2 none, Cond.methodLink RJ2 48 yJ2_length_9d52b, Cond.static yJ2_length_9d52b, Cond.code yJ2_length_9d52b cJ2_length_9d52b 1 (some .int), Cond.methodLink RJ2 414 yJ0_checkIndex_df160, Cond.methodLink RJ2 71 yJ2_getChar_3b067, Cond.static yJ2_getChar_3b067, Cond.code yJ2_getChar_3b067 cJ2_getChar_3b067 2 (some .char), Cond.fieldLink RJ2 44 "java/lang/StringUTF16" "$assertionsDisabled" "Z", Cond.fieldLink RJ2 59 "java/lang/StringUTF16" "HI_BYTE_SHIFT" "I", Cond.fieldLink RJ2 63 "java/lang/StringUTF16" "LO_BYTE_SHIFT" "I", Cond.methodLink RX5 76 yX5_readCells, Cond.instanceMethod yX5_readCells, Cond.selects RX5 yX5_readCells yX5_readCells, Cond.code yX5_readCells cX5_readCells 1 (some .boolean)]
def wsL_law0_r11 : List Cond := [Cond.methodLink RX5 98 yX5_readNumber, Cond.instanceMethod yX5_readNumber, Cond.selects RX5 yX5_readNumber yX5_readNumber, Cond.code yX5_readNumber cX5_readNumber 2 (some .boolean), Cond.methodLink RX5 79 yX5_fails, Cond.instanceMethod yX5_fails, Cond.selects RX5 yX5_fails yX5_fails, Cond.code yX5_fails cX5_fails 2 (some .boolean), Cond.methodLink RX5 85 yX5_readHole, Cond.instanceMethod yX5_readHole, Cond.selects RX5 yX5_readHole yX5_readHole, Cond.code yX5_readHole cX5_readHole 1 (some .boolean), Cond.methodLink RX5 103 yX2_setHole, Cond.instanceMethod yX2_setHole, Cond.selects RX2 yX2_setHole yX2_setHole, Cond.code yX2_setHole cX2_setHole 3 (some .int), Cond.methodLink RX2 37 yX2_hasPlace, Cond.instanceMethod yX2_hasPlace, Cond.selects RX2 yX2_hasPlace yX2_hasPlace, Cond.code yX2_hasPlace cX2_hasPlace 2 (some .boolean), Cond.methodLink RX2 60 yX2_hasHole, Cond.instanceMethod yX2_hasHole, Cond.selects RX2 yX2_hasHole yX2_hasHole, Cond.code yX2_hasHole cX2_hasHole 2 (some .boolean)]
def wsL_law0_r12 : List Cond := [Cond.static yX6_bit, Cond.code yX6_bit cX6_bit 1 (some .int), Cond.methodLink RX2 63 yX2_pinnedPlaces, Cond.instanceMethod yX2_pinnedPlaces, Cond.selects RX2 yX2_pinnedPlaces yX2_pinnedPlaces, Cond.code yX2_pinnedPlaces cX2_pinnedPlaces 4 (some .int), Cond.methodLink RX2 49 yJ6_bitCount_0f7a4, Cond.static yJ6_bitCount_0f7a4, Cond.initialized RJ6, Cond.code yJ6_bitCount_0f7a4 cJ6_bitCount_0f7a4 1 (some .int), Cond.constant RJ6 265 (1431655765), Cond.constant RJ6 266 (858993459), Cond.constant RJ6 267 (252645135), Cond.methodLink RX5 90 yX5_readPair, Cond.instanceMethod yX5_readPair, Cond.selects RX5 yX5_readPair yX5_readPair, Cond.code yX5_readPair cX5_readPair 1 (some .boolean), Cond.methodLink RX5 110 yJ6_bitCount_0f7a4, Cond.methodLink RX5 116 yX2_setPair, Cond.instanceMethod yX2_setPair, Cond.selects RX2 yX2_setPair yX2_setPair, Cond.code yX2_setPair cX2_setPair 3 (some .int), Cond.methodLink RX2 57 yX2_hasPair, Cond.instanceMethod yX2_hasPair]
def wsL_law0_r13 : List Cond := [Cond.selects RX2 yX2_hasPair yX2_hasPair, Cond.code yX2_hasPair cX2_hasPair 2 (some .boolean), Cond.methodLink RX5 95 yX5_readPin, Cond.instanceMethod yX5_readPin, Cond.selects RX5 yX5_readPin yX5_readPin, Cond.code yX5_readPin cX5_readPin 1 (some .boolean), Cond.methodLink RX5 119 yX2_setPin, Cond.instanceMethod yX2_setPin, Cond.selects RX2 yX2_setPin yX2_setPin, Cond.code yX2_setPin cX2_setPin 3 (some .int), Cond.methodLink RX5 66 yX5_endsRow, Cond.instanceMethod yX5_endsRow, Cond.selects RX5 yX5_endsRow yX5_endsRow, Cond.code yX5_endsRow cX5_endsRow 1 (some .boolean), Cond.methodLink RX6 94 yX6_becomes, Cond.instanceMethod yX6_becomes, Cond.selects RX6 yX6_becomes yX6_becomes, Cond.code yX6_becomes cX6_becomes 2 none, Cond.methodLink RX6 102 yX2_copy, Cond.instanceMethod yX2_copy, Cond.selects RX2 yX2_copy yX2_copy, Cond.code yX2_copy cX2_copy 2 none, Cond.methodLink RX2 31 arraycopyName, Cond.methodLink RL 33 yX7_frame]
def wsL_law0_r14 : List Cond := [Cond.instanceMethod yX7_frame, Cond.selects RX7 yX7_frame yX7_frame, Cond.code yX7_frame cX7_frame 3 (some .int), Cond.fieldLink RX7 18 "TwinRowsModel" "size" "I", Cond.fieldLink RX7 60 "TwinRowsModel" "fault" "I", Cond.fieldLink RX7 21 "TwinRowsModel" "next" "I", Cond.fieldLink RX7 27 "TwinRowsModel" "sort" "I", Cond.fieldLink RX7 63 "TwinRowsModel" "place" "I", Cond.fieldLink RX7 182 "TwinRowsModel" "snapMany" "I", Cond.methodLink RX7 137 yX7_goes, Cond.instanceMethod yX7_goes, Cond.selects RX7 yX7_goes yX7_goes, Cond.code yX7_goes cX7_goes 5 none, Cond.fieldLink RX7 24 "TwinRowsModel" "from" "I", Cond.fieldLink RX7 37 "TwinRowsModel" "word" "J", Cond.fieldLink RX7 41 "TwinRowsModel" "number" "I", Cond.constantLong RX7 48 (27), Cond.constantLong RX7 50 (96), Cond.methodLink RX7 30 yX7_isLetter, Cond.static yX7_isLetter, Cond.code yX7_isLetter cX7_isLetter 1 (some .boolean), Cond.methodLink RX7 34 yX7_isDigit, Cond.static yX7_isDigit, Cond.code yX7_isDigit cX7_isDigit 1 (some .boolean)]
def wsL_law0_r15 : List Cond := [Cond.methodLink RX7 44 yX7_tapeAt, Cond.instanceMethod yX7_tapeAt, Cond.selects RX7 yX7_tapeAt yX7_tapeAt, Cond.code yX7_tapeAt cX7_tapeAt 2 (some .int), Cond.methodLink RX7 172 yX7_readRow, Cond.instanceMethod yX7_readRow, Cond.selects RX7 yX7_readRow yX7_readRow, Cond.code yX7_readRow cX7_readRow 1 (some .boolean), Cond.methodLink RX7 154 yX7_isCells, Cond.instanceMethod yX7_isCells, Cond.selects RX7 yX7_isCells yX7_isCells, Cond.code yX7_isCells cX7_isCells 1 (some .boolean), Cond.methodLink RX7 52 yX7_spelt, Cond.static yX7_spelt, Cond.code yX7_spelt cX7_spelt 7 (some .long), Cond.methodLink RX7 56 yX7_isWord, Cond.instanceMethod yX7_isWord, Cond.selects RX7 yX7_isWord yX7_isWord, Cond.code yX7_isWord cX7_isWord 3 (some .boolean), Cond.methodLink RX7 157 yX7_readCells, Cond.instanceMethod yX7_readCells, Cond.selects RX7 yX7_readCells yX7_readCells, Cond.code yX7_readCells cX7_readCells 1 (some .boolean), Cond.methodLink RX7 140 yX7_isNumber]
def wsL_law0_r16 : List Cond := [Cond.instanceMethod yX7_isNumber, Cond.selects RX7 yX7_isNumber yX7_isNumber, Cond.code yX7_isNumber cX7_isNumber 3 (some .boolean), Cond.methodLink RX7 66 yX7_bad, Cond.instanceMethod yX7_bad, Cond.selects RX7 yX7_bad yX7_bad, Cond.code yX7_bad cX7_bad 2 (some .boolean), Cond.methodLink RX7 69 yX7_isIn, Cond.static yX7_isIn, Cond.code yX7_isIn cX7_isIn 3 (some .boolean), Cond.methodLink RX7 160 yX7_isHole, Cond.instanceMethod yX7_isHole, Cond.selects RX7 yX7_isHole yX7_isHole, Cond.code yX7_isHole cX7_isHole 1 (some .boolean), Cond.methodLink RX7 163 yX7_readHole, Cond.instanceMethod yX7_readHole, Cond.selects RX7 yX7_readHole yX7_readHole, Cond.code yX7_readHole cX7_readHole 1 (some .boolean), Cond.methodLink RX7 133 yX7_pins, Cond.static yX7_pins, Cond.code yX7_pins cX7_pins 4 (some .int), Cond.methodLink RX7 129 yX7_isTold, Cond.static yX7_isTold, Cond.code yX7_isTold cX7_isTold 2 (some .boolean)]
def wsL_law0_r17 : List Cond := [Cond.methodLink RX7 125 yX7_has, Cond.static yX7_has, Cond.code yX7_has cX7_has 2 (some .boolean), Cond.methodLink RX7 166 yX7_isPair, Cond.instanceMethod yX7_isPair, Cond.selects RX7 yX7_isPair yX7_isPair, Cond.code yX7_isPair cX7_isPair 1 (some .boolean), Cond.methodLink RX7 169 yX7_readPair, Cond.instanceMethod yX7_readPair, Cond.selects RX7 yX7_readPair yX7_readPair, Cond.code yX7_readPair cX7_readPair 3 (some .boolean), Cond.methodLink RX7 143 yX7_bits, Cond.static yX7_bits, Cond.code yX7_bits cX7_bits 3 (some .int), Cond.methodLink RX7 146 yX7_isAt, Cond.instanceMethod yX7_isAt, Cond.selects RX7 yX7_isAt yX7_isAt, Cond.code yX7_isAt cX7_isAt 1 (some .boolean), Cond.methodLink RX7 150 yX7_mayPin, Cond.static yX7_mayPin, Cond.code yX7_mayPin cX7_mayPin 3 (some .boolean), Cond.methodLink RX7 175 yX7_readEnd, Cond.instanceMethod yX7_readEnd, Cond.selects RX7 yX7_readEnd yX7_readEnd]
def wsL_law0_r18 : List Cond := [Cond.code yX7_readEnd cX7_readEnd 1 (some .boolean), Cond.methodLink RX7 178 yX7_copy, Cond.static yX7_copy, Cond.code yX7_copy cX7_copy 5 none, Cond.methodLink RL 34 yX6_fault, Cond.instanceMethod yX6_fault, Cond.selects RX6 yX6_fault yX6_fault, Cond.code yX6_fault cX6_fault 1 (some .int), Cond.methodLink RL 37 yX7_fault, Cond.instanceMethod yX7_fault, Cond.selects RX7 yX7_fault yX7_fault, Cond.code yX7_fault cX7_fault 1 (some .int), Cond.methodLink RL 38 yX6_kind, Cond.instanceMethod yX6_kind, Cond.selects RX6 yX6_kind yX6_kind, Cond.code yX6_kind cX6_kind 4 (some .int), Cond.methodLink RX6 98 yX6_mostOrder, Cond.static yX6_mostOrder, Cond.code yX6_mostOrder cX6_mostOrder 1 (some .int), Cond.methodLink RX6 105 yX6_bit, Cond.methodLink RX6 108 yX2_begin, Cond.methodLink RX6 112 yX6_acted, Cond.instanceMethod yX6_acted, Cond.selects RX6 yX6_acted yX6_acted]
def wsL_law0_r19 : List Cond := [Cond.code yX6_acted cX6_acted 1 none, Cond.methodLink RX6 226 yX3_keep, Cond.instanceMethod yX3_keep, Cond.selects RX3 yX3_keep yX3_keep, Cond.code yX3_keep cX3_keep 2 none, Cond.methodLink RX3 29 Lib.Math.min.name, Cond.methodLink RX3 25 yX2_copy, Cond.methodLink RL 42 yX7_kind, Cond.instanceMethod yX7_kind, Cond.selects RX7 yX7_kind yX7_kind, Cond.code yX7_kind cX7_kind 3 (some .int), Cond.methodLink RX7 185 yX7_snap, Cond.instanceMethod yX7_snap, Cond.selects RX7 yX7_snap yX7_snap, Cond.code yX7_snap cX7_snap 2 none, Cond.methodLink RX7 188 yX7_laysKind, Cond.static yX7_laysKind, Cond.code yX7_laysKind cX7_laysKind 4 none, Cond.methodLink RL 43 yX6_now, Cond.instanceMethod yX6_now, Cond.selects RX6 yX6_now yX6_now, Cond.code yX6_now cX6_now 2 (some .int), Cond.methodLink RX6 124 yX2_pinnedPairs, Cond.instanceMethod yX2_pinnedPairs]
def wsL_law0_r20 : List Cond := [Cond.selects RX2 yX2_pinnedPairs yX2_pinnedPairs, Cond.code yX2_pinnedPairs cX2_pinnedPairs 3 (some .int), Cond.methodLink RX6 128 yX2_isEven, Cond.instanceMethod yX2_isEven, Cond.selects RX2 yX2_isEven yX2_isEven, Cond.code yX2_isEven cX2_isEven 2 (some .boolean), Cond.methodLink RX2 45 yX2_placesToFill, Cond.instanceMethod yX2_placesToFill, Cond.selects RX2 yX2_placesToFill yX2_placesToFill, Cond.code yX2_placesToFill cX2_placesToFill 1 (some .int), Cond.methodLink RX2 54 yX2_sumOf, Cond.static yX2_sumOf, Cond.code yX2_sumOf cX2_sumOf 3 (some .int), Cond.methodLink RL 46 yX7_now, Cond.instanceMethod yX7_now, Cond.selects RX7 yX7_now yX7_now, Cond.code yX7_now cX7_now 2 (some .int), Cond.methodLink RX7 245 yX7_pinnedOnes, Cond.instanceMethod yX7_pinnedOnes, Cond.selects RX7 yX7_pinnedOnes yX7_pinnedOnes, Cond.code yX7_pinnedOnes cX7_pinnedOnes 3 (some .int), Cond.methodLink RX7 208 yX7_isEven, Cond.instanceMethod yX7_isEven, Cond.selects RX7 yX7_isEven yX7_isEven]
def wsL_law0_r21 : List Cond := [Cond.code yX7_isEven cX7_isEven 5 (some .boolean), Cond.methodLink RL 47 yX6_pinned, Cond.instanceMethod yX6_pinned, Cond.selects RX6 yX6_pinned yX6_pinned, Cond.code yX6_pinned cX6_pinned 2 (some .int), Cond.methodLink RX6 135 yX2_hasPair, Cond.methodLink RL 50 yX7_pinned, Cond.instanceMethod yX7_pinned, Cond.selects RX7 yX7_pinned yX7_pinned, Cond.code yX7_pinned cX7_pinned 2 (some .int), Cond.methodLink RL 51 yX6_ways, Cond.instanceMethod yX6_ways, Cond.selects RX6 yX6_ways yX6_ways, Cond.code yX6_ways cX6_ways 1 (some .int), Cond.methodLink RX6 142 yX6_counted, Cond.instanceMethod yX6_counted, Cond.selects RX6 yX6_counted yX6_counted, Cond.code yX6_counted cX6_counted 1 (some (.object "TwinRows$Fillings")), Cond.methodLink RX6 192 yX1_countAll, Cond.instanceMethod yX1_countAll, Cond.selects RX1 yX1_countAll yX1_countAll, Cond.code yX1_countAll cX1_countAll 3 none, Cond.methodLink RX1 47 yJ7_fill_53178, Cond.methodLink RX1 53 yX1_nameDigits]
def wsL_law0_r22 : List Cond := [Cond.instanceMethod yX1_nameDigits, Cond.selects RX1 yX1_nameDigits yX1_nameDigits, Cond.code yX1_nameDigits cX1_nameDigits 4 none, Cond.methodLink RX1 89 yX2_hasPair, Cond.methodLink RX1 57 yX1_weighPlaces, Cond.instanceMethod yX1_weighPlaces, Cond.selects RX1 yX1_weighPlaces yX1_weighPlaces, Cond.code yX1_weighPlaces cX1_weighPlaces 5 none, Cond.methodLink RX1 94 Lib.Math.min.name, Cond.constantLong RX1 97 (10), Cond.methodLink RX1 60 yX2_isEven, Cond.methodLink RX1 66 yX2_placesToFill, Cond.methodLink RX1 70 yX2_pinnedPlaces, Cond.methodLink RX1 77 yX2_pinnedPairs, Cond.methodLink RX1 80 yX1_fill, Cond.instanceMethod yX1_fill, Cond.selects RX1 yX1_fill yX1_fill, Cond.code yX1_fill cX1_fill 10 none, Cond.methodLink RX1 102 yX1_keep, Cond.instanceMethod yX1_keep, Cond.selects RX1 yX1_keep yX1_keep, Cond.code yX1_keep cX1_keep 1 none, Cond.methodLink RX1 105 yJ6_bitCount_0f7a4, Cond.methodLink RX1 86 yX1_stand]
def wsL_law0_r23 : List Cond := [Cond.instanceMethod yX1_stand, Cond.selects RX1 yX1_stand yX1_stand, Cond.code yX1_stand cX1_stand 7 none, Cond.methodLink RL 54 yX7_ways, Cond.instanceMethod yX7_ways, Cond.selects RX7 yX7_ways yX7_ways, Cond.code yX7_ways cX7_ways 1 (some .int), Cond.methodLink RX7 212 yX7_all, Cond.instanceMethod yX7_all, Cond.selects RX7 yX7_all yX7_all, Cond.code yX7_all cX7_all 4 (some .int), Cond.fieldLink RX7 199 "TwinRowsModel" "found" "I", Cond.fieldLink RX7 202 "TwinRowsModel" "wanted" "I", Cond.fieldLink RX7 205 "TwinRowsModel" "rankOf" "I", Cond.methodLink RX7 196 yX7_fills, Cond.instanceMethod yX7_fills, Cond.selects RX7 yX7_fills yX7_fills, Cond.code yX7_fills cX7_fills 6 none, Cond.methodLink RX7 192 yX7_counts, Cond.instanceMethod yX7_counts, Cond.selects RX7 yX7_counts yX7_counts, Cond.code yX7_counts cX7_counts 5 none, Cond.methodLink RL 55 yL_row, Cond.static yL_row]
def wsL_law0_r24 : List Cond := [Cond.initialized RL, Cond.codeWith yL_row cL_row 4 (some .int) [(0, 9, 12, 13)], Cond.classLink RL 13 "java/util/NoSuchElementException", Cond.methodLink RL 7 yX6_row, Cond.instanceMethod yX6_row, Cond.selects RX6 yX6_row yX6_row, Cond.code yX6_row cX6_row 3 (some .int), Cond.classLink RX6 152 "java/util/NoSuchElementException", Cond.initialized "java/util/NoSuchElementException", Cond.methodLink RX6 149 yX1_hasRank, Cond.instanceMethod yX1_hasRank, Cond.selects RX1 yX1_hasRank yX1_hasRank, Cond.code yX1_hasRank cX1_hasRank 2 (some .boolean), Cond.methodLink RX6 155 yX1_tell, Cond.instanceMethod yX1_tell, Cond.selects RX1 yX1_tell yX1_tell, Cond.code yX1_tell cX1_tell 7 none, Cond.methodLink RX1 110 yX1_hasRank, Cond.methodLink RX6 159 yX4_take, Cond.instanceMethod yX4_take, Cond.selects RX4 yX4_take yX4_take, Cond.code yX4_take cX4_take 5 none, Cond.methodLink RX4 28 Lib.Math.min.name, Cond.methodLink RX4 34 yX4_clear]
def wsL_law0_r25 : List Cond := [Cond.instanceMethod yX4_clear, Cond.selects RX4 yX4_clear yX4_clear, Cond.code yX4_clear cX4_clear 2 none, Cond.methodLink RX4 22 yJ7_fill_53178, Cond.methodLink RX6 163 yX4_numberAt, Cond.instanceMethod yX4_numberAt, Cond.selects RX4 yX4_numberAt yX4_numberAt, Cond.code yX4_numberAt cX4_numberAt 2 (some .int), Cond.methodLink RL 60 yX7_row, Cond.instanceMethod yX7_row, Cond.selects RX7 yX7_row yX7_row, Cond.code yX7_row cX7_row 2 (some .int), Cond.methodLink RX7 215 yX7_refuse, Cond.instanceMethod yX7_refuse, Cond.selects RX7 yX7_refuse yX7_refuse, Cond.code yX7_refuse cX7_refuse 1 (some .int), Cond.methodLink RX7 219 yX7_looks, Cond.instanceMethod yX7_looks, Cond.selects RX7 yX7_looks yX7_looks, Cond.code yX7_looks cX7_looks 4 none, Cond.methodLink RL 61 yX7_thrown, Cond.instanceMethod yX7_thrown, Cond.selects RX7 yX7_thrown yX7_thrown, Cond.code yX7_thrown cX7_thrown 1 (some .int)]
def wsL_law0_r26 : List Cond := [Cond.methodLink RL 64 yX6_at, Cond.instanceMethod yX6_at, Cond.selects RX6 yX6_at yX6_at, Cond.code yX6_at cX6_at 2 (some .int), Cond.methodLink RL 67 yX7_at, Cond.instanceMethod yX7_at, Cond.selects RX7 yX7_at yX7_at, Cond.code yX7_at cX7_at 2 (some .int), Cond.methodLink RL 68 yX6_first, Cond.instanceMethod yX6_first, Cond.selects RX6 yX6_first yX6_first, Cond.code yX6_first cX6_first 2 (some .int), Cond.methodLink RX6 166 yX4_firstOf, Cond.instanceMethod yX4_firstOf, Cond.selects RX4 yX4_firstOf yX4_firstOf, Cond.code yX4_firstOf cX4_firstOf 2 (some .int), Cond.methodLink RL 71 yX7_first, Cond.instanceMethod yX7_first, Cond.selects RX7 yX7_first yX7_first, Cond.code yX7_first cX7_first 2 (some .int), Cond.methodLink RX7 223 yX7_firstOf, Cond.instanceMethod yX7_firstOf, Cond.selects RX7 yX7_firstOf yX7_firstOf, Cond.code yX7_firstOf cX7_firstOf 3 (some .int)]
def wsL_law0_r27 : List Cond := [Cond.methodLink RL 72 yX6_rank, Cond.instanceMethod yX6_rank, Cond.selects RX6 yX6_rank yX6_rank, Cond.code yX6_rank cX6_rank 3 (some .int), Cond.methodLink RX6 169 yX6_lookAtTold, Cond.instanceMethod yX6_lookAtTold, Cond.selects RX6 yX6_lookAtTold yX6_lookAtTold, Cond.code yX6_lookAtTold cX6_lookAtTold 2 (some .int), Cond.methodLink RX6 175 yX1_rankOf, Cond.instanceMethod yX1_rankOf, Cond.selects RX1 yX1_rankOf yX1_rankOf, Cond.code yX1_rankOf cX1_rankOf 6 (some .int), Cond.methodLink RX1 113 yX1_rankOfNumber, Cond.instanceMethod yX1_rankOfNumber, Cond.selects RX1 yX1_rankOfNumber yX1_rankOfNumber, Cond.code yX1_rankOfNumber cX1_rankOfNumber 6 (some .int), Cond.methodLink RL 75 yX7_rank, Cond.instanceMethod yX7_rank, Cond.selects RX7 yX7_rank yX7_rank, Cond.code yX7_rank cX7_rank 3 (some .int), Cond.methodLink RX7 226 yX7_ranked, Cond.instanceMethod yX7_ranked, Cond.selects RX7 yX7_ranked yX7_ranked, Cond.code yX7_ranked cX7_ranked 1 (some .int)]
def wsL_law0_r28 : List Cond := [Cond.methodLink RL 76 yX6_behind, Cond.instanceMethod yX6_behind, Cond.selects RX6 yX6_behind yX6_behind, Cond.code yX6_behind cX6_behind 3 (some .int), Cond.methodLink RL 79 yX7_behind, Cond.instanceMethod yX7_behind, Cond.selects RX7 yX7_behind yX7_behind, Cond.code yX7_behind cX7_behind 2 (some .int), Cond.methodLink RL 80 yX6_standing, Cond.instanceMethod yX6_standing, Cond.selects RX6 yX6_standing yX6_standing, Cond.code yX6_standing cX6_standing 3 (some .int), Cond.methodLink RX6 179 yX2_hasPlace, Cond.methodLink RL 83 yX7_standing, Cond.instanceMethod yX7_standing, Cond.selects RX7 yX7_standing yX7_standing, Cond.code yX7_standing cX7_standing 3 (some .int), Cond.methodLink RL 84 yX6_may, Cond.instanceMethod yX6_may, Cond.selects RX6 yX6_may yX6_may, Cond.code yX6_may cX6_may 2 (some .int), Cond.methodLink RX6 186 yX1_placesOf, Cond.instanceMethod yX1_placesOf, Cond.selects RX1 yX1_placesOf yX1_placesOf]
def wsL_law0_r29 : List Cond := [Cond.code yX1_placesOf cX1_placesOf 4 (some .int), Cond.methodLink RL 87 yX7_may, Cond.instanceMethod yX7_may, Cond.selects RX7 yX7_may yX7_may, Cond.code yX7_may cX7_may 4 (some .int), Cond.methodLink RL 88 yX6_sure, Cond.instanceMethod yX6_sure, Cond.selects RX6 yX6_sure yX6_sure, Cond.code yX6_sure cX6_sure 4 (some .int), Cond.methodLink RX6 189 yX1_isSure, Cond.instanceMethod yX1_isSure, Cond.selects RX1 yX1_isSure yX1_isSure, Cond.code yX1_isSure cX1_isSure 2 (some .boolean), Cond.methodLink RX1 117 yX1_placesOf, Cond.methodLink RL 91 yX7_sure, Cond.instanceMethod yX7_sure, Cond.selects RX7 yX7_sure yX7_sure, Cond.code yX7_sure cX7_sure 5 (some .int), Cond.methodLink RL 92 yX6_extended, Cond.instanceMethod yX6_extended, Cond.selects RX6 yX6_extended yX6_extended, Cond.code yX6_extended cX6_extended 3 (some .int), Cond.methodLink RL 95 yX7_extended, Cond.instanceMethod yX7_extended]
def wsL_law0_r30 : List Cond := [Cond.selects RX7 yX7_extended yX7_extended, Cond.code yX7_extended cX7_extended 3 (some .int), Cond.methodLink RL 96 yX6_made, Cond.instanceMethod yX6_made, Cond.selects RX6 yX6_made yX6_made, Cond.code yX6_made cX6_made 2 (some .int), Cond.methodLink RX6 195 yX4_make, Cond.instanceMethod yX4_make, Cond.selects RX4 yX4_make yX4_make, Cond.code yX4_make cX4_make 3 none, Cond.methodLink RX4 38 yX4_makeLeaving0, Cond.instanceMethod yX4_makeLeaving0, Cond.selects RX4 yX4_makeLeaving0 yX4_makeLeaving0, Cond.code yX4_makeLeaving0 cX4_makeLeaving0 2 none, Cond.methodLink RX4 47 yX4_nest, Cond.instanceMethod yX4_nest, Cond.selects RX4 yX4_nest yX4_nest, Cond.code yX4_nest cX4_nest 6 none, Cond.methodLink RX4 51 yX4_twin, Cond.instanceMethod yX4_twin, Cond.selects RX4 yX4_twin yX4_twin, Cond.code yX4_twin cX4_twin 4 none, Cond.methodLink RX4 41 yX4_makeLeaving1, Cond.instanceMethod yX4_makeLeaving1]
def wsL_law0_r31 : List Cond := [Cond.selects RX4 yX4_makeLeaving1 yX4_makeLeaving1, Cond.code yX4_makeLeaving1 cX4_makeLeaving1 2 none, Cond.methodLink RX4 44 yX4_makeLeaving2, Cond.instanceMethod yX4_makeLeaving2, Cond.selects RX4 yX4_makeLeaving2 yX4_makeLeaving2, Cond.code yX4_makeLeaving2 cX4_makeLeaving2 2 none, Cond.methodLink RL 99 yX7_made, Cond.instanceMethod yX7_made, Cond.selects RX7 yX7_made yX7_made, Cond.code yX7_made cX7_made 3 (some .int), Cond.methodLink RX7 233 yX7_laysFours, Cond.instanceMethod yX7_laysFours, Cond.selects RX7 yX7_laysFours yX7_laysFours, Cond.code yX7_laysFours cX7_laysFours 3 none, Cond.methodLink RX7 229 yX7_two, Cond.instanceMethod yX7_two, Cond.selects RX7 yX7_two yX7_two, Cond.code yX7_two cX7_two 4 none, Cond.methodLink RX7 236 yX7_laysOnes, Cond.instanceMethod yX7_laysOnes, Cond.selects RX7 yX7_laysOnes yX7_laysOnes, Cond.code yX7_laysOnes cX7_laysOnes 3 none, Cond.methodLink RX7 239 yX7_laysTwos, Cond.instanceMethod yX7_laysTwos]
def wsL_law0_r32 : List Cond := [Cond.selects RX7 yX7_laysTwos yX7_laysTwos, Cond.code yX7_laysTwos cX7_laysTwos 3 none, Cond.methodLink RL 100 yX6_third, Cond.instanceMethod yX6_third, Cond.selects RX6 yX6_third yX6_third, Cond.code yX6_third cX6_third 3 (some .int), Cond.methodLink RX6 198 yX4_thirdOf, Cond.instanceMethod yX4_thirdOf, Cond.selects RX4 yX4_thirdOf yX4_thirdOf, Cond.code yX4_thirdOf cX4_thirdOf 5 (some .int), Cond.methodLink RX4 55 yX4_ringOrder, Cond.instanceMethod yX4_ringOrder, Cond.selects RX4 yX4_ringOrder yX4_ringOrder, Cond.code yX4_ringOrder cX4_ringOrder 6 (some .int), Cond.methodLink RX4 63 Lib.Math.max.name, Cond.methodLink RX4 59 yX4_thirdAlong, Cond.instanceMethod yX4_thirdAlong, Cond.selects RX4 yX4_thirdAlong yX4_thirdAlong, Cond.code yX4_thirdAlong cX4_thirdAlong 8 (some .int), Cond.methodLink RX4 66 yJ9_floorMod_7cf53, Cond.static yJ9_floorMod_7cf53, Cond.initialized RJ9, Cond.code yJ9_floorMod_7cf53 cJ9_floorMod_7cf53 3 (some .int), Cond.methodLink RL 103 yX7_third]
def wsL_law0_r33 : List Cond := [Cond.instanceMethod yX7_third, Cond.selects RX7 yX7_third yX7_third, Cond.code yX7_third cX7_third 12 (some .int), Cond.methodLink RX7 242 yX7_orderOf, Cond.instanceMethod yX7_orderOf, Cond.selects RX7 yX7_orderOf yX7_orderOf, Cond.code yX7_orderOf cX7_orderOf 5 (some .int), Cond.methodLink RL 104 yX6_hole, Cond.instanceMethod yX6_hole, Cond.selects RX6 yX6_hole yX6_hole, Cond.code yX6_hole cX6_hole 4 (some .int), Cond.methodLink RX6 202 yX2_setHole, Cond.methodLink RL 108 yX7_hole, Cond.instanceMethod yX7_hole, Cond.selects RX7 yX7_hole yX7_hole, Cond.code yX7_hole cX7_hole 3 (some .int), Cond.methodLink RX7 248 yX7_mayHole, Cond.instanceMethod yX7_mayHole, Cond.selects RX7 yX7_mayHole yX7_mayHole, Cond.code yX7_mayHole cX7_mayHole 3 (some .boolean), Cond.methodLink RL 109 yX6_pair, Cond.instanceMethod yX6_pair, Cond.selects RX6 yX6_pair yX6_pair, Cond.code yX6_pair cX6_pair 4 (some .int)]
def wsL_law0_r34 : List Cond := [Cond.methodLink RX6 206 yX2_setPair, Cond.methodLink RL 112 yX7_pair, Cond.instanceMethod yX7_pair, Cond.selects RX7 yX7_pair yX7_pair, Cond.code yX7_pair cX7_pair 3 (some .int), Cond.methodLink RX7 252 yX7_mayPair, Cond.instanceMethod yX7_mayPair, Cond.selects RX7 yX7_mayPair yX7_mayPair, Cond.code yX7_mayPair cX7_mayPair 3 (some .boolean), Cond.methodLink RX7 255 yX7_turns, Cond.instanceMethod yX7_turns, Cond.selects RX7 yX7_turns yX7_turns, Cond.code yX7_turns cX7_turns 2 none, Cond.methodLink RL 113 yX6_pin, Cond.instanceMethod yX6_pin, Cond.selects RX6 yX6_pin yX6_pin, Cond.code yX6_pin cX6_pin 4 (some .int), Cond.methodLink RX6 209 yX2_setPin, Cond.methodLink RL 116 yX7_pin, Cond.instanceMethod yX7_pin, Cond.selects RX7 yX7_pin yX7_pin, Cond.code yX7_pin cX7_pin 3 (some .int), Cond.methodLink RL 117 yX6_drawn, Cond.instanceMethod yX6_drawn]
def wsL_law0_r35 : List Cond := [Cond.selects RX6 yX6_drawn yX6_drawn, Cond.code yX6_drawn cX6_drawn 5 (some .int), Cond.methodLink RX6 215 yX0_doDeed, Cond.instanceMethod yX0_doDeed, Cond.selects RX0 yX0_doDeed yX0_doDeed, Cond.code yX0_doDeed cX0_doDeed 4 (some .boolean), Cond.methodLink RX0 16 yX0_draw, Cond.instanceMethod yX0_draw, Cond.selects RX0 yX0_draw yX0_draw, Cond.code yX0_draw cX0_draw 2 (some .int), Cond.constant RX0 15 (1103515245), Cond.methodLink RX0 25 yX2_hasHole, Cond.methodLink RX0 29 yX2_setHole, Cond.methodLink RX0 33 yX2_hasPair, Cond.methodLink RX0 36 yX2_setPair, Cond.methodLink RX0 39 yX0_doPin, Cond.instanceMethod yX0_doPin, Cond.selects RX0 yX0_doPin yX0_doPin, Cond.code yX0_doPin cX0_doPin 6 (some .boolean), Cond.methodLink RX0 46 yJ6_bitCount_0f7a4, Cond.methodLink RX0 51 yX2_distanceOf, Cond.instanceMethod yX2_distanceOf, Cond.selects RX2 yX2_distanceOf yX2_distanceOf, Cond.code yX2_distanceOf cX2_distanceOf 4 (some .int)]
def wsL_law0_r36 : List Cond := [Cond.methodLink RX0 58 yX2_setPin, Cond.methodLink RL 120 yX7_drawn, Cond.instanceMethod yX7_drawn, Cond.selects RX7 yX7_drawn yX7_drawn, Cond.code yX7_drawn cX7_drawn 5 (some .int), Cond.fieldLink RX7 258 "TwinRowsModel" "seed" "I", Cond.methodLink RX7 268 yX7_does, Cond.instanceMethod yX7_does, Cond.selects RX7 yX7_does yX7_does, Cond.code yX7_does cX7_does 4 (some .boolean), Cond.methodLink RX7 262 yX7_draw, Cond.instanceMethod yX7_draw, Cond.selects RX7 yX7_draw yX7_draw, Cond.code yX7_draw cX7_draw 2 (some .int), Cond.constant RX7 261 (1103515245), Cond.methodLink RX7 265 yX7_distance, Cond.instanceMethod yX7_distance, Cond.selects RX7 yX7_distance yX7_distance, Cond.code yX7_distance cX7_distance 4 (some .int), Cond.methodLink RX7 271 yX7_stay, Cond.instanceMethod yX7_stay, Cond.selects RX7 yX7_stay yX7_stay, Cond.code yX7_stay cX7_stay 1 none, Cond.methodLink RL 121 yX6_undo]
def wsL_law0_r37 : List Cond := [Cond.instanceMethod yX6_undo, Cond.selects RX6 yX6_undo yX6_undo, Cond.code yX6_undo cX6_undo 1 (some .int), Cond.methodLink RX6 219 yX3_takeLatest, Cond.instanceMethod yX3_takeLatest, Cond.selects RX3 yX3_takeLatest yX3_takeLatest, Cond.code yX3_takeLatest cX3_takeLatest 2 none, Cond.methodLink RL 124 yX7_undo, Cond.instanceMethod yX7_undo, Cond.selects RX7 yX7_undo yX7_undo, Cond.code yX7_undo cX7_undo 1 (some .int), Cond.methodLink RL 125 yX6_image, Cond.instanceMethod yX6_image, Cond.selects RX6 yX6_image yX6_image, Cond.code yX6_image cX6_image 2 (some .boolean), Cond.methodLink RL 128 yX7_image, Cond.instanceMethod yX7_image, Cond.selects RX7 yX7_image yX7_image, Cond.code yX7_image cX7_image 2 (some .boolean), Cond.methodLink RL 129 yX6_restore, Cond.instanceMethod yX6_restore, Cond.selects RX6 yX6_restore yX6_restore, Cond.code yX6_restore cX6_restore 2 (some .boolean), Cond.methodLink RL 132 yX7_restore]
def wsL_law0_r38 : List Cond := [Cond.instanceMethod yX7_restore, Cond.selects RX7 yX7_restore yX7_restore, Cond.code yX7_restore cX7_restore 2 (some .boolean)]
def wsL_law0 : List Cond := (wsL_law0_r1 ++ (wsL_law0_r2 ++ (wsL_law0_r3 ++ (wsL_law0_r4 ++ (wsL_law0_r5 ++ (wsL_law0_r6 ++ (wsL_law0_r7 ++ (wsL_law0_r8 ++ (wsL_law0_r9 ++ (wsL_law0_r10 ++ (wsL_law0_r11 ++ (wsL_law0_r12 ++ (wsL_law0_r13 ++ (wsL_law0_r14 ++ (wsL_law0_r15 ++ (wsL_law0_r16 ++ (wsL_law0_r17 ++ (wsL_law0_r18 ++ (wsL_law0_r19 ++ (wsL_law0_r20 ++ (wsL_law0_r21 ++ (wsL_law0_r22 ++ (wsL_law0_r23 ++ (wsL_law0_r24 ++ (wsL_law0_r25 ++ (wsL_law0_r26 ++ (wsL_law0_r27 ++ (wsL_law0_r28 ++ (wsL_law0_r29 ++ (wsL_law0_r30 ++ (wsL_law0_r31 ++ (wsL_law0_r32 ++ (wsL_law0_r33 ++ (wsL_law0_r34 ++ (wsL_law0_r35 ++ (wsL_law0_r36 ++ (wsL_law0_r37 ++ wsL_law0_r38))))))))))))))))))))))))))))))))))))) ++ wsX60 ++ wsX70 ++ wsX50 ++ wsX20 ++ wsX30 ++ wsX00 ++ wsX10 ++ wsX40 ++ ([] : List Cond)
def wsL_law : List Cond := wsL_law0 ++ (vx_at0 RX6 154 "java/util/NoSuchElementException" ["java/lang/RuntimeException", "java/lang/Exception"]).filter goodWord
abbrev vwCl : List vw_C := [(RX0, TX0, 1), (RX1, TX1, 8), (RX2, TX2, 4), (RX3, TX3, 3), (RX4, TX4, 3), (RX5, TX5, 9), (RX6, TX6, 14), (RX7, TX7, 31)]
end
section
/-- the links to private members of nest mates, out of the tables -/
def nestW : List Cond := [.fieldLinkNest "TwinRows$Draws" (20 : Nat) "TwinRows$Frame" "cells" "I" "TwinRows", .fieldLinkNest "TwinRows$Fillings" (93 : Nat) "TwinRows$Frame" "cells" "I" "TwinRows", .fieldLinkNest "TwinRows$Reader" (101 : Nat) "TwinRows$Frame" "cells" "I" "TwinRows", .fieldLinkNest "TwinRows" (115 : Nat) "TwinRows$Frame" "cells" "I" "TwinRows", .fieldLinkNest "TwinRows" (118 : Nat) "TwinRows$Frame" "holes" "I" "TwinRows", .fieldLinkNest "TwinRows$Fillings" (74 : Nat) "TwinRows$Frame" "pairs" "I" "TwinRows", .fieldLinkNest "TwinRows$Draws" (43 : Nat) "TwinRows$Frame" "pairs" "I" "TwinRows", .fieldLinkNest "TwinRows$Reader" (107 : Nat) "TwinRows$Frame" "pairs" "I" "TwinRows", .fieldLinkNest "TwinRows" (121 : Nat) "TwinRows$Frame" "pairs" "I" "TwinRows", .fieldLinkNest "TwinRows$Fillings" (83 : Nat) "TwinRows$Frame" "pins" "[I" "TwinRows", .fieldLinkNest "TwinRows$Draws" (54 : Nat) "TwinRows$Frame" "pins" "[I" "TwinRows", .fieldLinkNest "TwinRows" (139 : Nat) "TwinRows$Frame" "pins" "[I" "TwinRows", .fieldLinkNest "TwinRows" (91 : Nat) "TwinRows$Reader" "draft" "LTwinRows$Frame;" "TwinRows", .fieldLinkNest "TwinRows" (88 : Nat) "TwinRows$Reader" "fault" "I" "TwinRows", .fieldLinkNest "TwinRows" (132 : Nat) "TwinRows$History" "size" "I" "TwinRows", .fieldLinkNest "TwinRows" (212 : Nat) "TwinRows$Draws" "seed" "I" "TwinRows", .fieldLinkNest "TwinRows" (182 : Nat) "TwinRows$Fillings" "firsts" "[[I" "TwinRows", .fieldLinkNest "TwinRows" (222 : Nat) "TwinRows$Fillings" "isCounted" "Z" "TwinRows", .fieldLinkNest "TwinRows" (146 : Nat) "TwinRows$Fillings" "count" "I" "TwinRows", .fieldLinkNest "TwinRows" (172 : Nat) "TwinRows$Look" "places" "I" "TwinRows", .methodLinkNest "TwinRows" (19 : Nat) ({ cls := "TwinRows$Reader", name := "<init>", desc := "()V" } : MethodName) "TwinRows", .methodLinkNest "TwinRows$Reader" (11 : Nat) ({ cls := "TwinRows$Frame", name := "<init>", desc := "()V" } : MethodName) "TwinRows", .methodLinkNest "TwinRows" (29 : Nat) ({ cls := "TwinRows$Frame", name := "<init>", desc := "()V" } : MethodName) "TwinRows", .methodLinkNest "TwinRows" (39 : Nat) ({ cls := "TwinRows$History", name := "<init>", desc := "()V" } : MethodName) "TwinRows", .methodLinkNest "TwinRows" (50 : Nat) ({ cls := "TwinRows$Draws", name := "<init>", desc := "()V" } : MethodName) "TwinRows", .methodLinkNest "TwinRows" (72 : Nat) ({ cls := "TwinRows$Look", name := "<init>", desc := "()V" } : MethodName) "TwinRows", .methodLinkNest "TwinRows$Frame" (41 : Nat) ({ cls := "TwinRows", name := "bit", desc := "(I)I" } : MethodName) "TwinRows", .methodLinkNest "TwinRows$History" (24 : Nat) ({ cls := "TwinRows$Frame", name := "<init>", desc := "()V" } : MethodName) "TwinRows", .methodLinkNest "TwinRows$Fillings" (99 : Nat) ({ cls := "TwinRows", name := "bit", desc := "(I)I" } : MethodName) "TwinRows"]
/-! THE MACHINE, MADE SMALL: a heap of logical addresses (cell k is the machine's cell z + k), a judgement PW at an instruction, PM of a method -/
abbrev PE : Type := (Nat × vp_A) ⊕ (Nat × List Value)
abbrev Hp : Type := Nat × (Nat → Option PE)
/-- the base; the classes' numbers and slots; the array classes; the texts' addresses -/
abbrev GT : Type := Nat × va_G × (Nat → ClassId) × (Nat → Nat)
def trV (g : GT) : Value → Value
  | .ref k => .ref (g.1 + k)
  | .float u => .ref (g.2.2.2 u.toNat)
  | v => v
def trQ (g : GT) (f : Nat → Option Nat) : Nat → Option Nat := fun i => (f i).map (fun k => g.1 + k)
def trC (g : GT) : ((Nat → Int32) ⊕ (Nat → Int64) ⊕ (Nat → UInt32) ⊕ (Nat → UInt64) ⊕ (Nat → Option Nat)) → ((Nat → Int32) ⊕ (Nat → Int64) ⊕ (Nat → UInt32) ⊕ (Nat → UInt64) ⊕ (Nat → Option Nat))
  | .inr (.inr (.inr (.inr f))) => .inr (.inr (.inr (.inr (trQ g f))))
  | x => x
def trE (g : GT) : PE → va_E
  | .inl (k, n, a) => .inl (g.2.2.1 k, n, trC g a)
  | .inr (ci, fs) => .inr (ci, fs.map (trV g))
/-- the kinds of arrays: 0 int, 1 byte, 2 long, 3 boolean, 4 Frame, 5 rows of ints -/
def akT : Nat → FieldType
  | 0 => .int
  | 1 => .byte
  | 2 => .long
  | 3 => .boolean
  | 4 => .object "TwinRows$Frame"
  | _ => .array .int
def REL (g : GT) (h : Hp) (H : Heap) : Prop := H.size = g.1 + h.1 ∧ ∀ (k : Nat) (e : PE), h.2 k = some e → va_at g.2.1 vwCl (g.1 + k, trE g e) H
def hset (h : Hp) (a : Nat) (e : PE) : Hp := (h.1, fun k => if k = a then some e else h.2 k)
def hpush (h : Hp) (e : PE) : Hp := (h.1 + 1, fun k => if k = h.1 then some e else h.2 k)
def KX (g : GT) (U : State) : Prop := va_K g.2.1 vwCl [] U ∧ (∀ k, k < 6 → ArrOfT U (g.2.2.1 k) (akT k) ∧ va_RA U (g.2.2.1 k) (akT k)) ∧ (∀ w ∈ nestW, va_Nw w U)
theorem KX.moved {g : GT} {u U : State} (hW : u.WarmedH U.vm) (h : KX g u) : KX g U := by
  refine ⟨va_K.moved hW.alike h.1, fun k hk => ⟨arrOfT_moved hW.alike (h.2.1 k hk).1, (h.2.1 k hk).2.moved hW.alike⟩, fun w hw => ?_⟩
  have h1 := h.2.2 w hw
  have h2 : ∀ w ∈ nestW, (∃ a i b n d e, w = .fieldLinkNest a i b n d e) ∨ (∃ a i x e, w = .methodLinkNest a i x e) := by
    intro w hw
    simp only [nestW, List.mem_cons, List.mem_nil_iff, or_false] at hw
    rcases hw with rfl | rfl | rfl | rfl | rfl | rfl | rfl | rfl | rfl | rfl | rfl | rfl | rfl | rfl | rfl | rfl | rfl | rfl | rfl | rfl | rfl | rfl | rfl | rfl | rfl | rfl | rfl | rfl | rfl <;> first | exact Or.inl ⟨_, _, _, _, _, _, rfl⟩ | exact Or.inr ⟨_, _, _, _, rfl⟩
  rcases h2 w hw with ⟨a, i, b, n, d, e, rfl⟩ | ⟨a, i, x, e, rfl⟩
  · exact va_Nw.warmF hW h1
  · exact va_Nw.warmM hW h1
theorem KX.same {g : GT} {U V : State} (hv : V.vm = U.vm) (h : KX g U) : KX g V := by
  have ha : U.vm.Alike V.vm := by rw [hv]; exact Vm.Alike.refl _
  refine ⟨va_K.moved ha h.1, fun k hk => ⟨arrOfT_moved ha (h.2.1 k hk).1, (h.2.1 k hk).2.moved ha⟩, fun w hw => ?_⟩
  have h1 := h.2.2 w hw
  have h2 : ∀ w ∈ nestW, w.onTables = true := by decide +kernel
  exact va_Nw.same (h2 w hw) hv.symm h1
/-- a method: its code, its class, its name, its words, its locals, its answer's type -/
abbrev MD : Type := ByteArray × String × String × List Cond × Nat × Option FieldType
def CX (g : GT) (M : MD) (p : Program) (s : State) (m : MethodId) (args : Array Value) (meth : Method) (c : Code) : Prop :=
  p.tables.exec = Jvm.exec ∧ c.code = M.1 ∧ c.maxLocals = M.2.2.2.2.1 ∧ s.vm.findClass M.2.1 = some m.cls ∧ (∀ w ∈ M.2.2.2.1, w.before args s = true) ∧ KX g s ∧ meth.sig.returnType = M.2.2.2.2.2 ∧ meth.locks = false ∧ meth.name = M.2.2.1
def lvR (g : GT) (ls : Array Slot) (nL : Nat) (lo : List (Option Value)) : Prop := ls.size = nL ∧ lv_wf ls ∧ ∀ (i : Nat) (v : Value), lo[i]? = some (some v) → ls[i]? = some (.val (trV g v))
def PcOf (g : GT) (as : List Value) (h : Hp) : Array Value → State → Prop := fun v U => v = (as.map (trV g)).toArray ∧ REL g h U.heap ∧ KX g U
def QcOf (g : GT) (Q : Option Value → Hp → Prop) : Array Value → State → Outcome → State → Prop := fun _ st oc t => (∃ (r : Option Value) (h' : Hp), oc = .returned (r.map (trV g)) ∧ Q r h' ∧ REL g h' t.heap) ∧ va_F (fun q => g.1 ≤ q) st t
def PM (g : GT) (l : Launch) (d kc ks : Nat) (y : MethodName) (ws : List Cond) (as : List Value) (h : Hp) (Q : Option Value → Hp → Prop) : Prop :=
  Met l y ws { frames := d, cells := kc, slots := ks, locals := 40 * d } (PcOf g as h) (QcOf g Q) kc ks (fun q => g.1 ≤ q)
def PW (g : GT) (l : Launch) (M : MD) (d kc ks pc : Nat) (lo : List (Option Value)) (st : List Value) (h : Hp) (Q : Option Value → Hp → Prop) : Prop :=
  ∀ (p : Program) (e : Env) (R : Room) (s : State) (m : MethodId) (args : Array Value) (below : List Frame) (meth : Method) (c : Code) (H : Heap) (locs : List Loc) (cells slots : Nat) (ls : Array Slot),
    CX g M p s m args meth c → (d ≤ R.frames ∧ 40 * d ≤ R.locals ∧ cells + kc ≤ R.cells ∧ slots + ks ≤ R.slots) → lvR g ls M.2.2.2.2.1 lo → REL g h H → va_S (fun q => g.1 ≤ q) s.heap H locs → g.1 ≤ s.heap.size →
    W p l e R s m args below meth c H locs cells slots (MQ below (QcOf g Q) args s (cells + kc) (slots + ks) (fun q => g.1 ≤ q)) (F0 m pc ls (st.map (trV g)))
theorem trV_cat (g : GT) (v : Value) : (trV g v).category = v.category := by cases v <;> rfl
theorem REL.put {g : GT} {h : Hp} {H H1 : Heap} {a : Nat} {e : PE} (hR : REL g h H) (z : H1.size = H.size) (o : ∀ q : Nat, q ≠ g.1 + a → H1[q]? = H[q]?) (hn : va_at g.2.1 vwCl (g.1 + a, trE g e) H1) : REL g (hset h a e) H1 := by
  refine ⟨z.trans hR.1, fun k e' hk => ?_⟩
  by_cases hka : k = a
  · subst hka
    simp only [hset, if_pos] at hk
    cases hk
    exact hn
  · simp only [hset, if_neg hka] at hk
    exact (hR.2 k e' hk).kept (o _ (by show g.1 + k ≠ g.1 + a; omega))
theorem REL.push {g : GT} {h : Hp} {H H1 : Heap} {e : PE} (hR : REL g h H) (z : H1.size = g.1 + h.1 + 1) (o : ∀ q : Nat, q < g.1 + h.1 → H1[q]? = H[q]?) (hn : va_at g.2.1 vwCl (g.1 + h.1, trE g e) H1) : REL g (hpush h e) H1 := by
  refine ⟨by rw [z]; simp only [hpush]; omega, fun k e' hk => ?_⟩
  by_cases hka : k = h.1
  · subst hka
    simp only [hpush, if_pos] at hk
    cases hk
    exact hn
  · simp only [hpush, if_neg hka] at hk
    have h1 := hR.2 k e' hk
    have h2 := h1.lt
    rw [hR.1] at h2
    exact h1.kept (o _ h2)
/-! the locals -/
def clr : Option Value → Option Value
  | some (.long _) => none
  | some (.double _) => none
  | w => w
def lset : List (Option Value) → Nat → Value → List (Option Value)
  | [], _, _ => []
  | _ :: t, 0, v => some v :: t
  | w :: [], 1, _ => [clr w]
  | w :: _ :: t, 1, v => clr w :: some v :: t
  | w :: t, n + 2, v => w :: lset t (n + 1) v
def lset2 : List (Option Value) → Nat → Value → List (Option Value)
  | [], _, _ => []
  | _ :: [], 0, v => [some v]
  | _ :: _ :: t, 0, v => some v :: none :: t
  | w :: [], 1, _ => [clr w]
  | w :: _ :: [], 1, v => clr w :: some v :: []
  | w :: _ :: _ :: t, 1, v => clr w :: some v :: none :: t
  | w :: t, n + 2, v => w :: lset2 t (n + 1) v
theorem clr_spec {w : Option Value} {v : Value} (h : clr w = some v) : w = some v ∧ v.category = 1 := by
  cases w with
  | none => simp [clr] at h
  | some x => cases x <;> simp [clr] at h <;> subst h <;> exact ⟨rfl, rfl⟩
theorem lset_spec : ∀ (lo : List (Option Value)) (i : Nat) (v : Value) (j : Nat) (w : Value), (lset lo i v)[j]? = some (some w) → (j = i ∧ w = v) ∨ (j ≠ i ∧ lo[j]? = some (some w) ∧ ¬ (j + 1 = i ∧ w.category = 2))
  | [], i, v, j, w, h => by simp [lset] at h
  | x :: t, 0, v, j, w, h => by
    cases j with
    | zero => simp [lset] at h; exact Or.inl ⟨rfl, h.symm⟩
    | succ j => simp [lset] at h; exact Or.inr ⟨by omega, by simpa using h, by omega⟩
  | x :: [], 1, v, j, w, h => by
    cases j with
    | zero => simp [lset] at h; obtain ⟨h1, h2⟩ := clr_spec h; exact Or.inr ⟨by omega, by simp [h1], by omega⟩
    | succ j => simp [lset] at h
  | x :: y :: t, 1, v, j, w, h => by
    match j with
    | 0 => simp [lset] at h; obtain ⟨h1, h2⟩ := clr_spec h; exact Or.inr ⟨by omega, by simp [h1], by omega⟩
    | 1 => simp [lset] at h; exact Or.inl ⟨rfl, h.symm⟩
    | j + 2 => simp [lset] at h; exact Or.inr ⟨by omega, by simpa using h, by omega⟩
  | x :: t, n + 2, v, j, w, h => by
    cases j with
    | zero => simp [lset] at h; exact Or.inr ⟨by omega, by simp [h], by omega⟩
    | succ j =>
      simp [lset] at h
      rcases lset_spec t (n + 1) v j w h with ⟨h1, h2⟩ | ⟨h1, h2, h3⟩
      · exact Or.inl ⟨by omega, h2⟩
      · exact Or.inr ⟨by omega, by simpa using h2, by omega⟩
theorem lset2_spec : ∀ (lo : List (Option Value)) (i : Nat) (v : Value) (j : Nat) (w : Value), (lset2 lo i v)[j]? = some (some w) → (j = i ∧ w = v) ∨ (j ≠ i ∧ j ≠ i + 1 ∧ lo[j]? = some (some w) ∧ ¬ (j + 1 = i ∧ w.category = 2))
  | [], i, v, j, w, h => by simp [lset2] at h
  | x :: [], 0, v, j, w, h => by
    cases j with
    | zero => simp [lset2] at h; exact Or.inl ⟨rfl, h.symm⟩
    | succ j => simp [lset2] at h
  | x :: y :: t, 0, v, j, w, h => by
    match j with
    | 0 => simp [lset2] at h; exact Or.inl ⟨rfl, h.symm⟩
    | 1 => simp [lset2] at h
    | j + 2 => simp [lset2] at h; exact Or.inr ⟨by omega, by omega, by simpa using h, by omega⟩
  | x :: [], 1, v, j, w, h => by
    cases j with
    | zero => simp [lset2] at h; obtain ⟨h1, h2⟩ := clr_spec h; exact Or.inr ⟨by omega, by omega, by simp [h1], by omega⟩
    | succ j => simp [lset2] at h
  | x :: y :: [], 1, v, j, w, h => by
    match j with
    | 0 => simp [lset2] at h; obtain ⟨h1, h2⟩ := clr_spec h; exact Or.inr ⟨by omega, by omega, by simp [h1], by omega⟩
    | 1 => simp [lset2] at h; exact Or.inl ⟨rfl, h.symm⟩
    | j + 2 => simp [lset2] at h
  | x :: y :: u :: t, 1, v, j, w, h => by
    match j with
    | 0 => simp [lset2] at h; obtain ⟨h1, h2⟩ := clr_spec h; exact Or.inr ⟨by omega, by omega, by simp [h1], by omega⟩
    | 1 => simp [lset2] at h; exact Or.inl ⟨rfl, h.symm⟩
    | 2 => simp [lset2] at h
    | j + 3 => simp [lset2] at h; exact Or.inr ⟨by omega, by omega, by simpa using h, by omega⟩
  | x :: t, n + 2, v, j, w, h => by
    cases j with
    | zero => simp [lset2] at h; exact Or.inr ⟨by omega, by omega, by simp [h], by omega⟩
    | succ j =>
      simp [lset2] at h
      rcases lset2_spec t (n + 1) v j w h with ⟨h1, h2⟩ | ⟨h1, h2, h3, h4⟩
      · exact Or.inl ⟨by omega, h2⟩
      · exact Or.inr ⟨by omega, by omega, by simpa using h3, by omega⟩
def lvL (g : GT) (lo : List (Option Value)) : List (Nat × Value) := (List.range lo.length).filterMap (fun j => match lo[j]? with
  | some (some w) => some (j, trV g w)
  | _ => none)
theorem lvL_mem {g : GT} {lo : List (Option Value)} {j : Nat} {w : Value} (h : lo[j]? = some (some w)) : (j, trV g w) ∈ lvL g lo := by
  refine List.mem_filterMap.mpr ⟨j, List.mem_range.mpr (List.getElem?_eq_some_iff.mp h).1, ?_⟩
  simp [h]
theorem lvL_has {g : GT} {ls : Array Slot} {nL : Nat} {lo : List (Option Value)} (h : lvR g ls nL lo) : lv_has ls nL (lvL g lo) := by
  refine ⟨h.1, h.2.1, fun q hq => ?_⟩
  obtain ⟨j, -, hj⟩ := List.mem_filterMap.mp hq
  cases hl : lo[j]? with
  | none => simp [hl] at hj
  | some o =>
    cases o with
    | none => simp [hl] at hj
    | some w =>
      simp [hl] at hj
      subst hj
      exact h.2.2 j w hl
theorem lvR_store1 {g : GT} {ls : Array Slot} {nL : Nat} {lo : List (Option Value)} {i : Nat} {v : Value} (h : lvR g ls nL lo) {ls' : Array Slot} (h' : lv_has ls' nL ((i, trV g v) :: (lvL g lo).filter (fun q => !(q.1 == i) && !(q.1 + 1 == i && q.2.category == 2)))) : lvR g ls' nL (lset lo i v) := by
  refine ⟨h'.1, h'.2.1, fun j w hj => ?_⟩
  rcases lset_spec lo i v j w hj with ⟨rfl, rfl⟩ | ⟨h1, h2, h3⟩
  · exact h'.2.2 (j, trV g w) List.mem_cons_self
  · refine h'.2.2 (j, trV g w) (List.mem_cons_of_mem _ (List.mem_filter.mpr ⟨lvL_mem h2, ?_⟩))
    rw [trV_cat]
    by_cases e1 : j + 1 = i
    · have : ¬ w.category = 2 := fun q => h3 ⟨e1, q⟩
      simp [h1, this]
    · simp [h1, e1]
theorem lvR_store2 {g : GT} {ls : Array Slot} {nL : Nat} {lo : List (Option Value)} {i : Nat} {v : Value} (h : lvR g ls nL lo) {ls' : Array Slot} (h' : lv_has ls' nL ((i, trV g v) :: (lvL g lo).filter (fun q => !(q.1 == i) && (!(q.1 == i + 1) && !(q.1 + 1 == i && q.2.category == 2))))) : lvR g ls' nL (lset2 lo i v) := by
  refine ⟨h'.1, h'.2.1, fun j w hj => ?_⟩
  rcases lset2_spec lo i v j w hj with ⟨rfl, rfl⟩ | ⟨h1, h1b, h2, h3⟩
  · exact h'.2.2 (j, trV g w) List.mem_cons_self
  · refine h'.2.2 (j, trV g w) (List.mem_cons_of_mem _ (List.mem_filter.mpr ⟨lvL_mem h2, ?_⟩))
    rw [trV_cat]
    by_cases e1 : j + 1 = i
    · have : ¬ w.category = 2 := fun q => h3 ⟨e1, q⟩
      simp [h1, h1b, this]
    · simp [h1, h1b, e1]
end
section
/-- >>> of ints -/
def ushr (x y : Int32) : Int32 := (x.toUInt32 >>> (y.toUInt32 &&& Int32.toUInt32 31)).toInt32
section PWR
variable {g : GT} {l : Launch} {M : MD} {d kc ks pc : Nat} {lo : List (Option Value)} {st : List Value} {h : Hp} {Q : Option Value → Hp → Prop}
theorem pw_iconst {n : Int} {v : Int32} (hdg : decode M.1 pc = .ok (.iconst n, 1)) (hv : Int32.ofInt n = v) (k : PW g l M d kc ks (pc + 1) lo (.int v :: st) h Q) : PW g l M d kc ks pc lo (st) h Q := fun p e R s m args below meth c H locs cells slots ls C hr hl hR hS hz => lv_iconst C.1 C.2.1 hdg hv (k p e R s m args below meth c H locs cells slots ls C hr hl hR hS hz)
theorem pw_bipush {n : Int} {v : Int32} (hdg : decode M.1 pc = .ok (.bipush n, 2)) (hv : (Int8.ofInt n).toInt32 = v) (k : PW g l M d kc ks (pc + 2) lo (.int v :: st) h Q) : PW g l M d kc ks pc lo (st) h Q := fun p e R s m args below meth c H locs cells slots ls C hr hl hR hS hz => lv_bipush C.1 C.2.1 hdg hv (k p e R s m args below meth c H locs cells slots ls C hr hl hR hS hz)
theorem pw_sipush {n : Int} {v : Int32} (hdg : decode M.1 pc = .ok (.sipush n, 3)) (hv : (Int16.ofInt n).toInt32 = v) (k : PW g l M d kc ks (pc + 3) lo (.int v :: st) h Q) : PW g l M d kc ks pc lo (st) h Q := fun p e R s m args below meth c H locs cells slots ls C hr hl hR hS hz => lv_sipush C.1 C.2.1 hdg hv (k p e R s m args below meth c H locs cells slots ls C hr hl hR hS hz)
theorem pw_lconst {n : Fin 2} {v : Int64} (hdg : decode M.1 pc = .ok (.lconst n, 1)) (hv : Int64.ofNat (n : Nat) = v) (k : PW g l M d kc ks (pc + 1) lo (.long v :: st) h Q) : PW g l M d kc ks pc lo (st) h Q := fun p e R s m args below meth c H locs cells slots ls C hr hl hR hS hz => lv_lconst C.1 C.2.1 hdg hv (k p e R s m args below meth c H locs cells slots ls C hr hl hR hS hz)
theorem pw_ldc {i : Nat} {v : Int32} (hdg : decode M.1 pc = .ok (.ldc i, 2)) (hw : Cond.constant M.2.1 i v ∈ M.2.2.2.1) (k : PW g l M d kc ks (pc + 2) lo (.int v :: st) h Q) : PW g l M d kc ks pc lo (st) h Q := fun p e R s m args below meth c H locs cells slots ls C hr hl hR hS hz => lv_ldc C.1 C.2.1 C.2.2.2.1 (C.2.2.2.2.1 _ hw) hdg (k p e R s m args below meth c H locs cells slots ls C hr hl hR hS hz)
theorem pw_ldc2 {i : Nat} {v : Int64} (hdg : decode M.1 pc = .ok (.ldc2_w i, 3)) (hw : Cond.constantLong M.2.1 i v ∈ M.2.2.2.1) (k : PW g l M d kc ks (pc + 3) lo (.long v :: st) h Q) : PW g l M d kc ks pc lo (st) h Q := fun p e R s m args below meth c H locs cells slots ls C hr hl hR hS hz => lv_ldc2 C.1 C.2.1 C.2.2.2.1 (C.2.2.2.2.1 _ hw) hdg (k p e R s m args below meth c H locs cells slots ls C hr hl hR hS hz)
theorem pw_iload_n {k4 : Fin 4} {x : Int32} (hdg : decode M.1 pc = .ok (.iload_n k4, 1)) (hx : lo[(k4 : Nat)]? = some (some (.int x))) (k : PW g l M d kc ks (pc + 1) lo (.int x :: st) h Q) : PW g l M d kc ks pc lo (st) h Q := fun p e R s m args below meth c H locs cells slots ls C hr hl hR hS hz => lv_iload_n C.1 C.2.1 hdg rfl (hl.2.2 _ _ hx) (k p e R s m args below meth c H locs cells slots ls C hr hl hR hS hz)
theorem pw_iload {i : Nat} {x : Int32} (hdg : decode M.1 pc = .ok (.iload i, 2)) (hx : lo[i]? = some (some (.int x))) (k : PW g l M d kc ks (pc + 2) lo (.int x :: st) h Q) : PW g l M d kc ks pc lo (st) h Q := fun p e R s m args below meth c H locs cells slots ls C hr hl hR hS hz => lv_iload C.1 C.2.1 hdg (hl.2.2 _ _ hx) (k p e R s m args below meth c H locs cells slots ls C hr hl hR hS hz)
theorem pw_lload_n {k4 : Fin 4} {x : Int64} (hdg : decode M.1 pc = .ok (.lload_n k4, 1)) (hx : lo[(k4 : Nat)]? = some (some (.long x))) (k : PW g l M d kc ks (pc + 1) lo (.long x :: st) h Q) : PW g l M d kc ks pc lo (st) h Q := fun p e R s m args below meth c H locs cells slots ls C hr hl hR hS hz => lv_lload_n C.1 C.2.1 hdg rfl (hl.2.2 _ _ hx) (k p e R s m args below meth c H locs cells slots ls C hr hl hR hS hz)
theorem pw_lload {i : Nat} {x : Int64} (hdg : decode M.1 pc = .ok (.lload i, 2)) (hx : lo[i]? = some (some (.long x))) (k : PW g l M d kc ks (pc + 2) lo (.long x :: st) h Q) : PW g l M d kc ks pc lo (st) h Q := fun p e R s m args below meth c H locs cells slots ls C hr hl hR hS hz => lv_lload C.1 C.2.1 hdg (hl.2.2 _ _ hx) (k p e R s m args below meth c H locs cells slots ls C hr hl hR hS hz)
theorem pw_aload_n {k4 : Fin 4} {x : Nat} (hdg : decode M.1 pc = .ok (.aload_n k4, 1)) (hx : lo[(k4 : Nat)]? = some (some (.ref x))) (k : PW g l M d kc ks (pc + 1) lo (.ref x :: st) h Q) : PW g l M d kc ks pc lo (st) h Q := fun p e R s m args below meth c H locs cells slots ls C hr hl hR hS hz => lv_aload_n C.1 C.2.1 hdg rfl (hl.2.2 _ _ hx) (k p e R s m args below meth c H locs cells slots ls C hr hl hR hS hz)
theorem pw_aload {i : Nat} {x : Nat} (hdg : decode M.1 pc = .ok (.aload i, 2)) (hx : lo[i]? = some (some (.ref x))) (k : PW g l M d kc ks (pc + 2) lo (.ref x :: st) h Q) : PW g l M d kc ks pc lo (st) h Q := fun p e R s m args below meth c H locs cells slots ls C hr hl hR hS hz => lv_aload C.1 C.2.1 hdg (hl.2.2 _ _ hx) (k p e R s m args below meth c H locs cells slots ls C hr hl hR hS hz)
theorem pw_tload_n {k4 : Fin 4} {x : UInt32} (hdg : decode M.1 pc = .ok (.aload_n k4, 1)) (hx : lo[(k4 : Nat)]? = some (some (.float x))) (k : PW g l M d kc ks (pc + 1) lo (.float x :: st) h Q) : PW g l M d kc ks pc lo (st) h Q := fun p e R s m args below meth c H locs cells slots ls C hr hl hR hS hz => lv_aload_n C.1 C.2.1 hdg rfl (hl.2.2 _ _ hx) (k p e R s m args below meth c H locs cells slots ls C hr hl hR hS hz)
theorem pw_tload {i : Nat} {x : UInt32} (hdg : decode M.1 pc = .ok (.aload i, 2)) (hx : lo[i]? = some (some (.float x))) (k : PW g l M d kc ks (pc + 2) lo (.float x :: st) h Q) : PW g l M d kc ks pc lo (st) h Q := fun p e R s m args below meth c H locs cells slots ls C hr hl hR hS hz => lv_aload C.1 C.2.1 hdg (hl.2.2 _ _ hx) (k p e R s m args below meth c H locs cells slots ls C hr hl hR hS hz)
theorem pw_istore_n {k4 : Fin 4} {x : Int32} {lo' : List (Option Value)} (hdg : decode M.1 pc = .ok (.istore_n k4, 1)) (hn : (k4 : Nat) < M.2.2.2.2.1) (hlo : lset lo k4 (.int x) = lo') (k : PW g l M d kc ks (pc + 1) lo' st h Q) : PW g l M d kc ks pc lo (.int x :: st) h Q := fun p e R s m args below meth c H locs cells slots ls C hr hl hR hS hz => lv_istore_n C.1 C.2.1 hdg rfl (lvL_has hl) hn rfl (fun ls' hl' => k p e R s m args below meth c H locs cells slots ls' C hr (hlo ▸ lvR_store1 hl hl') hR hS hz)
theorem pw_istore {i : Nat} {x : Int32} {lo' : List (Option Value)} (hdg : decode M.1 pc = .ok (.istore i, 2)) (hn : i < M.2.2.2.2.1) (hlo : lset lo i (.int x) = lo') (k : PW g l M d kc ks (pc + 2) lo' st h Q) : PW g l M d kc ks pc lo (.int x :: st) h Q := fun p e R s m args below meth c H locs cells slots ls C hr hl hR hS hz => lv_istore C.1 C.2.1 hdg (lvL_has hl) hn rfl (fun ls' hl' => k p e R s m args below meth c H locs cells slots ls' C hr (hlo ▸ lvR_store1 hl hl') hR hS hz)
theorem pw_lstore_n {k4 : Fin 4} {x : Int64} {lo' : List (Option Value)} (hdg : decode M.1 pc = .ok (.lstore_n k4, 1)) (hn : (k4 : Nat) + 1 < M.2.2.2.2.1) (hlo : lset2 lo k4 (.long x) = lo') (k : PW g l M d kc ks (pc + 1) lo' st h Q) : PW g l M d kc ks pc lo (.long x :: st) h Q := fun p e R s m args below meth c H locs cells slots ls C hr hl hR hS hz => lv_lstore_n C.1 C.2.1 hdg rfl (lvL_has hl) hn rfl (fun ls' hl' => k p e R s m args below meth c H locs cells slots ls' C hr (hlo ▸ lvR_store2 hl hl') hR hS hz)
theorem pw_lstore {i : Nat} {x : Int64} {lo' : List (Option Value)} (hdg : decode M.1 pc = .ok (.lstore i, 2)) (hn : i + 1 < M.2.2.2.2.1) (hlo : lset2 lo i (.long x) = lo') (k : PW g l M d kc ks (pc + 2) lo' st h Q) : PW g l M d kc ks pc lo (.long x :: st) h Q := fun p e R s m args below meth c H locs cells slots ls C hr hl hR hS hz => lv_lstore C.1 C.2.1 hdg (lvL_has hl) hn rfl (fun ls' hl' => k p e R s m args below meth c H locs cells slots ls' C hr (hlo ▸ lvR_store2 hl hl') hR hS hz)
theorem pw_astore_n {k4 : Fin 4} {x : Nat} {lo' : List (Option Value)} (hdg : decode M.1 pc = .ok (.astore_n k4, 1)) (hn : (k4 : Nat) < M.2.2.2.2.1) (hlo : lset lo k4 (.ref x) = lo') (k : PW g l M d kc ks (pc + 1) lo' st h Q) : PW g l M d kc ks pc lo (.ref x :: st) h Q := fun p e R s m args below meth c H locs cells slots ls C hr hl hR hS hz => lv_astore_n C.1 C.2.1 hdg rfl (lvL_has hl) hn rfl (fun ls' hl' => k p e R s m args below meth c H locs cells slots ls' C hr (hlo ▸ lvR_store1 hl hl') hR hS hz)
theorem pw_astore {i : Nat} {x : Nat} {lo' : List (Option Value)} (hdg : decode M.1 pc = .ok (.astore i, 2)) (hn : i < M.2.2.2.2.1) (hlo : lset lo i (.ref x) = lo') (k : PW g l M d kc ks (pc + 2) lo' st h Q) : PW g l M d kc ks pc lo (.ref x :: st) h Q := fun p e R s m args below meth c H locs cells slots ls C hr hl hR hS hz => lv_astore C.1 C.2.1 hdg (lvL_has hl) hn rfl (fun ls' hl' => k p e R s m args below meth c H locs cells slots ls' C hr (hlo ▸ lvR_store1 hl hl') hR hS hz)
theorem pw_iinc {i : Nat} {n : Int} {x v : Int32} {lo' : List (Option Value)} (hdg : decode M.1 pc = .ok (.iinc i n, 3)) (hx : lo[i]? = some (some (.int x))) (hv : x + Int32.ofInt n = v) (hn : i < M.2.2.2.2.1) (hlo : lset lo i (.int v) = lo') (k : PW g l M d kc ks (pc + 3) lo' st h Q) : PW g l M d kc ks pc lo st h Q := fun p e R s m args below meth c H locs cells slots ls C hr hl hR hS hz => by
  obtain ⟨k9, hk9⟩ := List.mem_iff_getElem?.mp (lvL_mem (g := g) hx)
  exact lv_iinc C.1 C.2.1 hdg (lvL_has hl) hk9 hv hn rfl (fun ls' hl' => k p e R s m args below meth c H locs cells slots ls' C hr (hlo ▸ lvR_store1 hl hl') hR hS hz)
theorem pw_iadd {x y : Int32} (hdg : decode M.1 pc = .ok (.iadd, 1))  (k : PW g l M d kc ks (pc + 1) lo (.int (x + y) :: st) h Q) : PW g l M d kc ks pc lo (.int y :: .int x :: st) h Q := fun p e R s m args below meth c H locs cells slots ls C hr hl hR hS hz => lv_iadd C.1 C.2.1 hdg (k p e R s m args below meth c H locs cells slots ls C hr hl hR hS hz)
theorem pw_isub {x y : Int32} (hdg : decode M.1 pc = .ok (.isub, 1))  (k : PW g l M d kc ks (pc + 1) lo (.int (x - y) :: st) h Q) : PW g l M d kc ks pc lo (.int y :: .int x :: st) h Q := fun p e R s m args below meth c H locs cells slots ls C hr hl hR hS hz => lv_isub C.1 C.2.1 hdg (k p e R s m args below meth c H locs cells slots ls C hr hl hR hS hz)
theorem pw_imul {x y : Int32} (hdg : decode M.1 pc = .ok (.imul, 1))  (k : PW g l M d kc ks (pc + 1) lo (.int (x * y) :: st) h Q) : PW g l M d kc ks pc lo (.int y :: .int x :: st) h Q := fun p e R s m args below meth c H locs cells slots ls C hr hl hR hS hz => lv_imul C.1 C.2.1 hdg (k p e R s m args below meth c H locs cells slots ls C hr hl hR hS hz)
theorem pw_iand {x y : Int32} (hdg : decode M.1 pc = .ok (.iand, 1))  (k : PW g l M d kc ks (pc + 1) lo (.int (x &&& y) :: st) h Q) : PW g l M d kc ks pc lo (.int y :: .int x :: st) h Q := fun p e R s m args below meth c H locs cells slots ls C hr hl hR hS hz => lv_iand C.1 C.2.1 hdg (k p e R s m args below meth c H locs cells slots ls C hr hl hR hS hz)
theorem pw_ior {x y : Int32} (hdg : decode M.1 pc = .ok (.ior, 1))  (k : PW g l M d kc ks (pc + 1) lo (.int (x ||| y) :: st) h Q) : PW g l M d kc ks pc lo (.int y :: .int x :: st) h Q := fun p e R s m args below meth c H locs cells slots ls C hr hl hR hS hz => lv_ior C.1 C.2.1 hdg (k p e R s m args below meth c H locs cells slots ls C hr hl hR hS hz)
theorem pw_ixor {x y : Int32} (hdg : decode M.1 pc = .ok (.ixor, 1))  (k : PW g l M d kc ks (pc + 1) lo (.int (x ^^^ y) :: st) h Q) : PW g l M d kc ks pc lo (.int y :: .int x :: st) h Q := fun p e R s m args below meth c H locs cells slots ls C hr hl hR hS hz => lv_ixor C.1 C.2.1 hdg (k p e R s m args below meth c H locs cells slots ls C hr hl hR hS hz)
theorem pw_ishl {x y : Int32} (hdg : decode M.1 pc = .ok (.ishl, 1))  (k : PW g l M d kc ks (pc + 1) lo (.int (x <<< (y &&& 31)) :: st) h Q) : PW g l M d kc ks pc lo (.int y :: .int x :: st) h Q := fun p e R s m args below meth c H locs cells slots ls C hr hl hR hS hz => lv_ishl C.1 C.2.1 hdg (k p e R s m args below meth c H locs cells slots ls C hr hl hR hS hz)
theorem pw_ishr {x y : Int32} (hdg : decode M.1 pc = .ok (.ishr, 1))  (k : PW g l M d kc ks (pc + 1) lo (.int (x >>> (y &&& 31)) :: st) h Q) : PW g l M d kc ks pc lo (.int y :: .int x :: st) h Q := fun p e R s m args below meth c H locs cells slots ls C hr hl hR hS hz => lv_ishr C.1 C.2.1 hdg (k p e R s m args below meth c H locs cells slots ls C hr hl hR hS hz)
theorem pw_idiv {x y : Int32} (hdg : decode M.1 pc = .ok (.idiv, 1)) (hne : ¬ y = 0) (k : PW g l M d kc ks (pc + 1) lo (.int (x / y) :: st) h Q) : PW g l M d kc ks pc lo (.int y :: .int x :: st) h Q := fun p e R s m args below meth c H locs cells slots ls C hr hl hR hS hz => lv_idiv C.1 C.2.1 hdg hne (k p e R s m args below meth c H locs cells slots ls C hr hl hR hS hz)
theorem pw_irem {x y : Int32} (hdg : decode M.1 pc = .ok (.irem, 1)) (hne : ¬ y = 0) (k : PW g l M d kc ks (pc + 1) lo (.int (x - x / y * y) :: st) h Q) : PW g l M d kc ks pc lo (.int y :: .int x :: st) h Q := fun p e R s m args below meth c H locs cells slots ls C hr hl hR hS hz => lv_irem C.1 C.2.1 hdg hne (k p e R s m args below meth c H locs cells slots ls C hr hl hR hS hz)
theorem pw_ladd {x y : Int64} (hdg : decode M.1 pc = .ok (.ladd, 1))  (k : PW g l M d kc ks (pc + 1) lo (.long (x + y) :: st) h Q) : PW g l M d kc ks pc lo (.long y :: .long x :: st) h Q := fun p e R s m args below meth c H locs cells slots ls C hr hl hR hS hz => lv_ladd C.1 C.2.1 hdg (k p e R s m args below meth c H locs cells slots ls C hr hl hR hS hz)
theorem pw_lsub {x y : Int64} (hdg : decode M.1 pc = .ok (.lsub, 1))  (k : PW g l M d kc ks (pc + 1) lo (.long (x - y) :: st) h Q) : PW g l M d kc ks pc lo (.long y :: .long x :: st) h Q := fun p e R s m args below meth c H locs cells slots ls C hr hl hR hS hz => lv_lsub C.1 C.2.1 hdg (k p e R s m args below meth c H locs cells slots ls C hr hl hR hS hz)
theorem pw_lmul {x y : Int64} (hdg : decode M.1 pc = .ok (.lmul, 1))  (k : PW g l M d kc ks (pc + 1) lo (.long (x * y) :: st) h Q) : PW g l M d kc ks pc lo (.long y :: .long x :: st) h Q := fun p e R s m args below meth c H locs cells slots ls C hr hl hR hS hz => lv_lmul C.1 C.2.1 hdg (k p e R s m args below meth c H locs cells slots ls C hr hl hR hS hz)
theorem pw_ldiv {x y : Int64} (hdg : decode M.1 pc = .ok (.ldiv, 1)) (hne : ¬ y = 0) (k : PW g l M d kc ks (pc + 1) lo (.long (x / y) :: st) h Q) : PW g l M d kc ks pc lo (.long y :: .long x :: st) h Q := fun p e R s m args below meth c H locs cells slots ls C hr hl hR hS hz => lv_ldiv C.1 C.2.1 hdg hne (k p e R s m args below meth c H locs cells slots ls C hr hl hR hS hz)
theorem pw_lrem {x y : Int64} (hdg : decode M.1 pc = .ok (.lrem, 1)) (hne : ¬ y = 0) (k : PW g l M d kc ks (pc + 1) lo (.long (x - x / y * y) :: st) h Q) : PW g l M d kc ks pc lo (.long y :: .long x :: st) h Q := fun p e R s m args below meth c H locs cells slots ls C hr hl hR hS hz => lv_lrem C.1 C.2.1 hdg hne (k p e R s m args below meth c H locs cells slots ls C hr hl hR hS hz)
theorem pw_ineg {x : Int32} (hdg : decode M.1 pc = .ok (.ineg, 1))  (k : PW g l M d kc ks (pc + 1) lo (.int (-x) :: st) h Q) : PW g l M d kc ks pc lo (.int x :: st) h Q := fun p e R s m args below meth c H locs cells slots ls C hr hl hR hS hz => lv_ineg C.1 C.2.1 hdg (k p e R s m args below meth c H locs cells slots ls C hr hl hR hS hz)
theorem pw_lcmp {x y : Int64} (hdg : decode M.1 pc = .ok (.lcmp, 1))  (k : PW g l M d kc ks (pc + 1) lo (.int (lg_cmp x y) :: st) h Q) : PW g l M d kc ks pc lo (.long y :: .long x :: st) h Q := fun p e R s m args below meth c H locs cells slots ls C hr hl hR hS hz => W.lcmp C.1 C.2.1 hdg (k p e R s m args below meth c H locs cells slots ls C hr hl hR hS hz)
theorem pw_iushr {x y : Int32} (hdg : decode M.1 pc = .ok (.iushr, 1))  (k : PW g l M d kc ks (pc + 1) lo (.int (ushr x y) :: st) h Q) : PW g l M d kc ks pc lo (.int y :: .int x :: st) h Q := fun p e R s m args below meth c H locs cells slots ls C hr hl hR hS hz => lv_iushr C.1 C.2.1 hdg rfl (k p e R s m args below meth c H locs cells slots ls C hr hl hR hS hz)
theorem pw_i2l {x : Int32} (hdg : decode M.1 pc = .ok (.i2l, 1))  (k : PW g l M d kc ks (pc + 1) lo (.long x.toInt64 :: st) h Q) : PW g l M d kc ks pc lo (.int x :: st) h Q := fun p e R s m args below meth c H locs cells slots ls C hr hl hR hS hz => lv_i2l C.1 C.2.1 hdg rfl (k p e R s m args below meth c H locs cells slots ls C hr hl hR hS hz)
theorem pw_l2i {x : Int64} (hdg : decode M.1 pc = .ok (.l2i, 1))  (k : PW g l M d kc ks (pc + 1) lo (.int x.toInt32 :: st) h Q) : PW g l M d kc ks pc lo (.long x :: st) h Q := fun p e R s m args below meth c H locs cells slots ls C hr hl hR hS hz => lv_l2i C.1 C.2.1 hdg rfl (k p e R s m args below meth c H locs cells slots ls C hr hl hR hS hz)
theorem pw_i2b {x : Int32} (hdg : decode M.1 pc = .ok (.i2b, 1))  (k : PW g l M d kc ks (pc + 1) lo (.int x.toInt8.toInt32 :: st) h Q) : PW g l M d kc ks pc lo (.int x :: st) h Q := fun p e R s m args below meth c H locs cells slots ls C hr hl hR hS hz => lv_i2b C.1 C.2.1 hdg rfl (k p e R s m args below meth c H locs cells slots ls C hr hl hR hS hz)
theorem pw_dup {v : Value} (hdg : decode M.1 pc = .ok (.dup, 1)) (hc : v.category = 1) (k : PW g l M d kc ks (pc + 1) lo (v :: v :: st) h Q) : PW g l M d kc ks pc lo (v :: st) h Q := fun p e R s m args below meth c H locs cells slots ls C hr hl hR hS hz => lv_dup C.1 C.2.1 hdg (by rw [trV_cat]; exact hc) (k p e R s m args below meth c H locs cells slots ls C hr hl hR hS hz)
theorem pw_dup2 {v u : Value} (hdg : decode M.1 pc = .ok (.dup2, 1)) (hc : v.category = 1 ∧ u.category = 1) (k : PW g l M d kc ks (pc + 1) lo (v :: u :: v :: u :: st) h Q) : PW g l M d kc ks pc lo (v :: u :: st) h Q := fun p e R s m args below meth c H locs cells slots ls C hr hl hR hS hz => lv_dup2_11 C.1 C.2.1 hdg (by rw [trV_cat]; exact hc.1) (by rw [trV_cat]; exact hc.2) (k p e R s m args below meth c H locs cells slots ls C hr hl hR hS hz)
theorem pw_pop {v : Value} (hdg : decode M.1 pc = .ok (.pop, 1)) (hc : v.category = 1) (k : PW g l M d kc ks (pc + 1) lo (st) h Q) : PW g l M d kc ks pc lo (v :: st) h Q := fun p e R s m args below meth c H locs cells slots ls C hr hl hR hS hz => lv_pop C.1 C.2.1 hdg (by rw [trV_cat]; exact hc) (k p e R s m args below meth c H locs cells slots ls C hr hl hR hS hz)
theorem pw_if_eq {x : Int32} {off : Int} {tgt : Nat} (hdg : decode M.1 pc = .ok (.ifCond .eq off, 3)) (ht : (pc : Int) + off = (tgt : Int)) (kt : x = 0 → PW g l M d kc ks tgt lo st h Q) (kf : ¬ x = 0 → PW g l M d kc ks (pc + 3) lo st h Q) : PW g l M d kc ks pc lo (.int x :: st) h Q := fun p e R s m args below meth c H locs cells slots ls C hr hl hR hS hz => lv_if_eq C.1 C.2.1 hdg ht (fun q => kt q p e R s m args below meth c H locs cells slots ls C hr hl hR hS hz) (fun q => kf q p e R s m args below meth c H locs cells slots ls C hr hl hR hS hz)
theorem pw_icmp_eq {x y : Int32} {off : Int} {tgt : Nat} (hdg : decode M.1 pc = .ok (.if_icmp .eq off, 3)) (ht : (pc : Int) + off = (tgt : Int)) (kt : x = y → PW g l M d kc ks tgt lo st h Q) (kf : ¬ x = y → PW g l M d kc ks (pc + 3) lo st h Q) : PW g l M d kc ks pc lo (.int y :: .int x :: st) h Q := fun p e R s m args below meth c H locs cells slots ls C hr hl hR hS hz => lv_icmp_eq C.1 C.2.1 hdg ht (fun q => kt q p e R s m args below meth c H locs cells slots ls C hr hl hR hS hz) (fun q => kf q p e R s m args below meth c H locs cells slots ls C hr hl hR hS hz)
theorem pw_if_ne {x : Int32} {off : Int} {tgt : Nat} (hdg : decode M.1 pc = .ok (.ifCond .ne off, 3)) (ht : (pc : Int) + off = (tgt : Int)) (kt : ¬ x = 0 → PW g l M d kc ks tgt lo st h Q) (kf : x = 0 → PW g l M d kc ks (pc + 3) lo st h Q) : PW g l M d kc ks pc lo (.int x :: st) h Q := fun p e R s m args below meth c H locs cells slots ls C hr hl hR hS hz => lv_if_ne C.1 C.2.1 hdg ht (fun q => kt q p e R s m args below meth c H locs cells slots ls C hr hl hR hS hz) (fun q => kf q p e R s m args below meth c H locs cells slots ls C hr hl hR hS hz)
theorem pw_icmp_ne {x y : Int32} {off : Int} {tgt : Nat} (hdg : decode M.1 pc = .ok (.if_icmp .ne off, 3)) (ht : (pc : Int) + off = (tgt : Int)) (kt : ¬ x = y → PW g l M d kc ks tgt lo st h Q) (kf : x = y → PW g l M d kc ks (pc + 3) lo st h Q) : PW g l M d kc ks pc lo (.int y :: .int x :: st) h Q := fun p e R s m args below meth c H locs cells slots ls C hr hl hR hS hz => lv_icmp_ne C.1 C.2.1 hdg ht (fun q => kt q p e R s m args below meth c H locs cells slots ls C hr hl hR hS hz) (fun q => kf q p e R s m args below meth c H locs cells slots ls C hr hl hR hS hz)
theorem pw_if_lt {x : Int32} {off : Int} {tgt : Nat} (hdg : decode M.1 pc = .ok (.ifCond .lt off, 3)) (ht : (pc : Int) + off = (tgt : Int)) (kt : x < 0 → PW g l M d kc ks tgt lo st h Q) (kf : ¬ x < 0 → PW g l M d kc ks (pc + 3) lo st h Q) : PW g l M d kc ks pc lo (.int x :: st) h Q := fun p e R s m args below meth c H locs cells slots ls C hr hl hR hS hz => lv_if_lt C.1 C.2.1 hdg ht (fun q => kt q p e R s m args below meth c H locs cells slots ls C hr hl hR hS hz) (fun q => kf q p e R s m args below meth c H locs cells slots ls C hr hl hR hS hz)
theorem pw_icmp_lt {x y : Int32} {off : Int} {tgt : Nat} (hdg : decode M.1 pc = .ok (.if_icmp .lt off, 3)) (ht : (pc : Int) + off = (tgt : Int)) (kt : x < y → PW g l M d kc ks tgt lo st h Q) (kf : ¬ x < y → PW g l M d kc ks (pc + 3) lo st h Q) : PW g l M d kc ks pc lo (.int y :: .int x :: st) h Q := fun p e R s m args below meth c H locs cells slots ls C hr hl hR hS hz => lv_icmp_lt C.1 C.2.1 hdg ht (fun q => kt q p e R s m args below meth c H locs cells slots ls C hr hl hR hS hz) (fun q => kf q p e R s m args below meth c H locs cells slots ls C hr hl hR hS hz)
theorem pw_if_ge {x : Int32} {off : Int} {tgt : Nat} (hdg : decode M.1 pc = .ok (.ifCond .ge off, 3)) (ht : (pc : Int) + off = (tgt : Int)) (kt : 0 ≤ x → PW g l M d kc ks tgt lo st h Q) (kf : ¬ 0 ≤ x → PW g l M d kc ks (pc + 3) lo st h Q) : PW g l M d kc ks pc lo (.int x :: st) h Q := fun p e R s m args below meth c H locs cells slots ls C hr hl hR hS hz => lv_if_ge C.1 C.2.1 hdg ht (fun q => kt q p e R s m args below meth c H locs cells slots ls C hr hl hR hS hz) (fun q => kf q p e R s m args below meth c H locs cells slots ls C hr hl hR hS hz)
theorem pw_icmp_ge {x y : Int32} {off : Int} {tgt : Nat} (hdg : decode M.1 pc = .ok (.if_icmp .ge off, 3)) (ht : (pc : Int) + off = (tgt : Int)) (kt : y ≤ x → PW g l M d kc ks tgt lo st h Q) (kf : ¬ y ≤ x → PW g l M d kc ks (pc + 3) lo st h Q) : PW g l M d kc ks pc lo (.int y :: .int x :: st) h Q := fun p e R s m args below meth c H locs cells slots ls C hr hl hR hS hz => lv_icmp_ge C.1 C.2.1 hdg ht (fun q => kt q p e R s m args below meth c H locs cells slots ls C hr hl hR hS hz) (fun q => kf q p e R s m args below meth c H locs cells slots ls C hr hl hR hS hz)
theorem pw_if_gt {x : Int32} {off : Int} {tgt : Nat} (hdg : decode M.1 pc = .ok (.ifCond .gt off, 3)) (ht : (pc : Int) + off = (tgt : Int)) (kt : 0 < x → PW g l M d kc ks tgt lo st h Q) (kf : ¬ 0 < x → PW g l M d kc ks (pc + 3) lo st h Q) : PW g l M d kc ks pc lo (.int x :: st) h Q := fun p e R s m args below meth c H locs cells slots ls C hr hl hR hS hz => lv_if_gt C.1 C.2.1 hdg ht (fun q => kt q p e R s m args below meth c H locs cells slots ls C hr hl hR hS hz) (fun q => kf q p e R s m args below meth c H locs cells slots ls C hr hl hR hS hz)
theorem pw_icmp_gt {x y : Int32} {off : Int} {tgt : Nat} (hdg : decode M.1 pc = .ok (.if_icmp .gt off, 3)) (ht : (pc : Int) + off = (tgt : Int)) (kt : y < x → PW g l M d kc ks tgt lo st h Q) (kf : ¬ y < x → PW g l M d kc ks (pc + 3) lo st h Q) : PW g l M d kc ks pc lo (.int y :: .int x :: st) h Q := fun p e R s m args below meth c H locs cells slots ls C hr hl hR hS hz => lv_icmp_gt C.1 C.2.1 hdg ht (fun q => kt q p e R s m args below meth c H locs cells slots ls C hr hl hR hS hz) (fun q => kf q p e R s m args below meth c H locs cells slots ls C hr hl hR hS hz)
theorem pw_if_le {x : Int32} {off : Int} {tgt : Nat} (hdg : decode M.1 pc = .ok (.ifCond .le off, 3)) (ht : (pc : Int) + off = (tgt : Int)) (kt : x ≤ 0 → PW g l M d kc ks tgt lo st h Q) (kf : ¬ x ≤ 0 → PW g l M d kc ks (pc + 3) lo st h Q) : PW g l M d kc ks pc lo (.int x :: st) h Q := fun p e R s m args below meth c H locs cells slots ls C hr hl hR hS hz => lv_if_le C.1 C.2.1 hdg ht (fun q => kt q p e R s m args below meth c H locs cells slots ls C hr hl hR hS hz) (fun q => kf q p e R s m args below meth c H locs cells slots ls C hr hl hR hS hz)
theorem pw_icmp_le {x y : Int32} {off : Int} {tgt : Nat} (hdg : decode M.1 pc = .ok (.if_icmp .le off, 3)) (ht : (pc : Int) + off = (tgt : Int)) (kt : x ≤ y → PW g l M d kc ks tgt lo st h Q) (kf : ¬ x ≤ y → PW g l M d kc ks (pc + 3) lo st h Q) : PW g l M d kc ks pc lo (.int y :: .int x :: st) h Q := fun p e R s m args below meth c H locs cells slots ls C hr hl hR hS hz => lv_icmp_le C.1 C.2.1 hdg ht (fun q => kt q p e R s m args below meth c H locs cells slots ls C hr hl hR hS hz) (fun q => kf q p e R s m args below meth c H locs cells slots ls C hr hl hR hS hz)
theorem pw_goto {off : Int} {tgt : Nat} (hdg : decode M.1 pc = .ok (.goto off, 3)) (ht : (pc : Int) + off = (tgt : Int)) (k : PW g l M d kc ks tgt lo st h Q) : PW g l M d kc ks pc lo st h Q := fun p e R s m args below meth c H locs cells slots ls C hr hl hR hS hz => lv_goto C.1 C.2.1 hdg ht (k p e R s m args below meth c H locs cells slots ls C hr hl hR hS hz)
theorem pw_tableOut {df a b : Int} {offs : Array Int} {len : Nat} {x : Int32} {tgt : Nat} (hdg : decode M.1 pc = .ok (.tableswitch df a b offs, len)) (hx : x.toInt < a ∨ b < x.toInt) (ht : (pc : Int) + df = (tgt : Int)) (k : PW g l M d kc ks tgt lo st h Q) : PW g l M d kc ks pc lo (.int x :: st) h Q := fun p e R s m args below meth c H locs cells slots ls C hr hl hR hS hz => lv_tableOut C.1 C.2.1 hdg hx ht (k p e R s m args below meth c H locs cells slots ls C hr hl hR hS hz)
theorem pw_tableIn {df a b : Int} {offs : Array Int} {len : Nat} {x : Int32} {off : Int} {tgt : Nat} (hdg : decode M.1 pc = .ok (.tableswitch df a b offs, len)) (h1 : ¬ x.toInt < a) (h2 : ¬ b < x.toInt) (ho : offs[(x.toInt - a).toNat]? = some off) (ht : (pc : Int) + off = (tgt : Int)) (k : PW g l M d kc ks tgt lo st h Q) : PW g l M d kc ks pc lo (.int x :: st) h Q := fun p e R s m args below meth c H locs cells slots ls C hr hl hR hS hz => lv_tableIn C.1 C.2.1 hdg h1 h2 ho ht (k p e R s m args below meth c H locs cells slots ls C hr hl hR hS hz)
theorem pw_ifnonnull {x : Nat} {off : Int} {tgt : Nat} (hdg : decode M.1 pc = .ok (.ifnonnull off, 3)) (ht : (pc : Int) + off = (tgt : Int)) (k : PW g l M d kc ks tgt lo st h Q) : PW g l M d kc ks pc lo (.ref x :: st) h Q := fun p e R s m args below meth c H locs cells slots ls C hr hl hR hS hz => lv_ifnonnull C.1 C.2.1 hdg ht (k p e R s m args below meth c H locs cells slots ls C hr hl hR hS hz)
theorem pw_ifnonnullN {off : Int} (hdg : decode M.1 pc = .ok (.ifnonnull off, 3)) (k : PW g l M d kc ks (pc + 3) lo st h Q) : PW g l M d kc ks pc lo (.null :: st) h Q := fun p e R s m args below meth c H locs cells slots ls C hr hl hR hS hz => lv_ifnonnullN C.1 C.2.1 hdg (k p e R s m args below meth c H locs cells slots ls C hr hl hR hS hz)
end PWR
end
section
/-! what is read and written in the heap -/
def gI (h : Hp) (a ci k : Nat) : Option Int32 := match h.2 a with
  | some (.inr (c, fs)) => if c = ci then (match fs[k]? with
    | some (.int x) => some x
    | _ => none) else none
  | _ => none
def gL (h : Hp) (a ci k : Nat) : Option Int64 := match h.2 a with
  | some (.inr (c, fs)) => if c = ci then (match fs[k]? with
    | some (.long x) => some x
    | _ => none) else none
  | _ => none
def gR (h : Hp) (a ci k : Nat) : Option Nat := match h.2 a with
  | some (.inr (c, fs)) => if c = ci then (match fs[k]? with
    | some (.ref x) => some x
    | _ => none) else none
  | _ => none
def pV (h : Hp) (a ci k : Nat) (v : Value) : Option Hp := match h.2 a with
  | some (.inr (c, fs)) => if c = ci ∧ k < fs.length then some (hset h a (.inr (ci, fs.set k v))) else none
  | _ => none
def aI (h : Hp) (kd a : Nat) (i : Int32) : Option Int32 := match h.2 a with
  | some (.inl (k, n, .inl f)) => if k = kd ∧ ¬ (i < 0 ∨ n ≤ i.toNatClampNeg) then some (f i.toNatClampNeg) else none
  | _ => none
def aL (h : Hp) (a : Nat) (i : Int32) : Option Int64 := match h.2 a with
  | some (.inl (k, n, .inr (.inl f))) => if k = 2 ∧ ¬ (i < 0 ∨ n ≤ i.toNatClampNeg) then some (f i.toNatClampNeg) else none
  | _ => none
def aQ (h : Hp) (kd a : Nat) (i : Int32) : Option (Option Nat) := match h.2 a with
  | some (.inl (k, n, .inr (.inr (.inr (.inr f))))) => if k = kd ∧ ¬ (i < 0 ∨ n ≤ i.toNatClampNeg) then some (f i.toNatClampNeg) else none
  | _ => none
def aN (h : Hp) (a : Nat) : Option Int32 := match h.2 a with
  | some (.inl (k, n, _)) => if k < 6 then some (Int32.ofNat n) else none
  | _ => none
def sI (h : Hp) (kd a : Nat) (i x : Int32) : Option Hp := match h.2 a with
  | some (.inl (k, n, .inl f)) => if k = kd ∧ ¬ (i < 0 ∨ n ≤ i.toNatClampNeg) then some (hset h a (.inl (kd, n, .inl (upd f i.toNatClampNeg x)))) else none
  | _ => none
def sL (h : Hp) (a : Nat) (i : Int32) (x : Int64) : Option Hp := match h.2 a with
  | some (.inl (k, n, .inr (.inl f))) => if k = 2 ∧ ¬ (i < 0 ∨ n ≤ i.toNatClampNeg) then some (hset h a (.inl (2, n, .inr (.inl (vp_updL f i.toNatClampNeg x))))) else none
  | _ => none
theorem gI_spec {h : Hp} {a ci k : Nat} {x : Int32} (q : gI h a ci k = some x) : ∃ fs, h.2 a = some (.inr (ci, fs)) ∧ fs[k]? = some (.int x) := by
  unfold gI at q
  split at q
  · split at q
    · split at q
      · rename_i c fs e1 e2 _ y e3
        cases q; subst e2; exact ⟨_, e1, e3⟩
      · cases q
    · cases q
  · cases q
theorem gL_spec {h : Hp} {a ci k : Nat} {x : Int64} (q : gL h a ci k = some x) : ∃ fs, h.2 a = some (.inr (ci, fs)) ∧ fs[k]? = some (.long x) := by
  unfold gL at q
  split at q
  · split at q
    · split at q
      · rename_i c fs e1 e2 _ y e3
        cases q; subst e2; exact ⟨_, e1, e3⟩
      · cases q
    · cases q
  · cases q
theorem gR_spec {h : Hp} {a ci k : Nat} {x : Nat} (q : gR h a ci k = some x) : ∃ fs, h.2 a = some (.inr (ci, fs)) ∧ fs[k]? = some (.ref x) := by
  unfold gR at q
  split at q
  · split at q
    · split at q
      · rename_i c fs e1 e2 _ y e3
        cases q; subst e2; exact ⟨_, e1, e3⟩
      · cases q
    · cases q
  · cases q
theorem pV_spec {h h' : Hp} {a ci k : Nat} {v : Value} (q : pV h a ci k v = some h') : ∃ fs, h.2 a = some (.inr (ci, fs)) ∧ k < fs.length ∧ h' = hset h a (.inr (ci, fs.set k v)) := by
  unfold pV at q
  split at q
  · split at q
    · rename_i c fs e1 e2
      cases q; obtain ⟨e2, e3⟩ := e2; subst e2; exact ⟨_, e1, e3, rfl⟩
    · cases q
  · cases q
theorem aI_spec {h : Hp} {kd a : Nat} {i x : Int32} (q : aI h kd a i = some x) : ∃ n f, h.2 a = some (.inl (kd, n, .inl f)) ∧ vp_in i n ∧ f i.toNatClampNeg = x := by
  unfold aI at q
  split at q
  · split at q
    · rename_i k n f e1 e2
      cases q; obtain ⟨e2, e3⟩ := e2; subst e2; exact ⟨_, _, e1, e3, rfl⟩
    · cases q
  · cases q
theorem aL_spec {h : Hp} {a : Nat} {i : Int32} {x : Int64} (q : aL h a i = some x) : ∃ n f, h.2 a = some (.inl (2, n, .inr (.inl f))) ∧ vp_in i n ∧ f i.toNatClampNeg = x := by
  unfold aL at q
  split at q
  · split at q
    · rename_i k n f e1 e2
      cases q; obtain ⟨e2, e3⟩ := e2; subst e2; exact ⟨_, _, e1, e3, rfl⟩
    · cases q
  · cases q
theorem aQ_spec {h : Hp} {kd a : Nat} {i : Int32} {x : Option Nat} (q : aQ h kd a i = some x) : ∃ n f, h.2 a = some (.inl (kd, n, .inr (.inr (.inr (.inr f))))) ∧ vp_in i n ∧ f i.toNatClampNeg = x := by
  unfold aQ at q
  split at q
  · split at q
    · rename_i k n f e1 e2
      cases q; obtain ⟨e2, e3⟩ := e2; subst e2; exact ⟨_, _, e1, e3, rfl⟩
    · cases q
  · cases q
theorem aN_spec {h : Hp} {a : Nat} {x : Int32} (q : aN h a = some x) : ∃ k n c, h.2 a = some (.inl (k, n, c)) ∧ k < 6 ∧ Int32.ofNat n = x := by
  unfold aN at q
  split at q
  · split at q
    · rename_i k n c e1 e2
      cases q; exact ⟨_, _, _, e1, e2, rfl⟩
    · cases q
  · cases q
theorem sI_spec {h h' : Hp} {kd a : Nat} {i x : Int32} (q : sI h kd a i x = some h') : ∃ n f, h.2 a = some (.inl (kd, n, .inl f)) ∧ vp_in i n ∧ h' = hset h a (.inl (kd, n, .inl (upd f i.toNatClampNeg x))) := by
  unfold sI at q
  split at q
  · split at q
    · rename_i k n f e1 e2
      cases q; obtain ⟨e2, e3⟩ := e2; subst e2; exact ⟨_, _, e1, e3, rfl⟩
    · cases q
  · cases q
theorem sL_spec {h h' : Hp} {a : Nat} {i : Int32} {x : Int64} (q : sL h a i x = some h') : ∃ n f, h.2 a = some (.inl (2, n, .inr (.inl f))) ∧ vp_in i n ∧ h' = hset h a (.inl (2, n, .inr (.inl (vp_updL f i.toNatClampNeg x)))) := by
  unfold sL at q
  split at q
  · split at q
    · rename_i k n f e1 e2
      cases q; obtain ⟨e2, e3⟩ := e2; subst e2; exact ⟨_, _, e1, e3, rfl⟩
    · cases q
  · cases q
/-- one cell of the heap, as a world -/
theorem REL.one {g : GT} {h : Hp} {H : Heap} {a : Nat} {e : PE} (hR : REL g h H) (ha : h.2 a = some e) : va_P g.2.1 vwCl [(g.1 + a, trE g e)] H := by
  intro k q hk
  have hz : k < 1 := (List.getElem?_eq_some_iff.mp hk).1
  rw [show k = 0 by omega] at hk
  cases hk
  exact hR.2 a e ha
section PWH
variable {g : GT} {l : Launch} {M : MD} {d kc ks pc : Nat} {lo : List (Option Value)} {st : List Value} {h : Hp} {Q : Option Value → Hp → Prop}
theorem pw_getV {a ci k N i : Nat} {C : String} {T : u_T} {fs : List Value} {v : Value} (hc : vwCl[ci]? = some (C, T, N)) (hk : k < N) (hin : ∀ w ∈ u_ws C T N, w ∈ M.2.2.2.1) (hlk : Cond.fieldLink M.2.1 i (T k).1 (T k).2.1 (T k).2.2.1 ∈ M.2.2.2.1) (ha : h.2 a = some (.inr (ci, fs))) (hv : fs[k]? = some v) (hdg : decode M.1 pc = .ok (.getfield i, 3)) (kk : PW g l M d kc ks (pc + 3) lo (v :: st) h Q) : PW g l M d kc ks pc lo (.ref a :: st) h Q := fun p e R s m args below meth c H locs cells slots ls C hr hl hR hS hz =>
  va_get (v := trV g v) C.1 C.2.1 C.2.2.2.2.1 hin C.2.2.2.1 C.2.2.2.2.2.1.1 (hR.one ha) 0 rfl hc k hk (C.2.2.2.2.1 _ hlk) (fun _ h9 => h9) (by rw [List.getElem?_map, hv]; rfl) hdg (kk p e R s m args below meth c H locs cells slots ls C hr hl hR hS hz)
theorem pw_getVN {a ci k N i : Nat} {C host : String} {T : u_T} {fs : List Value} {v : Value} (hc : vwCl[ci]? = some (C, T, N)) (hk : k < N) (hin : ∀ w ∈ u_ws C T N, w ∈ M.2.2.2.1) (hlk : Cond.fieldLinkNest M.2.1 i (T k).1 (T k).2.1 (T k).2.2.1 host ∈ nestW) (ha : h.2 a = some (.inr (ci, fs))) (hv : fs[k]? = some v) (hdg : decode M.1 pc = .ok (.getfield i, 3)) (kk : PW g l M d kc ks (pc + 3) lo (v :: st) h Q) : PW g l M d kc ks pc lo (.ref a :: st) h Q := fun p e R s m args below meth c H locs cells slots ls C hr hl hR hS hz =>
  va_getN (v := trV g v) C.1 C.2.1 C.2.2.2.2.1 hin C.2.2.2.1 C.2.2.2.2.2.1.1 (hR.one ha) 0 rfl hc k hk (va_Nw.use rfl (C.2.2.2.2.2.1.2.2 _ hlk)) (fun _ h9 => h9) (by rw [List.getElem?_map, hv]; rfl) hdg (kk p e R s m args below meth c H locs cells slots ls C hr hl hR hS hz)
theorem pw_gI {a ci k N i : Nat} {C : String} {T : u_T} {x : Int32} (ha : gI h a ci k = some x) (hc : vwCl[ci]? = some (C, T, N)) (hk : k < N) (hin : ∀ w ∈ u_ws C T N, w ∈ M.2.2.2.1) (hlk : Cond.fieldLink M.2.1 i (T k).1 (T k).2.1 (T k).2.2.1 ∈ M.2.2.2.1) (hdg : decode M.1 pc = .ok (.getfield i, 3)) (kk : PW g l M d kc ks (pc + 3) lo (.int x :: st) h Q) : PW g l M d kc ks pc lo (.ref a :: st) h Q := by
  obtain ⟨fs, h1, h2⟩ := gI_spec ha
  exact pw_getV hc hk hin hlk h1 h2 hdg kk
theorem pw_gL {a ci k N i : Nat} {C : String} {T : u_T} {x : Int64} (ha : gL h a ci k = some x) (hc : vwCl[ci]? = some (C, T, N)) (hk : k < N) (hin : ∀ w ∈ u_ws C T N, w ∈ M.2.2.2.1) (hlk : Cond.fieldLink M.2.1 i (T k).1 (T k).2.1 (T k).2.2.1 ∈ M.2.2.2.1) (hdg : decode M.1 pc = .ok (.getfield i, 3)) (kk : PW g l M d kc ks (pc + 3) lo (.long x :: st) h Q) : PW g l M d kc ks pc lo (.ref a :: st) h Q := by
  obtain ⟨fs, h1, h2⟩ := gL_spec ha
  exact pw_getV hc hk hin hlk h1 h2 hdg kk
theorem pw_gR {a ci k N i : Nat} {C : String} {T : u_T} {x : Nat} (ha : gR h a ci k = some x) (hc : vwCl[ci]? = some (C, T, N)) (hk : k < N) (hin : ∀ w ∈ u_ws C T N, w ∈ M.2.2.2.1) (hlk : Cond.fieldLink M.2.1 i (T k).1 (T k).2.1 (T k).2.2.1 ∈ M.2.2.2.1) (hdg : decode M.1 pc = .ok (.getfield i, 3)) (kk : PW g l M d kc ks (pc + 3) lo (.ref x :: st) h Q) : PW g l M d kc ks pc lo (.ref a :: st) h Q := by
  obtain ⟨fs, h1, h2⟩ := gR_spec ha
  exact pw_getV hc hk hin hlk h1 h2 hdg kk
theorem pw_gIN {a ci k N i : Nat} {C host : String} {T : u_T} {x : Int32} (ha : gI h a ci k = some x) (hc : vwCl[ci]? = some (C, T, N)) (hk : k < N) (hin : ∀ w ∈ u_ws C T N, w ∈ M.2.2.2.1) (hlk : Cond.fieldLinkNest M.2.1 i (T k).1 (T k).2.1 (T k).2.2.1 host ∈ nestW) (hdg : decode M.1 pc = .ok (.getfield i, 3)) (kk : PW g l M d kc ks (pc + 3) lo (.int x :: st) h Q) : PW g l M d kc ks pc lo (.ref a :: st) h Q := by
  obtain ⟨fs, h1, h2⟩ := gI_spec ha
  exact pw_getVN hc hk hin hlk h1 h2 hdg kk
theorem pw_gRN {a ci k N i : Nat} {C host : String} {T : u_T} {x : Nat} (ha : gR h a ci k = some x) (hc : vwCl[ci]? = some (C, T, N)) (hk : k < N) (hin : ∀ w ∈ u_ws C T N, w ∈ M.2.2.2.1) (hlk : Cond.fieldLinkNest M.2.1 i (T k).1 (T k).2.1 (T k).2.2.1 host ∈ nestW) (hdg : decode M.1 pc = .ok (.getfield i, 3)) (kk : PW g l M d kc ks (pc + 3) lo (.ref x :: st) h Q) : PW g l M d kc ks pc lo (.ref a :: st) h Q := by
  obtain ⟨fs, h1, h2⟩ := gR_spec ha
  exact pw_getVN hc hk hin hlk h1 h2 hdg kk
/-- the object behind a put -/
theorem obj_put {s : State} {args : Array Value} {H' : Heap} {a ci k N : Nat} {C : String} {T : u_T} {fs : List Value} {v : Value} {Ts : List Cond} (ty0 : Nat → FieldType) (hty : ∀ k, k < N → parseFieldDescriptor (T k).2.2.1 = some (ty0 k)) (hnm : ∀ a, a < N → ∀ b, b < N → a ≠ b → (T a).2.1 ≠ (T b).2.1) (hts : ∀ w ∈ Ts, w.before args s = true) (hin : ∀ w ∈ u_ws C T N, w ∈ Ts) (hK : va_K g.2.1 vwCl [] s) (hc : vwCl[ci]? = some (C, T, N)) (hk : k < N) (hl : k < fs.length) {cell : Cell} (q2 : cell.cls = g.2.1.1 ci) (q3 : cell.vm = .none) (q4 : ∀ j, j < N → cell.slots[g.2.1.2 ci j]? = some (vp_V (fs.map (trV g)) j)) (e1 : H'[g.1 + a]? = some (cell.setSlot (g.2.1.2 ci k) (trV g v))) : va_at g.2.1 vwCl (g.1 + a, trE g (.inr (ci, fs.set k v))) H' := by
  have hap := va_apart (own := C) hts hin ty0 hty hnm hK hc
  have hl' : k < (fs.map (trV g)).length := by rw [List.length_map]; exact hl
  have h9 : va_at g.2.1 vwCl (g.1 + a, .inr (ci, (fs.map (trV g)).set k (trV g v))) H' := ⟨_, hc, t_OB.to (V := updV (vp_V (fs.map (trV g))) k (trV g v)) ⟨_, e1, q2, q3, t_set q4 hap hk (trV g v)⟩ (fun j _ => vp_updV_set hl' (trV g v) j)⟩
  rw [← List.map_set] at h9
  exact h9
theorem pw_pV {a ci k N i : Nat} {C : String} {T : u_T} {v : Value} {h' : Hp} {ty : FieldType} (hp : pV h a ci k v = some h') (ty0 : Nat → FieldType) (hty : ∀ k, k < N → parseFieldDescriptor (T k).2.2.1 = some (ty0 k)) (hnm : ∀ a, a < N → ∀ b, b < N → a ≠ b → (T a).2.1 ≠ (T b).2.1) (hc : vwCl[ci]? = some (C, T, N)) (hk : k < N) (hin : ∀ w ∈ u_ws C T N, w ∈ M.2.2.2.1) (hlk : Cond.fieldLink M.2.1 i (T k).1 (T k).2.1 (T k).2.2.1 ∈ M.2.2.2.1) (hfin : (T k).2.2.2 = false) (hd : parseFieldDescriptor (T k).2.2.1 = some ty) (hn : narrow ty (trV g v) = trV g v) (hfit : fits ty (trV g v) = true) (hdg : decode M.1 pc = .ok (.putfield i, 3)) (kk : PW g l M d kc ks (pc + 3) lo st h' Q) : PW g l M d kc ks pc lo (v :: .ref a :: st) h Q := by
  obtain ⟨fs, ha, hl9, rfl⟩ := pV_spec hp
  intro p e R s m args below meth c H locs cells slots ls C hr hl hR hS hz
  obtain ⟨r, h1, cell, q1, q2, q3, q4⟩ := hR.2 a _ ha
  have hr9 : r = _ := Option.some.inj (h1.symm.trans hc)
  subst hr9
  obtain ⟨hS9, hfc, kC, hkC, hkind⟩ := C.2.2.2.2.2.1.1.1 ci _ hc
  obtain ⟨cf, kf, fi, f, hi, hsl⟩ := hS9 k hk
  have hts := C.2.2.2.2.1
  have hlay := hts _ (hin _ (u_in_lay hk))
  unfold u_lay at hlay
  rw [if_neg (by rw [hfin]; decide)] at hlay
  have hst := (u_facts hfc hkC (u_lays hts hin hk) hi).1
  have h6 := u_store hfc hkC hkind hlay hi hd hn hfit
  refine W.putK C.1 C.2.1 (f := f) ⟨C.2.2.2.1, hts _ hlk, ⟨_, _, _, hi⟩, hst⟩ (by rw [q2]; exact h6) q1 q3 (by rw [hsl]; exact k2_hasslot (q4 k hk)) rfl rfl hdg fun H' e1 e2 e3 => ?_
  rw [hsl] at e1 ⊢
  exact kk p e R s m args below meth c H' _ cells slots ls C hr hl (hR.put e2 e3 (obj_put ty0 hty hnm hts hin C.2.2.2.2.2.1.1 hc hk hl9 q2 q3 q4 e1)) (hS.put e2 e3 (Nat.le_add_right _ _)) hz
theorem pw_pVF {a ci k N i : Nat} {C : String} {T : u_T} {v : Value} {h' : Hp} {ty : FieldType} (hp : pV h a ci k v = some h') (ty0 : Nat → FieldType) (hty : ∀ k, k < N → parseFieldDescriptor (T k).2.2.1 = some (ty0 k)) (hnm : ∀ a, a < N → ∀ b, b < N → a ≠ b → (T a).2.1 ≠ (T b).2.1) (hc : vwCl[ci]? = some (C, T, N)) (hk : k < N) (hin : ∀ w ∈ u_ws C T N, w ∈ M.2.2.2.1) (hlk : Cond.fieldLink M.2.1 i (T k).1 (T k).2.1 (T k).2.2.1 ∈ M.2.2.2.1) (hfin : (T k).2.2.2 = true) (hin2 : M.2.2.1 = "<init>") (hdecl : (T k).1 = M.2.1) (hd : parseFieldDescriptor (T k).2.2.1 = some ty) (hn : narrow ty (trV g v) = trV g v) (hfit : fits ty (trV g v) = true) (hdg : decode M.1 pc = .ok (.putfield i, 3)) (kk : PW g l M d kc ks (pc + 3) lo st h' Q) : PW g l M d kc ks pc lo (v :: .ref a :: st) h Q := by
  obtain ⟨fs, ha, hl9, rfl⟩ := pV_spec hp
  intro p e R s m args below meth c H locs cells slots ls C hr hl hR hS hz
  obtain ⟨r, h1, cell, q1, q2, q3, q4⟩ := hR.2 a _ ha
  have hr9 : r = _ := Option.some.inj (h1.symm.trans hc)
  subst hr9
  obtain ⟨hS9, hfc, kC, hkC, hkind⟩ := C.2.2.2.2.2.1.1.1 ci _ hc
  obtain ⟨cf, kf, fi, f, hi, hsl⟩ := hS9 k hk
  have hts := C.2.2.2.2.1
  have hown := C.2.2.2.1
  have hlay := hts _ (hin _ (u_in_lay hk))
  unfold u_lay at hlay
  rw [if_pos hfin] at hlay
  have hst := (u_facts hfc hkC (u_lays hts hin hk) hi).1
  have hcf : m.cls = cf := by
    obtain ⟨_, _, c', _, _, _, -, -, hf', -, -, -, hown2, -⟩ := Cond.laysFinal_spec hlay
    have e1 : c' = cf := by have := hi.symm.trans hf'; simp at this; exact this.1.symm
    rw [hdecl] at hown2
    rw [← e1]; exact Option.some.inj (hown.symm.trans hown2)
  have h6 := u_fits hfc hkC hkind (Or.inr hlay) hi hd hn hfit
  refine W.putFinK C.1 C.2.1 hown (hts _ hlk) hi hst hcf (C.2.2.2.2.2.2.2.2.trans hin2) (by rw [q2]; exact h6) q1 q3 (by rw [hsl]; exact k2_hasslot (q4 k hk)) rfl rfl hdg fun H' e1 e2 e3 => ?_
  rw [hsl] at e1 ⊢
  exact kk p e R s m args below meth c H' _ cells slots ls C hr hl (hR.put e2 e3 (obj_put ty0 hty hnm hts hin C.2.2.2.2.2.1.1 hc hk hl9 q2 q3 q4 e1)) (hS.put e2 e3 (Nat.le_add_right _ _)) hz
theorem pw_pVN {a ci k N i : Nat} {C host : String} {T : u_T} {v : Value} {h' : Hp} {ty : FieldType} (hp : pV h a ci k v = some h') (ty0 : Nat → FieldType) (hty : ∀ k, k < N → parseFieldDescriptor (T k).2.2.1 = some (ty0 k)) (hnm : ∀ a, a < N → ∀ b, b < N → a ≠ b → (T a).2.1 ≠ (T b).2.1) (hc : vwCl[ci]? = some (C, T, N)) (hk : k < N) (hin : ∀ w ∈ u_ws C T N, w ∈ M.2.2.2.1) (hlk : Cond.fieldLinkNest M.2.1 i (T k).1 (T k).2.1 (T k).2.2.1 host ∈ nestW) (hfin : (T k).2.2.2 = false) (hd : parseFieldDescriptor (T k).2.2.1 = some ty) (hn : narrow ty (trV g v) = trV g v) (hfit : fits ty (trV g v) = true) (hdg : decode M.1 pc = .ok (.putfield i, 3)) (kk : PW g l M d kc ks (pc + 3) lo st h' Q) : PW g l M d kc ks pc lo (v :: .ref a :: st) h Q := by
  obtain ⟨fs, ha, hl9, rfl⟩ := pV_spec hp
  intro p e R s m args below meth c H locs cells slots ls C hr hl hR hS hz
  obtain ⟨r, h1, cell, q1, q2, q3, q4⟩ := hR.2 a _ ha
  have hr9 : r = _ := Option.some.inj (h1.symm.trans hc)
  subst hr9
  obtain ⟨hS9, hfc, kC, hkC, hkind⟩ := C.2.2.2.2.2.1.1.1 ci _ hc
  obtain ⟨cf, kf, fi, f, hi, hsl⟩ := hS9 k hk
  have hts := C.2.2.2.2.1
  have hlay := hts _ (hin _ (u_in_lay hk))
  unfold u_lay at hlay
  rw [if_neg (by rw [hfin]; decide)] at hlay
  have hst := (u_facts hfc hkC (u_lays hts hin hk) hi).1
  have h6 := u_store hfc hkC hkind hlay hi hd hn hfit
  refine va_WputK C.1 C.2.1 (f := f) C.2.2.2.1 (va_Nw.use rfl (C.2.2.2.2.2.1.2.2 _ hlk)) hi hst (by rw [q2]; exact h6) q1 q3 (by rw [hsl]; exact k2_hasslot (q4 k hk)) rfl rfl hdg fun H' e1 e2 e3 => ?_
  rw [hsl] at e1 ⊢
  exact kk p e R s m args below meth c H' _ cells slots ls C hr hl (hR.put e2 e3 (obj_put ty0 hty hnm hts hin C.2.2.2.2.2.1.1 hc hk hl9 q2 q3 q4 e1)) (hS.put e2 e3 (Nat.le_add_right _ _)) hz
theorem KX.arr {s : State} (hK : KX g s) {k : Nat} (hk : k < 6) : va_K g.2.1 vwCl [(g.2.2.1 k, akT k)] s := ⟨hK.1.1, fun j q hj => by
  have hz : j < 1 := (List.getElem?_eq_some_iff.mp hj).1
  rw [show j = 0 by omega] at hj
  cases hj
  exact hK.2.1 k hk⟩
theorem pw_iald {a : Nat} {i x : Int32} (hx : aI h 0 a i = some x) (hdg : decode M.1 pc = .ok (.iaload, 1)) (kk : PW g l M d kc ks (pc + 1) lo (.int x :: st) h Q) : PW g l M d kc ks pc lo (.int i :: .ref a :: st) h Q := by
  obtain ⟨n, f, ha, hin, rfl⟩ := aI_spec hx
  exact fun p e R s m args below meth c H locs cells slots ls C hr hl hR hS hz => va_iald C.1 C.2.1 (C.2.2.2.2.2.1.arr (k := 0) (by decide)) (hR.one ha) 0 0 rfl rfl hin hdg (kk p e R s m args below meth c H locs cells slots ls C hr hl hR hS hz)
theorem pw_bald {a : Nat} {i x : Int32} (hx : aI h 1 a i = some x) (hdg : decode M.1 pc = .ok (.baload, 1)) (kk : PW g l M d kc ks (pc + 1) lo (.int x :: st) h Q) : PW g l M d kc ks pc lo (.int i :: .ref a :: st) h Q := by
  obtain ⟨n, f, ha, hin, rfl⟩ := aI_spec hx
  exact fun p e R s m args below meth c H locs cells slots ls C hr hl hR hS hz => va_bald C.1 C.2.1 (C.2.2.2.2.2.1.arr (k := 1) (by decide)) (hR.one ha) 0 0 rfl rfl hin hdg (kk p e R s m args below meth c H locs cells slots ls C hr hl hR hS hz)
theorem pw_zald {a : Nat} {i x : Int32} (hx : aI h 3 a i = some x) (hdg : decode M.1 pc = .ok (.baload, 1)) (kk : PW g l M d kc ks (pc + 1) lo (.int x :: st) h Q) : PW g l M d kc ks pc lo (.int i :: .ref a :: st) h Q := by
  obtain ⟨n, f, ha, hin, rfl⟩ := aI_spec hx
  exact fun p e R s m args below meth c H locs cells slots ls C hr hl hR hS hz => va_zald C.1 C.2.1 (C.2.2.2.2.2.1.arr (k := 3) (by decide)) (hR.one ha) 0 0 rfl rfl hin hdg (kk p e R s m args below meth c H locs cells slots ls C hr hl hR hS hz)
theorem pw_lald {a : Nat} {i : Int32} {x : Int64} (hx : aL h a i = some x) (hdg : decode M.1 pc = .ok (.laload, 1)) (kk : PW g l M d kc ks (pc + 1) lo (.long x :: st) h Q) : PW g l M d kc ks pc lo (.int i :: .ref a :: st) h Q := by
  obtain ⟨n, f, ha, hin, rfl⟩ := aL_spec hx
  exact fun p e R s m args below meth c H locs cells slots ls C hr hl hR hS hz => va_lald C.1 C.2.1 (C.2.2.2.2.2.1.arr (k := 2) (by decide)) (hR.one ha) 0 0 rfl rfl hin hdg (kk p e R s m args below meth c H locs cells slots ls C hr hl hR hS hz)
theorem pw_alen {a : Nat} {x : Int32} (hx : aN h a = some x) (hdg : decode M.1 pc = .ok (.arraylength, 1)) (kk : PW g l M d kc ks (pc + 1) lo (.int x :: st) h Q) : PW g l M d kc ks pc lo (.ref a :: st) h Q := by
  obtain ⟨k, n, c0, ha, hk, rfl⟩ := aN_spec hx
  exact fun p e R s m args below meth c H locs cells slots ls C hr hl hR hS hz => va_alen C.1 C.2.1 (C.2.2.2.2.2.1.arr hk) (hR.one ha) 0 0 rfl rfl rfl hdg (kk p e R s m args below meth c H locs cells slots ls C hr hl hR hS hz)
/-- a reference out of an array of objects or of rows -/
def refV : Option Nat → Value
  | some k => .ref k
  | none => .null
theorem trV_refV (r : Option Nat) : trV g (refV r) = va_rf (r.map (fun k => g.1 + k)) := by cases r <;> rfl
theorem pw_aald {a kd : Nat} {i : Int32} {x : Option Nat} (hx : aQ h kd a i = some x) (hkd : kd < 6) (hty : (akT kd).isReference = true) (hdg : decode M.1 pc = .ok (.aaload, 1)) (kk : PW g l M d kc ks (pc + 1) lo (refV x :: st) h Q) : PW g l M d kc ks pc lo (.int i :: .ref a :: st) h Q := by
  obtain ⟨n, f, ha, hin, rfl⟩ := aQ_spec hx
  intro p e R s m args below meth c H locs cells slots ls C hr hl hR hS hz
  have hk9 := kk p e R s m args below meth c H locs cells slots ls C hr hl hR hS hz
  rw [List.map_cons, trV_refV] at hk9
  have hlt : i.toNatClampNeg < n := Nat.not_le.mp fun q => hin (Or.inr q)
  exact W.aald (v := va_rf ((f i.toNatClampNeg).map (fun k => g.1 + k))) C.1 C.2.1 (hR.2 a _ ha) ((C.2.2.2.2.2.1.2.1 kd hkd).1 n (fun j => va_rf (trQ g f j))) hty (fun q => by cases q) (by show ¬ (i < 0 ∨ (arrV _ _ _).slots.size ≤ _); rw [arrV_size]; exact hin) (by show (arrV _ _ _).slots[_]? = _; rw [arrV_read _ _ hlt]; rfl) rfl rfl hdg hk9
theorem pw_iast {a : Nat} {i x : Int32} {h' : Hp} (hx : sI h 0 a i x = some h') (hdg : decode M.1 pc = .ok (.iastore, 1)) (kk : PW g l M d kc ks (pc + 1) lo st h' Q) : PW g l M d kc ks pc lo (.int x :: .int i :: .ref a :: st) h Q := by
  obtain ⟨n, f, ha, hin, rfl⟩ := sI_spec hx
  intro p e R s m args below meth c H locs cells slots ls C hr hl hR hS hz
  refine W.iast C.1 C.2.1 (hR.2 a _ ha) ((C.2.2.2.2.2.1.2.1 0 (by decide)).1 n (fun j => .int (f j))) (fun q => by cases q) (by show ¬ (i < 0 ∨ (arrV _ _ _).slots.size ≤ _); rw [arrV_size]; exact hin) rfl rfl hdg fun H1 e9 z oq => ?_
  refine kk p e R s m args below meth c H1 _ cells slots ls C hr hl (hR.put z oq ?_) (hS.put z oq (Nat.le_add_right _ _)) hz
  show H1[g.1 + a]? = some (vp_cell _ _)
  rw [e9]
  show some ((vp_cell (g.2.2.1 0) (n, .inl f)).setSlot i.toNatClampNeg (.int x)) = some (vp_cell (g.2.2.1 0) (n, .inl (upd f i.toNatClampNeg x)))
  rw [vp_cell_i, vp_cell_i, arrV_store]
  congr 2
  funext q
  by_cases hq : q = i.toNatClampNeg
  · subst hq
    simp [updV, upd]
  · simp [updV, upd, hq]
theorem pw_bast {a : Nat} {i x y : Int32} {h' : Hp} (hy : vp_nar .byte x = y) (hx : sI h 1 a i y = some h') (hdg : decode M.1 pc = .ok (.bastore, 1)) (kk : PW g l M d kc ks (pc + 1) lo st h' Q) : PW g l M d kc ks pc lo (.int x :: .int i :: .ref a :: st) h Q := by
  subst hy
  obtain ⟨n, f, ha, hin, rfl⟩ := sI_spec hx
  intro p e R s m args below meth c H locs cells slots ls C hr hl hR hS hz
  refine W.bast C.1 C.2.1 (hR.2 a _ ha) ((C.2.2.2.2.2.1.2.1 1 (by decide)).1 n (fun j => .int (f j))) (fun q => by cases q) (by show ¬ (i < 0 ∨ (arrV _ _ _).slots.size ≤ _); rw [arrV_size]; exact hin) rfl rfl hdg fun H1 e9 z oq => ?_
  refine kk p e R s m args below meth c H1 _ cells slots ls C hr hl (hR.put z oq ?_) (hS.put z oq (Nat.le_add_right _ _)) hz
  show H1[g.1 + a]? = some (vp_cell _ _)
  rw [e9]
  show some ((vp_cell (g.2.2.1 1) (n, .inl f)).setSlot i.toNatClampNeg (narrow .byte (.int x))) = some (vp_cell (g.2.2.1 1) (n, .inl (upd f i.toNatClampNeg (vp_nar .byte x))))
  rw [vp_cell_i, vp_cell_i, arrV_store]
  congr 2
  funext q
  by_cases hq : q = i.toNatClampNeg
  · subst hq
    simp [updV, upd, vp_nar, narrow]
  · simp [updV, upd, hq]
theorem pw_zast {a : Nat} {i x y : Int32} {h' : Hp} (hy : vp_nar .boolean x = y) (hx : sI h 3 a i y = some h') (hdg : decode M.1 pc = .ok (.bastore, 1)) (kk : PW g l M d kc ks (pc + 1) lo st h' Q) : PW g l M d kc ks pc lo (.int x :: .int i :: .ref a :: st) h Q := by
  subst hy
  obtain ⟨n, f, ha, hin, rfl⟩ := sI_spec hx
  intro p e R s m args below meth c H locs cells slots ls C hr hl hR hS hz
  refine W.zast C.1 C.2.1 (hR.2 a _ ha) ((C.2.2.2.2.2.1.2.1 3 (by decide)).1 n (fun j => .int (f j))) (fun q => by cases q) (by show ¬ (i < 0 ∨ (arrV _ _ _).slots.size ≤ _); rw [arrV_size]; exact hin) rfl rfl hdg fun H1 e9 z oq => ?_
  refine kk p e R s m args below meth c H1 _ cells slots ls C hr hl (hR.put z oq ?_) (hS.put z oq (Nat.le_add_right _ _)) hz
  show H1[g.1 + a]? = some (vp_cell _ _)
  rw [e9]
  show some ((vp_cell (g.2.2.1 3) (n, .inl f)).setSlot i.toNatClampNeg (narrow .boolean (.int x))) = some (vp_cell (g.2.2.1 3) (n, .inl (upd f i.toNatClampNeg (vp_nar .boolean x))))
  rw [vp_cell_i, vp_cell_i, arrV_store]
  congr 2
  funext q
  by_cases hq : q = i.toNatClampNeg
  · subst hq
    simp [updV, upd, vp_nar, narrow]
  · simp [updV, upd, hq]
theorem pw_last {a : Nat} {i : Int32} {x : Int64} {h' : Hp} (hx : sL h a i x = some h') (hdg : decode M.1 pc = .ok (.lastore, 1)) (kk : PW g l M d kc ks (pc + 1) lo st h' Q) : PW g l M d kc ks pc lo (.long x :: .int i :: .ref a :: st) h Q := by
  obtain ⟨n, f, ha, hin, rfl⟩ := sL_spec hx
  intro p e R s m args below meth c H locs cells slots ls C hr hl hR hS hz
  refine W.last C.1 C.2.1 (hR.2 a _ ha) ((C.2.2.2.2.2.1.2.1 2 (by decide)).1 n (fun j => .long (f j))) (fun q => by cases q) (by show ¬ (i < 0 ∨ (arrV _ _ _).slots.size ≤ _); rw [arrV_size]; exact hin) rfl rfl hdg fun H1 e9 z oq => ?_
  refine kk p e R s m args below meth c H1 _ cells slots ls C hr hl (hR.put z oq ?_) (hS.put z oq (Nat.le_add_right _ _)) hz
  show H1[g.1 + a]? = some (vp_cell _ _)
  rw [e9]
  show some ((vp_cell (g.2.2.1 2) (n, .inr (.inl f))).setSlot i.toNatClampNeg (.long x)) = some (vp_cell (g.2.2.1 2) (n, .inr (.inl (vp_updL f i.toNatClampNeg x))))
  rw [vp_cell_l, vp_cell_l, arrV_store]
  congr 2
  funext q
  by_cases hq : q = i.toNatClampNeg
  · subst hq
    simp [updV, vp_updL]
  · simp [updV, vp_updL, hq]
/-! returns -/
theorem Q_of {s t : State} {H : Heap} {locs : List Loc} {r : Option Value} {a : Array Value} (hq : Q r h) (hR : REL g h H) (hS : va_S (fun q => g.1 ≤ q) s.heap H locs) (ht : t.heap = H) : QcOf g Q a s (.returned (r.map (trV g))) t := ⟨⟨r, h, rfl, hq, by rw [ht]; exact hR⟩, hS.F ht⟩
theorem pw_iret {x : Int32} {ty : FieldType} (hr9 : M.2.2.2.2.2 = some ty) (hn : narrow ty (.int x) = .int x) (hdg : decode M.1 pc = .ok (.ireturn, 1)) (hq : Q (some (.int x)) h) : PW g l M d kc ks pc lo [.int x] h Q := fun p e R s m args below meth c H locs cells slots ls C hr hl hR hS hz =>
  W.widen (Nat.le_add_right _ _) (Nat.le_add_right _ _) (W.zret C.1 C.2.1 (C.2.2.2.2.2.2.1.trans hr9) hn (fun t ht hW => Q_of (r := some (.int x)) hq hR hS ht) hS.2.2 hdg C.2.2.2.2.2.2.2.1)
theorem pw_lret {x : Int64} (hr9 : M.2.2.2.2.2 = some .long) (hdg : decode M.1 pc = .ok (.lreturn, 1)) (hq : Q (some (.long x)) h) : PW g l M d kc ks pc lo [.long x] h Q := fun p e R s m args below meth c H locs cells slots ls C hr hl hR hS hz =>
  W.widen (Nat.le_add_right _ _) (Nat.le_add_right _ _) (W.lret C.1 C.2.1 (C.2.2.2.2.2.2.1.trans hr9) (fun t ht hW => Q_of (r := some (.long x)) hq hR hS ht) hS.2.2 hdg C.2.2.2.2.2.2.2.1)
theorem pw_aret {x : Nat} {ty : FieldType} (hr9 : M.2.2.2.2.2 = some ty) (hrt : (∃ n, ty = .object n) ∨ ∃ t, ty = .array t) (hdg : decode M.1 pc = .ok (.areturn, 1)) (hq : Q (some (.ref x)) h) : PW g l M d kc ks pc lo [.ref x] h Q := fun p e R s m args below meth c H locs cells slots ls C hr hl hR hS hz =>
  W.widen (Nat.le_add_right _ _) (Nat.le_add_right _ _) (W.aret (v := .ref (g.1 + x)) C.1 C.2.1 (C.2.2.2.2.2.2.1.trans hr9) hrt (Or.inr ⟨_, rfl⟩) (fun t ht hW => Q_of (r := some (.ref x)) hq hR hS ht) hS.2.2 hdg C.2.2.2.2.2.2.2.1)
theorem pw_vret (hr9 : M.2.2.2.2.2 = none) (hdg : decode M.1 pc = .ok (.return_, 1)) (hq : Q none h) : PW g l M d kc ks pc lo [] h Q := fun p e R s m args below meth c H locs cells slots ls C hr hl hR hS hz =>
  W.widen (Nat.le_add_right _ _) (Nat.le_add_right _ _) (W.vret C.1 C.2.1 (C.2.2.2.2.2.2.1.trans hr9) (fun t ht hW => Q_of (r := none) hq hR hS ht) hS.2.2 hdg C.2.2.2.2.2.2.2.1)
end PWH
end
section
/-! entries, calls, making -/
def loE : List Value → List (Option Value)
  | [] => []
  | v :: t => if v.category = 2 then some v :: none :: loE t else some v :: loE t
theorem loE_spec (g : GT) : ∀ (as : List Value) (k i : Nat) (v : Value), (loE as)[i]? = some (some v) → (k + i, trV g v) ∈ lv_args k (as.map (trV g))
  | [], k, i, v, h => by simp [loE] at h
  | a :: t, k, i, v, h => by
    rw [List.map_cons, lv_args, trV_cat]
    by_cases hc : a.category = 2
    · simp only [loE, if_pos hc] at h ⊢
      match i with
      | 0 => simp at h; subst h; exact List.mem_cons_self
      | 1 => simp at h
      | i + 2 =>
        simp at h
        have := loE_spec g t (k + 2) i v (by simpa using h)
        rw [show k + (i + 2) = k + 2 + i by omega]
        exact List.mem_cons_of_mem _ this
    · simp only [loE, if_neg hc] at h ⊢
      match i with
      | 0 => simp at h; subst h; exact List.mem_cons_self
      | i + 1 =>
        simp at h
        have := loE_spec g t (k + 1) i v (by simpa using h)
        rw [show k + (i + 1) = k + 1 + i by omega]
        exact List.mem_cons_of_mem _ this
theorem loE_len (g : GT) : ∀ (as : List Value), (lg_sl (as.map (trV g))).length = (loE as).length
  | [] => rfl
  | a :: t => by
    have ih := loE_len g t
    unfold lg_sl at ih ⊢
    rw [List.map_cons, List.flatMap_cons, List.length_append, ih, trV_cat]
    by_cases hc : a.category = 2
    · simp [loE, hc]; omega
    · simp [loE, hc]; omega
section PWC
variable {g : GT} {l : Launch} {M : MD} {d kc ks pc : Nat} {lo : List (Option Value)} {st : List Value} {h : Hp} {Q : Option Value → Hp → Prop}
theorem PcOf.blind {as : List Value} : FrameBlind (PcOf g as h) := fun a U gg mk q => ⟨q.1, q.2.1, KX.same (U := U) (V := U.calling gg mk a) rfl q.2.2⟩
/-- a method's contract out of its walk -/
theorem pm_of {y : MethodName} {as : List Value} {ws' : List Cond} (hy : plainName y.cls = true) (hw : M.2.2.2.1 = Cond.code y M.1 M.2.2.2.2.1 M.2.2.2.2.2 :: ws') (hcls : M.2.1 = y.cls) (hnm : M.2.2.1 = y.name) (hlen : (loE as).length ≤ M.2.2.2.2.1) (hlo : loE as ++ List.replicate (M.2.2.2.2.1 - (loE as).length) none = lo) (k : PW g l M d kc ks 0 lo [] h Q) : PM g l d kc ks y M.2.2.2.1 as h Q := by
  refine Met.ofW (cc := M.1) (maxL := M.2.2.2.2.1) (ret := M.2.2.2.2.2) hy hw ?_
  intro p e s m args below meth c s₁ B hml hv
  obtain ⟨rfl, hR, hK⟩ := hv
  have hown : s.vm.findClass y.cls = some m.cls := findClass_of_methodNamed B.named
  have hC : CX g M p s m (as.map (trV g)).toArray meth c := ⟨B.exec, B.bytes, hml, by rw [hcls]; exact hown, atoms_spec (ws := M.2.2.2.1) B.pre, hK, B.returns, B.notSynchronized, by rw [hnm]; exact (name_of_methodNamed B.named B.method).1⟩
  have hl := lv_entry (as.map (trV g)) (n := M.2.2.2.2.1) (by rw [loE_len]; exact hlen)
  rw [lg_entry_eq]
  generalize (lg_sl (as.map (trV g)) ++ List.replicate (M.2.2.2.2.1 - (lg_sl (as.map (trV g))).length) Slot.unset).toArray = ls at hl ⊢
  have hlR : lvR g ls M.2.2.2.2.1 lo := ⟨hl.1, hl.2.1, fun i v hi => by
    rw [← hlo] at hi
    by_cases hi2 : i < (loE as).length
    · rw [List.getElem?_append_left hi2] at hi
      have := loE_spec g as 0 i v hi
      rw [Nat.zero_add] at this
      exact hl.2.2 _ this
    · rw [List.getElem?_append_right (by omega), List.getElem?_replicate] at hi
      split at hi
      · cases hi
      · cases hi⟩
  have hz : g.1 ≤ s.heap.size := by rw [hR.1]; exact Nat.le_add_right _ _
  have := k p e (headSpec M.2.2.2.1 { frames := d, cells := kc, slots := ks, locals := 40 * d }).room s m (as.map (trV g)).toArray below meth c s.heap [] 0 0 ls hC ⟨Nat.le_refl _, Nat.le_refl _, by rw [Nat.zero_add]; exact Nat.le_refl _, by rw [Nat.zero_add]; exact Nat.le_refl _⟩ hlR hR va_S.rf hz
  rw [Nat.zero_add, Nat.zero_add] at this
  exact this
theorem pw_run {p : Program} {e : Env} {R : Room} {s : State} {m : MethodId} {args : Array Value} {below : List Frame} {meth : Method} {c : Code} {H : Heap} {locs : List Loc} {cells slots : Nat} {ls : Array Slot} {mc ms : Nat} {st0 rest : List Value} {a : Array Value} {Q' : Option Value → Hp → Prop} {Qz : State → Prop} (hr : va_Run p l e R s m args below meth c H locs cells slots mc ms (F0 m pc ls st0) rest (QcOf g Q' a) (fun q => g.1 ≤ q)) (hS : va_S (fun q => g.1 ≤ q) s.heap H locs)
    (kk : ∀ (r : Option Value) (h' : Hp) (H1 : Heap) (locs1 : List Loc), Q' r h' → REL g h' H1 → va_S (fun q => g.1 ≤ q) s.heap H1 locs1 → W p l e R s m args below meth c H1 locs1 (cells + mc) (slots + ms) Qz (F0 m (pc + 3) ls ((r.map (trV g)).toList ++ rest))) : W p l e R s m args below meth c H locs cells slots Qz (F0 m pc ls st0) := by
  intro T hT X
  obtain ⟨v, st₀, t, T', L, h0, X', hL, e1, e2, ⟨⟨r, h', hv, hq, hR1⟩, hz, hk⟩, st⟩ := hr T hT X
  have hv' : v = r.map (trV g) := by cases hv; rfl
  subst hv'
  rw [h0] at hz hk
  obtain ⟨t2, a1, b1⟩ := kk r h' T'.heap (locs ++ L) hq (by rw [e1]; exact hR1)
    ⟨Nat.le_trans hS.1 (by rw [e1]; exact hz), fun q h1 h2 => by rw [e1, hk q (Nat.lt_of_lt_of_le h1 hS.1) h2]; exact hS.2.1 q h1 h2, fun q hq => by
      rcases List.mem_append.mp hq with h | h
      · exact hS.2.2 q h
      · exact hL q h⟩ T' rfl X'
  exact ⟨t2, st t2 a1, b1⟩
theorem map_rest (r : Option Value) (rest : List Value) : (r.toList ++ rest).map (trV g) = (r.map (trV g)).toList ++ rest.map (trV g) := by cases r <;> simp
theorem sum_cat (rest : List Value) : ((rest.map (trV g)).map fun v => v.category).sum = (rest.map fun v => v.category).sum := by
  rw [List.map_map]
  congr 1
  apply List.map_congr_left
  intro v _
  exact trV_cat g v
/-- what goes on behind a call -/
theorem pw_back {p : Program} {e : Env} {R : Room} {s : State} {m : MethodId} {args : Array Value} {below : List Frame} {meth : Method} {c : Code} {H1 : Heap} {locs1 : List Loc} {cells slots : Nat} {ls : Array Slot} {kc' ks' kc2 ks2 : Nat} {r : Option Value} {rest : List Value} {h' : Hp} (hcap : kc = kc' + kc2 ∧ ks = ks' + ks2) (C : CX g M p s m args meth c) (hr : d ≤ R.frames ∧ 40 * d ≤ R.locals ∧ cells + kc ≤ R.cells ∧ slots + ks ≤ R.slots) (hl : lvR g ls M.2.2.2.2.1 lo) (hR1 : REL g h' H1) (hS1 : va_S (fun q => g.1 ≤ q) s.heap H1 locs1) (hz : g.1 ≤ s.heap.size) (kk : PW g l M d kc2 ks2 pc lo (r.toList ++ rest) h' Q) : W p l e R s m args below meth c H1 locs1 (cells + kc') (slots + ks') (MQ below (QcOf g Q) args s (cells + kc) (slots + ks) (fun q => g.1 ≤ q)) (F0 m pc ls ((r.map (trV g)).toList ++ rest.map (trV g))) := by
  obtain ⟨rfl, rfl⟩ := hcap
  have := kk p e R s m args below meth c H1 locs1 (cells + kc') (slots + ks') ls C ⟨hr.1, hr.2.1, by omega, by omega⟩ hl hR1 hS1 hz
  rw [map_rest, Nat.add_assoc, Nat.add_assoc] at this
  exact this
theorem room_ok {R : Room} {d' maxL cells slots : Nat} (hdep : d' + 1 ≤ d ∧ maxL ≤ 21) (hr : d ≤ R.frames ∧ 40 * d ≤ R.locals ∧ cells + kc ≤ R.cells ∧ slots + ks ≤ R.slots) : d' + 1 ≤ R.frames ∧ 8 + (maxL + 11) + 40 * d' ≤ R.locals := ⟨by omega, by omega⟩
theorem pw_callV {y : MethodName} {C : String} {T : u_T} {N ci i n maxL d' kc' ks' kc2 ks2 b : Nat} {bytes : ByteArray} {ret : Option FieldType} {ws' ws'' : List Cond} {as rest st0 : List Value} {fs : List Value} {Q' : Option Value → Hp → Prop} (hM : PM g l d' kc' ks' y ws' (.ref b :: as) h Q') (hG : GoodIn M.2.2.2.1 (wsV M.2.1 i C y ws')) (hw : ws' = Cond.code y bytes maxL ret :: ws'') (hd : y.cls = C ∧ y.cls ≠ "java/lang/invoke/MethodHandle" ∧ y.cls ≠ "java/lang/invoke/VarHandle" ∧ (parseMethodDescriptor y.desc).map (fun d => d.parameters.length) = some n) (hn : as.length = n) (hb : h.2 b = some (.inr (ci, fs))) (hc : vwCl[ci]? = some (C, T, N)) (hdep : d' + 1 ≤ d ∧ maxL ≤ 21) (hcap : kc = kc' + kc2 ∧ ks = ks' + ks2) (hrest : (rest.map fun v => v.category).sum ≤ 8) (hdg : decode M.1 pc = .ok (.invokevirtual i, 3)) (hst : st0 = as.reverse ++ .ref b :: rest) (kk : ∀ r h', Q' r h' → PW g l M d kc2 ks2 (pc + 3) lo (r.toList ++ rest) h' Q) : PW g l M d kc ks pc lo st0 h Q := by
  subst hst
  intro p e R s m args below meth c H locs cells slots ls C9 hr hl hR hS hz
  refine pw_run (va_runV (As := as.map (trV g)) (rest := rest.map (trV g)) (b := g.1 + b) ⟨C9.1, C9.2.1, C9.2.2.1, C9.2.2.2.1, C9.2.2.2.2.1⟩ hM (cwV n C9.2.2.2.2.1 hG hw rfl rfl hd (room_ok hdep hr)) ⟨PcOf.blind, va_recv C9.2.2.2.2.2.1.1 (hR.one hb) (q0 := 0) hc rfl, fun U hU hW => ⟨rfl, by rw [hU]; exact hR, KX.moved hW C9.2.2.2.2.2.1⟩⟩ rfl (by rw [List.length_map]; exact hn) hl.1 (by show List.map (trV g) _ = _; rw [List.map_append, List.map_reverse]; rfl) (by rw [sum_cat]; show 2 * 0 + _ ≤ 8; omega) hdg ⟨by omega, by omega⟩) hS fun r h' H1 locs1 hq hR1 hS1 => pw_back hcap C9 hr hl hR1 hS1 hz (kk r h' hq)
theorem pw_callS {y : MethodName} {i n maxL d' kc' ks' kc2 ks2 : Nat} {bytes : ByteArray} {ret : Option FieldType} {ws' ws'' : List Cond} {as rest st0 : List Value} {Q' : Option Value → Hp → Prop} (hM : PM g l d' kc' ks' y ws' as h Q') (hG : GoodIn M.2.2.2.1 (va_wsS M.2.1 i y ws')) (hw : ws' = Cond.code y bytes maxL ret :: ws'') (hd : y.cls ≠ "java/lang/invoke/MethodHandle" ∧ y.cls ≠ "java/lang/invoke/VarHandle" ∧ (parseMethodDescriptor y.desc).map (fun d => d.parameters.length) = some n) (hn : as.length = n) (hdep : d' + 1 ≤ d ∧ maxL ≤ 21) (hcap : kc = kc' + kc2 ∧ ks = ks' + ks2) (hrest : (rest.map fun v => v.category).sum ≤ 8) (hdg : decode M.1 pc = .ok (.invokestatic i, 3)) (hst : st0 = as.reverse ++ rest) (kk : ∀ r h', Q' r h' → PW g l M d kc2 ks2 (pc + 3) lo (r.toList ++ rest) h' Q) : PW g l M d kc ks pc lo st0 h Q := by
  subst hst
  intro p e R s m args below meth c H locs cells slots ls C9 hr hl hR hS hz
  refine pw_run (va_runS (As := as.map (trV g)) (rest := rest.map (trV g)) ⟨C9.1, C9.2.1, C9.2.2.1, C9.2.2.2.1, C9.2.2.2.2.1⟩ hM (va_cwS n C9.2.2.2.2.1 hG hw rfl rfl hd (room_ok hdep hr)) ⟨PcOf.blind, fun U hU hW => ⟨rfl, by rw [hU]; exact hR, KX.moved hW C9.2.2.2.2.2.1⟩⟩ rfl (by rw [List.length_map]; exact hn) hl.1 (by show List.map (trV g) _ = _; rw [List.map_append, List.map_reverse]) (by rw [sum_cat]; show 2 * 0 + _ ≤ 8; omega) hdg ⟨by omega, by omega⟩) hS fun r h' H1 locs1 hq hR1 hS1 => pw_back hcap C9 hr hl hR1 hS1 hz (kk r h' hq)
/-- a private static method of a nest mate -/
theorem pw_callSN {y : MethodName} {host : String} {i n maxL d' kc' ks' kc2 ks2 : Nat} {bytes : ByteArray} {ret : Option FieldType} {ws' ws'' : List Cond} {as rest st0 : List Value} {Q' : Option Value → Hp → Prop} (hM : PM g l d' kc' ks' y ws' as h Q') (hG : GoodIn M.2.2.2.1 ws') (hlk : Cond.methodLinkNest M.2.1 i y host ∈ nestW) (hini : Cond.initialized y.cls ∈ M.2.2.2.1) (hsta : Cond.static y ∈ M.2.2.2.1) (hw : ws' = Cond.code y bytes maxL ret :: ws'') (hd : y.cls ≠ "java/lang/invoke/MethodHandle" ∧ y.cls ≠ "java/lang/invoke/VarHandle" ∧ (parseMethodDescriptor y.desc).map (fun d => d.parameters.length) = some n) (hn : as.length = n) (hdep : d' + 1 ≤ d ∧ maxL ≤ 21) (hcap : kc = kc' + kc2 ∧ ks = ks' + ks2) (hrest : (rest.map fun v => v.category).sum ≤ 8) (hdg : decode M.1 pc = .ok (.invokestatic i, 3)) (hst : st0 = as.reverse ++ rest) (kk : ∀ r h', Q' r h' → PW g l M d kc2 ks2 (pc + 3) lo (r.toList ++ rest) h' Q) : PW g l M d kc ks pc lo st0 h Q := by
  subst hst
  intro p e R s m args below meth c H locs cells slots ls C9 hr hl hR hS hz
  refine pw_run (va_runSN (As := as.map (trV g)) (rest := rest.map (trV g)) ⟨C9.1, C9.2.1, C9.2.2.1, C9.2.2.2.1, C9.2.2.2.2.1⟩ hM ⟨va_cnB n C9.2.2.2.2.1 hG hw rfl rfl (C9.2.2.2.2.2.1.2.2 _ hlk) (C9.2.2.2.2.1 _ hini) hd (room_ok hdep hr), C9.2.2.2.2.1 _ hsta, trivial⟩ ⟨PcOf.blind, fun U hU hW => ⟨rfl, by rw [hU]; exact hR, KX.moved hW C9.2.2.2.2.2.1⟩⟩ rfl (by rw [List.length_map]; exact hn) hl.1 (by show List.map (trV g) _ = _; rw [List.map_append, List.map_reverse]) (by rw [sum_cat]; show 2 * 0 + _ ≤ 8; omega) hdg ⟨by omega, by omega⟩) hS fun r h' H1 locs1 hq hR1 hS1 => pw_back hcap C9 hr hl hR1 hS1 hz (kk r h' hq)
theorem pw_callI {y : MethodName} {i n maxL d' kc' ks' kc2 ks2 b : Nat} {bytes : ByteArray} {ws' ws'' : List Cond} {as rest st0 : List Value} {Q' : Option Value → Hp → Prop} (hM : PM g l d' kc' ks' y ws' (.ref b :: as) h Q') (hG : GoodIn M.2.2.2.1 ws') (hlk : Cond.methodLink M.2.1 i y ∈ M.2.2.2.1) (hini : Cond.initialized y.cls ∈ M.2.2.2.1) (hinst : Cond.instanceMethod y ∈ M.2.2.2.1) (hy1 : y.name = "<init>") (hw : ws' = Cond.code y bytes maxL none :: ws'') (hd : y.cls ≠ "java/lang/invoke/MethodHandle" ∧ y.cls ≠ "java/lang/invoke/VarHandle" ∧ (parseMethodDescriptor y.desc).map (fun d => d.parameters.length) = some n) (hn : as.length = n) (hdep : d' + 1 ≤ d ∧ maxL ≤ 21) (hcap : kc = kc' + kc2 ∧ ks = ks' + ks2) (hrest : (rest.map fun v => v.category).sum ≤ 8) (hdg : decode M.1 pc = .ok (.invokespecial i, 3)) (hst : st0 = as.reverse ++ .ref b :: rest) (kk : ∀ r h', Q' r h' → PW g l M d kc2 ks2 (pc + 3) lo (r.toList ++ rest) h' Q) : PW g l M d kc ks pc lo st0 h Q := by
  subst hst
  intro p e R s m args below meth c H locs cells slots ls C9 hr hl hR hS hz
  refine pw_run (va_runI (As := as.map (trV g)) (rest := rest.map (trV g)) (b := g.1 + b) ⟨C9.1, C9.2.1, C9.2.2.1, C9.2.2.2.1, C9.2.2.2.2.1⟩ hM (cwI n C9.2.2.2.2.1 hG hw rfl rfl (C9.2.2.2.2.1 _ hini) (C9.2.2.2.2.1 _ hlk) (C9.2.2.2.2.1 _ hinst) hy1 hd (room_ok hdep hr)) ⟨PcOf.blind, fun U hU hW => ⟨rfl, by rw [hU]; exact hR, KX.moved hW C9.2.2.2.2.2.1⟩⟩ rfl (by rw [List.length_map]; exact hn) hl.1 (by show List.map (trV g) _ = _; rw [List.map_append, List.map_reverse]; rfl) (by rw [sum_cat]; show 2 * 0 + _ ≤ 8; omega) hdg ⟨by omega, by omega⟩) hS fun r h' H1 locs1 hq hR1 hS1 => pw_back hcap C9 hr hl hR1 hS1 hz (kk r h' hq)
theorem pw_callIN {y : MethodName} {host : String} {i n maxL d' kc' ks' kc2 ks2 b : Nat} {bytes : ByteArray} {ws' ws'' : List Cond} {as rest st0 : List Value} {Q' : Option Value → Hp → Prop} (hM : PM g l d' kc' ks' y ws' (.ref b :: as) h Q') (hG : GoodIn M.2.2.2.1 ws') (hlk : Cond.methodLinkNest M.2.1 i y host ∈ nestW) (hini : Cond.initialized y.cls ∈ M.2.2.2.1) (hinst : Cond.instanceMethod y ∈ M.2.2.2.1) (hy1 : y.name = "<init>") (hw : ws' = Cond.code y bytes maxL none :: ws'') (hd : y.cls ≠ "java/lang/invoke/MethodHandle" ∧ y.cls ≠ "java/lang/invoke/VarHandle" ∧ (parseMethodDescriptor y.desc).map (fun d => d.parameters.length) = some n) (hn : as.length = n) (hdep : d' + 1 ≤ d ∧ maxL ≤ 21) (hcap : kc = kc' + kc2 ∧ ks = ks' + ks2) (hrest : (rest.map fun v => v.category).sum ≤ 8) (hdg : decode M.1 pc = .ok (.invokespecial i, 3)) (hst : st0 = as.reverse ++ .ref b :: rest) (kk : ∀ r h', Q' r h' → PW g l M d kc2 ks2 (pc + 3) lo (r.toList ++ rest) h' Q) : PW g l M d kc ks pc lo st0 h Q := by
  subst hst
  intro p e R s m args below meth c H locs cells slots ls C9 hr hl hR hS hz
  refine pw_run (va_runIN (As := as.map (trV g)) (rest := rest.map (trV g)) (b := g.1 + b) ⟨C9.1, C9.2.1, C9.2.2.1, C9.2.2.2.1, C9.2.2.2.2.1⟩ hM ⟨va_cnB n C9.2.2.2.2.1 hG hw rfl rfl (C9.2.2.2.2.2.1.2.2 _ hlk) (C9.2.2.2.2.1 _ hini) hd (room_ok hdep hr), hy1, C9.2.2.2.2.1 _ hinst⟩ ⟨PcOf.blind, fun U hU hW => ⟨rfl, by rw [hU]; exact hR, KX.moved hW C9.2.2.2.2.2.1⟩⟩ rfl (by rw [List.length_map]; exact hn) hl.1 (by show List.map (trV g) _ = _; rw [List.map_append, List.map_reverse]; rfl) (by rw [sum_cat]; show 2 * 0 + _ ≤ 8; omega) hdg ⟨by omega, by omega⟩) hS fun r h' H1 locs1 hq hR1 hS1 => pw_back hcap C9 hr hl hR1 hS1 hz (kk r h' hq)
/-- Object.<init> -/
theorem pw_obj {i a : Nat} (hlk : Cond.methodLink M.2.1 i objectInit ∈ M.2.2.2.1) (hinst : Cond.instanceMethod objectInit ∈ M.2.2.2.1) (hcode : Cond.code objectInit ⟨#[0xb1]⟩ 1 none ∈ M.2.2.2.1) (hdep : 1 ≤ d) (hrest : (st.map fun v => v.category).sum ≤ 8) (hdg : decode M.1 pc = .ok (.invokespecial i, 3)) (k : PW g l M d kc ks (pc + 3) lo st h Q) : PW g l M d kc ks pc lo (.ref a :: st) h Q := fun p e R s m args below meth c H locs cells slots ls C hr hl hR hS hz =>
  W.objInit (a := g.1 + a) (rest := st.map (trV g)) C.1 C.2.1 C.2.2.2.1 (C.2.2.2.2.1 _ hlk) (C.2.2.2.2.1 _ hinst) (C.2.2.2.2.1 _ hcode) rfl (hl.1.trans C.2.2.1.symm) rfl hdg (by omega) (by rw [sum_cat]; show 2 * 0 + _ + 12 ≤ R.locals; omega) (k p e R s m args below meth c H locs cells slots ls C hr hl hR hS hz)
theorem pw_min {i : Nat} {x y : Int32} (hlk : Cond.methodLink M.2.1 i Lib.Math.min.name ∈ M.2.2.2.1) (hsta : Cond.static Lib.Math.min.name ∈ M.2.2.2.1) (hini : Cond.initialized "java/lang/Math" ∈ M.2.2.2.1) (hcode : Cond.code Lib.Math.min.name Lib.Math.min.code 2 (some .int) ∈ M.2.2.2.1) (hdep : 1 ≤ d) (hrest : (st.map fun v => v.category).sum ≤ 8) (hdg : decode M.1 pc = .ok (.invokestatic i, 3)) (k : PW g l M d kc ks (pc + 3) lo (.int (if y < x then y else x) :: st) h Q) : PW g l M d kc ks pc lo (.int y :: .int x :: st) h Q := fun p e R s m args below meth c H locs cells slots ls C hr hl hR hS hz =>
  va_mmin C.1 C.2.1 (C.2.2.1.trans hl.1.symm) C.2.2.2.1 (C.2.2.2.2.1 _ hlk) (C.2.2.2.2.1 _ hsta) (C.2.2.2.2.1 _ hini) (C.2.2.2.2.1 _ hcode) (by omega) (by rw [sum_cat]; omega) (by omega) (by omega) hdg (k p e R s m args below meth c H locs cells slots ls C hr hl hR hS hz)
theorem pw_max {i : Nat} {x y : Int32} (hlk : Cond.methodLink M.2.1 i Lib.Math.max.name ∈ M.2.2.2.1) (hsta : Cond.static Lib.Math.max.name ∈ M.2.2.2.1) (hini : Cond.initialized "java/lang/Math" ∈ M.2.2.2.1) (hcode : Cond.code Lib.Math.max.name Lib.Math.max.code 2 (some .int) ∈ M.2.2.2.1) (hdep : 1 ≤ d) (hrest : (st.map fun v => v.category).sum ≤ 8) (hdg : decode M.1 pc = .ok (.invokestatic i, 3)) (k : PW g l M d kc ks (pc + 3) lo (.int (if x < y then y else x) :: st) h Q) : PW g l M d kc ks pc lo (.int y :: .int x :: st) h Q := fun p e R s m args below meth c H locs cells slots ls C hr hl hR hS hz =>
  va_mmax C.1 C.2.1 (C.2.2.1.trans hl.1.symm) C.2.2.2.1 (C.2.2.2.2.1 _ hlk) (C.2.2.2.2.1 _ hsta) (C.2.2.2.2.1 _ hini) (C.2.2.2.2.1 _ hcode) (by omega) (by rw [sum_cat]; omega) (by omega) (by omega) hdg (k p e R s m args below meth c H locs cells slots ls C hr hl hR hS hz)
end PWC
end
