section
-- ===== PART A: goes FIRST, ahead of the names: the tables' words, and 'selects' of the private methods out of them =====
/-- a private method of a class that the tables say can be made, by its rows of tables_1 -/
def lw_okq (q : MethodName × Nat) : Prop := (q.1.cls ≠ "java/lang/invoke/MethodHandle" ∧ q.1.cls ≠ "java/lang/invoke/VarHandle") ∧ Cond.instantiable q.1.cls q.2 ∈ tables_1 ∧ Cond.privateMethod q.1 ∈ tables_1 ∧ Cond.instanceMethod q.1 ∈ tables_1
theorem lw_p0 : lw_okq (⟨"PageHold", "readPage", "(IIII)I"⟩, 9) := ⟨⟨by decide +kernel, by decide +kernel⟩, List.mem_of_getElem? (i := 13) (by decide +kernel), List.mem_of_getElem? (i := 255) (by decide +kernel), List.mem_of_getElem? (i := 256) (by decide +kernel)⟩
theorem lw_p1 : lw_okq (⟨"PageHold", "touch", "(I)I"⟩, 9) := ⟨⟨by decide +kernel, by decide +kernel⟩, List.mem_of_getElem? (i := 13) (by decide +kernel), List.mem_of_getElem? (i := 266) (by decide +kernel), List.mem_of_getElem? (i := 267) (by decide +kernel)⟩
theorem lw_p2 : lw_okq (⟨"PageHold", "bringIn", "(I)I"⟩, 9) := ⟨⟨by decide +kernel, by decide +kernel⟩, List.mem_of_getElem? (i := 13) (by decide +kernel), List.mem_of_getElem? (i := 270) (by decide +kernel), List.mem_of_getElem? (i := 271) (by decide +kernel)⟩
theorem lw_p3 : lw_okq (⟨"PageHold", "lookAtInactive", "()I"⟩, 9) := ⟨⟨by decide +kernel, by decide +kernel⟩, List.mem_of_getElem? (i := 13) (by decide +kernel), List.mem_of_getElem? (i := 309) (by decide +kernel), List.mem_of_getElem? (i := 310) (by decide +kernel)⟩
theorem lw_p4 : lw_okq (⟨"PageHold", "flush", "(I)Z"⟩, 9) := ⟨⟨by decide +kernel, by decide +kernel⟩, List.mem_of_getElem? (i := 13) (by decide +kernel), List.mem_of_getElem? (i := 319) (by decide +kernel), List.mem_of_getElem? (i := 320) (by decide +kernel)⟩
theorem lw_p5 : lw_okq (⟨"PageHold", "giveBlock", "(I)Z"⟩, 9) := ⟨⟨by decide +kernel, by decide +kernel⟩, List.mem_of_getElem? (i := 13) (by decide +kernel), List.mem_of_getElem? (i := 327) (by decide +kernel), List.mem_of_getElem? (i := 328) (by decide +kernel)⟩
theorem lw_p6 : lw_okq (⟨"PageHold$Disk", "note", "(II)V"⟩, 11) := ⟨⟨by decide +kernel, by decide +kernel⟩, List.mem_of_getElem? (i := 36) (by decide +kernel), List.mem_of_getElem? (i := 357) (by decide +kernel), List.mem_of_getElem? (i := 358) (by decide +kernel)⟩
theorem lw_p7 : lw_okq (⟨"PageHold", "lookAtActive", "()I"⟩, 9) := ⟨⟨by decide +kernel, by decide +kernel⟩, List.mem_of_getElem? (i := 13) (by decide +kernel), List.mem_of_getElem? (i := 366) (by decide +kernel), List.mem_of_getElem? (i := 367) (by decide +kernel)⟩
theorem lw_p8 : lw_okq (⟨"PageHold", "evict", "(I)V"⟩, 9) := ⟨⟨by decide +kernel, by decide +kernel⟩, List.mem_of_getElem? (i := 13) (by decide +kernel), List.mem_of_getElem? (i := 371) (by decide +kernel), List.mem_of_getElem? (i := 372) (by decide +kernel)⟩
theorem lw_p9 : lw_okq (⟨"PageHold", "bringAhead", "(II)V"⟩, 9) := ⟨⟨by decide +kernel, by decide +kernel⟩, List.mem_of_getElem? (i := 13) (by decide +kernel), List.mem_of_getElem? (i := 425) (by decide +kernel), List.mem_of_getElem? (i := 426) (by decide +kernel)⟩
theorem lw_p10 : lw_okq (⟨"PageHold", "putRow", "(III)I"⟩, 9) := ⟨⟨by decide +kernel, by decide +kernel⟩, List.mem_of_getElem? (i := 13) (by decide +kernel), List.mem_of_getElem? (i := 443) (by decide +kernel), List.mem_of_getElem? (i := 444) (by decide +kernel)⟩
theorem lw_p11 : lw_okq (⟨"PageHold", "writeSurplus", "()V"⟩, 9) := ⟨⟨by decide +kernel, by decide +kernel⟩, List.mem_of_getElem? (i := 13) (by decide +kernel), List.mem_of_getElem? (i := 451) (by decide +kernel), List.mem_of_getElem? (i := 452) (by decide +kernel)⟩
theorem lw_p12 : lw_okq (⟨"PageHold", "makeHole", "(I)Z"⟩, 9) := ⟨⟨by decide +kernel, by decide +kernel⟩, List.mem_of_getElem? (i := 13) (by decide +kernel), List.mem_of_getElem? (i := 475) (by decide +kernel), List.mem_of_getElem? (i := 476) (by decide +kernel)⟩
theorem lw_p13 : lw_okq (⟨"PageHold", "cutLastPage", "(II)Z"⟩, 9) := ⟨⟨by decide +kernel, by decide +kernel⟩, List.mem_of_getElem? (i := 13) (by decide +kernel), List.mem_of_getElem? (i := 483) (by decide +kernel), List.mem_of_getElem? (i := 484) (by decide +kernel)⟩
theorem lw_p14 : lw_okq (⟨"PageHold", "leastDirtyBlock", "(I)I"⟩, 9) := ⟨⟨by decide +kernel, by decide +kernel⟩, List.mem_of_getElem? (i := 13) (by decide +kernel), List.mem_of_getElem? (i := 502) (by decide +kernel), List.mem_of_getElem? (i := 503) (by decide +kernel)⟩
theorem lw_p15 : lw_okq (⟨"PageHold", "dirtyBlockIn", "(I)I"⟩, 9) := ⟨⟨by decide +kernel, by decide +kernel⟩, List.mem_of_getElem? (i := 13) (by decide +kernel), List.mem_of_getElem? (i := 506) (by decide +kernel), List.mem_of_getElem? (i := 507) (by decide +kernel)⟩
def lw_privs_1 : List (MethodName × Nat) := [(⟨"PageHold", "readPage", "(IIII)I"⟩, 9), (⟨"PageHold", "touch", "(I)I"⟩, 9), (⟨"PageHold", "bringIn", "(I)I"⟩, 9), (⟨"PageHold", "lookAtInactive", "()I"⟩, 9), (⟨"PageHold", "flush", "(I)Z"⟩, 9), (⟨"PageHold", "giveBlock", "(I)Z"⟩, 9), (⟨"PageHold$Disk", "note", "(II)V"⟩, 11), (⟨"PageHold", "lookAtActive", "()I"⟩, 9), (⟨"PageHold", "evict", "(I)V"⟩, 9), (⟨"PageHold", "bringAhead", "(II)V"⟩, 9), (⟨"PageHold", "putRow", "(III)I"⟩, 9), (⟨"PageHold", "writeSurplus", "()V"⟩, 9), (⟨"PageHold", "makeHole", "(I)Z"⟩, 9), (⟨"PageHold", "cutLastPage", "(II)Z"⟩, 9), (⟨"PageHold", "leastDirtyBlock", "(I)I"⟩, 9), (⟨"PageHold", "dirtyBlockIn", "(I)I"⟩, 9)]
theorem lw_r1 : ∀ q ∈ lw_privs_1, lw_okq q := List.forall_mem_cons.mpr ⟨lw_p0, List.forall_mem_cons.mpr ⟨lw_p1, List.forall_mem_cons.mpr ⟨lw_p2, List.forall_mem_cons.mpr ⟨lw_p3, List.forall_mem_cons.mpr ⟨lw_p4, List.forall_mem_cons.mpr ⟨lw_p5, List.forall_mem_cons.mpr ⟨lw_p6, List.forall_mem_cons.mpr ⟨lw_p7, List.forall_mem_cons.mpr ⟨lw_p8, List.forall_mem_cons.mpr ⟨lw_p9, List.forall_mem_cons.mpr ⟨lw_p10, List.forall_mem_cons.mpr ⟨lw_p11, List.forall_mem_cons.mpr ⟨lw_p12, List.forall_mem_cons.mpr ⟨lw_p13, List.forall_mem_cons.mpr ⟨lw_p14, List.forall_mem_cons.mpr ⟨lw_p15, fun _ h => absurd h List.not_mem_nil⟩⟩⟩⟩⟩⟩⟩⟩⟩⟩⟩⟩⟩⟩⟩⟩
theorem lw_p16 : lw_okq (⟨"PageHold", "dirtyFrameAt", "(I)I"⟩, 9) := ⟨⟨by decide +kernel, by decide +kernel⟩, List.mem_of_getElem? (i := 13) (by decide +kernel), List.mem_of_getElem? (i := 510) (by decide +kernel), List.mem_of_getElem? (i := 511) (by decide +kernel)⟩
theorem lw_p17 : lw_okq (⟨"PageHold", "writeAged", "()I"⟩, 9) := ⟨⟨by decide +kernel, by decide +kernel⟩, List.mem_of_getElem? (i := 13) (by decide +kernel), List.mem_of_getElem? (i := 518) (by decide +kernel), List.mem_of_getElem? (i := 519) (by decide +kernel)⟩
theorem lw_p18 : lw_okq (⟨"PageHold", "isMarked", "(II)Z"⟩, 9) := ⟨⟨by decide +kernel, by decide +kernel⟩, List.mem_of_getElem? (i := 13) (by decide +kernel), List.mem_of_getElem? (i := 566) (by decide +kernel), List.mem_of_getElem? (i := 567) (by decide +kernel)⟩
theorem lw_p19 : lw_okq (⟨"PageHold", "treeHeight", "(I)I"⟩, 9) := ⟨⟨by decide +kernel, by decide +kernel⟩, List.mem_of_getElem? (i := 13) (by decide +kernel), List.mem_of_getElem? (i := 574) (by decide +kernel), List.mem_of_getElem? (i := 575) (by decide +kernel)⟩
theorem lw_p20 : lw_okq (⟨"PageHold", "isEntry", "(I)Z"⟩, 9) := ⟨⟨by decide +kernel, by decide +kernel⟩, List.mem_of_getElem? (i := 13) (by decide +kernel), List.mem_of_getElem? (i := 578) (by decide +kernel), List.mem_of_getElem? (i := 579) (by decide +kernel)⟩
theorem lw_p21 : lw_okq (⟨"PageHold", "treeNodes", "(I)I"⟩, 9) := ⟨⟨by decide +kernel, by decide +kernel⟩, List.mem_of_getElem? (i := 13) (by decide +kernel), List.mem_of_getElem? (i := 582) (by decide +kernel), List.mem_of_getElem? (i := 583) (by decide +kernel)⟩
theorem lw_p22 : lw_okq (⟨"PageHold", "treeEntries", "(I)I"⟩, 9) := ⟨⟨by decide +kernel, by decide +kernel⟩, List.mem_of_getElem? (i := 13) (by decide +kernel), List.mem_of_getElem? (i := 586) (by decide +kernel), List.mem_of_getElem? (i := 587) (by decide +kernel)⟩
theorem lw_p23 : lw_okq (⟨"PageHoldModel", "isIn", "(I)Z"⟩, 35) := ⟨⟨by decide +kernel, by decide +kernel⟩, List.mem_of_getElem? (i := 613) (by decide +kernel), List.mem_of_getElem? (i := 734) (by decide +kernel), List.mem_of_getElem? (i := 735) (by decide +kernel)⟩
theorem lw_p24 : lw_okq (⟨"PageHoldModel", "touch", "(I)Z"⟩, 35) := ⟨⟨by decide +kernel, by decide +kernel⟩, List.mem_of_getElem? (i := 613) (by decide +kernel), List.mem_of_getElem? (i := 738) (by decide +kernel), List.mem_of_getElem? (i := 739) (by decide +kernel)⟩
theorem lw_p25 : lw_okq (⟨"PageHoldModel", "seenAgain", "(I)V"⟩, 35) := ⟨⟨by decide +kernel, by decide +kernel⟩, List.mem_of_getElem? (i := 613) (by decide +kernel), List.mem_of_getElem? (i := 742) (by decide +kernel), List.mem_of_getElem? (i := 743) (by decide +kernel)⟩
theorem lw_p26 : lw_okq (⟨"PageHoldModel", "move", "(IZ)V"⟩, 35) := ⟨⟨by decide +kernel, by decide +kernel⟩, List.mem_of_getElem? (i := 613) (by decide +kernel), List.mem_of_getElem? (i := 746) (by decide +kernel), List.mem_of_getElem? (i := 747) (by decide +kernel)⟩
theorem lw_p27 : lw_okq (⟨"PageHoldModel", "fromList", "(I)V"⟩, 35) := ⟨⟨by decide +kernel, by decide +kernel⟩, List.mem_of_getElem? (i := 613) (by decide +kernel), List.mem_of_getElem? (i := 750) (by decide +kernel), List.mem_of_getElem? (i := 751) (by decide +kernel)⟩
theorem lw_p28 : lw_okq (⟨"PageHoldModel", "placeOf", "(I)I"⟩, 35) := ⟨⟨by decide +kernel, by decide +kernel⟩, List.mem_of_getElem? (i := 613) (by decide +kernel), List.mem_of_getElem? (i := 754) (by decide +kernel), List.mem_of_getElem? (i := 755) (by decide +kernel)⟩
theorem lw_p29 : lw_okq (⟨"PageHoldModel", "toFront", "(IZ)V"⟩, 35) := ⟨⟨by decide +kernel, by decide +kernel⟩, List.mem_of_getElem? (i := 613) (by decide +kernel), List.mem_of_getElem? (i := 758) (by decide +kernel), List.mem_of_getElem? (i := 759) (by decide +kernel)⟩
theorem lw_p30 : lw_okq (⟨"PageHoldModel", "bringIn", "(I)Z"⟩, 35) := ⟨⟨by decide +kernel, by decide +kernel⟩, List.mem_of_getElem? (i := 613) (by decide +kernel), List.mem_of_getElem? (i := 762) (by decide +kernel), List.mem_of_getElem? (i := 763) (by decide +kernel)⟩
theorem lw_p31 : lw_okq (⟨"PageHoldModel", "frame", "()I"⟩, 35) := ⟨⟨by decide +kernel, by decide +kernel⟩, List.mem_of_getElem? (i := 613) (by decide +kernel), List.mem_of_getElem? (i := 766) (by decide +kernel), List.mem_of_getElem? (i := 767) (by decide +kernel)⟩
def lw_privs_2 : List (MethodName × Nat) := [(⟨"PageHold", "dirtyFrameAt", "(I)I"⟩, 9), (⟨"PageHold", "writeAged", "()I"⟩, 9), (⟨"PageHold", "isMarked", "(II)Z"⟩, 9), (⟨"PageHold", "treeHeight", "(I)I"⟩, 9), (⟨"PageHold", "isEntry", "(I)Z"⟩, 9), (⟨"PageHold", "treeNodes", "(I)I"⟩, 9), (⟨"PageHold", "treeEntries", "(I)I"⟩, 9), (⟨"PageHoldModel", "isIn", "(I)Z"⟩, 35), (⟨"PageHoldModel", "touch", "(I)Z"⟩, 35), (⟨"PageHoldModel", "seenAgain", "(I)V"⟩, 35), (⟨"PageHoldModel", "move", "(IZ)V"⟩, 35), (⟨"PageHoldModel", "fromList", "(I)V"⟩, 35), (⟨"PageHoldModel", "placeOf", "(I)I"⟩, 35), (⟨"PageHoldModel", "toFront", "(IZ)V"⟩, 35), (⟨"PageHoldModel", "bringIn", "(I)Z"⟩, 35), (⟨"PageHoldModel", "frame", "()I"⟩, 35)]
theorem lw_r2 : ∀ q ∈ lw_privs_2, lw_okq q := List.forall_mem_cons.mpr ⟨lw_p16, List.forall_mem_cons.mpr ⟨lw_p17, List.forall_mem_cons.mpr ⟨lw_p18, List.forall_mem_cons.mpr ⟨lw_p19, List.forall_mem_cons.mpr ⟨lw_p20, List.forall_mem_cons.mpr ⟨lw_p21, List.forall_mem_cons.mpr ⟨lw_p22, List.forall_mem_cons.mpr ⟨lw_p23, List.forall_mem_cons.mpr ⟨lw_p24, List.forall_mem_cons.mpr ⟨lw_p25, List.forall_mem_cons.mpr ⟨lw_p26, List.forall_mem_cons.mpr ⟨lw_p27, List.forall_mem_cons.mpr ⟨lw_p28, List.forall_mem_cons.mpr ⟨lw_p29, List.forall_mem_cons.mpr ⟨lw_p30, List.forall_mem_cons.mpr ⟨lw_p31, fun _ h => absurd h List.not_mem_nil⟩⟩⟩⟩⟩⟩⟩⟩⟩⟩⟩⟩⟩⟩⟩⟩
theorem lw_p32 : lw_okq (⟨"PageHoldModel", "isDirty", "(I)Z"⟩, 35) := ⟨⟨by decide +kernel, by decide +kernel⟩, List.mem_of_getElem? (i := 613) (by decide +kernel), List.mem_of_getElem? (i := 770) (by decide +kernel), List.mem_of_getElem? (i := 771) (by decide +kernel)⟩
theorem lw_p33 : lw_okq (⟨"PageHoldModel", "written", "(I)Z"⟩, 35) := ⟨⟨by decide +kernel, by decide +kernel⟩, List.mem_of_getElem? (i := 613) (by decide +kernel), List.mem_of_getElem? (i := 774) (by decide +kernel), List.mem_of_getElem? (i := 775) (by decide +kernel)⟩
theorem lw_p34 : lw_okq (⟨"PageHoldModel", "hasBlock", "(I)Z"⟩, 35) := ⟨⟨by decide +kernel, by decide +kernel⟩, List.mem_of_getElem? (i := 613) (by decide +kernel), List.mem_of_getElem? (i := 778) (by decide +kernel), List.mem_of_getElem? (i := 779) (by decide +kernel)⟩
theorem lw_p35 : lw_okq (⟨"PageHoldModel", "wrong", "(II)V"⟩, 35) := ⟨⟨by decide +kernel, by decide +kernel⟩, List.mem_of_getElem? (i := 613) (by decide +kernel), List.mem_of_getElem? (i := 782) (by decide +kernel), List.mem_of_getElem? (i := 783) (by decide +kernel)⟩
theorem lw_p36 : lw_okq (⟨"PageHoldModel", "record", "(II)V"⟩, 35) := ⟨⟨by decide +kernel, by decide +kernel⟩, List.mem_of_getElem? (i := 613) (by decide +kernel), List.mem_of_getElem? (i := 786) (by decide +kernel), List.mem_of_getElem? (i := 787) (by decide +kernel)⟩
theorem lw_p37 : lw_okq (⟨"PageHoldModel", "evict", "(I)V"⟩, 35) := ⟨⟨by decide +kernel, by decide +kernel⟩, List.mem_of_getElem? (i := 613) (by decide +kernel), List.mem_of_getElem? (i := 790) (by decide +kernel), List.mem_of_getElem? (i := 791) (by decide +kernel)⟩
theorem lw_p38 : lw_okq (⟨"PageHoldModel", "goOut", "(I)V"⟩, 35) := ⟨⟨by decide +kernel, by decide +kernel⟩, List.mem_of_getElem? (i := 613) (by decide +kernel), List.mem_of_getElem? (i := 794) (by decide +kernel), List.mem_of_getElem? (i := 795) (by decide +kernel)⟩
theorem lw_p39 : lw_okq (⟨"PageHoldModel", "noShadow", "(I)V"⟩, 35) := ⟨⟨by decide +kernel, by decide +kernel⟩, List.mem_of_getElem? (i := 613) (by decide +kernel), List.mem_of_getElem? (i := 798) (by decide +kernel), List.mem_of_getElem? (i := 799) (by decide +kernel)⟩
theorem lw_p40 : lw_okq (⟨"PageHoldModel", "ahead", "(II)V"⟩, 35) := ⟨⟨by decide +kernel, by decide +kernel⟩, List.mem_of_getElem? (i := 613) (by decide +kernel), List.mem_of_getElem? (i := 802) (by decide +kernel), List.mem_of_getElem? (i := 803) (by decide +kernel)⟩
theorem lw_p41 : lw_okq (⟨"PageHoldModel", "put", "(IIIZJI)I"⟩, 35) := ⟨⟨by decide +kernel, by decide +kernel⟩, List.mem_of_getElem? (i := 613) (by decide +kernel), List.mem_of_getElem? (i := 814) (by decide +kernel), List.mem_of_getElem? (i := 815) (by decide +kernel)⟩
theorem lw_p42 : lw_okq (⟨"PageHoldModel", "lessDirty", "()V"⟩, 35) := ⟨⟨by decide +kernel, by decide +kernel⟩, List.mem_of_getElem? (i := 613) (by decide +kernel), List.mem_of_getElem? (i := 818) (by decide +kernel), List.mem_of_getElem? (i := 819) (by decide +kernel)⟩
theorem lw_p43 : lw_okq (⟨"PageHoldModel", "dirties", "()I"⟩, 35) := ⟨⟨by decide +kernel, by decide +kernel⟩, List.mem_of_getElem? (i := 613) (by decide +kernel), List.mem_of_getElem? (i := 822) (by decide +kernel), List.mem_of_getElem? (i := 823) (by decide +kernel)⟩
theorem lw_p44 : lw_okq (⟨"PageHoldModel", "noneTried", "()V"⟩, 35) := ⟨⟨by decide +kernel, by decide +kernel⟩, List.mem_of_getElem? (i := 613) (by decide +kernel), List.mem_of_getElem? (i := 826) (by decide +kernel), List.mem_of_getElem? (i := 827) (by decide +kernel)⟩
theorem lw_p45 : lw_okq (⟨"PageHoldModel", "oldest", "(I)I"⟩, 35) := ⟨⟨by decide +kernel, by decide +kernel⟩, List.mem_of_getElem? (i := 613) (by decide +kernel), List.mem_of_getElem? (i := 830) (by decide +kernel), List.mem_of_getElem? (i := 831) (by decide +kernel)⟩
theorem lw_p46 : lw_okq (⟨"PageHoldModel", "isHoled", "(I)Z"⟩, 35) := ⟨⟨by decide +kernel, by decide +kernel⟩, List.mem_of_getElem? (i := 613) (by decide +kernel), List.mem_of_getElem? (i := 842) (by decide +kernel), List.mem_of_getElem? (i := 843) (by decide +kernel)⟩
theorem lw_p47 : lw_okq (⟨"PageHoldModel", "pins", "()I"⟩, 35) := ⟨⟨by decide +kernel, by decide +kernel⟩, List.mem_of_getElem? (i := 613) (by decide +kernel), List.mem_of_getElem? (i := 881) (by decide +kernel), List.mem_of_getElem? (i := 882) (by decide +kernel)⟩
def lw_privs_3 : List (MethodName × Nat) := [(⟨"PageHoldModel", "isDirty", "(I)Z"⟩, 35), (⟨"PageHoldModel", "written", "(I)Z"⟩, 35), (⟨"PageHoldModel", "hasBlock", "(I)Z"⟩, 35), (⟨"PageHoldModel", "wrong", "(II)V"⟩, 35), (⟨"PageHoldModel", "record", "(II)V"⟩, 35), (⟨"PageHoldModel", "evict", "(I)V"⟩, 35), (⟨"PageHoldModel", "goOut", "(I)V"⟩, 35), (⟨"PageHoldModel", "noShadow", "(I)V"⟩, 35), (⟨"PageHoldModel", "ahead", "(II)V"⟩, 35), (⟨"PageHoldModel", "put", "(IIIZJI)I"⟩, 35), (⟨"PageHoldModel", "lessDirty", "()V"⟩, 35), (⟨"PageHoldModel", "dirties", "()I"⟩, 35), (⟨"PageHoldModel", "noneTried", "()V"⟩, 35), (⟨"PageHoldModel", "oldest", "(I)I"⟩, 35), (⟨"PageHoldModel", "isHoled", "(I)Z"⟩, 35), (⟨"PageHoldModel", "pins", "()I"⟩, 35)]
theorem lw_r3 : ∀ q ∈ lw_privs_3, lw_okq q := List.forall_mem_cons.mpr ⟨lw_p32, List.forall_mem_cons.mpr ⟨lw_p33, List.forall_mem_cons.mpr ⟨lw_p34, List.forall_mem_cons.mpr ⟨lw_p35, List.forall_mem_cons.mpr ⟨lw_p36, List.forall_mem_cons.mpr ⟨lw_p37, List.forall_mem_cons.mpr ⟨lw_p38, List.forall_mem_cons.mpr ⟨lw_p39, List.forall_mem_cons.mpr ⟨lw_p40, List.forall_mem_cons.mpr ⟨lw_p41, List.forall_mem_cons.mpr ⟨lw_p42, List.forall_mem_cons.mpr ⟨lw_p43, List.forall_mem_cons.mpr ⟨lw_p44, List.forall_mem_cons.mpr ⟨lw_p45, List.forall_mem_cons.mpr ⟨lw_p46, List.forall_mem_cons.mpr ⟨lw_p47, fun _ h => absurd h List.not_mem_nil⟩⟩⟩⟩⟩⟩⟩⟩⟩⟩⟩⟩⟩⟩⟩⟩
theorem lw_p48 : lw_okq (⟨"PageHoldModel", "hasMark", "(II)Z"⟩, 35) := ⟨⟨by decide +kernel, by decide +kernel⟩, List.mem_of_getElem? (i := 613) (by decide +kernel), List.mem_of_getElem? (i := 897) (by decide +kernel), List.mem_of_getElem? (i := 898) (by decide +kernel)⟩
theorem lw_p49 : lw_okq (⟨"PageHoldModel", "height", "(I)I"⟩, 35) := ⟨⟨by decide +kernel, by decide +kernel⟩, List.mem_of_getElem? (i := 613) (by decide +kernel), List.mem_of_getElem? (i := 905) (by decide +kernel), List.mem_of_getElem? (i := 906) (by decide +kernel)⟩
theorem lw_p50 : lw_okq (⟨"PageHoldModel", "isEntry", "(I)Z"⟩, 35) := ⟨⟨by decide +kernel, by decide +kernel⟩, List.mem_of_getElem? (i := 613) (by decide +kernel), List.mem_of_getElem? (i := 909) (by decide +kernel), List.mem_of_getElem? (i := 910) (by decide +kernel)⟩
theorem lw_p51 : lw_okq (⟨"PageHoldModel", "nodes", "(I)I"⟩, 35) := ⟨⟨by decide +kernel, by decide +kernel⟩, List.mem_of_getElem? (i := 613) (by decide +kernel), List.mem_of_getElem? (i := 913) (by decide +kernel), List.mem_of_getElem? (i := 914) (by decide +kernel)⟩
theorem lw_p52 : lw_okq (⟨"PageHoldModel", "pagesIn", "()I"⟩, 35) := ⟨⟨by decide +kernel, by decide +kernel⟩, List.mem_of_getElem? (i := 613) (by decide +kernel), List.mem_of_getElem? (i := 933) (by decide +kernel), List.mem_of_getElem? (i := 934) (by decide +kernel)⟩
theorem lw_p53 : lw_okq (⟨"PageHoldModel", "freeBlocks", "()I"⟩, 35) := ⟨⟨by decide +kernel, by decide +kernel⟩, List.mem_of_getElem? (i := 613) (by decide +kernel), List.mem_of_getElem? (i := 937) (by decide +kernel), List.mem_of_getElem? (i := 938) (by decide +kernel)⟩
theorem lw_p54 : lw_okq (⟨"PageHoldModel", "wrongFiles", "()I"⟩, 35) := ⟨⟨by decide +kernel, by decide +kernel⟩, List.mem_of_getElem? (i := 613) (by decide +kernel), List.mem_of_getElem? (i := 941) (by decide +kernel), List.mem_of_getElem? (i := 942) (by decide +kernel)⟩
def lw_privs_4 : List (MethodName × Nat) := [(⟨"PageHoldModel", "hasMark", "(II)Z"⟩, 35), (⟨"PageHoldModel", "height", "(I)I"⟩, 35), (⟨"PageHoldModel", "isEntry", "(I)Z"⟩, 35), (⟨"PageHoldModel", "nodes", "(I)I"⟩, 35), (⟨"PageHoldModel", "pagesIn", "()I"⟩, 35), (⟨"PageHoldModel", "freeBlocks", "()I"⟩, 35), (⟨"PageHoldModel", "wrongFiles", "()I"⟩, 35)]
theorem lw_r4 : ∀ q ∈ lw_privs_4, lw_okq q := List.forall_mem_cons.mpr ⟨lw_p48, List.forall_mem_cons.mpr ⟨lw_p49, List.forall_mem_cons.mpr ⟨lw_p50, List.forall_mem_cons.mpr ⟨lw_p51, List.forall_mem_cons.mpr ⟨lw_p52, List.forall_mem_cons.mpr ⟨lw_p53, List.forall_mem_cons.mpr ⟨lw_p54, fun _ h => absurd h List.not_mem_nil⟩⟩⟩⟩⟩⟩⟩
def lw_privs : List (MethodName × Nat) := lw_privs_1 ++ (lw_privs_2 ++ (lw_privs_3 ++ (lw_privs_4)))
def lw_tbl : List Cond := k2_sels lw_privs ++ tables_1
theorem lw_privs_ok : ∀ q ∈ lw_privs, lw_okq q := by
  show ∀ q ∈ lw_privs_1 ++ (lw_privs_2 ++ (lw_privs_3 ++ (lw_privs_4))), lw_okq q
  exact List.forall_mem_append.mpr ⟨lw_r1, List.forall_mem_append.mpr ⟨lw_r2, List.forall_mem_append.mpr ⟨lw_r3, lw_r4⟩⟩⟩
end
section
def RX0 : String := "PageHold$Disk"
def TX0 : u_T := fun k => match k with
  | 0 => ("PageHold$Disk", "bytes", "LPageHold$Words;", true)
  | 1 => ("PageHold$Disk", "fails", "[Z", true)
  | 2 => ("PageHold$Disk", "taken", "[Z", true)
  | 3 => ("PageHold$Disk", "free", "I", false)
  | 4 => ("PageHold$Disk", "reads", "I", false)
  | 5 => ("PageHold$Disk", "writes", "I", false)
  | 6 => ("PageHold$Disk", "kinds", "[I", true)
  | 7 => ("PageHold$Disk", "firsts", "[I", true)
  | 8 => ("PageHold$Disk", "lengths", "[I", true)
  | 9 => ("PageHold$Disk", "runs", "I", false)
  | _ => ("PageHold$Disk", "recordIsOld", "Z", false)
def tyX0 : Nat → FieldType := fun k => match k with
  | 0 => .object "PageHold$Words"
  | 1 => .array .boolean
  | 2 => .array .boolean
  | 3 => .int
  | 4 => .int
  | 5 => .int
  | 6 => .array .int
  | 7 => .array .int
  | 8 => .array .int
  | 9 => .int
  | _ => .boolean
theorem nmX0 : ∀ a, a < 11 → ∀ b, b < 11 → a ≠ b → (TX0 a).2.1 ≠ (TX0 b).2.1 := by decide +kernel
theorem tyX0_ok : ∀ k, k < 11 → parseFieldDescriptor (TX0 k).2.2.1 = some (tyX0 k) := by decide +kernel
abbrev cX0_init : ByteArray := prog_2_method_1_code
def yX0_init : MethodName := ⟨RX0, "<init>", "(I)V"⟩
abbrev cX0_begin : ByteArray := prog_2_method_2_code
def yX0_begin : MethodName := ⟨RX0, "begin", "()V"⟩
abbrev cX0_has : ByteArray := prog_2_method_3_code
def yX0_has : MethodName := ⟨RX0, "has", "(I)Z"⟩
abbrev cX0_leastFree : ByteArray := prog_2_method_4_code
def yX0_leastFree : MethodName := ⟨RX0, "leastFree", "()I"⟩
abbrev cX0_giveBack : ByteArray := prog_2_method_5_code
def yX0_giveBack : MethodName := ⟨RX0, "giveBack", "(I)V"⟩
abbrev cX0_load : ByteArray := prog_2_method_6_code
def yX0_load : MethodName := ⟨RX0, "load", "(ILPageHold$Words;I)V"⟩
abbrev cX0_save : ByteArray := prog_2_method_7_code
def yX0_save : MethodName := ⟨RX0, "save", "(ILPageHold$Words;II)Z"⟩
abbrev cX0_note : ByteArray := prog_2_method_8_code
def yX0_note : MethodName := ⟨RX0, "note", "(II)V"⟩
def RX1 : String := "PageHold$Files"
def TX1 : u_T := fun k => match k with
  | 0 => ("PageHold$Files", "sizes", "[I", true)
  | 1 => ("PageHold$Files", "windows", "[I", true)
  | 2 => ("PageHold$Files", "goOn", "[I", true)
  | _ => ("PageHold$Files", "errors", "[I", true)
def tyX1 : Nat → FieldType := fun k => match k with
  | 0 => .array .int
  | 1 => .array .int
  | 2 => .array .int
  | _ => .array .int
theorem nmX1 : ∀ a, a < 4 → ∀ b, b < 4 → a ≠ b → (TX1 a).2.1 ≠ (TX1 b).2.1 := by decide +kernel
theorem tyX1_ok : ∀ k, k < 4 → parseFieldDescriptor (TX1 k).2.2.1 = some (tyX1 k) := by decide +kernel
abbrev cX1_init : ByteArray := prog_3_method_1_code
def yX1_init : MethodName := ⟨RX1, "<init>", "()V"⟩
abbrev cX1_reset : ByteArray := prog_3_method_2_code
def yX1_reset : MethodName := ⟨RX1, "reset", "()V"⟩
abbrev cX1_setError : ByteArray := prog_3_method_3_code
def yX1_setError : MethodName := ⟨RX1, "setError", "(II)V"⟩
abbrev cX1_withError : ByteArray := prog_3_method_4_code
def yX1_withError : MethodName := ⟨RX1, "withError", "()I"⟩
def RX2 : String := "PageHold$Frames"
def TX2 : u_T := fun k => match k with
  | 0 => ("PageHold$Frames", "most", "I", true)
  | 1 => ("PageHold$Frames", "bytes", "LPageHold$Words;", true)
  | 2 => ("PageHold$Frames", "spots", "[I", true)
  | 3 => ("PageHold$Frames", "since", "[I", true)
  | 4 => ("PageHold$Frames", "referenced", "[Z", true)
  | 5 => ("PageHold$Frames", "pinned", "[Z", true)
  | 6 => ("PageHold$Frames", "onActive", "[Z", true)
  | 7 => ("PageHold$Frames", "frameBySpot", "[I", true)
  | 8 => ("PageHold$Frames", "active", "LPageHold$Order;", true)
  | 9 => ("PageHold$Frames", "inactive", "LPageHold$Order;", true)
  | 10 => ("PageHold$Frames", "dirtyCount", "I", false)
  | _ => ("PageHold$Frames", "pinnedCount", "I", false)
def tyX2 : Nat → FieldType := fun k => match k with
  | 0 => .int
  | 1 => .object "PageHold$Words"
  | 2 => .array .int
  | 3 => .array .int
  | 4 => .array .boolean
  | 5 => .array .boolean
  | 6 => .array .boolean
  | 7 => .array .int
  | 8 => .object "PageHold$Order"
  | 9 => .object "PageHold$Order"
  | 10 => .int
  | _ => .int
theorem nmX2 : ∀ a, a < 12 → ∀ b, b < 12 → a ≠ b → (TX2 a).2.1 ≠ (TX2 b).2.1 := by decide +kernel
theorem tyX2_ok : ∀ k, k < 12 → parseFieldDescriptor (TX2 k).2.2.1 = some (tyX2 k) := by decide +kernel
abbrev cX2_init : ByteArray := prog_4_method_1_code
def yX2_init : MethodName := ⟨RX2, "<init>", "(I)V"⟩
abbrev cX2_frameOf : ByteArray := prog_4_method_2_code
def yX2_frameOf : MethodName := ⟨RX2, "frameOf", "(I)I"⟩
abbrev cX2_spotIn : ByteArray := prog_4_method_3_code
def yX2_spotIn : MethodName := ⟨RX2, "spotIn", "(I)I"⟩
abbrev cX2_leastFree : ByteArray := prog_4_method_4_code
def yX2_leastFree : MethodName := ⟨RX2, "leastFree", "()I"⟩
abbrev cX2_enter : ByteArray := prog_4_method_5_code
def yX2_enter : MethodName := ⟨RX2, "enter", "(IIZ)V"⟩
abbrev cX2_leave : ByteArray := prog_4_method_6_code
def yX2_leave : MethodName := ⟨RX2, "leave", "(I)V"⟩
abbrev cX2_toFront : ByteArray := prog_4_method_7_code
def yX2_toFront : MethodName := ⟨RX2, "toFront", "(IZ)V"⟩
abbrev cX2_seeAgain : ByteArray := prog_4_method_8_code
def yX2_seeAgain : MethodName := ⟨RX2, "seeAgain", "(I)V"⟩
abbrev cX2_balance : ByteArray := prog_4_method_9_code
def yX2_balance : MethodName := ⟨RX2, "balance", "()V"⟩
abbrev cX2_placeOf : ByteArray := prog_4_method_10_code
def yX2_placeOf : MethodName := ⟨RX2, "placeOf", "(I)I"⟩
abbrev cX2_isDirty : ByteArray := prog_4_method_11_code
def yX2_isDirty : MethodName := ⟨RX2, "isDirty", "(I)Z"⟩
abbrev cX2_soil : ByteArray := prog_4_method_12_code
def yX2_soil : MethodName := ⟨RX2, "soil", "(II)V"⟩
abbrev cX2_clean : ByteArray := prog_4_method_13_code
def yX2_clean : MethodName := ⟨RX2, "clean", "(I)V"⟩
abbrev cX2_setPinned : ByteArray := prog_4_method_14_code
def yX2_setPinned : MethodName := ⟨RX2, "setPinned", "(IZ)V"⟩
abbrev cX2_ageKey : ByteArray := prog_4_method_15_code
def yX2_ageKey : MethodName := ⟨RX2, "ageKey", "(I)J"⟩
abbrev cX2_oldestDirty : ByteArray := prog_4_method_16_code
def yX2_oldestDirty : MethodName := ⟨RX2, "oldestDirty", "(J)I"⟩
def RX3 : String := "PageHold$Order"
def TX3 : u_T := fun k => match k with
  | 0 => ("PageHold$Order", "row", "[I", true)
  | _ => ("PageHold$Order", "count", "I", false)
def tyX3 : Nat → FieldType := fun k => match k with
  | 0 => .array .int
  | _ => .int
theorem nmX3 : ∀ a, a < 2 → ∀ b, b < 2 → a ≠ b → (TX3 a).2.1 ≠ (TX3 b).2.1 := by decide +kernel
theorem tyX3_ok : ∀ k, k < 2 → parseFieldDescriptor (TX3 k).2.2.1 = some (tyX3 k) := by decide +kernel
abbrev cX3_init : ByteArray := prog_5_method_1_code
def yX3_init : MethodName := ⟨RX3, "<init>", "(I)V"⟩
abbrev cX3_at : ByteArray := prog_5_method_2_code
def yX3_at : MethodName := ⟨RX3, "at", "(I)I"⟩
abbrev cX3_last : ByteArray := prog_5_method_3_code
def yX3_last : MethodName := ⟨RX3, "last", "()I"⟩
abbrev cX3_placeOf : ByteArray := prog_5_method_4_code
def yX3_placeOf : MethodName := ⟨RX3, "placeOf", "(I)I"⟩
abbrev cX3_addFront : ByteArray := prog_5_method_5_code
def yX3_addFront : MethodName := ⟨RX3, "addFront", "(I)V"⟩
abbrev cX3_take : ByteArray := prog_5_method_6_code
def yX3_take : MethodName := ⟨RX3, "take", "(I)V"⟩
def RX4 : String := "PageHold$Shadows"
def TX4 : u_T := fun k => match k with
  | 0 => ("PageHold$Shadows", "numberOf", "[I", true)
  | 1 => ("PageHold$Shadows", "row", "[I", true)
  | 2 => ("PageHold$Shadows", "count", "I", false)
  | _ => ("PageHold$Shadows", "evicted", "I", false)
def tyX4 : Nat → FieldType := fun k => match k with
  | 0 => .array .int
  | 1 => .array .int
  | 2 => .int
  | _ => .int
theorem nmX4 : ∀ a, a < 4 → ∀ b, b < 4 → a ≠ b → (TX4 a).2.1 ≠ (TX4 b).2.1 := by decide +kernel
theorem tyX4_ok : ∀ k, k < 4 → parseFieldDescriptor (TX4 k).2.2.1 = some (tyX4 k) := by decide +kernel
abbrev cX4_init : ByteArray := prog_6_method_1_code
def yX4_init : MethodName := ⟨RX4, "<init>", "(I)V"⟩
abbrev cX4_of : ByteArray := prog_6_method_2_code
def yX4_of : MethodName := ⟨RX4, "of", "(I)I"⟩
abbrev cX4_isRecent : ByteArray := prog_6_method_3_code
def yX4_isRecent : MethodName := ⟨RX4, "isRecent", "(II)Z"⟩
abbrev cX4_add : ByteArray := prog_6_method_4_code
def yX4_add : MethodName := ⟨RX4, "add", "(I)V"⟩
abbrev cX4_forget : ByteArray := prog_6_method_5_code
def yX4_forget : MethodName := ⟨RX4, "forget", "(I)V"⟩
abbrev cX4_forgetAll : ByteArray := prog_6_method_6_code
def yX4_forgetAll : MethodName := ⟨RX4, "forgetAll", "()V"⟩
def RX5 : String := "PageHold$Words"
def TX5 : u_T := fun k => match k with
  | _ => ("PageHold$Words", "row", "[J", true)
def tyX5 : Nat → FieldType := fun k => match k with
  | _ => .array .long
theorem nmX5 : ∀ a, a < 1 → ∀ b, b < 1 → a ≠ b → (TX5 a).2.1 ≠ (TX5 b).2.1 := by decide +kernel
theorem tyX5_ok : ∀ k, k < 1 → parseFieldDescriptor (TX5 k).2.2.1 = some (tyX5 k) := by decide +kernel
abbrev cX5_init : ByteArray := prog_7_method_1_code
def yX5_init : MethodName := ⟨RX5, "<init>", "(I)V"⟩
abbrev cX5_byteAt : ByteArray := prog_7_method_2_code
def yX5_byteAt : MethodName := ⟨RX5, "byteAt", "(I)I"⟩
abbrev cX5_put : ByteArray := prog_7_method_3_code
def yX5_put : MethodName := ⟨RX5, "put", "(II)V"⟩
abbrev cX5_clear : ByteArray := prog_7_method_4_code
def yX5_clear : MethodName := ⟨RX5, "clear", "(II)V"⟩
abbrev cX5_copyPage : ByteArray := prog_7_method_5_code
def yX5_copyPage : MethodName := ⟨RX5, "copyPage", "(ILPageHold$Words;I)V"⟩
def RX6 : String := "PageHold"
def TX6 : u_T := fun k => match k with
  | 0 => ("PageHold", "store", "LPageHold$Disk;", true)
  | 1 => ("PageHold", "files", "LPageHold$Files;", true)
  | 2 => ("PageHold", "frames", "LPageHold$Frames;", true)
  | 3 => ("PageHold", "shadows", "LPageHold$Shadows;", true)
  | 4 => ("PageHold", "blockOf", "[I", true)
  | 5 => ("PageHold", "inHand", "LPageHold$Words;", true)
  | 6 => ("PageHold", "toWrite", "LPageHold$Words;", true)
  | 7 => ("PageHold", "handCount", "I", false)
  | _ => ("PageHold", "now", "I", false)
def tyX6 : Nat → FieldType := fun k => match k with
  | 0 => .object "PageHold$Disk"
  | 1 => .object "PageHold$Files"
  | 2 => .object "PageHold$Frames"
  | 3 => .object "PageHold$Shadows"
  | 4 => .array .int
  | 5 => .object "PageHold$Words"
  | 6 => .object "PageHold$Words"
  | 7 => .int
  | _ => .int
theorem nmX6 : ∀ a, a < 9 → ∀ b, b < 9 → a ≠ b → (TX6 a).2.1 ≠ (TX6 b).2.1 := by decide +kernel
theorem tyX6_ok : ∀ k, k < 9 → parseFieldDescriptor (TX6 k).2.2.1 = some (tyX6 k) := by decide +kernel
abbrev cX6_init : ByteArray := prog_1_method_1_code
def yX6_init : MethodName := ⟨RX6, "<init>", "(II)V"⟩
abbrev cX6_read : ByteArray := prog_1_method_2_code
def yX6_read : MethodName := ⟨RX6, "read", "(III)I"⟩
abbrev cX6_hand : ByteArray := prog_1_method_3_code
def yX6_hand : MethodName := ⟨RX6, "hand", "(I)I"⟩
abbrev cX6_write : ByteArray := prog_1_method_4_code
def yX6_write : MethodName := ⟨RX6, "write", "(IIJI)I"⟩
abbrev cX6_fill : ByteArray := prog_1_method_5_code
def yX6_fill : MethodName := ⟨RX6, "fill", "(IIII)I"⟩
abbrev cX6_truncate : ByteArray := prog_1_method_6_code
def yX6_truncate : MethodName := ⟨RX6, "truncate", "(II)I"⟩
abbrev cX6_punch : ByteArray := prog_1_method_7_code
def yX6_punch : MethodName := ⟨RX6, "punch", "(III)I"⟩
abbrev cX6_sync : ByteArray := prog_1_method_8_code
def yX6_sync : MethodName := ⟨RX6, "sync", "(I)I"⟩
abbrev cX6_syncAll : ByteArray := prog_1_method_9_code
def yX6_syncAll : MethodName := ⟨RX6, "syncAll", "()I"⟩
abbrev cX6_tick : ByteArray := prog_1_method_10_code
def yX6_tick : MethodName := ⟨RX6, "tick", "(I)I"⟩
abbrev cX6_drop : ByteArray := prog_1_method_11_code
def yX6_drop : MethodName := ⟨RX6, "drop", "()I"⟩
abbrev cX6_crash : ByteArray := prog_1_method_12_code
def yX6_crash : MethodName := ⟨RX6, "crash", "()I"⟩
abbrev cX6_fail : ByteArray := prog_1_method_13_code
def yX6_fail : MethodName := ⟨RX6, "fail", "(IZ)Z"⟩
abbrev cX6_pin : ByteArray := prog_1_method_14_code
def yX6_pin : MethodName := ⟨RX6, "pin", "(IIZ)Z"⟩
abbrev cX6_size : ByteArray := prog_1_method_15_code
def yX6_size : MethodName := ⟨RX6, "size", "(I)I"⟩
abbrev cX6_page : ByteArray := prog_1_method_16_code
def yX6_page : MethodName := ⟨RX6, "page", "(III)I"⟩
abbrev cX6_next : ByteArray := prog_1_method_17_code
def yX6_next : MethodName := ⟨RX6, "next", "(III)I"⟩
abbrev cX6_tree : ByteArray := prog_1_method_18_code
def yX6_tree : MethodName := ⟨RX6, "tree", "(II)I"⟩
abbrev cX6_listed : ByteArray := prog_1_method_19_code
def yX6_listed : MethodName := ⟨RX6, "listed", "(ZI)I"⟩
abbrev cX6_disk : ByteArray := prog_1_method_20_code
def yX6_disk : MethodName := ⟨RX6, "disk", "(II)I"⟩
abbrev cX6_run : ByteArray := prog_1_method_21_code
def yX6_run : MethodName := ⟨RX6, "run", "(II)I"⟩
abbrev cX6_told : ByteArray := prog_1_method_22_code
def yX6_told : MethodName := ⟨RX6, "told", "(I)I"⟩
abbrev cX6_isFile : ByteArray := prog_1_method_23_code
def yX6_isFile : MethodName := ⟨RX6, "isFile", "(I)Z"⟩
abbrev cX6_isPage : ByteArray := prog_1_method_24_code
def yX6_isPage : MethodName := ⟨RX6, "isPage", "(I)Z"⟩
abbrev cX6_isStretch : ByteArray := prog_1_method_25_code
def yX6_isStretch : MethodName := ⟨RX6, "isStretch", "(III)Z"⟩
abbrev cX6_spotOf : ByteArray := prog_1_method_26_code
def yX6_spotOf : MethodName := ⟨RX6, "spotOf", "(II)I"⟩
abbrev cX6_pagesIn : ByteArray := prog_1_method_27_code
def yX6_pagesIn : MethodName := ⟨RX6, "pagesIn", "(I)I"⟩
abbrev cX6_readPage : ByteArray := prog_1_method_28_code
def yX6_readPage : MethodName := ⟨RX6, "readPage", "(IIII)I"⟩
abbrev cX6_bringAhead : ByteArray := prog_1_method_29_code
def yX6_bringAhead : MethodName := ⟨RX6, "bringAhead", "(II)V"⟩
abbrev cX6_putRow : ByteArray := prog_1_method_30_code
def yX6_putRow : MethodName := ⟨RX6, "putRow", "(III)I"⟩
abbrev cX6_cutLastPage : ByteArray := prog_1_method_31_code
def yX6_cutLastPage : MethodName := ⟨RX6, "cutLastPage", "(II)Z"⟩
abbrev cX6_makeHole : ByteArray := prog_1_method_32_code
def yX6_makeHole : MethodName := ⟨RX6, "makeHole", "(I)Z"⟩
abbrev cX6_touch : ByteArray := prog_1_method_33_code
def yX6_touch : MethodName := ⟨RX6, "touch", "(I)I"⟩
abbrev cX6_bringIn : ByteArray := prog_1_method_34_code
def yX6_bringIn : MethodName := ⟨RX6, "bringIn", "(I)I"⟩
abbrev cX6_lookAtInactive : ByteArray := prog_1_method_35_code
def yX6_lookAtInactive : MethodName := ⟨RX6, "lookAtInactive", "()I"⟩
abbrev cX6_lookAtActive : ByteArray := prog_1_method_36_code
def yX6_lookAtActive : MethodName := ⟨RX6, "lookAtActive", "()I"⟩
abbrev cX6_evict : ByteArray := prog_1_method_37_code
def yX6_evict : MethodName := ⟨RX6, "evict", "(I)V"⟩
abbrev cX6_flush : ByteArray := prog_1_method_38_code
def yX6_flush : MethodName := ⟨RX6, "flush", "(I)Z"⟩
abbrev cX6_giveBlock : ByteArray := prog_1_method_39_code
def yX6_giveBlock : MethodName := ⟨RX6, "giveBlock", "(I)Z"⟩
abbrev cX6_writeSurplus : ByteArray := prog_1_method_40_code
def yX6_writeSurplus : MethodName := ⟨RX6, "writeSurplus", "()V"⟩
abbrev cX6_writeAged : ByteArray := prog_1_method_41_code
def yX6_writeAged : MethodName := ⟨RX6, "writeAged", "()I"⟩
abbrev cX6_leastDirtyBlock : ByteArray := prog_1_method_42_code
def yX6_leastDirtyBlock : MethodName := ⟨RX6, "leastDirtyBlock", "(I)I"⟩
abbrev cX6_dirtyFrameAt : ByteArray := prog_1_method_43_code
def yX6_dirtyFrameAt : MethodName := ⟨RX6, "dirtyFrameAt", "(I)I"⟩
abbrev cX6_dirtyBlockIn : ByteArray := prog_1_method_44_code
def yX6_dirtyBlockIn : MethodName := ⟨RX6, "dirtyBlockIn", "(I)I"⟩
abbrev cX6_isMarked : ByteArray := prog_1_method_45_code
def yX6_isMarked : MethodName := ⟨RX6, "isMarked", "(II)Z"⟩
abbrev cX6_isEntry : ByteArray := prog_1_method_46_code
def yX6_isEntry : MethodName := ⟨RX6, "isEntry", "(I)Z"⟩
abbrev cX6_treeEntries : ByteArray := prog_1_method_47_code
def yX6_treeEntries : MethodName := ⟨RX6, "treeEntries", "(I)I"⟩
abbrev cX6_treeHeight : ByteArray := prog_1_method_48_code
def yX6_treeHeight : MethodName := ⟨RX6, "treeHeight", "(I)I"⟩
abbrev cX6_treeNodes : ByteArray := prog_1_method_49_code
def yX6_treeNodes : MethodName := ⟨RX6, "treeNodes", "(I)I"⟩
def RX7 : String := "PageHoldModel"
def TX7 : u_T := fun k => match k with
  | 0 => ("PageHoldModel", "frames", "I", true)
  | 1 => ("PageHoldModel", "blocks", "I", true)
  | 2 => ("PageHoldModel", "sizes", "[I", true)
  | 3 => ("PageHoldModel", "windows", "[I", true)
  | 4 => ("PageHoldModel", "nexts", "[I", true)
  | 5 => ("PageHoldModel", "errors", "[I", true)
  | 6 => ("PageHoldModel", "frameOf", "[I", true)
  | 7 => ("PageHoldModel", "blockOf", "[I", true)
  | 8 => ("PageHoldModel", "since", "[I", true)
  | 9 => ("PageHoldModel", "shadow", "[I", true)
  | 10 => ("PageHoldModel", "referenced", "[Z", true)
  | 11 => ("PageHoldModel", "pinned", "[Z", true)
  | 12 => ("PageHoldModel", "isActive", "[Z", true)
  | 13 => ("PageHoldModel", "active", "[I", true)
  | 14 => ("PageHoldModel", "inactive", "[I", true)
  | 15 => ("PageHoldModel", "actives", "I", false)
  | 16 => ("PageHoldModel", "inactives", "I", false)
  | 17 => ("PageHoldModel", "used", "[Z", true)
  | 18 => ("PageHoldModel", "bytes", "[B", true)
  | 19 => ("PageHoldModel", "disk", "[B", true)
  | 20 => ("PageHoldModel", "taken", "[Z", true)
  | 21 => ("PageHoldModel", "fails", "[Z", true)
  | 22 => ("PageHoldModel", "hand", "[B", true)
  | 23 => ("PageHoldModel", "hands", "I", false)
  | 24 => ("PageHoldModel", "time", "I", false)
  | 25 => ("PageHoldModel", "evicted", "I", false)
  | 26 => ("PageHoldModel", "shadows", "I", false)
  | 27 => ("PageHoldModel", "reads", "I", false)
  | 28 => ("PageHoldModel", "writes", "I", false)
  | 29 => ("PageHoldModel", "runKind", "[I", true)
  | 30 => ("PageHoldModel", "runFirst", "[I", true)
  | 31 => ("PageHoldModel", "runMany", "[I", true)
  | 32 => ("PageHoldModel", "runs", "I", false)
  | 33 => ("PageHoldModel", "isRecorded", "Z", false)
  | _ => ("PageHoldModel", "tried", "[Z", true)
def tyX7 : Nat → FieldType := fun k => match k with
  | 0 => .int
  | 1 => .int
  | 2 => .array .int
  | 3 => .array .int
  | 4 => .array .int
  | 5 => .array .int
  | 6 => .array .int
  | 7 => .array .int
  | 8 => .array .int
  | 9 => .array .int
  | 10 => .array .boolean
  | 11 => .array .boolean
  | 12 => .array .boolean
  | 13 => .array .int
  | 14 => .array .int
  | 15 => .int
  | 16 => .int
  | 17 => .array .boolean
  | 18 => .array .byte
  | 19 => .array .byte
  | 20 => .array .boolean
  | 21 => .array .boolean
  | 22 => .array .byte
  | 23 => .int
  | 24 => .int
  | 25 => .int
  | 26 => .int
  | 27 => .int
  | 28 => .int
  | 29 => .array .int
  | 30 => .array .int
  | 31 => .array .int
  | 32 => .int
  | 33 => .boolean
  | _ => .array .boolean
theorem nmX7 : ∀ a, a < 35 → ∀ b, b < 35 → a ≠ b → (TX7 a).2.1 ≠ (TX7 b).2.1 := by decide +kernel
theorem tyX7_ok : ∀ k, k < 35 → parseFieldDescriptor (TX7 k).2.2.1 = some (tyX7 k) := by decide +kernel
abbrev cX7_init : ByteArray := prog_9_method_1_code
def yX7_init : MethodName := ⟨RX7, "<init>", "(II)V"⟩
abbrev cX7_isFile : ByteArray := prog_9_method_3_code
def yX7_isFile : MethodName := ⟨RX7, "isFile", "(I)Z"⟩
abbrev cX7_isPage : ByteArray := prog_9_method_4_code
def yX7_isPage : MethodName := ⟨RX7, "isPage", "(I)Z"⟩
abbrev cX7_isIn : ByteArray := prog_9_method_5_code
def yX7_isIn : MethodName := ⟨RX7, "isIn", "(I)Z"⟩
abbrev cX7_isDirty : ByteArray := prog_9_method_6_code
def yX7_isDirty : MethodName := ⟨RX7, "isDirty", "(I)Z"⟩
abbrev cX7_record : ByteArray := prog_9_method_7_code
def yX7_record : MethodName := ⟨RX7, "record", "(II)V"⟩
abbrev cX7_toFront : ByteArray := prog_9_method_8_code
def yX7_toFront : MethodName := ⟨RX7, "toFront", "(IZ)V"⟩
abbrev cX7_placeOf : ByteArray := prog_9_method_9_code
def yX7_placeOf : MethodName := ⟨RX7, "placeOf", "(I)I"⟩
abbrev cX7_fromList : ByteArray := prog_9_method_10_code
def yX7_fromList : MethodName := ⟨RX7, "fromList", "(I)V"⟩
abbrev cX7_move : ByteArray := prog_9_method_11_code
def yX7_move : MethodName := ⟨RX7, "move", "(IZ)V"⟩
abbrev cX7_goOut : ByteArray := prog_9_method_12_code
def yX7_goOut : MethodName := ⟨RX7, "goOut", "(I)V"⟩
abbrev cX7_noShadow : ByteArray := prog_9_method_13_code
def yX7_noShadow : MethodName := ⟨RX7, "noShadow", "(I)V"⟩
abbrev cX7_evict : ByteArray := prog_9_method_14_code
def yX7_evict : MethodName := ⟨RX7, "evict", "(I)V"⟩
abbrev cX7_wrong : ByteArray := prog_9_method_15_code
def yX7_wrong : MethodName := ⟨RX7, "wrong", "(II)V"⟩
abbrev cX7_hasBlock : ByteArray := prog_9_method_16_code
def yX7_hasBlock : MethodName := ⟨RX7, "hasBlock", "(I)Z"⟩
abbrev cX7_written : ByteArray := prog_9_method_17_code
def yX7_written : MethodName := ⟨RX7, "written", "(I)Z"⟩
abbrev cX7_frame : ByteArray := prog_9_method_18_code
def yX7_frame : MethodName := ⟨RX7, "frame", "()I"⟩
abbrev cX7_bringIn : ByteArray := prog_9_method_19_code
def yX7_bringIn : MethodName := ⟨RX7, "bringIn", "(I)Z"⟩
abbrev cX7_seenAgain : ByteArray := prog_9_method_20_code
def yX7_seenAgain : MethodName := ⟨RX7, "seenAgain", "(I)V"⟩
abbrev cX7_touch : ByteArray := prog_9_method_21_code
def yX7_touch : MethodName := ⟨RX7, "touch", "(I)Z"⟩
abbrev cX7_ahead : ByteArray := prog_9_method_22_code
def yX7_ahead : MethodName := ⟨RX7, "ahead", "(II)V"⟩
abbrev cX7_read : ByteArray := prog_9_method_23_code
def yX7_read : MethodName := ⟨RX7, "read", "(III)I"⟩
abbrev cX7_hand : ByteArray := prog_9_method_24_code
def yX7_hand : MethodName := ⟨RX7, "hand", "(I)I"⟩
abbrev cX7_dirties : ByteArray := prog_9_method_25_code
def yX7_dirties : MethodName := ⟨RX7, "dirties", "()I"⟩
abbrev cX7_oldest : ByteArray := prog_9_method_26_code
def yX7_oldest : MethodName := ⟨RX7, "oldest", "(I)I"⟩
abbrev cX7_noneTried : ByteArray := prog_9_method_27_code
def yX7_noneTried : MethodName := ⟨RX7, "noneTried", "()V"⟩
abbrev cX7_lessDirty : ByteArray := prog_9_method_28_code
def yX7_lessDirty : MethodName := ⟨RX7, "lessDirty", "()V"⟩
abbrev cX7_put : ByteArray := prog_9_method_29_code
def yX7_put : MethodName := ⟨RX7, "put", "(IIIZJI)I"⟩
abbrev cX7_write : ByteArray := prog_9_method_30_code
def yX7_write : MethodName := ⟨RX7, "write", "(IIJI)I"⟩
abbrev cX7_fill : ByteArray := prog_9_method_31_code
def yX7_fill : MethodName := ⟨RX7, "fill", "(IIII)I"⟩
abbrev cX7_isHoled : ByteArray := prog_9_method_32_code
def yX7_isHoled : MethodName := ⟨RX7, "isHoled", "(I)Z"⟩
abbrev cX7_truncate : ByteArray := prog_9_method_33_code
def yX7_truncate : MethodName := ⟨RX7, "truncate", "(II)I"⟩
abbrev cX7_punch : ByteArray := prog_9_method_34_code
def yX7_punch : MethodName := ⟨RX7, "punch", "(III)I"⟩
abbrev cX7_sync : ByteArray := prog_9_method_35_code
def yX7_sync : MethodName := ⟨RX7, "sync", "(I)I"⟩
abbrev cX7_syncAll : ByteArray := prog_9_method_36_code
def yX7_syncAll : MethodName := ⟨RX7, "syncAll", "()I"⟩
abbrev cX7_tick : ByteArray := prog_9_method_37_code
def yX7_tick : MethodName := ⟨RX7, "tick", "(I)I"⟩
abbrev cX7_drop : ByteArray := prog_9_method_38_code
def yX7_drop : MethodName := ⟨RX7, "drop", "()I"⟩
abbrev cX7_crash : ByteArray := prog_9_method_39_code
def yX7_crash : MethodName := ⟨RX7, "crash", "()I"⟩
abbrev cX7_fail : ByteArray := prog_9_method_40_code
def yX7_fail : MethodName := ⟨RX7, "fail", "(IZ)Z"⟩
abbrev cX7_pins : ByteArray := prog_9_method_41_code
def yX7_pins : MethodName := ⟨RX7, "pins", "()I"⟩
abbrev cX7_pin : ByteArray := prog_9_method_42_code
def yX7_pin : MethodName := ⟨RX7, "pin", "(IIZ)Z"⟩
abbrev cX7_size : ByteArray := prog_9_method_43_code
def yX7_size : MethodName := ⟨RX7, "size", "(I)I"⟩
abbrev cX7_page : ByteArray := prog_9_method_44_code
def yX7_page : MethodName := ⟨RX7, "page", "(III)I"⟩
abbrev cX7_hasMark : ByteArray := prog_9_method_45_code
def yX7_hasMark : MethodName := ⟨RX7, "hasMark", "(II)Z"⟩
abbrev cX7_next : ByteArray := prog_9_method_46_code
def yX7_next : MethodName := ⟨RX7, "next", "(III)I"⟩
abbrev cX7_isEntry : ByteArray := prog_9_method_47_code
def yX7_isEntry : MethodName := ⟨RX7, "isEntry", "(I)Z"⟩
abbrev cX7_height : ByteArray := prog_9_method_48_code
def yX7_height : MethodName := ⟨RX7, "height", "(I)I"⟩
abbrev cX7_nodes : ByteArray := prog_9_method_49_code
def yX7_nodes : MethodName := ⟨RX7, "nodes", "(I)I"⟩
abbrev cX7_tree : ByteArray := prog_9_method_50_code
def yX7_tree : MethodName := ⟨RX7, "tree", "(II)I"⟩
abbrev cX7_listed : ByteArray := prog_9_method_51_code
def yX7_listed : MethodName := ⟨RX7, "listed", "(ZI)I"⟩
abbrev cX7_disk : ByteArray := prog_9_method_52_code
def yX7_disk : MethodName := ⟨RX7, "disk", "(II)I"⟩
abbrev cX7_run : ByteArray := prog_9_method_53_code
def yX7_run : MethodName := ⟨RX7, "run", "(II)I"⟩
abbrev cX7_pagesIn : ByteArray := prog_9_method_54_code
def yX7_pagesIn : MethodName := ⟨RX7, "pagesIn", "()I"⟩
abbrev cX7_freeBlocks : ByteArray := prog_9_method_55_code
def yX7_freeBlocks : MethodName := ⟨RX7, "freeBlocks", "()I"⟩
abbrev cX7_wrongFiles : ByteArray := prog_9_method_56_code
def yX7_wrongFiles : MethodName := ⟨RX7, "wrongFiles", "()I"⟩
abbrev cX7_told : ByteArray := prog_9_method_57_code
def yX7_told : MethodName := ⟨RX7, "told", "(I)I"⟩
def RJ9 : String := "java/lang/Math"
def TJ9 : u_T := fun k => match k with
  | _ => ("", "", "", false)
def tyJ9 : Nat → FieldType := fun k => match k with
  | _ => .int
theorem nmJ9 : ∀ a, a < 0 → ∀ b, b < 0 → a ≠ b → (TJ9 a).2.1 ≠ (TJ9 b).2.1 := by decide +kernel
theorem tyJ9_ok : ∀ k, k < 0 → parseFieldDescriptor (TJ9 k).2.2.1 = some (tyJ9 k) := by decide +kernel
abbrev cJ9_max_7cf53 : ByteArray := prog_10_method_65_code
def yJ9_max_7cf53 : MethodName := ⟨RJ9, "max", "(II)I"⟩
abbrev cJ9_min_7cf53 : ByteArray := prog_10_method_69_code
def yJ9_min_7cf53 : MethodName := ⟨RJ9, "min", "(II)I"⟩
def RJ10 : String := "java/lang/System"
def TJ10 : u_T := fun k => match k with
  | _ => ("", "", "", false)
def tyJ10 : Nat → FieldType := fun k => match k with
  | _ => .int
theorem nmJ10 : ∀ a, a < 0 → ∀ b, b < 0 → a ≠ b → (TJ10 a).2.1 ≠ (TJ10 b).2.1 := by decide +kernel
theorem tyJ10_ok : ∀ k, k < 0 → parseFieldDescriptor (TJ10 k).2.2.1 = some (tyJ10 k) := by decide +kernel
def RJ7 : String := "java/util/Arrays"
def TJ7 : u_T := fun k => match k with
  | _ => ("", "", "", false)
def tyJ7 : Nat → FieldType := fun k => match k with
  | _ => .int
theorem nmJ7 : ∀ a, a < 0 → ∀ b, b < 0 → a ≠ b → (TJ7 a).2.1 ≠ (TJ7 b).2.1 := by decide +kernel
theorem tyJ7_ok : ∀ k, k < 0 → parseFieldDescriptor (TJ7 k).2.2.1 = some (tyJ7 k) := by decide +kernel
abbrev cJ7_fill_53178 : ByteArray := prog_12_method_103_code
def yJ7_fill_53178 : MethodName := ⟨RJ7, "fill", "([II)V"⟩
def RL : String := "PageHoldLaw"
abbrev cL_cell : ByteArray := method_2_code
def yL_cell : MethodName := ⟨RL, "cell", "([II)I"⟩
abbrev cL_law : ByteArray := code
def yL_law : MethodName := ⟨RL, "law", "([I)Z"⟩
abbrev vwCl : List vw_C := [(RX0, TX0, 11), (RX1, TX1, 4), (RX2, TX2, 12), (RX3, TX3, 2), (RX4, TX4, 4), (RX5, TX5, 1), (RX6, TX6, 9), (RX7, TX7, 35)]
end
section
theorem dX0_init_0 : decode cX0_init 0 = .ok (.aload_n 0, 1) := by decide +kernel
theorem dX0_init_1 : decode cX0_init 1 = .ok (.invokespecial 3, 3) := by decide +kernel
theorem dX0_init_4 : decode cX0_init 4 = .ok (.aload_n 0, 1) := by decide +kernel
theorem dX0_init_5 : decode cX0_init 5 = .ok (.iconst 0, 1) := by decide +kernel
theorem dX0_init_6 : decode cX0_init 6 = .ok (.putfield 9, 3) := by decide +kernel
theorem dX0_init_9 : decode cX0_init 9 = .ok (.aload_n 0, 1) := by decide +kernel
theorem dX0_init_10 : decode cX0_init 10 = .ok (.iconst 0, 1) := by decide +kernel
theorem dX0_init_11 : decode cX0_init 11 = .ok (.putfield 15, 3) := by decide +kernel
theorem dX0_init_14 : decode cX0_init 14 = .ok (.aload_n 0, 1) := by decide +kernel
theorem dX0_init_15 : decode cX0_init 15 = .ok (.sipush 256, 3) := by decide +kernel
theorem dX0_init_18 : decode cX0_init 18 = .ok (.newarray .int, 2) := by decide +kernel
theorem dX0_init_20 : decode cX0_init 20 = .ok (.putfield 18, 3) := by decide +kernel
theorem dX0_init_23 : decode cX0_init 23 = .ok (.aload_n 0, 1) := by decide +kernel
theorem dX0_init_24 : decode cX0_init 24 = .ok (.sipush 256, 3) := by decide +kernel
theorem dX0_init_27 : decode cX0_init 27 = .ok (.newarray .int, 2) := by decide +kernel
theorem dX0_init_29 : decode cX0_init 29 = .ok (.putfield 22, 3) := by decide +kernel
theorem dX0_init_32 : decode cX0_init 32 = .ok (.aload_n 0, 1) := by decide +kernel
theorem dX0_init_33 : decode cX0_init 33 = .ok (.sipush 256, 3) := by decide +kernel
theorem dX0_init_36 : decode cX0_init 36 = .ok (.newarray .int, 2) := by decide +kernel
theorem dX0_init_38 : decode cX0_init 38 = .ok (.putfield 25, 3) := by decide +kernel
theorem dX0_init_41 : decode cX0_init 41 = .ok (.aload_n 0, 1) := by decide +kernel
theorem dX0_init_42 : decode cX0_init 42 = .ok (.iconst 0, 1) := by decide +kernel
theorem dX0_init_43 : decode cX0_init 43 = .ok (.putfield 28, 3) := by decide +kernel
theorem dX0_init_46 : decode cX0_init 46 = .ok (.aload_n 0, 1) := by decide +kernel
theorem dX0_init_47 : decode cX0_init 47 = .ok (.iconst 1, 1) := by decide +kernel
theorem dX0_init_48 : decode cX0_init 48 = .ok (.putfield 31, 3) := by decide +kernel
theorem dX0_init_51 : decode cX0_init 51 = .ok (.aload_n 0, 1) := by decide +kernel
theorem dX0_init_52 : decode cX0_init 52 = .ok (.new 35, 3) := by decide +kernel
theorem dX0_init_55 : decode cX0_init 55 = .ok (.dup, 1) := by decide +kernel
theorem dX0_init_56 : decode cX0_init 56 = .ok (.iload_n 1, 1) := by decide +kernel
theorem dX0_init_57 : decode cX0_init 57 = .ok (.bipush 64, 2) := by decide +kernel
theorem dX0_init_59 : decode cX0_init 59 = .ok (.imul, 1) := by decide +kernel
theorem dX0_init_60 : decode cX0_init 60 = .ok (.invokespecial 37, 3) := by decide +kernel
theorem dX0_init_63 : decode cX0_init 63 = .ok (.putfield 40, 3) := by decide +kernel
theorem dX0_init_66 : decode cX0_init 66 = .ok (.aload_n 0, 1) := by decide +kernel
theorem dX0_init_67 : decode cX0_init 67 = .ok (.iconst 0, 1) := by decide +kernel
theorem dX0_init_68 : decode cX0_init 68 = .ok (.iload_n 1, 1) := by decide +kernel
theorem dX0_init_69 : decode cX0_init 69 = .ok (.invokestatic 44, 3) := by decide +kernel
theorem dX0_init_72 : decode cX0_init 72 = .ok (.newarray .boolean, 2) := by decide +kernel
theorem dX0_init_74 : decode cX0_init 74 = .ok (.putfield 50, 3) := by decide +kernel
theorem dX0_init_77 : decode cX0_init 77 = .ok (.aload_n 0, 1) := by decide +kernel
theorem dX0_init_78 : decode cX0_init 78 = .ok (.iconst 0, 1) := by decide +kernel
theorem dX0_init_79 : decode cX0_init 79 = .ok (.iload_n 1, 1) := by decide +kernel
theorem dX0_init_80 : decode cX0_init 80 = .ok (.invokestatic 44, 3) := by decide +kernel
theorem dX0_init_83 : decode cX0_init 83 = .ok (.newarray .boolean, 2) := by decide +kernel
theorem dX0_init_85 : decode cX0_init 85 = .ok (.putfield 54, 3) := by decide +kernel
theorem dX0_init_88 : decode cX0_init 88 = .ok (.aload_n 0, 1) := by decide +kernel
theorem dX0_init_89 : decode cX0_init 89 = .ok (.aload_n 0, 1) := by decide +kernel
theorem dX0_init_90 : decode cX0_init 90 = .ok (.getfield 54, 3) := by decide +kernel
theorem dX0_init_93 : decode cX0_init 93 = .ok (.arraylength, 1) := by decide +kernel
theorem dX0_init_94 : decode cX0_init 94 = .ok (.putfield 57, 3) := by decide +kernel
theorem dX0_init_97 : decode cX0_init 97 = .ok (.return_, 1) := by decide +kernel
theorem dX0_begin_0 : decode cX0_begin 0 = .ok (.aload_n 0, 1) := by decide +kernel
theorem dX0_begin_1 : decode cX0_begin 1 = .ok (.iconst 1, 1) := by decide +kernel
theorem dX0_begin_2 : decode cX0_begin 2 = .ok (.putfield 31, 3) := by decide +kernel
theorem dX0_begin_5 : decode cX0_begin 5 = .ok (.return_, 1) := by decide +kernel
theorem dX0_has_0 : decode cX0_has 0 = .ok (.iload_n 1, 1) := by decide +kernel
theorem dX0_has_1 : decode cX0_has 1 = .ok (.ifCond .lt 16, 3) := by decide +kernel
theorem dX0_has_4 : decode cX0_has 4 = .ok (.iload_n 1, 1) := by decide +kernel
theorem dX0_has_5 : decode cX0_has 5 = .ok (.aload_n 0, 1) := by decide +kernel
theorem dX0_has_6 : decode cX0_has 6 = .ok (.getfield 54, 3) := by decide +kernel
theorem dX0_has_9 : decode cX0_has 9 = .ok (.arraylength, 1) := by decide +kernel
theorem dX0_has_10 : decode cX0_has 10 = .ok (.if_icmp .ge 7, 3) := by decide +kernel
theorem dX0_has_13 : decode cX0_has 13 = .ok (.iconst 1, 1) := by decide +kernel
theorem dX0_has_14 : decode cX0_has 14 = .ok (.goto 4, 3) := by decide +kernel
theorem dX0_has_17 : decode cX0_has 17 = .ok (.iconst 0, 1) := by decide +kernel
theorem dX0_has_18 : decode cX0_has 18 = .ok (.ireturn, 1) := by decide +kernel
theorem dX0_leastFree_0 : decode cX0_leastFree 0 = .ok (.iconst 0, 1) := by decide +kernel
theorem dX0_leastFree_1 : decode cX0_leastFree 1 = .ok (.istore_n 1, 1) := by decide +kernel
theorem dX0_leastFree_2 : decode cX0_leastFree 2 = .ok (.iload_n 1, 1) := by decide +kernel
theorem dX0_leastFree_3 : decode cX0_leastFree 3 = .ok (.aload_n 0, 1) := by decide +kernel
theorem dX0_leastFree_4 : decode cX0_leastFree 4 = .ok (.getfield 54, 3) := by decide +kernel
theorem dX0_leastFree_7 : decode cX0_leastFree 7 = .ok (.arraylength, 1) := by decide +kernel
theorem dX0_leastFree_8 : decode cX0_leastFree 8 = .ok (.if_icmp .ge 44, 3) := by decide +kernel
theorem dX0_leastFree_11 : decode cX0_leastFree 11 = .ok (.aload_n 0, 1) := by decide +kernel
theorem dX0_leastFree_12 : decode cX0_leastFree 12 = .ok (.getfield 57, 3) := by decide +kernel
theorem dX0_leastFree_15 : decode cX0_leastFree 15 = .ok (.ifCond .le 37, 3) := by decide +kernel
theorem dX0_leastFree_18 : decode cX0_leastFree 18 = .ok (.aload_n 0, 1) := by decide +kernel
theorem dX0_leastFree_19 : decode cX0_leastFree 19 = .ok (.getfield 54, 3) := by decide +kernel
theorem dX0_leastFree_22 : decode cX0_leastFree 22 = .ok (.iload_n 1, 1) := by decide +kernel
theorem dX0_leastFree_23 : decode cX0_leastFree 23 = .ok (.baload, 1) := by decide +kernel
theorem dX0_leastFree_24 : decode cX0_leastFree 24 = .ok (.ifCond .ne 22, 3) := by decide +kernel
theorem dX0_leastFree_27 : decode cX0_leastFree 27 = .ok (.aload_n 0, 1) := by decide +kernel
theorem dX0_leastFree_28 : decode cX0_leastFree 28 = .ok (.getfield 54, 3) := by decide +kernel
theorem dX0_leastFree_31 : decode cX0_leastFree 31 = .ok (.iload_n 1, 1) := by decide +kernel
theorem dX0_leastFree_32 : decode cX0_leastFree 32 = .ok (.iconst 1, 1) := by decide +kernel
theorem dX0_leastFree_33 : decode cX0_leastFree 33 = .ok (.bastore, 1) := by decide +kernel
theorem dX0_leastFree_34 : decode cX0_leastFree 34 = .ok (.aload_n 0, 1) := by decide +kernel
theorem dX0_leastFree_35 : decode cX0_leastFree 35 = .ok (.dup, 1) := by decide +kernel
theorem dX0_leastFree_36 : decode cX0_leastFree 36 = .ok (.getfield 57, 3) := by decide +kernel
theorem dX0_leastFree_39 : decode cX0_leastFree 39 = .ok (.iconst 1, 1) := by decide +kernel
theorem dX0_leastFree_40 : decode cX0_leastFree 40 = .ok (.isub, 1) := by decide +kernel
theorem dX0_leastFree_41 : decode cX0_leastFree 41 = .ok (.putfield 57, 3) := by decide +kernel
theorem dX0_leastFree_44 : decode cX0_leastFree 44 = .ok (.iload_n 1, 1) := by decide +kernel
theorem dX0_leastFree_45 : decode cX0_leastFree 45 = .ok (.ireturn, 1) := by decide +kernel
theorem dX0_leastFree_46 : decode cX0_leastFree 46 = .ok (.iinc 1 1, 3) := by decide +kernel
theorem dX0_leastFree_49 : decode cX0_leastFree 49 = .ok (.goto (-47), 3) := by decide +kernel
theorem dX0_leastFree_52 : decode cX0_leastFree 52 = .ok (.iconst (-1), 1) := by decide +kernel
theorem dX0_leastFree_53 : decode cX0_leastFree 53 = .ok (.ireturn, 1) := by decide +kernel
theorem dX0_giveBack_0 : decode cX0_giveBack 0 = .ok (.aload_n 0, 1) := by decide +kernel
theorem dX0_giveBack_1 : decode cX0_giveBack 1 = .ok (.iload_n 1, 1) := by decide +kernel
theorem dX0_giveBack_2 : decode cX0_giveBack 2 = .ok (.invokevirtual 60, 3) := by decide +kernel
theorem dX0_giveBack_5 : decode cX0_giveBack 5 = .ok (.ifCond .eq 29, 3) := by decide +kernel
theorem dX0_giveBack_8 : decode cX0_giveBack 8 = .ok (.aload_n 0, 1) := by decide +kernel
theorem dX0_giveBack_9 : decode cX0_giveBack 9 = .ok (.getfield 54, 3) := by decide +kernel
theorem dX0_giveBack_12 : decode cX0_giveBack 12 = .ok (.iload_n 1, 1) := by decide +kernel
theorem dX0_giveBack_13 : decode cX0_giveBack 13 = .ok (.baload, 1) := by decide +kernel
theorem dX0_giveBack_14 : decode cX0_giveBack 14 = .ok (.ifCond .eq 20, 3) := by decide +kernel
theorem dX0_giveBack_17 : decode cX0_giveBack 17 = .ok (.aload_n 0, 1) := by decide +kernel
theorem dX0_giveBack_18 : decode cX0_giveBack 18 = .ok (.getfield 54, 3) := by decide +kernel
theorem dX0_giveBack_21 : decode cX0_giveBack 21 = .ok (.iload_n 1, 1) := by decide +kernel
theorem dX0_giveBack_22 : decode cX0_giveBack 22 = .ok (.iconst 0, 1) := by decide +kernel
theorem dX0_giveBack_23 : decode cX0_giveBack 23 = .ok (.bastore, 1) := by decide +kernel
theorem dX0_giveBack_24 : decode cX0_giveBack 24 = .ok (.aload_n 0, 1) := by decide +kernel
theorem dX0_giveBack_25 : decode cX0_giveBack 25 = .ok (.dup, 1) := by decide +kernel
theorem dX0_giveBack_26 : decode cX0_giveBack 26 = .ok (.getfield 57, 3) := by decide +kernel
theorem dX0_giveBack_29 : decode cX0_giveBack 29 = .ok (.iconst 1, 1) := by decide +kernel
theorem dX0_giveBack_30 : decode cX0_giveBack 30 = .ok (.iadd, 1) := by decide +kernel
theorem dX0_giveBack_31 : decode cX0_giveBack 31 = .ok (.putfield 57, 3) := by decide +kernel
theorem dX0_giveBack_34 : decode cX0_giveBack 34 = .ok (.return_, 1) := by decide +kernel
theorem dX0_load_0 : decode cX0_load 0 = .ok (.aload_n 0, 1) := by decide +kernel
theorem dX0_load_1 : decode cX0_load 1 = .ok (.iload_n 1, 1) := by decide +kernel
theorem dX0_load_2 : decode cX0_load 2 = .ok (.invokevirtual 60, 3) := by decide +kernel
theorem dX0_load_5 : decode cX0_load 5 = .ok (.ifCond .eq 29, 3) := by decide +kernel
theorem dX0_load_8 : decode cX0_load 8 = .ok (.aload_n 2, 1) := by decide +kernel
theorem dX0_load_9 : decode cX0_load 9 = .ok (.iload_n 3, 1) := by decide +kernel
theorem dX0_load_10 : decode cX0_load 10 = .ok (.aload_n 0, 1) := by decide +kernel
theorem dX0_load_11 : decode cX0_load 11 = .ok (.getfield 40, 3) := by decide +kernel
theorem dX0_load_14 : decode cX0_load 14 = .ok (.iload_n 1, 1) := by decide +kernel
theorem dX0_load_15 : decode cX0_load 15 = .ok (.invokevirtual 64, 3) := by decide +kernel
theorem dX0_load_18 : decode cX0_load 18 = .ok (.aload_n 0, 1) := by decide +kernel
theorem dX0_load_19 : decode cX0_load 19 = .ok (.dup, 1) := by decide +kernel
theorem dX0_load_20 : decode cX0_load 20 = .ok (.getfield 9, 3) := by decide +kernel
theorem dX0_load_23 : decode cX0_load 23 = .ok (.iconst 1, 1) := by decide +kernel
theorem dX0_load_24 : decode cX0_load 24 = .ok (.iadd, 1) := by decide +kernel
theorem dX0_load_25 : decode cX0_load 25 = .ok (.putfield 9, 3) := by decide +kernel
theorem dX0_load_28 : decode cX0_load 28 = .ok (.aload_n 0, 1) := by decide +kernel
theorem dX0_load_29 : decode cX0_load 29 = .ok (.iconst 0, 1) := by decide +kernel
theorem dX0_load_30 : decode cX0_load 30 = .ok (.iload_n 1, 1) := by decide +kernel
theorem dX0_load_31 : decode cX0_load 31 = .ok (.invokevirtual 68, 3) := by decide +kernel
theorem dX0_load_34 : decode cX0_load 34 = .ok (.return_, 1) := by decide +kernel
theorem dX0_save_0 : decode cX0_save 0 = .ok (.aload_n 0, 1) := by decide +kernel
theorem dX0_save_1 : decode cX0_save 1 = .ok (.iload_n 1, 1) := by decide +kernel
theorem dX0_save_2 : decode cX0_save 2 = .ok (.invokevirtual 60, 3) := by decide +kernel
theorem dX0_save_5 : decode cX0_save 5 = .ok (.ifCond .eq 12, 3) := by decide +kernel
theorem dX0_save_8 : decode cX0_save 8 = .ok (.aload_n 0, 1) := by decide +kernel
theorem dX0_save_9 : decode cX0_save 9 = .ok (.getfield 50, 3) := by decide +kernel
theorem dX0_save_12 : decode cX0_save 12 = .ok (.iload_n 1, 1) := by decide +kernel
theorem dX0_save_13 : decode cX0_save 13 = .ok (.baload, 1) := by decide +kernel
theorem dX0_save_14 : decode cX0_save 14 = .ok (.ifCond .eq 5, 3) := by decide +kernel
theorem dX0_save_17 : decode cX0_save 17 = .ok (.iconst 0, 1) := by decide +kernel
theorem dX0_save_18 : decode cX0_save 18 = .ok (.ireturn, 1) := by decide +kernel
theorem dX0_save_19 : decode cX0_save 19 = .ok (.aload_n 0, 1) := by decide +kernel
theorem dX0_save_20 : decode cX0_save 20 = .ok (.getfield 40, 3) := by decide +kernel
theorem dX0_save_23 : decode cX0_save 23 = .ok (.iload_n 1, 1) := by decide +kernel
theorem dX0_save_24 : decode cX0_save 24 = .ok (.aload_n 2, 1) := by decide +kernel
theorem dX0_save_25 : decode cX0_save 25 = .ok (.iload_n 3, 1) := by decide +kernel
theorem dX0_save_26 : decode cX0_save 26 = .ok (.invokevirtual 64, 3) := by decide +kernel
theorem dX0_save_29 : decode cX0_save 29 = .ok (.aload_n 0, 1) := by decide +kernel
theorem dX0_save_30 : decode cX0_save 30 = .ok (.getfield 40, 3) := by decide +kernel
theorem dX0_save_33 : decode cX0_save 33 = .ok (.iload_n 1, 1) := by decide +kernel
theorem dX0_save_34 : decode cX0_save 34 = .ok (.bipush 64, 2) := by decide +kernel
theorem dX0_save_36 : decode cX0_save 36 = .ok (.imul, 1) := by decide +kernel
theorem dX0_save_37 : decode cX0_save 37 = .ok (.iconst 0, 1) := by decide +kernel
theorem dX0_save_38 : decode cX0_save 38 = .ok (.iload 4, 2) := by decide +kernel
theorem dX0_save_40 : decode cX0_save 40 = .ok (.invokestatic 44, 3) := by decide +kernel
theorem dX0_save_43 : decode cX0_save 43 = .ok (.iadd, 1) := by decide +kernel
theorem dX0_save_44 : decode cX0_save 44 = .ok (.iload_n 1, 1) := by decide +kernel
theorem dX0_save_45 : decode cX0_save 45 = .ok (.iconst 1, 1) := by decide +kernel
theorem dX0_save_46 : decode cX0_save 46 = .ok (.iadd, 1) := by decide +kernel
theorem dX0_save_47 : decode cX0_save 47 = .ok (.bipush 64, 2) := by decide +kernel
theorem dX0_save_49 : decode cX0_save 49 = .ok (.imul, 1) := by decide +kernel
theorem dX0_save_50 : decode cX0_save 50 = .ok (.invokevirtual 72, 3) := by decide +kernel
theorem dX0_save_53 : decode cX0_save 53 = .ok (.aload_n 0, 1) := by decide +kernel
theorem dX0_save_54 : decode cX0_save 54 = .ok (.dup, 1) := by decide +kernel
theorem dX0_save_55 : decode cX0_save 55 = .ok (.getfield 15, 3) := by decide +kernel
theorem dX0_save_58 : decode cX0_save 58 = .ok (.iconst 1, 1) := by decide +kernel
theorem dX0_save_59 : decode cX0_save 59 = .ok (.iadd, 1) := by decide +kernel
theorem dX0_save_60 : decode cX0_save 60 = .ok (.putfield 15, 3) := by decide +kernel
theorem dX0_save_63 : decode cX0_save 63 = .ok (.aload_n 0, 1) := by decide +kernel
theorem dX0_save_64 : decode cX0_save 64 = .ok (.iconst 1, 1) := by decide +kernel
theorem dX0_save_65 : decode cX0_save 65 = .ok (.iload_n 1, 1) := by decide +kernel
theorem dX0_save_66 : decode cX0_save 66 = .ok (.invokevirtual 68, 3) := by decide +kernel
theorem dX0_save_69 : decode cX0_save 69 = .ok (.iconst 1, 1) := by decide +kernel
theorem dX0_save_70 : decode cX0_save 70 = .ok (.ireturn, 1) := by decide +kernel
theorem dX0_note_0 : decode cX0_note 0 = .ok (.aload_n 0, 1) := by decide +kernel
theorem dX0_note_1 : decode cX0_note 1 = .ok (.getfield 31, 3) := by decide +kernel
theorem dX0_note_4 : decode cX0_note 4 = .ok (.ifCond .eq 13, 3) := by decide +kernel
theorem dX0_note_7 : decode cX0_note 7 = .ok (.aload_n 0, 1) := by decide +kernel
theorem dX0_note_8 : decode cX0_note 8 = .ok (.iconst 0, 1) := by decide +kernel
theorem dX0_note_9 : decode cX0_note 9 = .ok (.putfield 28, 3) := by decide +kernel
theorem dX0_note_12 : decode cX0_note 12 = .ok (.aload_n 0, 1) := by decide +kernel
theorem dX0_note_13 : decode cX0_note 13 = .ok (.iconst 0, 1) := by decide +kernel
theorem dX0_note_14 : decode cX0_note 14 = .ok (.putfield 31, 3) := by decide +kernel
theorem dX0_note_17 : decode cX0_note 17 = .ok (.aload_n 0, 1) := by decide +kernel
theorem dX0_note_18 : decode cX0_note 18 = .ok (.getfield 28, 3) := by decide +kernel
theorem dX0_note_21 : decode cX0_note 21 = .ok (.iconst 1, 1) := by decide +kernel
theorem dX0_note_22 : decode cX0_note 22 = .ok (.isub, 1) := by decide +kernel
theorem dX0_note_23 : decode cX0_note 23 = .ok (.istore_n 3, 1) := by decide +kernel
theorem dX0_note_24 : decode cX0_note 24 = .ok (.iload_n 3, 1) := by decide +kernel
theorem dX0_note_25 : decode cX0_note 25 = .ok (.ifCond .lt 43, 3) := by decide +kernel
theorem dX0_note_28 : decode cX0_note 28 = .ok (.aload_n 0, 1) := by decide +kernel
theorem dX0_note_29 : decode cX0_note 29 = .ok (.getfield 18, 3) := by decide +kernel
theorem dX0_note_32 : decode cX0_note 32 = .ok (.iload_n 3, 1) := by decide +kernel
theorem dX0_note_33 : decode cX0_note 33 = .ok (.iaload, 1) := by decide +kernel
theorem dX0_note_34 : decode cX0_note 34 = .ok (.iload_n 1, 1) := by decide +kernel
theorem dX0_note_35 : decode cX0_note 35 = .ok (.if_icmp .ne 33, 3) := by decide +kernel
theorem dX0_note_38 : decode cX0_note 38 = .ok (.aload_n 0, 1) := by decide +kernel
theorem dX0_note_39 : decode cX0_note 39 = .ok (.getfield 22, 3) := by decide +kernel
theorem dX0_note_42 : decode cX0_note 42 = .ok (.iload_n 3, 1) := by decide +kernel
theorem dX0_note_43 : decode cX0_note 43 = .ok (.iaload, 1) := by decide +kernel
theorem dX0_note_44 : decode cX0_note 44 = .ok (.aload_n 0, 1) := by decide +kernel
theorem dX0_note_45 : decode cX0_note 45 = .ok (.getfield 25, 3) := by decide +kernel
theorem dX0_note_48 : decode cX0_note 48 = .ok (.iload_n 3, 1) := by decide +kernel
theorem dX0_note_49 : decode cX0_note 49 = .ok (.iaload, 1) := by decide +kernel
theorem dX0_note_50 : decode cX0_note 50 = .ok (.iadd, 1) := by decide +kernel
theorem dX0_note_51 : decode cX0_note 51 = .ok (.iload_n 2, 1) := by decide +kernel
theorem dX0_note_52 : decode cX0_note 52 = .ok (.if_icmp .ne 16, 3) := by decide +kernel
theorem dX0_note_55 : decode cX0_note 55 = .ok (.aload_n 0, 1) := by decide +kernel
theorem dX0_note_56 : decode cX0_note 56 = .ok (.getfield 25, 3) := by decide +kernel
theorem dX0_note_59 : decode cX0_note 59 = .ok (.iload_n 3, 1) := by decide +kernel
theorem dX0_note_60 : decode cX0_note 60 = .ok (.dup2, 1) := by decide +kernel
theorem dX0_note_61 : decode cX0_note 61 = .ok (.iaload, 1) := by decide +kernel
theorem dX0_note_62 : decode cX0_note 62 = .ok (.iconst 1, 1) := by decide +kernel
theorem dX0_note_63 : decode cX0_note 63 = .ok (.iadd, 1) := by decide +kernel
theorem dX0_note_64 : decode cX0_note 64 = .ok (.iastore, 1) := by decide +kernel
theorem dX0_note_65 : decode cX0_note 65 = .ok (.goto 53, 3) := by decide +kernel
theorem dX0_note_68 : decode cX0_note 68 = .ok (.aload_n 0, 1) := by decide +kernel
theorem dX0_note_69 : decode cX0_note 69 = .ok (.getfield 28, 3) := by decide +kernel
theorem dX0_note_72 : decode cX0_note 72 = .ok (.sipush 256, 3) := by decide +kernel
theorem dX0_note_75 : decode cX0_note 75 = .ok (.if_icmp .ge 43, 3) := by decide +kernel
theorem dX0_note_78 : decode cX0_note 78 = .ok (.aload_n 0, 1) := by decide +kernel
theorem dX0_note_79 : decode cX0_note 79 = .ok (.getfield 18, 3) := by decide +kernel
theorem dX0_note_82 : decode cX0_note 82 = .ok (.aload_n 0, 1) := by decide +kernel
theorem dX0_note_83 : decode cX0_note 83 = .ok (.getfield 28, 3) := by decide +kernel
theorem dX0_note_86 : decode cX0_note 86 = .ok (.iload_n 1, 1) := by decide +kernel
theorem dX0_note_87 : decode cX0_note 87 = .ok (.iastore, 1) := by decide +kernel
theorem dX0_note_88 : decode cX0_note 88 = .ok (.aload_n 0, 1) := by decide +kernel
theorem dX0_note_89 : decode cX0_note 89 = .ok (.getfield 22, 3) := by decide +kernel
theorem dX0_note_92 : decode cX0_note 92 = .ok (.aload_n 0, 1) := by decide +kernel
theorem dX0_note_93 : decode cX0_note 93 = .ok (.getfield 28, 3) := by decide +kernel
theorem dX0_note_96 : decode cX0_note 96 = .ok (.iload_n 2, 1) := by decide +kernel
theorem dX0_note_97 : decode cX0_note 97 = .ok (.iastore, 1) := by decide +kernel
theorem dX0_note_98 : decode cX0_note 98 = .ok (.aload_n 0, 1) := by decide +kernel
theorem dX0_note_99 : decode cX0_note 99 = .ok (.getfield 25, 3) := by decide +kernel
theorem dX0_note_102 : decode cX0_note 102 = .ok (.aload_n 0, 1) := by decide +kernel
theorem dX0_note_103 : decode cX0_note 103 = .ok (.getfield 28, 3) := by decide +kernel
theorem dX0_note_106 : decode cX0_note 106 = .ok (.iconst 1, 1) := by decide +kernel
theorem dX0_note_107 : decode cX0_note 107 = .ok (.iastore, 1) := by decide +kernel
theorem dX0_note_108 : decode cX0_note 108 = .ok (.aload_n 0, 1) := by decide +kernel
theorem dX0_note_109 : decode cX0_note 109 = .ok (.dup, 1) := by decide +kernel
theorem dX0_note_110 : decode cX0_note 110 = .ok (.getfield 28, 3) := by decide +kernel
theorem dX0_note_113 : decode cX0_note 113 = .ok (.iconst 1, 1) := by decide +kernel
theorem dX0_note_114 : decode cX0_note 114 = .ok (.iadd, 1) := by decide +kernel
theorem dX0_note_115 : decode cX0_note 115 = .ok (.putfield 28, 3) := by decide +kernel
theorem dX0_note_118 : decode cX0_note 118 = .ok (.return_, 1) := by decide +kernel
theorem dX1_init_0 : decode cX1_init 0 = .ok (.aload_n 0, 1) := by decide +kernel
theorem dX1_init_1 : decode cX1_init 1 = .ok (.invokespecial 3, 3) := by decide +kernel
theorem dX1_init_4 : decode cX1_init 4 = .ok (.aload_n 0, 1) := by decide +kernel
theorem dX1_init_5 : decode cX1_init 5 = .ok (.bipush 12, 2) := by decide +kernel
theorem dX1_init_7 : decode cX1_init 7 = .ok (.newarray .int, 2) := by decide +kernel
theorem dX1_init_9 : decode cX1_init 9 = .ok (.putfield 9, 3) := by decide +kernel
theorem dX1_init_12 : decode cX1_init 12 = .ok (.aload_n 0, 1) := by decide +kernel
theorem dX1_init_13 : decode cX1_init 13 = .ok (.bipush 12, 2) := by decide +kernel
theorem dX1_init_15 : decode cX1_init 15 = .ok (.newarray .int, 2) := by decide +kernel
theorem dX1_init_17 : decode cX1_init 17 = .ok (.putfield 15, 3) := by decide +kernel
theorem dX1_init_20 : decode cX1_init 20 = .ok (.aload_n 0, 1) := by decide +kernel
theorem dX1_init_21 : decode cX1_init 21 = .ok (.bipush 12, 2) := by decide +kernel
theorem dX1_init_23 : decode cX1_init 23 = .ok (.newarray .int, 2) := by decide +kernel
theorem dX1_init_25 : decode cX1_init 25 = .ok (.putfield 18, 3) := by decide +kernel
theorem dX1_init_28 : decode cX1_init 28 = .ok (.aload_n 0, 1) := by decide +kernel
theorem dX1_init_29 : decode cX1_init 29 = .ok (.bipush 12, 2) := by decide +kernel
theorem dX1_init_31 : decode cX1_init 31 = .ok (.newarray .int, 2) := by decide +kernel
theorem dX1_init_33 : decode cX1_init 33 = .ok (.putfield 21, 3) := by decide +kernel
theorem dX1_init_36 : decode cX1_init 36 = .ok (.aload_n 0, 1) := by decide +kernel
theorem dX1_init_37 : decode cX1_init 37 = .ok (.getfield 15, 3) := by decide +kernel
theorem dX1_init_40 : decode cX1_init 40 = .ok (.iconst 1, 1) := by decide +kernel
theorem dX1_init_41 : decode cX1_init 41 = .ok (.invokestatic 24, 3) := by decide +kernel
theorem dX1_init_44 : decode cX1_init 44 = .ok (.return_, 1) := by decide +kernel
theorem dX1_reset_0 : decode cX1_reset 0 = .ok (.aload_n 0, 1) := by decide +kernel
theorem dX1_reset_1 : decode cX1_reset 1 = .ok (.getfield 15, 3) := by decide +kernel
theorem dX1_reset_4 : decode cX1_reset 4 = .ok (.iconst 1, 1) := by decide +kernel
theorem dX1_reset_5 : decode cX1_reset 5 = .ok (.invokestatic 24, 3) := by decide +kernel
theorem dX1_reset_8 : decode cX1_reset 8 = .ok (.aload_n 0, 1) := by decide +kernel
theorem dX1_reset_9 : decode cX1_reset 9 = .ok (.getfield 18, 3) := by decide +kernel
theorem dX1_reset_12 : decode cX1_reset 12 = .ok (.iconst 0, 1) := by decide +kernel
theorem dX1_reset_13 : decode cX1_reset 13 = .ok (.invokestatic 24, 3) := by decide +kernel
theorem dX1_reset_16 : decode cX1_reset 16 = .ok (.aload_n 0, 1) := by decide +kernel
theorem dX1_reset_17 : decode cX1_reset 17 = .ok (.getfield 21, 3) := by decide +kernel
theorem dX1_reset_20 : decode cX1_reset 20 = .ok (.iconst 0, 1) := by decide +kernel
theorem dX1_reset_21 : decode cX1_reset 21 = .ok (.invokestatic 24, 3) := by decide +kernel
theorem dX1_reset_24 : decode cX1_reset 24 = .ok (.return_, 1) := by decide +kernel
theorem dX1_setError_0 : decode cX1_setError 0 = .ok (.iload_n 1, 1) := by decide +kernel
theorem dX1_setError_1 : decode cX1_setError 1 = .ok (.ifCond .lt 25, 3) := by decide +kernel
theorem dX1_setError_4 : decode cX1_setError 4 = .ok (.iload_n 1, 1) := by decide +kernel
theorem dX1_setError_5 : decode cX1_setError 5 = .ok (.bipush 12, 2) := by decide +kernel
theorem dX1_setError_7 : decode cX1_setError 7 = .ok (.if_icmp .ge 19, 3) := by decide +kernel
theorem dX1_setError_10 : decode cX1_setError 10 = .ok (.aload_n 0, 1) := by decide +kernel
theorem dX1_setError_11 : decode cX1_setError 11 = .ok (.getfield 21, 3) := by decide +kernel
theorem dX1_setError_14 : decode cX1_setError 14 = .ok (.iload_n 1, 1) := by decide +kernel
theorem dX1_setError_15 : decode cX1_setError 15 = .ok (.iaload, 1) := by decide +kernel
theorem dX1_setError_16 : decode cX1_setError 16 = .ok (.ifCond .ne 10, 3) := by decide +kernel
theorem dX1_setError_19 : decode cX1_setError 19 = .ok (.aload_n 0, 1) := by decide +kernel
theorem dX1_setError_20 : decode cX1_setError 20 = .ok (.getfield 21, 3) := by decide +kernel
theorem dX1_setError_23 : decode cX1_setError 23 = .ok (.iload_n 1, 1) := by decide +kernel
theorem dX1_setError_24 : decode cX1_setError 24 = .ok (.iload_n 2, 1) := by decide +kernel
theorem dX1_setError_25 : decode cX1_setError 25 = .ok (.iastore, 1) := by decide +kernel
theorem dX1_setError_26 : decode cX1_setError 26 = .ok (.return_, 1) := by decide +kernel
theorem dX1_withError_0 : decode cX1_withError 0 = .ok (.iconst 0, 1) := by decide +kernel
theorem dX1_withError_1 : decode cX1_withError 1 = .ok (.istore_n 1, 1) := by decide +kernel
theorem dX1_withError_2 : decode cX1_withError 2 = .ok (.aload_n 0, 1) := by decide +kernel
theorem dX1_withError_3 : decode cX1_withError 3 = .ok (.getfield 21, 3) := by decide +kernel
theorem dX1_withError_6 : decode cX1_withError 6 = .ok (.astore_n 2, 1) := by decide +kernel
theorem dX1_withError_7 : decode cX1_withError 7 = .ok (.aload_n 2, 1) := by decide +kernel
theorem dX1_withError_8 : decode cX1_withError 8 = .ok (.arraylength, 1) := by decide +kernel
theorem dX1_withError_9 : decode cX1_withError 9 = .ok (.istore_n 3, 1) := by decide +kernel
theorem dX1_withError_10 : decode cX1_withError 10 = .ok (.iconst 0, 1) := by decide +kernel
theorem dX1_withError_11 : decode cX1_withError 11 = .ok (.istore 4, 2) := by decide +kernel
theorem dX1_withError_13 : decode cX1_withError 13 = .ok (.iload 4, 2) := by decide +kernel
theorem dX1_withError_15 : decode cX1_withError 15 = .ok (.iload_n 3, 1) := by decide +kernel
theorem dX1_withError_16 : decode cX1_withError 16 = .ok (.if_icmp .ge 23, 3) := by decide +kernel
theorem dX1_withError_19 : decode cX1_withError 19 = .ok (.aload_n 2, 1) := by decide +kernel
theorem dX1_withError_20 : decode cX1_withError 20 = .ok (.iload 4, 2) := by decide +kernel
theorem dX1_withError_22 : decode cX1_withError 22 = .ok (.iaload, 1) := by decide +kernel
theorem dX1_withError_23 : decode cX1_withError 23 = .ok (.istore 5, 2) := by decide +kernel
theorem dX1_withError_25 : decode cX1_withError 25 = .ok (.iload 5, 2) := by decide +kernel
theorem dX1_withError_27 : decode cX1_withError 27 = .ok (.ifCond .eq 6, 3) := by decide +kernel
theorem dX1_withError_30 : decode cX1_withError 30 = .ok (.iinc 1 1, 3) := by decide +kernel
theorem dX1_withError_33 : decode cX1_withError 33 = .ok (.iinc 4 1, 3) := by decide +kernel
theorem dX1_withError_36 : decode cX1_withError 36 = .ok (.goto (-23), 3) := by decide +kernel
theorem dX1_withError_39 : decode cX1_withError 39 = .ok (.iload_n 1, 1) := by decide +kernel
theorem dX1_withError_40 : decode cX1_withError 40 = .ok (.ireturn, 1) := by decide +kernel
theorem dX2_init_0 : decode cX2_init 0 = .ok (.aload_n 0, 1) := by decide +kernel
theorem dX2_init_1 : decode cX2_init 1 = .ok (.invokespecial 3, 3) := by decide +kernel
theorem dX2_init_4 : decode cX2_init 4 = .ok (.aload_n 0, 1) := by decide +kernel
theorem dX2_init_5 : decode cX2_init 5 = .ok (.sipush 3072, 3) := by decide +kernel
theorem dX2_init_8 : decode cX2_init 8 = .ok (.newarray .int, 2) := by decide +kernel
theorem dX2_init_10 : decode cX2_init 10 = .ok (.putfield 9, 3) := by decide +kernel
theorem dX2_init_13 : decode cX2_init 13 = .ok (.aload_n 0, 1) := by decide +kernel
theorem dX2_init_14 : decode cX2_init 14 = .ok (.iconst 0, 1) := by decide +kernel
theorem dX2_init_15 : decode cX2_init 15 = .ok (.putfield 15, 3) := by decide +kernel
theorem dX2_init_18 : decode cX2_init 18 = .ok (.aload_n 0, 1) := by decide +kernel
theorem dX2_init_19 : decode cX2_init 19 = .ok (.iconst 0, 1) := by decide +kernel
theorem dX2_init_20 : decode cX2_init 20 = .ok (.putfield 19, 3) := by decide +kernel
theorem dX2_init_23 : decode cX2_init 23 = .ok (.aload_n 0, 1) := by decide +kernel
theorem dX2_init_24 : decode cX2_init 24 = .ok (.iconst 0, 1) := by decide +kernel
theorem dX2_init_25 : decode cX2_init 25 = .ok (.iload_n 1, 1) := by decide +kernel
theorem dX2_init_26 : decode cX2_init 26 = .ok (.invokestatic 22, 3) := by decide +kernel
theorem dX2_init_29 : decode cX2_init 29 = .ok (.putfield 28, 3) := by decide +kernel
theorem dX2_init_32 : decode cX2_init 32 = .ok (.aload_n 0, 1) := by decide +kernel
theorem dX2_init_33 : decode cX2_init 33 = .ok (.new 31, 3) := by decide +kernel
theorem dX2_init_36 : decode cX2_init 36 = .ok (.dup, 1) := by decide +kernel
theorem dX2_init_37 : decode cX2_init 37 = .ok (.aload_n 0, 1) := by decide +kernel
theorem dX2_init_38 : decode cX2_init 38 = .ok (.getfield 28, 3) := by decide +kernel
theorem dX2_init_41 : decode cX2_init 41 = .ok (.bipush 64, 2) := by decide +kernel
theorem dX2_init_43 : decode cX2_init 43 = .ok (.imul, 1) := by decide +kernel
theorem dX2_init_44 : decode cX2_init 44 = .ok (.invokespecial 33, 3) := by decide +kernel
theorem dX2_init_47 : decode cX2_init 47 = .ok (.putfield 36, 3) := by decide +kernel
theorem dX2_init_50 : decode cX2_init 50 = .ok (.aload_n 0, 1) := by decide +kernel
theorem dX2_init_51 : decode cX2_init 51 = .ok (.aload_n 0, 1) := by decide +kernel
theorem dX2_init_52 : decode cX2_init 52 = .ok (.getfield 28, 3) := by decide +kernel
theorem dX2_init_55 : decode cX2_init 55 = .ok (.newarray .int, 2) := by decide +kernel
theorem dX2_init_57 : decode cX2_init 57 = .ok (.putfield 40, 3) := by decide +kernel
theorem dX2_init_60 : decode cX2_init 60 = .ok (.aload_n 0, 1) := by decide +kernel
theorem dX2_init_61 : decode cX2_init 61 = .ok (.aload_n 0, 1) := by decide +kernel
theorem dX2_init_62 : decode cX2_init 62 = .ok (.getfield 28, 3) := by decide +kernel
theorem dX2_init_65 : decode cX2_init 65 = .ok (.newarray .int, 2) := by decide +kernel
theorem dX2_init_67 : decode cX2_init 67 = .ok (.putfield 43, 3) := by decide +kernel
theorem dX2_init_70 : decode cX2_init 70 = .ok (.aload_n 0, 1) := by decide +kernel
theorem dX2_init_71 : decode cX2_init 71 = .ok (.aload_n 0, 1) := by decide +kernel
theorem dX2_init_72 : decode cX2_init 72 = .ok (.getfield 28, 3) := by decide +kernel
theorem dX2_init_75 : decode cX2_init 75 = .ok (.newarray .boolean, 2) := by decide +kernel
theorem dX2_init_77 : decode cX2_init 77 = .ok (.putfield 46, 3) := by decide +kernel
theorem dX2_init_80 : decode cX2_init 80 = .ok (.aload_n 0, 1) := by decide +kernel
theorem dX2_init_81 : decode cX2_init 81 = .ok (.aload_n 0, 1) := by decide +kernel
theorem dX2_init_82 : decode cX2_init 82 = .ok (.getfield 28, 3) := by decide +kernel
theorem dX2_init_85 : decode cX2_init 85 = .ok (.newarray .boolean, 2) := by decide +kernel
theorem dX2_init_87 : decode cX2_init 87 = .ok (.putfield 50, 3) := by decide +kernel
theorem dX2_init_90 : decode cX2_init 90 = .ok (.aload_n 0, 1) := by decide +kernel
theorem dX2_init_91 : decode cX2_init 91 = .ok (.aload_n 0, 1) := by decide +kernel
theorem dX2_init_92 : decode cX2_init 92 = .ok (.getfield 28, 3) := by decide +kernel
theorem dX2_init_95 : decode cX2_init 95 = .ok (.newarray .boolean, 2) := by decide +kernel
theorem dX2_init_97 : decode cX2_init 97 = .ok (.putfield 53, 3) := by decide +kernel
theorem dX2_init_100 : decode cX2_init 100 = .ok (.aload_n 0, 1) := by decide +kernel
theorem dX2_init_101 : decode cX2_init 101 = .ok (.new 56, 3) := by decide +kernel
theorem dX2_init_104 : decode cX2_init 104 = .ok (.dup, 1) := by decide +kernel
theorem dX2_init_105 : decode cX2_init 105 = .ok (.aload_n 0, 1) := by decide +kernel
theorem dX2_init_106 : decode cX2_init 106 = .ok (.getfield 28, 3) := by decide +kernel
theorem dX2_init_109 : decode cX2_init 109 = .ok (.invokespecial 58, 3) := by decide +kernel
theorem dX2_init_112 : decode cX2_init 112 = .ok (.putfield 59, 3) := by decide +kernel
theorem dX2_init_115 : decode cX2_init 115 = .ok (.aload_n 0, 1) := by decide +kernel
theorem dX2_init_116 : decode cX2_init 116 = .ok (.new 56, 3) := by decide +kernel
theorem dX2_init_119 : decode cX2_init 119 = .ok (.dup, 1) := by decide +kernel
theorem dX2_init_120 : decode cX2_init 120 = .ok (.aload_n 0, 1) := by decide +kernel
theorem dX2_init_121 : decode cX2_init 121 = .ok (.getfield 28, 3) := by decide +kernel
theorem dX2_init_124 : decode cX2_init 124 = .ok (.invokespecial 58, 3) := by decide +kernel
theorem dX2_init_127 : decode cX2_init 127 = .ok (.putfield 63, 3) := by decide +kernel
theorem dX2_init_130 : decode cX2_init 130 = .ok (.aload_n 0, 1) := by decide +kernel
theorem dX2_init_131 : decode cX2_init 131 = .ok (.getfield 40, 3) := by decide +kernel
theorem dX2_init_134 : decode cX2_init 134 = .ok (.iconst (-1), 1) := by decide +kernel
theorem dX2_init_135 : decode cX2_init 135 = .ok (.invokestatic 66, 3) := by decide +kernel
theorem dX2_init_138 : decode cX2_init 138 = .ok (.aload_n 0, 1) := by decide +kernel
theorem dX2_init_139 : decode cX2_init 139 = .ok (.getfield 43, 3) := by decide +kernel
theorem dX2_init_142 : decode cX2_init 142 = .ok (.iconst (-1), 1) := by decide +kernel
theorem dX2_init_143 : decode cX2_init 143 = .ok (.invokestatic 66, 3) := by decide +kernel
theorem dX2_init_146 : decode cX2_init 146 = .ok (.aload_n 0, 1) := by decide +kernel
theorem dX2_init_147 : decode cX2_init 147 = .ok (.getfield 9, 3) := by decide +kernel
theorem dX2_init_150 : decode cX2_init 150 = .ok (.iconst (-1), 1) := by decide +kernel
theorem dX2_init_151 : decode cX2_init 151 = .ok (.invokestatic 66, 3) := by decide +kernel
theorem dX2_init_154 : decode cX2_init 154 = .ok (.return_, 1) := by decide +kernel
theorem dX2_frameOf_0 : decode cX2_frameOf 0 = .ok (.iload_n 1, 1) := by decide +kernel
theorem dX2_frameOf_1 : decode cX2_frameOf 1 = .ok (.ifCond .lt 10, 3) := by decide +kernel
theorem dX2_frameOf_4 : decode cX2_frameOf 4 = .ok (.iload_n 1, 1) := by decide +kernel
theorem dX2_frameOf_5 : decode cX2_frameOf 5 = .ok (.sipush 3072, 3) := by decide +kernel
theorem dX2_frameOf_8 : decode cX2_frameOf 8 = .ok (.if_icmp .lt 7, 3) := by decide +kernel
theorem dX2_frameOf_11 : decode cX2_frameOf 11 = .ok (.iconst (-1), 1) := by decide +kernel
theorem dX2_frameOf_12 : decode cX2_frameOf 12 = .ok (.goto 9, 3) := by decide +kernel
theorem dX2_frameOf_15 : decode cX2_frameOf 15 = .ok (.aload_n 0, 1) := by decide +kernel
theorem dX2_frameOf_16 : decode cX2_frameOf 16 = .ok (.getfield 9, 3) := by decide +kernel
theorem dX2_frameOf_19 : decode cX2_frameOf 19 = .ok (.iload_n 1, 1) := by decide +kernel
theorem dX2_frameOf_20 : decode cX2_frameOf 20 = .ok (.iaload, 1) := by decide +kernel
theorem dX2_frameOf_21 : decode cX2_frameOf 21 = .ok (.ireturn, 1) := by decide +kernel
theorem dX2_spotIn_0 : decode cX2_spotIn 0 = .ok (.iload_n 1, 1) := by decide +kernel
theorem dX2_spotIn_1 : decode cX2_spotIn 1 = .ok (.ifCond .lt 11, 3) := by decide +kernel
theorem dX2_spotIn_4 : decode cX2_spotIn 4 = .ok (.iload_n 1, 1) := by decide +kernel
theorem dX2_spotIn_5 : decode cX2_spotIn 5 = .ok (.aload_n 0, 1) := by decide +kernel
theorem dX2_spotIn_6 : decode cX2_spotIn 6 = .ok (.getfield 28, 3) := by decide +kernel
theorem dX2_spotIn_9 : decode cX2_spotIn 9 = .ok (.if_icmp .lt 7, 3) := by decide +kernel
theorem dX2_spotIn_12 : decode cX2_spotIn 12 = .ok (.iconst (-1), 1) := by decide +kernel
theorem dX2_spotIn_13 : decode cX2_spotIn 13 = .ok (.goto 9, 3) := by decide +kernel
theorem dX2_spotIn_16 : decode cX2_spotIn 16 = .ok (.aload_n 0, 1) := by decide +kernel
theorem dX2_spotIn_17 : decode cX2_spotIn 17 = .ok (.getfield 40, 3) := by decide +kernel
theorem dX2_spotIn_20 : decode cX2_spotIn 20 = .ok (.iload_n 1, 1) := by decide +kernel
theorem dX2_spotIn_21 : decode cX2_spotIn 21 = .ok (.iaload, 1) := by decide +kernel
theorem dX2_spotIn_22 : decode cX2_spotIn 22 = .ok (.ireturn, 1) := by decide +kernel
theorem dX2_leastFree_0 : decode cX2_leastFree 0 = .ok (.iconst 0, 1) := by decide +kernel
theorem dX2_leastFree_1 : decode cX2_leastFree 1 = .ok (.istore_n 1, 1) := by decide +kernel
theorem dX2_leastFree_2 : decode cX2_leastFree 2 = .ok (.iload_n 1, 1) := by decide +kernel
theorem dX2_leastFree_3 : decode cX2_leastFree 3 = .ok (.aload_n 0, 1) := by decide +kernel
theorem dX2_leastFree_4 : decode cX2_leastFree 4 = .ok (.getfield 28, 3) := by decide +kernel
theorem dX2_leastFree_7 : decode cX2_leastFree 7 = .ok (.if_icmp .ge 21, 3) := by decide +kernel
theorem dX2_leastFree_10 : decode cX2_leastFree 10 = .ok (.aload_n 0, 1) := by decide +kernel
theorem dX2_leastFree_11 : decode cX2_leastFree 11 = .ok (.getfield 40, 3) := by decide +kernel
theorem dX2_leastFree_14 : decode cX2_leastFree 14 = .ok (.iload_n 1, 1) := by decide +kernel
theorem dX2_leastFree_15 : decode cX2_leastFree 15 = .ok (.iaload, 1) := by decide +kernel
theorem dX2_leastFree_16 : decode cX2_leastFree 16 = .ok (.iconst (-1), 1) := by decide +kernel
theorem dX2_leastFree_17 : decode cX2_leastFree 17 = .ok (.if_icmp .ne 5, 3) := by decide +kernel
theorem dX2_leastFree_20 : decode cX2_leastFree 20 = .ok (.iload_n 1, 1) := by decide +kernel
theorem dX2_leastFree_21 : decode cX2_leastFree 21 = .ok (.ireturn, 1) := by decide +kernel
theorem dX2_leastFree_22 : decode cX2_leastFree 22 = .ok (.iinc 1 1, 3) := by decide +kernel
theorem dX2_leastFree_25 : decode cX2_leastFree 25 = .ok (.goto (-23), 3) := by decide +kernel
theorem dX2_leastFree_28 : decode cX2_leastFree 28 = .ok (.iconst (-1), 1) := by decide +kernel
theorem dX2_leastFree_29 : decode cX2_leastFree 29 = .ok (.ireturn, 1) := by decide +kernel
theorem dX2_enter_0 : decode cX2_enter 0 = .ok (.iload_n 1, 1) := by decide +kernel
theorem dX2_enter_1 : decode cX2_enter 1 = .ok (.ifCond .lt 22, 3) := by decide +kernel
theorem dX2_enter_4 : decode cX2_enter 4 = .ok (.iload_n 1, 1) := by decide +kernel
theorem dX2_enter_5 : decode cX2_enter 5 = .ok (.aload_n 0, 1) := by decide +kernel
theorem dX2_enter_6 : decode cX2_enter 6 = .ok (.getfield 28, 3) := by decide +kernel
theorem dX2_enter_9 : decode cX2_enter 9 = .ok (.if_icmp .ge 14, 3) := by decide +kernel
theorem dX2_enter_12 : decode cX2_enter 12 = .ok (.iload_n 2, 1) := by decide +kernel
theorem dX2_enter_13 : decode cX2_enter 13 = .ok (.ifCond .lt 10, 3) := by decide +kernel
theorem dX2_enter_16 : decode cX2_enter 16 = .ok (.iload_n 2, 1) := by decide +kernel
theorem dX2_enter_17 : decode cX2_enter 17 = .ok (.sipush 3072, 3) := by decide +kernel
theorem dX2_enter_20 : decode cX2_enter 20 = .ok (.if_icmp .lt 4, 3) := by decide +kernel
theorem dX2_enter_23 : decode cX2_enter 23 = .ok (.return_, 1) := by decide +kernel
theorem dX2_enter_24 : decode cX2_enter 24 = .ok (.aload_n 0, 1) := by decide +kernel
theorem dX2_enter_25 : decode cX2_enter 25 = .ok (.getfield 40, 3) := by decide +kernel
theorem dX2_enter_28 : decode cX2_enter 28 = .ok (.iload_n 1, 1) := by decide +kernel
theorem dX2_enter_29 : decode cX2_enter 29 = .ok (.iload_n 2, 1) := by decide +kernel
theorem dX2_enter_30 : decode cX2_enter 30 = .ok (.iastore, 1) := by decide +kernel
theorem dX2_enter_31 : decode cX2_enter 31 = .ok (.aload_n 0, 1) := by decide +kernel
theorem dX2_enter_32 : decode cX2_enter 32 = .ok (.getfield 9, 3) := by decide +kernel
theorem dX2_enter_35 : decode cX2_enter 35 = .ok (.iload_n 2, 1) := by decide +kernel
theorem dX2_enter_36 : decode cX2_enter 36 = .ok (.iload_n 1, 1) := by decide +kernel
theorem dX2_enter_37 : decode cX2_enter 37 = .ok (.iastore, 1) := by decide +kernel
theorem dX2_enter_38 : decode cX2_enter 38 = .ok (.aload_n 0, 1) := by decide +kernel
theorem dX2_enter_39 : decode cX2_enter 39 = .ok (.getfield 53, 3) := by decide +kernel
theorem dX2_enter_42 : decode cX2_enter 42 = .ok (.iload_n 1, 1) := by decide +kernel
theorem dX2_enter_43 : decode cX2_enter 43 = .ok (.iload_n 3, 1) := by decide +kernel
theorem dX2_enter_44 : decode cX2_enter 44 = .ok (.bastore, 1) := by decide +kernel
theorem dX2_enter_45 : decode cX2_enter 45 = .ok (.iload_n 3, 1) := by decide +kernel
theorem dX2_enter_46 : decode cX2_enter 46 = .ok (.ifCond .eq 10, 3) := by decide +kernel
theorem dX2_enter_49 : decode cX2_enter 49 = .ok (.aload_n 0, 1) := by decide +kernel
theorem dX2_enter_50 : decode cX2_enter 50 = .ok (.getfield 59, 3) := by decide +kernel
theorem dX2_enter_53 : decode cX2_enter 53 = .ok (.goto 7, 3) := by decide +kernel
theorem dX2_enter_56 : decode cX2_enter 56 = .ok (.aload_n 0, 1) := by decide +kernel
theorem dX2_enter_57 : decode cX2_enter 57 = .ok (.getfield 63, 3) := by decide +kernel
theorem dX2_enter_60 : decode cX2_enter 60 = .ok (.astore 4, 2) := by decide +kernel
theorem dX2_enter_62 : decode cX2_enter 62 = .ok (.aload 4, 2) := by decide +kernel
theorem dX2_enter_64 : decode cX2_enter 64 = .ok (.iload_n 1, 1) := by decide +kernel
theorem dX2_enter_65 : decode cX2_enter 65 = .ok (.invokevirtual 72, 3) := by decide +kernel
theorem dX2_enter_68 : decode cX2_enter 68 = .ok (.return_, 1) := by decide +kernel
theorem dX2_leave_0 : decode cX2_leave 0 = .ok (.aload_n 0, 1) := by decide +kernel
theorem dX2_leave_1 : decode cX2_leave 1 = .ok (.iload_n 1, 1) := by decide +kernel
theorem dX2_leave_2 : decode cX2_leave 2 = .ok (.invokevirtual 75, 3) := by decide +kernel
theorem dX2_leave_5 : decode cX2_leave 5 = .ok (.istore_n 2, 1) := by decide +kernel
theorem dX2_leave_6 : decode cX2_leave 6 = .ok (.iload_n 2, 1) := by decide +kernel
theorem dX2_leave_7 : decode cX2_leave 7 = .ok (.iconst (-1), 1) := by decide +kernel
theorem dX2_leave_8 : decode cX2_leave 8 = .ok (.if_icmp .ne 4, 3) := by decide +kernel
theorem dX2_leave_11 : decode cX2_leave 11 = .ok (.return_, 1) := by decide +kernel
theorem dX2_leave_12 : decode cX2_leave 12 = .ok (.aload_n 0, 1) := by decide +kernel
theorem dX2_leave_13 : decode cX2_leave 13 = .ok (.iload_n 1, 1) := by decide +kernel
theorem dX2_leave_14 : decode cX2_leave 14 = .ok (.invokevirtual 79, 3) := by decide +kernel
theorem dX2_leave_17 : decode cX2_leave 17 = .ok (.aload_n 0, 1) := by decide +kernel
theorem dX2_leave_18 : decode cX2_leave 18 = .ok (.iload_n 1, 1) := by decide +kernel
theorem dX2_leave_19 : decode cX2_leave 19 = .ok (.iconst 0, 1) := by decide +kernel
theorem dX2_leave_20 : decode cX2_leave 20 = .ok (.invokevirtual 82, 3) := by decide +kernel
theorem dX2_leave_23 : decode cX2_leave 23 = .ok (.aload_n 0, 1) := by decide +kernel
theorem dX2_leave_24 : decode cX2_leave 24 = .ok (.getfield 53, 3) := by decide +kernel
theorem dX2_leave_27 : decode cX2_leave 27 = .ok (.iload_n 1, 1) := by decide +kernel
theorem dX2_leave_28 : decode cX2_leave 28 = .ok (.baload, 1) := by decide +kernel
theorem dX2_leave_29 : decode cX2_leave 29 = .ok (.ifCond .eq 10, 3) := by decide +kernel
theorem dX2_leave_32 : decode cX2_leave 32 = .ok (.aload_n 0, 1) := by decide +kernel
theorem dX2_leave_33 : decode cX2_leave 33 = .ok (.getfield 59, 3) := by decide +kernel
theorem dX2_leave_36 : decode cX2_leave 36 = .ok (.goto 7, 3) := by decide +kernel
theorem dX2_leave_39 : decode cX2_leave 39 = .ok (.aload_n 0, 1) := by decide +kernel
theorem dX2_leave_40 : decode cX2_leave 40 = .ok (.getfield 63, 3) := by decide +kernel
theorem dX2_leave_43 : decode cX2_leave 43 = .ok (.astore_n 3, 1) := by decide +kernel
theorem dX2_leave_44 : decode cX2_leave 44 = .ok (.aload_n 3, 1) := by decide +kernel
theorem dX2_leave_45 : decode cX2_leave 45 = .ok (.iload_n 1, 1) := by decide +kernel
theorem dX2_leave_46 : decode cX2_leave 46 = .ok (.invokevirtual 86, 3) := by decide +kernel
theorem dX2_leave_49 : decode cX2_leave 49 = .ok (.aload_n 0, 1) := by decide +kernel
theorem dX2_leave_50 : decode cX2_leave 50 = .ok (.getfield 46, 3) := by decide +kernel
theorem dX2_leave_53 : decode cX2_leave 53 = .ok (.iload_n 1, 1) := by decide +kernel
theorem dX2_leave_54 : decode cX2_leave 54 = .ok (.iconst 0, 1) := by decide +kernel
theorem dX2_leave_55 : decode cX2_leave 55 = .ok (.bastore, 1) := by decide +kernel
theorem dX2_leave_56 : decode cX2_leave 56 = .ok (.aload_n 0, 1) := by decide +kernel
theorem dX2_leave_57 : decode cX2_leave 57 = .ok (.getfield 53, 3) := by decide +kernel
theorem dX2_leave_60 : decode cX2_leave 60 = .ok (.iload_n 1, 1) := by decide +kernel
theorem dX2_leave_61 : decode cX2_leave 61 = .ok (.iconst 0, 1) := by decide +kernel
theorem dX2_leave_62 : decode cX2_leave 62 = .ok (.bastore, 1) := by decide +kernel
theorem dX2_leave_63 : decode cX2_leave 63 = .ok (.aload_n 0, 1) := by decide +kernel
theorem dX2_leave_64 : decode cX2_leave 64 = .ok (.getfield 9, 3) := by decide +kernel
theorem dX2_leave_67 : decode cX2_leave 67 = .ok (.iload_n 2, 1) := by decide +kernel
theorem dX2_leave_68 : decode cX2_leave 68 = .ok (.iconst (-1), 1) := by decide +kernel
theorem dX2_leave_69 : decode cX2_leave 69 = .ok (.iastore, 1) := by decide +kernel
theorem dX2_leave_70 : decode cX2_leave 70 = .ok (.aload_n 0, 1) := by decide +kernel
theorem dX2_leave_71 : decode cX2_leave 71 = .ok (.getfield 40, 3) := by decide +kernel
theorem dX2_leave_74 : decode cX2_leave 74 = .ok (.iload_n 1, 1) := by decide +kernel
theorem dX2_leave_75 : decode cX2_leave 75 = .ok (.iconst (-1), 1) := by decide +kernel
theorem dX2_leave_76 : decode cX2_leave 76 = .ok (.iastore, 1) := by decide +kernel
theorem dX2_leave_77 : decode cX2_leave 77 = .ok (.return_, 1) := by decide +kernel
theorem dX2_toFront_0 : decode cX2_toFront 0 = .ok (.iload_n 1, 1) := by decide +kernel
theorem dX2_toFront_1 : decode cX2_toFront 1 = .ok (.ifCond .lt 11, 3) := by decide +kernel
theorem dX2_toFront_4 : decode cX2_toFront 4 = .ok (.iload_n 1, 1) := by decide +kernel
theorem dX2_toFront_5 : decode cX2_toFront 5 = .ok (.aload_n 0, 1) := by decide +kernel
theorem dX2_toFront_6 : decode cX2_toFront 6 = .ok (.getfield 28, 3) := by decide +kernel
theorem dX2_toFront_9 : decode cX2_toFront 9 = .ok (.if_icmp .lt 4, 3) := by decide +kernel
theorem dX2_toFront_12 : decode cX2_toFront 12 = .ok (.return_, 1) := by decide +kernel
theorem dX2_toFront_13 : decode cX2_toFront 13 = .ok (.aload_n 0, 1) := by decide +kernel
theorem dX2_toFront_14 : decode cX2_toFront 14 = .ok (.getfield 53, 3) := by decide +kernel
theorem dX2_toFront_17 : decode cX2_toFront 17 = .ok (.iload_n 1, 1) := by decide +kernel
theorem dX2_toFront_18 : decode cX2_toFront 18 = .ok (.baload, 1) := by decide +kernel
theorem dX2_toFront_19 : decode cX2_toFront 19 = .ok (.ifCond .eq 10, 3) := by decide +kernel
theorem dX2_toFront_22 : decode cX2_toFront 22 = .ok (.aload_n 0, 1) := by decide +kernel
theorem dX2_toFront_23 : decode cX2_toFront 23 = .ok (.getfield 59, 3) := by decide +kernel
theorem dX2_toFront_26 : decode cX2_toFront 26 = .ok (.goto 7, 3) := by decide +kernel
theorem dX2_toFront_29 : decode cX2_toFront 29 = .ok (.aload_n 0, 1) := by decide +kernel
theorem dX2_toFront_30 : decode cX2_toFront 30 = .ok (.getfield 63, 3) := by decide +kernel
theorem dX2_toFront_33 : decode cX2_toFront 33 = .ok (.astore_n 3, 1) := by decide +kernel
theorem dX2_toFront_34 : decode cX2_toFront 34 = .ok (.iload_n 2, 1) := by decide +kernel
theorem dX2_toFront_35 : decode cX2_toFront 35 = .ok (.ifCond .eq 10, 3) := by decide +kernel
theorem dX2_toFront_38 : decode cX2_toFront 38 = .ok (.aload_n 0, 1) := by decide +kernel
theorem dX2_toFront_39 : decode cX2_toFront 39 = .ok (.getfield 59, 3) := by decide +kernel
theorem dX2_toFront_42 : decode cX2_toFront 42 = .ok (.goto 7, 3) := by decide +kernel
theorem dX2_toFront_45 : decode cX2_toFront 45 = .ok (.aload_n 0, 1) := by decide +kernel
theorem dX2_toFront_46 : decode cX2_toFront 46 = .ok (.getfield 63, 3) := by decide +kernel
theorem dX2_toFront_49 : decode cX2_toFront 49 = .ok (.astore 4, 2) := by decide +kernel
theorem dX2_toFront_51 : decode cX2_toFront 51 = .ok (.aload_n 3, 1) := by decide +kernel
theorem dX2_toFront_52 : decode cX2_toFront 52 = .ok (.iload_n 1, 1) := by decide +kernel
theorem dX2_toFront_53 : decode cX2_toFront 53 = .ok (.invokevirtual 86, 3) := by decide +kernel
theorem dX2_toFront_56 : decode cX2_toFront 56 = .ok (.aload 4, 2) := by decide +kernel
theorem dX2_toFront_58 : decode cX2_toFront 58 = .ok (.iload_n 1, 1) := by decide +kernel
theorem dX2_toFront_59 : decode cX2_toFront 59 = .ok (.invokevirtual 72, 3) := by decide +kernel
theorem dX2_toFront_62 : decode cX2_toFront 62 = .ok (.aload_n 0, 1) := by decide +kernel
theorem dX2_toFront_63 : decode cX2_toFront 63 = .ok (.getfield 53, 3) := by decide +kernel
theorem dX2_toFront_66 : decode cX2_toFront 66 = .ok (.iload_n 1, 1) := by decide +kernel
theorem dX2_toFront_67 : decode cX2_toFront 67 = .ok (.iload_n 2, 1) := by decide +kernel
theorem dX2_toFront_68 : decode cX2_toFront 68 = .ok (.bastore, 1) := by decide +kernel
theorem dX2_toFront_69 : decode cX2_toFront 69 = .ok (.return_, 1) := by decide +kernel
theorem dX2_seeAgain_0 : decode cX2_seeAgain 0 = .ok (.iload_n 1, 1) := by decide +kernel
theorem dX2_seeAgain_1 : decode cX2_seeAgain 1 = .ok (.ifCond .lt 11, 3) := by decide +kernel
theorem dX2_seeAgain_4 : decode cX2_seeAgain 4 = .ok (.iload_n 1, 1) := by decide +kernel
theorem dX2_seeAgain_5 : decode cX2_seeAgain 5 = .ok (.aload_n 0, 1) := by decide +kernel
theorem dX2_seeAgain_6 : decode cX2_seeAgain 6 = .ok (.getfield 28, 3) := by decide +kernel
theorem dX2_seeAgain_9 : decode cX2_seeAgain 9 = .ok (.if_icmp .lt 4, 3) := by decide +kernel
theorem dX2_seeAgain_12 : decode cX2_seeAgain 12 = .ok (.return_, 1) := by decide +kernel
theorem dX2_seeAgain_13 : decode cX2_seeAgain 13 = .ok (.aload_n 0, 1) := by decide +kernel
theorem dX2_seeAgain_14 : decode cX2_seeAgain 14 = .ok (.getfield 46, 3) := by decide +kernel
theorem dX2_seeAgain_17 : decode cX2_seeAgain 17 = .ok (.iload_n 1, 1) := by decide +kernel
theorem dX2_seeAgain_18 : decode cX2_seeAgain 18 = .ok (.baload, 1) := by decide +kernel
theorem dX2_seeAgain_19 : decode cX2_seeAgain 19 = .ok (.ifCond .ne 13, 3) := by decide +kernel
theorem dX2_seeAgain_22 : decode cX2_seeAgain 22 = .ok (.aload_n 0, 1) := by decide +kernel
theorem dX2_seeAgain_23 : decode cX2_seeAgain 23 = .ok (.getfield 46, 3) := by decide +kernel
theorem dX2_seeAgain_26 : decode cX2_seeAgain 26 = .ok (.iload_n 1, 1) := by decide +kernel
theorem dX2_seeAgain_27 : decode cX2_seeAgain 27 = .ok (.iconst 1, 1) := by decide +kernel
theorem dX2_seeAgain_28 : decode cX2_seeAgain 28 = .ok (.bastore, 1) := by decide +kernel
theorem dX2_seeAgain_29 : decode cX2_seeAgain 29 = .ok (.goto 25, 3) := by decide +kernel
theorem dX2_seeAgain_32 : decode cX2_seeAgain 32 = .ok (.aload_n 0, 1) := by decide +kernel
theorem dX2_seeAgain_33 : decode cX2_seeAgain 33 = .ok (.getfield 53, 3) := by decide +kernel
theorem dX2_seeAgain_36 : decode cX2_seeAgain 36 = .ok (.iload_n 1, 1) := by decide +kernel
theorem dX2_seeAgain_37 : decode cX2_seeAgain 37 = .ok (.baload, 1) := by decide +kernel
theorem dX2_seeAgain_38 : decode cX2_seeAgain 38 = .ok (.ifCond .ne 16, 3) := by decide +kernel
theorem dX2_seeAgain_41 : decode cX2_seeAgain 41 = .ok (.aload_n 0, 1) := by decide +kernel
theorem dX2_seeAgain_42 : decode cX2_seeAgain 42 = .ok (.getfield 46, 3) := by decide +kernel
theorem dX2_seeAgain_45 : decode cX2_seeAgain 45 = .ok (.iload_n 1, 1) := by decide +kernel
theorem dX2_seeAgain_46 : decode cX2_seeAgain 46 = .ok (.iconst 0, 1) := by decide +kernel
theorem dX2_seeAgain_47 : decode cX2_seeAgain 47 = .ok (.bastore, 1) := by decide +kernel
theorem dX2_seeAgain_48 : decode cX2_seeAgain 48 = .ok (.aload_n 0, 1) := by decide +kernel
theorem dX2_seeAgain_49 : decode cX2_seeAgain 49 = .ok (.iload_n 1, 1) := by decide +kernel
theorem dX2_seeAgain_50 : decode cX2_seeAgain 50 = .ok (.iconst 1, 1) := by decide +kernel
theorem dX2_seeAgain_51 : decode cX2_seeAgain 51 = .ok (.invokevirtual 89, 3) := by decide +kernel
theorem dX2_seeAgain_54 : decode cX2_seeAgain 54 = .ok (.return_, 1) := by decide +kernel
theorem dX2_balance_0 : decode cX2_balance 0 = .ok (.iconst 0, 1) := by decide +kernel
theorem dX2_balance_1 : decode cX2_balance 1 = .ok (.istore_n 1, 1) := by decide +kernel
theorem dX2_balance_2 : decode cX2_balance 2 = .ok (.iload_n 1, 1) := by decide +kernel
theorem dX2_balance_3 : decode cX2_balance 3 = .ok (.iconst 2, 1) := by decide +kernel
theorem dX2_balance_4 : decode cX2_balance 4 = .ok (.aload_n 0, 1) := by decide +kernel
theorem dX2_balance_5 : decode cX2_balance 5 = .ok (.getfield 28, 3) := by decide +kernel
theorem dX2_balance_8 : decode cX2_balance 8 = .ok (.imul, 1) := by decide +kernel
theorem dX2_balance_9 : decode cX2_balance 9 = .ok (.if_icmp .ge 58, 3) := by decide +kernel
theorem dX2_balance_12 : decode cX2_balance 12 = .ok (.aload_n 0, 1) := by decide +kernel
theorem dX2_balance_13 : decode cX2_balance 13 = .ok (.getfield 59, 3) := by decide +kernel
theorem dX2_balance_16 : decode cX2_balance 16 = .ok (.getfield 92, 3) := by decide +kernel
theorem dX2_balance_19 : decode cX2_balance 19 = .ok (.aload_n 0, 1) := by decide +kernel
theorem dX2_balance_20 : decode cX2_balance 20 = .ok (.getfield 63, 3) := by decide +kernel
theorem dX2_balance_23 : decode cX2_balance 23 = .ok (.getfield 92, 3) := by decide +kernel
theorem dX2_balance_26 : decode cX2_balance 26 = .ok (.if_icmp .le 41, 3) := by decide +kernel
theorem dX2_balance_29 : decode cX2_balance 29 = .ok (.aload_n 0, 1) := by decide +kernel
theorem dX2_balance_30 : decode cX2_balance 30 = .ok (.getfield 59, 3) := by decide +kernel
theorem dX2_balance_33 : decode cX2_balance 33 = .ok (.invokevirtual 95, 3) := by decide +kernel
theorem dX2_balance_36 : decode cX2_balance 36 = .ok (.istore_n 2, 1) := by decide +kernel
theorem dX2_balance_37 : decode cX2_balance 37 = .ok (.iload_n 2, 1) := by decide +kernel
theorem dX2_balance_38 : decode cX2_balance 38 = .ok (.iconst (-1), 1) := by decide +kernel
theorem dX2_balance_39 : decode cX2_balance 39 = .ok (.if_icmp .ne 4, 3) := by decide +kernel
theorem dX2_balance_42 : decode cX2_balance 42 = .ok (.return_, 1) := by decide +kernel
theorem dX2_balance_43 : decode cX2_balance 43 = .ok (.aload_n 0, 1) := by decide +kernel
theorem dX2_balance_44 : decode cX2_balance 44 = .ok (.iload_n 2, 1) := by decide +kernel
theorem dX2_balance_45 : decode cX2_balance 45 = .ok (.aload_n 0, 1) := by decide +kernel
theorem dX2_balance_46 : decode cX2_balance 46 = .ok (.getfield 46, 3) := by decide +kernel
theorem dX2_balance_49 : decode cX2_balance 49 = .ok (.iload_n 2, 1) := by decide +kernel
theorem dX2_balance_50 : decode cX2_balance 50 = .ok (.baload, 1) := by decide +kernel
theorem dX2_balance_51 : decode cX2_balance 51 = .ok (.invokevirtual 89, 3) := by decide +kernel
theorem dX2_balance_54 : decode cX2_balance 54 = .ok (.aload_n 0, 1) := by decide +kernel
theorem dX2_balance_55 : decode cX2_balance 55 = .ok (.getfield 46, 3) := by decide +kernel
theorem dX2_balance_58 : decode cX2_balance 58 = .ok (.iload_n 2, 1) := by decide +kernel
theorem dX2_balance_59 : decode cX2_balance 59 = .ok (.iconst 0, 1) := by decide +kernel
theorem dX2_balance_60 : decode cX2_balance 60 = .ok (.bastore, 1) := by decide +kernel
theorem dX2_balance_61 : decode cX2_balance 61 = .ok (.iinc 1 1, 3) := by decide +kernel
theorem dX2_balance_64 : decode cX2_balance 64 = .ok (.goto (-62), 3) := by decide +kernel
theorem dX2_balance_67 : decode cX2_balance 67 = .ok (.return_, 1) := by decide +kernel
theorem dX2_placeOf_0 : decode cX2_placeOf 0 = .ok (.iload_n 1, 1) := by decide +kernel
theorem dX2_placeOf_1 : decode cX2_placeOf 1 = .ok (.ifCond .lt 11, 3) := by decide +kernel
theorem dX2_placeOf_4 : decode cX2_placeOf 4 = .ok (.iload_n 1, 1) := by decide +kernel
theorem dX2_placeOf_5 : decode cX2_placeOf 5 = .ok (.aload_n 0, 1) := by decide +kernel
theorem dX2_placeOf_6 : decode cX2_placeOf 6 = .ok (.getfield 28, 3) := by decide +kernel
theorem dX2_placeOf_9 : decode cX2_placeOf 9 = .ok (.if_icmp .lt 5, 3) := by decide +kernel
theorem dX2_placeOf_12 : decode cX2_placeOf 12 = .ok (.iconst (-1), 1) := by decide +kernel
theorem dX2_placeOf_13 : decode cX2_placeOf 13 = .ok (.ireturn, 1) := by decide +kernel
theorem dX2_placeOf_14 : decode cX2_placeOf 14 = .ok (.aload_n 0, 1) := by decide +kernel
theorem dX2_placeOf_15 : decode cX2_placeOf 15 = .ok (.getfield 53, 3) := by decide +kernel
theorem dX2_placeOf_18 : decode cX2_placeOf 18 = .ok (.iload_n 1, 1) := by decide +kernel
theorem dX2_placeOf_19 : decode cX2_placeOf 19 = .ok (.baload, 1) := by decide +kernel
theorem dX2_placeOf_20 : decode cX2_placeOf 20 = .ok (.ifCond .eq 14, 3) := by decide +kernel
theorem dX2_placeOf_23 : decode cX2_placeOf 23 = .ok (.aload_n 0, 1) := by decide +kernel
theorem dX2_placeOf_24 : decode cX2_placeOf 24 = .ok (.getfield 59, 3) := by decide +kernel
theorem dX2_placeOf_27 : decode cX2_placeOf 27 = .ok (.iload_n 1, 1) := by decide +kernel
theorem dX2_placeOf_28 : decode cX2_placeOf 28 = .ok (.invokevirtual 99, 3) := by decide +kernel
theorem dX2_placeOf_31 : decode cX2_placeOf 31 = .ok (.goto 11, 3) := by decide +kernel
theorem dX2_placeOf_34 : decode cX2_placeOf 34 = .ok (.aload_n 0, 1) := by decide +kernel
theorem dX2_placeOf_35 : decode cX2_placeOf 35 = .ok (.getfield 63, 3) := by decide +kernel
theorem dX2_placeOf_38 : decode cX2_placeOf 38 = .ok (.iload_n 1, 1) := by decide +kernel
theorem dX2_placeOf_39 : decode cX2_placeOf 39 = .ok (.invokevirtual 99, 3) := by decide +kernel
theorem dX2_placeOf_42 : decode cX2_placeOf 42 = .ok (.ireturn, 1) := by decide +kernel
theorem dX2_isDirty_0 : decode cX2_isDirty 0 = .ok (.iload_n 1, 1) := by decide +kernel
theorem dX2_isDirty_1 : decode cX2_isDirty 1 = .ok (.ifCond .lt 25, 3) := by decide +kernel
theorem dX2_isDirty_4 : decode cX2_isDirty 4 = .ok (.iload_n 1, 1) := by decide +kernel
theorem dX2_isDirty_5 : decode cX2_isDirty 5 = .ok (.aload_n 0, 1) := by decide +kernel
theorem dX2_isDirty_6 : decode cX2_isDirty 6 = .ok (.getfield 28, 3) := by decide +kernel
theorem dX2_isDirty_9 : decode cX2_isDirty 9 = .ok (.if_icmp .ge 17, 3) := by decide +kernel
theorem dX2_isDirty_12 : decode cX2_isDirty 12 = .ok (.aload_n 0, 1) := by decide +kernel
theorem dX2_isDirty_13 : decode cX2_isDirty 13 = .ok (.getfield 43, 3) := by decide +kernel
theorem dX2_isDirty_16 : decode cX2_isDirty 16 = .ok (.iload_n 1, 1) := by decide +kernel
theorem dX2_isDirty_17 : decode cX2_isDirty 17 = .ok (.iaload, 1) := by decide +kernel
theorem dX2_isDirty_18 : decode cX2_isDirty 18 = .ok (.iconst (-1), 1) := by decide +kernel
theorem dX2_isDirty_19 : decode cX2_isDirty 19 = .ok (.if_icmp .eq 7, 3) := by decide +kernel
theorem dX2_isDirty_22 : decode cX2_isDirty 22 = .ok (.iconst 1, 1) := by decide +kernel
theorem dX2_isDirty_23 : decode cX2_isDirty 23 = .ok (.goto 4, 3) := by decide +kernel
theorem dX2_isDirty_26 : decode cX2_isDirty 26 = .ok (.iconst 0, 1) := by decide +kernel
theorem dX2_isDirty_27 : decode cX2_isDirty 27 = .ok (.ireturn, 1) := by decide +kernel
theorem dX2_soil_0 : decode cX2_soil 0 = .ok (.iload_n 1, 1) := by decide +kernel
theorem dX2_soil_1 : decode cX2_soil 1 = .ok (.ifCond .lt 38, 3) := by decide +kernel
theorem dX2_soil_4 : decode cX2_soil 4 = .ok (.iload_n 1, 1) := by decide +kernel
theorem dX2_soil_5 : decode cX2_soil 5 = .ok (.aload_n 0, 1) := by decide +kernel
theorem dX2_soil_6 : decode cX2_soil 6 = .ok (.getfield 28, 3) := by decide +kernel
theorem dX2_soil_9 : decode cX2_soil 9 = .ok (.if_icmp .ge 30, 3) := by decide +kernel
theorem dX2_soil_12 : decode cX2_soil 12 = .ok (.aload_n 0, 1) := by decide +kernel
theorem dX2_soil_13 : decode cX2_soil 13 = .ok (.getfield 43, 3) := by decide +kernel
theorem dX2_soil_16 : decode cX2_soil 16 = .ok (.iload_n 1, 1) := by decide +kernel
theorem dX2_soil_17 : decode cX2_soil 17 = .ok (.iaload, 1) := by decide +kernel
theorem dX2_soil_18 : decode cX2_soil 18 = .ok (.iconst (-1), 1) := by decide +kernel
theorem dX2_soil_19 : decode cX2_soil 19 = .ok (.if_icmp .ne 20, 3) := by decide +kernel
theorem dX2_soil_22 : decode cX2_soil 22 = .ok (.aload_n 0, 1) := by decide +kernel
theorem dX2_soil_23 : decode cX2_soil 23 = .ok (.getfield 43, 3) := by decide +kernel
theorem dX2_soil_26 : decode cX2_soil 26 = .ok (.iload_n 1, 1) := by decide +kernel
theorem dX2_soil_27 : decode cX2_soil 27 = .ok (.iload_n 2, 1) := by decide +kernel
theorem dX2_soil_28 : decode cX2_soil 28 = .ok (.iastore, 1) := by decide +kernel
theorem dX2_soil_29 : decode cX2_soil 29 = .ok (.aload_n 0, 1) := by decide +kernel
theorem dX2_soil_30 : decode cX2_soil 30 = .ok (.dup, 1) := by decide +kernel
theorem dX2_soil_31 : decode cX2_soil 31 = .ok (.getfield 15, 3) := by decide +kernel
theorem dX2_soil_34 : decode cX2_soil 34 = .ok (.iconst 1, 1) := by decide +kernel
theorem dX2_soil_35 : decode cX2_soil 35 = .ok (.iadd, 1) := by decide +kernel
theorem dX2_soil_36 : decode cX2_soil 36 = .ok (.putfield 15, 3) := by decide +kernel
theorem dX2_soil_39 : decode cX2_soil 39 = .ok (.return_, 1) := by decide +kernel
theorem dX2_clean_0 : decode cX2_clean 0 = .ok (.aload_n 0, 1) := by decide +kernel
theorem dX2_clean_1 : decode cX2_clean 1 = .ok (.iload_n 1, 1) := by decide +kernel
theorem dX2_clean_2 : decode cX2_clean 2 = .ok (.invokevirtual 102, 3) := by decide +kernel
theorem dX2_clean_5 : decode cX2_clean 5 = .ok (.ifCond .eq 20, 3) := by decide +kernel
theorem dX2_clean_8 : decode cX2_clean 8 = .ok (.aload_n 0, 1) := by decide +kernel
theorem dX2_clean_9 : decode cX2_clean 9 = .ok (.getfield 43, 3) := by decide +kernel
theorem dX2_clean_12 : decode cX2_clean 12 = .ok (.iload_n 1, 1) := by decide +kernel
theorem dX2_clean_13 : decode cX2_clean 13 = .ok (.iconst (-1), 1) := by decide +kernel
theorem dX2_clean_14 : decode cX2_clean 14 = .ok (.iastore, 1) := by decide +kernel
theorem dX2_clean_15 : decode cX2_clean 15 = .ok (.aload_n 0, 1) := by decide +kernel
theorem dX2_clean_16 : decode cX2_clean 16 = .ok (.dup, 1) := by decide +kernel
theorem dX2_clean_17 : decode cX2_clean 17 = .ok (.getfield 15, 3) := by decide +kernel
theorem dX2_clean_20 : decode cX2_clean 20 = .ok (.iconst 1, 1) := by decide +kernel
theorem dX2_clean_21 : decode cX2_clean 21 = .ok (.isub, 1) := by decide +kernel
theorem dX2_clean_22 : decode cX2_clean 22 = .ok (.putfield 15, 3) := by decide +kernel
theorem dX2_clean_25 : decode cX2_clean 25 = .ok (.return_, 1) := by decide +kernel
theorem dX2_setPinned_0 : decode cX2_setPinned 0 = .ok (.iload_n 1, 1) := by decide +kernel
theorem dX2_setPinned_1 : decode cX2_setPinned 1 = .ok (.ifCond .lt 46, 3) := by decide +kernel
theorem dX2_setPinned_4 : decode cX2_setPinned 4 = .ok (.iload_n 1, 1) := by decide +kernel
theorem dX2_setPinned_5 : decode cX2_setPinned 5 = .ok (.aload_n 0, 1) := by decide +kernel
theorem dX2_setPinned_6 : decode cX2_setPinned 6 = .ok (.getfield 28, 3) := by decide +kernel
theorem dX2_setPinned_9 : decode cX2_setPinned 9 = .ok (.if_icmp .ge 38, 3) := by decide +kernel
theorem dX2_setPinned_12 : decode cX2_setPinned 12 = .ok (.aload_n 0, 1) := by decide +kernel
theorem dX2_setPinned_13 : decode cX2_setPinned 13 = .ok (.getfield 50, 3) := by decide +kernel
theorem dX2_setPinned_16 : decode cX2_setPinned 16 = .ok (.iload_n 1, 1) := by decide +kernel
theorem dX2_setPinned_17 : decode cX2_setPinned 17 = .ok (.baload, 1) := by decide +kernel
theorem dX2_setPinned_18 : decode cX2_setPinned 18 = .ok (.iload_n 2, 1) := by decide +kernel
theorem dX2_setPinned_19 : decode cX2_setPinned 19 = .ok (.if_icmp .eq 28, 3) := by decide +kernel
theorem dX2_setPinned_22 : decode cX2_setPinned 22 = .ok (.aload_n 0, 1) := by decide +kernel
theorem dX2_setPinned_23 : decode cX2_setPinned 23 = .ok (.getfield 50, 3) := by decide +kernel
theorem dX2_setPinned_26 : decode cX2_setPinned 26 = .ok (.iload_n 1, 1) := by decide +kernel
theorem dX2_setPinned_27 : decode cX2_setPinned 27 = .ok (.iload_n 2, 1) := by decide +kernel
theorem dX2_setPinned_28 : decode cX2_setPinned 28 = .ok (.bastore, 1) := by decide +kernel
theorem dX2_setPinned_29 : decode cX2_setPinned 29 = .ok (.aload_n 0, 1) := by decide +kernel
theorem dX2_setPinned_30 : decode cX2_setPinned 30 = .ok (.dup, 1) := by decide +kernel
theorem dX2_setPinned_31 : decode cX2_setPinned 31 = .ok (.getfield 19, 3) := by decide +kernel
theorem dX2_setPinned_34 : decode cX2_setPinned 34 = .ok (.iload_n 2, 1) := by decide +kernel
theorem dX2_setPinned_35 : decode cX2_setPinned 35 = .ok (.ifCond .eq 7, 3) := by decide +kernel
theorem dX2_setPinned_38 : decode cX2_setPinned 38 = .ok (.iconst 1, 1) := by decide +kernel
theorem dX2_setPinned_39 : decode cX2_setPinned 39 = .ok (.goto 4, 3) := by decide +kernel
theorem dX2_setPinned_42 : decode cX2_setPinned 42 = .ok (.iconst (-1), 1) := by decide +kernel
theorem dX2_setPinned_43 : decode cX2_setPinned 43 = .ok (.iadd, 1) := by decide +kernel
theorem dX2_setPinned_44 : decode cX2_setPinned 44 = .ok (.putfield 19, 3) := by decide +kernel
theorem dX2_setPinned_47 : decode cX2_setPinned 47 = .ok (.return_, 1) := by decide +kernel
theorem dX2_ageKey_0 : decode cX2_ageKey 0 = .ok (.aload_n 0, 1) := by decide +kernel
theorem dX2_ageKey_1 : decode cX2_ageKey 1 = .ok (.iload_n 1, 1) := by decide +kernel
theorem dX2_ageKey_2 : decode cX2_ageKey 2 = .ok (.invokevirtual 102, 3) := by decide +kernel
theorem dX2_ageKey_5 : decode cX2_ageKey 5 = .ok (.ifCond .eq 25, 3) := by decide +kernel
theorem dX2_ageKey_8 : decode cX2_ageKey 8 = .ok (.aload_n 0, 1) := by decide +kernel
theorem dX2_ageKey_9 : decode cX2_ageKey 9 = .ok (.getfield 43, 3) := by decide +kernel
theorem dX2_ageKey_12 : decode cX2_ageKey 12 = .ok (.iload_n 1, 1) := by decide +kernel
theorem dX2_ageKey_13 : decode cX2_ageKey 13 = .ok (.iaload, 1) := by decide +kernel
theorem dX2_ageKey_14 : decode cX2_ageKey 14 = .ok (.i2l, 1) := by decide +kernel
theorem dX2_ageKey_15 : decode cX2_ageKey 15 = .ok (.ldc2_w 106, 3) := by decide +kernel
theorem dX2_ageKey_18 : decode cX2_ageKey 18 = .ok (.lmul, 1) := by decide +kernel
theorem dX2_ageKey_19 : decode cX2_ageKey 19 = .ok (.aload_n 0, 1) := by decide +kernel
theorem dX2_ageKey_20 : decode cX2_ageKey 20 = .ok (.getfield 40, 3) := by decide +kernel
theorem dX2_ageKey_23 : decode cX2_ageKey 23 = .ok (.iload_n 1, 1) := by decide +kernel
theorem dX2_ageKey_24 : decode cX2_ageKey 24 = .ok (.iaload, 1) := by decide +kernel
theorem dX2_ageKey_25 : decode cX2_ageKey 25 = .ok (.i2l, 1) := by decide +kernel
theorem dX2_ageKey_26 : decode cX2_ageKey 26 = .ok (.ladd, 1) := by decide +kernel
theorem dX2_ageKey_27 : decode cX2_ageKey 27 = .ok (.goto 6, 3) := by decide +kernel
theorem dX2_ageKey_30 : decode cX2_ageKey 30 = .ok (.ldc2_w 108, 3) := by decide +kernel
theorem dX2_ageKey_33 : decode cX2_ageKey 33 = .ok (.lreturn, 1) := by decide +kernel
theorem dX2_oldestDirty_0 : decode cX2_oldestDirty 0 = .ok (.iconst (-1), 1) := by decide +kernel
theorem dX2_oldestDirty_1 : decode cX2_oldestDirty 1 = .ok (.istore_n 3, 1) := by decide +kernel
theorem dX2_oldestDirty_2 : decode cX2_oldestDirty 2 = .ok (.lconst 0, 1) := by decide +kernel
theorem dX2_oldestDirty_3 : decode cX2_oldestDirty 3 = .ok (.lstore 4, 2) := by decide +kernel
theorem dX2_oldestDirty_5 : decode cX2_oldestDirty 5 = .ok (.iconst 0, 1) := by decide +kernel
theorem dX2_oldestDirty_6 : decode cX2_oldestDirty 6 = .ok (.istore 6, 2) := by decide +kernel
theorem dX2_oldestDirty_8 : decode cX2_oldestDirty 8 = .ok (.iload 6, 2) := by decide +kernel
theorem dX2_oldestDirty_10 : decode cX2_oldestDirty 10 = .ok (.aload_n 0, 1) := by decide +kernel
theorem dX2_oldestDirty_11 : decode cX2_oldestDirty 11 = .ok (.getfield 28, 3) := by decide +kernel
theorem dX2_oldestDirty_14 : decode cX2_oldestDirty 14 = .ok (.if_icmp .ge 51, 3) := by decide +kernel
theorem dX2_oldestDirty_17 : decode cX2_oldestDirty 17 = .ok (.aload_n 0, 1) := by decide +kernel
theorem dX2_oldestDirty_18 : decode cX2_oldestDirty 18 = .ok (.getfield 15, 3) := by decide +kernel
theorem dX2_oldestDirty_21 : decode cX2_oldestDirty 21 = .ok (.ifCond .le 44, 3) := by decide +kernel
theorem dX2_oldestDirty_24 : decode cX2_oldestDirty 24 = .ok (.aload_n 0, 1) := by decide +kernel
theorem dX2_oldestDirty_25 : decode cX2_oldestDirty 25 = .ok (.iload 6, 2) := by decide +kernel
theorem dX2_oldestDirty_27 : decode cX2_oldestDirty 27 = .ok (.invokevirtual 110, 3) := by decide +kernel
theorem dX2_oldestDirty_30 : decode cX2_oldestDirty 30 = .ok (.lstore 7, 2) := by decide +kernel
theorem dX2_oldestDirty_32 : decode cX2_oldestDirty 32 = .ok (.lload 7, 2) := by decide +kernel
theorem dX2_oldestDirty_34 : decode cX2_oldestDirty 34 = .ok (.lload_n 1, 1) := by decide +kernel
theorem dX2_oldestDirty_35 : decode cX2_oldestDirty 35 = .ok (.lcmp, 1) := by decide +kernel
theorem dX2_oldestDirty_36 : decode cX2_oldestDirty 36 = .ok (.ifCond .le 23, 3) := by decide +kernel
theorem dX2_oldestDirty_39 : decode cX2_oldestDirty 39 = .ok (.iload_n 3, 1) := by decide +kernel
theorem dX2_oldestDirty_40 : decode cX2_oldestDirty 40 = .ok (.iconst (-1), 1) := by decide +kernel
theorem dX2_oldestDirty_41 : decode cX2_oldestDirty 41 = .ok (.if_icmp .eq 11, 3) := by decide +kernel
theorem dX2_oldestDirty_44 : decode cX2_oldestDirty 44 = .ok (.lload 7, 2) := by decide +kernel
theorem dX2_oldestDirty_46 : decode cX2_oldestDirty 46 = .ok (.lload 4, 2) := by decide +kernel
theorem dX2_oldestDirty_48 : decode cX2_oldestDirty 48 = .ok (.lcmp, 1) := by decide +kernel
theorem dX2_oldestDirty_49 : decode cX2_oldestDirty 49 = .ok (.ifCond .ge 10, 3) := by decide +kernel
theorem dX2_oldestDirty_52 : decode cX2_oldestDirty 52 = .ok (.iload 6, 2) := by decide +kernel
theorem dX2_oldestDirty_54 : decode cX2_oldestDirty 54 = .ok (.istore_n 3, 1) := by decide +kernel
theorem dX2_oldestDirty_55 : decode cX2_oldestDirty 55 = .ok (.lload 7, 2) := by decide +kernel
theorem dX2_oldestDirty_57 : decode cX2_oldestDirty 57 = .ok (.lstore 4, 2) := by decide +kernel
theorem dX2_oldestDirty_59 : decode cX2_oldestDirty 59 = .ok (.iinc 6 1, 3) := by decide +kernel
theorem dX2_oldestDirty_62 : decode cX2_oldestDirty 62 = .ok (.goto (-54), 3) := by decide +kernel
theorem dX2_oldestDirty_65 : decode cX2_oldestDirty 65 = .ok (.iload_n 3, 1) := by decide +kernel
theorem dX2_oldestDirty_66 : decode cX2_oldestDirty 66 = .ok (.ireturn, 1) := by decide +kernel
theorem dX3_init_0 : decode cX3_init 0 = .ok (.aload_n 0, 1) := by decide +kernel
theorem dX3_init_1 : decode cX3_init 1 = .ok (.invokespecial 3, 3) := by decide +kernel
theorem dX3_init_4 : decode cX3_init 4 = .ok (.aload_n 0, 1) := by decide +kernel
theorem dX3_init_5 : decode cX3_init 5 = .ok (.iconst 0, 1) := by decide +kernel
theorem dX3_init_6 : decode cX3_init 6 = .ok (.putfield 9, 3) := by decide +kernel
theorem dX3_init_9 : decode cX3_init 9 = .ok (.aload_n 0, 1) := by decide +kernel
theorem dX3_init_10 : decode cX3_init 10 = .ok (.iconst 0, 1) := by decide +kernel
theorem dX3_init_11 : decode cX3_init 11 = .ok (.iload_n 1, 1) := by decide +kernel
theorem dX3_init_12 : decode cX3_init 12 = .ok (.invokestatic 15, 3) := by decide +kernel
theorem dX3_init_15 : decode cX3_init 15 = .ok (.newarray .int, 2) := by decide +kernel
theorem dX3_init_17 : decode cX3_init 17 = .ok (.putfield 21, 3) := by decide +kernel
theorem dX3_init_20 : decode cX3_init 20 = .ok (.return_, 1) := by decide +kernel
theorem dX3_at_0 : decode cX3_at 0 = .ok (.iload_n 1, 1) := by decide +kernel
theorem dX3_at_1 : decode cX3_at 1 = .ok (.ifCond .lt 11, 3) := by decide +kernel
theorem dX3_at_4 : decode cX3_at 4 = .ok (.iload_n 1, 1) := by decide +kernel
theorem dX3_at_5 : decode cX3_at 5 = .ok (.aload_n 0, 1) := by decide +kernel
theorem dX3_at_6 : decode cX3_at 6 = .ok (.getfield 9, 3) := by decide +kernel
theorem dX3_at_9 : decode cX3_at 9 = .ok (.if_icmp .lt 7, 3) := by decide +kernel
theorem dX3_at_12 : decode cX3_at 12 = .ok (.iconst (-1), 1) := by decide +kernel
theorem dX3_at_13 : decode cX3_at 13 = .ok (.goto 9, 3) := by decide +kernel
theorem dX3_at_16 : decode cX3_at 16 = .ok (.aload_n 0, 1) := by decide +kernel
theorem dX3_at_17 : decode cX3_at 17 = .ok (.getfield 21, 3) := by decide +kernel
theorem dX3_at_20 : decode cX3_at 20 = .ok (.iload_n 1, 1) := by decide +kernel
theorem dX3_at_21 : decode cX3_at 21 = .ok (.iaload, 1) := by decide +kernel
theorem dX3_at_22 : decode cX3_at 22 = .ok (.ireturn, 1) := by decide +kernel
theorem dX3_last_0 : decode cX3_last 0 = .ok (.aload_n 0, 1) := by decide +kernel
theorem dX3_last_1 : decode cX3_last 1 = .ok (.aload_n 0, 1) := by decide +kernel
theorem dX3_last_2 : decode cX3_last 2 = .ok (.getfield 9, 3) := by decide +kernel
theorem dX3_last_5 : decode cX3_last 5 = .ok (.iconst 1, 1) := by decide +kernel
theorem dX3_last_6 : decode cX3_last 6 = .ok (.isub, 1) := by decide +kernel
theorem dX3_last_7 : decode cX3_last 7 = .ok (.invokevirtual 25, 3) := by decide +kernel
theorem dX3_last_10 : decode cX3_last 10 = .ok (.ireturn, 1) := by decide +kernel
theorem dX3_placeOf_0 : decode cX3_placeOf 0 = .ok (.iconst 0, 1) := by decide +kernel
theorem dX3_placeOf_1 : decode cX3_placeOf 1 = .ok (.istore_n 2, 1) := by decide +kernel
theorem dX3_placeOf_2 : decode cX3_placeOf 2 = .ok (.iload_n 2, 1) := by decide +kernel
theorem dX3_placeOf_3 : decode cX3_placeOf 3 = .ok (.aload_n 0, 1) := by decide +kernel
theorem dX3_placeOf_4 : decode cX3_placeOf 4 = .ok (.getfield 9, 3) := by decide +kernel
theorem dX3_placeOf_7 : decode cX3_placeOf 7 = .ok (.if_icmp .ge 21, 3) := by decide +kernel
theorem dX3_placeOf_10 : decode cX3_placeOf 10 = .ok (.aload_n 0, 1) := by decide +kernel
theorem dX3_placeOf_11 : decode cX3_placeOf 11 = .ok (.getfield 21, 3) := by decide +kernel
theorem dX3_placeOf_14 : decode cX3_placeOf 14 = .ok (.iload_n 2, 1) := by decide +kernel
theorem dX3_placeOf_15 : decode cX3_placeOf 15 = .ok (.iaload, 1) := by decide +kernel
theorem dX3_placeOf_16 : decode cX3_placeOf 16 = .ok (.iload_n 1, 1) := by decide +kernel
theorem dX3_placeOf_17 : decode cX3_placeOf 17 = .ok (.if_icmp .ne 5, 3) := by decide +kernel
theorem dX3_placeOf_20 : decode cX3_placeOf 20 = .ok (.iload_n 2, 1) := by decide +kernel
theorem dX3_placeOf_21 : decode cX3_placeOf 21 = .ok (.ireturn, 1) := by decide +kernel
theorem dX3_placeOf_22 : decode cX3_placeOf 22 = .ok (.iinc 2 1, 3) := by decide +kernel
theorem dX3_placeOf_25 : decode cX3_placeOf 25 = .ok (.goto (-23), 3) := by decide +kernel
theorem dX3_placeOf_28 : decode cX3_placeOf 28 = .ok (.iconst (-1), 1) := by decide +kernel
theorem dX3_placeOf_29 : decode cX3_placeOf 29 = .ok (.ireturn, 1) := by decide +kernel
theorem dX3_addFront_0 : decode cX3_addFront 0 = .ok (.aload_n 0, 1) := by decide +kernel
theorem dX3_addFront_1 : decode cX3_addFront 1 = .ok (.getfield 9, 3) := by decide +kernel
theorem dX3_addFront_4 : decode cX3_addFront 4 = .ok (.aload_n 0, 1) := by decide +kernel
theorem dX3_addFront_5 : decode cX3_addFront 5 = .ok (.getfield 21, 3) := by decide +kernel
theorem dX3_addFront_8 : decode cX3_addFront 8 = .ok (.arraylength, 1) := by decide +kernel
theorem dX3_addFront_9 : decode cX3_addFront 9 = .ok (.if_icmp .ge 37, 3) := by decide +kernel
theorem dX3_addFront_12 : decode cX3_addFront 12 = .ok (.aload_n 0, 1) := by decide +kernel
theorem dX3_addFront_13 : decode cX3_addFront 13 = .ok (.getfield 21, 3) := by decide +kernel
theorem dX3_addFront_16 : decode cX3_addFront 16 = .ok (.iconst 0, 1) := by decide +kernel
theorem dX3_addFront_17 : decode cX3_addFront 17 = .ok (.aload_n 0, 1) := by decide +kernel
theorem dX3_addFront_18 : decode cX3_addFront 18 = .ok (.getfield 21, 3) := by decide +kernel
theorem dX3_addFront_21 : decode cX3_addFront 21 = .ok (.iconst 1, 1) := by decide +kernel
theorem dX3_addFront_22 : decode cX3_addFront 22 = .ok (.aload_n 0, 1) := by decide +kernel
theorem dX3_addFront_23 : decode cX3_addFront 23 = .ok (.getfield 9, 3) := by decide +kernel
theorem dX3_addFront_26 : decode cX3_addFront 26 = .ok (.invokestatic 29, 3) := by decide +kernel
theorem dX3_addFront_29 : decode cX3_addFront 29 = .ok (.aload_n 0, 1) := by decide +kernel
theorem dX3_addFront_30 : decode cX3_addFront 30 = .ok (.getfield 21, 3) := by decide +kernel
theorem dX3_addFront_33 : decode cX3_addFront 33 = .ok (.iconst 0, 1) := by decide +kernel
theorem dX3_addFront_34 : decode cX3_addFront 34 = .ok (.iload_n 1, 1) := by decide +kernel
theorem dX3_addFront_35 : decode cX3_addFront 35 = .ok (.iastore, 1) := by decide +kernel
theorem dX3_addFront_36 : decode cX3_addFront 36 = .ok (.aload_n 0, 1) := by decide +kernel
theorem dX3_addFront_37 : decode cX3_addFront 37 = .ok (.dup, 1) := by decide +kernel
theorem dX3_addFront_38 : decode cX3_addFront 38 = .ok (.getfield 9, 3) := by decide +kernel
theorem dX3_addFront_41 : decode cX3_addFront 41 = .ok (.iconst 1, 1) := by decide +kernel
theorem dX3_addFront_42 : decode cX3_addFront 42 = .ok (.iadd, 1) := by decide +kernel
theorem dX3_addFront_43 : decode cX3_addFront 43 = .ok (.putfield 9, 3) := by decide +kernel
theorem dX3_addFront_46 : decode cX3_addFront 46 = .ok (.return_, 1) := by decide +kernel
theorem dX3_take_0 : decode cX3_take 0 = .ok (.aload_n 0, 1) := by decide +kernel
theorem dX3_take_1 : decode cX3_take 1 = .ok (.iload_n 1, 1) := by decide +kernel
theorem dX3_take_2 : decode cX3_take 2 = .ok (.invokevirtual 35, 3) := by decide +kernel
theorem dX3_take_5 : decode cX3_take 5 = .ok (.istore_n 2, 1) := by decide +kernel
theorem dX3_take_6 : decode cX3_take 6 = .ok (.iload_n 2, 1) := by decide +kernel
theorem dX3_take_7 : decode cX3_take 7 = .ok (.iconst (-1), 1) := by decide +kernel
theorem dX3_take_8 : decode cX3_take 8 = .ok (.if_icmp .eq 36, 3) := by decide +kernel
theorem dX3_take_11 : decode cX3_take 11 = .ok (.aload_n 0, 1) := by decide +kernel
theorem dX3_take_12 : decode cX3_take 12 = .ok (.getfield 21, 3) := by decide +kernel
theorem dX3_take_15 : decode cX3_take 15 = .ok (.iload_n 2, 1) := by decide +kernel
theorem dX3_take_16 : decode cX3_take 16 = .ok (.iconst 1, 1) := by decide +kernel
theorem dX3_take_17 : decode cX3_take 17 = .ok (.iadd, 1) := by decide +kernel
theorem dX3_take_18 : decode cX3_take 18 = .ok (.aload_n 0, 1) := by decide +kernel
theorem dX3_take_19 : decode cX3_take 19 = .ok (.getfield 21, 3) := by decide +kernel
theorem dX3_take_22 : decode cX3_take 22 = .ok (.iload_n 2, 1) := by decide +kernel
theorem dX3_take_23 : decode cX3_take 23 = .ok (.aload_n 0, 1) := by decide +kernel
theorem dX3_take_24 : decode cX3_take 24 = .ok (.getfield 9, 3) := by decide +kernel
theorem dX3_take_27 : decode cX3_take 27 = .ok (.iload_n 2, 1) := by decide +kernel
theorem dX3_take_28 : decode cX3_take 28 = .ok (.isub, 1) := by decide +kernel
theorem dX3_take_29 : decode cX3_take 29 = .ok (.iconst 1, 1) := by decide +kernel
theorem dX3_take_30 : decode cX3_take 30 = .ok (.isub, 1) := by decide +kernel
theorem dX3_take_31 : decode cX3_take 31 = .ok (.invokestatic 29, 3) := by decide +kernel
theorem dX3_take_34 : decode cX3_take 34 = .ok (.aload_n 0, 1) := by decide +kernel
theorem dX3_take_35 : decode cX3_take 35 = .ok (.dup, 1) := by decide +kernel
theorem dX3_take_36 : decode cX3_take 36 = .ok (.getfield 9, 3) := by decide +kernel
theorem dX3_take_39 : decode cX3_take 39 = .ok (.iconst 1, 1) := by decide +kernel
theorem dX3_take_40 : decode cX3_take 40 = .ok (.isub, 1) := by decide +kernel
theorem dX3_take_41 : decode cX3_take 41 = .ok (.putfield 9, 3) := by decide +kernel
theorem dX3_take_44 : decode cX3_take 44 = .ok (.return_, 1) := by decide +kernel
theorem dX4_init_0 : decode cX4_init 0 = .ok (.aload_n 0, 1) := by decide +kernel
theorem dX4_init_1 : decode cX4_init 1 = .ok (.invokespecial 3, 3) := by decide +kernel
theorem dX4_init_4 : decode cX4_init 4 = .ok (.aload_n 0, 1) := by decide +kernel
theorem dX4_init_5 : decode cX4_init 5 = .ok (.sipush 3072, 3) := by decide +kernel
theorem dX4_init_8 : decode cX4_init 8 = .ok (.newarray .int, 2) := by decide +kernel
theorem dX4_init_10 : decode cX4_init 10 = .ok (.putfield 9, 3) := by decide +kernel
theorem dX4_init_13 : decode cX4_init 13 = .ok (.aload_n 0, 1) := by decide +kernel
theorem dX4_init_14 : decode cX4_init 14 = .ok (.iconst 0, 1) := by decide +kernel
theorem dX4_init_15 : decode cX4_init 15 = .ok (.putfield 15, 3) := by decide +kernel
theorem dX4_init_18 : decode cX4_init 18 = .ok (.aload_n 0, 1) := by decide +kernel
theorem dX4_init_19 : decode cX4_init 19 = .ok (.iconst 0, 1) := by decide +kernel
theorem dX4_init_20 : decode cX4_init 20 = .ok (.putfield 19, 3) := by decide +kernel
theorem dX4_init_23 : decode cX4_init 23 = .ok (.aload_n 0, 1) := by decide +kernel
theorem dX4_init_24 : decode cX4_init 24 = .ok (.iconst 1, 1) := by decide +kernel
theorem dX4_init_25 : decode cX4_init 25 = .ok (.iload_n 1, 1) := by decide +kernel
theorem dX4_init_26 : decode cX4_init 26 = .ok (.invokestatic 22, 3) := by decide +kernel
theorem dX4_init_29 : decode cX4_init 29 = .ok (.newarray .int, 2) := by decide +kernel
theorem dX4_init_31 : decode cX4_init 31 = .ok (.putfield 28, 3) := by decide +kernel
theorem dX4_init_34 : decode cX4_init 34 = .ok (.aload_n 0, 1) := by decide +kernel
theorem dX4_init_35 : decode cX4_init 35 = .ok (.getfield 9, 3) := by decide +kernel
theorem dX4_init_38 : decode cX4_init 38 = .ok (.iconst (-1), 1) := by decide +kernel
theorem dX4_init_39 : decode cX4_init 39 = .ok (.invokestatic 31, 3) := by decide +kernel
theorem dX4_init_42 : decode cX4_init 42 = .ok (.return_, 1) := by decide +kernel
theorem dX4_of_0 : decode cX4_of 0 = .ok (.iload_n 1, 1) := by decide +kernel
theorem dX4_of_1 : decode cX4_of 1 = .ok (.ifCond .lt 10, 3) := by decide +kernel
theorem dX4_of_4 : decode cX4_of 4 = .ok (.iload_n 1, 1) := by decide +kernel
theorem dX4_of_5 : decode cX4_of 5 = .ok (.sipush 3072, 3) := by decide +kernel
theorem dX4_of_8 : decode cX4_of 8 = .ok (.if_icmp .lt 7, 3) := by decide +kernel
theorem dX4_of_11 : decode cX4_of 11 = .ok (.iconst (-1), 1) := by decide +kernel
theorem dX4_of_12 : decode cX4_of 12 = .ok (.goto 9, 3) := by decide +kernel
theorem dX4_of_15 : decode cX4_of 15 = .ok (.aload_n 0, 1) := by decide +kernel
theorem dX4_of_16 : decode cX4_of 16 = .ok (.getfield 9, 3) := by decide +kernel
theorem dX4_of_19 : decode cX4_of 19 = .ok (.iload_n 1, 1) := by decide +kernel
theorem dX4_of_20 : decode cX4_of 20 = .ok (.iaload, 1) := by decide +kernel
theorem dX4_of_21 : decode cX4_of 21 = .ok (.ireturn, 1) := by decide +kernel
theorem dX4_isRecent_0 : decode cX4_isRecent 0 = .ok (.aload_n 0, 1) := by decide +kernel
theorem dX4_isRecent_1 : decode cX4_isRecent 1 = .ok (.iload_n 1, 1) := by decide +kernel
theorem dX4_isRecent_2 : decode cX4_isRecent 2 = .ok (.invokevirtual 37, 3) := by decide +kernel
theorem dX4_isRecent_5 : decode cX4_isRecent 5 = .ok (.istore_n 3, 1) := by decide +kernel
theorem dX4_isRecent_6 : decode cX4_isRecent 6 = .ok (.iload_n 3, 1) := by decide +kernel
theorem dX4_isRecent_7 : decode cX4_isRecent 7 = .ok (.iconst (-1), 1) := by decide +kernel
theorem dX4_isRecent_8 : decode cX4_isRecent 8 = .ok (.if_icmp .eq 17, 3) := by decide +kernel
theorem dX4_isRecent_11 : decode cX4_isRecent 11 = .ok (.aload_n 0, 1) := by decide +kernel
theorem dX4_isRecent_12 : decode cX4_isRecent 12 = .ok (.getfield 19, 3) := by decide +kernel
theorem dX4_isRecent_15 : decode cX4_isRecent 15 = .ok (.iload_n 3, 1) := by decide +kernel
theorem dX4_isRecent_16 : decode cX4_isRecent 16 = .ok (.isub, 1) := by decide +kernel
theorem dX4_isRecent_17 : decode cX4_isRecent 17 = .ok (.iload_n 2, 1) := by decide +kernel
theorem dX4_isRecent_18 : decode cX4_isRecent 18 = .ok (.if_icmp .gt 7, 3) := by decide +kernel
theorem dX4_isRecent_21 : decode cX4_isRecent 21 = .ok (.iconst 1, 1) := by decide +kernel
theorem dX4_isRecent_22 : decode cX4_isRecent 22 = .ok (.goto 4, 3) := by decide +kernel
theorem dX4_isRecent_25 : decode cX4_isRecent 25 = .ok (.iconst 0, 1) := by decide +kernel
theorem dX4_isRecent_26 : decode cX4_isRecent 26 = .ok (.ireturn, 1) := by decide +kernel
theorem dX4_add_0 : decode cX4_add 0 = .ok (.aload_n 0, 1) := by decide +kernel
theorem dX4_add_1 : decode cX4_add 1 = .ok (.dup, 1) := by decide +kernel
theorem dX4_add_2 : decode cX4_add 2 = .ok (.getfield 19, 3) := by decide +kernel
theorem dX4_add_5 : decode cX4_add 5 = .ok (.iconst 1, 1) := by decide +kernel
theorem dX4_add_6 : decode cX4_add 6 = .ok (.iadd, 1) := by decide +kernel
theorem dX4_add_7 : decode cX4_add 7 = .ok (.putfield 19, 3) := by decide +kernel
theorem dX4_add_10 : decode cX4_add 10 = .ok (.iload_n 1, 1) := by decide +kernel
theorem dX4_add_11 : decode cX4_add 11 = .ok (.ifCond .lt 10, 3) := by decide +kernel
theorem dX4_add_14 : decode cX4_add 14 = .ok (.iload_n 1, 1) := by decide +kernel
theorem dX4_add_15 : decode cX4_add 15 = .ok (.sipush 3072, 3) := by decide +kernel
theorem dX4_add_18 : decode cX4_add 18 = .ok (.if_icmp .lt 4, 3) := by decide +kernel
theorem dX4_add_21 : decode cX4_add 21 = .ok (.return_, 1) := by decide +kernel
theorem dX4_add_22 : decode cX4_add 22 = .ok (.aload_n 0, 1) := by decide +kernel
theorem dX4_add_23 : decode cX4_add 23 = .ok (.getfield 15, 3) := by decide +kernel
theorem dX4_add_26 : decode cX4_add 26 = .ok (.aload_n 0, 1) := by decide +kernel
theorem dX4_add_27 : decode cX4_add 27 = .ok (.getfield 28, 3) := by decide +kernel
theorem dX4_add_30 : decode cX4_add 30 = .ok (.arraylength, 1) := by decide +kernel
theorem dX4_add_31 : decode cX4_add 31 = .ok (.if_icmp .ne 13, 3) := by decide +kernel
theorem dX4_add_34 : decode cX4_add 34 = .ok (.aload_n 0, 1) := by decide +kernel
theorem dX4_add_35 : decode cX4_add 35 = .ok (.aload_n 0, 1) := by decide +kernel
theorem dX4_add_36 : decode cX4_add 36 = .ok (.getfield 28, 3) := by decide +kernel
theorem dX4_add_39 : decode cX4_add 39 = .ok (.iconst 0, 1) := by decide +kernel
theorem dX4_add_40 : decode cX4_add 40 = .ok (.iaload, 1) := by decide +kernel
theorem dX4_add_41 : decode cX4_add 41 = .ok (.invokevirtual 41, 3) := by decide +kernel
theorem dX4_add_44 : decode cX4_add 44 = .ok (.aload_n 0, 1) := by decide +kernel
theorem dX4_add_45 : decode cX4_add 45 = .ok (.getfield 9, 3) := by decide +kernel
theorem dX4_add_48 : decode cX4_add 48 = .ok (.iload_n 1, 1) := by decide +kernel
theorem dX4_add_49 : decode cX4_add 49 = .ok (.aload_n 0, 1) := by decide +kernel
theorem dX4_add_50 : decode cX4_add 50 = .ok (.getfield 19, 3) := by decide +kernel
theorem dX4_add_53 : decode cX4_add 53 = .ok (.iastore, 1) := by decide +kernel
theorem dX4_add_54 : decode cX4_add 54 = .ok (.aload_n 0, 1) := by decide +kernel
theorem dX4_add_55 : decode cX4_add 55 = .ok (.getfield 28, 3) := by decide +kernel
theorem dX4_add_58 : decode cX4_add 58 = .ok (.aload_n 0, 1) := by decide +kernel
theorem dX4_add_59 : decode cX4_add 59 = .ok (.getfield 15, 3) := by decide +kernel
theorem dX4_add_62 : decode cX4_add 62 = .ok (.iload_n 1, 1) := by decide +kernel
theorem dX4_add_63 : decode cX4_add 63 = .ok (.iastore, 1) := by decide +kernel
theorem dX4_add_64 : decode cX4_add 64 = .ok (.aload_n 0, 1) := by decide +kernel
theorem dX4_add_65 : decode cX4_add 65 = .ok (.dup, 1) := by decide +kernel
theorem dX4_add_66 : decode cX4_add 66 = .ok (.getfield 15, 3) := by decide +kernel
theorem dX4_add_69 : decode cX4_add 69 = .ok (.iconst 1, 1) := by decide +kernel
theorem dX4_add_70 : decode cX4_add 70 = .ok (.iadd, 1) := by decide +kernel
theorem dX4_add_71 : decode cX4_add 71 = .ok (.putfield 15, 3) := by decide +kernel
theorem dX4_add_74 : decode cX4_add 74 = .ok (.return_, 1) := by decide +kernel
theorem dX4_forget_0 : decode cX4_forget 0 = .ok (.aload_n 0, 1) := by decide +kernel
theorem dX4_forget_1 : decode cX4_forget 1 = .ok (.iload_n 1, 1) := by decide +kernel
theorem dX4_forget_2 : decode cX4_forget 2 = .ok (.invokevirtual 37, 3) := by decide +kernel
theorem dX4_forget_5 : decode cX4_forget 5 = .ok (.iconst (-1), 1) := by decide +kernel
theorem dX4_forget_6 : decode cX4_forget 6 = .ok (.if_icmp .ne 4, 3) := by decide +kernel
theorem dX4_forget_9 : decode cX4_forget 9 = .ok (.return_, 1) := by decide +kernel
theorem dX4_forget_10 : decode cX4_forget 10 = .ok (.aload_n 0, 1) := by decide +kernel
theorem dX4_forget_11 : decode cX4_forget 11 = .ok (.getfield 9, 3) := by decide +kernel
theorem dX4_forget_14 : decode cX4_forget 14 = .ok (.iload_n 1, 1) := by decide +kernel
theorem dX4_forget_15 : decode cX4_forget 15 = .ok (.iconst (-1), 1) := by decide +kernel
theorem dX4_forget_16 : decode cX4_forget 16 = .ok (.iastore, 1) := by decide +kernel
theorem dX4_forget_17 : decode cX4_forget 17 = .ok (.iconst 0, 1) := by decide +kernel
theorem dX4_forget_18 : decode cX4_forget 18 = .ok (.istore_n 2, 1) := by decide +kernel
theorem dX4_forget_19 : decode cX4_forget 19 = .ok (.iload_n 2, 1) := by decide +kernel
theorem dX4_forget_20 : decode cX4_forget 20 = .ok (.aload_n 0, 1) := by decide +kernel
theorem dX4_forget_21 : decode cX4_forget 21 = .ok (.getfield 15, 3) := by decide +kernel
theorem dX4_forget_24 : decode cX4_forget 24 = .ok (.if_icmp .ge 53, 3) := by decide +kernel
theorem dX4_forget_27 : decode cX4_forget 27 = .ok (.aload_n 0, 1) := by decide +kernel
theorem dX4_forget_28 : decode cX4_forget 28 = .ok (.getfield 28, 3) := by decide +kernel
theorem dX4_forget_31 : decode cX4_forget 31 = .ok (.iload_n 2, 1) := by decide +kernel
theorem dX4_forget_32 : decode cX4_forget 32 = .ok (.iaload, 1) := by decide +kernel
theorem dX4_forget_33 : decode cX4_forget 33 = .ok (.iload_n 1, 1) := by decide +kernel
theorem dX4_forget_34 : decode cX4_forget 34 = .ok (.if_icmp .ne 37, 3) := by decide +kernel
theorem dX4_forget_37 : decode cX4_forget 37 = .ok (.aload_n 0, 1) := by decide +kernel
theorem dX4_forget_38 : decode cX4_forget 38 = .ok (.getfield 28, 3) := by decide +kernel
theorem dX4_forget_41 : decode cX4_forget 41 = .ok (.iload_n 2, 1) := by decide +kernel
theorem dX4_forget_42 : decode cX4_forget 42 = .ok (.iconst 1, 1) := by decide +kernel
theorem dX4_forget_43 : decode cX4_forget 43 = .ok (.iadd, 1) := by decide +kernel
theorem dX4_forget_44 : decode cX4_forget 44 = .ok (.aload_n 0, 1) := by decide +kernel
theorem dX4_forget_45 : decode cX4_forget 45 = .ok (.getfield 28, 3) := by decide +kernel
theorem dX4_forget_48 : decode cX4_forget 48 = .ok (.iload_n 2, 1) := by decide +kernel
theorem dX4_forget_49 : decode cX4_forget 49 = .ok (.aload_n 0, 1) := by decide +kernel
theorem dX4_forget_50 : decode cX4_forget 50 = .ok (.getfield 15, 3) := by decide +kernel
theorem dX4_forget_53 : decode cX4_forget 53 = .ok (.iload_n 2, 1) := by decide +kernel
theorem dX4_forget_54 : decode cX4_forget 54 = .ok (.isub, 1) := by decide +kernel
theorem dX4_forget_55 : decode cX4_forget 55 = .ok (.iconst 1, 1) := by decide +kernel
theorem dX4_forget_56 : decode cX4_forget 56 = .ok (.isub, 1) := by decide +kernel
theorem dX4_forget_57 : decode cX4_forget 57 = .ok (.invokestatic 45, 3) := by decide +kernel
theorem dX4_forget_60 : decode cX4_forget 60 = .ok (.aload_n 0, 1) := by decide +kernel
theorem dX4_forget_61 : decode cX4_forget 61 = .ok (.dup, 1) := by decide +kernel
theorem dX4_forget_62 : decode cX4_forget 62 = .ok (.getfield 15, 3) := by decide +kernel
theorem dX4_forget_65 : decode cX4_forget 65 = .ok (.iconst 1, 1) := by decide +kernel
theorem dX4_forget_66 : decode cX4_forget 66 = .ok (.isub, 1) := by decide +kernel
theorem dX4_forget_67 : decode cX4_forget 67 = .ok (.putfield 15, 3) := by decide +kernel
theorem dX4_forget_70 : decode cX4_forget 70 = .ok (.return_, 1) := by decide +kernel
theorem dX4_forget_71 : decode cX4_forget 71 = .ok (.iinc 2 1, 3) := by decide +kernel
theorem dX4_forget_74 : decode cX4_forget 74 = .ok (.goto (-55), 3) := by decide +kernel
theorem dX4_forget_77 : decode cX4_forget 77 = .ok (.return_, 1) := by decide +kernel
theorem dX4_forgetAll_0 : decode cX4_forgetAll 0 = .ok (.aload_n 0, 1) := by decide +kernel
theorem dX4_forgetAll_1 : decode cX4_forgetAll 1 = .ok (.getfield 9, 3) := by decide +kernel
theorem dX4_forgetAll_4 : decode cX4_forgetAll 4 = .ok (.iconst (-1), 1) := by decide +kernel
theorem dX4_forgetAll_5 : decode cX4_forgetAll 5 = .ok (.invokestatic 31, 3) := by decide +kernel
theorem dX4_forgetAll_8 : decode cX4_forgetAll 8 = .ok (.aload_n 0, 1) := by decide +kernel
theorem dX4_forgetAll_9 : decode cX4_forgetAll 9 = .ok (.iconst 0, 1) := by decide +kernel
theorem dX4_forgetAll_10 : decode cX4_forgetAll 10 = .ok (.putfield 15, 3) := by decide +kernel
theorem dX4_forgetAll_13 : decode cX4_forgetAll 13 = .ok (.return_, 1) := by decide +kernel
theorem dX5_init_0 : decode cX5_init 0 = .ok (.aload_n 0, 1) := by decide +kernel
theorem dX5_init_1 : decode cX5_init 1 = .ok (.invokespecial 3, 3) := by decide +kernel
theorem dX5_init_4 : decode cX5_init 4 = .ok (.aload_n 0, 1) := by decide +kernel
theorem dX5_init_5 : decode cX5_init 5 = .ok (.iconst 0, 1) := by decide +kernel
theorem dX5_init_6 : decode cX5_init 6 = .ok (.iload_n 1, 1) := by decide +kernel
theorem dX5_init_7 : decode cX5_init 7 = .ok (.bipush 8, 2) := by decide +kernel
theorem dX5_init_9 : decode cX5_init 9 = .ok (.idiv, 1) := by decide +kernel
theorem dX5_init_10 : decode cX5_init 10 = .ok (.invokestatic 9, 3) := by decide +kernel
theorem dX5_init_13 : decode cX5_init 13 = .ok (.newarray .long, 2) := by decide +kernel
theorem dX5_init_15 : decode cX5_init 15 = .ok (.putfield 15, 3) := by decide +kernel
theorem dX5_init_18 : decode cX5_init 18 = .ok (.return_, 1) := by decide +kernel
theorem dX5_byteAt_0 : decode cX5_byteAt 0 = .ok (.iload_n 1, 1) := by decide +kernel
theorem dX5_byteAt_1 : decode cX5_byteAt 1 = .ok (.ifCond .lt 15, 3) := by decide +kernel
theorem dX5_byteAt_4 : decode cX5_byteAt 4 = .ok (.iload_n 1, 1) := by decide +kernel
theorem dX5_byteAt_5 : decode cX5_byteAt 5 = .ok (.bipush 8, 2) := by decide +kernel
theorem dX5_byteAt_7 : decode cX5_byteAt 7 = .ok (.idiv, 1) := by decide +kernel
theorem dX5_byteAt_8 : decode cX5_byteAt 8 = .ok (.aload_n 0, 1) := by decide +kernel
theorem dX5_byteAt_9 : decode cX5_byteAt 9 = .ok (.getfield 15, 3) := by decide +kernel
theorem dX5_byteAt_12 : decode cX5_byteAt 12 = .ok (.arraylength, 1) := by decide +kernel
theorem dX5_byteAt_13 : decode cX5_byteAt 13 = .ok (.if_icmp .lt 5, 3) := by decide +kernel
theorem dX5_byteAt_16 : decode cX5_byteAt 16 = .ok (.iconst 0, 1) := by decide +kernel
theorem dX5_byteAt_17 : decode cX5_byteAt 17 = .ok (.ireturn, 1) := by decide +kernel
theorem dX5_byteAt_18 : decode cX5_byteAt 18 = .ok (.aload_n 0, 1) := by decide +kernel
theorem dX5_byteAt_19 : decode cX5_byteAt 19 = .ok (.getfield 15, 3) := by decide +kernel
theorem dX5_byteAt_22 : decode cX5_byteAt 22 = .ok (.iload_n 1, 1) := by decide +kernel
theorem dX5_byteAt_23 : decode cX5_byteAt 23 = .ok (.bipush 8, 2) := by decide +kernel
theorem dX5_byteAt_25 : decode cX5_byteAt 25 = .ok (.idiv, 1) := by decide +kernel
theorem dX5_byteAt_26 : decode cX5_byteAt 26 = .ok (.laload, 1) := by decide +kernel
theorem dX5_byteAt_27 : decode cX5_byteAt 27 = .ok (.bipush 8, 2) := by decide +kernel
theorem dX5_byteAt_29 : decode cX5_byteAt 29 = .ok (.iload_n 1, 1) := by decide +kernel
theorem dX5_byteAt_30 : decode cX5_byteAt 30 = .ok (.bipush 8, 2) := by decide +kernel
theorem dX5_byteAt_32 : decode cX5_byteAt 32 = .ok (.irem, 1) := by decide +kernel
theorem dX5_byteAt_33 : decode cX5_byteAt 33 = .ok (.imul, 1) := by decide +kernel
theorem dX5_byteAt_34 : decode cX5_byteAt 34 = .ok (.lushr, 1) := by decide +kernel
theorem dX5_byteAt_35 : decode cX5_byteAt 35 = .ok (.l2i, 1) := by decide +kernel
theorem dX5_byteAt_36 : decode cX5_byteAt 36 = .ok (.sipush 255, 3) := by decide +kernel
theorem dX5_byteAt_39 : decode cX5_byteAt 39 = .ok (.iand, 1) := by decide +kernel
theorem dX5_byteAt_40 : decode cX5_byteAt 40 = .ok (.ireturn, 1) := by decide +kernel
theorem dX5_put_0 : decode cX5_put 0 = .ok (.iload_n 1, 1) := by decide +kernel
theorem dX5_put_1 : decode cX5_put 1 = .ok (.ifCond .lt 15, 3) := by decide +kernel
theorem dX5_put_4 : decode cX5_put 4 = .ok (.iload_n 1, 1) := by decide +kernel
theorem dX5_put_5 : decode cX5_put 5 = .ok (.bipush 8, 2) := by decide +kernel
theorem dX5_put_7 : decode cX5_put 7 = .ok (.idiv, 1) := by decide +kernel
theorem dX5_put_8 : decode cX5_put 8 = .ok (.aload_n 0, 1) := by decide +kernel
theorem dX5_put_9 : decode cX5_put 9 = .ok (.getfield 15, 3) := by decide +kernel
theorem dX5_put_12 : decode cX5_put 12 = .ok (.arraylength, 1) := by decide +kernel
theorem dX5_put_13 : decode cX5_put 13 = .ok (.if_icmp .lt 4, 3) := by decide +kernel
theorem dX5_put_16 : decode cX5_put 16 = .ok (.return_, 1) := by decide +kernel
theorem dX5_put_17 : decode cX5_put 17 = .ok (.bipush 8, 2) := by decide +kernel
theorem dX5_put_19 : decode cX5_put 19 = .ok (.iload_n 1, 1) := by decide +kernel
theorem dX5_put_20 : decode cX5_put 20 = .ok (.bipush 8, 2) := by decide +kernel
theorem dX5_put_22 : decode cX5_put 22 = .ok (.irem, 1) := by decide +kernel
theorem dX5_put_23 : decode cX5_put 23 = .ok (.imul, 1) := by decide +kernel
theorem dX5_put_24 : decode cX5_put 24 = .ok (.istore_n 3, 1) := by decide +kernel
theorem dX5_put_25 : decode cX5_put 25 = .ok (.aload_n 0, 1) := by decide +kernel
theorem dX5_put_26 : decode cX5_put 26 = .ok (.getfield 15, 3) := by decide +kernel
theorem dX5_put_29 : decode cX5_put 29 = .ok (.iload_n 1, 1) := by decide +kernel
theorem dX5_put_30 : decode cX5_put 30 = .ok (.bipush 8, 2) := by decide +kernel
theorem dX5_put_32 : decode cX5_put 32 = .ok (.idiv, 1) := by decide +kernel
theorem dX5_put_33 : decode cX5_put 33 = .ok (.laload, 1) := by decide +kernel
theorem dX5_put_34 : decode cX5_put 34 = .ok (.ldc2_w 21, 3) := by decide +kernel
theorem dX5_put_37 : decode cX5_put 37 = .ok (.iload_n 3, 1) := by decide +kernel
theorem dX5_put_38 : decode cX5_put 38 = .ok (.lshl, 1) := by decide +kernel
theorem dX5_put_39 : decode cX5_put 39 = .ok (.ldc2_w 23, 3) := by decide +kernel
theorem dX5_put_42 : decode cX5_put 42 = .ok (.lxor, 1) := by decide +kernel
theorem dX5_put_43 : decode cX5_put 43 = .ok (.land, 1) := by decide +kernel
theorem dX5_put_44 : decode cX5_put 44 = .ok (.lstore 4, 2) := by decide +kernel
theorem dX5_put_46 : decode cX5_put 46 = .ok (.aload_n 0, 1) := by decide +kernel
theorem dX5_put_47 : decode cX5_put 47 = .ok (.getfield 15, 3) := by decide +kernel
theorem dX5_put_50 : decode cX5_put 50 = .ok (.iload_n 1, 1) := by decide +kernel
theorem dX5_put_51 : decode cX5_put 51 = .ok (.bipush 8, 2) := by decide +kernel
theorem dX5_put_53 : decode cX5_put 53 = .ok (.idiv, 1) := by decide +kernel
theorem dX5_put_54 : decode cX5_put 54 = .ok (.lload 4, 2) := by decide +kernel
theorem dX5_put_56 : decode cX5_put 56 = .ok (.iload_n 2, 1) := by decide +kernel
theorem dX5_put_57 : decode cX5_put 57 = .ok (.i2l, 1) := by decide +kernel
theorem dX5_put_58 : decode cX5_put 58 = .ok (.ldc2_w 21, 3) := by decide +kernel
theorem dX5_put_61 : decode cX5_put 61 = .ok (.land, 1) := by decide +kernel
theorem dX5_put_62 : decode cX5_put 62 = .ok (.iload_n 3, 1) := by decide +kernel
theorem dX5_put_63 : decode cX5_put 63 = .ok (.lshl, 1) := by decide +kernel
theorem dX5_put_64 : decode cX5_put 64 = .ok (.lor, 1) := by decide +kernel
theorem dX5_put_65 : decode cX5_put 65 = .ok (.lastore, 1) := by decide +kernel
theorem dX5_put_66 : decode cX5_put 66 = .ok (.return_, 1) := by decide +kernel
theorem dX5_clear_0 : decode cX5_clear 0 = .ok (.iload_n 1, 1) := by decide +kernel
theorem dX5_clear_1 : decode cX5_clear 1 = .ok (.ifCond .lt 15, 3) := by decide +kernel
theorem dX5_clear_4 : decode cX5_clear 4 = .ok (.iload_n 2, 1) := by decide +kernel
theorem dX5_clear_5 : decode cX5_clear 5 = .ok (.aload_n 0, 1) := by decide +kernel
theorem dX5_clear_6 : decode cX5_clear 6 = .ok (.getfield 15, 3) := by decide +kernel
theorem dX5_clear_9 : decode cX5_clear 9 = .ok (.arraylength, 1) := by decide +kernel
theorem dX5_clear_10 : decode cX5_clear 10 = .ok (.bipush 8, 2) := by decide +kernel
theorem dX5_clear_12 : decode cX5_clear 12 = .ok (.imul, 1) := by decide +kernel
theorem dX5_clear_13 : decode cX5_clear 13 = .ok (.if_icmp .le 4, 3) := by decide +kernel
theorem dX5_clear_16 : decode cX5_clear 16 = .ok (.return_, 1) := by decide +kernel
theorem dX5_clear_17 : decode cX5_clear 17 = .ok (.iload_n 1, 1) := by decide +kernel
theorem dX5_clear_18 : decode cX5_clear 18 = .ok (.istore_n 3, 1) := by decide +kernel
theorem dX5_clear_19 : decode cX5_clear 19 = .ok (.iload_n 3, 1) := by decide +kernel
theorem dX5_clear_20 : decode cX5_clear 20 = .ok (.iload_n 2, 1) := by decide +kernel
theorem dX5_clear_21 : decode cX5_clear 21 = .ok (.if_icmp .ge 36, 3) := by decide +kernel
theorem dX5_clear_24 : decode cX5_clear 24 = .ok (.aload_n 0, 1) := by decide +kernel
theorem dX5_clear_25 : decode cX5_clear 25 = .ok (.getfield 15, 3) := by decide +kernel
theorem dX5_clear_28 : decode cX5_clear 28 = .ok (.iload_n 3, 1) := by decide +kernel
theorem dX5_clear_29 : decode cX5_clear 29 = .ok (.bipush 8, 2) := by decide +kernel
theorem dX5_clear_31 : decode cX5_clear 31 = .ok (.idiv, 1) := by decide +kernel
theorem dX5_clear_32 : decode cX5_clear 32 = .ok (.dup2, 1) := by decide +kernel
theorem dX5_clear_33 : decode cX5_clear 33 = .ok (.laload, 1) := by decide +kernel
theorem dX5_clear_34 : decode cX5_clear 34 = .ok (.ldc2_w 21, 3) := by decide +kernel
theorem dX5_clear_37 : decode cX5_clear 37 = .ok (.bipush 8, 2) := by decide +kernel
theorem dX5_clear_39 : decode cX5_clear 39 = .ok (.iload_n 3, 1) := by decide +kernel
theorem dX5_clear_40 : decode cX5_clear 40 = .ok (.bipush 8, 2) := by decide +kernel
theorem dX5_clear_42 : decode cX5_clear 42 = .ok (.irem, 1) := by decide +kernel
theorem dX5_clear_43 : decode cX5_clear 43 = .ok (.imul, 1) := by decide +kernel
theorem dX5_clear_44 : decode cX5_clear 44 = .ok (.lshl, 1) := by decide +kernel
theorem dX5_clear_45 : decode cX5_clear 45 = .ok (.ldc2_w 23, 3) := by decide +kernel
theorem dX5_clear_48 : decode cX5_clear 48 = .ok (.lxor, 1) := by decide +kernel
theorem dX5_clear_49 : decode cX5_clear 49 = .ok (.land, 1) := by decide +kernel
theorem dX5_clear_50 : decode cX5_clear 50 = .ok (.lastore, 1) := by decide +kernel
theorem dX5_clear_51 : decode cX5_clear 51 = .ok (.iinc 3 1, 3) := by decide +kernel
theorem dX5_clear_54 : decode cX5_clear 54 = .ok (.goto (-35), 3) := by decide +kernel
theorem dX5_clear_57 : decode cX5_clear 57 = .ok (.return_, 1) := by decide +kernel
theorem dX5_copyPage_0 : decode cX5_copyPage 0 = .ok (.bipush 8, 2) := by decide +kernel
theorem dX5_copyPage_2 : decode cX5_copyPage 2 = .ok (.istore 4, 2) := by decide +kernel
theorem dX5_copyPage_4 : decode cX5_copyPage 4 = .ok (.iload_n 1, 1) := by decide +kernel
theorem dX5_copyPage_5 : decode cX5_copyPage 5 = .ok (.iload 4, 2) := by decide +kernel
theorem dX5_copyPage_7 : decode cX5_copyPage 7 = .ok (.imul, 1) := by decide +kernel
theorem dX5_copyPage_8 : decode cX5_copyPage 8 = .ok (.istore 5, 2) := by decide +kernel
theorem dX5_copyPage_10 : decode cX5_copyPage 10 = .ok (.iload_n 3, 1) := by decide +kernel
theorem dX5_copyPage_11 : decode cX5_copyPage 11 = .ok (.iload 4, 2) := by decide +kernel
theorem dX5_copyPage_13 : decode cX5_copyPage 13 = .ok (.imul, 1) := by decide +kernel
theorem dX5_copyPage_14 : decode cX5_copyPage 14 = .ok (.istore 6, 2) := by decide +kernel
theorem dX5_copyPage_16 : decode cX5_copyPage 16 = .ok (.iload 5, 2) := by decide +kernel
theorem dX5_copyPage_18 : decode cX5_copyPage 18 = .ok (.ifCond .lt 34, 3) := by decide +kernel
theorem dX5_copyPage_21 : decode cX5_copyPage 21 = .ok (.iload 6, 2) := by decide +kernel
theorem dX5_copyPage_23 : decode cX5_copyPage 23 = .ok (.ifCond .lt 29, 3) := by decide +kernel
theorem dX5_copyPage_26 : decode cX5_copyPage 26 = .ok (.iload 5, 2) := by decide +kernel
theorem dX5_copyPage_28 : decode cX5_copyPage 28 = .ok (.iload 4, 2) := by decide +kernel
theorem dX5_copyPage_30 : decode cX5_copyPage 30 = .ok (.iadd, 1) := by decide +kernel
theorem dX5_copyPage_31 : decode cX5_copyPage 31 = .ok (.aload_n 0, 1) := by decide +kernel
theorem dX5_copyPage_32 : decode cX5_copyPage 32 = .ok (.getfield 15, 3) := by decide +kernel
theorem dX5_copyPage_35 : decode cX5_copyPage 35 = .ok (.arraylength, 1) := by decide +kernel
theorem dX5_copyPage_36 : decode cX5_copyPage 36 = .ok (.if_icmp .gt 16, 3) := by decide +kernel
theorem dX5_copyPage_39 : decode cX5_copyPage 39 = .ok (.iload 6, 2) := by decide +kernel
theorem dX5_copyPage_41 : decode cX5_copyPage 41 = .ok (.iload 4, 2) := by decide +kernel
theorem dX5_copyPage_43 : decode cX5_copyPage 43 = .ok (.iadd, 1) := by decide +kernel
theorem dX5_copyPage_44 : decode cX5_copyPage 44 = .ok (.aload_n 2, 1) := by decide +kernel
theorem dX5_copyPage_45 : decode cX5_copyPage 45 = .ok (.getfield 15, 3) := by decide +kernel
theorem dX5_copyPage_48 : decode cX5_copyPage 48 = .ok (.arraylength, 1) := by decide +kernel
theorem dX5_copyPage_49 : decode cX5_copyPage 49 = .ok (.if_icmp .le 4, 3) := by decide +kernel
theorem dX5_copyPage_52 : decode cX5_copyPage 52 = .ok (.return_, 1) := by decide +kernel
theorem dX5_copyPage_53 : decode cX5_copyPage 53 = .ok (.iconst 0, 1) := by decide +kernel
theorem dX5_copyPage_54 : decode cX5_copyPage 54 = .ok (.istore 7, 2) := by decide +kernel
theorem dX5_copyPage_56 : decode cX5_copyPage 56 = .ok (.iload 7, 2) := by decide +kernel
theorem dX5_copyPage_58 : decode cX5_copyPage 58 = .ok (.iload 4, 2) := by decide +kernel
theorem dX5_copyPage_60 : decode cX5_copyPage 60 = .ok (.if_icmp .ge 29, 3) := by decide +kernel
theorem dX5_copyPage_63 : decode cX5_copyPage 63 = .ok (.aload_n 0, 1) := by decide +kernel
theorem dX5_copyPage_64 : decode cX5_copyPage 64 = .ok (.getfield 15, 3) := by decide +kernel
theorem dX5_copyPage_67 : decode cX5_copyPage 67 = .ok (.iload 5, 2) := by decide +kernel
theorem dX5_copyPage_69 : decode cX5_copyPage 69 = .ok (.iload 7, 2) := by decide +kernel
theorem dX5_copyPage_71 : decode cX5_copyPage 71 = .ok (.iadd, 1) := by decide +kernel
theorem dX5_copyPage_72 : decode cX5_copyPage 72 = .ok (.aload_n 2, 1) := by decide +kernel
theorem dX5_copyPage_73 : decode cX5_copyPage 73 = .ok (.getfield 15, 3) := by decide +kernel
theorem dX5_copyPage_76 : decode cX5_copyPage 76 = .ok (.iload 6, 2) := by decide +kernel
theorem dX5_copyPage_78 : decode cX5_copyPage 78 = .ok (.iload 7, 2) := by decide +kernel
theorem dX5_copyPage_80 : decode cX5_copyPage 80 = .ok (.iadd, 1) := by decide +kernel
theorem dX5_copyPage_81 : decode cX5_copyPage 81 = .ok (.laload, 1) := by decide +kernel
theorem dX5_copyPage_82 : decode cX5_copyPage 82 = .ok (.lastore, 1) := by decide +kernel
theorem dX5_copyPage_83 : decode cX5_copyPage 83 = .ok (.iinc 7 1, 3) := by decide +kernel
theorem dX5_copyPage_86 : decode cX5_copyPage 86 = .ok (.goto (-30), 3) := by decide +kernel
theorem dX5_copyPage_89 : decode cX5_copyPage 89 = .ok (.return_, 1) := by decide +kernel
theorem dX6_init_0 : decode cX6_init 0 = .ok (.aload_n 0, 1) := by decide +kernel
theorem dX6_init_1 : decode cX6_init 1 = .ok (.invokespecial 3, 3) := by decide +kernel
theorem dX6_init_4 : decode cX6_init 4 = .ok (.aload_n 0, 1) := by decide +kernel
theorem dX6_init_5 : decode cX6_init 5 = .ok (.sipush 3072, 3) := by decide +kernel
theorem dX6_init_8 : decode cX6_init 8 = .ok (.newarray .int, 2) := by decide +kernel
theorem dX6_init_10 : decode cX6_init 10 = .ok (.putfield 9, 3) := by decide +kernel
theorem dX6_init_13 : decode cX6_init 13 = .ok (.aload_n 0, 1) := by decide +kernel
theorem dX6_init_14 : decode cX6_init 14 = .ok (.new 13, 3) := by decide +kernel
theorem dX6_init_17 : decode cX6_init 17 = .ok (.dup, 1) := by decide +kernel
theorem dX6_init_18 : decode cX6_init 18 = .ok (.sipush 1024, 3) := by decide +kernel
theorem dX6_init_21 : decode cX6_init 21 = .ok (.invokespecial 15, 3) := by decide +kernel
theorem dX6_init_24 : decode cX6_init 24 = .ok (.putfield 18, 3) := by decide +kernel
theorem dX6_init_27 : decode cX6_init 27 = .ok (.aload_n 0, 1) := by decide +kernel
theorem dX6_init_28 : decode cX6_init 28 = .ok (.new 13, 3) := by decide +kernel
theorem dX6_init_31 : decode cX6_init 31 = .ok (.dup, 1) := by decide +kernel
theorem dX6_init_32 : decode cX6_init 32 = .ok (.sipush 1024, 3) := by decide +kernel
theorem dX6_init_35 : decode cX6_init 35 = .ok (.invokespecial 15, 3) := by decide +kernel
theorem dX6_init_38 : decode cX6_init 38 = .ok (.putfield 22, 3) := by decide +kernel
theorem dX6_init_41 : decode cX6_init 41 = .ok (.aload_n 0, 1) := by decide +kernel
theorem dX6_init_42 : decode cX6_init 42 = .ok (.iconst 0, 1) := by decide +kernel
theorem dX6_init_43 : decode cX6_init 43 = .ok (.putfield 25, 3) := by decide +kernel
theorem dX6_init_46 : decode cX6_init 46 = .ok (.aload_n 0, 1) := by decide +kernel
theorem dX6_init_47 : decode cX6_init 47 = .ok (.iconst 0, 1) := by decide +kernel
theorem dX6_init_48 : decode cX6_init 48 = .ok (.putfield 29, 3) := by decide +kernel
theorem dX6_init_51 : decode cX6_init 51 = .ok (.iload_n 1, 1) := by decide +kernel
theorem dX6_init_52 : decode cX6_init 52 = .ok (.iconst 4, 1) := by decide +kernel
theorem dX6_init_53 : decode cX6_init 53 = .ok (.if_icmp .lt 9, 3) := by decide +kernel
theorem dX6_init_56 : decode cX6_init 56 = .ok (.iload_n 1, 1) := by decide +kernel
theorem dX6_init_57 : decode cX6_init 57 = .ok (.bipush 64, 2) := by decide +kernel
theorem dX6_init_59 : decode cX6_init 59 = .ok (.if_icmp .le 8, 3) := by decide +kernel
theorem dX6_init_62 : decode cX6_init 62 = .ok (.bipush 16, 2) := by decide +kernel
theorem dX6_init_64 : decode cX6_init 64 = .ok (.goto 4, 3) := by decide +kernel
theorem dX6_init_67 : decode cX6_init 67 = .ok (.iload_n 1, 1) := by decide +kernel
theorem dX6_init_68 : decode cX6_init 68 = .ok (.istore_n 3, 1) := by decide +kernel
theorem dX6_init_69 : decode cX6_init 69 = .ok (.iload_n 2, 1) := by decide +kernel
theorem dX6_init_70 : decode cX6_init 70 = .ok (.bipush 8, 2) := by decide +kernel
theorem dX6_init_72 : decode cX6_init 72 = .ok (.if_icmp .lt 10, 3) := by decide +kernel
theorem dX6_init_75 : decode cX6_init 75 = .ok (.iload_n 2, 1) := by decide +kernel
theorem dX6_init_76 : decode cX6_init 76 = .ok (.sipush 512, 3) := by decide +kernel
theorem dX6_init_79 : decode cX6_init 79 = .ok (.if_icmp .le 9, 3) := by decide +kernel
theorem dX6_init_82 : decode cX6_init 82 = .ok (.sipush 128, 3) := by decide +kernel
theorem dX6_init_85 : decode cX6_init 85 = .ok (.goto 4, 3) := by decide +kernel
theorem dX6_init_88 : decode cX6_init 88 = .ok (.iload_n 2, 1) := by decide +kernel
theorem dX6_init_89 : decode cX6_init 89 = .ok (.istore 4, 2) := by decide +kernel
theorem dX6_init_91 : decode cX6_init 91 = .ok (.aload_n 0, 1) := by decide +kernel
theorem dX6_init_92 : decode cX6_init 92 = .ok (.new 32, 3) := by decide +kernel
theorem dX6_init_95 : decode cX6_init 95 = .ok (.dup, 1) := by decide +kernel
theorem dX6_init_96 : decode cX6_init 96 = .ok (.iload 4, 2) := by decide +kernel
theorem dX6_init_98 : decode cX6_init 98 = .ok (.invokespecial 34, 3) := by decide +kernel
theorem dX6_init_101 : decode cX6_init 101 = .ok (.putfield 35, 3) := by decide +kernel
theorem dX6_init_104 : decode cX6_init 104 = .ok (.aload_n 0, 1) := by decide +kernel
theorem dX6_init_105 : decode cX6_init 105 = .ok (.new 39, 3) := by decide +kernel
theorem dX6_init_108 : decode cX6_init 108 = .ok (.dup, 1) := by decide +kernel
theorem dX6_init_109 : decode cX6_init 109 = .ok (.invokespecial 41, 3) := by decide +kernel
theorem dX6_init_112 : decode cX6_init 112 = .ok (.putfield 42, 3) := by decide +kernel
theorem dX6_init_115 : decode cX6_init 115 = .ok (.aload_n 0, 1) := by decide +kernel
theorem dX6_init_116 : decode cX6_init 116 = .ok (.new 46, 3) := by decide +kernel
theorem dX6_init_119 : decode cX6_init 119 = .ok (.dup, 1) := by decide +kernel
theorem dX6_init_120 : decode cX6_init 120 = .ok (.iload_n 3, 1) := by decide +kernel
theorem dX6_init_121 : decode cX6_init 121 = .ok (.invokespecial 48, 3) := by decide +kernel
theorem dX6_init_124 : decode cX6_init 124 = .ok (.putfield 49, 3) := by decide +kernel
theorem dX6_init_127 : decode cX6_init 127 = .ok (.aload_n 0, 1) := by decide +kernel
theorem dX6_init_128 : decode cX6_init 128 = .ok (.new 53, 3) := by decide +kernel
theorem dX6_init_131 : decode cX6_init 131 = .ok (.dup, 1) := by decide +kernel
theorem dX6_init_132 : decode cX6_init 132 = .ok (.iload_n 3, 1) := by decide +kernel
theorem dX6_init_133 : decode cX6_init 133 = .ok (.invokespecial 55, 3) := by decide +kernel
theorem dX6_init_136 : decode cX6_init 136 = .ok (.putfield 56, 3) := by decide +kernel
theorem dX6_init_139 : decode cX6_init 139 = .ok (.aload_n 0, 1) := by decide +kernel
theorem dX6_init_140 : decode cX6_init 140 = .ok (.getfield 9, 3) := by decide +kernel
theorem dX6_init_143 : decode cX6_init 143 = .ok (.iconst (-1), 1) := by decide +kernel
theorem dX6_init_144 : decode cX6_init 144 = .ok (.invokestatic 60, 3) := by decide +kernel
theorem dX6_init_147 : decode cX6_init 147 = .ok (.return_, 1) := by decide +kernel
theorem dX6_read_0 : decode cX6_read 0 = .ok (.iload_n 1, 1) := by decide +kernel
theorem dX6_read_1 : decode cX6_read 1 = .ok (.invokestatic 66, 3) := by decide +kernel
theorem dX6_read_4 : decode cX6_read 4 = .ok (.ifCond .eq 19, 3) := by decide +kernel
theorem dX6_read_7 : decode cX6_read 7 = .ok (.iload_n 2, 1) := by decide +kernel
theorem dX6_read_8 : decode cX6_read 8 = .ok (.ifCond .lt 15, 3) := by decide +kernel
theorem dX6_read_11 : decode cX6_read 11 = .ok (.iload_n 3, 1) := by decide +kernel
theorem dX6_read_12 : decode cX6_read 12 = .ok (.iconst 1, 1) := by decide +kernel
theorem dX6_read_13 : decode cX6_read 13 = .ok (.if_icmp .lt 10, 3) := by decide +kernel
theorem dX6_read_16 : decode cX6_read 16 = .ok (.iload_n 3, 1) := by decide +kernel
theorem dX6_read_17 : decode cX6_read 17 = .ok (.sipush 1024, 3) := by decide +kernel
theorem dX6_read_20 : decode cX6_read 20 = .ok (.if_icmp .le 6, 3) := by decide +kernel
theorem dX6_read_23 : decode cX6_read 23 = .ok (.bipush (-2), 2) := by decide +kernel
theorem dX6_read_25 : decode cX6_read 25 = .ok (.ireturn, 1) := by decide +kernel
theorem dX6_read_26 : decode cX6_read 26 = .ok (.aload_n 0, 1) := by decide +kernel
theorem dX6_read_27 : decode cX6_read 27 = .ok (.getfield 35, 3) := by decide +kernel
theorem dX6_read_30 : decode cX6_read 30 = .ok (.invokevirtual 70, 3) := by decide +kernel
theorem dX6_read_33 : decode cX6_read 33 = .ok (.aload_n 0, 1) := by decide +kernel
theorem dX6_read_34 : decode cX6_read 34 = .ok (.getfield 42, 3) := by decide +kernel
theorem dX6_read_37 : decode cX6_read 37 = .ok (.getfield 73, 3) := by decide +kernel
theorem dX6_read_40 : decode cX6_read 40 = .ok (.iload_n 1, 1) := by decide +kernel
theorem dX6_read_41 : decode cX6_read 41 = .ok (.iaload, 1) := by decide +kernel
theorem dX6_read_42 : decode cX6_read 42 = .ok (.istore 4, 2) := by decide +kernel
theorem dX6_read_44 : decode cX6_read 44 = .ok (.iload_n 2, 1) := by decide +kernel
theorem dX6_read_45 : decode cX6_read 45 = .ok (.iload 4, 2) := by decide +kernel
theorem dX6_read_47 : decode cX6_read 47 = .ok (.if_icmp .lt 10, 3) := by decide +kernel
theorem dX6_read_50 : decode cX6_read 50 = .ok (.aload_n 0, 1) := by decide +kernel
theorem dX6_read_51 : decode cX6_read 51 = .ok (.iconst 0, 1) := by decide +kernel
theorem dX6_read_52 : decode cX6_read 52 = .ok (.putfield 25, 3) := by decide +kernel
theorem dX6_read_55 : decode cX6_read 55 = .ok (.iconst 0, 1) := by decide +kernel
theorem dX6_read_56 : decode cX6_read 56 = .ok (.ireturn, 1) := by decide +kernel
theorem dX6_read_57 : decode cX6_read 57 = .ok (.iload_n 2, 1) := by decide +kernel
theorem dX6_read_58 : decode cX6_read 58 = .ok (.iload_n 3, 1) := by decide +kernel
theorem dX6_read_59 : decode cX6_read 59 = .ok (.iadd, 1) := by decide +kernel
theorem dX6_read_60 : decode cX6_read 60 = .ok (.iload 4, 2) := by decide +kernel
theorem dX6_read_62 : decode cX6_read 62 = .ok (.invokestatic 76, 3) := by decide +kernel
theorem dX6_read_65 : decode cX6_read 65 = .ok (.istore 5, 2) := by decide +kernel
theorem dX6_read_67 : decode cX6_read 67 = .ok (.iconst 0, 1) := by decide +kernel
theorem dX6_read_68 : decode cX6_read 68 = .ok (.istore 6, 2) := by decide +kernel
theorem dX6_read_70 : decode cX6_read 70 = .ok (.iload_n 2, 1) := by decide +kernel
theorem dX6_read_71 : decode cX6_read 71 = .ok (.bipush 64, 2) := by decide +kernel
theorem dX6_read_73 : decode cX6_read 73 = .ok (.idiv, 1) := by decide +kernel
theorem dX6_read_74 : decode cX6_read 74 = .ok (.istore 7, 2) := by decide +kernel
theorem dX6_read_76 : decode cX6_read 76 = .ok (.iload 7, 2) := by decide +kernel
theorem dX6_read_78 : decode cX6_read 78 = .ok (.bipush 64, 2) := by decide +kernel
theorem dX6_read_80 : decode cX6_read 80 = .ok (.imul, 1) := by decide +kernel
theorem dX6_read_81 : decode cX6_read 81 = .ok (.iload 5, 2) := by decide +kernel
theorem dX6_read_83 : decode cX6_read 83 = .ok (.if_icmp .ge 52, 3) := by decide +kernel
theorem dX6_read_86 : decode cX6_read 86 = .ok (.aload_n 0, 1) := by decide +kernel
theorem dX6_read_87 : decode cX6_read 87 = .ok (.iload_n 1, 1) := by decide +kernel
theorem dX6_read_88 : decode cX6_read 88 = .ok (.iload 7, 2) := by decide +kernel
theorem dX6_read_90 : decode cX6_read 90 = .ok (.iload_n 2, 1) := by decide +kernel
theorem dX6_read_91 : decode cX6_read 91 = .ok (.iload 5, 2) := by decide +kernel
theorem dX6_read_93 : decode cX6_read 93 = .ok (.invokevirtual 82, 3) := by decide +kernel
theorem dX6_read_96 : decode cX6_read 96 = .ok (.istore 8, 2) := by decide +kernel
theorem dX6_read_98 : decode cX6_read 98 = .ok (.iload 8, 2) := by decide +kernel
theorem dX6_read_100 : decode cX6_read 100 = .ok (.iconst (-1), 1) := by decide +kernel
theorem dX6_read_101 : decode cX6_read 101 = .ok (.if_icmp .ne 16, 3) := by decide +kernel
theorem dX6_read_104 : decode cX6_read 104 = .ok (.iload 6, 2) := by decide +kernel
theorem dX6_read_106 : decode cX6_read 106 = .ok (.ifCond .ne 8, 3) := by decide +kernel
theorem dX6_read_109 : decode cX6_read 109 = .ok (.bipush (-3), 2) := by decide +kernel
theorem dX6_read_111 : decode cX6_read 111 = .ok (.goto 5, 3) := by decide +kernel
theorem dX6_read_114 : decode cX6_read 114 = .ok (.iload 6, 2) := by decide +kernel
theorem dX6_read_116 : decode cX6_read 116 = .ok (.ireturn, 1) := by decide +kernel
theorem dX6_read_117 : decode cX6_read 117 = .ok (.iload 8, 2) := by decide +kernel
theorem dX6_read_119 : decode cX6_read 119 = .ok (.iload_n 2, 1) := by decide +kernel
theorem dX6_read_120 : decode cX6_read 120 = .ok (.isub, 1) := by decide +kernel
theorem dX6_read_121 : decode cX6_read 121 = .ok (.istore 6, 2) := by decide +kernel
theorem dX6_read_123 : decode cX6_read 123 = .ok (.aload_n 0, 1) := by decide +kernel
theorem dX6_read_124 : decode cX6_read 124 = .ok (.iload 6, 2) := by decide +kernel
theorem dX6_read_126 : decode cX6_read 126 = .ok (.putfield 25, 3) := by decide +kernel
theorem dX6_read_129 : decode cX6_read 129 = .ok (.iinc 7 1, 3) := by decide +kernel
theorem dX6_read_132 : decode cX6_read 132 = .ok (.goto (-56), 3) := by decide +kernel
theorem dX6_read_135 : decode cX6_read 135 = .ok (.iload 6, 2) := by decide +kernel
theorem dX6_read_137 : decode cX6_read 137 = .ok (.ireturn, 1) := by decide +kernel
theorem dX6_hand_0 : decode cX6_hand 0 = .ok (.iload_n 1, 1) := by decide +kernel
theorem dX6_hand_1 : decode cX6_hand 1 = .ok (.ifCond .lt 11, 3) := by decide +kernel
theorem dX6_hand_4 : decode cX6_hand 4 = .ok (.iload_n 1, 1) := by decide +kernel
theorem dX6_hand_5 : decode cX6_hand 5 = .ok (.aload_n 0, 1) := by decide +kernel
theorem dX6_hand_6 : decode cX6_hand 6 = .ok (.getfield 25, 3) := by decide +kernel
theorem dX6_hand_9 : decode cX6_hand 9 = .ok (.if_icmp .lt 7, 3) := by decide +kernel
theorem dX6_hand_12 : decode cX6_hand 12 = .ok (.iconst (-1), 1) := by decide +kernel
theorem dX6_hand_13 : decode cX6_hand 13 = .ok (.goto 11, 3) := by decide +kernel
theorem dX6_hand_16 : decode cX6_hand 16 = .ok (.aload_n 0, 1) := by decide +kernel
theorem dX6_hand_17 : decode cX6_hand 17 = .ok (.getfield 18, 3) := by decide +kernel
theorem dX6_hand_20 : decode cX6_hand 20 = .ok (.iload_n 1, 1) := by decide +kernel
theorem dX6_hand_21 : decode cX6_hand 21 = .ok (.invokevirtual 86, 3) := by decide +kernel
theorem dX6_hand_24 : decode cX6_hand 24 = .ok (.ireturn, 1) := by decide +kernel
theorem dX6_write_0 : decode cX6_write 0 = .ok (.iload 5, 2) := by decide +kernel
theorem dX6_write_2 : decode cX6_write 2 = .ok (.iconst 1, 1) := by decide +kernel
theorem dX6_write_3 : decode cX6_write 3 = .ok (.if_icmp .lt 20, 3) := by decide +kernel
theorem dX6_write_6 : decode cX6_write 6 = .ok (.iload 5, 2) := by decide +kernel
theorem dX6_write_8 : decode cX6_write 8 = .ok (.bipush 8, 2) := by decide +kernel
theorem dX6_write_10 : decode cX6_write 10 = .ok (.if_icmp .gt 13, 3) := by decide +kernel
theorem dX6_write_13 : decode cX6_write 13 = .ok (.iload_n 1, 1) := by decide +kernel
theorem dX6_write_14 : decode cX6_write 14 = .ok (.iload_n 2, 1) := by decide +kernel
theorem dX6_write_15 : decode cX6_write 15 = .ok (.iload 5, 2) := by decide +kernel
theorem dX6_write_17 : decode cX6_write 17 = .ok (.invokestatic 90, 3) := by decide +kernel
theorem dX6_write_20 : decode cX6_write 20 = .ok (.ifCond .ne 6, 3) := by decide +kernel
theorem dX6_write_23 : decode cX6_write 23 = .ok (.bipush (-2), 2) := by decide +kernel
theorem dX6_write_25 : decode cX6_write 25 = .ok (.ireturn, 1) := by decide +kernel
theorem dX6_write_26 : decode cX6_write 26 = .ok (.iconst 0, 1) := by decide +kernel
theorem dX6_write_27 : decode cX6_write 27 = .ok (.istore 6, 2) := by decide +kernel
theorem dX6_write_29 : decode cX6_write 29 = .ok (.iload 6, 2) := by decide +kernel
theorem dX6_write_31 : decode cX6_write 31 = .ok (.iload 5, 2) := by decide +kernel
theorem dX6_write_33 : decode cX6_write 33 = .ok (.if_icmp .ge 26, 3) := by decide +kernel
theorem dX6_write_36 : decode cX6_write 36 = .ok (.aload_n 0, 1) := by decide +kernel
theorem dX6_write_37 : decode cX6_write 37 = .ok (.getfield 22, 3) := by decide +kernel
theorem dX6_write_40 : decode cX6_write 40 = .ok (.iload 6, 2) := by decide +kernel
theorem dX6_write_42 : decode cX6_write 42 = .ok (.lload_n 3, 1) := by decide +kernel
theorem dX6_write_43 : decode cX6_write 43 = .ok (.bipush 8, 2) := by decide +kernel
theorem dX6_write_45 : decode cX6_write 45 = .ok (.iload 6, 2) := by decide +kernel
theorem dX6_write_47 : decode cX6_write 47 = .ok (.imul, 1) := by decide +kernel
theorem dX6_write_48 : decode cX6_write 48 = .ok (.lushr, 1) := by decide +kernel
theorem dX6_write_49 : decode cX6_write 49 = .ok (.l2i, 1) := by decide +kernel
theorem dX6_write_50 : decode cX6_write 50 = .ok (.invokevirtual 94, 3) := by decide +kernel
theorem dX6_write_53 : decode cX6_write 53 = .ok (.iinc 6 1, 3) := by decide +kernel
theorem dX6_write_56 : decode cX6_write 56 = .ok (.goto (-27), 3) := by decide +kernel
theorem dX6_write_59 : decode cX6_write 59 = .ok (.aload_n 0, 1) := by decide +kernel
theorem dX6_write_60 : decode cX6_write 60 = .ok (.iload_n 1, 1) := by decide +kernel
theorem dX6_write_61 : decode cX6_write 61 = .ok (.iload_n 2, 1) := by decide +kernel
theorem dX6_write_62 : decode cX6_write 62 = .ok (.iload 5, 2) := by decide +kernel
theorem dX6_write_64 : decode cX6_write 64 = .ok (.invokevirtual 98, 3) := by decide +kernel
theorem dX6_write_67 : decode cX6_write 67 = .ok (.ireturn, 1) := by decide +kernel
theorem dX6_fill_0 : decode cX6_fill 0 = .ok (.iload_n 3, 1) := by decide +kernel
theorem dX6_fill_1 : decode cX6_fill 1 = .ok (.iconst 1, 1) := by decide +kernel
theorem dX6_fill_2 : decode cX6_fill 2 = .ok (.if_icmp .lt 19, 3) := by decide +kernel
theorem dX6_fill_5 : decode cX6_fill 5 = .ok (.iload_n 3, 1) := by decide +kernel
theorem dX6_fill_6 : decode cX6_fill 6 = .ok (.sipush 1024, 3) := by decide +kernel
theorem dX6_fill_9 : decode cX6_fill 9 = .ok (.if_icmp .gt 12, 3) := by decide +kernel
theorem dX6_fill_12 : decode cX6_fill 12 = .ok (.iload_n 1, 1) := by decide +kernel
theorem dX6_fill_13 : decode cX6_fill 13 = .ok (.iload_n 2, 1) := by decide +kernel
theorem dX6_fill_14 : decode cX6_fill 14 = .ok (.iload_n 3, 1) := by decide +kernel
theorem dX6_fill_15 : decode cX6_fill 15 = .ok (.invokestatic 90, 3) := by decide +kernel
theorem dX6_fill_18 : decode cX6_fill 18 = .ok (.ifCond .ne 6, 3) := by decide +kernel
theorem dX6_fill_21 : decode cX6_fill 21 = .ok (.bipush (-2), 2) := by decide +kernel
theorem dX6_fill_23 : decode cX6_fill 23 = .ok (.ireturn, 1) := by decide +kernel
theorem dX6_fill_24 : decode cX6_fill 24 = .ok (.iconst 0, 1) := by decide +kernel
theorem dX6_fill_25 : decode cX6_fill 25 = .ok (.istore 5, 2) := by decide +kernel
theorem dX6_fill_27 : decode cX6_fill 27 = .ok (.iload 5, 2) := by decide +kernel
theorem dX6_fill_29 : decode cX6_fill 29 = .ok (.iload_n 3, 1) := by decide +kernel
theorem dX6_fill_30 : decode cX6_fill 30 = .ok (.if_icmp .ge 25, 3) := by decide +kernel
theorem dX6_fill_33 : decode cX6_fill 33 = .ok (.aload_n 0, 1) := by decide +kernel
theorem dX6_fill_34 : decode cX6_fill 34 = .ok (.getfield 22, 3) := by decide +kernel
theorem dX6_fill_37 : decode cX6_fill 37 = .ok (.iload 5, 2) := by decide +kernel
theorem dX6_fill_39 : decode cX6_fill 39 = .ok (.iload 4, 2) := by decide +kernel
theorem dX6_fill_41 : decode cX6_fill 41 = .ok (.iconst 3, 1) := by decide +kernel
theorem dX6_fill_42 : decode cX6_fill 42 = .ok (.iload 5, 2) := by decide +kernel
theorem dX6_fill_44 : decode cX6_fill 44 = .ok (.imul, 1) := by decide +kernel
theorem dX6_fill_45 : decode cX6_fill 45 = .ok (.iadd, 1) := by decide +kernel
theorem dX6_fill_46 : decode cX6_fill 46 = .ok (.invokevirtual 94, 3) := by decide +kernel
theorem dX6_fill_49 : decode cX6_fill 49 = .ok (.iinc 5 1, 3) := by decide +kernel
theorem dX6_fill_52 : decode cX6_fill 52 = .ok (.goto (-25), 3) := by decide +kernel
theorem dX6_fill_55 : decode cX6_fill 55 = .ok (.aload_n 0, 1) := by decide +kernel
theorem dX6_fill_56 : decode cX6_fill 56 = .ok (.iload_n 1, 1) := by decide +kernel
theorem dX6_fill_57 : decode cX6_fill 57 = .ok (.iload_n 2, 1) := by decide +kernel
theorem dX6_fill_58 : decode cX6_fill 58 = .ok (.iload_n 3, 1) := by decide +kernel
theorem dX6_fill_59 : decode cX6_fill 59 = .ok (.invokevirtual 98, 3) := by decide +kernel
theorem dX6_fill_62 : decode cX6_fill 62 = .ok (.ireturn, 1) := by decide +kernel
theorem dX6_truncate_0 : decode cX6_truncate 0 = .ok (.iload_n 1, 1) := by decide +kernel
theorem dX6_truncate_1 : decode cX6_truncate 1 = .ok (.invokestatic 66, 3) := by decide +kernel
theorem dX6_truncate_4 : decode cX6_truncate 4 = .ok (.ifCond .eq 14, 3) := by decide +kernel
theorem dX6_truncate_7 : decode cX6_truncate 7 = .ok (.iload_n 2, 1) := by decide +kernel
theorem dX6_truncate_8 : decode cX6_truncate 8 = .ok (.ifCond .lt 10, 3) := by decide +kernel
theorem dX6_truncate_11 : decode cX6_truncate 11 = .ok (.iload_n 2, 1) := by decide +kernel
theorem dX6_truncate_12 : decode cX6_truncate 12 = .ok (.sipush 16384, 3) := by decide +kernel
theorem dX6_truncate_15 : decode cX6_truncate 15 = .ok (.if_icmp .le 6, 3) := by decide +kernel
theorem dX6_truncate_18 : decode cX6_truncate 18 = .ok (.bipush (-2), 2) := by decide +kernel
theorem dX6_truncate_20 : decode cX6_truncate 20 = .ok (.ireturn, 1) := by decide +kernel
theorem dX6_truncate_21 : decode cX6_truncate 21 = .ok (.aload_n 0, 1) := by decide +kernel
theorem dX6_truncate_22 : decode cX6_truncate 22 = .ok (.getfield 35, 3) := by decide +kernel
theorem dX6_truncate_25 : decode cX6_truncate 25 = .ok (.invokevirtual 70, 3) := by decide +kernel
theorem dX6_truncate_28 : decode cX6_truncate 28 = .ok (.aload_n 0, 1) := by decide +kernel
theorem dX6_truncate_29 : decode cX6_truncate 29 = .ok (.getfield 42, 3) := by decide +kernel
theorem dX6_truncate_32 : decode cX6_truncate 32 = .ok (.getfield 73, 3) := by decide +kernel
theorem dX6_truncate_35 : decode cX6_truncate 35 = .ok (.iload_n 1, 1) := by decide +kernel
theorem dX6_truncate_36 : decode cX6_truncate 36 = .ok (.iaload, 1) := by decide +kernel
theorem dX6_truncate_37 : decode cX6_truncate 37 = .ok (.istore_n 3, 1) := by decide +kernel
theorem dX6_truncate_38 : decode cX6_truncate 38 = .ok (.aload_n 0, 1) := by decide +kernel
theorem dX6_truncate_39 : decode cX6_truncate 39 = .ok (.getfield 42, 3) := by decide +kernel
theorem dX6_truncate_42 : decode cX6_truncate 42 = .ok (.getfield 73, 3) := by decide +kernel
theorem dX6_truncate_45 : decode cX6_truncate 45 = .ok (.iload_n 1, 1) := by decide +kernel
theorem dX6_truncate_46 : decode cX6_truncate 46 = .ok (.iload_n 2, 1) := by decide +kernel
theorem dX6_truncate_47 : decode cX6_truncate 47 = .ok (.iastore, 1) := by decide +kernel
theorem dX6_truncate_48 : decode cX6_truncate 48 = .ok (.iload_n 2, 1) := by decide +kernel
theorem dX6_truncate_49 : decode cX6_truncate 49 = .ok (.iload_n 3, 1) := by decide +kernel
theorem dX6_truncate_50 : decode cX6_truncate 50 = .ok (.if_icmp .lt 5, 3) := by decide +kernel
theorem dX6_truncate_53 : decode cX6_truncate 53 = .ok (.iload_n 3, 1) := by decide +kernel
theorem dX6_truncate_54 : decode cX6_truncate 54 = .ok (.ireturn, 1) := by decide +kernel
theorem dX6_truncate_55 : decode cX6_truncate 55 = .ok (.iload_n 2, 1) := by decide +kernel
theorem dX6_truncate_56 : decode cX6_truncate 56 = .ok (.invokestatic 102, 3) := by decide +kernel
theorem dX6_truncate_59 : decode cX6_truncate 59 = .ok (.istore 4, 2) := by decide +kernel
theorem dX6_truncate_61 : decode cX6_truncate 61 = .ok (.iload 4, 2) := by decide +kernel
theorem dX6_truncate_63 : decode cX6_truncate 63 = .ok (.sipush 256, 3) := by decide +kernel
theorem dX6_truncate_66 : decode cX6_truncate 66 = .ok (.if_icmp .ge 20, 3) := by decide +kernel
theorem dX6_truncate_69 : decode cX6_truncate 69 = .ok (.aload_n 0, 1) := by decide +kernel
theorem dX6_truncate_70 : decode cX6_truncate 70 = .ok (.iload_n 1, 1) := by decide +kernel
theorem dX6_truncate_71 : decode cX6_truncate 71 = .ok (.iload 4, 2) := by decide +kernel
theorem dX6_truncate_73 : decode cX6_truncate 73 = .ok (.invokestatic 105, 3) := by decide +kernel
theorem dX6_truncate_76 : decode cX6_truncate 76 = .ok (.invokevirtual 108, 3) := by decide +kernel
theorem dX6_truncate_79 : decode cX6_truncate 79 = .ok (.pop, 1) := by decide +kernel
theorem dX6_truncate_80 : decode cX6_truncate 80 = .ok (.iinc 4 1, 3) := by decide +kernel
theorem dX6_truncate_83 : decode cX6_truncate 83 = .ok (.goto (-22), 3) := by decide +kernel
theorem dX6_truncate_86 : decode cX6_truncate 86 = .ok (.aload_n 0, 1) := by decide +kernel
theorem dX6_truncate_87 : decode cX6_truncate 87 = .ok (.iload_n 1, 1) := by decide +kernel
theorem dX6_truncate_88 : decode cX6_truncate 88 = .ok (.iload_n 2, 1) := by decide +kernel
theorem dX6_truncate_89 : decode cX6_truncate 89 = .ok (.invokevirtual 111, 3) := by decide +kernel
theorem dX6_truncate_92 : decode cX6_truncate 92 = .ok (.ifCond .eq 7, 3) := by decide +kernel
theorem dX6_truncate_95 : decode cX6_truncate 95 = .ok (.iload_n 3, 1) := by decide +kernel
theorem dX6_truncate_96 : decode cX6_truncate 96 = .ok (.goto 5, 3) := by decide +kernel
theorem dX6_truncate_99 : decode cX6_truncate 99 = .ok (.bipush (-3), 2) := by decide +kernel
theorem dX6_truncate_101 : decode cX6_truncate 101 = .ok (.ireturn, 1) := by decide +kernel
theorem dX6_punch_0 : decode cX6_punch 0 = .ok (.iload_n 1, 1) := by decide +kernel
theorem dX6_punch_1 : decode cX6_punch 1 = .ok (.invokestatic 66, 3) := by decide +kernel
theorem dX6_punch_4 : decode cX6_punch 4 = .ok (.ifCond .eq 22, 3) := by decide +kernel
theorem dX6_punch_7 : decode cX6_punch 7 = .ok (.iload_n 2, 1) := by decide +kernel
theorem dX6_punch_8 : decode cX6_punch 8 = .ok (.invokestatic 115, 3) := by decide +kernel
theorem dX6_punch_11 : decode cX6_punch 11 = .ok (.ifCond .eq 15, 3) := by decide +kernel
theorem dX6_punch_14 : decode cX6_punch 14 = .ok (.iload_n 3, 1) := by decide +kernel
theorem dX6_punch_15 : decode cX6_punch 15 = .ok (.iconst 1, 1) := by decide +kernel
theorem dX6_punch_16 : decode cX6_punch 16 = .ok (.if_icmp .lt 10, 3) := by decide +kernel
theorem dX6_punch_19 : decode cX6_punch 19 = .ok (.iload_n 3, 1) := by decide +kernel
theorem dX6_punch_20 : decode cX6_punch 20 = .ok (.sipush 256, 3) := by decide +kernel
theorem dX6_punch_23 : decode cX6_punch 23 = .ok (.if_icmp .le 6, 3) := by decide +kernel
theorem dX6_punch_26 : decode cX6_punch 26 = .ok (.bipush (-2), 2) := by decide +kernel
theorem dX6_punch_28 : decode cX6_punch 28 = .ok (.ireturn, 1) := by decide +kernel
theorem dX6_punch_29 : decode cX6_punch 29 = .ok (.sipush 256, 3) := by decide +kernel
theorem dX6_punch_32 : decode cX6_punch 32 = .ok (.iload_n 2, 1) := by decide +kernel
theorem dX6_punch_33 : decode cX6_punch 33 = .ok (.iload_n 3, 1) := by decide +kernel
theorem dX6_punch_34 : decode cX6_punch 34 = .ok (.iadd, 1) := by decide +kernel
theorem dX6_punch_35 : decode cX6_punch 35 = .ok (.invokestatic 76, 3) := by decide +kernel
theorem dX6_punch_38 : decode cX6_punch 38 = .ok (.istore 4, 2) := by decide +kernel
theorem dX6_punch_40 : decode cX6_punch 40 = .ok (.iconst 0, 1) := by decide +kernel
theorem dX6_punch_41 : decode cX6_punch 41 = .ok (.istore 5, 2) := by decide +kernel
theorem dX6_punch_43 : decode cX6_punch 43 = .ok (.iload_n 2, 1) := by decide +kernel
theorem dX6_punch_44 : decode cX6_punch 44 = .ok (.istore 6, 2) := by decide +kernel
theorem dX6_punch_46 : decode cX6_punch 46 = .ok (.iload 6, 2) := by decide +kernel
theorem dX6_punch_48 : decode cX6_punch 48 = .ok (.iload 4, 2) := by decide +kernel
theorem dX6_punch_50 : decode cX6_punch 50 = .ok (.if_icmp .ge 25, 3) := by decide +kernel
theorem dX6_punch_53 : decode cX6_punch 53 = .ok (.aload_n 0, 1) := by decide +kernel
theorem dX6_punch_54 : decode cX6_punch 54 = .ok (.iload_n 1, 1) := by decide +kernel
theorem dX6_punch_55 : decode cX6_punch 55 = .ok (.iload 6, 2) := by decide +kernel
theorem dX6_punch_57 : decode cX6_punch 57 = .ok (.invokestatic 105, 3) := by decide +kernel
theorem dX6_punch_60 : decode cX6_punch 60 = .ok (.invokevirtual 108, 3) := by decide +kernel
theorem dX6_punch_63 : decode cX6_punch 63 = .ok (.ifCond .eq 6, 3) := by decide +kernel
theorem dX6_punch_66 : decode cX6_punch 66 = .ok (.iinc 5 1, 3) := by decide +kernel
theorem dX6_punch_69 : decode cX6_punch 69 = .ok (.iinc 6 1, 3) := by decide +kernel
theorem dX6_punch_72 : decode cX6_punch 72 = .ok (.goto (-26), 3) := by decide +kernel
theorem dX6_punch_75 : decode cX6_punch 75 = .ok (.iload 5, 2) := by decide +kernel
theorem dX6_punch_77 : decode cX6_punch 77 = .ok (.ireturn, 1) := by decide +kernel
theorem dX6_sync_0 : decode cX6_sync 0 = .ok (.iload_n 1, 1) := by decide +kernel
theorem dX6_sync_1 : decode cX6_sync 1 = .ok (.invokestatic 66, 3) := by decide +kernel
theorem dX6_sync_4 : decode cX6_sync 4 = .ok (.ifCond .ne 6, 3) := by decide +kernel
theorem dX6_sync_7 : decode cX6_sync 7 = .ok (.bipush (-2), 2) := by decide +kernel
theorem dX6_sync_9 : decode cX6_sync 9 = .ok (.ireturn, 1) := by decide +kernel
theorem dX6_sync_10 : decode cX6_sync 10 = .ok (.aload_n 0, 1) := by decide +kernel
theorem dX6_sync_11 : decode cX6_sync 11 = .ok (.getfield 35, 3) := by decide +kernel
theorem dX6_sync_14 : decode cX6_sync 14 = .ok (.invokevirtual 70, 3) := by decide +kernel
theorem dX6_sync_17 : decode cX6_sync 17 = .ok (.iconst 0, 1) := by decide +kernel
theorem dX6_sync_18 : decode cX6_sync 18 = .ok (.istore_n 2, 1) := by decide +kernel
theorem dX6_sync_19 : decode cX6_sync 19 = .ok (.iconst 0, 1) := by decide +kernel
theorem dX6_sync_20 : decode cX6_sync 20 = .ok (.istore_n 3, 1) := by decide +kernel
theorem dX6_sync_21 : decode cX6_sync 21 = .ok (.iload_n 3, 1) := by decide +kernel
theorem dX6_sync_22 : decode cX6_sync 22 = .ok (.sipush 256, 3) := by decide +kernel
theorem dX6_sync_25 : decode cX6_sync 25 = .ok (.if_icmp .ge 47, 3) := by decide +kernel
theorem dX6_sync_28 : decode cX6_sync 28 = .ok (.aload_n 0, 1) := by decide +kernel
theorem dX6_sync_29 : decode cX6_sync 29 = .ok (.getfield 49, 3) := by decide +kernel
theorem dX6_sync_32 : decode cX6_sync 32 = .ok (.iload_n 1, 1) := by decide +kernel
theorem dX6_sync_33 : decode cX6_sync 33 = .ok (.iload_n 3, 1) := by decide +kernel
theorem dX6_sync_34 : decode cX6_sync 34 = .ok (.invokestatic 105, 3) := by decide +kernel
theorem dX6_sync_37 : decode cX6_sync 37 = .ok (.invokevirtual 118, 3) := by decide +kernel
theorem dX6_sync_40 : decode cX6_sync 40 = .ok (.istore 4, 2) := by decide +kernel
theorem dX6_sync_42 : decode cX6_sync 42 = .ok (.aload_n 0, 1) := by decide +kernel
theorem dX6_sync_43 : decode cX6_sync 43 = .ok (.getfield 49, 3) := by decide +kernel
theorem dX6_sync_46 : decode cX6_sync 46 = .ok (.iload 4, 2) := by decide +kernel
theorem dX6_sync_48 : decode cX6_sync 48 = .ok (.invokevirtual 121, 3) := by decide +kernel
theorem dX6_sync_51 : decode cX6_sync 51 = .ok (.ifCond .eq 15, 3) := by decide +kernel
theorem dX6_sync_54 : decode cX6_sync 54 = .ok (.aload_n 0, 1) := by decide +kernel
theorem dX6_sync_55 : decode cX6_sync 55 = .ok (.iload 4, 2) := by decide +kernel
theorem dX6_sync_57 : decode cX6_sync 57 = .ok (.invokevirtual 124, 3) := by decide +kernel
theorem dX6_sync_60 : decode cX6_sync 60 = .ok (.ifCond .eq 6, 3) := by decide +kernel
theorem dX6_sync_63 : decode cX6_sync 63 = .ok (.iinc 2 1, 3) := by decide +kernel
theorem dX6_sync_66 : decode cX6_sync 66 = .ok (.iinc 3 1, 3) := by decide +kernel
theorem dX6_sync_69 : decode cX6_sync 69 = .ok (.goto (-48), 3) := by decide +kernel
theorem dX6_sync_72 : decode cX6_sync 72 = .ok (.aload_n 0, 1) := by decide +kernel
theorem dX6_sync_73 : decode cX6_sync 73 = .ok (.getfield 42, 3) := by decide +kernel
theorem dX6_sync_76 : decode cX6_sync 76 = .ok (.getfield 127, 3) := by decide +kernel
theorem dX6_sync_79 : decode cX6_sync 79 = .ok (.iload_n 1, 1) := by decide +kernel
theorem dX6_sync_80 : decode cX6_sync 80 = .ok (.iaload, 1) := by decide +kernel
theorem dX6_sync_81 : decode cX6_sync 81 = .ok (.istore_n 3, 1) := by decide +kernel
theorem dX6_sync_82 : decode cX6_sync 82 = .ok (.aload_n 0, 1) := by decide +kernel
theorem dX6_sync_83 : decode cX6_sync 83 = .ok (.getfield 42, 3) := by decide +kernel
end
section
theorem dX6_sync_86 : decode cX6_sync 86 = .ok (.getfield 127, 3) := by decide +kernel
theorem dX6_sync_89 : decode cX6_sync 89 = .ok (.iload_n 1, 1) := by decide +kernel
theorem dX6_sync_90 : decode cX6_sync 90 = .ok (.iconst 0, 1) := by decide +kernel
theorem dX6_sync_91 : decode cX6_sync 91 = .ok (.iastore, 1) := by decide +kernel
theorem dX6_sync_92 : decode cX6_sync 92 = .ok (.iload_n 3, 1) := by decide +kernel
theorem dX6_sync_93 : decode cX6_sync 93 = .ok (.ifCond .eq 7, 3) := by decide +kernel
theorem dX6_sync_96 : decode cX6_sync 96 = .ok (.iload_n 3, 1) := by decide +kernel
theorem dX6_sync_97 : decode cX6_sync 97 = .ok (.goto 4, 3) := by decide +kernel
theorem dX6_sync_100 : decode cX6_sync 100 = .ok (.iload_n 2, 1) := by decide +kernel
theorem dX6_sync_101 : decode cX6_sync 101 = .ok (.ireturn, 1) := by decide +kernel
theorem dX6_syncAll_0 : decode cX6_syncAll 0 = .ok (.aload_n 0, 1) := by decide +kernel
theorem dX6_syncAll_1 : decode cX6_syncAll 1 = .ok (.getfield 35, 3) := by decide +kernel
theorem dX6_syncAll_4 : decode cX6_syncAll 4 = .ok (.invokevirtual 70, 3) := by decide +kernel
theorem dX6_syncAll_7 : decode cX6_syncAll 7 = .ok (.iconst 0, 1) := by decide +kernel
theorem dX6_syncAll_8 : decode cX6_syncAll 8 = .ok (.istore_n 1, 1) := by decide +kernel
theorem dX6_syncAll_9 : decode cX6_syncAll 9 = .ok (.iload_n 1, 1) := by decide +kernel
theorem dX6_syncAll_10 : decode cX6_syncAll 10 = .ok (.sipush 3072, 3) := by decide +kernel
theorem dX6_syncAll_13 : decode cX6_syncAll 13 = .ok (.if_icmp .ge 33, 3) := by decide +kernel
theorem dX6_syncAll_16 : decode cX6_syncAll 16 = .ok (.aload_n 0, 1) := by decide +kernel
theorem dX6_syncAll_17 : decode cX6_syncAll 17 = .ok (.getfield 49, 3) := by decide +kernel
theorem dX6_syncAll_20 : decode cX6_syncAll 20 = .ok (.aload_n 0, 1) := by decide +kernel
theorem dX6_syncAll_21 : decode cX6_syncAll 21 = .ok (.getfield 49, 3) := by decide +kernel
theorem dX6_syncAll_24 : decode cX6_syncAll 24 = .ok (.iload_n 1, 1) := by decide +kernel
theorem dX6_syncAll_25 : decode cX6_syncAll 25 = .ok (.invokevirtual 118, 3) := by decide +kernel
theorem dX6_syncAll_28 : decode cX6_syncAll 28 = .ok (.invokevirtual 121, 3) := by decide +kernel
theorem dX6_syncAll_31 : decode cX6_syncAll 31 = .ok (.ifCond .eq 9, 3) := by decide +kernel
theorem dX6_syncAll_34 : decode cX6_syncAll 34 = .ok (.aload_n 0, 1) := by decide +kernel
theorem dX6_syncAll_35 : decode cX6_syncAll 35 = .ok (.iload_n 1, 1) := by decide +kernel
theorem dX6_syncAll_36 : decode cX6_syncAll 36 = .ok (.invokevirtual 130, 3) := by decide +kernel
theorem dX6_syncAll_39 : decode cX6_syncAll 39 = .ok (.pop, 1) := by decide +kernel
theorem dX6_syncAll_40 : decode cX6_syncAll 40 = .ok (.iinc 1 1, 3) := by decide +kernel
theorem dX6_syncAll_43 : decode cX6_syncAll 43 = .ok (.goto (-34), 3) := by decide +kernel
theorem dX6_syncAll_46 : decode cX6_syncAll 46 = .ok (.iconst 0, 1) := by decide +kernel
theorem dX6_syncAll_47 : decode cX6_syncAll 47 = .ok (.istore_n 1, 1) := by decide +kernel
theorem dX6_syncAll_48 : decode cX6_syncAll 48 = .ok (.aload_n 0, 1) := by decide +kernel
theorem dX6_syncAll_49 : decode cX6_syncAll 49 = .ok (.iconst (-1), 1) := by decide +kernel
theorem dX6_syncAll_50 : decode cX6_syncAll 50 = .ok (.invokevirtual 133, 3) := by decide +kernel
theorem dX6_syncAll_53 : decode cX6_syncAll 53 = .ok (.istore_n 2, 1) := by decide +kernel
theorem dX6_syncAll_54 : decode cX6_syncAll 54 = .ok (.iconst 0, 1) := by decide +kernel
theorem dX6_syncAll_55 : decode cX6_syncAll 55 = .ok (.istore_n 3, 1) := by decide +kernel
theorem dX6_syncAll_56 : decode cX6_syncAll 56 = .ok (.iload_n 3, 1) := by decide +kernel
theorem dX6_syncAll_57 : decode cX6_syncAll 57 = .ok (.aload_n 0, 1) := by decide +kernel
theorem dX6_syncAll_58 : decode cX6_syncAll 58 = .ok (.getfield 49, 3) := by decide +kernel
theorem dX6_syncAll_61 : decode cX6_syncAll 61 = .ok (.getfield 136, 3) := by decide +kernel
theorem dX6_syncAll_64 : decode cX6_syncAll 64 = .ok (.if_icmp .ge 35, 3) := by decide +kernel
theorem dX6_syncAll_67 : decode cX6_syncAll 67 = .ok (.iload_n 2, 1) := by decide +kernel
theorem dX6_syncAll_68 : decode cX6_syncAll 68 = .ok (.iconst (-1), 1) := by decide +kernel
theorem dX6_syncAll_69 : decode cX6_syncAll 69 = .ok (.if_icmp .eq 30, 3) := by decide +kernel
theorem dX6_syncAll_72 : decode cX6_syncAll 72 = .ok (.aload_n 0, 1) := by decide +kernel
theorem dX6_syncAll_73 : decode cX6_syncAll 73 = .ok (.aload_n 0, 1) := by decide +kernel
theorem dX6_syncAll_74 : decode cX6_syncAll 74 = .ok (.iload_n 2, 1) := by decide +kernel
theorem dX6_syncAll_75 : decode cX6_syncAll 75 = .ok (.invokevirtual 139, 3) := by decide +kernel
theorem dX6_syncAll_78 : decode cX6_syncAll 78 = .ok (.invokevirtual 124, 3) := by decide +kernel
theorem dX6_syncAll_81 : decode cX6_syncAll 81 = .ok (.ifCond .eq 6, 3) := by decide +kernel
theorem dX6_syncAll_84 : decode cX6_syncAll 84 = .ok (.iinc 1 1, 3) := by decide +kernel
theorem dX6_syncAll_87 : decode cX6_syncAll 87 = .ok (.aload_n 0, 1) := by decide +kernel
theorem dX6_syncAll_88 : decode cX6_syncAll 88 = .ok (.iload_n 2, 1) := by decide +kernel
theorem dX6_syncAll_89 : decode cX6_syncAll 89 = .ok (.invokevirtual 133, 3) := by decide +kernel
theorem dX6_syncAll_92 : decode cX6_syncAll 92 = .ok (.istore_n 2, 1) := by decide +kernel
theorem dX6_syncAll_93 : decode cX6_syncAll 93 = .ok (.iinc 3 1, 3) := by decide +kernel
theorem dX6_syncAll_96 : decode cX6_syncAll 96 = .ok (.goto (-40), 3) := by decide +kernel
theorem dX6_syncAll_99 : decode cX6_syncAll 99 = .ok (.iload_n 1, 1) := by decide +kernel
theorem dX6_syncAll_100 : decode cX6_syncAll 100 = .ok (.ireturn, 1) := by decide +kernel
theorem dX6_tick_0 : decode cX6_tick 0 = .ok (.iload_n 1, 1) := by decide +kernel
theorem dX6_tick_1 : decode cX6_tick 1 = .ok (.ifCond .lt 10, 3) := by decide +kernel
theorem dX6_tick_4 : decode cX6_tick 4 = .ok (.iload_n 1, 1) := by decide +kernel
theorem dX6_tick_5 : decode cX6_tick 5 = .ok (.sipush 1000, 3) := by decide +kernel
theorem dX6_tick_8 : decode cX6_tick 8 = .ok (.if_icmp .le 6, 3) := by decide +kernel
theorem dX6_tick_11 : decode cX6_tick 11 = .ok (.bipush (-2), 2) := by decide +kernel
theorem dX6_tick_13 : decode cX6_tick 13 = .ok (.ireturn, 1) := by decide +kernel
theorem dX6_tick_14 : decode cX6_tick 14 = .ok (.aload_n 0, 1) := by decide +kernel
theorem dX6_tick_15 : decode cX6_tick 15 = .ok (.getfield 35, 3) := by decide +kernel
theorem dX6_tick_18 : decode cX6_tick 18 = .ok (.invokevirtual 70, 3) := by decide +kernel
theorem dX6_tick_21 : decode cX6_tick 21 = .ok (.iconst 0, 1) := by decide +kernel
theorem dX6_tick_22 : decode cX6_tick 22 = .ok (.istore_n 2, 1) := by decide +kernel
theorem dX6_tick_23 : decode cX6_tick 23 = .ok (.iconst 0, 1) := by decide +kernel
theorem dX6_tick_24 : decode cX6_tick 24 = .ok (.istore_n 3, 1) := by decide +kernel
theorem dX6_tick_25 : decode cX6_tick 25 = .ok (.iload_n 3, 1) := by decide +kernel
theorem dX6_tick_26 : decode cX6_tick 26 = .ok (.iload_n 1, 1) := by decide +kernel
theorem dX6_tick_27 : decode cX6_tick 27 = .ok (.if_icmp .ge 26, 3) := by decide +kernel
theorem dX6_tick_30 : decode cX6_tick 30 = .ok (.aload_n 0, 1) := by decide +kernel
theorem dX6_tick_31 : decode cX6_tick 31 = .ok (.dup, 1) := by decide +kernel
theorem dX6_tick_32 : decode cX6_tick 32 = .ok (.getfield 29, 3) := by decide +kernel
theorem dX6_tick_35 : decode cX6_tick 35 = .ok (.iconst 1, 1) := by decide +kernel
theorem dX6_tick_36 : decode cX6_tick 36 = .ok (.iadd, 1) := by decide +kernel
theorem dX6_tick_37 : decode cX6_tick 37 = .ok (.putfield 29, 3) := by decide +kernel
theorem dX6_tick_40 : decode cX6_tick 40 = .ok (.iload_n 2, 1) := by decide +kernel
theorem dX6_tick_41 : decode cX6_tick 41 = .ok (.aload_n 0, 1) := by decide +kernel
theorem dX6_tick_42 : decode cX6_tick 42 = .ok (.invokevirtual 142, 3) := by decide +kernel
theorem dX6_tick_45 : decode cX6_tick 45 = .ok (.iadd, 1) := by decide +kernel
theorem dX6_tick_46 : decode cX6_tick 46 = .ok (.istore_n 2, 1) := by decide +kernel
theorem dX6_tick_47 : decode cX6_tick 47 = .ok (.iinc 3 1, 3) := by decide +kernel
theorem dX6_tick_50 : decode cX6_tick 50 = .ok (.goto (-25), 3) := by decide +kernel
theorem dX6_tick_53 : decode cX6_tick 53 = .ok (.iload_n 2, 1) := by decide +kernel
theorem dX6_tick_54 : decode cX6_tick 54 = .ok (.ireturn, 1) := by decide +kernel
theorem dX6_drop_0 : decode cX6_drop 0 = .ok (.iconst 0, 1) := by decide +kernel
theorem dX6_drop_1 : decode cX6_drop 1 = .ok (.istore_n 1, 1) := by decide +kernel
theorem dX6_drop_2 : decode cX6_drop 2 = .ok (.iconst 0, 1) := by decide +kernel
theorem dX6_drop_3 : decode cX6_drop 3 = .ok (.istore_n 2, 1) := by decide +kernel
theorem dX6_drop_4 : decode cX6_drop 4 = .ok (.iload_n 2, 1) := by decide +kernel
theorem dX6_drop_5 : decode cX6_drop 5 = .ok (.sipush 3072, 3) := by decide +kernel
theorem dX6_drop_8 : decode cX6_drop 8 = .ok (.if_icmp .ge 54, 3) := by decide +kernel
theorem dX6_drop_11 : decode cX6_drop 11 = .ok (.aload_n 0, 1) := by decide +kernel
theorem dX6_drop_12 : decode cX6_drop 12 = .ok (.getfield 49, 3) := by decide +kernel
theorem dX6_drop_15 : decode cX6_drop 15 = .ok (.iload_n 2, 1) := by decide +kernel
theorem dX6_drop_16 : decode cX6_drop 16 = .ok (.invokevirtual 118, 3) := by decide +kernel
theorem dX6_drop_19 : decode cX6_drop 19 = .ok (.istore_n 3, 1) := by decide +kernel
theorem dX6_drop_20 : decode cX6_drop 20 = .ok (.iload_n 3, 1) := by decide +kernel
theorem dX6_drop_21 : decode cX6_drop 21 = .ok (.iconst (-1), 1) := by decide +kernel
theorem dX6_drop_22 : decode cX6_drop 22 = .ok (.if_icmp .eq 34, 3) := by decide +kernel
theorem dX6_drop_25 : decode cX6_drop 25 = .ok (.aload_n 0, 1) := by decide +kernel
theorem dX6_drop_26 : decode cX6_drop 26 = .ok (.getfield 49, 3) := by decide +kernel
theorem dX6_drop_29 : decode cX6_drop 29 = .ok (.iload_n 3, 1) := by decide +kernel
theorem dX6_drop_30 : decode cX6_drop 30 = .ok (.invokevirtual 121, 3) := by decide +kernel
theorem dX6_drop_33 : decode cX6_drop 33 = .ok (.ifCond .ne 23, 3) := by decide +kernel
theorem dX6_drop_36 : decode cX6_drop 36 = .ok (.aload_n 0, 1) := by decide +kernel
theorem dX6_drop_37 : decode cX6_drop 37 = .ok (.getfield 49, 3) := by decide +kernel
theorem dX6_drop_40 : decode cX6_drop 40 = .ok (.getfield 146, 3) := by decide +kernel
theorem dX6_drop_43 : decode cX6_drop 43 = .ok (.iload_n 3, 1) := by decide +kernel
theorem dX6_drop_44 : decode cX6_drop 44 = .ok (.baload, 1) := by decide +kernel
theorem dX6_drop_45 : decode cX6_drop 45 = .ok (.ifCond .ne 11, 3) := by decide +kernel
theorem dX6_drop_48 : decode cX6_drop 48 = .ok (.aload_n 0, 1) := by decide +kernel
theorem dX6_drop_49 : decode cX6_drop 49 = .ok (.iload_n 3, 1) := by decide +kernel
theorem dX6_drop_50 : decode cX6_drop 50 = .ok (.invokevirtual 150, 3) := by decide +kernel
theorem dX6_drop_53 : decode cX6_drop 53 = .ok (.iinc 1 1, 3) := by decide +kernel
theorem dX6_drop_56 : decode cX6_drop 56 = .ok (.iinc 2 1, 3) := by decide +kernel
theorem dX6_drop_59 : decode cX6_drop 59 = .ok (.goto (-55), 3) := by decide +kernel
theorem dX6_drop_62 : decode cX6_drop 62 = .ok (.iload_n 1, 1) := by decide +kernel
theorem dX6_drop_63 : decode cX6_drop 63 = .ok (.ireturn, 1) := by decide +kernel
theorem dX6_crash_0 : decode cX6_crash 0 = .ok (.aload_n 0, 1) := by decide +kernel
theorem dX6_crash_1 : decode cX6_crash 1 = .ok (.getfield 49, 3) := by decide +kernel
theorem dX6_crash_4 : decode cX6_crash 4 = .ok (.getfield 153, 3) := by decide +kernel
theorem dX6_crash_7 : decode cX6_crash 7 = .ok (.istore_n 1, 1) := by decide +kernel
theorem dX6_crash_8 : decode cX6_crash 8 = .ok (.iconst 0, 1) := by decide +kernel
theorem dX6_crash_9 : decode cX6_crash 9 = .ok (.istore_n 2, 1) := by decide +kernel
theorem dX6_crash_10 : decode cX6_crash 10 = .ok (.iload_n 2, 1) := by decide +kernel
theorem dX6_crash_11 : decode cX6_crash 11 = .ok (.aload_n 0, 1) := by decide +kernel
theorem dX6_crash_12 : decode cX6_crash 12 = .ok (.getfield 49, 3) := by decide +kernel
theorem dX6_crash_15 : decode cX6_crash 15 = .ok (.getfield 136, 3) := by decide +kernel
theorem dX6_crash_18 : decode cX6_crash 18 = .ok (.if_icmp .ge 17, 3) := by decide +kernel
theorem dX6_crash_21 : decode cX6_crash 21 = .ok (.aload_n 0, 1) := by decide +kernel
theorem dX6_crash_22 : decode cX6_crash 22 = .ok (.getfield 49, 3) := by decide +kernel
theorem dX6_crash_25 : decode cX6_crash 25 = .ok (.iload_n 2, 1) := by decide +kernel
theorem dX6_crash_26 : decode cX6_crash 26 = .ok (.invokevirtual 156, 3) := by decide +kernel
theorem dX6_crash_29 : decode cX6_crash 29 = .ok (.iinc 2 1, 3) := by decide +kernel
theorem dX6_crash_32 : decode cX6_crash 32 = .ok (.goto (-22), 3) := by decide +kernel
theorem dX6_crash_35 : decode cX6_crash 35 = .ok (.aload_n 0, 1) := by decide +kernel
theorem dX6_crash_36 : decode cX6_crash 36 = .ok (.getfield 56, 3) := by decide +kernel
theorem dX6_crash_39 : decode cX6_crash 39 = .ok (.invokevirtual 159, 3) := by decide +kernel
theorem dX6_crash_42 : decode cX6_crash 42 = .ok (.aload_n 0, 1) := by decide +kernel
theorem dX6_crash_43 : decode cX6_crash 43 = .ok (.getfield 42, 3) := by decide +kernel
theorem dX6_crash_46 : decode cX6_crash 46 = .ok (.invokevirtual 162, 3) := by decide +kernel
theorem dX6_crash_49 : decode cX6_crash 49 = .ok (.aload_n 0, 1) := by decide +kernel
theorem dX6_crash_50 : decode cX6_crash 50 = .ok (.iconst 0, 1) := by decide +kernel
theorem dX6_crash_51 : decode cX6_crash 51 = .ok (.putfield 25, 3) := by decide +kernel
theorem dX6_crash_54 : decode cX6_crash 54 = .ok (.iload_n 1, 1) := by decide +kernel
theorem dX6_crash_55 : decode cX6_crash 55 = .ok (.ireturn, 1) := by decide +kernel
theorem dX6_fail_0 : decode cX6_fail 0 = .ok (.aload_n 0, 1) := by decide +kernel
theorem dX6_fail_1 : decode cX6_fail 1 = .ok (.getfield 35, 3) := by decide +kernel
theorem dX6_fail_4 : decode cX6_fail 4 = .ok (.iload_n 1, 1) := by decide +kernel
theorem dX6_fail_5 : decode cX6_fail 5 = .ok (.invokevirtual 165, 3) := by decide +kernel
theorem dX6_fail_8 : decode cX6_fail 8 = .ok (.ifCond .eq 16, 3) := by decide +kernel
theorem dX6_fail_11 : decode cX6_fail 11 = .ok (.aload_n 0, 1) := by decide +kernel
theorem dX6_fail_12 : decode cX6_fail 12 = .ok (.getfield 35, 3) := by decide +kernel
theorem dX6_fail_15 : decode cX6_fail 15 = .ok (.getfield 168, 3) := by decide +kernel
theorem dX6_fail_18 : decode cX6_fail 18 = .ok (.iload_n 1, 1) := by decide +kernel
theorem dX6_fail_19 : decode cX6_fail 19 = .ok (.baload, 1) := by decide +kernel
theorem dX6_fail_20 : decode cX6_fail 20 = .ok (.iload_n 2, 1) := by decide +kernel
theorem dX6_fail_21 : decode cX6_fail 21 = .ok (.if_icmp .ne 5, 3) := by decide +kernel
theorem dX6_fail_24 : decode cX6_fail 24 = .ok (.iconst 0, 1) := by decide +kernel
theorem dX6_fail_25 : decode cX6_fail 25 = .ok (.ireturn, 1) := by decide +kernel
theorem dX6_fail_26 : decode cX6_fail 26 = .ok (.aload_n 0, 1) := by decide +kernel
theorem dX6_fail_27 : decode cX6_fail 27 = .ok (.getfield 35, 3) := by decide +kernel
theorem dX6_fail_30 : decode cX6_fail 30 = .ok (.getfield 168, 3) := by decide +kernel
theorem dX6_fail_33 : decode cX6_fail 33 = .ok (.iload_n 1, 1) := by decide +kernel
theorem dX6_fail_34 : decode cX6_fail 34 = .ok (.iload_n 2, 1) := by decide +kernel
theorem dX6_fail_35 : decode cX6_fail 35 = .ok (.bastore, 1) := by decide +kernel
theorem dX6_fail_36 : decode cX6_fail 36 = .ok (.iconst 1, 1) := by decide +kernel
theorem dX6_fail_37 : decode cX6_fail 37 = .ok (.ireturn, 1) := by decide +kernel
theorem dX6_pin_0 : decode cX6_pin 0 = .ok (.iload_n 1, 1) := by decide +kernel
theorem dX6_pin_1 : decode cX6_pin 1 = .ok (.invokestatic 66, 3) := by decide +kernel
theorem dX6_pin_4 : decode cX6_pin 4 = .ok (.ifCond .eq 10, 3) := by decide +kernel
theorem dX6_pin_7 : decode cX6_pin 7 = .ok (.iload_n 2, 1) := by decide +kernel
theorem dX6_pin_8 : decode cX6_pin 8 = .ok (.invokestatic 115, 3) := by decide +kernel
theorem dX6_pin_11 : decode cX6_pin 11 = .ok (.ifCond .ne 5, 3) := by decide +kernel
theorem dX6_pin_14 : decode cX6_pin 14 = .ok (.iconst 0, 1) := by decide +kernel
theorem dX6_pin_15 : decode cX6_pin 15 = .ok (.ireturn, 1) := by decide +kernel
theorem dX6_pin_16 : decode cX6_pin 16 = .ok (.iload_n 1, 1) := by decide +kernel
theorem dX6_pin_17 : decode cX6_pin 17 = .ok (.iload_n 2, 1) := by decide +kernel
theorem dX6_pin_18 : decode cX6_pin 18 = .ok (.invokestatic 105, 3) := by decide +kernel
theorem dX6_pin_21 : decode cX6_pin 21 = .ok (.istore 4, 2) := by decide +kernel
theorem dX6_pin_23 : decode cX6_pin 23 = .ok (.aload_n 0, 1) := by decide +kernel
theorem dX6_pin_24 : decode cX6_pin 24 = .ok (.getfield 49, 3) := by decide +kernel
theorem dX6_pin_27 : decode cX6_pin 27 = .ok (.iload 4, 2) := by decide +kernel
theorem dX6_pin_29 : decode cX6_pin 29 = .ok (.invokevirtual 118, 3) := by decide +kernel
theorem dX6_pin_32 : decode cX6_pin 32 = .ok (.istore 5, 2) := by decide +kernel
theorem dX6_pin_34 : decode cX6_pin 34 = .ok (.iload 5, 2) := by decide +kernel
theorem dX6_pin_36 : decode cX6_pin 36 = .ok (.iconst (-1), 1) := by decide +kernel
theorem dX6_pin_37 : decode cX6_pin 37 = .ok (.if_icmp .eq 20, 3) := by decide +kernel
theorem dX6_pin_40 : decode cX6_pin 40 = .ok (.aload_n 0, 1) := by decide +kernel
theorem dX6_pin_41 : decode cX6_pin 41 = .ok (.getfield 49, 3) := by decide +kernel
theorem dX6_pin_44 : decode cX6_pin 44 = .ok (.getfield 146, 3) := by decide +kernel
theorem dX6_pin_47 : decode cX6_pin 47 = .ok (.iload 5, 2) := by decide +kernel
theorem dX6_pin_49 : decode cX6_pin 49 = .ok (.baload, 1) := by decide +kernel
theorem dX6_pin_50 : decode cX6_pin 50 = .ok (.ifCond .eq 7, 3) := by decide +kernel
theorem dX6_pin_53 : decode cX6_pin 53 = .ok (.iconst 1, 1) := by decide +kernel
theorem dX6_pin_54 : decode cX6_pin 54 = .ok (.goto 4, 3) := by decide +kernel
theorem dX6_pin_57 : decode cX6_pin 57 = .ok (.iconst 0, 1) := by decide +kernel
theorem dX6_pin_58 : decode cX6_pin 58 = .ok (.istore 6, 2) := by decide +kernel
theorem dX6_pin_60 : decode cX6_pin 60 = .ok (.iload_n 3, 1) := by decide +kernel
theorem dX6_pin_61 : decode cX6_pin 61 = .ok (.ifCond .ne 16, 3) := by decide +kernel
theorem dX6_pin_64 : decode cX6_pin 64 = .ok (.aload_n 0, 1) := by decide +kernel
theorem dX6_pin_65 : decode cX6_pin 65 = .ok (.getfield 49, 3) := by decide +kernel
theorem dX6_pin_68 : decode cX6_pin 68 = .ok (.iload 5, 2) := by decide +kernel
theorem dX6_pin_70 : decode cX6_pin 70 = .ok (.iconst 0, 1) := by decide +kernel
theorem dX6_pin_71 : decode cX6_pin 71 = .ok (.invokevirtual 171, 3) := by decide +kernel
theorem dX6_pin_74 : decode cX6_pin 74 = .ok (.iload 6, 2) := by decide +kernel
theorem dX6_pin_76 : decode cX6_pin 76 = .ok (.ireturn, 1) := by decide +kernel
theorem dX6_pin_77 : decode cX6_pin 77 = .ok (.iload 6, 2) := by decide +kernel
theorem dX6_pin_79 : decode cX6_pin 79 = .ok (.ifCond .ne 26, 3) := by decide +kernel
theorem dX6_pin_82 : decode cX6_pin 82 = .ok (.aload_n 0, 1) := by decide +kernel
theorem dX6_pin_83 : decode cX6_pin 83 = .ok (.getfield 49, 3) := by decide +kernel
theorem dX6_pin_86 : decode cX6_pin 86 = .ok (.getfield 175, 3) := by decide +kernel
theorem dX6_pin_89 : decode cX6_pin 89 = .ok (.aload_n 0, 1) := by decide +kernel
theorem dX6_pin_90 : decode cX6_pin 90 = .ok (.getfield 49, 3) := by decide +kernel
theorem dX6_pin_93 : decode cX6_pin 93 = .ok (.getfield 136, 3) := by decide +kernel
theorem dX6_pin_96 : decode cX6_pin 96 = .ok (.iconst 2, 1) := by decide +kernel
theorem dX6_pin_97 : decode cX6_pin 97 = .ok (.idiv, 1) := by decide +kernel
theorem dX6_pin_98 : decode cX6_pin 98 = .ok (.if_icmp .lt 7, 3) := by decide +kernel
theorem dX6_pin_101 : decode cX6_pin 101 = .ok (.iconst 1, 1) := by decide +kernel
theorem dX6_pin_102 : decode cX6_pin 102 = .ok (.goto 4, 3) := by decide +kernel
theorem dX6_pin_105 : decode cX6_pin 105 = .ok (.iconst 0, 1) := by decide +kernel
theorem dX6_pin_106 : decode cX6_pin 106 = .ok (.istore 7, 2) := by decide +kernel
theorem dX6_pin_108 : decode cX6_pin 108 = .ok (.iload 7, 2) := by decide +kernel
theorem dX6_pin_110 : decode cX6_pin 110 = .ok (.ifCond .ne 19, 3) := by decide +kernel
theorem dX6_pin_113 : decode cX6_pin 113 = .ok (.iload_n 2, 1) := by decide +kernel
theorem dX6_pin_114 : decode cX6_pin 114 = .ok (.aload_n 0, 1) := by decide +kernel
theorem dX6_pin_115 : decode cX6_pin 115 = .ok (.getfield 42, 3) := by decide +kernel
theorem dX6_pin_118 : decode cX6_pin 118 = .ok (.getfield 73, 3) := by decide +kernel
theorem dX6_pin_121 : decode cX6_pin 121 = .ok (.iload_n 1, 1) := by decide +kernel
theorem dX6_pin_122 : decode cX6_pin 122 = .ok (.iaload, 1) := by decide +kernel
theorem dX6_pin_123 : decode cX6_pin 123 = .ok (.invokestatic 102, 3) := by decide +kernel
theorem dX6_pin_126 : decode cX6_pin 126 = .ok (.if_icmp .lt 5, 3) := by decide +kernel
theorem dX6_pin_129 : decode cX6_pin 129 = .ok (.iconst 0, 1) := by decide +kernel
theorem dX6_pin_130 : decode cX6_pin 130 = .ok (.ireturn, 1) := by decide +kernel
theorem dX6_pin_131 : decode cX6_pin 131 = .ok (.aload_n 0, 1) := by decide +kernel
theorem dX6_pin_132 : decode cX6_pin 132 = .ok (.getfield 35, 3) := by decide +kernel
theorem dX6_pin_135 : decode cX6_pin 135 = .ok (.invokevirtual 70, 3) := by decide +kernel
theorem dX6_pin_138 : decode cX6_pin 138 = .ok (.aload_n 0, 1) := by decide +kernel
theorem dX6_pin_139 : decode cX6_pin 139 = .ok (.getfield 49, 3) := by decide +kernel
theorem dX6_pin_142 : decode cX6_pin 142 = .ok (.aload_n 0, 1) := by decide +kernel
theorem dX6_pin_143 : decode cX6_pin 143 = .ok (.iload 4, 2) := by decide +kernel
theorem dX6_pin_145 : decode cX6_pin 145 = .ok (.invokevirtual 178, 3) := by decide +kernel
theorem dX6_pin_148 : decode cX6_pin 148 = .ok (.iconst 1, 1) := by decide +kernel
theorem dX6_pin_149 : decode cX6_pin 149 = .ok (.invokevirtual 171, 3) := by decide +kernel
theorem dX6_pin_152 : decode cX6_pin 152 = .ok (.iload 6, 2) := by decide +kernel
theorem dX6_pin_154 : decode cX6_pin 154 = .ok (.ireturn, 1) := by decide +kernel
theorem dX6_size_0 : decode cX6_size 0 = .ok (.iload_n 1, 1) := by decide +kernel
theorem dX6_size_1 : decode cX6_size 1 = .ok (.invokestatic 66, 3) := by decide +kernel
theorem dX6_size_4 : decode cX6_size 4 = .ok (.ifCond .eq 15, 3) := by decide +kernel
theorem dX6_size_7 : decode cX6_size 7 = .ok (.aload_n 0, 1) := by decide +kernel
theorem dX6_size_8 : decode cX6_size 8 = .ok (.getfield 42, 3) := by decide +kernel
theorem dX6_size_11 : decode cX6_size 11 = .ok (.getfield 73, 3) := by decide +kernel
theorem dX6_size_14 : decode cX6_size 14 = .ok (.iload_n 1, 1) := by decide +kernel
theorem dX6_size_15 : decode cX6_size 15 = .ok (.iaload, 1) := by decide +kernel
theorem dX6_size_16 : decode cX6_size 16 = .ok (.goto 5, 3) := by decide +kernel
theorem dX6_size_19 : decode cX6_size 19 = .ok (.bipush (-2), 2) := by decide +kernel
theorem dX6_size_21 : decode cX6_size 21 = .ok (.ireturn, 1) := by decide +kernel
theorem dX6_page_0 : decode cX6_page 0 = .ok (.iload_n 1, 1) := by decide +kernel
theorem dX6_page_1 : decode cX6_page 1 = .ok (.invokestatic 66, 3) := by decide +kernel
theorem dX6_page_4 : decode cX6_page 4 = .ok (.ifCond .eq 10, 3) := by decide +kernel
theorem dX6_page_7 : decode cX6_page 7 = .ok (.iload_n 2, 1) := by decide +kernel
theorem dX6_page_8 : decode cX6_page 8 = .ok (.invokestatic 115, 3) := by decide +kernel
theorem dX6_page_11 : decode cX6_page 11 = .ok (.ifCond .ne 6, 3) := by decide +kernel
theorem dX6_page_14 : decode cX6_page 14 = .ok (.bipush (-2), 2) := by decide +kernel
theorem dX6_page_16 : decode cX6_page 16 = .ok (.ireturn, 1) := by decide +kernel
theorem dX6_page_17 : decode cX6_page 17 = .ok (.iload_n 1, 1) := by decide +kernel
theorem dX6_page_18 : decode cX6_page 18 = .ok (.iload_n 2, 1) := by decide +kernel
theorem dX6_page_19 : decode cX6_page 19 = .ok (.invokestatic 105, 3) := by decide +kernel
theorem dX6_page_22 : decode cX6_page 22 = .ok (.istore 4, 2) := by decide +kernel
theorem dX6_page_24 : decode cX6_page 24 = .ok (.aload_n 0, 1) := by decide +kernel
theorem dX6_page_25 : decode cX6_page 25 = .ok (.getfield 49, 3) := by decide +kernel
theorem dX6_page_28 : decode cX6_page 28 = .ok (.iload 4, 2) := by decide +kernel
theorem dX6_page_30 : decode cX6_page 30 = .ok (.invokevirtual 118, 3) := by decide +kernel
theorem dX6_page_33 : decode cX6_page 33 = .ok (.istore 5, 2) := by decide +kernel
theorem dX6_page_35 : decode cX6_page 35 = .ok (.iload_n 3, 1) := by decide +kernel
theorem dX6_page_36 : decode cX6_page 36 = .ok (.tableswitch 175 0 7 #[48, 51, 59, 80, 90, 100, 125, 150], 48) := by decide +kernel
theorem dX6_page_84 : decode cX6_page 84 = .ok (.iload 5, 2) := by decide +kernel
theorem dX6_page_86 : decode cX6_page 86 = .ok (.ireturn, 1) := by decide +kernel
theorem dX6_page_87 : decode cX6_page 87 = .ok (.aload_n 0, 1) := by decide +kernel
theorem dX6_page_88 : decode cX6_page 88 = .ok (.getfield 9, 3) := by decide +kernel
theorem dX6_page_91 : decode cX6_page 91 = .ok (.iload 4, 2) := by decide +kernel
theorem dX6_page_93 : decode cX6_page 93 = .ok (.iaload, 1) := by decide +kernel
theorem dX6_page_94 : decode cX6_page 94 = .ok (.ireturn, 1) := by decide +kernel
theorem dX6_page_95 : decode cX6_page 95 = .ok (.iload 5, 2) := by decide +kernel
theorem dX6_page_97 : decode cX6_page 97 = .ok (.iconst (-1), 1) := by decide +kernel
theorem dX6_page_98 : decode cX6_page 98 = .ok (.if_icmp .ne 7, 3) := by decide +kernel
theorem dX6_page_101 : decode cX6_page 101 = .ok (.iconst (-1), 1) := by decide +kernel
theorem dX6_page_102 : decode cX6_page 102 = .ok (.goto 13, 3) := by decide +kernel
theorem dX6_page_105 : decode cX6_page 105 = .ok (.aload_n 0, 1) := by decide +kernel
theorem dX6_page_106 : decode cX6_page 106 = .ok (.getfield 49, 3) := by decide +kernel
theorem dX6_page_109 : decode cX6_page 109 = .ok (.getfield 181, 3) := by decide +kernel
theorem dX6_page_112 : decode cX6_page 112 = .ok (.iload 5, 2) := by decide +kernel
theorem dX6_page_114 : decode cX6_page 114 = .ok (.iaload, 1) := by decide +kernel
theorem dX6_page_115 : decode cX6_page 115 = .ok (.ireturn, 1) := by decide +kernel
theorem dX6_page_116 : decode cX6_page 116 = .ok (.aload_n 0, 1) := by decide +kernel
theorem dX6_page_117 : decode cX6_page 117 = .ok (.getfield 56, 3) := by decide +kernel
theorem dX6_page_120 : decode cX6_page 120 = .ok (.iload 4, 2) := by decide +kernel
theorem dX6_page_122 : decode cX6_page 122 = .ok (.invokevirtual 184, 3) := by decide +kernel
theorem dX6_page_125 : decode cX6_page 125 = .ok (.ireturn, 1) := by decide +kernel
theorem dX6_page_126 : decode cX6_page 126 = .ok (.aload_n 0, 1) := by decide +kernel
theorem dX6_page_127 : decode cX6_page 127 = .ok (.getfield 49, 3) := by decide +kernel
theorem dX6_page_130 : decode cX6_page 130 = .ok (.iload 5, 2) := by decide +kernel
theorem dX6_page_132 : decode cX6_page 132 = .ok (.invokevirtual 187, 3) := by decide +kernel
theorem dX6_page_135 : decode cX6_page 135 = .ok (.ireturn, 1) := by decide +kernel
theorem dX6_page_136 : decode cX6_page 136 = .ok (.iload 5, 2) := by decide +kernel
theorem dX6_page_138 : decode cX6_page 138 = .ok (.iconst (-1), 1) := by decide +kernel
theorem dX6_page_139 : decode cX6_page 139 = .ok (.if_icmp .eq 20, 3) := by decide +kernel
theorem dX6_page_142 : decode cX6_page 142 = .ok (.aload_n 0, 1) := by decide +kernel
theorem dX6_page_143 : decode cX6_page 143 = .ok (.getfield 49, 3) := by decide +kernel
theorem dX6_page_146 : decode cX6_page 146 = .ok (.getfield 190, 3) := by decide +kernel
theorem dX6_page_149 : decode cX6_page 149 = .ok (.iload 5, 2) := by decide +kernel
theorem dX6_page_151 : decode cX6_page 151 = .ok (.baload, 1) := by decide +kernel
theorem dX6_page_152 : decode cX6_page 152 = .ok (.ifCond .eq 7, 3) := by decide +kernel
theorem dX6_page_155 : decode cX6_page 155 = .ok (.iconst 1, 1) := by decide +kernel
theorem dX6_page_156 : decode cX6_page 156 = .ok (.goto 4, 3) := by decide +kernel
theorem dX6_page_159 : decode cX6_page 159 = .ok (.iconst 0, 1) := by decide +kernel
theorem dX6_page_160 : decode cX6_page 160 = .ok (.ireturn, 1) := by decide +kernel
theorem dX6_page_161 : decode cX6_page 161 = .ok (.iload 5, 2) := by decide +kernel
theorem dX6_page_163 : decode cX6_page 163 = .ok (.iconst (-1), 1) := by decide +kernel
theorem dX6_page_164 : decode cX6_page 164 = .ok (.if_icmp .eq 20, 3) := by decide +kernel
theorem dX6_page_167 : decode cX6_page 167 = .ok (.aload_n 0, 1) := by decide +kernel
theorem dX6_page_168 : decode cX6_page 168 = .ok (.getfield 49, 3) := by decide +kernel
theorem dX6_page_171 : decode cX6_page 171 = .ok (.getfield 146, 3) := by decide +kernel
theorem dX6_page_174 : decode cX6_page 174 = .ok (.iload 5, 2) := by decide +kernel
theorem dX6_page_176 : decode cX6_page 176 = .ok (.baload, 1) := by decide +kernel
theorem dX6_page_177 : decode cX6_page 177 = .ok (.ifCond .eq 7, 3) := by decide +kernel
theorem dX6_page_180 : decode cX6_page 180 = .ok (.iconst 1, 1) := by decide +kernel
theorem dX6_page_181 : decode cX6_page 181 = .ok (.goto 4, 3) := by decide +kernel
theorem dX6_page_184 : decode cX6_page 184 = .ok (.iconst 0, 1) := by decide +kernel
theorem dX6_page_185 : decode cX6_page 185 = .ok (.ireturn, 1) := by decide +kernel
theorem dX6_page_186 : decode cX6_page 186 = .ok (.iload 5, 2) := by decide +kernel
theorem dX6_page_188 : decode cX6_page 188 = .ok (.iconst (-1), 1) := by decide +kernel
theorem dX6_page_189 : decode cX6_page 189 = .ok (.if_icmp .eq 20, 3) := by decide +kernel
theorem dX6_page_192 : decode cX6_page 192 = .ok (.aload_n 0, 1) := by decide +kernel
theorem dX6_page_193 : decode cX6_page 193 = .ok (.getfield 49, 3) := by decide +kernel
theorem dX6_page_196 : decode cX6_page 196 = .ok (.getfield 193, 3) := by decide +kernel
theorem dX6_page_199 : decode cX6_page 199 = .ok (.iload 5, 2) := by decide +kernel
theorem dX6_page_201 : decode cX6_page 201 = .ok (.baload, 1) := by decide +kernel
theorem dX6_page_202 : decode cX6_page 202 = .ok (.ifCond .eq 7, 3) := by decide +kernel
theorem dX6_page_205 : decode cX6_page 205 = .ok (.iconst 1, 1) := by decide +kernel
theorem dX6_page_206 : decode cX6_page 206 = .ok (.goto 4, 3) := by decide +kernel
theorem dX6_page_209 : decode cX6_page 209 = .ok (.iconst 0, 1) := by decide +kernel
theorem dX6_page_210 : decode cX6_page 210 = .ok (.ireturn, 1) := by decide +kernel
theorem dX6_page_211 : decode cX6_page 211 = .ok (.bipush (-2), 2) := by decide +kernel
theorem dX6_page_213 : decode cX6_page 213 = .ok (.ireturn, 1) := by decide +kernel
theorem dX6_next_0 : decode cX6_next 0 = .ok (.iload_n 1, 1) := by decide +kernel
theorem dX6_next_1 : decode cX6_next 1 = .ok (.invokestatic 66, 3) := by decide +kernel
theorem dX6_next_4 : decode cX6_next 4 = .ok (.ifCond .eq 19, 3) := by decide +kernel
theorem dX6_next_7 : decode cX6_next 7 = .ok (.iload_n 2, 1) := by decide +kernel
theorem dX6_next_8 : decode cX6_next 8 = .ok (.invokestatic 115, 3) := by decide +kernel
theorem dX6_next_11 : decode cX6_next 11 = .ok (.ifCond .eq 12, 3) := by decide +kernel
theorem dX6_next_14 : decode cX6_next 14 = .ok (.iload_n 3, 1) := by decide +kernel
theorem dX6_next_15 : decode cX6_next 15 = .ok (.ifCond .lt 8, 3) := by decide +kernel
theorem dX6_next_18 : decode cX6_next 18 = .ok (.iload_n 3, 1) := by decide +kernel
theorem dX6_next_19 : decode cX6_next 19 = .ok (.iconst 4, 1) := by decide +kernel
theorem dX6_next_20 : decode cX6_next 20 = .ok (.if_icmp .le 6, 3) := by decide +kernel
theorem dX6_next_23 : decode cX6_next 23 = .ok (.bipush (-2), 2) := by decide +kernel
theorem dX6_next_25 : decode cX6_next 25 = .ok (.ireturn, 1) := by decide +kernel
theorem dX6_next_26 : decode cX6_next 26 = .ok (.iload_n 2, 1) := by decide +kernel
theorem dX6_next_27 : decode cX6_next 27 = .ok (.istore 4, 2) := by decide +kernel
theorem dX6_next_29 : decode cX6_next 29 = .ok (.iload 4, 2) := by decide +kernel
theorem dX6_next_31 : decode cX6_next 31 = .ok (.sipush 256, 3) := by decide +kernel
theorem dX6_next_34 : decode cX6_next 34 = .ok (.if_icmp .ge 26, 3) := by decide +kernel
theorem dX6_next_37 : decode cX6_next 37 = .ok (.aload_n 0, 1) := by decide +kernel
theorem dX6_next_38 : decode cX6_next 38 = .ok (.iload_n 1, 1) := by decide +kernel
theorem dX6_next_39 : decode cX6_next 39 = .ok (.iload 4, 2) := by decide +kernel
theorem dX6_next_41 : decode cX6_next 41 = .ok (.invokestatic 105, 3) := by decide +kernel
theorem dX6_next_44 : decode cX6_next 44 = .ok (.iload_n 3, 1) := by decide +kernel
theorem dX6_next_45 : decode cX6_next 45 = .ok (.invokevirtual 196, 3) := by decide +kernel
theorem dX6_next_48 : decode cX6_next 48 = .ok (.ifCond .eq 6, 3) := by decide +kernel
theorem dX6_next_51 : decode cX6_next 51 = .ok (.iload 4, 2) := by decide +kernel
theorem dX6_next_53 : decode cX6_next 53 = .ok (.ireturn, 1) := by decide +kernel
theorem dX6_next_54 : decode cX6_next 54 = .ok (.iinc 4 1, 3) := by decide +kernel
theorem dX6_next_57 : decode cX6_next 57 = .ok (.goto (-28), 3) := by decide +kernel
theorem dX6_next_60 : decode cX6_next 60 = .ok (.iconst (-1), 1) := by decide +kernel
theorem dX6_next_61 : decode cX6_next 61 = .ok (.ireturn, 1) := by decide +kernel
theorem dX6_tree_0 : decode cX6_tree 0 = .ok (.iload_n 1, 1) := by decide +kernel
theorem dX6_tree_1 : decode cX6_tree 1 = .ok (.invokestatic 66, 3) := by decide +kernel
theorem dX6_tree_4 : decode cX6_tree 4 = .ok (.ifCond .ne 6, 3) := by decide +kernel
theorem dX6_tree_7 : decode cX6_tree 7 = .ok (.bipush (-2), 2) := by decide +kernel
theorem dX6_tree_9 : decode cX6_tree 9 = .ok (.ireturn, 1) := by decide +kernel
theorem dX6_tree_10 : decode cX6_tree 10 = .ok (.iload_n 2, 1) := by decide +kernel
theorem dX6_tree_11 : decode cX6_tree 11 = .ok (.tableswitch 85 0 5 #[37, 43, 49, 55, 65, 75], 37) := by decide +kernel
theorem dX6_tree_48 : decode cX6_tree 48 = .ok (.aload_n 0, 1) := by decide +kernel
theorem dX6_tree_49 : decode cX6_tree 49 = .ok (.iload_n 1, 1) := by decide +kernel
theorem dX6_tree_50 : decode cX6_tree 50 = .ok (.invokevirtual 199, 3) := by decide +kernel
theorem dX6_tree_53 : decode cX6_tree 53 = .ok (.ireturn, 1) := by decide +kernel
theorem dX6_tree_54 : decode cX6_tree 54 = .ok (.aload_n 0, 1) := by decide +kernel
theorem dX6_tree_55 : decode cX6_tree 55 = .ok (.iload_n 1, 1) := by decide +kernel
theorem dX6_tree_56 : decode cX6_tree 56 = .ok (.invokevirtual 202, 3) := by decide +kernel
theorem dX6_tree_59 : decode cX6_tree 59 = .ok (.ireturn, 1) := by decide +kernel
theorem dX6_tree_60 : decode cX6_tree 60 = .ok (.aload_n 0, 1) := by decide +kernel
theorem dX6_tree_61 : decode cX6_tree 61 = .ok (.iload_n 1, 1) := by decide +kernel
theorem dX6_tree_62 : decode cX6_tree 62 = .ok (.invokevirtual 205, 3) := by decide +kernel
theorem dX6_tree_65 : decode cX6_tree 65 = .ok (.ireturn, 1) := by decide +kernel
theorem dX6_tree_66 : decode cX6_tree 66 = .ok (.aload_n 0, 1) := by decide +kernel
theorem dX6_tree_67 : decode cX6_tree 67 = .ok (.getfield 42, 3) := by decide +kernel
theorem dX6_tree_70 : decode cX6_tree 70 = .ok (.getfield 208, 3) := by decide +kernel
theorem dX6_tree_73 : decode cX6_tree 73 = .ok (.iload_n 1, 1) := by decide +kernel
theorem dX6_tree_74 : decode cX6_tree 74 = .ok (.iaload, 1) := by decide +kernel
theorem dX6_tree_75 : decode cX6_tree 75 = .ok (.ireturn, 1) := by decide +kernel
theorem dX6_tree_76 : decode cX6_tree 76 = .ok (.aload_n 0, 1) := by decide +kernel
theorem dX6_tree_77 : decode cX6_tree 77 = .ok (.getfield 42, 3) := by decide +kernel
theorem dX6_tree_80 : decode cX6_tree 80 = .ok (.getfield 211, 3) := by decide +kernel
theorem dX6_tree_83 : decode cX6_tree 83 = .ok (.iload_n 1, 1) := by decide +kernel
theorem dX6_tree_84 : decode cX6_tree 84 = .ok (.iaload, 1) := by decide +kernel
theorem dX6_tree_85 : decode cX6_tree 85 = .ok (.ireturn, 1) := by decide +kernel
theorem dX6_tree_86 : decode cX6_tree 86 = .ok (.aload_n 0, 1) := by decide +kernel
theorem dX6_tree_87 : decode cX6_tree 87 = .ok (.getfield 42, 3) := by decide +kernel
theorem dX6_tree_90 : decode cX6_tree 90 = .ok (.getfield 127, 3) := by decide +kernel
theorem dX6_tree_93 : decode cX6_tree 93 = .ok (.iload_n 1, 1) := by decide +kernel
theorem dX6_tree_94 : decode cX6_tree 94 = .ok (.iaload, 1) := by decide +kernel
theorem dX6_tree_95 : decode cX6_tree 95 = .ok (.ireturn, 1) := by decide +kernel
theorem dX6_tree_96 : decode cX6_tree 96 = .ok (.bipush (-2), 2) := by decide +kernel
theorem dX6_tree_98 : decode cX6_tree 98 = .ok (.ireturn, 1) := by decide +kernel
theorem dX6_listed_0 : decode cX6_listed 0 = .ok (.iload_n 1, 1) := by decide +kernel
theorem dX6_listed_1 : decode cX6_listed 1 = .ok (.ifCond .eq 17, 3) := by decide +kernel
theorem dX6_listed_4 : decode cX6_listed 4 = .ok (.aload_n 0, 1) := by decide +kernel
theorem dX6_listed_5 : decode cX6_listed 5 = .ok (.getfield 49, 3) := by decide +kernel
theorem dX6_listed_8 : decode cX6_listed 8 = .ok (.getfield 214, 3) := by decide +kernel
theorem dX6_listed_11 : decode cX6_listed 11 = .ok (.iload_n 2, 1) := by decide +kernel
theorem dX6_listed_12 : decode cX6_listed 12 = .ok (.invokevirtual 218, 3) := by decide +kernel
theorem dX6_listed_15 : decode cX6_listed 15 = .ok (.goto 14, 3) := by decide +kernel
theorem dX6_listed_18 : decode cX6_listed 18 = .ok (.aload_n 0, 1) := by decide +kernel
theorem dX6_listed_19 : decode cX6_listed 19 = .ok (.getfield 49, 3) := by decide +kernel
theorem dX6_listed_22 : decode cX6_listed 22 = .ok (.getfield 223, 3) := by decide +kernel
theorem dX6_listed_25 : decode cX6_listed 25 = .ok (.iload_n 2, 1) := by decide +kernel
theorem dX6_listed_26 : decode cX6_listed 26 = .ok (.invokevirtual 218, 3) := by decide +kernel
theorem dX6_listed_29 : decode cX6_listed 29 = .ok (.istore_n 3, 1) := by decide +kernel
theorem dX6_listed_30 : decode cX6_listed 30 = .ok (.iload_n 3, 1) := by decide +kernel
theorem dX6_listed_31 : decode cX6_listed 31 = .ok (.iconst (-1), 1) := by decide +kernel
theorem dX6_listed_32 : decode cX6_listed 32 = .ok (.if_icmp .ne 7, 3) := by decide +kernel
theorem dX6_listed_35 : decode cX6_listed 35 = .ok (.iconst (-1), 1) := by decide +kernel
theorem dX6_listed_36 : decode cX6_listed 36 = .ok (.goto 12, 3) := by decide +kernel
theorem dX6_listed_39 : decode cX6_listed 39 = .ok (.aload_n 0, 1) := by decide +kernel
theorem dX6_listed_40 : decode cX6_listed 40 = .ok (.getfield 49, 3) := by decide +kernel
theorem dX6_listed_43 : decode cX6_listed 43 = .ok (.getfield 226, 3) := by decide +kernel
theorem dX6_listed_46 : decode cX6_listed 46 = .ok (.iload_n 3, 1) := by decide +kernel
theorem dX6_listed_47 : decode cX6_listed 47 = .ok (.iaload, 1) := by decide +kernel
theorem dX6_listed_48 : decode cX6_listed 48 = .ok (.ireturn, 1) := by decide +kernel
theorem dX6_disk_0 : decode cX6_disk 0 = .ok (.aload_n 0, 1) := by decide +kernel
theorem dX6_disk_1 : decode cX6_disk 1 = .ok (.getfield 35, 3) := by decide +kernel
theorem dX6_disk_4 : decode cX6_disk 4 = .ok (.iload_n 1, 1) := by decide +kernel
theorem dX6_disk_5 : decode cX6_disk 5 = .ok (.invokevirtual 165, 3) := by decide +kernel
theorem dX6_disk_8 : decode cX6_disk 8 = .ok (.ifCond .eq 13, 3) := by decide +kernel
theorem dX6_disk_11 : decode cX6_disk 11 = .ok (.iload_n 2, 1) := by decide +kernel
theorem dX6_disk_12 : decode cX6_disk 12 = .ok (.ifCond .lt 9, 3) := by decide +kernel
theorem dX6_disk_15 : decode cX6_disk 15 = .ok (.iload_n 2, 1) := by decide +kernel
theorem dX6_disk_16 : decode cX6_disk 16 = .ok (.bipush 64, 2) := by decide +kernel
theorem dX6_disk_18 : decode cX6_disk 18 = .ok (.if_icmp .lt 6, 3) := by decide +kernel
theorem dX6_disk_21 : decode cX6_disk 21 = .ok (.bipush (-2), 2) := by decide +kernel
theorem dX6_disk_23 : decode cX6_disk 23 = .ok (.ireturn, 1) := by decide +kernel
theorem dX6_disk_24 : decode cX6_disk 24 = .ok (.aload_n 0, 1) := by decide +kernel
theorem dX6_disk_25 : decode cX6_disk 25 = .ok (.getfield 35, 3) := by decide +kernel
theorem dX6_disk_28 : decode cX6_disk 28 = .ok (.getfield 229, 3) := by decide +kernel
theorem dX6_disk_31 : decode cX6_disk 31 = .ok (.iload_n 1, 1) := by decide +kernel
theorem dX6_disk_32 : decode cX6_disk 32 = .ok (.bipush 64, 2) := by decide +kernel
theorem dX6_disk_34 : decode cX6_disk 34 = .ok (.imul, 1) := by decide +kernel
theorem dX6_disk_35 : decode cX6_disk 35 = .ok (.iload_n 2, 1) := by decide +kernel
theorem dX6_disk_36 : decode cX6_disk 36 = .ok (.iadd, 1) := by decide +kernel
theorem dX6_disk_37 : decode cX6_disk 37 = .ok (.invokevirtual 86, 3) := by decide +kernel
theorem dX6_disk_40 : decode cX6_disk 40 = .ok (.ireturn, 1) := by decide +kernel
theorem dX6_run_0 : decode cX6_run 0 = .ok (.iload_n 2, 1) := by decide +kernel
theorem dX6_run_1 : decode cX6_run 1 = .ok (.ifCond .lt 8, 3) := by decide +kernel
theorem dX6_run_4 : decode cX6_run 4 = .ok (.iload_n 2, 1) := by decide +kernel
theorem dX6_run_5 : decode cX6_run 5 = .ok (.iconst 2, 1) := by decide +kernel
theorem dX6_run_6 : decode cX6_run 6 = .ok (.if_icmp .le 6, 3) := by decide +kernel
theorem dX6_run_9 : decode cX6_run 9 = .ok (.bipush (-2), 2) := by decide +kernel
theorem dX6_run_11 : decode cX6_run 11 = .ok (.ireturn, 1) := by decide +kernel
theorem dX6_run_12 : decode cX6_run 12 = .ok (.iload_n 1, 1) := by decide +kernel
theorem dX6_run_13 : decode cX6_run 13 = .ok (.ifCond .lt 14, 3) := by decide +kernel
theorem dX6_run_16 : decode cX6_run 16 = .ok (.iload_n 1, 1) := by decide +kernel
theorem dX6_run_17 : decode cX6_run 17 = .ok (.aload_n 0, 1) := by decide +kernel
theorem dX6_run_18 : decode cX6_run 18 = .ok (.getfield 35, 3) := by decide +kernel
theorem dX6_run_21 : decode cX6_run 21 = .ok (.getfield 232, 3) := by decide +kernel
theorem dX6_run_24 : decode cX6_run 24 = .ok (.if_icmp .lt 5, 3) := by decide +kernel
theorem dX6_run_27 : decode cX6_run 27 = .ok (.iconst (-1), 1) := by decide +kernel
theorem dX6_run_28 : decode cX6_run 28 = .ok (.ireturn, 1) := by decide +kernel
theorem dX6_run_29 : decode cX6_run 29 = .ok (.iload_n 2, 1) := by decide +kernel
theorem dX6_run_30 : decode cX6_run 30 = .ok (.lookupswitch 46 #[(0, 26), (1, 36)], 26) := by decide +kernel
theorem dX6_run_56 : decode cX6_run 56 = .ok (.aload_n 0, 1) := by decide +kernel
theorem dX6_run_57 : decode cX6_run 57 = .ok (.getfield 35, 3) := by decide +kernel
theorem dX6_run_60 : decode cX6_run 60 = .ok (.getfield 235, 3) := by decide +kernel
theorem dX6_run_63 : decode cX6_run 63 = .ok (.iload_n 1, 1) := by decide +kernel
theorem dX6_run_64 : decode cX6_run 64 = .ok (.iaload, 1) := by decide +kernel
theorem dX6_run_65 : decode cX6_run 65 = .ok (.ireturn, 1) := by decide +kernel
theorem dX6_run_66 : decode cX6_run 66 = .ok (.aload_n 0, 1) := by decide +kernel
theorem dX6_run_67 : decode cX6_run 67 = .ok (.getfield 35, 3) := by decide +kernel
theorem dX6_run_70 : decode cX6_run 70 = .ok (.getfield 238, 3) := by decide +kernel
theorem dX6_run_73 : decode cX6_run 73 = .ok (.iload_n 1, 1) := by decide +kernel
theorem dX6_run_74 : decode cX6_run 74 = .ok (.iaload, 1) := by decide +kernel
theorem dX6_run_75 : decode cX6_run 75 = .ok (.ireturn, 1) := by decide +kernel
theorem dX6_run_76 : decode cX6_run 76 = .ok (.aload_n 0, 1) := by decide +kernel
theorem dX6_run_77 : decode cX6_run 77 = .ok (.getfield 35, 3) := by decide +kernel
theorem dX6_run_80 : decode cX6_run 80 = .ok (.getfield 241, 3) := by decide +kernel
theorem dX6_run_83 : decode cX6_run 83 = .ok (.iload_n 1, 1) := by decide +kernel
theorem dX6_run_84 : decode cX6_run 84 = .ok (.iaload, 1) := by decide +kernel
theorem dX6_run_85 : decode cX6_run 85 = .ok (.ireturn, 1) := by decide +kernel
theorem dX6_told_0 : decode cX6_told 0 = .ok (.iload_n 1, 1) := by decide +kernel
theorem dX6_told_1 : decode cX6_told 1 = .ok (.tableswitch 173 0 11 #[63, 85, 96, 104, 112, 120, 128, 136, 144, 152, 157, 165], 63) := by decide +kernel
theorem dX6_told_64 : decode cX6_told 64 = .ok (.aload_n 0, 1) := by decide +kernel
theorem dX6_told_65 : decode cX6_told 65 = .ok (.getfield 49, 3) := by decide +kernel
theorem dX6_told_68 : decode cX6_told 68 = .ok (.getfield 214, 3) := by decide +kernel
theorem dX6_told_71 : decode cX6_told 71 = .ok (.getfield 244, 3) := by decide +kernel
theorem dX6_told_74 : decode cX6_told 74 = .ok (.aload_n 0, 1) := by decide +kernel
theorem dX6_told_75 : decode cX6_told 75 = .ok (.getfield 49, 3) := by decide +kernel
theorem dX6_told_78 : decode cX6_told 78 = .ok (.getfield 223, 3) := by decide +kernel
theorem dX6_told_81 : decode cX6_told 81 = .ok (.getfield 244, 3) := by decide +kernel
theorem dX6_told_84 : decode cX6_told 84 = .ok (.iadd, 1) := by decide +kernel
theorem dX6_told_85 : decode cX6_told 85 = .ok (.ireturn, 1) := by decide +kernel
theorem dX6_told_86 : decode cX6_told 86 = .ok (.aload_n 0, 1) := by decide +kernel
theorem dX6_told_87 : decode cX6_told 87 = .ok (.getfield 49, 3) := by decide +kernel
theorem dX6_told_90 : decode cX6_told 90 = .ok (.getfield 214, 3) := by decide +kernel
theorem dX6_told_93 : decode cX6_told 93 = .ok (.getfield 244, 3) := by decide +kernel
theorem dX6_told_96 : decode cX6_told 96 = .ok (.ireturn, 1) := by decide +kernel
theorem dX6_told_97 : decode cX6_told 97 = .ok (.aload_n 0, 1) := by decide +kernel
theorem dX6_told_98 : decode cX6_told 98 = .ok (.getfield 49, 3) := by decide +kernel
theorem dX6_told_101 : decode cX6_told 101 = .ok (.getfield 153, 3) := by decide +kernel
theorem dX6_told_104 : decode cX6_told 104 = .ok (.ireturn, 1) := by decide +kernel
theorem dX6_told_105 : decode cX6_told 105 = .ok (.aload_n 0, 1) := by decide +kernel
theorem dX6_told_106 : decode cX6_told 106 = .ok (.getfield 49, 3) := by decide +kernel
theorem dX6_told_109 : decode cX6_told 109 = .ok (.getfield 175, 3) := by decide +kernel
theorem dX6_told_112 : decode cX6_told 112 = .ok (.ireturn, 1) := by decide +kernel
theorem dX6_told_113 : decode cX6_told 113 = .ok (.aload_n 0, 1) := by decide +kernel
theorem dX6_told_114 : decode cX6_told 114 = .ok (.getfield 56, 3) := by decide +kernel
theorem dX6_told_117 : decode cX6_told 117 = .ok (.getfield 247, 3) := by decide +kernel
theorem dX6_told_120 : decode cX6_told 120 = .ok (.ireturn, 1) := by decide +kernel
theorem dX6_told_121 : decode cX6_told 121 = .ok (.aload_n 0, 1) := by decide +kernel
theorem dX6_told_122 : decode cX6_told 122 = .ok (.getfield 56, 3) := by decide +kernel
theorem dX6_told_125 : decode cX6_told 125 = .ok (.getfield 248, 3) := by decide +kernel
theorem dX6_told_128 : decode cX6_told 128 = .ok (.ireturn, 1) := by decide +kernel
theorem dX6_told_129 : decode cX6_told 129 = .ok (.aload_n 0, 1) := by decide +kernel
theorem dX6_told_130 : decode cX6_told 130 = .ok (.getfield 35, 3) := by decide +kernel
theorem dX6_told_133 : decode cX6_told 133 = .ok (.getfield 251, 3) := by decide +kernel
theorem dX6_told_136 : decode cX6_told 136 = .ok (.ireturn, 1) := by decide +kernel
theorem dX6_told_137 : decode cX6_told 137 = .ok (.aload_n 0, 1) := by decide +kernel
theorem dX6_told_138 : decode cX6_told 138 = .ok (.getfield 35, 3) := by decide +kernel
theorem dX6_told_141 : decode cX6_told 141 = .ok (.getfield 254, 3) := by decide +kernel
theorem dX6_told_144 : decode cX6_told 144 = .ok (.ireturn, 1) := by decide +kernel
theorem dX6_told_145 : decode cX6_told 145 = .ok (.aload_n 0, 1) := by decide +kernel
theorem dX6_told_146 : decode cX6_told 146 = .ok (.getfield 35, 3) := by decide +kernel
theorem dX6_told_149 : decode cX6_told 149 = .ok (.getfield 257, 3) := by decide +kernel
theorem dX6_told_152 : decode cX6_told 152 = .ok (.ireturn, 1) := by decide +kernel
theorem dX6_told_153 : decode cX6_told 153 = .ok (.aload_n 0, 1) := by decide +kernel
theorem dX6_told_154 : decode cX6_told 154 = .ok (.getfield 29, 3) := by decide +kernel
theorem dX6_told_157 : decode cX6_told 157 = .ok (.ireturn, 1) := by decide +kernel
theorem dX6_told_158 : decode cX6_told 158 = .ok (.aload_n 0, 1) := by decide +kernel
theorem dX6_told_159 : decode cX6_told 159 = .ok (.getfield 35, 3) := by decide +kernel
theorem dX6_told_162 : decode cX6_told 162 = .ok (.getfield 232, 3) := by decide +kernel
theorem dX6_told_165 : decode cX6_told 165 = .ok (.ireturn, 1) := by decide +kernel
theorem dX6_told_166 : decode cX6_told 166 = .ok (.aload_n 0, 1) := by decide +kernel
theorem dX6_told_167 : decode cX6_told 167 = .ok (.getfield 42, 3) := by decide +kernel
theorem dX6_told_170 : decode cX6_told 170 = .ok (.invokevirtual 260, 3) := by decide +kernel
theorem dX6_told_173 : decode cX6_told 173 = .ok (.ireturn, 1) := by decide +kernel
theorem dX6_told_174 : decode cX6_told 174 = .ok (.bipush (-2), 2) := by decide +kernel
theorem dX6_told_176 : decode cX6_told 176 = .ok (.ireturn, 1) := by decide +kernel
theorem dX6_isFile_0 : decode cX6_isFile 0 = .ok (.iload_n 0, 1) := by decide +kernel
theorem dX6_isFile_1 : decode cX6_isFile 1 = .ok (.ifCond .lt 13, 3) := by decide +kernel
theorem dX6_isFile_4 : decode cX6_isFile 4 = .ok (.iload_n 0, 1) := by decide +kernel
theorem dX6_isFile_5 : decode cX6_isFile 5 = .ok (.bipush 12, 2) := by decide +kernel
theorem dX6_isFile_7 : decode cX6_isFile 7 = .ok (.if_icmp .ge 7, 3) := by decide +kernel
theorem dX6_isFile_10 : decode cX6_isFile 10 = .ok (.iconst 1, 1) := by decide +kernel
theorem dX6_isFile_11 : decode cX6_isFile 11 = .ok (.goto 4, 3) := by decide +kernel
theorem dX6_isFile_14 : decode cX6_isFile 14 = .ok (.iconst 0, 1) := by decide +kernel
theorem dX6_isFile_15 : decode cX6_isFile 15 = .ok (.ireturn, 1) := by decide +kernel
theorem dX6_isPage_0 : decode cX6_isPage 0 = .ok (.iload_n 0, 1) := by decide +kernel
theorem dX6_isPage_1 : decode cX6_isPage 1 = .ok (.ifCond .lt 14, 3) := by decide +kernel
theorem dX6_isPage_4 : decode cX6_isPage 4 = .ok (.iload_n 0, 1) := by decide +kernel
theorem dX6_isPage_5 : decode cX6_isPage 5 = .ok (.sipush 256, 3) := by decide +kernel
theorem dX6_isPage_8 : decode cX6_isPage 8 = .ok (.if_icmp .ge 7, 3) := by decide +kernel
theorem dX6_isPage_11 : decode cX6_isPage 11 = .ok (.iconst 1, 1) := by decide +kernel
theorem dX6_isPage_12 : decode cX6_isPage 12 = .ok (.goto 4, 3) := by decide +kernel
theorem dX6_isPage_15 : decode cX6_isPage 15 = .ok (.iconst 0, 1) := by decide +kernel
theorem dX6_isPage_16 : decode cX6_isPage 16 = .ok (.ireturn, 1) := by decide +kernel
theorem dX6_isStretch_0 : decode cX6_isStretch 0 = .ok (.iload_n 0, 1) := by decide +kernel
theorem dX6_isStretch_1 : decode cX6_isStretch 1 = .ok (.invokestatic 66, 3) := by decide +kernel
theorem dX6_isStretch_4 : decode cX6_isStretch 4 = .ok (.ifCond .eq 20, 3) := by decide +kernel
theorem dX6_isStretch_7 : decode cX6_isStretch 7 = .ok (.iload_n 1, 1) := by decide +kernel
theorem dX6_isStretch_8 : decode cX6_isStretch 8 = .ok (.ifCond .lt 16, 3) := by decide +kernel
theorem dX6_isStretch_11 : decode cX6_isStretch 11 = .ok (.iload_n 1, 1) := by decide +kernel
theorem dX6_isStretch_12 : decode cX6_isStretch 12 = .ok (.sipush 16384, 3) := by decide +kernel
theorem dX6_isStretch_15 : decode cX6_isStretch 15 = .ok (.iload_n 2, 1) := by decide +kernel
theorem dX6_isStretch_16 : decode cX6_isStretch 16 = .ok (.isub, 1) := by decide +kernel
theorem dX6_isStretch_17 : decode cX6_isStretch 17 = .ok (.if_icmp .gt 7, 3) := by decide +kernel
theorem dX6_isStretch_20 : decode cX6_isStretch 20 = .ok (.iconst 1, 1) := by decide +kernel
theorem dX6_isStretch_21 : decode cX6_isStretch 21 = .ok (.goto 4, 3) := by decide +kernel
theorem dX6_isStretch_24 : decode cX6_isStretch 24 = .ok (.iconst 0, 1) := by decide +kernel
theorem dX6_isStretch_25 : decode cX6_isStretch 25 = .ok (.ireturn, 1) := by decide +kernel
theorem dX6_spotOf_0 : decode cX6_spotOf 0 = .ok (.iload_n 0, 1) := by decide +kernel
theorem dX6_spotOf_1 : decode cX6_spotOf 1 = .ok (.sipush 256, 3) := by decide +kernel
theorem dX6_spotOf_4 : decode cX6_spotOf 4 = .ok (.imul, 1) := by decide +kernel
theorem dX6_spotOf_5 : decode cX6_spotOf 5 = .ok (.iload_n 1, 1) := by decide +kernel
theorem dX6_spotOf_6 : decode cX6_spotOf 6 = .ok (.iadd, 1) := by decide +kernel
theorem dX6_spotOf_7 : decode cX6_spotOf 7 = .ok (.ireturn, 1) := by decide +kernel
theorem dX6_pagesIn_0 : decode cX6_pagesIn 0 = .ok (.iload_n 0, 1) := by decide +kernel
theorem dX6_pagesIn_1 : decode cX6_pagesIn 1 = .ok (.bipush 64, 2) := by decide +kernel
theorem dX6_pagesIn_3 : decode cX6_pagesIn 3 = .ok (.iadd, 1) := by decide +kernel
theorem dX6_pagesIn_4 : decode cX6_pagesIn 4 = .ok (.iconst 1, 1) := by decide +kernel
theorem dX6_pagesIn_5 : decode cX6_pagesIn 5 = .ok (.isub, 1) := by decide +kernel
theorem dX6_pagesIn_6 : decode cX6_pagesIn 6 = .ok (.bipush 64, 2) := by decide +kernel
theorem dX6_pagesIn_8 : decode cX6_pagesIn 8 = .ok (.idiv, 1) := by decide +kernel
theorem dX6_pagesIn_9 : decode cX6_pagesIn 9 = .ok (.ireturn, 1) := by decide +kernel
theorem dX6_readPage_0 : decode cX6_readPage 0 = .ok (.iload_n 1, 1) := by decide +kernel
theorem dX6_readPage_1 : decode cX6_readPage 1 = .ok (.iload_n 2, 1) := by decide +kernel
theorem dX6_readPage_2 : decode cX6_readPage 2 = .ok (.invokestatic 105, 3) := by decide +kernel
theorem dX6_readPage_5 : decode cX6_readPage 5 = .ok (.istore 5, 2) := by decide +kernel
theorem dX6_readPage_7 : decode cX6_readPage 7 = .ok (.aload_n 0, 1) := by decide +kernel
theorem dX6_readPage_8 : decode cX6_readPage 8 = .ok (.getfield 49, 3) := by decide +kernel
theorem dX6_readPage_11 : decode cX6_readPage 11 = .ok (.iload 5, 2) := by decide +kernel
theorem dX6_readPage_13 : decode cX6_readPage 13 = .ok (.invokevirtual 118, 3) := by decide +kernel
theorem dX6_readPage_16 : decode cX6_readPage 16 = .ok (.iconst (-1), 1) := by decide +kernel
theorem dX6_readPage_17 : decode cX6_readPage 17 = .ok (.if_icmp .ne 7, 3) := by decide +kernel
theorem dX6_readPage_20 : decode cX6_readPage 20 = .ok (.iconst 1, 1) := by decide +kernel
theorem dX6_readPage_21 : decode cX6_readPage 21 = .ok (.goto 4, 3) := by decide +kernel
theorem dX6_readPage_24 : decode cX6_readPage 24 = .ok (.iconst 0, 1) := by decide +kernel
theorem dX6_readPage_25 : decode cX6_readPage 25 = .ok (.istore 6, 2) := by decide +kernel
theorem dX6_readPage_27 : decode cX6_readPage 27 = .ok (.aload_n 0, 1) := by decide +kernel
theorem dX6_readPage_28 : decode cX6_readPage 28 = .ok (.iload 5, 2) := by decide +kernel
theorem dX6_readPage_30 : decode cX6_readPage 30 = .ok (.invokevirtual 178, 3) := by decide +kernel
theorem dX6_readPage_33 : decode cX6_readPage 33 = .ok (.istore 7, 2) := by decide +kernel
theorem dX6_readPage_35 : decode cX6_readPage 35 = .ok (.iload 7, 2) := by decide +kernel
theorem dX6_readPage_37 : decode cX6_readPage 37 = .ok (.iconst (-1), 1) := by decide +kernel
theorem dX6_readPage_38 : decode cX6_readPage 38 = .ok (.if_icmp .ne 5, 3) := by decide +kernel
theorem dX6_readPage_41 : decode cX6_readPage 41 = .ok (.iconst (-1), 1) := by decide +kernel
theorem dX6_readPage_42 : decode cX6_readPage 42 = .ok (.ireturn, 1) := by decide +kernel
theorem dX6_readPage_43 : decode cX6_readPage 43 = .ok (.iload_n 2, 1) := by decide +kernel
theorem dX6_readPage_44 : decode cX6_readPage 44 = .ok (.bipush 64, 2) := by decide +kernel
theorem dX6_readPage_46 : decode cX6_readPage 46 = .ok (.imul, 1) := by decide +kernel
theorem dX6_readPage_47 : decode cX6_readPage 47 = .ok (.istore 8, 2) := by decide +kernel
theorem dX6_readPage_49 : decode cX6_readPage 49 = .ok (.iload 4, 2) := by decide +kernel
theorem dX6_readPage_51 : decode cX6_readPage 51 = .ok (.iload 8, 2) := by decide +kernel
theorem dX6_readPage_53 : decode cX6_readPage 53 = .ok (.bipush 64, 2) := by decide +kernel
theorem dX6_readPage_55 : decode cX6_readPage 55 = .ok (.iadd, 1) := by decide +kernel
theorem dX6_readPage_56 : decode cX6_readPage 56 = .ok (.invokestatic 76, 3) := by decide +kernel
theorem dX6_readPage_59 : decode cX6_readPage 59 = .ok (.istore 9, 2) := by decide +kernel
theorem dX6_readPage_61 : decode cX6_readPage 61 = .ok (.iload_n 3, 1) := by decide +kernel
theorem dX6_readPage_62 : decode cX6_readPage 62 = .ok (.iload 8, 2) := by decide +kernel
theorem dX6_readPage_64 : decode cX6_readPage 64 = .ok (.invokestatic 263, 3) := by decide +kernel
theorem dX6_readPage_67 : decode cX6_readPage 67 = .ok (.istore 10, 2) := by decide +kernel
theorem dX6_readPage_69 : decode cX6_readPage 69 = .ok (.iload 10, 2) := by decide +kernel
theorem dX6_readPage_71 : decode cX6_readPage 71 = .ok (.iload 9, 2) := by decide +kernel
theorem dX6_readPage_73 : decode cX6_readPage 73 = .ok (.if_icmp .ge 41, 3) := by decide +kernel
theorem dX6_readPage_76 : decode cX6_readPage 76 = .ok (.aload_n 0, 1) := by decide +kernel
theorem dX6_readPage_77 : decode cX6_readPage 77 = .ok (.getfield 18, 3) := by decide +kernel
theorem dX6_readPage_80 : decode cX6_readPage 80 = .ok (.iload 10, 2) := by decide +kernel
theorem dX6_readPage_82 : decode cX6_readPage 82 = .ok (.iload_n 3, 1) := by decide +kernel
theorem dX6_readPage_83 : decode cX6_readPage 83 = .ok (.isub, 1) := by decide +kernel
theorem dX6_readPage_84 : decode cX6_readPage 84 = .ok (.aload_n 0, 1) := by decide +kernel
theorem dX6_readPage_85 : decode cX6_readPage 85 = .ok (.getfield 49, 3) := by decide +kernel
theorem dX6_readPage_88 : decode cX6_readPage 88 = .ok (.getfield 266, 3) := by decide +kernel
theorem dX6_readPage_91 : decode cX6_readPage 91 = .ok (.iload 7, 2) := by decide +kernel
theorem dX6_readPage_93 : decode cX6_readPage 93 = .ok (.bipush 64, 2) := by decide +kernel
theorem dX6_readPage_95 : decode cX6_readPage 95 = .ok (.imul, 1) := by decide +kernel
theorem dX6_readPage_96 : decode cX6_readPage 96 = .ok (.iload 10, 2) := by decide +kernel
theorem dX6_readPage_98 : decode cX6_readPage 98 = .ok (.iadd, 1) := by decide +kernel
theorem dX6_readPage_99 : decode cX6_readPage 99 = .ok (.iload 8, 2) := by decide +kernel
theorem dX6_readPage_101 : decode cX6_readPage 101 = .ok (.isub, 1) := by decide +kernel
theorem dX6_readPage_102 : decode cX6_readPage 102 = .ok (.invokevirtual 86, 3) := by decide +kernel
theorem dX6_readPage_105 : decode cX6_readPage 105 = .ok (.invokevirtual 94, 3) := by decide +kernel
theorem dX6_readPage_108 : decode cX6_readPage 108 = .ok (.iinc 10 1, 3) := by decide +kernel
theorem dX6_readPage_111 : decode cX6_readPage 111 = .ok (.goto (-42), 3) := by decide +kernel
theorem dX6_readPage_114 : decode cX6_readPage 114 = .ok (.iload 6, 2) := by decide +kernel
theorem dX6_readPage_116 : decode cX6_readPage 116 = .ok (.ifCond .eq 9, 3) := by decide +kernel
theorem dX6_readPage_119 : decode cX6_readPage 119 = .ok (.aload_n 0, 1) := by decide +kernel
theorem dX6_readPage_120 : decode cX6_readPage 120 = .ok (.iload_n 1, 1) := by decide +kernel
theorem dX6_readPage_121 : decode cX6_readPage 121 = .ok (.iload_n 2, 1) := by decide +kernel
theorem dX6_readPage_122 : decode cX6_readPage 122 = .ok (.invokevirtual 267, 3) := by decide +kernel
theorem dX6_readPage_125 : decode cX6_readPage 125 = .ok (.iload 9, 2) := by decide +kernel
theorem dX6_readPage_127 : decode cX6_readPage 127 = .ok (.ireturn, 1) := by decide +kernel
theorem dX6_bringAhead_0 : decode cX6_bringAhead 0 = .ok (.aload_n 0, 1) := by decide +kernel
theorem dX6_bringAhead_1 : decode cX6_bringAhead 1 = .ok (.getfield 42, 3) := by decide +kernel
theorem dX6_bringAhead_4 : decode cX6_bringAhead 4 = .ok (.getfield 211, 3) := by decide +kernel
theorem dX6_bringAhead_7 : decode cX6_bringAhead 7 = .ok (.iload_n 1, 1) := by decide +kernel
theorem dX6_bringAhead_8 : decode cX6_bringAhead 8 = .ok (.iaload, 1) := by decide +kernel
theorem dX6_bringAhead_9 : decode cX6_bringAhead 9 = .ok (.iload_n 2, 1) := by decide +kernel
theorem dX6_bringAhead_10 : decode cX6_bringAhead 10 = .ok (.if_icmp .ne 7, 3) := by decide +kernel
theorem dX6_bringAhead_13 : decode cX6_bringAhead 13 = .ok (.iconst 1, 1) := by decide +kernel
theorem dX6_bringAhead_14 : decode cX6_bringAhead 14 = .ok (.goto 4, 3) := by decide +kernel
theorem dX6_bringAhead_17 : decode cX6_bringAhead 17 = .ok (.iconst 0, 1) := by decide +kernel
theorem dX6_bringAhead_18 : decode cX6_bringAhead 18 = .ok (.istore_n 3, 1) := by decide +kernel
theorem dX6_bringAhead_19 : decode cX6_bringAhead 19 = .ok (.iload_n 3, 1) := by decide +kernel
theorem dX6_bringAhead_20 : decode cX6_bringAhead 20 = .ok (.ifCond .eq 22, 3) := by decide +kernel
theorem dX6_bringAhead_23 : decode cX6_bringAhead 23 = .ok (.bipush 8, 2) := by decide +kernel
theorem dX6_bringAhead_25 : decode cX6_bringAhead 25 = .ok (.iconst 2, 1) := by decide +kernel
theorem dX6_bringAhead_26 : decode cX6_bringAhead 26 = .ok (.aload_n 0, 1) := by decide +kernel
theorem dX6_bringAhead_27 : decode cX6_bringAhead 27 = .ok (.getfield 42, 3) := by decide +kernel
theorem dX6_bringAhead_30 : decode cX6_bringAhead 30 = .ok (.getfield 208, 3) := by decide +kernel
theorem dX6_bringAhead_33 : decode cX6_bringAhead 33 = .ok (.iload_n 1, 1) := by decide +kernel
theorem dX6_bringAhead_34 : decode cX6_bringAhead 34 = .ok (.iaload, 1) := by decide +kernel
theorem dX6_bringAhead_35 : decode cX6_bringAhead 35 = .ok (.imul, 1) := by decide +kernel
theorem dX6_bringAhead_36 : decode cX6_bringAhead 36 = .ok (.invokestatic 76, 3) := by decide +kernel
theorem dX6_bringAhead_39 : decode cX6_bringAhead 39 = .ok (.goto 4, 3) := by decide +kernel
theorem dX6_bringAhead_42 : decode cX6_bringAhead 42 = .ok (.iconst 1, 1) := by decide +kernel
theorem dX6_bringAhead_43 : decode cX6_bringAhead 43 = .ok (.istore 4, 2) := by decide +kernel
theorem dX6_bringAhead_45 : decode cX6_bringAhead 45 = .ok (.aload_n 0, 1) := by decide +kernel
theorem dX6_bringAhead_46 : decode cX6_bringAhead 46 = .ok (.getfield 42, 3) := by decide +kernel
theorem dX6_bringAhead_49 : decode cX6_bringAhead 49 = .ok (.getfield 208, 3) := by decide +kernel
theorem dX6_bringAhead_52 : decode cX6_bringAhead 52 = .ok (.iload_n 1, 1) := by decide +kernel
theorem dX6_bringAhead_53 : decode cX6_bringAhead 53 = .ok (.iload 4, 2) := by decide +kernel
theorem dX6_bringAhead_55 : decode cX6_bringAhead 55 = .ok (.iastore, 1) := by decide +kernel
theorem dX6_bringAhead_56 : decode cX6_bringAhead 56 = .ok (.iload_n 2, 1) := by decide +kernel
theorem dX6_bringAhead_57 : decode cX6_bringAhead 57 = .ok (.iload 4, 2) := by decide +kernel
theorem dX6_bringAhead_59 : decode cX6_bringAhead 59 = .ok (.iadd, 1) := by decide +kernel
theorem dX6_bringAhead_60 : decode cX6_bringAhead 60 = .ok (.aload_n 0, 1) := by decide +kernel
theorem dX6_bringAhead_61 : decode cX6_bringAhead 61 = .ok (.getfield 42, 3) := by decide +kernel
theorem dX6_bringAhead_64 : decode cX6_bringAhead 64 = .ok (.getfield 73, 3) := by decide +kernel
theorem dX6_bringAhead_67 : decode cX6_bringAhead 67 = .ok (.iload_n 1, 1) := by decide +kernel
theorem dX6_bringAhead_68 : decode cX6_bringAhead 68 = .ok (.iaload, 1) := by decide +kernel
theorem dX6_bringAhead_69 : decode cX6_bringAhead 69 = .ok (.invokestatic 102, 3) := by decide +kernel
theorem dX6_bringAhead_72 : decode cX6_bringAhead 72 = .ok (.invokestatic 76, 3) := by decide +kernel
theorem dX6_bringAhead_75 : decode cX6_bringAhead 75 = .ok (.istore 5, 2) := by decide +kernel
theorem dX6_bringAhead_77 : decode cX6_bringAhead 77 = .ok (.iload_n 2, 1) := by decide +kernel
theorem dX6_bringAhead_78 : decode cX6_bringAhead 78 = .ok (.iconst 1, 1) := by decide +kernel
theorem dX6_bringAhead_79 : decode cX6_bringAhead 79 = .ok (.iadd, 1) := by decide +kernel
theorem dX6_bringAhead_80 : decode cX6_bringAhead 80 = .ok (.istore 6, 2) := by decide +kernel
theorem dX6_bringAhead_82 : decode cX6_bringAhead 82 = .ok (.iload_n 2, 1) := by decide +kernel
theorem dX6_bringAhead_83 : decode cX6_bringAhead 83 = .ok (.iconst 1, 1) := by decide +kernel
theorem dX6_bringAhead_84 : decode cX6_bringAhead 84 = .ok (.iadd, 1) := by decide +kernel
theorem dX6_bringAhead_85 : decode cX6_bringAhead 85 = .ok (.istore 7, 2) := by decide +kernel
theorem dX6_bringAhead_87 : decode cX6_bringAhead 87 = .ok (.iload 7, 2) := by decide +kernel
theorem dX6_bringAhead_89 : decode cX6_bringAhead 89 = .ok (.iload 5, 2) := by decide +kernel
theorem dX6_bringAhead_91 : decode cX6_bringAhead 91 = .ok (.if_icmp .ge 49, 3) := by decide +kernel
theorem dX6_bringAhead_94 : decode cX6_bringAhead 94 = .ok (.iload_n 1, 1) := by decide +kernel
theorem dX6_bringAhead_95 : decode cX6_bringAhead 95 = .ok (.iload 7, 2) := by decide +kernel
theorem dX6_bringAhead_97 : decode cX6_bringAhead 97 = .ok (.invokestatic 105, 3) := by decide +kernel
theorem dX6_bringAhead_100 : decode cX6_bringAhead 100 = .ok (.istore 8, 2) := by decide +kernel
theorem dX6_bringAhead_102 : decode cX6_bringAhead 102 = .ok (.aload_n 0, 1) := by decide +kernel
theorem dX6_bringAhead_103 : decode cX6_bringAhead 103 = .ok (.getfield 49, 3) := by decide +kernel
theorem dX6_bringAhead_106 : decode cX6_bringAhead 106 = .ok (.iload 8, 2) := by decide +kernel
theorem dX6_bringAhead_108 : decode cX6_bringAhead 108 = .ok (.invokevirtual 118, 3) := by decide +kernel
theorem dX6_bringAhead_111 : decode cX6_bringAhead 111 = .ok (.iconst (-1), 1) := by decide +kernel
theorem dX6_bringAhead_112 : decode cX6_bringAhead 112 = .ok (.if_icmp .ne 16, 3) := by decide +kernel
theorem dX6_bringAhead_115 : decode cX6_bringAhead 115 = .ok (.aload_n 0, 1) := by decide +kernel
theorem dX6_bringAhead_116 : decode cX6_bringAhead 116 = .ok (.iload 8, 2) := by decide +kernel
theorem dX6_bringAhead_118 : decode cX6_bringAhead 118 = .ok (.invokevirtual 270, 3) := by decide +kernel
theorem dX6_bringAhead_121 : decode cX6_bringAhead 121 = .ok (.iconst (-1), 1) := by decide +kernel
theorem dX6_bringAhead_122 : decode cX6_bringAhead 122 = .ok (.if_icmp .ne 6, 3) := by decide +kernel
theorem dX6_bringAhead_125 : decode cX6_bringAhead 125 = .ok (.goto 15, 3) := by decide +kernel
theorem dX6_bringAhead_128 : decode cX6_bringAhead 128 = .ok (.iload 7, 2) := by decide +kernel
theorem dX6_bringAhead_130 : decode cX6_bringAhead 130 = .ok (.iconst 1, 1) := by decide +kernel
theorem dX6_bringAhead_131 : decode cX6_bringAhead 131 = .ok (.iadd, 1) := by decide +kernel
theorem dX6_bringAhead_132 : decode cX6_bringAhead 132 = .ok (.istore 6, 2) := by decide +kernel
theorem dX6_bringAhead_134 : decode cX6_bringAhead 134 = .ok (.iinc 7 1, 3) := by decide +kernel
theorem dX6_bringAhead_137 : decode cX6_bringAhead 137 = .ok (.goto (-50), 3) := by decide +kernel
theorem dX6_bringAhead_140 : decode cX6_bringAhead 140 = .ok (.aload_n 0, 1) := by decide +kernel
theorem dX6_bringAhead_141 : decode cX6_bringAhead 141 = .ok (.getfield 42, 3) := by decide +kernel
theorem dX6_bringAhead_144 : decode cX6_bringAhead 144 = .ok (.getfield 211, 3) := by decide +kernel
theorem dX6_bringAhead_147 : decode cX6_bringAhead 147 = .ok (.iload_n 1, 1) := by decide +kernel
theorem dX6_bringAhead_148 : decode cX6_bringAhead 148 = .ok (.iload 6, 2) := by decide +kernel
theorem dX6_bringAhead_150 : decode cX6_bringAhead 150 = .ok (.iastore, 1) := by decide +kernel
theorem dX6_bringAhead_151 : decode cX6_bringAhead 151 = .ok (.return_, 1) := by decide +kernel
theorem dX6_putRow_0 : decode cX6_putRow 0 = .ok (.aload_n 0, 1) := by decide +kernel
theorem dX6_putRow_1 : decode cX6_putRow 1 = .ok (.getfield 35, 3) := by decide +kernel
theorem dX6_putRow_4 : decode cX6_putRow 4 = .ok (.invokevirtual 70, 3) := by decide +kernel
theorem dX6_putRow_7 : decode cX6_putRow 7 = .ok (.iload_n 2, 1) := by decide +kernel
theorem dX6_putRow_8 : decode cX6_putRow 8 = .ok (.iload_n 3, 1) := by decide +kernel
theorem dX6_putRow_9 : decode cX6_putRow 9 = .ok (.iadd, 1) := by decide +kernel
theorem dX6_putRow_10 : decode cX6_putRow 10 = .ok (.istore 4, 2) := by decide +kernel
theorem dX6_putRow_12 : decode cX6_putRow 12 = .ok (.iconst 0, 1) := by decide +kernel
theorem dX6_putRow_13 : decode cX6_putRow 13 = .ok (.istore 5, 2) := by decide +kernel
theorem dX6_putRow_15 : decode cX6_putRow 15 = .ok (.iload_n 2, 1) := by decide +kernel
theorem dX6_putRow_16 : decode cX6_putRow 16 = .ok (.bipush 64, 2) := by decide +kernel
theorem dX6_putRow_18 : decode cX6_putRow 18 = .ok (.idiv, 1) := by decide +kernel
theorem dX6_putRow_19 : decode cX6_putRow 19 = .ok (.istore 6, 2) := by decide +kernel
theorem dX6_putRow_21 : decode cX6_putRow 21 = .ok (.iload 6, 2) := by decide +kernel
theorem dX6_putRow_23 : decode cX6_putRow 23 = .ok (.bipush 64, 2) := by decide +kernel
theorem dX6_putRow_25 : decode cX6_putRow 25 = .ok (.imul, 1) := by decide +kernel
theorem dX6_putRow_26 : decode cX6_putRow 26 = .ok (.iload 4, 2) := by decide +kernel
theorem dX6_putRow_28 : decode cX6_putRow 28 = .ok (.if_icmp .ge 144, 3) := by decide +kernel
theorem dX6_putRow_31 : decode cX6_putRow 31 = .ok (.aload_n 0, 1) := by decide +kernel
theorem dX6_putRow_32 : decode cX6_putRow 32 = .ok (.iload_n 1, 1) := by decide +kernel
theorem dX6_putRow_33 : decode cX6_putRow 33 = .ok (.iload 6, 2) := by decide +kernel
theorem dX6_putRow_35 : decode cX6_putRow 35 = .ok (.invokestatic 105, 3) := by decide +kernel
theorem dX6_putRow_38 : decode cX6_putRow 38 = .ok (.invokevirtual 178, 3) := by decide +kernel
theorem dX6_putRow_41 : decode cX6_putRow 41 = .ok (.istore 7, 2) := by decide +kernel
theorem dX6_putRow_43 : decode cX6_putRow 43 = .ok (.iload 7, 2) := by decide +kernel
theorem dX6_putRow_45 : decode cX6_putRow 45 = .ok (.iconst (-1), 1) := by decide +kernel
theorem dX6_putRow_46 : decode cX6_putRow 46 = .ok (.if_icmp .ne 6, 3) := by decide +kernel
theorem dX6_putRow_49 : decode cX6_putRow 49 = .ok (.goto 123, 3) := by decide +kernel
theorem dX6_putRow_52 : decode cX6_putRow 52 = .ok (.iload 6, 2) := by decide +kernel
theorem dX6_putRow_54 : decode cX6_putRow 54 = .ok (.bipush 64, 2) := by decide +kernel
theorem dX6_putRow_56 : decode cX6_putRow 56 = .ok (.imul, 1) := by decide +kernel
theorem dX6_putRow_57 : decode cX6_putRow 57 = .ok (.istore 8, 2) := by decide +kernel
theorem dX6_putRow_59 : decode cX6_putRow 59 = .ok (.iload 4, 2) := by decide +kernel
theorem dX6_putRow_61 : decode cX6_putRow 61 = .ok (.iload 8, 2) := by decide +kernel
theorem dX6_putRow_63 : decode cX6_putRow 63 = .ok (.bipush 64, 2) := by decide +kernel
theorem dX6_putRow_65 : decode cX6_putRow 65 = .ok (.iadd, 1) := by decide +kernel
theorem dX6_putRow_66 : decode cX6_putRow 66 = .ok (.invokestatic 76, 3) := by decide +kernel
theorem dX6_putRow_69 : decode cX6_putRow 69 = .ok (.istore 9, 2) := by decide +kernel
theorem dX6_putRow_71 : decode cX6_putRow 71 = .ok (.iload_n 2, 1) := by decide +kernel
theorem dX6_putRow_72 : decode cX6_putRow 72 = .ok (.iload 8, 2) := by decide +kernel
theorem dX6_putRow_74 : decode cX6_putRow 74 = .ok (.invokestatic 263, 3) := by decide +kernel
theorem dX6_putRow_77 : decode cX6_putRow 77 = .ok (.istore 10, 2) := by decide +kernel
theorem dX6_putRow_79 : decode cX6_putRow 79 = .ok (.iload 10, 2) := by decide +kernel
theorem dX6_putRow_81 : decode cX6_putRow 81 = .ok (.iload 9, 2) := by decide +kernel
theorem dX6_putRow_83 : decode cX6_putRow 83 = .ok (.if_icmp .ge 41, 3) := by decide +kernel
theorem dX6_putRow_86 : decode cX6_putRow 86 = .ok (.aload_n 0, 1) := by decide +kernel
theorem dX6_putRow_87 : decode cX6_putRow 87 = .ok (.getfield 49, 3) := by decide +kernel
theorem dX6_putRow_90 : decode cX6_putRow 90 = .ok (.getfield 266, 3) := by decide +kernel
theorem dX6_putRow_93 : decode cX6_putRow 93 = .ok (.iload 7, 2) := by decide +kernel
theorem dX6_putRow_95 : decode cX6_putRow 95 = .ok (.bipush 64, 2) := by decide +kernel
theorem dX6_putRow_97 : decode cX6_putRow 97 = .ok (.imul, 1) := by decide +kernel
theorem dX6_putRow_98 : decode cX6_putRow 98 = .ok (.iload 10, 2) := by decide +kernel
theorem dX6_putRow_100 : decode cX6_putRow 100 = .ok (.iadd, 1) := by decide +kernel
theorem dX6_putRow_101 : decode cX6_putRow 101 = .ok (.iload 8, 2) := by decide +kernel
theorem dX6_putRow_103 : decode cX6_putRow 103 = .ok (.isub, 1) := by decide +kernel
theorem dX6_putRow_104 : decode cX6_putRow 104 = .ok (.aload_n 0, 1) := by decide +kernel
theorem dX6_putRow_105 : decode cX6_putRow 105 = .ok (.getfield 22, 3) := by decide +kernel
theorem dX6_putRow_108 : decode cX6_putRow 108 = .ok (.iload 10, 2) := by decide +kernel
theorem dX6_putRow_110 : decode cX6_putRow 110 = .ok (.iload_n 2, 1) := by decide +kernel
theorem dX6_putRow_111 : decode cX6_putRow 111 = .ok (.isub, 1) := by decide +kernel
theorem dX6_putRow_112 : decode cX6_putRow 112 = .ok (.invokevirtual 86, 3) := by decide +kernel
theorem dX6_putRow_115 : decode cX6_putRow 115 = .ok (.invokevirtual 94, 3) := by decide +kernel
theorem dX6_putRow_118 : decode cX6_putRow 118 = .ok (.iinc 10 1, 3) := by decide +kernel
theorem dX6_putRow_121 : decode cX6_putRow 121 = .ok (.goto (-42), 3) := by decide +kernel
theorem dX6_putRow_124 : decode cX6_putRow 124 = .ok (.aload_n 0, 1) := by decide +kernel
theorem dX6_putRow_125 : decode cX6_putRow 125 = .ok (.getfield 49, 3) := by decide +kernel
theorem dX6_putRow_128 : decode cX6_putRow 128 = .ok (.iload 7, 2) := by decide +kernel
theorem dX6_putRow_130 : decode cX6_putRow 130 = .ok (.aload_n 0, 1) := by decide +kernel
theorem dX6_putRow_131 : decode cX6_putRow 131 = .ok (.getfield 29, 3) := by decide +kernel
theorem dX6_putRow_134 : decode cX6_putRow 134 = .ok (.invokevirtual 273, 3) := by decide +kernel
theorem dX6_putRow_137 : decode cX6_putRow 137 = .ok (.aload_n 0, 1) := by decide +kernel
theorem dX6_putRow_138 : decode cX6_putRow 138 = .ok (.getfield 42, 3) := by decide +kernel
theorem dX6_putRow_141 : decode cX6_putRow 141 = .ok (.getfield 73, 3) := by decide +kernel
theorem dX6_putRow_144 : decode cX6_putRow 144 = .ok (.iload_n 1, 1) := by decide +kernel
theorem dX6_putRow_145 : decode cX6_putRow 145 = .ok (.aload_n 0, 1) := by decide +kernel
theorem dX6_putRow_146 : decode cX6_putRow 146 = .ok (.getfield 42, 3) := by decide +kernel
theorem dX6_putRow_149 : decode cX6_putRow 149 = .ok (.getfield 73, 3) := by decide +kernel
theorem dX6_putRow_152 : decode cX6_putRow 152 = .ok (.iload_n 1, 1) := by decide +kernel
theorem dX6_putRow_153 : decode cX6_putRow 153 = .ok (.iaload, 1) := by decide +kernel
theorem dX6_putRow_154 : decode cX6_putRow 154 = .ok (.iload 9, 2) := by decide +kernel
theorem dX6_putRow_156 : decode cX6_putRow 156 = .ok (.invokestatic 263, 3) := by decide +kernel
theorem dX6_putRow_159 : decode cX6_putRow 159 = .ok (.iastore, 1) := by decide +kernel
theorem dX6_putRow_160 : decode cX6_putRow 160 = .ok (.iload 9, 2) := by decide +kernel
theorem dX6_putRow_162 : decode cX6_putRow 162 = .ok (.iload_n 2, 1) := by decide +kernel
theorem dX6_putRow_163 : decode cX6_putRow 163 = .ok (.isub, 1) := by decide +kernel
theorem dX6_putRow_164 : decode cX6_putRow 164 = .ok (.istore 5, 2) := by decide +kernel
theorem dX6_putRow_166 : decode cX6_putRow 166 = .ok (.iinc 6 1, 3) := by decide +kernel
theorem dX6_putRow_169 : decode cX6_putRow 169 = .ok (.goto (-148), 3) := by decide +kernel
theorem dX6_putRow_172 : decode cX6_putRow 172 = .ok (.iload 5, 2) := by decide +kernel
theorem dX6_putRow_174 : decode cX6_putRow 174 = .ok (.ifCond .ne 6, 3) := by decide +kernel
theorem dX6_putRow_177 : decode cX6_putRow 177 = .ok (.bipush (-3), 2) := by decide +kernel
theorem dX6_putRow_179 : decode cX6_putRow 179 = .ok (.ireturn, 1) := by decide +kernel
theorem dX6_putRow_180 : decode cX6_putRow 180 = .ok (.aload_n 0, 1) := by decide +kernel
theorem dX6_putRow_181 : decode cX6_putRow 181 = .ok (.invokevirtual 276, 3) := by decide +kernel
theorem dX6_putRow_184 : decode cX6_putRow 184 = .ok (.iload 5, 2) := by decide +kernel
theorem dX6_putRow_186 : decode cX6_putRow 186 = .ok (.ireturn, 1) := by decide +kernel
theorem dX6_cutLastPage_0 : decode cX6_cutLastPage 0 = .ok (.iload_n 2, 1) := by decide +kernel
theorem dX6_cutLastPage_1 : decode cX6_cutLastPage 1 = .ok (.bipush 64, 2) := by decide +kernel
theorem dX6_cutLastPage_3 : decode cX6_cutLastPage 3 = .ok (.irem, 1) := by decide +kernel
theorem dX6_cutLastPage_4 : decode cX6_cutLastPage 4 = .ok (.istore_n 3, 1) := by decide +kernel
theorem dX6_cutLastPage_5 : decode cX6_cutLastPage 5 = .ok (.iload_n 1, 1) := by decide +kernel
theorem dX6_cutLastPage_6 : decode cX6_cutLastPage 6 = .ok (.iload_n 2, 1) := by decide +kernel
theorem dX6_cutLastPage_7 : decode cX6_cutLastPage 7 = .ok (.bipush 64, 2) := by decide +kernel
theorem dX6_cutLastPage_9 : decode cX6_cutLastPage 9 = .ok (.idiv, 1) := by decide +kernel
theorem dX6_cutLastPage_10 : decode cX6_cutLastPage 10 = .ok (.invokestatic 105, 3) := by decide +kernel
theorem dX6_cutLastPage_13 : decode cX6_cutLastPage 13 = .ok (.istore 4, 2) := by decide +kernel
theorem dX6_cutLastPage_15 : decode cX6_cutLastPage 15 = .ok (.iload_n 3, 1) := by decide +kernel
theorem dX6_cutLastPage_16 : decode cX6_cutLastPage 16 = .ok (.ifCond .eq 27, 3) := by decide +kernel
theorem dX6_cutLastPage_19 : decode cX6_cutLastPage 19 = .ok (.aload_n 0, 1) := by decide +kernel
theorem dX6_cutLastPage_20 : decode cX6_cutLastPage 20 = .ok (.getfield 49, 3) := by decide +kernel
theorem dX6_cutLastPage_23 : decode cX6_cutLastPage 23 = .ok (.iload 4, 2) := by decide +kernel
theorem dX6_cutLastPage_25 : decode cX6_cutLastPage 25 = .ok (.invokevirtual 118, 3) := by decide +kernel
theorem dX6_cutLastPage_28 : decode cX6_cutLastPage 28 = .ok (.iconst (-1), 1) := by decide +kernel
theorem dX6_cutLastPage_29 : decode cX6_cutLastPage 29 = .ok (.if_icmp .ne 16, 3) := by decide +kernel
theorem dX6_cutLastPage_32 : decode cX6_cutLastPage 32 = .ok (.aload_n 0, 1) := by decide +kernel
theorem dX6_cutLastPage_33 : decode cX6_cutLastPage 33 = .ok (.getfield 9, 3) := by decide +kernel
theorem dX6_cutLastPage_36 : decode cX6_cutLastPage 36 = .ok (.iload 4, 2) := by decide +kernel
theorem dX6_cutLastPage_38 : decode cX6_cutLastPage 38 = .ok (.iaload, 1) := by decide +kernel
theorem dX6_cutLastPage_39 : decode cX6_cutLastPage 39 = .ok (.iconst (-1), 1) := by decide +kernel
theorem dX6_cutLastPage_40 : decode cX6_cutLastPage 40 = .ok (.if_icmp .ne 5, 3) := by decide +kernel
theorem dX6_cutLastPage_43 : decode cX6_cutLastPage 43 = .ok (.iconst 1, 1) := by decide +kernel
theorem dX6_cutLastPage_44 : decode cX6_cutLastPage 44 = .ok (.ireturn, 1) := by decide +kernel
theorem dX6_cutLastPage_45 : decode cX6_cutLastPage 45 = .ok (.aload_n 0, 1) := by decide +kernel
theorem dX6_cutLastPage_46 : decode cX6_cutLastPage 46 = .ok (.iload 4, 2) := by decide +kernel
theorem dX6_cutLastPage_48 : decode cX6_cutLastPage 48 = .ok (.invokevirtual 178, 3) := by decide +kernel
theorem dX6_cutLastPage_51 : decode cX6_cutLastPage 51 = .ok (.istore 5, 2) := by decide +kernel
theorem dX6_cutLastPage_53 : decode cX6_cutLastPage 53 = .ok (.iload 5, 2) := by decide +kernel
theorem dX6_cutLastPage_55 : decode cX6_cutLastPage 55 = .ok (.iconst (-1), 1) := by decide +kernel
theorem dX6_cutLastPage_56 : decode cX6_cutLastPage 56 = .ok (.if_icmp .ne 5, 3) := by decide +kernel
theorem dX6_cutLastPage_59 : decode cX6_cutLastPage 59 = .ok (.iconst 0, 1) := by decide +kernel
theorem dX6_cutLastPage_60 : decode cX6_cutLastPage 60 = .ok (.ireturn, 1) := by decide +kernel
theorem dX6_cutLastPage_61 : decode cX6_cutLastPage 61 = .ok (.aload_n 0, 1) := by decide +kernel
theorem dX6_cutLastPage_62 : decode cX6_cutLastPage 62 = .ok (.getfield 49, 3) := by decide +kernel
theorem dX6_cutLastPage_65 : decode cX6_cutLastPage 65 = .ok (.getfield 266, 3) := by decide +kernel
theorem dX6_cutLastPage_68 : decode cX6_cutLastPage 68 = .ok (.iload 5, 2) := by decide +kernel
theorem dX6_cutLastPage_70 : decode cX6_cutLastPage 70 = .ok (.bipush 64, 2) := by decide +kernel
theorem dX6_cutLastPage_72 : decode cX6_cutLastPage 72 = .ok (.imul, 1) := by decide +kernel
theorem dX6_cutLastPage_73 : decode cX6_cutLastPage 73 = .ok (.iload_n 3, 1) := by decide +kernel
theorem dX6_cutLastPage_74 : decode cX6_cutLastPage 74 = .ok (.iadd, 1) := by decide +kernel
theorem dX6_cutLastPage_75 : decode cX6_cutLastPage 75 = .ok (.iload 5, 2) := by decide +kernel
theorem dX6_cutLastPage_77 : decode cX6_cutLastPage 77 = .ok (.iconst 1, 1) := by decide +kernel
theorem dX6_cutLastPage_78 : decode cX6_cutLastPage 78 = .ok (.iadd, 1) := by decide +kernel
theorem dX6_cutLastPage_79 : decode cX6_cutLastPage 79 = .ok (.bipush 64, 2) := by decide +kernel
theorem dX6_cutLastPage_81 : decode cX6_cutLastPage 81 = .ok (.imul, 1) := by decide +kernel
theorem dX6_cutLastPage_82 : decode cX6_cutLastPage 82 = .ok (.invokevirtual 279, 3) := by decide +kernel
theorem dX6_cutLastPage_85 : decode cX6_cutLastPage 85 = .ok (.aload_n 0, 1) := by decide +kernel
theorem dX6_cutLastPage_86 : decode cX6_cutLastPage 86 = .ok (.getfield 49, 3) := by decide +kernel
theorem dX6_cutLastPage_89 : decode cX6_cutLastPage 89 = .ok (.iload 5, 2) := by decide +kernel
theorem dX6_cutLastPage_91 : decode cX6_cutLastPage 91 = .ok (.aload_n 0, 1) := by decide +kernel
theorem dX6_cutLastPage_92 : decode cX6_cutLastPage 92 = .ok (.getfield 29, 3) := by decide +kernel
theorem dX6_cutLastPage_95 : decode cX6_cutLastPage 95 = .ok (.invokevirtual 273, 3) := by decide +kernel
theorem dX6_cutLastPage_98 : decode cX6_cutLastPage 98 = .ok (.iconst 1, 1) := by decide +kernel
theorem dX6_cutLastPage_99 : decode cX6_cutLastPage 99 = .ok (.ireturn, 1) := by decide +kernel
theorem dX6_makeHole_0 : decode cX6_makeHole 0 = .ok (.aload_n 0, 1) := by decide +kernel
theorem dX6_makeHole_1 : decode cX6_makeHole 1 = .ok (.getfield 49, 3) := by decide +kernel
theorem dX6_makeHole_4 : decode cX6_makeHole 4 = .ok (.iload_n 1, 1) := by decide +kernel
theorem dX6_makeHole_5 : decode cX6_makeHole 5 = .ok (.invokevirtual 118, 3) := by decide +kernel
theorem dX6_makeHole_8 : decode cX6_makeHole 8 = .ok (.istore_n 2, 1) := by decide +kernel
theorem dX6_makeHole_9 : decode cX6_makeHole 9 = .ok (.aload_n 0, 1) := by decide +kernel
theorem dX6_makeHole_10 : decode cX6_makeHole 10 = .ok (.getfield 9, 3) := by decide +kernel
theorem dX6_makeHole_13 : decode cX6_makeHole 13 = .ok (.iload_n 1, 1) := by decide +kernel
theorem dX6_makeHole_14 : decode cX6_makeHole 14 = .ok (.iaload, 1) := by decide +kernel
theorem dX6_makeHole_15 : decode cX6_makeHole 15 = .ok (.istore_n 3, 1) := by decide +kernel
theorem dX6_makeHole_16 : decode cX6_makeHole 16 = .ok (.aload_n 0, 1) := by decide +kernel
theorem dX6_makeHole_17 : decode cX6_makeHole 17 = .ok (.getfield 49, 3) := by decide +kernel
theorem dX6_makeHole_20 : decode cX6_makeHole 20 = .ok (.iload_n 2, 1) := by decide +kernel
theorem dX6_makeHole_21 : decode cX6_makeHole 21 = .ok (.invokevirtual 156, 3) := by decide +kernel
theorem dX6_makeHole_24 : decode cX6_makeHole 24 = .ok (.aload_n 0, 1) := by decide +kernel
theorem dX6_makeHole_25 : decode cX6_makeHole 25 = .ok (.getfield 56, 3) := by decide +kernel
theorem dX6_makeHole_28 : decode cX6_makeHole 28 = .ok (.iload_n 1, 1) := by decide +kernel
theorem dX6_makeHole_29 : decode cX6_makeHole 29 = .ok (.invokevirtual 282, 3) := by decide +kernel
theorem dX6_makeHole_32 : decode cX6_makeHole 32 = .ok (.aload_n 0, 1) := by decide +kernel
theorem dX6_makeHole_33 : decode cX6_makeHole 33 = .ok (.getfield 35, 3) := by decide +kernel
theorem dX6_makeHole_36 : decode cX6_makeHole 36 = .ok (.iload_n 3, 1) := by decide +kernel
theorem dX6_makeHole_37 : decode cX6_makeHole 37 = .ok (.invokevirtual 285, 3) := by decide +kernel
theorem dX6_makeHole_40 : decode cX6_makeHole 40 = .ok (.aload_n 0, 1) := by decide +kernel
theorem dX6_makeHole_41 : decode cX6_makeHole 41 = .ok (.getfield 9, 3) := by decide +kernel
theorem dX6_makeHole_44 : decode cX6_makeHole 44 = .ok (.iload_n 1, 1) := by decide +kernel
theorem dX6_makeHole_45 : decode cX6_makeHole 45 = .ok (.iconst (-1), 1) := by decide +kernel
theorem dX6_makeHole_46 : decode cX6_makeHole 46 = .ok (.iastore, 1) := by decide +kernel
theorem dX6_makeHole_47 : decode cX6_makeHole 47 = .ok (.iload_n 2, 1) := by decide +kernel
theorem dX6_makeHole_48 : decode cX6_makeHole 48 = .ok (.iconst (-1), 1) := by decide +kernel
theorem dX6_makeHole_49 : decode cX6_makeHole 49 = .ok (.if_icmp .ne 8, 3) := by decide +kernel
theorem dX6_makeHole_52 : decode cX6_makeHole 52 = .ok (.iload_n 3, 1) := by decide +kernel
theorem dX6_makeHole_53 : decode cX6_makeHole 53 = .ok (.iconst (-1), 1) := by decide +kernel
theorem dX6_makeHole_54 : decode cX6_makeHole 54 = .ok (.if_icmp .eq 7, 3) := by decide +kernel
theorem dX6_makeHole_57 : decode cX6_makeHole 57 = .ok (.iconst 1, 1) := by decide +kernel
theorem dX6_makeHole_58 : decode cX6_makeHole 58 = .ok (.goto 4, 3) := by decide +kernel
theorem dX6_makeHole_61 : decode cX6_makeHole 61 = .ok (.iconst 0, 1) := by decide +kernel
theorem dX6_makeHole_62 : decode cX6_makeHole 62 = .ok (.ireturn, 1) := by decide +kernel
theorem dX6_touch_0 : decode cX6_touch 0 = .ok (.aload_n 0, 1) := by decide +kernel
theorem dX6_touch_1 : decode cX6_touch 1 = .ok (.getfield 49, 3) := by decide +kernel
theorem dX6_touch_4 : decode cX6_touch 4 = .ok (.iload_n 1, 1) := by decide +kernel
theorem dX6_touch_5 : decode cX6_touch 5 = .ok (.invokevirtual 118, 3) := by decide +kernel
theorem dX6_touch_8 : decode cX6_touch 8 = .ok (.istore_n 2, 1) := by decide +kernel
theorem dX6_touch_9 : decode cX6_touch 9 = .ok (.iload_n 2, 1) := by decide +kernel
theorem dX6_touch_10 : decode cX6_touch 10 = .ok (.iconst (-1), 1) := by decide +kernel
theorem dX6_touch_11 : decode cX6_touch 11 = .ok (.if_icmp .ne 9, 3) := by decide +kernel
theorem dX6_touch_14 : decode cX6_touch 14 = .ok (.aload_n 0, 1) := by decide +kernel
theorem dX6_touch_15 : decode cX6_touch 15 = .ok (.iload_n 1, 1) := by decide +kernel
theorem dX6_touch_16 : decode cX6_touch 16 = .ok (.invokevirtual 270, 3) := by decide +kernel
theorem dX6_touch_19 : decode cX6_touch 19 = .ok (.ireturn, 1) := by decide +kernel
theorem dX6_touch_20 : decode cX6_touch 20 = .ok (.aload_n 0, 1) := by decide +kernel
theorem dX6_touch_21 : decode cX6_touch 21 = .ok (.getfield 49, 3) := by decide +kernel
theorem dX6_touch_24 : decode cX6_touch 24 = .ok (.iload_n 2, 1) := by decide +kernel
theorem dX6_touch_25 : decode cX6_touch 25 = .ok (.invokevirtual 288, 3) := by decide +kernel
theorem dX6_touch_28 : decode cX6_touch 28 = .ok (.iload_n 2, 1) := by decide +kernel
theorem dX6_touch_29 : decode cX6_touch 29 = .ok (.ireturn, 1) := by decide +kernel
theorem dX6_bringIn_0 : decode cX6_bringIn 0 = .ok (.aload_n 0, 1) := by decide +kernel
theorem dX6_bringIn_1 : decode cX6_bringIn 1 = .ok (.getfield 49, 3) := by decide +kernel
theorem dX6_bringIn_4 : decode cX6_bringIn 4 = .ok (.invokevirtual 291, 3) := by decide +kernel
theorem dX6_bringIn_7 : decode cX6_bringIn 7 = .ok (.istore_n 2, 1) := by decide +kernel
theorem dX6_bringIn_8 : decode cX6_bringIn 8 = .ok (.iload_n 2, 1) := by decide +kernel
theorem dX6_bringIn_9 : decode cX6_bringIn 9 = .ok (.iconst (-1), 1) := by decide +kernel
theorem dX6_bringIn_10 : decode cX6_bringIn 10 = .ok (.if_icmp .ne 41, 3) := by decide +kernel
theorem dX6_bringIn_13 : decode cX6_bringIn 13 = .ok (.aload_n 0, 1) := by decide +kernel
theorem dX6_bringIn_14 : decode cX6_bringIn 14 = .ok (.getfield 49, 3) := by decide +kernel
theorem dX6_bringIn_17 : decode cX6_bringIn 17 = .ok (.invokevirtual 294, 3) := by decide +kernel
theorem dX6_bringIn_20 : decode cX6_bringIn 20 = .ok (.aload_n 0, 1) := by decide +kernel
theorem dX6_bringIn_21 : decode cX6_bringIn 21 = .ok (.invokevirtual 297, 3) := by decide +kernel
theorem dX6_bringIn_24 : decode cX6_bringIn 24 = .ok (.istore_n 2, 1) := by decide +kernel
theorem dX6_bringIn_25 : decode cX6_bringIn 25 = .ok (.iload_n 2, 1) := by decide +kernel
theorem dX6_bringIn_26 : decode cX6_bringIn 26 = .ok (.iconst (-1), 1) := by decide +kernel
theorem dX6_bringIn_27 : decode cX6_bringIn 27 = .ok (.if_icmp .ne 10, 3) := by decide +kernel
theorem dX6_bringIn_30 : decode cX6_bringIn 30 = .ok (.aload_n 0, 1) := by decide +kernel
theorem dX6_bringIn_31 : decode cX6_bringIn 31 = .ok (.invokevirtual 300, 3) := by decide +kernel
theorem dX6_bringIn_34 : decode cX6_bringIn 34 = .ok (.goto 4, 3) := by decide +kernel
theorem dX6_bringIn_37 : decode cX6_bringIn 37 = .ok (.iload_n 2, 1) := by decide +kernel
theorem dX6_bringIn_38 : decode cX6_bringIn 38 = .ok (.istore_n 2, 1) := by decide +kernel
theorem dX6_bringIn_39 : decode cX6_bringIn 39 = .ok (.iload_n 2, 1) := by decide +kernel
theorem dX6_bringIn_40 : decode cX6_bringIn 40 = .ok (.iconst (-1), 1) := by decide +kernel
theorem dX6_bringIn_41 : decode cX6_bringIn 41 = .ok (.if_icmp .ne 5, 3) := by decide +kernel
theorem dX6_bringIn_44 : decode cX6_bringIn 44 = .ok (.iconst (-1), 1) := by decide +kernel
theorem dX6_bringIn_45 : decode cX6_bringIn 45 = .ok (.ireturn, 1) := by decide +kernel
theorem dX6_bringIn_46 : decode cX6_bringIn 46 = .ok (.aload_n 0, 1) := by decide +kernel
theorem dX6_bringIn_47 : decode cX6_bringIn 47 = .ok (.iload_n 2, 1) := by decide +kernel
theorem dX6_bringIn_48 : decode cX6_bringIn 48 = .ok (.invokevirtual 150, 3) := by decide +kernel
theorem dX6_bringIn_51 : decode cX6_bringIn 51 = .ok (.aload_n 0, 1) := by decide +kernel
theorem dX6_bringIn_52 : decode cX6_bringIn 52 = .ok (.getfield 9, 3) := by decide +kernel
theorem dX6_bringIn_55 : decode cX6_bringIn 55 = .ok (.iload_n 1, 1) := by decide +kernel
theorem dX6_bringIn_56 : decode cX6_bringIn 56 = .ok (.iaload, 1) := by decide +kernel
theorem dX6_bringIn_57 : decode cX6_bringIn 57 = .ok (.iconst (-1), 1) := by decide +kernel
theorem dX6_bringIn_58 : decode cX6_bringIn 58 = .ok (.if_icmp .ne 26, 3) := by decide +kernel
theorem dX6_bringIn_61 : decode cX6_bringIn 61 = .ok (.aload_n 0, 1) := by decide +kernel
theorem dX6_bringIn_62 : decode cX6_bringIn 62 = .ok (.getfield 49, 3) := by decide +kernel
theorem dX6_bringIn_65 : decode cX6_bringIn 65 = .ok (.getfield 266, 3) := by decide +kernel
theorem dX6_bringIn_68 : decode cX6_bringIn 68 = .ok (.iload_n 2, 1) := by decide +kernel
theorem dX6_bringIn_69 : decode cX6_bringIn 69 = .ok (.bipush 64, 2) := by decide +kernel
theorem dX6_bringIn_71 : decode cX6_bringIn 71 = .ok (.imul, 1) := by decide +kernel
theorem dX6_bringIn_72 : decode cX6_bringIn 72 = .ok (.iload_n 2, 1) := by decide +kernel
theorem dX6_bringIn_73 : decode cX6_bringIn 73 = .ok (.iconst 1, 1) := by decide +kernel
theorem dX6_bringIn_74 : decode cX6_bringIn 74 = .ok (.iadd, 1) := by decide +kernel
theorem dX6_bringIn_75 : decode cX6_bringIn 75 = .ok (.bipush 64, 2) := by decide +kernel
theorem dX6_bringIn_77 : decode cX6_bringIn 77 = .ok (.imul, 1) := by decide +kernel
theorem dX6_bringIn_78 : decode cX6_bringIn 78 = .ok (.invokevirtual 279, 3) := by decide +kernel
theorem dX6_bringIn_81 : decode cX6_bringIn 81 = .ok (.goto 24, 3) := by decide +kernel
theorem dX6_bringIn_84 : decode cX6_bringIn 84 = .ok (.aload_n 0, 1) := by decide +kernel
theorem dX6_bringIn_85 : decode cX6_bringIn 85 = .ok (.getfield 35, 3) := by decide +kernel
theorem dX6_bringIn_88 : decode cX6_bringIn 88 = .ok (.aload_n 0, 1) := by decide +kernel
theorem dX6_bringIn_89 : decode cX6_bringIn 89 = .ok (.getfield 9, 3) := by decide +kernel
theorem dX6_bringIn_92 : decode cX6_bringIn 92 = .ok (.iload_n 1, 1) := by decide +kernel
theorem dX6_bringIn_93 : decode cX6_bringIn 93 = .ok (.iaload, 1) := by decide +kernel
theorem dX6_bringIn_94 : decode cX6_bringIn 94 = .ok (.aload_n 0, 1) := by decide +kernel
theorem dX6_bringIn_95 : decode cX6_bringIn 95 = .ok (.getfield 49, 3) := by decide +kernel
theorem dX6_bringIn_98 : decode cX6_bringIn 98 = .ok (.getfield 266, 3) := by decide +kernel
theorem dX6_bringIn_101 : decode cX6_bringIn 101 = .ok (.iload_n 2, 1) := by decide +kernel
theorem dX6_bringIn_102 : decode cX6_bringIn 102 = .ok (.invokevirtual 303, 3) := by decide +kernel
theorem dX6_bringIn_105 : decode cX6_bringIn 105 = .ok (.aload_n 0, 1) := by decide +kernel
theorem dX6_bringIn_106 : decode cX6_bringIn 106 = .ok (.getfield 56, 3) := by decide +kernel
theorem dX6_bringIn_109 : decode cX6_bringIn 109 = .ok (.iload_n 1, 1) := by decide +kernel
theorem dX6_bringIn_110 : decode cX6_bringIn 110 = .ok (.aload_n 0, 1) := by decide +kernel
theorem dX6_bringIn_111 : decode cX6_bringIn 111 = .ok (.getfield 49, 3) := by decide +kernel
theorem dX6_bringIn_114 : decode cX6_bringIn 114 = .ok (.getfield 214, 3) := by decide +kernel
theorem dX6_bringIn_117 : decode cX6_bringIn 117 = .ok (.getfield 244, 3) := by decide +kernel
theorem dX6_bringIn_120 : decode cX6_bringIn 120 = .ok (.invokevirtual 307, 3) := by decide +kernel
theorem dX6_bringIn_123 : decode cX6_bringIn 123 = .ok (.istore_n 3, 1) := by decide +kernel
theorem dX6_bringIn_124 : decode cX6_bringIn 124 = .ok (.aload_n 0, 1) := by decide +kernel
theorem dX6_bringIn_125 : decode cX6_bringIn 125 = .ok (.getfield 56, 3) := by decide +kernel
theorem dX6_bringIn_128 : decode cX6_bringIn 128 = .ok (.iload_n 1, 1) := by decide +kernel
theorem dX6_bringIn_129 : decode cX6_bringIn 129 = .ok (.invokevirtual 282, 3) := by decide +kernel
theorem dX6_bringIn_132 : decode cX6_bringIn 132 = .ok (.aload_n 0, 1) := by decide +kernel
theorem dX6_bringIn_133 : decode cX6_bringIn 133 = .ok (.getfield 49, 3) := by decide +kernel
theorem dX6_bringIn_136 : decode cX6_bringIn 136 = .ok (.iload_n 2, 1) := by decide +kernel
theorem dX6_bringIn_137 : decode cX6_bringIn 137 = .ok (.iload_n 1, 1) := by decide +kernel
theorem dX6_bringIn_138 : decode cX6_bringIn 138 = .ok (.iload_n 3, 1) := by decide +kernel
theorem dX6_bringIn_139 : decode cX6_bringIn 139 = .ok (.invokevirtual 310, 3) := by decide +kernel
theorem dX6_bringIn_142 : decode cX6_bringIn 142 = .ok (.iload_n 2, 1) := by decide +kernel
theorem dX6_bringIn_143 : decode cX6_bringIn 143 = .ok (.ireturn, 1) := by decide +kernel
theorem dX6_lookAtInactive_0 : decode cX6_lookAtInactive 0 = .ok (.iconst 0, 1) := by decide +kernel
theorem dX6_lookAtInactive_1 : decode cX6_lookAtInactive 1 = .ok (.istore_n 1, 1) := by decide +kernel
theorem dX6_lookAtInactive_2 : decode cX6_lookAtInactive 2 = .ok (.iload_n 1, 1) := by decide +kernel
theorem dX6_lookAtInactive_3 : decode cX6_lookAtInactive 3 = .ok (.iconst 2, 1) := by decide +kernel
theorem dX6_lookAtInactive_4 : decode cX6_lookAtInactive 4 = .ok (.aload_n 0, 1) := by decide +kernel
theorem dX6_lookAtInactive_5 : decode cX6_lookAtInactive 5 = .ok (.getfield 49, 3) := by decide +kernel
theorem dX6_lookAtInactive_8 : decode cX6_lookAtInactive 8 = .ok (.getfield 136, 3) := by decide +kernel
theorem dX6_lookAtInactive_11 : decode cX6_lookAtInactive 11 = .ok (.imul, 1) := by decide +kernel
theorem dX6_lookAtInactive_12 : decode cX6_lookAtInactive 12 = .ok (.if_icmp .ge 118, 3) := by decide +kernel
theorem dX6_lookAtInactive_15 : decode cX6_lookAtInactive 15 = .ok (.aload_n 0, 1) := by decide +kernel
theorem dX6_lookAtInactive_16 : decode cX6_lookAtInactive 16 = .ok (.getfield 49, 3) := by decide +kernel
theorem dX6_lookAtInactive_19 : decode cX6_lookAtInactive 19 = .ok (.getfield 223, 3) := by decide +kernel
theorem dX6_lookAtInactive_22 : decode cX6_lookAtInactive 22 = .ok (.invokevirtual 314, 3) := by decide +kernel
theorem dX6_lookAtInactive_25 : decode cX6_lookAtInactive 25 = .ok (.istore_n 2, 1) := by decide +kernel
theorem dX6_lookAtInactive_26 : decode cX6_lookAtInactive 26 = .ok (.iload_n 2, 1) := by decide +kernel
theorem dX6_lookAtInactive_27 : decode cX6_lookAtInactive 27 = .ok (.iconst (-1), 1) := by decide +kernel
theorem dX6_lookAtInactive_28 : decode cX6_lookAtInactive 28 = .ok (.if_icmp .ne 5, 3) := by decide +kernel
theorem dX6_lookAtInactive_31 : decode cX6_lookAtInactive 31 = .ok (.iconst (-1), 1) := by decide +kernel
theorem dX6_lookAtInactive_32 : decode cX6_lookAtInactive 32 = .ok (.ireturn, 1) := by decide +kernel
theorem dX6_lookAtInactive_33 : decode cX6_lookAtInactive 33 = .ok (.aload_n 0, 1) := by decide +kernel
theorem dX6_lookAtInactive_34 : decode cX6_lookAtInactive 34 = .ok (.getfield 49, 3) := by decide +kernel
theorem dX6_lookAtInactive_37 : decode cX6_lookAtInactive 37 = .ok (.getfield 146, 3) := by decide +kernel
theorem dX6_lookAtInactive_40 : decode cX6_lookAtInactive 40 = .ok (.iload_n 2, 1) := by decide +kernel
theorem dX6_lookAtInactive_41 : decode cX6_lookAtInactive 41 = .ok (.baload, 1) := by decide +kernel
theorem dX6_lookAtInactive_42 : decode cX6_lookAtInactive 42 = .ok (.ifCond .eq 15, 3) := by decide +kernel
theorem dX6_lookAtInactive_45 : decode cX6_lookAtInactive 45 = .ok (.aload_n 0, 1) := by decide +kernel
theorem dX6_lookAtInactive_46 : decode cX6_lookAtInactive 46 = .ok (.getfield 49, 3) := by decide +kernel
theorem dX6_lookAtInactive_49 : decode cX6_lookAtInactive 49 = .ok (.iload_n 2, 1) := by decide +kernel
theorem dX6_lookAtInactive_50 : decode cX6_lookAtInactive 50 = .ok (.iconst 0, 1) := by decide +kernel
theorem dX6_lookAtInactive_51 : decode cX6_lookAtInactive 51 = .ok (.invokevirtual 317, 3) := by decide +kernel
theorem dX6_lookAtInactive_54 : decode cX6_lookAtInactive 54 = .ok (.goto 70, 3) := by decide +kernel
theorem dX6_lookAtInactive_57 : decode cX6_lookAtInactive 57 = .ok (.aload_n 0, 1) := by decide +kernel
theorem dX6_lookAtInactive_58 : decode cX6_lookAtInactive 58 = .ok (.getfield 49, 3) := by decide +kernel
theorem dX6_lookAtInactive_61 : decode cX6_lookAtInactive 61 = .ok (.getfield 190, 3) := by decide +kernel
theorem dX6_lookAtInactive_64 : decode cX6_lookAtInactive 64 = .ok (.iload_n 2, 1) := by decide +kernel
theorem dX6_lookAtInactive_65 : decode cX6_lookAtInactive 65 = .ok (.baload, 1) := by decide +kernel
theorem dX6_lookAtInactive_66 : decode cX6_lookAtInactive 66 = .ok (.ifCond .eq 25, 3) := by decide +kernel
theorem dX6_lookAtInactive_69 : decode cX6_lookAtInactive 69 = .ok (.aload_n 0, 1) := by decide +kernel
theorem dX6_lookAtInactive_70 : decode cX6_lookAtInactive 70 = .ok (.getfield 49, 3) := by decide +kernel
theorem dX6_lookAtInactive_73 : decode cX6_lookAtInactive 73 = .ok (.getfield 190, 3) := by decide +kernel
theorem dX6_lookAtInactive_76 : decode cX6_lookAtInactive 76 = .ok (.iload_n 2, 1) := by decide +kernel
theorem dX6_lookAtInactive_77 : decode cX6_lookAtInactive 77 = .ok (.iconst 0, 1) := by decide +kernel
theorem dX6_lookAtInactive_78 : decode cX6_lookAtInactive 78 = .ok (.bastore, 1) := by decide +kernel
theorem dX6_lookAtInactive_79 : decode cX6_lookAtInactive 79 = .ok (.aload_n 0, 1) := by decide +kernel
theorem dX6_lookAtInactive_80 : decode cX6_lookAtInactive 80 = .ok (.getfield 49, 3) := by decide +kernel
theorem dX6_lookAtInactive_83 : decode cX6_lookAtInactive 83 = .ok (.iload_n 2, 1) := by decide +kernel
theorem dX6_lookAtInactive_84 : decode cX6_lookAtInactive 84 = .ok (.iconst 1, 1) := by decide +kernel
theorem dX6_lookAtInactive_85 : decode cX6_lookAtInactive 85 = .ok (.invokevirtual 317, 3) := by decide +kernel
theorem dX6_lookAtInactive_88 : decode cX6_lookAtInactive 88 = .ok (.goto 36, 3) := by decide +kernel
theorem dX6_lookAtInactive_91 : decode cX6_lookAtInactive 91 = .ok (.aload_n 0, 1) := by decide +kernel
theorem dX6_lookAtInactive_92 : decode cX6_lookAtInactive 92 = .ok (.getfield 49, 3) := by decide +kernel
theorem dX6_lookAtInactive_95 : decode cX6_lookAtInactive 95 = .ok (.iload_n 2, 1) := by decide +kernel
theorem dX6_lookAtInactive_96 : decode cX6_lookAtInactive 96 = .ok (.invokevirtual 121, 3) := by decide +kernel
theorem dX6_lookAtInactive_99 : decode cX6_lookAtInactive 99 = .ok (.ifCond .eq 23, 3) := by decide +kernel
theorem dX6_lookAtInactive_102 : decode cX6_lookAtInactive 102 = .ok (.aload_n 0, 1) := by decide +kernel
theorem dX6_lookAtInactive_103 : decode cX6_lookAtInactive 103 = .ok (.iload_n 2, 1) := by decide +kernel
theorem dX6_lookAtInactive_104 : decode cX6_lookAtInactive 104 = .ok (.invokevirtual 124, 3) := by decide +kernel
theorem dX6_lookAtInactive_107 : decode cX6_lookAtInactive 107 = .ok (.ifCond .ne 15, 3) := by decide +kernel
theorem dX6_lookAtInactive_110 : decode cX6_lookAtInactive 110 = .ok (.aload_n 0, 1) := by decide +kernel
theorem dX6_lookAtInactive_111 : decode cX6_lookAtInactive 111 = .ok (.getfield 49, 3) := by decide +kernel
theorem dX6_lookAtInactive_114 : decode cX6_lookAtInactive 114 = .ok (.iload_n 2, 1) := by decide +kernel
theorem dX6_lookAtInactive_115 : decode cX6_lookAtInactive 115 = .ok (.iconst 0, 1) := by decide +kernel
theorem dX6_lookAtInactive_116 : decode cX6_lookAtInactive 116 = .ok (.invokevirtual 317, 3) := by decide +kernel
theorem dX6_lookAtInactive_119 : decode cX6_lookAtInactive 119 = .ok (.goto 5, 3) := by decide +kernel
theorem dX6_lookAtInactive_122 : decode cX6_lookAtInactive 122 = .ok (.iload_n 2, 1) := by decide +kernel
theorem dX6_lookAtInactive_123 : decode cX6_lookAtInactive 123 = .ok (.ireturn, 1) := by decide +kernel
theorem dX6_lookAtInactive_124 : decode cX6_lookAtInactive 124 = .ok (.iinc 1 1, 3) := by decide +kernel
theorem dX6_lookAtInactive_127 : decode cX6_lookAtInactive 127 = .ok (.goto (-125), 3) := by decide +kernel
theorem dX6_lookAtInactive_130 : decode cX6_lookAtInactive 130 = .ok (.iconst (-1), 1) := by decide +kernel
theorem dX6_lookAtInactive_131 : decode cX6_lookAtInactive 131 = .ok (.ireturn, 1) := by decide +kernel
theorem dX6_lookAtActive_0 : decode cX6_lookAtActive 0 = .ok (.aload_n 0, 1) := by decide +kernel
theorem dX6_lookAtActive_1 : decode cX6_lookAtActive 1 = .ok (.getfield 49, 3) := by decide +kernel
theorem dX6_lookAtActive_4 : decode cX6_lookAtActive 4 = .ok (.getfield 214, 3) := by decide +kernel
theorem dX6_lookAtActive_7 : decode cX6_lookAtActive 7 = .ok (.getfield 244, 3) := by decide +kernel
theorem dX6_lookAtActive_10 : decode cX6_lookAtActive 10 = .ok (.iconst 1, 1) := by decide +kernel
theorem dX6_lookAtActive_11 : decode cX6_lookAtActive 11 = .ok (.isub, 1) := by decide +kernel
theorem dX6_lookAtActive_12 : decode cX6_lookAtActive 12 = .ok (.istore_n 1, 1) := by decide +kernel
theorem dX6_lookAtActive_13 : decode cX6_lookAtActive 13 = .ok (.iload_n 1, 1) := by decide +kernel
theorem dX6_lookAtActive_14 : decode cX6_lookAtActive 14 = .ok (.ifCond .lt 59, 3) := by decide +kernel
theorem dX6_lookAtActive_17 : decode cX6_lookAtActive 17 = .ok (.aload_n 0, 1) := by decide +kernel
theorem dX6_lookAtActive_18 : decode cX6_lookAtActive 18 = .ok (.getfield 49, 3) := by decide +kernel
theorem dX6_lookAtActive_21 : decode cX6_lookAtActive 21 = .ok (.getfield 214, 3) := by decide +kernel
theorem dX6_lookAtActive_24 : decode cX6_lookAtActive 24 = .ok (.iload_n 1, 1) := by decide +kernel
theorem dX6_lookAtActive_25 : decode cX6_lookAtActive 25 = .ok (.invokevirtual 218, 3) := by decide +kernel
theorem dX6_lookAtActive_28 : decode cX6_lookAtActive 28 = .ok (.istore_n 2, 1) := by decide +kernel
theorem dX6_lookAtActive_29 : decode cX6_lookAtActive 29 = .ok (.iload_n 2, 1) := by decide +kernel
theorem dX6_lookAtActive_30 : decode cX6_lookAtActive 30 = .ok (.iconst (-1), 1) := by decide +kernel
theorem dX6_lookAtActive_31 : decode cX6_lookAtActive 31 = .ok (.if_icmp .eq 36, 3) := by decide +kernel
theorem dX6_lookAtActive_34 : decode cX6_lookAtActive 34 = .ok (.aload_n 0, 1) := by decide +kernel
theorem dX6_lookAtActive_35 : decode cX6_lookAtActive 35 = .ok (.getfield 49, 3) := by decide +kernel
theorem dX6_lookAtActive_38 : decode cX6_lookAtActive 38 = .ok (.getfield 146, 3) := by decide +kernel
theorem dX6_lookAtActive_41 : decode cX6_lookAtActive 41 = .ok (.iload_n 2, 1) := by decide +kernel
theorem dX6_lookAtActive_42 : decode cX6_lookAtActive 42 = .ok (.baload, 1) := by decide +kernel
theorem dX6_lookAtActive_43 : decode cX6_lookAtActive 43 = .ok (.ifCond .ne 24, 3) := by decide +kernel
theorem dX6_lookAtActive_46 : decode cX6_lookAtActive 46 = .ok (.aload_n 0, 1) := by decide +kernel
theorem dX6_lookAtActive_47 : decode cX6_lookAtActive 47 = .ok (.getfield 49, 3) := by decide +kernel
theorem dX6_lookAtActive_50 : decode cX6_lookAtActive 50 = .ok (.iload_n 2, 1) := by decide +kernel
theorem dX6_lookAtActive_51 : decode cX6_lookAtActive 51 = .ok (.invokevirtual 121, 3) := by decide +kernel
theorem dX6_lookAtActive_54 : decode cX6_lookAtActive 54 = .ok (.ifCond .eq 11, 3) := by decide +kernel
theorem dX6_lookAtActive_57 : decode cX6_lookAtActive 57 = .ok (.aload_n 0, 1) := by decide +kernel
theorem dX6_lookAtActive_58 : decode cX6_lookAtActive 58 = .ok (.iload_n 2, 1) := by decide +kernel
theorem dX6_lookAtActive_59 : decode cX6_lookAtActive 59 = .ok (.invokevirtual 124, 3) := by decide +kernel
theorem dX6_lookAtActive_62 : decode cX6_lookAtActive 62 = .ok (.ifCond .eq 5, 3) := by decide +kernel
theorem dX6_lookAtActive_65 : decode cX6_lookAtActive 65 = .ok (.iload_n 2, 1) := by decide +kernel
theorem dX6_lookAtActive_66 : decode cX6_lookAtActive 66 = .ok (.ireturn, 1) := by decide +kernel
theorem dX6_lookAtActive_67 : decode cX6_lookAtActive 67 = .ok (.iinc 1 (-1), 3) := by decide +kernel
theorem dX6_lookAtActive_70 : decode cX6_lookAtActive 70 = .ok (.goto (-57), 3) := by decide +kernel
theorem dX6_lookAtActive_73 : decode cX6_lookAtActive 73 = .ok (.iconst (-1), 1) := by decide +kernel
theorem dX6_lookAtActive_74 : decode cX6_lookAtActive 74 = .ok (.ireturn, 1) := by decide +kernel
theorem dX6_evict_0 : decode cX6_evict 0 = .ok (.aload_n 0, 1) := by decide +kernel
theorem dX6_evict_1 : decode cX6_evict 1 = .ok (.getfield 49, 3) := by decide +kernel
theorem dX6_evict_4 : decode cX6_evict 4 = .ok (.iload_n 1, 1) := by decide +kernel
theorem dX6_evict_5 : decode cX6_evict 5 = .ok (.invokevirtual 320, 3) := by decide +kernel
theorem dX6_evict_8 : decode cX6_evict 8 = .ok (.istore_n 2, 1) := by decide +kernel
theorem dX6_evict_9 : decode cX6_evict 9 = .ok (.aload_n 0, 1) := by decide +kernel
theorem dX6_evict_10 : decode cX6_evict 10 = .ok (.getfield 49, 3) := by decide +kernel
theorem dX6_evict_13 : decode cX6_evict 13 = .ok (.iload_n 1, 1) := by decide +kernel
theorem dX6_evict_14 : decode cX6_evict 14 = .ok (.invokevirtual 156, 3) := by decide +kernel
theorem dX6_evict_17 : decode cX6_evict 17 = .ok (.aload_n 0, 1) := by decide +kernel
theorem dX6_evict_18 : decode cX6_evict 18 = .ok (.getfield 56, 3) := by decide +kernel
theorem dX6_evict_21 : decode cX6_evict 21 = .ok (.iload_n 2, 1) := by decide +kernel
theorem dX6_evict_22 : decode cX6_evict 22 = .ok (.invokevirtual 323, 3) := by decide +kernel
theorem dX6_evict_25 : decode cX6_evict 25 = .ok (.return_, 1) := by decide +kernel
theorem dX6_flush_0 : decode cX6_flush 0 = .ok (.aload_n 0, 1) := by decide +kernel
theorem dX6_flush_1 : decode cX6_flush 1 = .ok (.getfield 49, 3) := by decide +kernel
theorem dX6_flush_4 : decode cX6_flush 4 = .ok (.iload_n 1, 1) := by decide +kernel
theorem dX6_flush_5 : decode cX6_flush 5 = .ok (.invokevirtual 320, 3) := by decide +kernel
theorem dX6_flush_8 : decode cX6_flush 8 = .ok (.istore_n 2, 1) := by decide +kernel
theorem dX6_flush_9 : decode cX6_flush 9 = .ok (.iload_n 2, 1) := by decide +kernel
theorem dX6_flush_10 : decode cX6_flush 10 = .ok (.iconst (-1), 1) := by decide +kernel
theorem dX6_flush_11 : decode cX6_flush 11 = .ok (.if_icmp .eq 11, 3) := by decide +kernel
theorem dX6_flush_14 : decode cX6_flush 14 = .ok (.aload_n 0, 1) := by decide +kernel
theorem dX6_flush_15 : decode cX6_flush 15 = .ok (.iload_n 2, 1) := by decide +kernel
theorem dX6_flush_16 : decode cX6_flush 16 = .ok (.invokevirtual 130, 3) := by decide +kernel
theorem dX6_flush_19 : decode cX6_flush 19 = .ok (.ifCond .ne 5, 3) := by decide +kernel
theorem dX6_flush_22 : decode cX6_flush 22 = .ok (.iconst 0, 1) := by decide +kernel
theorem dX6_flush_23 : decode cX6_flush 23 = .ok (.ireturn, 1) := by decide +kernel
theorem dX6_flush_24 : decode cX6_flush 24 = .ok (.iload_n 2, 1) := by decide +kernel
theorem dX6_flush_25 : decode cX6_flush 25 = .ok (.sipush 256, 3) := by decide +kernel
theorem dX6_flush_28 : decode cX6_flush 28 = .ok (.idiv, 1) := by decide +kernel
theorem dX6_flush_29 : decode cX6_flush 29 = .ok (.istore_n 3, 1) := by decide +kernel
theorem dX6_flush_30 : decode cX6_flush 30 = .ok (.aload_n 0, 1) := by decide +kernel
theorem dX6_flush_31 : decode cX6_flush 31 = .ok (.getfield 42, 3) := by decide +kernel
theorem dX6_flush_34 : decode cX6_flush 34 = .ok (.getfield 73, 3) := by decide +kernel
theorem dX6_flush_37 : decode cX6_flush 37 = .ok (.iload_n 3, 1) := by decide +kernel
theorem dX6_flush_38 : decode cX6_flush 38 = .ok (.iaload, 1) := by decide +kernel
theorem dX6_flush_39 : decode cX6_flush 39 = .ok (.iload_n 2, 1) := by decide +kernel
theorem dX6_flush_40 : decode cX6_flush 40 = .ok (.sipush 256, 3) := by decide +kernel
theorem dX6_flush_43 : decode cX6_flush 43 = .ok (.irem, 1) := by decide +kernel
theorem dX6_flush_44 : decode cX6_flush 44 = .ok (.bipush 64, 2) := by decide +kernel
theorem dX6_flush_46 : decode cX6_flush 46 = .ok (.imul, 1) := by decide +kernel
theorem dX6_flush_47 : decode cX6_flush 47 = .ok (.isub, 1) := by decide +kernel
theorem dX6_flush_48 : decode cX6_flush 48 = .ok (.istore 4, 2) := by decide +kernel
theorem dX6_flush_50 : decode cX6_flush 50 = .ok (.aload_n 0, 1) := by decide +kernel
theorem dX6_flush_51 : decode cX6_flush 51 = .ok (.getfield 35, 3) := by decide +kernel
theorem dX6_flush_54 : decode cX6_flush 54 = .ok (.aload_n 0, 1) := by decide +kernel
theorem dX6_flush_55 : decode cX6_flush 55 = .ok (.getfield 9, 3) := by decide +kernel
theorem dX6_flush_58 : decode cX6_flush 58 = .ok (.iload_n 2, 1) := by decide +kernel
theorem dX6_flush_59 : decode cX6_flush 59 = .ok (.iaload, 1) := by decide +kernel
theorem dX6_flush_60 : decode cX6_flush 60 = .ok (.aload_n 0, 1) := by decide +kernel
theorem dX6_flush_61 : decode cX6_flush 61 = .ok (.getfield 49, 3) := by decide +kernel
theorem dX6_flush_64 : decode cX6_flush 64 = .ok (.getfield 266, 3) := by decide +kernel
theorem dX6_flush_67 : decode cX6_flush 67 = .ok (.iload_n 1, 1) := by decide +kernel
theorem dX6_flush_68 : decode cX6_flush 68 = .ok (.iload 4, 2) := by decide +kernel
theorem dX6_flush_70 : decode cX6_flush 70 = .ok (.invokevirtual 326, 3) := by decide +kernel
theorem dX6_flush_73 : decode cX6_flush 73 = .ok (.ifCond .ne 15, 3) := by decide +kernel
theorem dX6_flush_76 : decode cX6_flush 76 = .ok (.aload_n 0, 1) := by decide +kernel
theorem dX6_flush_77 : decode cX6_flush 77 = .ok (.getfield 42, 3) := by decide +kernel
theorem dX6_flush_80 : decode cX6_flush 80 = .ok (.iload_n 3, 1) := by decide +kernel
theorem dX6_flush_81 : decode cX6_flush 81 = .ok (.bipush (-5), 2) := by decide +kernel
theorem dX6_flush_83 : decode cX6_flush 83 = .ok (.invokevirtual 330, 3) := by decide +kernel
theorem dX6_flush_86 : decode cX6_flush 86 = .ok (.iconst 0, 1) := by decide +kernel
theorem dX6_flush_87 : decode cX6_flush 87 = .ok (.ireturn, 1) := by decide +kernel
theorem dX6_flush_88 : decode cX6_flush 88 = .ok (.aload_n 0, 1) := by decide +kernel
theorem dX6_flush_89 : decode cX6_flush 89 = .ok (.getfield 49, 3) := by decide +kernel
theorem dX6_flush_92 : decode cX6_flush 92 = .ok (.iload_n 1, 1) := by decide +kernel
theorem dX6_flush_93 : decode cX6_flush 93 = .ok (.invokevirtual 333, 3) := by decide +kernel
theorem dX6_flush_96 : decode cX6_flush 96 = .ok (.iconst 1, 1) := by decide +kernel
theorem dX6_flush_97 : decode cX6_flush 97 = .ok (.ireturn, 1) := by decide +kernel
theorem dX6_giveBlock_0 : decode cX6_giveBlock 0 = .ok (.aload_n 0, 1) := by decide +kernel
theorem dX6_giveBlock_1 : decode cX6_giveBlock 1 = .ok (.getfield 9, 3) := by decide +kernel
theorem dX6_giveBlock_4 : decode cX6_giveBlock 4 = .ok (.iload_n 1, 1) := by decide +kernel
theorem dX6_giveBlock_5 : decode cX6_giveBlock 5 = .ok (.iaload, 1) := by decide +kernel
theorem dX6_giveBlock_6 : decode cX6_giveBlock 6 = .ok (.iconst (-1), 1) := by decide +kernel
theorem dX6_giveBlock_7 : decode cX6_giveBlock 7 = .ok (.if_icmp .ne 16, 3) := by decide +kernel
theorem dX6_giveBlock_10 : decode cX6_giveBlock 10 = .ok (.aload_n 0, 1) := by decide +kernel
theorem dX6_giveBlock_11 : decode cX6_giveBlock 11 = .ok (.getfield 9, 3) := by decide +kernel
theorem dX6_giveBlock_14 : decode cX6_giveBlock 14 = .ok (.iload_n 1, 1) := by decide +kernel
theorem dX6_giveBlock_15 : decode cX6_giveBlock 15 = .ok (.aload_n 0, 1) := by decide +kernel
theorem dX6_giveBlock_16 : decode cX6_giveBlock 16 = .ok (.getfield 35, 3) := by decide +kernel
theorem dX6_giveBlock_19 : decode cX6_giveBlock 19 = .ok (.invokevirtual 336, 3) := by decide +kernel
theorem dX6_giveBlock_22 : decode cX6_giveBlock 22 = .ok (.iastore, 1) := by decide +kernel
theorem dX6_giveBlock_23 : decode cX6_giveBlock 23 = .ok (.aload_n 0, 1) := by decide +kernel
theorem dX6_giveBlock_24 : decode cX6_giveBlock 24 = .ok (.getfield 9, 3) := by decide +kernel
theorem dX6_giveBlock_27 : decode cX6_giveBlock 27 = .ok (.iload_n 1, 1) := by decide +kernel
theorem dX6_giveBlock_28 : decode cX6_giveBlock 28 = .ok (.iaload, 1) := by decide +kernel
theorem dX6_giveBlock_29 : decode cX6_giveBlock 29 = .ok (.iconst (-1), 1) := by decide +kernel
theorem dX6_giveBlock_30 : decode cX6_giveBlock 30 = .ok (.if_icmp .ne 19, 3) := by decide +kernel
theorem dX6_giveBlock_33 : decode cX6_giveBlock 33 = .ok (.aload_n 0, 1) := by decide +kernel
theorem dX6_giveBlock_34 : decode cX6_giveBlock 34 = .ok (.getfield 42, 3) := by decide +kernel
theorem dX6_giveBlock_37 : decode cX6_giveBlock 37 = .ok (.iload_n 1, 1) := by decide +kernel
theorem dX6_giveBlock_38 : decode cX6_giveBlock 38 = .ok (.sipush 256, 3) := by decide +kernel
theorem dX6_giveBlock_41 : decode cX6_giveBlock 41 = .ok (.idiv, 1) := by decide +kernel
theorem dX6_giveBlock_42 : decode cX6_giveBlock 42 = .ok (.bipush (-4), 2) := by decide +kernel
theorem dX6_giveBlock_44 : decode cX6_giveBlock 44 = .ok (.invokevirtual 330, 3) := by decide +kernel
theorem dX6_giveBlock_47 : decode cX6_giveBlock 47 = .ok (.iconst 0, 1) := by decide +kernel
theorem dX6_giveBlock_48 : decode cX6_giveBlock 48 = .ok (.ireturn, 1) := by decide +kernel
theorem dX6_giveBlock_49 : decode cX6_giveBlock 49 = .ok (.iconst 1, 1) := by decide +kernel
theorem dX6_giveBlock_50 : decode cX6_giveBlock 50 = .ok (.ireturn, 1) := by decide +kernel
theorem dX6_writeSurplus_0 : decode cX6_writeSurplus 0 = .ok (.aload_n 0, 1) := by decide +kernel
theorem dX6_writeSurplus_1 : decode cX6_writeSurplus 1 = .ok (.getfield 49, 3) := by decide +kernel
theorem dX6_writeSurplus_4 : decode cX6_writeSurplus 4 = .ok (.getfield 153, 3) := by decide +kernel
theorem dX6_writeSurplus_7 : decode cX6_writeSurplus 7 = .ok (.aload_n 0, 1) := by decide +kernel
theorem dX6_writeSurplus_8 : decode cX6_writeSurplus 8 = .ok (.getfield 49, 3) := by decide +kernel
theorem dX6_writeSurplus_11 : decode cX6_writeSurplus 11 = .ok (.getfield 136, 3) := by decide +kernel
theorem dX6_writeSurplus_14 : decode cX6_writeSurplus 14 = .ok (.iconst 2, 1) := by decide +kernel
theorem dX6_writeSurplus_15 : decode cX6_writeSurplus 15 = .ok (.idiv, 1) := by decide +kernel
theorem dX6_writeSurplus_16 : decode cX6_writeSurplus 16 = .ok (.if_icmp .gt 4, 3) := by decide +kernel
theorem dX6_writeSurplus_19 : decode cX6_writeSurplus 19 = .ok (.return_, 1) := by decide +kernel
theorem dX6_writeSurplus_20 : decode cX6_writeSurplus 20 = .ok (.aload_n 0, 1) := by decide +kernel
theorem dX6_writeSurplus_21 : decode cX6_writeSurplus 21 = .ok (.getfield 49, 3) := by decide +kernel
theorem dX6_writeSurplus_24 : decode cX6_writeSurplus 24 = .ok (.ldc2_w 337, 3) := by decide +kernel
theorem dX6_writeSurplus_27 : decode cX6_writeSurplus 27 = .ok (.invokevirtual 339, 3) := by decide +kernel
theorem dX6_writeSurplus_30 : decode cX6_writeSurplus 30 = .ok (.istore_n 1, 1) := by decide +kernel
theorem dX6_writeSurplus_31 : decode cX6_writeSurplus 31 = .ok (.iconst 0, 1) := by decide +kernel
theorem dX6_writeSurplus_32 : decode cX6_writeSurplus 32 = .ok (.istore_n 2, 1) := by decide +kernel
theorem dX6_writeSurplus_33 : decode cX6_writeSurplus 33 = .ok (.iload_n 2, 1) := by decide +kernel
theorem dX6_writeSurplus_34 : decode cX6_writeSurplus 34 = .ok (.aload_n 0, 1) := by decide +kernel
theorem dX6_writeSurplus_35 : decode cX6_writeSurplus 35 = .ok (.getfield 49, 3) := by decide +kernel
theorem dX6_writeSurplus_38 : decode cX6_writeSurplus 38 = .ok (.getfield 136, 3) := by decide +kernel
theorem dX6_writeSurplus_41 : decode cX6_writeSurplus 41 = .ok (.if_icmp .ge 57, 3) := by decide +kernel
theorem dX6_writeSurplus_44 : decode cX6_writeSurplus 44 = .ok (.iload_n 1, 1) := by decide +kernel
theorem dX6_writeSurplus_45 : decode cX6_writeSurplus 45 = .ok (.iconst (-1), 1) := by decide +kernel
theorem dX6_writeSurplus_46 : decode cX6_writeSurplus 46 = .ok (.if_icmp .eq 52, 3) := by decide +kernel
theorem dX6_writeSurplus_49 : decode cX6_writeSurplus 49 = .ok (.aload_n 0, 1) := by decide +kernel
theorem dX6_writeSurplus_50 : decode cX6_writeSurplus 50 = .ok (.getfield 49, 3) := by decide +kernel
theorem dX6_writeSurplus_53 : decode cX6_writeSurplus 53 = .ok (.getfield 153, 3) := by decide +kernel
theorem dX6_writeSurplus_56 : decode cX6_writeSurplus 56 = .ok (.aload_n 0, 1) := by decide +kernel
theorem dX6_writeSurplus_57 : decode cX6_writeSurplus 57 = .ok (.getfield 49, 3) := by decide +kernel
theorem dX6_writeSurplus_60 : decode cX6_writeSurplus 60 = .ok (.getfield 136, 3) := by decide +kernel
theorem dX6_writeSurplus_63 : decode cX6_writeSurplus 63 = .ok (.iconst 4, 1) := by decide +kernel
theorem dX6_writeSurplus_64 : decode cX6_writeSurplus 64 = .ok (.idiv, 1) := by decide +kernel
theorem dX6_writeSurplus_65 : decode cX6_writeSurplus 65 = .ok (.if_icmp .le 33, 3) := by decide +kernel
theorem dX6_writeSurplus_68 : decode cX6_writeSurplus 68 = .ok (.aload_n 0, 1) := by decide +kernel
theorem dX6_writeSurplus_69 : decode cX6_writeSurplus 69 = .ok (.getfield 49, 3) := by decide +kernel
theorem dX6_writeSurplus_72 : decode cX6_writeSurplus 72 = .ok (.iload_n 1, 1) := by decide +kernel
theorem dX6_writeSurplus_73 : decode cX6_writeSurplus 73 = .ok (.invokevirtual 343, 3) := by decide +kernel
theorem dX6_writeSurplus_76 : decode cX6_writeSurplus 76 = .ok (.lstore_n 3, 1) := by decide +kernel
theorem dX6_writeSurplus_77 : decode cX6_writeSurplus 77 = .ok (.aload_n 0, 1) := by decide +kernel
theorem dX6_writeSurplus_78 : decode cX6_writeSurplus 78 = .ok (.iload_n 1, 1) := by decide +kernel
theorem dX6_writeSurplus_79 : decode cX6_writeSurplus 79 = .ok (.invokevirtual 124, 3) := by decide +kernel
theorem dX6_writeSurplus_82 : decode cX6_writeSurplus 82 = .ok (.pop, 1) := by decide +kernel
theorem dX6_writeSurplus_83 : decode cX6_writeSurplus 83 = .ok (.aload_n 0, 1) := by decide +kernel
theorem dX6_writeSurplus_84 : decode cX6_writeSurplus 84 = .ok (.getfield 49, 3) := by decide +kernel
theorem dX6_writeSurplus_87 : decode cX6_writeSurplus 87 = .ok (.lload_n 3, 1) := by decide +kernel
theorem dX6_writeSurplus_88 : decode cX6_writeSurplus 88 = .ok (.invokevirtual 339, 3) := by decide +kernel
theorem dX6_writeSurplus_91 : decode cX6_writeSurplus 91 = .ok (.istore_n 1, 1) := by decide +kernel
theorem dX6_writeSurplus_92 : decode cX6_writeSurplus 92 = .ok (.iinc 2 1, 3) := by decide +kernel
theorem dX6_writeSurplus_95 : decode cX6_writeSurplus 95 = .ok (.goto (-62), 3) := by decide +kernel
theorem dX6_writeSurplus_98 : decode cX6_writeSurplus 98 = .ok (.return_, 1) := by decide +kernel
theorem dX6_writeAged_0 : decode cX6_writeAged 0 = .ok (.iconst 0, 1) := by decide +kernel
theorem dX6_writeAged_1 : decode cX6_writeAged 1 = .ok (.istore_n 1, 1) := by decide +kernel
theorem dX6_writeAged_2 : decode cX6_writeAged 2 = .ok (.aload_n 0, 1) := by decide +kernel
theorem dX6_writeAged_3 : decode cX6_writeAged 3 = .ok (.getfield 49, 3) := by decide +kernel
theorem dX6_writeAged_6 : decode cX6_writeAged 6 = .ok (.ldc2_w 337, 3) := by decide +kernel
theorem dX6_writeAged_9 : decode cX6_writeAged 9 = .ok (.invokevirtual 339, 3) := by decide +kernel
theorem dX6_writeAged_12 : decode cX6_writeAged 12 = .ok (.istore_n 2, 1) := by decide +kernel
theorem dX6_writeAged_13 : decode cX6_writeAged 13 = .ok (.iconst 0, 1) := by decide +kernel
theorem dX6_writeAged_14 : decode cX6_writeAged 14 = .ok (.istore_n 3, 1) := by decide +kernel
theorem dX6_writeAged_15 : decode cX6_writeAged 15 = .ok (.iload_n 3, 1) := by decide +kernel
theorem dX6_writeAged_16 : decode cX6_writeAged 16 = .ok (.iconst 4, 1) := by decide +kernel
theorem dX6_writeAged_17 : decode cX6_writeAged 17 = .ok (.if_icmp .ge 63, 3) := by decide +kernel
theorem dX6_writeAged_20 : decode cX6_writeAged 20 = .ok (.iload_n 2, 1) := by decide +kernel
theorem dX6_writeAged_21 : decode cX6_writeAged 21 = .ok (.iconst (-1), 1) := by decide +kernel
theorem dX6_writeAged_22 : decode cX6_writeAged 22 = .ok (.if_icmp .eq 58, 3) := by decide +kernel
theorem dX6_writeAged_25 : decode cX6_writeAged 25 = .ok (.aload_n 0, 1) := by decide +kernel
theorem dX6_writeAged_26 : decode cX6_writeAged 26 = .ok (.getfield 29, 3) := by decide +kernel
theorem dX6_writeAged_29 : decode cX6_writeAged 29 = .ok (.aload_n 0, 1) := by decide +kernel
theorem dX6_writeAged_30 : decode cX6_writeAged 30 = .ok (.getfield 49, 3) := by decide +kernel
theorem dX6_writeAged_33 : decode cX6_writeAged 33 = .ok (.getfield 181, 3) := by decide +kernel
theorem dX6_writeAged_36 : decode cX6_writeAged 36 = .ok (.iload_n 2, 1) := by decide +kernel
theorem dX6_writeAged_37 : decode cX6_writeAged 37 = .ok (.iaload, 1) := by decide +kernel
theorem dX6_writeAged_38 : decode cX6_writeAged 38 = .ok (.isub, 1) := by decide +kernel
theorem dX6_writeAged_39 : decode cX6_writeAged 39 = .ok (.iconst 5, 1) := by decide +kernel
theorem dX6_writeAged_40 : decode cX6_writeAged 40 = .ok (.if_icmp .lt 40, 3) := by decide +kernel
theorem dX6_writeAged_43 : decode cX6_writeAged 43 = .ok (.aload_n 0, 1) := by decide +kernel
theorem dX6_writeAged_44 : decode cX6_writeAged 44 = .ok (.getfield 49, 3) := by decide +kernel
theorem dX6_writeAged_47 : decode cX6_writeAged 47 = .ok (.iload_n 2, 1) := by decide +kernel
theorem dX6_writeAged_48 : decode cX6_writeAged 48 = .ok (.invokevirtual 343, 3) := by decide +kernel
theorem dX6_writeAged_51 : decode cX6_writeAged 51 = .ok (.lstore 4, 2) := by decide +kernel
theorem dX6_writeAged_53 : decode cX6_writeAged 53 = .ok (.aload_n 0, 1) := by decide +kernel
theorem dX6_writeAged_54 : decode cX6_writeAged 54 = .ok (.iload_n 2, 1) := by decide +kernel
theorem dX6_writeAged_55 : decode cX6_writeAged 55 = .ok (.invokevirtual 124, 3) := by decide +kernel
theorem dX6_writeAged_58 : decode cX6_writeAged 58 = .ok (.ifCond .eq 6, 3) := by decide +kernel
theorem dX6_writeAged_61 : decode cX6_writeAged 61 = .ok (.iinc 1 1, 3) := by decide +kernel
theorem dX6_writeAged_64 : decode cX6_writeAged 64 = .ok (.aload_n 0, 1) := by decide +kernel
theorem dX6_writeAged_65 : decode cX6_writeAged 65 = .ok (.getfield 49, 3) := by decide +kernel
theorem dX6_writeAged_68 : decode cX6_writeAged 68 = .ok (.lload 4, 2) := by decide +kernel
theorem dX6_writeAged_70 : decode cX6_writeAged 70 = .ok (.invokevirtual 339, 3) := by decide +kernel
theorem dX6_writeAged_73 : decode cX6_writeAged 73 = .ok (.istore_n 2, 1) := by decide +kernel
theorem dX6_writeAged_74 : decode cX6_writeAged 74 = .ok (.iinc 3 1, 3) := by decide +kernel
theorem dX6_writeAged_77 : decode cX6_writeAged 77 = .ok (.goto (-62), 3) := by decide +kernel
theorem dX6_writeAged_80 : decode cX6_writeAged 80 = .ok (.iload_n 1, 1) := by decide +kernel
theorem dX6_writeAged_81 : decode cX6_writeAged 81 = .ok (.ireturn, 1) := by decide +kernel
theorem dX6_leastDirtyBlock_0 : decode cX6_leastDirtyBlock 0 = .ok (.iconst (-1), 1) := by decide +kernel
theorem dX6_leastDirtyBlock_1 : decode cX6_leastDirtyBlock 1 = .ok (.istore_n 2, 1) := by decide +kernel
theorem dX6_leastDirtyBlock_2 : decode cX6_leastDirtyBlock 2 = .ok (.iconst 0, 1) := by decide +kernel
theorem dX6_leastDirtyBlock_3 : decode cX6_leastDirtyBlock 3 = .ok (.istore_n 3, 1) := by decide +kernel
theorem dX6_leastDirtyBlock_4 : decode cX6_leastDirtyBlock 4 = .ok (.iload_n 3, 1) := by decide +kernel
theorem dX6_leastDirtyBlock_5 : decode cX6_leastDirtyBlock 5 = .ok (.aload_n 0, 1) := by decide +kernel
theorem dX6_leastDirtyBlock_6 : decode cX6_leastDirtyBlock 6 = .ok (.getfield 49, 3) := by decide +kernel
theorem dX6_leastDirtyBlock_9 : decode cX6_leastDirtyBlock 9 = .ok (.getfield 136, 3) := by decide +kernel
theorem dX6_leastDirtyBlock_12 : decode cX6_leastDirtyBlock 12 = .ok (.if_icmp .ge 36, 3) := by decide +kernel
theorem dX6_leastDirtyBlock_15 : decode cX6_leastDirtyBlock 15 = .ok (.aload_n 0, 1) := by decide +kernel
theorem dX6_leastDirtyBlock_16 : decode cX6_leastDirtyBlock 16 = .ok (.iload_n 3, 1) := by decide +kernel
theorem dX6_leastDirtyBlock_17 : decode cX6_leastDirtyBlock 17 = .ok (.invokevirtual 347, 3) := by decide +kernel
theorem dX6_leastDirtyBlock_20 : decode cX6_leastDirtyBlock 20 = .ok (.istore 4, 2) := by decide +kernel
theorem dX6_leastDirtyBlock_22 : decode cX6_leastDirtyBlock 22 = .ok (.iload 4, 2) := by decide +kernel
theorem dX6_leastDirtyBlock_24 : decode cX6_leastDirtyBlock 24 = .ok (.iload_n 1, 1) := by decide +kernel
theorem dX6_leastDirtyBlock_25 : decode cX6_leastDirtyBlock 25 = .ok (.if_icmp .le 17, 3) := by decide +kernel
theorem dX6_leastDirtyBlock_28 : decode cX6_leastDirtyBlock 28 = .ok (.iload_n 2, 1) := by decide +kernel
theorem dX6_leastDirtyBlock_29 : decode cX6_leastDirtyBlock 29 = .ok (.iconst (-1), 1) := by decide +kernel
theorem dX6_leastDirtyBlock_30 : decode cX6_leastDirtyBlock 30 = .ok (.if_icmp .eq 9, 3) := by decide +kernel
theorem dX6_leastDirtyBlock_33 : decode cX6_leastDirtyBlock 33 = .ok (.iload 4, 2) := by decide +kernel
theorem dX6_leastDirtyBlock_35 : decode cX6_leastDirtyBlock 35 = .ok (.iload_n 2, 1) := by decide +kernel
theorem dX6_leastDirtyBlock_36 : decode cX6_leastDirtyBlock 36 = .ok (.if_icmp .ge 6, 3) := by decide +kernel
theorem dX6_leastDirtyBlock_39 : decode cX6_leastDirtyBlock 39 = .ok (.iload 4, 2) := by decide +kernel
theorem dX6_leastDirtyBlock_41 : decode cX6_leastDirtyBlock 41 = .ok (.istore_n 2, 1) := by decide +kernel
theorem dX6_leastDirtyBlock_42 : decode cX6_leastDirtyBlock 42 = .ok (.iinc 3 1, 3) := by decide +kernel
theorem dX6_leastDirtyBlock_45 : decode cX6_leastDirtyBlock 45 = .ok (.goto (-41), 3) := by decide +kernel
theorem dX6_leastDirtyBlock_48 : decode cX6_leastDirtyBlock 48 = .ok (.iload_n 2, 1) := by decide +kernel
theorem dX6_leastDirtyBlock_49 : decode cX6_leastDirtyBlock 49 = .ok (.ireturn, 1) := by decide +kernel
theorem dX6_dirtyFrameAt_0 : decode cX6_dirtyFrameAt 0 = .ok (.iconst 0, 1) := by decide +kernel
theorem dX6_dirtyFrameAt_1 : decode cX6_dirtyFrameAt 1 = .ok (.istore_n 2, 1) := by decide +kernel
theorem dX6_dirtyFrameAt_2 : decode cX6_dirtyFrameAt 2 = .ok (.iload_n 2, 1) := by decide +kernel
theorem dX6_dirtyFrameAt_3 : decode cX6_dirtyFrameAt 3 = .ok (.aload_n 0, 1) := by decide +kernel
theorem dX6_dirtyFrameAt_4 : decode cX6_dirtyFrameAt 4 = .ok (.getfield 49, 3) := by decide +kernel
theorem dX6_dirtyFrameAt_7 : decode cX6_dirtyFrameAt 7 = .ok (.getfield 136, 3) := by decide +kernel
theorem dX6_dirtyFrameAt_10 : decode cX6_dirtyFrameAt 10 = .ok (.if_icmp .ge 20, 3) := by decide +kernel
theorem dX6_dirtyFrameAt_13 : decode cX6_dirtyFrameAt 13 = .ok (.aload_n 0, 1) := by decide +kernel
theorem dX6_dirtyFrameAt_14 : decode cX6_dirtyFrameAt 14 = .ok (.iload_n 2, 1) := by decide +kernel
theorem dX6_dirtyFrameAt_15 : decode cX6_dirtyFrameAt 15 = .ok (.invokevirtual 347, 3) := by decide +kernel
theorem dX6_dirtyFrameAt_18 : decode cX6_dirtyFrameAt 18 = .ok (.iload_n 1, 1) := by decide +kernel
theorem dX6_dirtyFrameAt_19 : decode cX6_dirtyFrameAt 19 = .ok (.if_icmp .ne 5, 3) := by decide +kernel
theorem dX6_dirtyFrameAt_22 : decode cX6_dirtyFrameAt 22 = .ok (.iload_n 2, 1) := by decide +kernel
theorem dX6_dirtyFrameAt_23 : decode cX6_dirtyFrameAt 23 = .ok (.ireturn, 1) := by decide +kernel
theorem dX6_dirtyFrameAt_24 : decode cX6_dirtyFrameAt 24 = .ok (.iinc 2 1, 3) := by decide +kernel
theorem dX6_dirtyFrameAt_27 : decode cX6_dirtyFrameAt 27 = .ok (.goto (-25), 3) := by decide +kernel
theorem dX6_dirtyFrameAt_30 : decode cX6_dirtyFrameAt 30 = .ok (.iconst (-1), 1) := by decide +kernel
theorem dX6_dirtyFrameAt_31 : decode cX6_dirtyFrameAt 31 = .ok (.ireturn, 1) := by decide +kernel
theorem dX6_dirtyBlockIn_0 : decode cX6_dirtyBlockIn 0 = .ok (.aload_n 0, 1) := by decide +kernel
theorem dX6_dirtyBlockIn_1 : decode cX6_dirtyBlockIn 1 = .ok (.getfield 49, 3) := by decide +kernel
theorem dX6_dirtyBlockIn_4 : decode cX6_dirtyBlockIn 4 = .ok (.iload_n 1, 1) := by decide +kernel
theorem dX6_dirtyBlockIn_5 : decode cX6_dirtyBlockIn 5 = .ok (.invokevirtual 121, 3) := by decide +kernel
theorem dX6_dirtyBlockIn_8 : decode cX6_dirtyBlockIn 8 = .ok (.ifCond .eq 14, 3) := by decide +kernel
theorem dX6_dirtyBlockIn_11 : decode cX6_dirtyBlockIn 11 = .ok (.aload_n 0, 1) := by decide +kernel
theorem dX6_dirtyBlockIn_12 : decode cX6_dirtyBlockIn 12 = .ok (.getfield 49, 3) := by decide +kernel
theorem dX6_dirtyBlockIn_15 : decode cX6_dirtyBlockIn 15 = .ok (.iload_n 1, 1) := by decide +kernel
theorem dX6_dirtyBlockIn_16 : decode cX6_dirtyBlockIn 16 = .ok (.invokevirtual 320, 3) := by decide +kernel
theorem dX6_dirtyBlockIn_19 : decode cX6_dirtyBlockIn 19 = .ok (.goto 4, 3) := by decide +kernel
theorem dX6_dirtyBlockIn_22 : decode cX6_dirtyBlockIn 22 = .ok (.iconst (-1), 1) := by decide +kernel
theorem dX6_dirtyBlockIn_23 : decode cX6_dirtyBlockIn 23 = .ok (.istore_n 2, 1) := by decide +kernel
theorem dX6_dirtyBlockIn_24 : decode cX6_dirtyBlockIn 24 = .ok (.iload_n 2, 1) := by decide +kernel
theorem dX6_dirtyBlockIn_25 : decode cX6_dirtyBlockIn 25 = .ok (.iconst (-1), 1) := by decide +kernel
theorem dX6_dirtyBlockIn_26 : decode cX6_dirtyBlockIn 26 = .ok (.if_icmp .ne 7, 3) := by decide +kernel
theorem dX6_dirtyBlockIn_29 : decode cX6_dirtyBlockIn 29 = .ok (.iconst (-1), 1) := by decide +kernel
theorem dX6_dirtyBlockIn_30 : decode cX6_dirtyBlockIn 30 = .ok (.goto 9, 3) := by decide +kernel
theorem dX6_dirtyBlockIn_33 : decode cX6_dirtyBlockIn 33 = .ok (.aload_n 0, 1) := by decide +kernel
theorem dX6_dirtyBlockIn_34 : decode cX6_dirtyBlockIn 34 = .ok (.getfield 9, 3) := by decide +kernel
theorem dX6_dirtyBlockIn_37 : decode cX6_dirtyBlockIn 37 = .ok (.iload_n 2, 1) := by decide +kernel
theorem dX6_dirtyBlockIn_38 : decode cX6_dirtyBlockIn 38 = .ok (.iaload, 1) := by decide +kernel
theorem dX6_dirtyBlockIn_39 : decode cX6_dirtyBlockIn 39 = .ok (.ireturn, 1) := by decide +kernel
theorem dX6_isMarked_0 : decode cX6_isMarked 0 = .ok (.aload_n 0, 1) := by decide +kernel
theorem dX6_isMarked_1 : decode cX6_isMarked 1 = .ok (.getfield 49, 3) := by decide +kernel
theorem dX6_isMarked_4 : decode cX6_isMarked 4 = .ok (.iload_n 1, 1) := by decide +kernel
theorem dX6_isMarked_5 : decode cX6_isMarked 5 = .ok (.invokevirtual 118, 3) := by decide +kernel
theorem dX6_isMarked_8 : decode cX6_isMarked 8 = .ok (.istore_n 3, 1) := by decide +kernel
theorem dX6_isMarked_9 : decode cX6_isMarked 9 = .ok (.iload_n 2, 1) := by decide +kernel
theorem dX6_isMarked_10 : decode cX6_isMarked 10 = .ok (.tableswitch 96 0 3 #[30, 41, 50, 73], 30) := by decide +kernel
theorem dX6_isMarked_40 : decode cX6_isMarked 40 = .ok (.iload_n 3, 1) := by decide +kernel
theorem dX6_isMarked_41 : decode cX6_isMarked 41 = .ok (.iconst (-1), 1) := by decide +kernel
theorem dX6_isMarked_42 : decode cX6_isMarked 42 = .ok (.if_icmp .eq 7, 3) := by decide +kernel
theorem dX6_isMarked_45 : decode cX6_isMarked 45 = .ok (.iconst 1, 1) := by decide +kernel
theorem dX6_isMarked_46 : decode cX6_isMarked 46 = .ok (.goto 4, 3) := by decide +kernel
theorem dX6_isMarked_49 : decode cX6_isMarked 49 = .ok (.iconst 0, 1) := by decide +kernel
theorem dX6_isMarked_50 : decode cX6_isMarked 50 = .ok (.ireturn, 1) := by decide +kernel
theorem dX6_isMarked_51 : decode cX6_isMarked 51 = .ok (.aload_n 0, 1) := by decide +kernel
theorem dX6_isMarked_52 : decode cX6_isMarked 52 = .ok (.getfield 49, 3) := by decide +kernel
theorem dX6_isMarked_55 : decode cX6_isMarked 55 = .ok (.iload_n 3, 1) := by decide +kernel
theorem dX6_isMarked_56 : decode cX6_isMarked 56 = .ok (.invokevirtual 121, 3) := by decide +kernel
theorem dX6_isMarked_59 : decode cX6_isMarked 59 = .ok (.ireturn, 1) := by decide +kernel
theorem dX6_isMarked_60 : decode cX6_isMarked 60 = .ok (.iload_n 3, 1) := by decide +kernel
theorem dX6_isMarked_61 : decode cX6_isMarked 61 = .ok (.iconst (-1), 1) := by decide +kernel
theorem dX6_isMarked_62 : decode cX6_isMarked 62 = .ok (.if_icmp .eq 19, 3) := by decide +kernel
theorem dX6_isMarked_65 : decode cX6_isMarked 65 = .ok (.aload_n 0, 1) := by decide +kernel
theorem dX6_isMarked_66 : decode cX6_isMarked 66 = .ok (.getfield 49, 3) := by decide +kernel
theorem dX6_isMarked_69 : decode cX6_isMarked 69 = .ok (.getfield 190, 3) := by decide +kernel
theorem dX6_isMarked_72 : decode cX6_isMarked 72 = .ok (.iload_n 3, 1) := by decide +kernel
theorem dX6_isMarked_73 : decode cX6_isMarked 73 = .ok (.baload, 1) := by decide +kernel
theorem dX6_isMarked_74 : decode cX6_isMarked 74 = .ok (.ifCond .eq 7, 3) := by decide +kernel
theorem dX6_isMarked_77 : decode cX6_isMarked 77 = .ok (.iconst 1, 1) := by decide +kernel
theorem dX6_isMarked_78 : decode cX6_isMarked 78 = .ok (.goto 4, 3) := by decide +kernel
theorem dX6_isMarked_81 : decode cX6_isMarked 81 = .ok (.iconst 0, 1) := by decide +kernel
theorem dX6_isMarked_82 : decode cX6_isMarked 82 = .ok (.ireturn, 1) := by decide +kernel
theorem dX6_isMarked_83 : decode cX6_isMarked 83 = .ok (.iload_n 3, 1) := by decide +kernel
theorem dX6_isMarked_84 : decode cX6_isMarked 84 = .ok (.iconst (-1), 1) := by decide +kernel
theorem dX6_isMarked_85 : decode cX6_isMarked 85 = .ok (.if_icmp .eq 19, 3) := by decide +kernel
theorem dX6_isMarked_88 : decode cX6_isMarked 88 = .ok (.aload_n 0, 1) := by decide +kernel
theorem dX6_isMarked_89 : decode cX6_isMarked 89 = .ok (.getfield 49, 3) := by decide +kernel
theorem dX6_isMarked_92 : decode cX6_isMarked 92 = .ok (.getfield 146, 3) := by decide +kernel
theorem dX6_isMarked_95 : decode cX6_isMarked 95 = .ok (.iload_n 3, 1) := by decide +kernel
theorem dX6_isMarked_96 : decode cX6_isMarked 96 = .ok (.baload, 1) := by decide +kernel
theorem dX6_isMarked_97 : decode cX6_isMarked 97 = .ok (.ifCond .eq 7, 3) := by decide +kernel
theorem dX6_isMarked_100 : decode cX6_isMarked 100 = .ok (.iconst 1, 1) := by decide +kernel
theorem dX6_isMarked_101 : decode cX6_isMarked 101 = .ok (.goto 4, 3) := by decide +kernel
theorem dX6_isMarked_104 : decode cX6_isMarked 104 = .ok (.iconst 0, 1) := by decide +kernel
theorem dX6_isMarked_105 : decode cX6_isMarked 105 = .ok (.ireturn, 1) := by decide +kernel
theorem dX6_isMarked_106 : decode cX6_isMarked 106 = .ok (.aload_n 0, 1) := by decide +kernel
theorem dX6_isMarked_107 : decode cX6_isMarked 107 = .ok (.getfield 56, 3) := by decide +kernel
theorem dX6_isMarked_110 : decode cX6_isMarked 110 = .ok (.iload_n 1, 1) := by decide +kernel
theorem dX6_isMarked_111 : decode cX6_isMarked 111 = .ok (.invokevirtual 184, 3) := by decide +kernel
theorem dX6_isMarked_114 : decode cX6_isMarked 114 = .ok (.iconst (-1), 1) := by decide +kernel
theorem dX6_isMarked_115 : decode cX6_isMarked 115 = .ok (.if_icmp .eq 7, 3) := by decide +kernel
theorem dX6_isMarked_118 : decode cX6_isMarked 118 = .ok (.iconst 1, 1) := by decide +kernel
theorem dX6_isMarked_119 : decode cX6_isMarked 119 = .ok (.goto 4, 3) := by decide +kernel
theorem dX6_isMarked_122 : decode cX6_isMarked 122 = .ok (.iconst 0, 1) := by decide +kernel
theorem dX6_isMarked_123 : decode cX6_isMarked 123 = .ok (.ireturn, 1) := by decide +kernel
theorem dX6_isEntry_0 : decode cX6_isEntry 0 = .ok (.aload_n 0, 1) := by decide +kernel
theorem dX6_isEntry_1 : decode cX6_isEntry 1 = .ok (.getfield 49, 3) := by decide +kernel
theorem dX6_isEntry_4 : decode cX6_isEntry 4 = .ok (.iload_n 1, 1) := by decide +kernel
theorem dX6_isEntry_5 : decode cX6_isEntry 5 = .ok (.invokevirtual 118, 3) := by decide +kernel
theorem dX6_isEntry_8 : decode cX6_isEntry 8 = .ok (.iconst (-1), 1) := by decide +kernel
theorem dX6_isEntry_9 : decode cX6_isEntry 9 = .ok (.if_icmp .ne 15, 3) := by decide +kernel
theorem dX6_isEntry_12 : decode cX6_isEntry 12 = .ok (.aload_n 0, 1) := by decide +kernel
theorem dX6_isEntry_13 : decode cX6_isEntry 13 = .ok (.getfield 56, 3) := by decide +kernel
theorem dX6_isEntry_16 : decode cX6_isEntry 16 = .ok (.iload_n 1, 1) := by decide +kernel
theorem dX6_isEntry_17 : decode cX6_isEntry 17 = .ok (.invokevirtual 184, 3) := by decide +kernel
theorem dX6_isEntry_20 : decode cX6_isEntry 20 = .ok (.iconst (-1), 1) := by decide +kernel
theorem dX6_isEntry_21 : decode cX6_isEntry 21 = .ok (.if_icmp .eq 7, 3) := by decide +kernel
theorem dX6_isEntry_24 : decode cX6_isEntry 24 = .ok (.iconst 1, 1) := by decide +kernel
theorem dX6_isEntry_25 : decode cX6_isEntry 25 = .ok (.goto 4, 3) := by decide +kernel
theorem dX6_isEntry_28 : decode cX6_isEntry 28 = .ok (.iconst 0, 1) := by decide +kernel
theorem dX6_isEntry_29 : decode cX6_isEntry 29 = .ok (.ireturn, 1) := by decide +kernel
theorem dX6_treeEntries_0 : decode cX6_treeEntries 0 = .ok (.iconst 0, 1) := by decide +kernel
theorem dX6_treeEntries_1 : decode cX6_treeEntries 1 = .ok (.istore_n 2, 1) := by decide +kernel
theorem dX6_treeEntries_2 : decode cX6_treeEntries 2 = .ok (.iconst 0, 1) := by decide +kernel
theorem dX6_treeEntries_3 : decode cX6_treeEntries 3 = .ok (.istore_n 3, 1) := by decide +kernel
theorem dX6_treeEntries_4 : decode cX6_treeEntries 4 = .ok (.iload_n 3, 1) := by decide +kernel
theorem dX6_treeEntries_5 : decode cX6_treeEntries 5 = .ok (.sipush 256, 3) := by decide +kernel
theorem dX6_treeEntries_8 : decode cX6_treeEntries 8 = .ok (.if_icmp .ge 24, 3) := by decide +kernel
theorem dX6_treeEntries_11 : decode cX6_treeEntries 11 = .ok (.aload_n 0, 1) := by decide +kernel
theorem dX6_treeEntries_12 : decode cX6_treeEntries 12 = .ok (.iload_n 1, 1) := by decide +kernel
theorem dX6_treeEntries_13 : decode cX6_treeEntries 13 = .ok (.iload_n 3, 1) := by decide +kernel
theorem dX6_treeEntries_14 : decode cX6_treeEntries 14 = .ok (.invokestatic 105, 3) := by decide +kernel
theorem dX6_treeEntries_17 : decode cX6_treeEntries 17 = .ok (.invokevirtual 350, 3) := by decide +kernel
theorem dX6_treeEntries_20 : decode cX6_treeEntries 20 = .ok (.ifCond .eq 6, 3) := by decide +kernel
theorem dX6_treeEntries_23 : decode cX6_treeEntries 23 = .ok (.iinc 2 1, 3) := by decide +kernel
theorem dX6_treeEntries_26 : decode cX6_treeEntries 26 = .ok (.iinc 3 1, 3) := by decide +kernel
theorem dX6_treeEntries_29 : decode cX6_treeEntries 29 = .ok (.goto (-25), 3) := by decide +kernel
theorem dX6_treeEntries_32 : decode cX6_treeEntries 32 = .ok (.iload_n 2, 1) := by decide +kernel
theorem dX6_treeEntries_33 : decode cX6_treeEntries 33 = .ok (.ireturn, 1) := by decide +kernel
theorem dX6_treeHeight_0 : decode cX6_treeHeight 0 = .ok (.sipush 255, 3) := by decide +kernel
theorem dX6_treeHeight_3 : decode cX6_treeHeight 3 = .ok (.istore_n 2, 1) := by decide +kernel
theorem dX6_treeHeight_4 : decode cX6_treeHeight 4 = .ok (.iload_n 2, 1) := by decide +kernel
theorem dX6_treeHeight_5 : decode cX6_treeHeight 5 = .ok (.ifCond .lt 52, 3) := by decide +kernel
theorem dX6_treeHeight_8 : decode cX6_treeHeight 8 = .ok (.aload_n 0, 1) := by decide +kernel
theorem dX6_treeHeight_9 : decode cX6_treeHeight 9 = .ok (.iload_n 1, 1) := by decide +kernel
theorem dX6_treeHeight_10 : decode cX6_treeHeight 10 = .ok (.iload_n 2, 1) := by decide +kernel
theorem dX6_treeHeight_11 : decode cX6_treeHeight 11 = .ok (.invokestatic 105, 3) := by decide +kernel
theorem dX6_treeHeight_14 : decode cX6_treeHeight 14 = .ok (.invokevirtual 350, 3) := by decide +kernel
theorem dX6_treeHeight_17 : decode cX6_treeHeight 17 = .ok (.ifCond .eq 34, 3) := by decide +kernel
theorem dX6_treeHeight_20 : decode cX6_treeHeight 20 = .ok (.iload_n 2, 1) := by decide +kernel
theorem dX6_treeHeight_21 : decode cX6_treeHeight 21 = .ok (.iconst 4, 1) := by decide +kernel
theorem dX6_treeHeight_22 : decode cX6_treeHeight 22 = .ok (.if_icmp .ge 7, 3) := by decide +kernel
theorem dX6_treeHeight_25 : decode cX6_treeHeight 25 = .ok (.iconst 1, 1) := by decide +kernel
theorem dX6_treeHeight_26 : decode cX6_treeHeight 26 = .ok (.goto 24, 3) := by decide +kernel
theorem dX6_treeHeight_29 : decode cX6_treeHeight 29 = .ok (.iload_n 2, 1) := by decide +kernel
theorem dX6_treeHeight_30 : decode cX6_treeHeight 30 = .ok (.bipush 16, 2) := by decide +kernel
theorem dX6_treeHeight_32 : decode cX6_treeHeight 32 = .ok (.if_icmp .ge 7, 3) := by decide +kernel
theorem dX6_treeHeight_35 : decode cX6_treeHeight 35 = .ok (.iconst 2, 1) := by decide +kernel
theorem dX6_treeHeight_36 : decode cX6_treeHeight 36 = .ok (.goto 14, 3) := by decide +kernel
theorem dX6_treeHeight_39 : decode cX6_treeHeight 39 = .ok (.iload_n 2, 1) := by decide +kernel
theorem dX6_treeHeight_40 : decode cX6_treeHeight 40 = .ok (.bipush 64, 2) := by decide +kernel
theorem dX6_treeHeight_42 : decode cX6_treeHeight 42 = .ok (.if_icmp .ge 7, 3) := by decide +kernel
theorem dX6_treeHeight_45 : decode cX6_treeHeight 45 = .ok (.iconst 3, 1) := by decide +kernel
theorem dX6_treeHeight_46 : decode cX6_treeHeight 46 = .ok (.goto 4, 3) := by decide +kernel
theorem dX6_treeHeight_49 : decode cX6_treeHeight 49 = .ok (.iconst 4, 1) := by decide +kernel
theorem dX6_treeHeight_50 : decode cX6_treeHeight 50 = .ok (.ireturn, 1) := by decide +kernel
theorem dX6_treeHeight_51 : decode cX6_treeHeight 51 = .ok (.iinc 2 (-1), 3) := by decide +kernel
theorem dX6_treeHeight_54 : decode cX6_treeHeight 54 = .ok (.goto (-50), 3) := by decide +kernel
theorem dX6_treeHeight_57 : decode cX6_treeHeight 57 = .ok (.iconst 0, 1) := by decide +kernel
theorem dX6_treeHeight_58 : decode cX6_treeHeight 58 = .ok (.ireturn, 1) := by decide +kernel
theorem dX6_treeNodes_0 : decode cX6_treeNodes 0 = .ok (.aload_n 0, 1) := by decide +kernel
theorem dX6_treeNodes_1 : decode cX6_treeNodes 1 = .ok (.iload_n 1, 1) := by decide +kernel
theorem dX6_treeNodes_2 : decode cX6_treeNodes 2 = .ok (.invokevirtual 199, 3) := by decide +kernel
theorem dX6_treeNodes_5 : decode cX6_treeNodes 5 = .ok (.istore_n 2, 1) := by decide +kernel
theorem dX6_treeNodes_6 : decode cX6_treeNodes 6 = .ok (.iconst 0, 1) := by decide +kernel
theorem dX6_treeNodes_7 : decode cX6_treeNodes 7 = .ok (.istore_n 3, 1) := by decide +kernel
theorem dX6_treeNodes_8 : decode cX6_treeNodes 8 = .ok (.iconst 1, 1) := by decide +kernel
theorem dX6_treeNodes_9 : decode cX6_treeNodes 9 = .ok (.istore 4, 2) := by decide +kernel
theorem dX6_treeNodes_11 : decode cX6_treeNodes 11 = .ok (.iload 4, 2) := by decide +kernel
theorem dX6_treeNodes_13 : decode cX6_treeNodes 13 = .ok (.iload_n 2, 1) := by decide +kernel
theorem dX6_treeNodes_14 : decode cX6_treeNodes 14 = .ok (.if_icmp .gt 65, 3) := by decide +kernel
theorem dX6_treeNodes_17 : decode cX6_treeNodes 17 = .ok (.iconst (-1), 1) := by decide +kernel
theorem dX6_treeNodes_18 : decode cX6_treeNodes 18 = .ok (.istore 5, 2) := by decide +kernel
theorem dX6_treeNodes_20 : decode cX6_treeNodes 20 = .ok (.iconst 0, 1) := by decide +kernel
theorem dX6_treeNodes_21 : decode cX6_treeNodes 21 = .ok (.istore 6, 2) := by decide +kernel
theorem dX6_treeNodes_23 : decode cX6_treeNodes 23 = .ok (.iload 6, 2) := by decide +kernel
theorem dX6_treeNodes_25 : decode cX6_treeNodes 25 = .ok (.sipush 256, 3) := by decide +kernel
theorem dX6_treeNodes_28 : decode cX6_treeNodes 28 = .ok (.if_icmp .ge 45, 3) := by decide +kernel
theorem dX6_treeNodes_31 : decode cX6_treeNodes 31 = .ok (.iload 6, 2) := by decide +kernel
theorem dX6_treeNodes_33 : decode cX6_treeNodes 33 = .ok (.iconst 2, 1) := by decide +kernel
theorem dX6_treeNodes_34 : decode cX6_treeNodes 34 = .ok (.iload 4, 2) := by decide +kernel
theorem dX6_treeNodes_36 : decode cX6_treeNodes 36 = .ok (.imul, 1) := by decide +kernel
theorem dX6_treeNodes_37 : decode cX6_treeNodes 37 = .ok (.ishr, 1) := by decide +kernel
theorem dX6_treeNodes_38 : decode cX6_treeNodes 38 = .ok (.istore 7, 2) := by decide +kernel
theorem dX6_treeNodes_40 : decode cX6_treeNodes 40 = .ok (.iload 7, 2) := by decide +kernel
theorem dX6_treeNodes_42 : decode cX6_treeNodes 42 = .ok (.iload 5, 2) := by decide +kernel
theorem dX6_treeNodes_44 : decode cX6_treeNodes 44 = .ok (.if_icmp .eq 23, 3) := by decide +kernel
theorem dX6_treeNodes_47 : decode cX6_treeNodes 47 = .ok (.aload_n 0, 1) := by decide +kernel
theorem dX6_treeNodes_48 : decode cX6_treeNodes 48 = .ok (.iload_n 1, 1) := by decide +kernel
theorem dX6_treeNodes_49 : decode cX6_treeNodes 49 = .ok (.iload 6, 2) := by decide +kernel
theorem dX6_treeNodes_51 : decode cX6_treeNodes 51 = .ok (.invokestatic 105, 3) := by decide +kernel
theorem dX6_treeNodes_54 : decode cX6_treeNodes 54 = .ok (.invokevirtual 350, 3) := by decide +kernel
theorem dX6_treeNodes_57 : decode cX6_treeNodes 57 = .ok (.ifCond .eq 10, 3) := by decide +kernel
theorem dX6_treeNodes_60 : decode cX6_treeNodes 60 = .ok (.iload 7, 2) := by decide +kernel
theorem dX6_treeNodes_62 : decode cX6_treeNodes 62 = .ok (.istore 5, 2) := by decide +kernel
theorem dX6_treeNodes_64 : decode cX6_treeNodes 64 = .ok (.iinc 3 1, 3) := by decide +kernel
theorem dX6_treeNodes_67 : decode cX6_treeNodes 67 = .ok (.iinc 6 1, 3) := by decide +kernel
theorem dX6_treeNodes_70 : decode cX6_treeNodes 70 = .ok (.goto (-47), 3) := by decide +kernel
theorem dX6_treeNodes_73 : decode cX6_treeNodes 73 = .ok (.iinc 4 1, 3) := by decide +kernel
theorem dX6_treeNodes_76 : decode cX6_treeNodes 76 = .ok (.goto (-65), 3) := by decide +kernel
theorem dX6_treeNodes_79 : decode cX6_treeNodes 79 = .ok (.iload_n 3, 1) := by decide +kernel
theorem dX6_treeNodes_80 : decode cX6_treeNodes 80 = .ok (.ireturn, 1) := by decide +kernel
theorem dX7_init_0 : decode cX7_init 0 = .ok (.aload_n 0, 1) := by decide +kernel
theorem dX7_init_1 : decode cX7_init 1 = .ok (.invokespecial 1, 3) := by decide +kernel
theorem dX7_init_4 : decode cX7_init 4 = .ok (.aload_n 0, 1) := by decide +kernel
theorem dX7_init_5 : decode cX7_init 5 = .ok (.bipush 12, 2) := by decide +kernel
theorem dX7_init_7 : decode cX7_init 7 = .ok (.newarray .int, 2) := by decide +kernel
theorem dX7_init_9 : decode cX7_init 9 = .ok (.putfield 7, 3) := by decide +kernel
theorem dX7_init_12 : decode cX7_init 12 = .ok (.aload_n 0, 1) := by decide +kernel
theorem dX7_init_13 : decode cX7_init 13 = .ok (.bipush 12, 2) := by decide +kernel
theorem dX7_init_15 : decode cX7_init 15 = .ok (.newarray .int, 2) := by decide +kernel
theorem dX7_init_17 : decode cX7_init 17 = .ok (.putfield 13, 3) := by decide +kernel
theorem dX7_init_20 : decode cX7_init 20 = .ok (.aload_n 0, 1) := by decide +kernel
theorem dX7_init_21 : decode cX7_init 21 = .ok (.bipush 12, 2) := by decide +kernel
theorem dX7_init_23 : decode cX7_init 23 = .ok (.newarray .int, 2) := by decide +kernel
theorem dX7_init_25 : decode cX7_init 25 = .ok (.putfield 16, 3) := by decide +kernel
theorem dX7_init_28 : decode cX7_init 28 = .ok (.aload_n 0, 1) := by decide +kernel
theorem dX7_init_29 : decode cX7_init 29 = .ok (.bipush 12, 2) := by decide +kernel
theorem dX7_init_31 : decode cX7_init 31 = .ok (.newarray .int, 2) := by decide +kernel
end
section
theorem dX7_init_33 : decode cX7_init 33 = .ok (.putfield 19, 3) := by decide +kernel
theorem dX7_init_36 : decode cX7_init 36 = .ok (.aload_n 0, 1) := by decide +kernel
theorem dX7_init_37 : decode cX7_init 37 = .ok (.sipush 3072, 3) := by decide +kernel
theorem dX7_init_40 : decode cX7_init 40 = .ok (.newarray .int, 2) := by decide +kernel
theorem dX7_init_42 : decode cX7_init 42 = .ok (.putfield 22, 3) := by decide +kernel
theorem dX7_init_45 : decode cX7_init 45 = .ok (.aload_n 0, 1) := by decide +kernel
theorem dX7_init_46 : decode cX7_init 46 = .ok (.sipush 3072, 3) := by decide +kernel
theorem dX7_init_49 : decode cX7_init 49 = .ok (.newarray .int, 2) := by decide +kernel
theorem dX7_init_51 : decode cX7_init 51 = .ok (.putfield 25, 3) := by decide +kernel
theorem dX7_init_54 : decode cX7_init 54 = .ok (.aload_n 0, 1) := by decide +kernel
theorem dX7_init_55 : decode cX7_init 55 = .ok (.sipush 3072, 3) := by decide +kernel
theorem dX7_init_58 : decode cX7_init 58 = .ok (.newarray .int, 2) := by decide +kernel
theorem dX7_init_60 : decode cX7_init 60 = .ok (.putfield 28, 3) := by decide +kernel
theorem dX7_init_63 : decode cX7_init 63 = .ok (.aload_n 0, 1) := by decide +kernel
theorem dX7_init_64 : decode cX7_init 64 = .ok (.sipush 3072, 3) := by decide +kernel
theorem dX7_init_67 : decode cX7_init 67 = .ok (.newarray .int, 2) := by decide +kernel
theorem dX7_init_69 : decode cX7_init 69 = .ok (.putfield 31, 3) := by decide +kernel
theorem dX7_init_72 : decode cX7_init 72 = .ok (.aload_n 0, 1) := by decide +kernel
theorem dX7_init_73 : decode cX7_init 73 = .ok (.sipush 3072, 3) := by decide +kernel
theorem dX7_init_76 : decode cX7_init 76 = .ok (.newarray .boolean, 2) := by decide +kernel
theorem dX7_init_78 : decode cX7_init 78 = .ok (.putfield 34, 3) := by decide +kernel
theorem dX7_init_81 : decode cX7_init 81 = .ok (.aload_n 0, 1) := by decide +kernel
theorem dX7_init_82 : decode cX7_init 82 = .ok (.sipush 3072, 3) := by decide +kernel
theorem dX7_init_85 : decode cX7_init 85 = .ok (.newarray .boolean, 2) := by decide +kernel
theorem dX7_init_87 : decode cX7_init 87 = .ok (.putfield 38, 3) := by decide +kernel
theorem dX7_init_90 : decode cX7_init 90 = .ok (.aload_n 0, 1) := by decide +kernel
theorem dX7_init_91 : decode cX7_init 91 = .ok (.sipush 3072, 3) := by decide +kernel
theorem dX7_init_94 : decode cX7_init 94 = .ok (.newarray .boolean, 2) := by decide +kernel
theorem dX7_init_96 : decode cX7_init 96 = .ok (.putfield 41, 3) := by decide +kernel
theorem dX7_init_99 : decode cX7_init 99 = .ok (.aload_n 0, 1) := by decide +kernel
theorem dX7_init_100 : decode cX7_init 100 = .ok (.bipush 65, 2) := by decide +kernel
theorem dX7_init_102 : decode cX7_init 102 = .ok (.newarray .int, 2) := by decide +kernel
theorem dX7_init_104 : decode cX7_init 104 = .ok (.putfield 44, 3) := by decide +kernel
theorem dX7_init_107 : decode cX7_init 107 = .ok (.aload_n 0, 1) := by decide +kernel
theorem dX7_init_108 : decode cX7_init 108 = .ok (.bipush 65, 2) := by decide +kernel
theorem dX7_init_110 : decode cX7_init 110 = .ok (.newarray .int, 2) := by decide +kernel
theorem dX7_init_112 : decode cX7_init 112 = .ok (.putfield 47, 3) := by decide +kernel
theorem dX7_init_115 : decode cX7_init 115 = .ok (.aload_n 0, 1) := by decide +kernel
theorem dX7_init_116 : decode cX7_init 116 = .ok (.bipush 64, 2) := by decide +kernel
theorem dX7_init_118 : decode cX7_init 118 = .ok (.newarray .boolean, 2) := by decide +kernel
theorem dX7_init_120 : decode cX7_init 120 = .ok (.putfield 50, 3) := by decide +kernel
theorem dX7_init_123 : decode cX7_init 123 = .ok (.aload_n 0, 1) := by decide +kernel
theorem dX7_init_124 : decode cX7_init 124 = .ok (.sipush 4096, 3) := by decide +kernel
theorem dX7_init_127 : decode cX7_init 127 = .ok (.newarray .byte, 2) := by decide +kernel
theorem dX7_init_129 : decode cX7_init 129 = .ok (.putfield 53, 3) := by decide +kernel
theorem dX7_init_132 : decode cX7_init 132 = .ok (.aload_n 0, 1) := by decide +kernel
theorem dX7_init_133 : decode cX7_init 133 = .ok (.ldc 57, 2) := by decide +kernel
theorem dX7_init_135 : decode cX7_init 135 = .ok (.newarray .byte, 2) := by decide +kernel
theorem dX7_init_137 : decode cX7_init 137 = .ok (.putfield 58, 3) := by decide +kernel
theorem dX7_init_140 : decode cX7_init 140 = .ok (.aload_n 0, 1) := by decide +kernel
theorem dX7_init_141 : decode cX7_init 141 = .ok (.sipush 512, 3) := by decide +kernel
theorem dX7_init_144 : decode cX7_init 144 = .ok (.newarray .boolean, 2) := by decide +kernel
theorem dX7_init_146 : decode cX7_init 146 = .ok (.putfield 61, 3) := by decide +kernel
theorem dX7_init_149 : decode cX7_init 149 = .ok (.aload_n 0, 1) := by decide +kernel
theorem dX7_init_150 : decode cX7_init 150 = .ok (.sipush 512, 3) := by decide +kernel
theorem dX7_init_153 : decode cX7_init 153 = .ok (.newarray .boolean, 2) := by decide +kernel
theorem dX7_init_155 : decode cX7_init 155 = .ok (.putfield 64, 3) := by decide +kernel
theorem dX7_init_158 : decode cX7_init 158 = .ok (.aload_n 0, 1) := by decide +kernel
theorem dX7_init_159 : decode cX7_init 159 = .ok (.sipush 1024, 3) := by decide +kernel
theorem dX7_init_162 : decode cX7_init 162 = .ok (.newarray .byte, 2) := by decide +kernel
theorem dX7_init_164 : decode cX7_init 164 = .ok (.putfield 67, 3) := by decide +kernel
theorem dX7_init_167 : decode cX7_init 167 = .ok (.aload_n 0, 1) := by decide +kernel
theorem dX7_init_168 : decode cX7_init 168 = .ok (.sipush 4000, 3) := by decide +kernel
theorem dX7_init_171 : decode cX7_init 171 = .ok (.newarray .int, 2) := by decide +kernel
theorem dX7_init_173 : decode cX7_init 173 = .ok (.putfield 70, 3) := by decide +kernel
theorem dX7_init_176 : decode cX7_init 176 = .ok (.aload_n 0, 1) := by decide +kernel
theorem dX7_init_177 : decode cX7_init 177 = .ok (.sipush 4000, 3) := by decide +kernel
theorem dX7_init_180 : decode cX7_init 180 = .ok (.newarray .int, 2) := by decide +kernel
theorem dX7_init_182 : decode cX7_init 182 = .ok (.putfield 73, 3) := by decide +kernel
theorem dX7_init_185 : decode cX7_init 185 = .ok (.aload_n 0, 1) := by decide +kernel
theorem dX7_init_186 : decode cX7_init 186 = .ok (.sipush 4000, 3) := by decide +kernel
theorem dX7_init_189 : decode cX7_init 189 = .ok (.newarray .int, 2) := by decide +kernel
theorem dX7_init_191 : decode cX7_init 191 = .ok (.putfield 76, 3) := by decide +kernel
theorem dX7_init_194 : decode cX7_init 194 = .ok (.aload_n 0, 1) := by decide +kernel
theorem dX7_init_195 : decode cX7_init 195 = .ok (.sipush 3072, 3) := by decide +kernel
theorem dX7_init_198 : decode cX7_init 198 = .ok (.newarray .boolean, 2) := by decide +kernel
theorem dX7_init_200 : decode cX7_init 200 = .ok (.putfield 79, 3) := by decide +kernel
theorem dX7_init_203 : decode cX7_init 203 = .ok (.aload_n 0, 1) := by decide +kernel
theorem dX7_init_204 : decode cX7_init 204 = .ok (.iload_n 1, 1) := by decide +kernel
theorem dX7_init_205 : decode cX7_init 205 = .ok (.iconst 4, 1) := by decide +kernel
theorem dX7_init_206 : decode cX7_init 206 = .ok (.if_icmp .lt 9, 3) := by decide +kernel
theorem dX7_init_209 : decode cX7_init 209 = .ok (.iload_n 1, 1) := by decide +kernel
theorem dX7_init_210 : decode cX7_init 210 = .ok (.bipush 64, 2) := by decide +kernel
theorem dX7_init_212 : decode cX7_init 212 = .ok (.if_icmp .le 8, 3) := by decide +kernel
theorem dX7_init_215 : decode cX7_init 215 = .ok (.bipush 16, 2) := by decide +kernel
theorem dX7_init_217 : decode cX7_init 217 = .ok (.goto 4, 3) := by decide +kernel
theorem dX7_init_220 : decode cX7_init 220 = .ok (.iload_n 1, 1) := by decide +kernel
theorem dX7_init_221 : decode cX7_init 221 = .ok (.putfield 82, 3) := by decide +kernel
theorem dX7_init_224 : decode cX7_init 224 = .ok (.aload_n 0, 1) := by decide +kernel
theorem dX7_init_225 : decode cX7_init 225 = .ok (.iload_n 2, 1) := by decide +kernel
theorem dX7_init_226 : decode cX7_init 226 = .ok (.bipush 8, 2) := by decide +kernel
theorem dX7_init_228 : decode cX7_init 228 = .ok (.if_icmp .lt 10, 3) := by decide +kernel
theorem dX7_init_231 : decode cX7_init 231 = .ok (.iload_n 2, 1) := by decide +kernel
theorem dX7_init_232 : decode cX7_init 232 = .ok (.sipush 512, 3) := by decide +kernel
theorem dX7_init_235 : decode cX7_init 235 = .ok (.if_icmp .le 9, 3) := by decide +kernel
theorem dX7_init_238 : decode cX7_init 238 = .ok (.sipush 128, 3) := by decide +kernel
theorem dX7_init_241 : decode cX7_init 241 = .ok (.goto 4, 3) := by decide +kernel
theorem dX7_init_244 : decode cX7_init 244 = .ok (.iload_n 2, 1) := by decide +kernel
theorem dX7_init_245 : decode cX7_init 245 = .ok (.putfield 86, 3) := by decide +kernel
theorem dX7_init_248 : decode cX7_init 248 = .ok (.iconst 0, 1) := by decide +kernel
theorem dX7_init_249 : decode cX7_init 249 = .ok (.istore_n 3, 1) := by decide +kernel
theorem dX7_init_250 : decode cX7_init 250 = .ok (.iload_n 3, 1) := by decide +kernel
theorem dX7_init_251 : decode cX7_init 251 = .ok (.sipush 3072, 3) := by decide +kernel
theorem dX7_init_254 : decode cX7_init 254 = .ok (.if_icmp .ge 30, 3) := by decide +kernel
theorem dX7_init_257 : decode cX7_init 257 = .ok (.aload_n 0, 1) := by decide +kernel
theorem dX7_init_258 : decode cX7_init 258 = .ok (.getfield 22, 3) := by decide +kernel
theorem dX7_init_261 : decode cX7_init 261 = .ok (.iload_n 3, 1) := by decide +kernel
theorem dX7_init_262 : decode cX7_init 262 = .ok (.iconst (-1), 1) := by decide +kernel
theorem dX7_init_263 : decode cX7_init 263 = .ok (.iastore, 1) := by decide +kernel
theorem dX7_init_264 : decode cX7_init 264 = .ok (.aload_n 0, 1) := by decide +kernel
theorem dX7_init_265 : decode cX7_init 265 = .ok (.getfield 25, 3) := by decide +kernel
theorem dX7_init_268 : decode cX7_init 268 = .ok (.iload_n 3, 1) := by decide +kernel
theorem dX7_init_269 : decode cX7_init 269 = .ok (.iconst (-1), 1) := by decide +kernel
theorem dX7_init_270 : decode cX7_init 270 = .ok (.iastore, 1) := by decide +kernel
theorem dX7_init_271 : decode cX7_init 271 = .ok (.aload_n 0, 1) := by decide +kernel
theorem dX7_init_272 : decode cX7_init 272 = .ok (.getfield 28, 3) := by decide +kernel
theorem dX7_init_275 : decode cX7_init 275 = .ok (.iload_n 3, 1) := by decide +kernel
theorem dX7_init_276 : decode cX7_init 276 = .ok (.iconst (-1), 1) := by decide +kernel
theorem dX7_init_277 : decode cX7_init 277 = .ok (.iastore, 1) := by decide +kernel
theorem dX7_init_278 : decode cX7_init 278 = .ok (.iinc 3 1, 3) := by decide +kernel
theorem dX7_init_281 : decode cX7_init 281 = .ok (.goto (-31), 3) := by decide +kernel
theorem dX7_init_284 : decode cX7_init 284 = .ok (.iconst 0, 1) := by decide +kernel
theorem dX7_init_285 : decode cX7_init 285 = .ok (.istore_n 3, 1) := by decide +kernel
theorem dX7_init_286 : decode cX7_init 286 = .ok (.iload_n 3, 1) := by decide +kernel
theorem dX7_init_287 : decode cX7_init 287 = .ok (.bipush 12, 2) := by decide +kernel
theorem dX7_init_289 : decode cX7_init 289 = .ok (.if_icmp .ge 16, 3) := by decide +kernel
theorem dX7_init_292 : decode cX7_init 292 = .ok (.aload_n 0, 1) := by decide +kernel
theorem dX7_init_293 : decode cX7_init 293 = .ok (.getfield 13, 3) := by decide +kernel
theorem dX7_init_296 : decode cX7_init 296 = .ok (.iload_n 3, 1) := by decide +kernel
theorem dX7_init_297 : decode cX7_init 297 = .ok (.iconst 1, 1) := by decide +kernel
theorem dX7_init_298 : decode cX7_init 298 = .ok (.iastore, 1) := by decide +kernel
theorem dX7_init_299 : decode cX7_init 299 = .ok (.iinc 3 1, 3) := by decide +kernel
theorem dX7_init_302 : decode cX7_init 302 = .ok (.goto (-16), 3) := by decide +kernel
theorem dX7_init_305 : decode cX7_init 305 = .ok (.return_, 1) := by decide +kernel
theorem dX7_isFile_0 : decode cX7_isFile 0 = .ok (.iload_n 0, 1) := by decide +kernel
theorem dX7_isFile_1 : decode cX7_isFile 1 = .ok (.ifCond .lt 13, 3) := by decide +kernel
theorem dX7_isFile_4 : decode cX7_isFile 4 = .ok (.iload_n 0, 1) := by decide +kernel
theorem dX7_isFile_5 : decode cX7_isFile 5 = .ok (.bipush 12, 2) := by decide +kernel
theorem dX7_isFile_7 : decode cX7_isFile 7 = .ok (.if_icmp .ge 7, 3) := by decide +kernel
theorem dX7_isFile_10 : decode cX7_isFile 10 = .ok (.iconst 1, 1) := by decide +kernel
theorem dX7_isFile_11 : decode cX7_isFile 11 = .ok (.goto 4, 3) := by decide +kernel
theorem dX7_isFile_14 : decode cX7_isFile 14 = .ok (.iconst 0, 1) := by decide +kernel
theorem dX7_isFile_15 : decode cX7_isFile 15 = .ok (.ireturn, 1) := by decide +kernel
theorem dX7_isPage_0 : decode cX7_isPage 0 = .ok (.iload_n 0, 1) := by decide +kernel
theorem dX7_isPage_1 : decode cX7_isPage 1 = .ok (.ifCond .lt 14, 3) := by decide +kernel
theorem dX7_isPage_4 : decode cX7_isPage 4 = .ok (.iload_n 0, 1) := by decide +kernel
theorem dX7_isPage_5 : decode cX7_isPage 5 = .ok (.sipush 256, 3) := by decide +kernel
theorem dX7_isPage_8 : decode cX7_isPage 8 = .ok (.if_icmp .ge 7, 3) := by decide +kernel
theorem dX7_isPage_11 : decode cX7_isPage 11 = .ok (.iconst 1, 1) := by decide +kernel
theorem dX7_isPage_12 : decode cX7_isPage 12 = .ok (.goto 4, 3) := by decide +kernel
theorem dX7_isPage_15 : decode cX7_isPage 15 = .ok (.iconst 0, 1) := by decide +kernel
theorem dX7_isPage_16 : decode cX7_isPage 16 = .ok (.ireturn, 1) := by decide +kernel
theorem dX7_isIn_0 : decode cX7_isIn 0 = .ok (.aload_n 0, 1) := by decide +kernel
theorem dX7_isIn_1 : decode cX7_isIn 1 = .ok (.getfield 22, 3) := by decide +kernel
theorem dX7_isIn_4 : decode cX7_isIn 4 = .ok (.iload_n 1, 1) := by decide +kernel
theorem dX7_isIn_5 : decode cX7_isIn 5 = .ok (.iaload, 1) := by decide +kernel
theorem dX7_isIn_6 : decode cX7_isIn 6 = .ok (.ifCond .lt 7, 3) := by decide +kernel
theorem dX7_isIn_9 : decode cX7_isIn 9 = .ok (.iconst 1, 1) := by decide +kernel
theorem dX7_isIn_10 : decode cX7_isIn 10 = .ok (.goto 4, 3) := by decide +kernel
theorem dX7_isIn_13 : decode cX7_isIn 13 = .ok (.iconst 0, 1) := by decide +kernel
theorem dX7_isIn_14 : decode cX7_isIn 14 = .ok (.ireturn, 1) := by decide +kernel
theorem dX7_isDirty_0 : decode cX7_isDirty 0 = .ok (.aload_n 0, 1) := by decide +kernel
theorem dX7_isDirty_1 : decode cX7_isDirty 1 = .ok (.getfield 28, 3) := by decide +kernel
theorem dX7_isDirty_4 : decode cX7_isDirty 4 = .ok (.iload_n 1, 1) := by decide +kernel
theorem dX7_isDirty_5 : decode cX7_isDirty 5 = .ok (.iaload, 1) := by decide +kernel
theorem dX7_isDirty_6 : decode cX7_isDirty 6 = .ok (.ifCond .lt 7, 3) := by decide +kernel
theorem dX7_isDirty_9 : decode cX7_isDirty 9 = .ok (.iconst 1, 1) := by decide +kernel
theorem dX7_isDirty_10 : decode cX7_isDirty 10 = .ok (.goto 4, 3) := by decide +kernel
theorem dX7_isDirty_13 : decode cX7_isDirty 13 = .ok (.iconst 0, 1) := by decide +kernel
theorem dX7_isDirty_14 : decode cX7_isDirty 14 = .ok (.ireturn, 1) := by decide +kernel
theorem dX7_record_0 : decode cX7_record 0 = .ok (.aload_n 0, 1) := by decide +kernel
theorem dX7_record_1 : decode cX7_record 1 = .ok (.getfield 89, 3) := by decide +kernel
theorem dX7_record_4 : decode cX7_record 4 = .ok (.ifCond .ne 13, 3) := by decide +kernel
theorem dX7_record_7 : decode cX7_record 7 = .ok (.aload_n 0, 1) := by decide +kernel
theorem dX7_record_8 : decode cX7_record 8 = .ok (.iconst 1, 1) := by decide +kernel
theorem dX7_record_9 : decode cX7_record 9 = .ok (.putfield 89, 3) := by decide +kernel
theorem dX7_record_12 : decode cX7_record 12 = .ok (.aload_n 0, 1) := by decide +kernel
theorem dX7_record_13 : decode cX7_record 13 = .ok (.iconst 0, 1) := by decide +kernel
theorem dX7_record_14 : decode cX7_record 14 = .ok (.putfield 93, 3) := by decide +kernel
theorem dX7_record_17 : decode cX7_record 17 = .ok (.aload_n 0, 1) := by decide +kernel
theorem dX7_record_18 : decode cX7_record 18 = .ok (.dup, 1) := by decide +kernel
theorem dX7_record_19 : decode cX7_record 19 = .ok (.getfield 96, 3) := by decide +kernel
theorem dX7_record_22 : decode cX7_record 22 = .ok (.iload_n 1, 1) := by decide +kernel
theorem dX7_record_23 : decode cX7_record 23 = .ok (.ifCond .ne 7, 3) := by decide +kernel
theorem dX7_record_26 : decode cX7_record 26 = .ok (.iconst 1, 1) := by decide +kernel
theorem dX7_record_27 : decode cX7_record 27 = .ok (.goto 4, 3) := by decide +kernel
theorem dX7_record_30 : decode cX7_record 30 = .ok (.iconst 0, 1) := by decide +kernel
theorem dX7_record_31 : decode cX7_record 31 = .ok (.iadd, 1) := by decide +kernel
theorem dX7_record_32 : decode cX7_record 32 = .ok (.putfield 96, 3) := by decide +kernel
theorem dX7_record_35 : decode cX7_record 35 = .ok (.aload_n 0, 1) := by decide +kernel
theorem dX7_record_36 : decode cX7_record 36 = .ok (.dup, 1) := by decide +kernel
theorem dX7_record_37 : decode cX7_record 37 = .ok (.getfield 99, 3) := by decide +kernel
theorem dX7_record_40 : decode cX7_record 40 = .ok (.iload_n 1, 1) := by decide +kernel
theorem dX7_record_41 : decode cX7_record 41 = .ok (.iadd, 1) := by decide +kernel
theorem dX7_record_42 : decode cX7_record 42 = .ok (.putfield 99, 3) := by decide +kernel
theorem dX7_record_45 : decode cX7_record 45 = .ok (.aload_n 0, 1) := by decide +kernel
theorem dX7_record_46 : decode cX7_record 46 = .ok (.getfield 93, 3) := by decide +kernel
theorem dX7_record_49 : decode cX7_record 49 = .ok (.iconst 1, 1) := by decide +kernel
theorem dX7_record_50 : decode cX7_record 50 = .ok (.isub, 1) := by decide +kernel
theorem dX7_record_51 : decode cX7_record 51 = .ok (.istore_n 3, 1) := by decide +kernel
theorem dX7_record_52 : decode cX7_record 52 = .ok (.iload_n 3, 1) := by decide +kernel
theorem dX7_record_53 : decode cX7_record 53 = .ok (.ifCond .lt 41, 3) := by decide +kernel
theorem dX7_record_56 : decode cX7_record 56 = .ok (.aload_n 0, 1) := by decide +kernel
theorem dX7_record_57 : decode cX7_record 57 = .ok (.getfield 70, 3) := by decide +kernel
theorem dX7_record_60 : decode cX7_record 60 = .ok (.iload_n 3, 1) := by decide +kernel
theorem dX7_record_61 : decode cX7_record 61 = .ok (.iaload, 1) := by decide +kernel
theorem dX7_record_62 : decode cX7_record 62 = .ok (.iload_n 1, 1) := by decide +kernel
theorem dX7_record_63 : decode cX7_record 63 = .ok (.if_icmp .ne 31, 3) := by decide +kernel
theorem dX7_record_66 : decode cX7_record 66 = .ok (.aload_n 0, 1) := by decide +kernel
theorem dX7_record_67 : decode cX7_record 67 = .ok (.getfield 73, 3) := by decide +kernel
theorem dX7_record_70 : decode cX7_record 70 = .ok (.iload_n 3, 1) := by decide +kernel
theorem dX7_record_71 : decode cX7_record 71 = .ok (.iaload, 1) := by decide +kernel
theorem dX7_record_72 : decode cX7_record 72 = .ok (.aload_n 0, 1) := by decide +kernel
theorem dX7_record_73 : decode cX7_record 73 = .ok (.getfield 76, 3) := by decide +kernel
theorem dX7_record_76 : decode cX7_record 76 = .ok (.iload_n 3, 1) := by decide +kernel
theorem dX7_record_77 : decode cX7_record 77 = .ok (.iaload, 1) := by decide +kernel
theorem dX7_record_78 : decode cX7_record 78 = .ok (.iadd, 1) := by decide +kernel
theorem dX7_record_79 : decode cX7_record 79 = .ok (.iload_n 2, 1) := by decide +kernel
theorem dX7_record_80 : decode cX7_record 80 = .ok (.if_icmp .ne 14, 3) := by decide +kernel
theorem dX7_record_83 : decode cX7_record 83 = .ok (.aload_n 0, 1) := by decide +kernel
theorem dX7_record_84 : decode cX7_record 84 = .ok (.getfield 76, 3) := by decide +kernel
theorem dX7_record_87 : decode cX7_record 87 = .ok (.iload_n 3, 1) := by decide +kernel
theorem dX7_record_88 : decode cX7_record 88 = .ok (.dup2, 1) := by decide +kernel
theorem dX7_record_89 : decode cX7_record 89 = .ok (.iaload, 1) := by decide +kernel
theorem dX7_record_90 : decode cX7_record 90 = .ok (.iconst 1, 1) := by decide +kernel
theorem dX7_record_91 : decode cX7_record 91 = .ok (.iadd, 1) := by decide +kernel
theorem dX7_record_92 : decode cX7_record 92 = .ok (.iastore, 1) := by decide +kernel
theorem dX7_record_93 : decode cX7_record 93 = .ok (.return_, 1) := by decide +kernel
theorem dX7_record_94 : decode cX7_record 94 = .ok (.aload_n 0, 1) := by decide +kernel
theorem dX7_record_95 : decode cX7_record 95 = .ok (.getfield 70, 3) := by decide +kernel
theorem dX7_record_98 : decode cX7_record 98 = .ok (.aload_n 0, 1) := by decide +kernel
theorem dX7_record_99 : decode cX7_record 99 = .ok (.getfield 93, 3) := by decide +kernel
theorem dX7_record_102 : decode cX7_record 102 = .ok (.iload_n 1, 1) := by decide +kernel
theorem dX7_record_103 : decode cX7_record 103 = .ok (.iastore, 1) := by decide +kernel
theorem dX7_record_104 : decode cX7_record 104 = .ok (.aload_n 0, 1) := by decide +kernel
theorem dX7_record_105 : decode cX7_record 105 = .ok (.getfield 73, 3) := by decide +kernel
theorem dX7_record_108 : decode cX7_record 108 = .ok (.aload_n 0, 1) := by decide +kernel
theorem dX7_record_109 : decode cX7_record 109 = .ok (.getfield 93, 3) := by decide +kernel
theorem dX7_record_112 : decode cX7_record 112 = .ok (.iload_n 2, 1) := by decide +kernel
theorem dX7_record_113 : decode cX7_record 113 = .ok (.iastore, 1) := by decide +kernel
theorem dX7_record_114 : decode cX7_record 114 = .ok (.aload_n 0, 1) := by decide +kernel
theorem dX7_record_115 : decode cX7_record 115 = .ok (.getfield 76, 3) := by decide +kernel
theorem dX7_record_118 : decode cX7_record 118 = .ok (.aload_n 0, 1) := by decide +kernel
theorem dX7_record_119 : decode cX7_record 119 = .ok (.getfield 93, 3) := by decide +kernel
theorem dX7_record_122 : decode cX7_record 122 = .ok (.iconst 1, 1) := by decide +kernel
theorem dX7_record_123 : decode cX7_record 123 = .ok (.iastore, 1) := by decide +kernel
theorem dX7_record_124 : decode cX7_record 124 = .ok (.aload_n 0, 1) := by decide +kernel
theorem dX7_record_125 : decode cX7_record 125 = .ok (.dup, 1) := by decide +kernel
theorem dX7_record_126 : decode cX7_record 126 = .ok (.getfield 93, 3) := by decide +kernel
theorem dX7_record_129 : decode cX7_record 129 = .ok (.iconst 1, 1) := by decide +kernel
theorem dX7_record_130 : decode cX7_record 130 = .ok (.iadd, 1) := by decide +kernel
theorem dX7_record_131 : decode cX7_record 131 = .ok (.putfield 93, 3) := by decide +kernel
theorem dX7_record_134 : decode cX7_record 134 = .ok (.return_, 1) := by decide +kernel
theorem dX7_toFront_0 : decode cX7_toFront 0 = .ok (.aload_n 0, 1) := by decide +kernel
theorem dX7_toFront_1 : decode cX7_toFront 1 = .ok (.getfield 41, 3) := by decide +kernel
theorem dX7_toFront_4 : decode cX7_toFront 4 = .ok (.iload_n 1, 1) := by decide +kernel
theorem dX7_toFront_5 : decode cX7_toFront 5 = .ok (.iload_n 2, 1) := by decide +kernel
theorem dX7_toFront_6 : decode cX7_toFront 6 = .ok (.bastore, 1) := by decide +kernel
theorem dX7_toFront_7 : decode cX7_toFront 7 = .ok (.iload_n 2, 1) := by decide +kernel
theorem dX7_toFront_8 : decode cX7_toFront 8 = .ok (.ifCond .eq 52, 3) := by decide +kernel
theorem dX7_toFront_11 : decode cX7_toFront 11 = .ok (.aload_n 0, 1) := by decide +kernel
theorem dX7_toFront_12 : decode cX7_toFront 12 = .ok (.getfield 102, 3) := by decide +kernel
theorem dX7_toFront_15 : decode cX7_toFront 15 = .ok (.istore_n 3, 1) := by decide +kernel
theorem dX7_toFront_16 : decode cX7_toFront 16 = .ok (.iload_n 3, 1) := by decide +kernel
theorem dX7_toFront_17 : decode cX7_toFront 17 = .ok (.ifCond .le 23, 3) := by decide +kernel
theorem dX7_toFront_20 : decode cX7_toFront 20 = .ok (.aload_n 0, 1) := by decide +kernel
theorem dX7_toFront_21 : decode cX7_toFront 21 = .ok (.getfield 44, 3) := by decide +kernel
theorem dX7_toFront_24 : decode cX7_toFront 24 = .ok (.iload_n 3, 1) := by decide +kernel
theorem dX7_toFront_25 : decode cX7_toFront 25 = .ok (.aload_n 0, 1) := by decide +kernel
theorem dX7_toFront_26 : decode cX7_toFront 26 = .ok (.getfield 44, 3) := by decide +kernel
theorem dX7_toFront_29 : decode cX7_toFront 29 = .ok (.iload_n 3, 1) := by decide +kernel
theorem dX7_toFront_30 : decode cX7_toFront 30 = .ok (.iconst 1, 1) := by decide +kernel
theorem dX7_toFront_31 : decode cX7_toFront 31 = .ok (.isub, 1) := by decide +kernel
theorem dX7_toFront_32 : decode cX7_toFront 32 = .ok (.iaload, 1) := by decide +kernel
theorem dX7_toFront_33 : decode cX7_toFront 33 = .ok (.iastore, 1) := by decide +kernel
theorem dX7_toFront_34 : decode cX7_toFront 34 = .ok (.iinc 3 (-1), 3) := by decide +kernel
theorem dX7_toFront_37 : decode cX7_toFront 37 = .ok (.goto (-21), 3) := by decide +kernel
theorem dX7_toFront_40 : decode cX7_toFront 40 = .ok (.aload_n 0, 1) := by decide +kernel
theorem dX7_toFront_41 : decode cX7_toFront 41 = .ok (.getfield 44, 3) := by decide +kernel
theorem dX7_toFront_44 : decode cX7_toFront 44 = .ok (.iconst 0, 1) := by decide +kernel
theorem dX7_toFront_45 : decode cX7_toFront 45 = .ok (.iload_n 1, 1) := by decide +kernel
theorem dX7_toFront_46 : decode cX7_toFront 46 = .ok (.iastore, 1) := by decide +kernel
theorem dX7_toFront_47 : decode cX7_toFront 47 = .ok (.aload_n 0, 1) := by decide +kernel
theorem dX7_toFront_48 : decode cX7_toFront 48 = .ok (.dup, 1) := by decide +kernel
theorem dX7_toFront_49 : decode cX7_toFront 49 = .ok (.getfield 102, 3) := by decide +kernel
theorem dX7_toFront_52 : decode cX7_toFront 52 = .ok (.iconst 1, 1) := by decide +kernel
theorem dX7_toFront_53 : decode cX7_toFront 53 = .ok (.iadd, 1) := by decide +kernel
theorem dX7_toFront_54 : decode cX7_toFront 54 = .ok (.putfield 102, 3) := by decide +kernel
theorem dX7_toFront_57 : decode cX7_toFront 57 = .ok (.goto 49, 3) := by decide +kernel
theorem dX7_toFront_60 : decode cX7_toFront 60 = .ok (.aload_n 0, 1) := by decide +kernel
theorem dX7_toFront_61 : decode cX7_toFront 61 = .ok (.getfield 105, 3) := by decide +kernel
theorem dX7_toFront_64 : decode cX7_toFront 64 = .ok (.istore_n 3, 1) := by decide +kernel
theorem dX7_toFront_65 : decode cX7_toFront 65 = .ok (.iload_n 3, 1) := by decide +kernel
theorem dX7_toFront_66 : decode cX7_toFront 66 = .ok (.ifCond .le 23, 3) := by decide +kernel
theorem dX7_toFront_69 : decode cX7_toFront 69 = .ok (.aload_n 0, 1) := by decide +kernel
theorem dX7_toFront_70 : decode cX7_toFront 70 = .ok (.getfield 47, 3) := by decide +kernel
theorem dX7_toFront_73 : decode cX7_toFront 73 = .ok (.iload_n 3, 1) := by decide +kernel
theorem dX7_toFront_74 : decode cX7_toFront 74 = .ok (.aload_n 0, 1) := by decide +kernel
theorem dX7_toFront_75 : decode cX7_toFront 75 = .ok (.getfield 47, 3) := by decide +kernel
theorem dX7_toFront_78 : decode cX7_toFront 78 = .ok (.iload_n 3, 1) := by decide +kernel
theorem dX7_toFront_79 : decode cX7_toFront 79 = .ok (.iconst 1, 1) := by decide +kernel
theorem dX7_toFront_80 : decode cX7_toFront 80 = .ok (.isub, 1) := by decide +kernel
theorem dX7_toFront_81 : decode cX7_toFront 81 = .ok (.iaload, 1) := by decide +kernel
theorem dX7_toFront_82 : decode cX7_toFront 82 = .ok (.iastore, 1) := by decide +kernel
theorem dX7_toFront_83 : decode cX7_toFront 83 = .ok (.iinc 3 (-1), 3) := by decide +kernel
theorem dX7_toFront_86 : decode cX7_toFront 86 = .ok (.goto (-21), 3) := by decide +kernel
theorem dX7_toFront_89 : decode cX7_toFront 89 = .ok (.aload_n 0, 1) := by decide +kernel
theorem dX7_toFront_90 : decode cX7_toFront 90 = .ok (.getfield 47, 3) := by decide +kernel
theorem dX7_toFront_93 : decode cX7_toFront 93 = .ok (.iconst 0, 1) := by decide +kernel
theorem dX7_toFront_94 : decode cX7_toFront 94 = .ok (.iload_n 1, 1) := by decide +kernel
theorem dX7_toFront_95 : decode cX7_toFront 95 = .ok (.iastore, 1) := by decide +kernel
theorem dX7_toFront_96 : decode cX7_toFront 96 = .ok (.aload_n 0, 1) := by decide +kernel
theorem dX7_toFront_97 : decode cX7_toFront 97 = .ok (.dup, 1) := by decide +kernel
theorem dX7_toFront_98 : decode cX7_toFront 98 = .ok (.getfield 105, 3) := by decide +kernel
theorem dX7_toFront_101 : decode cX7_toFront 101 = .ok (.iconst 1, 1) := by decide +kernel
theorem dX7_toFront_102 : decode cX7_toFront 102 = .ok (.iadd, 1) := by decide +kernel
theorem dX7_toFront_103 : decode cX7_toFront 103 = .ok (.putfield 105, 3) := by decide +kernel
theorem dX7_toFront_106 : decode cX7_toFront 106 = .ok (.return_, 1) := by decide +kernel
theorem dX7_placeOf_0 : decode cX7_placeOf 0 = .ok (.iconst 0, 1) := by decide +kernel
theorem dX7_placeOf_1 : decode cX7_placeOf 1 = .ok (.istore_n 2, 1) := by decide +kernel
theorem dX7_placeOf_2 : decode cX7_placeOf 2 = .ok (.aload_n 0, 1) := by decide +kernel
theorem dX7_placeOf_3 : decode cX7_placeOf 3 = .ok (.getfield 41, 3) := by decide +kernel
theorem dX7_placeOf_6 : decode cX7_placeOf 6 = .ok (.iload_n 1, 1) := by decide +kernel
theorem dX7_placeOf_7 : decode cX7_placeOf 7 = .ok (.baload, 1) := by decide +kernel
theorem dX7_placeOf_8 : decode cX7_placeOf 8 = .ok (.ifCond .eq 12, 3) := by decide +kernel
theorem dX7_placeOf_11 : decode cX7_placeOf 11 = .ok (.aload_n 0, 1) := by decide +kernel
theorem dX7_placeOf_12 : decode cX7_placeOf 12 = .ok (.getfield 44, 3) := by decide +kernel
theorem dX7_placeOf_15 : decode cX7_placeOf 15 = .ok (.iload_n 2, 1) := by decide +kernel
theorem dX7_placeOf_16 : decode cX7_placeOf 16 = .ok (.iaload, 1) := by decide +kernel
theorem dX7_placeOf_17 : decode cX7_placeOf 17 = .ok (.goto 9, 3) := by decide +kernel
theorem dX7_placeOf_20 : decode cX7_placeOf 20 = .ok (.aload_n 0, 1) := by decide +kernel
theorem dX7_placeOf_21 : decode cX7_placeOf 21 = .ok (.getfield 47, 3) := by decide +kernel
theorem dX7_placeOf_24 : decode cX7_placeOf 24 = .ok (.iload_n 2, 1) := by decide +kernel
theorem dX7_placeOf_25 : decode cX7_placeOf 25 = .ok (.iaload, 1) := by decide +kernel
theorem dX7_placeOf_26 : decode cX7_placeOf 26 = .ok (.iload_n 1, 1) := by decide +kernel
theorem dX7_placeOf_27 : decode cX7_placeOf 27 = .ok (.if_icmp .eq 9, 3) := by decide +kernel
theorem dX7_placeOf_30 : decode cX7_placeOf 30 = .ok (.iinc 2 1, 3) := by decide +kernel
theorem dX7_placeOf_33 : decode cX7_placeOf 33 = .ok (.goto (-31), 3) := by decide +kernel
theorem dX7_placeOf_36 : decode cX7_placeOf 36 = .ok (.iload_n 2, 1) := by decide +kernel
theorem dX7_placeOf_37 : decode cX7_placeOf 37 = .ok (.ireturn, 1) := by decide +kernel
theorem dX7_fromList_0 : decode cX7_fromList 0 = .ok (.aload_n 0, 1) := by decide +kernel
theorem dX7_fromList_1 : decode cX7_fromList 1 = .ok (.iload_n 1, 1) := by decide +kernel
theorem dX7_fromList_2 : decode cX7_fromList 2 = .ok (.invokevirtual 108, 3) := by decide +kernel
theorem dX7_fromList_5 : decode cX7_fromList 5 = .ok (.istore_n 2, 1) := by decide +kernel
theorem dX7_fromList_6 : decode cX7_fromList 6 = .ok (.aload_n 0, 1) := by decide +kernel
theorem dX7_fromList_7 : decode cX7_fromList 7 = .ok (.getfield 41, 3) := by decide +kernel
theorem dX7_fromList_10 : decode cX7_fromList 10 = .ok (.iload_n 1, 1) := by decide +kernel
theorem dX7_fromList_11 : decode cX7_fromList 11 = .ok (.baload, 1) := by decide +kernel
theorem dX7_fromList_12 : decode cX7_fromList 12 = .ok (.ifCond .eq 46, 3) := by decide +kernel
theorem dX7_fromList_15 : decode cX7_fromList 15 = .ok (.aload_n 0, 1) := by decide +kernel
theorem dX7_fromList_16 : decode cX7_fromList 16 = .ok (.dup, 1) := by decide +kernel
theorem dX7_fromList_17 : decode cX7_fromList 17 = .ok (.getfield 102, 3) := by decide +kernel
theorem dX7_fromList_20 : decode cX7_fromList 20 = .ok (.iconst 1, 1) := by decide +kernel
theorem dX7_fromList_21 : decode cX7_fromList 21 = .ok (.isub, 1) := by decide +kernel
theorem dX7_fromList_22 : decode cX7_fromList 22 = .ok (.putfield 102, 3) := by decide +kernel
theorem dX7_fromList_25 : decode cX7_fromList 25 = .ok (.iload_n 2, 1) := by decide +kernel
theorem dX7_fromList_26 : decode cX7_fromList 26 = .ok (.istore_n 3, 1) := by decide +kernel
theorem dX7_fromList_27 : decode cX7_fromList 27 = .ok (.iload_n 3, 1) := by decide +kernel
theorem dX7_fromList_28 : decode cX7_fromList 28 = .ok (.aload_n 0, 1) := by decide +kernel
theorem dX7_fromList_29 : decode cX7_fromList 29 = .ok (.getfield 102, 3) := by decide +kernel
theorem dX7_fromList_32 : decode cX7_fromList 32 = .ok (.if_icmp .ge 23, 3) := by decide +kernel
theorem dX7_fromList_35 : decode cX7_fromList 35 = .ok (.aload_n 0, 1) := by decide +kernel
theorem dX7_fromList_36 : decode cX7_fromList 36 = .ok (.getfield 44, 3) := by decide +kernel
theorem dX7_fromList_39 : decode cX7_fromList 39 = .ok (.iload_n 3, 1) := by decide +kernel
theorem dX7_fromList_40 : decode cX7_fromList 40 = .ok (.aload_n 0, 1) := by decide +kernel
theorem dX7_fromList_41 : decode cX7_fromList 41 = .ok (.getfield 44, 3) := by decide +kernel
theorem dX7_fromList_44 : decode cX7_fromList 44 = .ok (.iload_n 3, 1) := by decide +kernel
theorem dX7_fromList_45 : decode cX7_fromList 45 = .ok (.iconst 1, 1) := by decide +kernel
theorem dX7_fromList_46 : decode cX7_fromList 46 = .ok (.iadd, 1) := by decide +kernel
theorem dX7_fromList_47 : decode cX7_fromList 47 = .ok (.iaload, 1) := by decide +kernel
theorem dX7_fromList_48 : decode cX7_fromList 48 = .ok (.iastore, 1) := by decide +kernel
theorem dX7_fromList_49 : decode cX7_fromList 49 = .ok (.iinc 3 1, 3) := by decide +kernel
theorem dX7_fromList_52 : decode cX7_fromList 52 = .ok (.goto (-25), 3) := by decide +kernel
theorem dX7_fromList_55 : decode cX7_fromList 55 = .ok (.goto 43, 3) := by decide +kernel
theorem dX7_fromList_58 : decode cX7_fromList 58 = .ok (.aload_n 0, 1) := by decide +kernel
theorem dX7_fromList_59 : decode cX7_fromList 59 = .ok (.dup, 1) := by decide +kernel
theorem dX7_fromList_60 : decode cX7_fromList 60 = .ok (.getfield 105, 3) := by decide +kernel
theorem dX7_fromList_63 : decode cX7_fromList 63 = .ok (.iconst 1, 1) := by decide +kernel
theorem dX7_fromList_64 : decode cX7_fromList 64 = .ok (.isub, 1) := by decide +kernel
theorem dX7_fromList_65 : decode cX7_fromList 65 = .ok (.putfield 105, 3) := by decide +kernel
theorem dX7_fromList_68 : decode cX7_fromList 68 = .ok (.iload_n 2, 1) := by decide +kernel
theorem dX7_fromList_69 : decode cX7_fromList 69 = .ok (.istore_n 3, 1) := by decide +kernel
theorem dX7_fromList_70 : decode cX7_fromList 70 = .ok (.iload_n 3, 1) := by decide +kernel
theorem dX7_fromList_71 : decode cX7_fromList 71 = .ok (.aload_n 0, 1) := by decide +kernel
theorem dX7_fromList_72 : decode cX7_fromList 72 = .ok (.getfield 105, 3) := by decide +kernel
theorem dX7_fromList_75 : decode cX7_fromList 75 = .ok (.if_icmp .ge 23, 3) := by decide +kernel
theorem dX7_fromList_78 : decode cX7_fromList 78 = .ok (.aload_n 0, 1) := by decide +kernel
theorem dX7_fromList_79 : decode cX7_fromList 79 = .ok (.getfield 47, 3) := by decide +kernel
theorem dX7_fromList_82 : decode cX7_fromList 82 = .ok (.iload_n 3, 1) := by decide +kernel
theorem dX7_fromList_83 : decode cX7_fromList 83 = .ok (.aload_n 0, 1) := by decide +kernel
theorem dX7_fromList_84 : decode cX7_fromList 84 = .ok (.getfield 47, 3) := by decide +kernel
theorem dX7_fromList_87 : decode cX7_fromList 87 = .ok (.iload_n 3, 1) := by decide +kernel
theorem dX7_fromList_88 : decode cX7_fromList 88 = .ok (.iconst 1, 1) := by decide +kernel
theorem dX7_fromList_89 : decode cX7_fromList 89 = .ok (.iadd, 1) := by decide +kernel
theorem dX7_fromList_90 : decode cX7_fromList 90 = .ok (.iaload, 1) := by decide +kernel
theorem dX7_fromList_91 : decode cX7_fromList 91 = .ok (.iastore, 1) := by decide +kernel
theorem dX7_fromList_92 : decode cX7_fromList 92 = .ok (.iinc 3 1, 3) := by decide +kernel
theorem dX7_fromList_95 : decode cX7_fromList 95 = .ok (.goto (-25), 3) := by decide +kernel
theorem dX7_fromList_98 : decode cX7_fromList 98 = .ok (.return_, 1) := by decide +kernel
theorem dX7_move_0 : decode cX7_move 0 = .ok (.aload_n 0, 1) := by decide +kernel
theorem dX7_move_1 : decode cX7_move 1 = .ok (.iload_n 1, 1) := by decide +kernel
theorem dX7_move_2 : decode cX7_move 2 = .ok (.invokevirtual 112, 3) := by decide +kernel
theorem dX7_move_5 : decode cX7_move 5 = .ok (.aload_n 0, 1) := by decide +kernel
theorem dX7_move_6 : decode cX7_move 6 = .ok (.iload_n 1, 1) := by decide +kernel
theorem dX7_move_7 : decode cX7_move 7 = .ok (.iload_n 2, 1) := by decide +kernel
theorem dX7_move_8 : decode cX7_move 8 = .ok (.invokevirtual 116, 3) := by decide +kernel
theorem dX7_move_11 : decode cX7_move 11 = .ok (.return_, 1) := by decide +kernel
theorem dX7_goOut_0 : decode cX7_goOut 0 = .ok (.aload_n 0, 1) := by decide +kernel
theorem dX7_goOut_1 : decode cX7_goOut 1 = .ok (.iload_n 1, 1) := by decide +kernel
theorem dX7_goOut_2 : decode cX7_goOut 2 = .ok (.invokevirtual 112, 3) := by decide +kernel
theorem dX7_goOut_5 : decode cX7_goOut 5 = .ok (.aload_n 0, 1) := by decide +kernel
theorem dX7_goOut_6 : decode cX7_goOut 6 = .ok (.getfield 50, 3) := by decide +kernel
theorem dX7_goOut_9 : decode cX7_goOut 9 = .ok (.aload_n 0, 1) := by decide +kernel
theorem dX7_goOut_10 : decode cX7_goOut 10 = .ok (.getfield 22, 3) := by decide +kernel
theorem dX7_goOut_13 : decode cX7_goOut 13 = .ok (.iload_n 1, 1) := by decide +kernel
theorem dX7_goOut_14 : decode cX7_goOut 14 = .ok (.iaload, 1) := by decide +kernel
theorem dX7_goOut_15 : decode cX7_goOut 15 = .ok (.iconst 0, 1) := by decide +kernel
theorem dX7_goOut_16 : decode cX7_goOut 16 = .ok (.bastore, 1) := by decide +kernel
theorem dX7_goOut_17 : decode cX7_goOut 17 = .ok (.aload_n 0, 1) := by decide +kernel
theorem dX7_goOut_18 : decode cX7_goOut 18 = .ok (.getfield 22, 3) := by decide +kernel
theorem dX7_goOut_21 : decode cX7_goOut 21 = .ok (.iload_n 1, 1) := by decide +kernel
theorem dX7_goOut_22 : decode cX7_goOut 22 = .ok (.iconst (-1), 1) := by decide +kernel
theorem dX7_goOut_23 : decode cX7_goOut 23 = .ok (.iastore, 1) := by decide +kernel
theorem dX7_goOut_24 : decode cX7_goOut 24 = .ok (.aload_n 0, 1) := by decide +kernel
theorem dX7_goOut_25 : decode cX7_goOut 25 = .ok (.getfield 28, 3) := by decide +kernel
theorem dX7_goOut_28 : decode cX7_goOut 28 = .ok (.iload_n 1, 1) := by decide +kernel
theorem dX7_goOut_29 : decode cX7_goOut 29 = .ok (.iconst (-1), 1) := by decide +kernel
theorem dX7_goOut_30 : decode cX7_goOut 30 = .ok (.iastore, 1) := by decide +kernel
theorem dX7_goOut_31 : decode cX7_goOut 31 = .ok (.aload_n 0, 1) := by decide +kernel
theorem dX7_goOut_32 : decode cX7_goOut 32 = .ok (.getfield 34, 3) := by decide +kernel
theorem dX7_goOut_35 : decode cX7_goOut 35 = .ok (.iload_n 1, 1) := by decide +kernel
theorem dX7_goOut_36 : decode cX7_goOut 36 = .ok (.iconst 0, 1) := by decide +kernel
theorem dX7_goOut_37 : decode cX7_goOut 37 = .ok (.bastore, 1) := by decide +kernel
theorem dX7_goOut_38 : decode cX7_goOut 38 = .ok (.aload_n 0, 1) := by decide +kernel
theorem dX7_goOut_39 : decode cX7_goOut 39 = .ok (.getfield 38, 3) := by decide +kernel
theorem dX7_goOut_42 : decode cX7_goOut 42 = .ok (.iload_n 1, 1) := by decide +kernel
theorem dX7_goOut_43 : decode cX7_goOut 43 = .ok (.iconst 0, 1) := by decide +kernel
theorem dX7_goOut_44 : decode cX7_goOut 44 = .ok (.bastore, 1) := by decide +kernel
theorem dX7_goOut_45 : decode cX7_goOut 45 = .ok (.aload_n 0, 1) := by decide +kernel
theorem dX7_goOut_46 : decode cX7_goOut 46 = .ok (.getfield 41, 3) := by decide +kernel
theorem dX7_goOut_49 : decode cX7_goOut 49 = .ok (.iload_n 1, 1) := by decide +kernel
theorem dX7_goOut_50 : decode cX7_goOut 50 = .ok (.iconst 0, 1) := by decide +kernel
theorem dX7_goOut_51 : decode cX7_goOut 51 = .ok (.bastore, 1) := by decide +kernel
theorem dX7_goOut_52 : decode cX7_goOut 52 = .ok (.return_, 1) := by decide +kernel
theorem dX7_noShadow_0 : decode cX7_noShadow 0 = .ok (.aload_n 0, 1) := by decide +kernel
theorem dX7_noShadow_1 : decode cX7_noShadow 1 = .ok (.dup, 1) := by decide +kernel
theorem dX7_noShadow_2 : decode cX7_noShadow 2 = .ok (.getfield 120, 3) := by decide +kernel
theorem dX7_noShadow_5 : decode cX7_noShadow 5 = .ok (.aload_n 0, 1) := by decide +kernel
theorem dX7_noShadow_6 : decode cX7_noShadow 6 = .ok (.getfield 31, 3) := by decide +kernel
theorem dX7_noShadow_9 : decode cX7_noShadow 9 = .ok (.iload_n 1, 1) := by decide +kernel
theorem dX7_noShadow_10 : decode cX7_noShadow 10 = .ok (.iaload, 1) := by decide +kernel
theorem dX7_noShadow_11 : decode cX7_noShadow 11 = .ok (.ifCond .le 7, 3) := by decide +kernel
theorem dX7_noShadow_14 : decode cX7_noShadow 14 = .ok (.iconst 1, 1) := by decide +kernel
theorem dX7_noShadow_15 : decode cX7_noShadow 15 = .ok (.goto 4, 3) := by decide +kernel
theorem dX7_noShadow_18 : decode cX7_noShadow 18 = .ok (.iconst 0, 1) := by decide +kernel
theorem dX7_noShadow_19 : decode cX7_noShadow 19 = .ok (.isub, 1) := by decide +kernel
theorem dX7_noShadow_20 : decode cX7_noShadow 20 = .ok (.putfield 120, 3) := by decide +kernel
theorem dX7_noShadow_23 : decode cX7_noShadow 23 = .ok (.aload_n 0, 1) := by decide +kernel
theorem dX7_noShadow_24 : decode cX7_noShadow 24 = .ok (.getfield 31, 3) := by decide +kernel
theorem dX7_noShadow_27 : decode cX7_noShadow 27 = .ok (.iload_n 1, 1) := by decide +kernel
theorem dX7_noShadow_28 : decode cX7_noShadow 28 = .ok (.iconst 0, 1) := by decide +kernel
theorem dX7_noShadow_29 : decode cX7_noShadow 29 = .ok (.iastore, 1) := by decide +kernel
theorem dX7_noShadow_30 : decode cX7_noShadow 30 = .ok (.return_, 1) := by decide +kernel
theorem dX7_evict_0 : decode cX7_evict 0 = .ok (.aload_n 0, 1) := by decide +kernel
theorem dX7_evict_1 : decode cX7_evict 1 = .ok (.iload_n 1, 1) := by decide +kernel
theorem dX7_evict_2 : decode cX7_evict 2 = .ok (.invokevirtual 123, 3) := by decide +kernel
theorem dX7_evict_5 : decode cX7_evict 5 = .ok (.aload_n 0, 1) := by decide +kernel
theorem dX7_evict_6 : decode cX7_evict 6 = .ok (.dup, 1) := by decide +kernel
theorem dX7_evict_7 : decode cX7_evict 7 = .ok (.getfield 126, 3) := by decide +kernel
theorem dX7_evict_10 : decode cX7_evict 10 = .ok (.iconst 1, 1) := by decide +kernel
theorem dX7_evict_11 : decode cX7_evict 11 = .ok (.iadd, 1) := by decide +kernel
theorem dX7_evict_12 : decode cX7_evict 12 = .ok (.putfield 126, 3) := by decide +kernel
theorem dX7_evict_15 : decode cX7_evict 15 = .ok (.aload_n 0, 1) := by decide +kernel
theorem dX7_evict_16 : decode cX7_evict 16 = .ok (.getfield 31, 3) := by decide +kernel
theorem dX7_evict_19 : decode cX7_evict 19 = .ok (.iload_n 1, 1) := by decide +kernel
theorem dX7_evict_20 : decode cX7_evict 20 = .ok (.aload_n 0, 1) := by decide +kernel
theorem dX7_evict_21 : decode cX7_evict 21 = .ok (.getfield 126, 3) := by decide +kernel
theorem dX7_evict_24 : decode cX7_evict 24 = .ok (.iastore, 1) := by decide +kernel
theorem dX7_evict_25 : decode cX7_evict 25 = .ok (.aload_n 0, 1) := by decide +kernel
theorem dX7_evict_26 : decode cX7_evict 26 = .ok (.dup, 1) := by decide +kernel
theorem dX7_evict_27 : decode cX7_evict 27 = .ok (.getfield 120, 3) := by decide +kernel
theorem dX7_evict_30 : decode cX7_evict 30 = .ok (.iconst 1, 1) := by decide +kernel
theorem dX7_evict_31 : decode cX7_evict 31 = .ok (.iadd, 1) := by decide +kernel
theorem dX7_evict_32 : decode cX7_evict 32 = .ok (.putfield 120, 3) := by decide +kernel
theorem dX7_evict_35 : decode cX7_evict 35 = .ok (.aload_n 0, 1) := by decide +kernel
theorem dX7_evict_36 : decode cX7_evict 36 = .ok (.getfield 120, 3) := by decide +kernel
theorem dX7_evict_39 : decode cX7_evict 39 = .ok (.aload_n 0, 1) := by decide +kernel
theorem dX7_evict_40 : decode cX7_evict 40 = .ok (.getfield 82, 3) := by decide +kernel
theorem dX7_evict_43 : decode cX7_evict 43 = .ok (.if_icmp .gt 4, 3) := by decide +kernel
theorem dX7_evict_46 : decode cX7_evict 46 = .ok (.return_, 1) := by decide +kernel
theorem dX7_evict_47 : decode cX7_evict 47 = .ok (.iconst (-1), 1) := by decide +kernel
theorem dX7_evict_48 : decode cX7_evict 48 = .ok (.istore_n 2, 1) := by decide +kernel
theorem dX7_evict_49 : decode cX7_evict 49 = .ok (.iconst 0, 1) := by decide +kernel
theorem dX7_evict_50 : decode cX7_evict 50 = .ok (.istore_n 3, 1) := by decide +kernel
theorem dX7_evict_51 : decode cX7_evict 51 = .ok (.iload_n 3, 1) := by decide +kernel
theorem dX7_evict_52 : decode cX7_evict 52 = .ok (.sipush 3072, 3) := by decide +kernel
theorem dX7_evict_55 : decode cX7_evict 55 = .ok (.if_icmp .ge 44, 3) := by decide +kernel
theorem dX7_evict_58 : decode cX7_evict 58 = .ok (.aload_n 0, 1) := by decide +kernel
theorem dX7_evict_59 : decode cX7_evict 59 = .ok (.getfield 31, 3) := by decide +kernel
theorem dX7_evict_62 : decode cX7_evict 62 = .ok (.iload_n 3, 1) := by decide +kernel
theorem dX7_evict_63 : decode cX7_evict 63 = .ok (.iaload, 1) := by decide +kernel
theorem dX7_evict_64 : decode cX7_evict 64 = .ok (.ifCond .le 27, 3) := by decide +kernel
theorem dX7_evict_67 : decode cX7_evict 67 = .ok (.iload_n 2, 1) := by decide +kernel
theorem dX7_evict_68 : decode cX7_evict 68 = .ok (.iconst (-1), 1) := by decide +kernel
theorem dX7_evict_69 : decode cX7_evict 69 = .ok (.if_icmp .eq 18, 3) := by decide +kernel
theorem dX7_evict_72 : decode cX7_evict 72 = .ok (.aload_n 0, 1) := by decide +kernel
theorem dX7_evict_73 : decode cX7_evict 73 = .ok (.getfield 31, 3) := by decide +kernel
theorem dX7_evict_76 : decode cX7_evict 76 = .ok (.iload_n 3, 1) := by decide +kernel
theorem dX7_evict_77 : decode cX7_evict 77 = .ok (.iaload, 1) := by decide +kernel
theorem dX7_evict_78 : decode cX7_evict 78 = .ok (.aload_n 0, 1) := by decide +kernel
theorem dX7_evict_79 : decode cX7_evict 79 = .ok (.getfield 31, 3) := by decide +kernel
theorem dX7_evict_82 : decode cX7_evict 82 = .ok (.iload_n 2, 1) := by decide +kernel
theorem dX7_evict_83 : decode cX7_evict 83 = .ok (.iaload, 1) := by decide +kernel
theorem dX7_evict_84 : decode cX7_evict 84 = .ok (.if_icmp .ge 7, 3) := by decide +kernel
theorem dX7_evict_87 : decode cX7_evict 87 = .ok (.iload_n 3, 1) := by decide +kernel
theorem dX7_evict_88 : decode cX7_evict 88 = .ok (.goto 4, 3) := by decide +kernel
theorem dX7_evict_91 : decode cX7_evict 91 = .ok (.iload_n 2, 1) := by decide +kernel
theorem dX7_evict_92 : decode cX7_evict 92 = .ok (.istore_n 2, 1) := by decide +kernel
theorem dX7_evict_93 : decode cX7_evict 93 = .ok (.iinc 3 1, 3) := by decide +kernel
theorem dX7_evict_96 : decode cX7_evict 96 = .ok (.goto (-45), 3) := by decide +kernel
theorem dX7_evict_99 : decode cX7_evict 99 = .ok (.aload_n 0, 1) := by decide +kernel
theorem dX7_evict_100 : decode cX7_evict 100 = .ok (.iload_n 2, 1) := by decide +kernel
theorem dX7_evict_101 : decode cX7_evict 101 = .ok (.invokevirtual 129, 3) := by decide +kernel
theorem dX7_evict_104 : decode cX7_evict 104 = .ok (.return_, 1) := by decide +kernel
theorem dX7_wrong_0 : decode cX7_wrong 0 = .ok (.iload_n 1, 1) := by decide +kernel
theorem dX7_wrong_1 : decode cX7_wrong 1 = .ok (.sipush 256, 3) := by decide +kernel
theorem dX7_wrong_4 : decode cX7_wrong 4 = .ok (.idiv, 1) := by decide +kernel
theorem dX7_wrong_5 : decode cX7_wrong 5 = .ok (.istore_n 3, 1) := by decide +kernel
theorem dX7_wrong_6 : decode cX7_wrong 6 = .ok (.aload_n 0, 1) := by decide +kernel
theorem dX7_wrong_7 : decode cX7_wrong 7 = .ok (.getfield 19, 3) := by decide +kernel
theorem dX7_wrong_10 : decode cX7_wrong 10 = .ok (.iload_n 3, 1) := by decide +kernel
theorem dX7_wrong_11 : decode cX7_wrong 11 = .ok (.aload_n 0, 1) := by decide +kernel
theorem dX7_wrong_12 : decode cX7_wrong 12 = .ok (.getfield 19, 3) := by decide +kernel
theorem dX7_wrong_15 : decode cX7_wrong 15 = .ok (.iload_n 3, 1) := by decide +kernel
theorem dX7_wrong_16 : decode cX7_wrong 16 = .ok (.iaload, 1) := by decide +kernel
theorem dX7_wrong_17 : decode cX7_wrong 17 = .ok (.ifCond .ne 7, 3) := by decide +kernel
theorem dX7_wrong_20 : decode cX7_wrong 20 = .ok (.iload_n 2, 1) := by decide +kernel
theorem dX7_wrong_21 : decode cX7_wrong 21 = .ok (.goto 9, 3) := by decide +kernel
theorem dX7_wrong_24 : decode cX7_wrong 24 = .ok (.aload_n 0, 1) := by decide +kernel
theorem dX7_wrong_25 : decode cX7_wrong 25 = .ok (.getfield 19, 3) := by decide +kernel
theorem dX7_wrong_28 : decode cX7_wrong 28 = .ok (.iload_n 3, 1) := by decide +kernel
theorem dX7_wrong_29 : decode cX7_wrong 29 = .ok (.iaload, 1) := by decide +kernel
theorem dX7_wrong_30 : decode cX7_wrong 30 = .ok (.iastore, 1) := by decide +kernel
theorem dX7_wrong_31 : decode cX7_wrong 31 = .ok (.return_, 1) := by decide +kernel
theorem dX7_hasBlock_0 : decode cX7_hasBlock 0 = .ok (.iconst 0, 1) := by decide +kernel
theorem dX7_hasBlock_1 : decode cX7_hasBlock 1 = .ok (.istore_n 2, 1) := by decide +kernel
theorem dX7_hasBlock_2 : decode cX7_hasBlock 2 = .ok (.iload_n 2, 1) := by decide +kernel
theorem dX7_hasBlock_3 : decode cX7_hasBlock 3 = .ok (.aload_n 0, 1) := by decide +kernel
theorem dX7_hasBlock_4 : decode cX7_hasBlock 4 = .ok (.getfield 86, 3) := by decide +kernel
theorem dX7_hasBlock_7 : decode cX7_hasBlock 7 = .ok (.if_icmp .ge 42, 3) := by decide +kernel
theorem dX7_hasBlock_10 : decode cX7_hasBlock 10 = .ok (.aload_n 0, 1) := by decide +kernel
theorem dX7_hasBlock_11 : decode cX7_hasBlock 11 = .ok (.getfield 25, 3) := by decide +kernel
theorem dX7_hasBlock_14 : decode cX7_hasBlock 14 = .ok (.iload_n 1, 1) := by decide +kernel
theorem dX7_hasBlock_15 : decode cX7_hasBlock 15 = .ok (.iaload, 1) := by decide +kernel
theorem dX7_hasBlock_16 : decode cX7_hasBlock 16 = .ok (.iconst (-1), 1) := by decide +kernel
theorem dX7_hasBlock_17 : decode cX7_hasBlock 17 = .ok (.if_icmp .ne 32, 3) := by decide +kernel
theorem dX7_hasBlock_20 : decode cX7_hasBlock 20 = .ok (.aload_n 0, 1) := by decide +kernel
theorem dX7_hasBlock_21 : decode cX7_hasBlock 21 = .ok (.getfield 61, 3) := by decide +kernel
theorem dX7_hasBlock_24 : decode cX7_hasBlock 24 = .ok (.iload_n 2, 1) := by decide +kernel
theorem dX7_hasBlock_25 : decode cX7_hasBlock 25 = .ok (.baload, 1) := by decide +kernel
theorem dX7_hasBlock_26 : decode cX7_hasBlock 26 = .ok (.ifCond .ne 17, 3) := by decide +kernel
theorem dX7_hasBlock_29 : decode cX7_hasBlock 29 = .ok (.aload_n 0, 1) := by decide +kernel
theorem dX7_hasBlock_30 : decode cX7_hasBlock 30 = .ok (.getfield 61, 3) := by decide +kernel
theorem dX7_hasBlock_33 : decode cX7_hasBlock 33 = .ok (.iload_n 2, 1) := by decide +kernel
theorem dX7_hasBlock_34 : decode cX7_hasBlock 34 = .ok (.iconst 1, 1) := by decide +kernel
theorem dX7_hasBlock_35 : decode cX7_hasBlock 35 = .ok (.bastore, 1) := by decide +kernel
theorem dX7_hasBlock_36 : decode cX7_hasBlock 36 = .ok (.aload_n 0, 1) := by decide +kernel
theorem dX7_hasBlock_37 : decode cX7_hasBlock 37 = .ok (.getfield 25, 3) := by decide +kernel
theorem dX7_hasBlock_40 : decode cX7_hasBlock 40 = .ok (.iload_n 1, 1) := by decide +kernel
theorem dX7_hasBlock_41 : decode cX7_hasBlock 41 = .ok (.iload_n 2, 1) := by decide +kernel
theorem dX7_hasBlock_42 : decode cX7_hasBlock 42 = .ok (.iastore, 1) := by decide +kernel
theorem dX7_hasBlock_43 : decode cX7_hasBlock 43 = .ok (.iinc 2 1, 3) := by decide +kernel
theorem dX7_hasBlock_46 : decode cX7_hasBlock 46 = .ok (.goto (-44), 3) := by decide +kernel
theorem dX7_hasBlock_49 : decode cX7_hasBlock 49 = .ok (.aload_n 0, 1) := by decide +kernel
theorem dX7_hasBlock_50 : decode cX7_hasBlock 50 = .ok (.getfield 25, 3) := by decide +kernel
theorem dX7_hasBlock_53 : decode cX7_hasBlock 53 = .ok (.iload_n 1, 1) := by decide +kernel
theorem dX7_hasBlock_54 : decode cX7_hasBlock 54 = .ok (.iaload, 1) := by decide +kernel
theorem dX7_hasBlock_55 : decode cX7_hasBlock 55 = .ok (.iconst (-1), 1) := by decide +kernel
theorem dX7_hasBlock_56 : decode cX7_hasBlock 56 = .ok (.if_icmp .ne 10, 3) := by decide +kernel
theorem dX7_hasBlock_59 : decode cX7_hasBlock 59 = .ok (.aload_n 0, 1) := by decide +kernel
theorem dX7_hasBlock_60 : decode cX7_hasBlock 60 = .ok (.iload_n 1, 1) := by decide +kernel
theorem dX7_hasBlock_61 : decode cX7_hasBlock 61 = .ok (.bipush (-4), 2) := by decide +kernel
theorem dX7_hasBlock_63 : decode cX7_hasBlock 63 = .ok (.invokevirtual 132, 3) := by decide +kernel
theorem dX7_hasBlock_66 : decode cX7_hasBlock 66 = .ok (.aload_n 0, 1) := by decide +kernel
theorem dX7_hasBlock_67 : decode cX7_hasBlock 67 = .ok (.getfield 25, 3) := by decide +kernel
theorem dX7_hasBlock_70 : decode cX7_hasBlock 70 = .ok (.iload_n 1, 1) := by decide +kernel
theorem dX7_hasBlock_71 : decode cX7_hasBlock 71 = .ok (.iaload, 1) := by decide +kernel
theorem dX7_hasBlock_72 : decode cX7_hasBlock 72 = .ok (.iconst (-1), 1) := by decide +kernel
theorem dX7_hasBlock_73 : decode cX7_hasBlock 73 = .ok (.if_icmp .eq 7, 3) := by decide +kernel
theorem dX7_hasBlock_76 : decode cX7_hasBlock 76 = .ok (.iconst 1, 1) := by decide +kernel
theorem dX7_hasBlock_77 : decode cX7_hasBlock 77 = .ok (.goto 4, 3) := by decide +kernel
theorem dX7_hasBlock_80 : decode cX7_hasBlock 80 = .ok (.iconst 0, 1) := by decide +kernel
theorem dX7_hasBlock_81 : decode cX7_hasBlock 81 = .ok (.ireturn, 1) := by decide +kernel
theorem dX7_written_0 : decode cX7_written 0 = .ok (.aload_n 0, 1) := by decide +kernel
theorem dX7_written_1 : decode cX7_written 1 = .ok (.iload_n 1, 1) := by decide +kernel
theorem dX7_written_2 : decode cX7_written 2 = .ok (.invokevirtual 136, 3) := by decide +kernel
theorem dX7_written_5 : decode cX7_written 5 = .ok (.ifCond .ne 5, 3) := by decide +kernel
theorem dX7_written_8 : decode cX7_written 8 = .ok (.iconst 0, 1) := by decide +kernel
theorem dX7_written_9 : decode cX7_written 9 = .ok (.ireturn, 1) := by decide +kernel
theorem dX7_written_10 : decode cX7_written 10 = .ok (.aload_n 0, 1) := by decide +kernel
theorem dX7_written_11 : decode cX7_written 11 = .ok (.getfield 25, 3) := by decide +kernel
theorem dX7_written_14 : decode cX7_written 14 = .ok (.iload_n 1, 1) := by decide +kernel
theorem dX7_written_15 : decode cX7_written 15 = .ok (.iaload, 1) := by decide +kernel
theorem dX7_written_16 : decode cX7_written 16 = .ok (.istore_n 2, 1) := by decide +kernel
theorem dX7_written_17 : decode cX7_written 17 = .ok (.aload_n 0, 1) := by decide +kernel
theorem dX7_written_18 : decode cX7_written 18 = .ok (.getfield 64, 3) := by decide +kernel
theorem dX7_written_21 : decode cX7_written 21 = .ok (.iload_n 2, 1) := by decide +kernel
theorem dX7_written_22 : decode cX7_written 22 = .ok (.baload, 1) := by decide +kernel
theorem dX7_written_23 : decode cX7_written 23 = .ok (.ifCond .eq 12, 3) := by decide +kernel
theorem dX7_written_26 : decode cX7_written 26 = .ok (.aload_n 0, 1) := by decide +kernel
theorem dX7_written_27 : decode cX7_written 27 = .ok (.iload_n 1, 1) := by decide +kernel
theorem dX7_written_28 : decode cX7_written 28 = .ok (.bipush (-5), 2) := by decide +kernel
theorem dX7_written_30 : decode cX7_written 30 = .ok (.invokevirtual 132, 3) := by decide +kernel
theorem dX7_written_33 : decode cX7_written 33 = .ok (.iconst 0, 1) := by decide +kernel
theorem dX7_written_34 : decode cX7_written 34 = .ok (.ireturn, 1) := by decide +kernel
theorem dX7_written_35 : decode cX7_written 35 = .ok (.aload_n 0, 1) := by decide +kernel
theorem dX7_written_36 : decode cX7_written 36 = .ok (.iconst 1, 1) := by decide +kernel
theorem dX7_written_37 : decode cX7_written 37 = .ok (.iload_n 2, 1) := by decide +kernel
theorem dX7_written_38 : decode cX7_written 38 = .ok (.invokevirtual 140, 3) := by decide +kernel
theorem dX7_written_41 : decode cX7_written 41 = .ok (.aload_n 0, 1) := by decide +kernel
theorem dX7_written_42 : decode cX7_written 42 = .ok (.getfield 7, 3) := by decide +kernel
theorem dX7_written_45 : decode cX7_written 45 = .ok (.iload_n 1, 1) := by decide +kernel
theorem dX7_written_46 : decode cX7_written 46 = .ok (.sipush 256, 3) := by decide +kernel
theorem dX7_written_49 : decode cX7_written 49 = .ok (.idiv, 1) := by decide +kernel
theorem dX7_written_50 : decode cX7_written 50 = .ok (.iaload, 1) := by decide +kernel
theorem dX7_written_51 : decode cX7_written 51 = .ok (.bipush 64, 2) := by decide +kernel
theorem dX7_written_53 : decode cX7_written 53 = .ok (.iload_n 1, 1) := by decide +kernel
theorem dX7_written_54 : decode cX7_written 54 = .ok (.sipush 256, 3) := by decide +kernel
theorem dX7_written_57 : decode cX7_written 57 = .ok (.irem, 1) := by decide +kernel
theorem dX7_written_58 : decode cX7_written 58 = .ok (.imul, 1) := by decide +kernel
theorem dX7_written_59 : decode cX7_written 59 = .ok (.isub, 1) := by decide +kernel
theorem dX7_written_60 : decode cX7_written 60 = .ok (.istore_n 3, 1) := by decide +kernel
theorem dX7_written_61 : decode cX7_written 61 = .ok (.iconst 0, 1) := by decide +kernel
theorem dX7_written_62 : decode cX7_written 62 = .ok (.istore 4, 2) := by decide +kernel
theorem dX7_written_64 : decode cX7_written 64 = .ok (.iload 4, 2) := by decide +kernel
theorem dX7_written_66 : decode cX7_written 66 = .ok (.bipush 64, 2) := by decide +kernel
theorem dX7_written_68 : decode cX7_written 68 = .ok (.if_icmp .ge 48, 3) := by decide +kernel
theorem dX7_written_71 : decode cX7_written 71 = .ok (.aload_n 0, 1) := by decide +kernel
theorem dX7_written_72 : decode cX7_written 72 = .ok (.getfield 58, 3) := by decide +kernel
theorem dX7_written_75 : decode cX7_written 75 = .ok (.bipush 64, 2) := by decide +kernel
theorem dX7_written_77 : decode cX7_written 77 = .ok (.iload_n 2, 1) := by decide +kernel
theorem dX7_written_78 : decode cX7_written 78 = .ok (.imul, 1) := by decide +kernel
theorem dX7_written_79 : decode cX7_written 79 = .ok (.iload 4, 2) := by decide +kernel
theorem dX7_written_81 : decode cX7_written 81 = .ok (.iadd, 1) := by decide +kernel
theorem dX7_written_82 : decode cX7_written 82 = .ok (.iload 4, 2) := by decide +kernel
theorem dX7_written_84 : decode cX7_written 84 = .ok (.iload_n 3, 1) := by decide +kernel
theorem dX7_written_85 : decode cX7_written 85 = .ok (.if_icmp .ge 23, 3) := by decide +kernel
theorem dX7_written_88 : decode cX7_written 88 = .ok (.aload_n 0, 1) := by decide +kernel
theorem dX7_written_89 : decode cX7_written 89 = .ok (.getfield 53, 3) := by decide +kernel
theorem dX7_written_92 : decode cX7_written 92 = .ok (.bipush 64, 2) := by decide +kernel
theorem dX7_written_94 : decode cX7_written 94 = .ok (.aload_n 0, 1) := by decide +kernel
theorem dX7_written_95 : decode cX7_written 95 = .ok (.getfield 22, 3) := by decide +kernel
theorem dX7_written_98 : decode cX7_written 98 = .ok (.iload_n 1, 1) := by decide +kernel
theorem dX7_written_99 : decode cX7_written 99 = .ok (.iaload, 1) := by decide +kernel
theorem dX7_written_100 : decode cX7_written 100 = .ok (.imul, 1) := by decide +kernel
theorem dX7_written_101 : decode cX7_written 101 = .ok (.iload 4, 2) := by decide +kernel
theorem dX7_written_103 : decode cX7_written 103 = .ok (.iadd, 1) := by decide +kernel
theorem dX7_written_104 : decode cX7_written 104 = .ok (.baload, 1) := by decide +kernel
theorem dX7_written_105 : decode cX7_written 105 = .ok (.goto 4, 3) := by decide +kernel
theorem dX7_written_108 : decode cX7_written 108 = .ok (.iconst 0, 1) := by decide +kernel
theorem dX7_written_109 : decode cX7_written 109 = .ok (.bastore, 1) := by decide +kernel
theorem dX7_written_110 : decode cX7_written 110 = .ok (.iinc 4 1, 3) := by decide +kernel
theorem dX7_written_113 : decode cX7_written 113 = .ok (.goto (-49), 3) := by decide +kernel
theorem dX7_written_116 : decode cX7_written 116 = .ok (.aload_n 0, 1) := by decide +kernel
theorem dX7_written_117 : decode cX7_written 117 = .ok (.getfield 28, 3) := by decide +kernel
theorem dX7_written_120 : decode cX7_written 120 = .ok (.iload_n 1, 1) := by decide +kernel
theorem dX7_written_121 : decode cX7_written 121 = .ok (.iconst (-1), 1) := by decide +kernel
theorem dX7_written_122 : decode cX7_written 122 = .ok (.iastore, 1) := by decide +kernel
theorem dX7_written_123 : decode cX7_written 123 = .ok (.iconst 1, 1) := by decide +kernel
theorem dX7_written_124 : decode cX7_written 124 = .ok (.ireturn, 1) := by decide +kernel
theorem dX7_frame_0 : decode cX7_frame 0 = .ok (.iconst 0, 1) := by decide +kernel
theorem dX7_frame_1 : decode cX7_frame 1 = .ok (.istore_n 1, 1) := by decide +kernel
theorem dX7_frame_2 : decode cX7_frame 2 = .ok (.iload_n 1, 1) := by decide +kernel
theorem dX7_frame_3 : decode cX7_frame 3 = .ok (.aload_n 0, 1) := by decide +kernel
theorem dX7_frame_4 : decode cX7_frame 4 = .ok (.getfield 82, 3) := by decide +kernel
theorem dX7_frame_7 : decode cX7_frame 7 = .ok (.if_icmp .ge 20, 3) := by decide +kernel
theorem dX7_frame_10 : decode cX7_frame 10 = .ok (.aload_n 0, 1) := by decide +kernel
theorem dX7_frame_11 : decode cX7_frame 11 = .ok (.getfield 50, 3) := by decide +kernel
theorem dX7_frame_14 : decode cX7_frame 14 = .ok (.iload_n 1, 1) := by decide +kernel
theorem dX7_frame_15 : decode cX7_frame 15 = .ok (.baload, 1) := by decide +kernel
theorem dX7_frame_16 : decode cX7_frame 16 = .ok (.ifCond .ne 5, 3) := by decide +kernel
theorem dX7_frame_19 : decode cX7_frame 19 = .ok (.iload_n 1, 1) := by decide +kernel
theorem dX7_frame_20 : decode cX7_frame 20 = .ok (.ireturn, 1) := by decide +kernel
theorem dX7_frame_21 : decode cX7_frame 21 = .ok (.iinc 1 1, 3) := by decide +kernel
theorem dX7_frame_24 : decode cX7_frame 24 = .ok (.goto (-22), 3) := by decide +kernel
theorem dX7_frame_27 : decode cX7_frame 27 = .ok (.aload_n 0, 1) := by decide +kernel
theorem dX7_frame_28 : decode cX7_frame 28 = .ok (.getfield 102, 3) := by decide +kernel
theorem dX7_frame_31 : decode cX7_frame 31 = .ok (.aload_n 0, 1) := by decide +kernel
theorem dX7_frame_32 : decode cX7_frame 32 = .ok (.getfield 105, 3) := by decide +kernel
theorem dX7_frame_35 : decode cX7_frame 35 = .ok (.if_icmp .le 38, 3) := by decide +kernel
theorem dX7_frame_38 : decode cX7_frame 38 = .ok (.aload_n 0, 1) := by decide +kernel
theorem dX7_frame_39 : decode cX7_frame 39 = .ok (.getfield 44, 3) := by decide +kernel
theorem dX7_frame_42 : decode cX7_frame 42 = .ok (.aload_n 0, 1) := by decide +kernel
theorem dX7_frame_43 : decode cX7_frame 43 = .ok (.getfield 102, 3) := by decide +kernel
theorem dX7_frame_46 : decode cX7_frame 46 = .ok (.iconst 1, 1) := by decide +kernel
theorem dX7_frame_47 : decode cX7_frame 47 = .ok (.isub, 1) := by decide +kernel
theorem dX7_frame_48 : decode cX7_frame 48 = .ok (.iaload, 1) := by decide +kernel
theorem dX7_frame_49 : decode cX7_frame 49 = .ok (.istore_n 1, 1) := by decide +kernel
theorem dX7_frame_50 : decode cX7_frame 50 = .ok (.aload_n 0, 1) := by decide +kernel
theorem dX7_frame_51 : decode cX7_frame 51 = .ok (.getfield 34, 3) := by decide +kernel
theorem dX7_frame_54 : decode cX7_frame 54 = .ok (.iload_n 1, 1) := by decide +kernel
theorem dX7_frame_55 : decode cX7_frame 55 = .ok (.baload, 1) := by decide +kernel
theorem dX7_frame_56 : decode cX7_frame 56 = .ok (.istore_n 2, 1) := by decide +kernel
theorem dX7_frame_57 : decode cX7_frame 57 = .ok (.aload_n 0, 1) := by decide +kernel
theorem dX7_frame_58 : decode cX7_frame 58 = .ok (.getfield 34, 3) := by decide +kernel
theorem dX7_frame_61 : decode cX7_frame 61 = .ok (.iload_n 1, 1) := by decide +kernel
theorem dX7_frame_62 : decode cX7_frame 62 = .ok (.iconst 0, 1) := by decide +kernel
theorem dX7_frame_63 : decode cX7_frame 63 = .ok (.bastore, 1) := by decide +kernel
theorem dX7_frame_64 : decode cX7_frame 64 = .ok (.aload_n 0, 1) := by decide +kernel
theorem dX7_frame_65 : decode cX7_frame 65 = .ok (.iload_n 1, 1) := by decide +kernel
theorem dX7_frame_66 : decode cX7_frame 66 = .ok (.iload_n 2, 1) := by decide +kernel
theorem dX7_frame_67 : decode cX7_frame 67 = .ok (.invokevirtual 143, 3) := by decide +kernel
theorem dX7_frame_70 : decode cX7_frame 70 = .ok (.goto (-43), 3) := by decide +kernel
theorem dX7_frame_73 : decode cX7_frame 73 = .ok (.iconst 0, 1) := by decide +kernel
theorem dX7_frame_74 : decode cX7_frame 74 = .ok (.istore_n 1, 1) := by decide +kernel
theorem dX7_frame_75 : decode cX7_frame 75 = .ok (.iload_n 1, 1) := by decide +kernel
theorem dX7_frame_76 : decode cX7_frame 76 = .ok (.iconst 2, 1) := by decide +kernel
theorem dX7_frame_77 : decode cX7_frame 77 = .ok (.aload_n 0, 1) := by decide +kernel
theorem dX7_frame_78 : decode cX7_frame 78 = .ok (.getfield 82, 3) := by decide +kernel
theorem dX7_frame_81 : decode cX7_frame 81 = .ok (.imul, 1) := by decide +kernel
theorem dX7_frame_82 : decode cX7_frame 82 = .ok (.if_icmp .ge 110, 3) := by decide +kernel
theorem dX7_frame_85 : decode cX7_frame 85 = .ok (.aload_n 0, 1) := by decide +kernel
theorem dX7_frame_86 : decode cX7_frame 86 = .ok (.getfield 105, 3) := by decide +kernel
theorem dX7_frame_89 : decode cX7_frame 89 = .ok (.ifCond .le 103, 3) := by decide +kernel
theorem dX7_frame_92 : decode cX7_frame 92 = .ok (.aload_n 0, 1) := by decide +kernel
theorem dX7_frame_93 : decode cX7_frame 93 = .ok (.getfield 47, 3) := by decide +kernel
theorem dX7_frame_96 : decode cX7_frame 96 = .ok (.aload_n 0, 1) := by decide +kernel
theorem dX7_frame_97 : decode cX7_frame 97 = .ok (.getfield 105, 3) := by decide +kernel
theorem dX7_frame_100 : decode cX7_frame 100 = .ok (.iconst 1, 1) := by decide +kernel
theorem dX7_frame_101 : decode cX7_frame 101 = .ok (.isub, 1) := by decide +kernel
theorem dX7_frame_102 : decode cX7_frame 102 = .ok (.iaload, 1) := by decide +kernel
theorem dX7_frame_103 : decode cX7_frame 103 = .ok (.istore_n 2, 1) := by decide +kernel
theorem dX7_frame_104 : decode cX7_frame 104 = .ok (.aload_n 0, 1) := by decide +kernel
theorem dX7_frame_105 : decode cX7_frame 105 = .ok (.getfield 38, 3) := by decide +kernel
theorem dX7_frame_108 : decode cX7_frame 108 = .ok (.iload_n 2, 1) := by decide +kernel
theorem dX7_frame_109 : decode cX7_frame 109 = .ok (.baload, 1) := by decide +kernel
theorem dX7_frame_110 : decode cX7_frame 110 = .ok (.ifCond .eq 12, 3) := by decide +kernel
theorem dX7_frame_113 : decode cX7_frame 113 = .ok (.aload_n 0, 1) := by decide +kernel
theorem dX7_frame_114 : decode cX7_frame 114 = .ok (.iload_n 2, 1) := by decide +kernel
theorem dX7_frame_115 : decode cX7_frame 115 = .ok (.iconst 0, 1) := by decide +kernel
theorem dX7_frame_116 : decode cX7_frame 116 = .ok (.invokevirtual 143, 3) := by decide +kernel
theorem dX7_frame_119 : decode cX7_frame 119 = .ok (.goto 67, 3) := by decide +kernel
theorem dX7_frame_122 : decode cX7_frame 122 = .ok (.aload_n 0, 1) := by decide +kernel
theorem dX7_frame_123 : decode cX7_frame 123 = .ok (.getfield 34, 3) := by decide +kernel
theorem dX7_frame_126 : decode cX7_frame 126 = .ok (.iload_n 2, 1) := by decide +kernel
theorem dX7_frame_127 : decode cX7_frame 127 = .ok (.baload, 1) := by decide +kernel
theorem dX7_frame_128 : decode cX7_frame 128 = .ok (.ifCond .eq 19, 3) := by decide +kernel
theorem dX7_frame_131 : decode cX7_frame 131 = .ok (.aload_n 0, 1) := by decide +kernel
theorem dX7_frame_132 : decode cX7_frame 132 = .ok (.getfield 34, 3) := by decide +kernel
theorem dX7_frame_135 : decode cX7_frame 135 = .ok (.iload_n 2, 1) := by decide +kernel
theorem dX7_frame_136 : decode cX7_frame 136 = .ok (.iconst 0, 1) := by decide +kernel
theorem dX7_frame_137 : decode cX7_frame 137 = .ok (.bastore, 1) := by decide +kernel
theorem dX7_frame_138 : decode cX7_frame 138 = .ok (.aload_n 0, 1) := by decide +kernel
theorem dX7_frame_139 : decode cX7_frame 139 = .ok (.iload_n 2, 1) := by decide +kernel
theorem dX7_frame_140 : decode cX7_frame 140 = .ok (.iconst 1, 1) := by decide +kernel
theorem dX7_frame_141 : decode cX7_frame 141 = .ok (.invokevirtual 143, 3) := by decide +kernel
theorem dX7_frame_144 : decode cX7_frame 144 = .ok (.goto 42, 3) := by decide +kernel
theorem dX7_frame_147 : decode cX7_frame 147 = .ok (.aload_n 0, 1) := by decide +kernel
theorem dX7_frame_148 : decode cX7_frame 148 = .ok (.iload_n 2, 1) := by decide +kernel
theorem dX7_frame_149 : decode cX7_frame 149 = .ok (.invokevirtual 146, 3) := by decide +kernel
theorem dX7_frame_152 : decode cX7_frame 152 = .ok (.ifCond .eq 20, 3) := by decide +kernel
theorem dX7_frame_155 : decode cX7_frame 155 = .ok (.aload_n 0, 1) := by decide +kernel
theorem dX7_frame_156 : decode cX7_frame 156 = .ok (.iload_n 2, 1) := by decide +kernel
theorem dX7_frame_157 : decode cX7_frame 157 = .ok (.invokevirtual 149, 3) := by decide +kernel
theorem dX7_frame_160 : decode cX7_frame 160 = .ok (.ifCond .ne 12, 3) := by decide +kernel
theorem dX7_frame_163 : decode cX7_frame 163 = .ok (.aload_n 0, 1) := by decide +kernel
theorem dX7_frame_164 : decode cX7_frame 164 = .ok (.iload_n 2, 1) := by decide +kernel
theorem dX7_frame_165 : decode cX7_frame 165 = .ok (.iconst 0, 1) := by decide +kernel
theorem dX7_frame_166 : decode cX7_frame 166 = .ok (.invokevirtual 143, 3) := by decide +kernel
theorem dX7_frame_169 : decode cX7_frame 169 = .ok (.goto 17, 3) := by decide +kernel
theorem dX7_frame_172 : decode cX7_frame 172 = .ok (.aload_n 0, 1) := by decide +kernel
theorem dX7_frame_173 : decode cX7_frame 173 = .ok (.getfield 22, 3) := by decide +kernel
theorem dX7_frame_176 : decode cX7_frame 176 = .ok (.iload_n 2, 1) := by decide +kernel
theorem dX7_frame_177 : decode cX7_frame 177 = .ok (.iaload, 1) := by decide +kernel
theorem dX7_frame_178 : decode cX7_frame 178 = .ok (.istore_n 3, 1) := by decide +kernel
theorem dX7_frame_179 : decode cX7_frame 179 = .ok (.aload_n 0, 1) := by decide +kernel
theorem dX7_frame_180 : decode cX7_frame 180 = .ok (.iload_n 2, 1) := by decide +kernel
theorem dX7_frame_181 : decode cX7_frame 181 = .ok (.invokevirtual 152, 3) := by decide +kernel
theorem dX7_frame_184 : decode cX7_frame 184 = .ok (.iload_n 3, 1) := by decide +kernel
theorem dX7_frame_185 : decode cX7_frame 185 = .ok (.ireturn, 1) := by decide +kernel
theorem dX7_frame_186 : decode cX7_frame 186 = .ok (.iinc 1 1, 3) := by decide +kernel
theorem dX7_frame_189 : decode cX7_frame 189 = .ok (.goto (-114), 3) := by decide +kernel
theorem dX7_frame_192 : decode cX7_frame 192 = .ok (.aload_n 0, 1) := by decide +kernel
theorem dX7_frame_193 : decode cX7_frame 193 = .ok (.getfield 102, 3) := by decide +kernel
theorem dX7_frame_196 : decode cX7_frame 196 = .ok (.iconst 1, 1) := by decide +kernel
theorem dX7_frame_197 : decode cX7_frame 197 = .ok (.isub, 1) := by decide +kernel
theorem dX7_frame_198 : decode cX7_frame 198 = .ok (.istore_n 1, 1) := by decide +kernel
theorem dX7_frame_199 : decode cX7_frame 199 = .ok (.iload_n 1, 1) := by decide +kernel
theorem dX7_frame_200 : decode cX7_frame 200 = .ok (.ifCond .lt 55, 3) := by decide +kernel
theorem dX7_frame_203 : decode cX7_frame 203 = .ok (.aload_n 0, 1) := by decide +kernel
theorem dX7_frame_204 : decode cX7_frame 204 = .ok (.getfield 44, 3) := by decide +kernel
theorem dX7_frame_207 : decode cX7_frame 207 = .ok (.iload_n 1, 1) := by decide +kernel
theorem dX7_frame_208 : decode cX7_frame 208 = .ok (.iaload, 1) := by decide +kernel
theorem dX7_frame_209 : decode cX7_frame 209 = .ok (.istore_n 2, 1) := by decide +kernel
theorem dX7_frame_210 : decode cX7_frame 210 = .ok (.aload_n 0, 1) := by decide +kernel
theorem dX7_frame_211 : decode cX7_frame 211 = .ok (.getfield 38, 3) := by decide +kernel
theorem dX7_frame_214 : decode cX7_frame 214 = .ok (.iload_n 2, 1) := by decide +kernel
theorem dX7_frame_215 : decode cX7_frame 215 = .ok (.baload, 1) := by decide +kernel
theorem dX7_frame_216 : decode cX7_frame 216 = .ok (.ifCond .ne 33, 3) := by decide +kernel
theorem dX7_frame_219 : decode cX7_frame 219 = .ok (.aload_n 0, 1) := by decide +kernel
theorem dX7_frame_220 : decode cX7_frame 220 = .ok (.iload_n 2, 1) := by decide +kernel
theorem dX7_frame_221 : decode cX7_frame 221 = .ok (.invokevirtual 146, 3) := by decide +kernel
theorem dX7_frame_224 : decode cX7_frame 224 = .ok (.ifCond .eq 11, 3) := by decide +kernel
theorem dX7_frame_227 : decode cX7_frame 227 = .ok (.aload_n 0, 1) := by decide +kernel
theorem dX7_frame_228 : decode cX7_frame 228 = .ok (.iload_n 2, 1) := by decide +kernel
theorem dX7_frame_229 : decode cX7_frame 229 = .ok (.invokevirtual 149, 3) := by decide +kernel
theorem dX7_frame_232 : decode cX7_frame 232 = .ok (.ifCond .eq 17, 3) := by decide +kernel
theorem dX7_frame_235 : decode cX7_frame 235 = .ok (.aload_n 0, 1) := by decide +kernel
theorem dX7_frame_236 : decode cX7_frame 236 = .ok (.getfield 22, 3) := by decide +kernel
theorem dX7_frame_239 : decode cX7_frame 239 = .ok (.iload_n 2, 1) := by decide +kernel
theorem dX7_frame_240 : decode cX7_frame 240 = .ok (.iaload, 1) := by decide +kernel
theorem dX7_frame_241 : decode cX7_frame 241 = .ok (.istore_n 3, 1) := by decide +kernel
theorem dX7_frame_242 : decode cX7_frame 242 = .ok (.aload_n 0, 1) := by decide +kernel
theorem dX7_frame_243 : decode cX7_frame 243 = .ok (.iload_n 2, 1) := by decide +kernel
theorem dX7_frame_244 : decode cX7_frame 244 = .ok (.invokevirtual 152, 3) := by decide +kernel
theorem dX7_frame_247 : decode cX7_frame 247 = .ok (.iload_n 3, 1) := by decide +kernel
theorem dX7_frame_248 : decode cX7_frame 248 = .ok (.ireturn, 1) := by decide +kernel
theorem dX7_frame_249 : decode cX7_frame 249 = .ok (.iinc 1 (-1), 3) := by decide +kernel
theorem dX7_frame_252 : decode cX7_frame 252 = .ok (.goto (-53), 3) := by decide +kernel
theorem dX7_frame_255 : decode cX7_frame 255 = .ok (.iconst (-1), 1) := by decide +kernel
theorem dX7_frame_256 : decode cX7_frame 256 = .ok (.ireturn, 1) := by decide +kernel
theorem dX7_bringIn_0 : decode cX7_bringIn 0 = .ok (.aload_n 0, 1) := by decide +kernel
theorem dX7_bringIn_1 : decode cX7_bringIn 1 = .ok (.invokevirtual 155, 3) := by decide +kernel
theorem dX7_bringIn_4 : decode cX7_bringIn 4 = .ok (.istore_n 2, 1) := by decide +kernel
theorem dX7_bringIn_5 : decode cX7_bringIn 5 = .ok (.iload_n 2, 1) := by decide +kernel
theorem dX7_bringIn_6 : decode cX7_bringIn 6 = .ok (.iconst (-1), 1) := by decide +kernel
theorem dX7_bringIn_7 : decode cX7_bringIn 7 = .ok (.if_icmp .ne 5, 3) := by decide +kernel
theorem dX7_bringIn_10 : decode cX7_bringIn 10 = .ok (.iconst 0, 1) := by decide +kernel
theorem dX7_bringIn_11 : decode cX7_bringIn 11 = .ok (.ireturn, 1) := by decide +kernel
theorem dX7_bringIn_12 : decode cX7_bringIn 12 = .ok (.iconst 0, 1) := by decide +kernel
theorem dX7_bringIn_13 : decode cX7_bringIn 13 = .ok (.istore_n 3, 1) := by decide +kernel
theorem dX7_bringIn_14 : decode cX7_bringIn 14 = .ok (.iload_n 3, 1) := by decide +kernel
theorem dX7_bringIn_15 : decode cX7_bringIn 15 = .ok (.bipush 64, 2) := by decide +kernel
theorem dX7_bringIn_17 : decode cX7_bringIn 17 = .ok (.if_icmp .ge 50, 3) := by decide +kernel
theorem dX7_bringIn_20 : decode cX7_bringIn 20 = .ok (.aload_n 0, 1) := by decide +kernel
theorem dX7_bringIn_21 : decode cX7_bringIn 21 = .ok (.getfield 53, 3) := by decide +kernel
theorem dX7_bringIn_24 : decode cX7_bringIn 24 = .ok (.bipush 64, 2) := by decide +kernel
theorem dX7_bringIn_26 : decode cX7_bringIn 26 = .ok (.iload_n 2, 1) := by decide +kernel
theorem dX7_bringIn_27 : decode cX7_bringIn 27 = .ok (.imul, 1) := by decide +kernel
theorem dX7_bringIn_28 : decode cX7_bringIn 28 = .ok (.iload_n 3, 1) := by decide +kernel
theorem dX7_bringIn_29 : decode cX7_bringIn 29 = .ok (.iadd, 1) := by decide +kernel
theorem dX7_bringIn_30 : decode cX7_bringIn 30 = .ok (.aload_n 0, 1) := by decide +kernel
theorem dX7_bringIn_31 : decode cX7_bringIn 31 = .ok (.getfield 25, 3) := by decide +kernel
theorem dX7_bringIn_34 : decode cX7_bringIn 34 = .ok (.iload_n 1, 1) := by decide +kernel
theorem dX7_bringIn_35 : decode cX7_bringIn 35 = .ok (.iaload, 1) := by decide +kernel
theorem dX7_bringIn_36 : decode cX7_bringIn 36 = .ok (.iconst (-1), 1) := by decide +kernel
theorem dX7_bringIn_37 : decode cX7_bringIn 37 = .ok (.if_icmp .ne 7, 3) := by decide +kernel
theorem dX7_bringIn_40 : decode cX7_bringIn 40 = .ok (.iconst 0, 1) := by decide +kernel
theorem dX7_bringIn_41 : decode cX7_bringIn 41 = .ok (.goto 19, 3) := by decide +kernel
theorem dX7_bringIn_44 : decode cX7_bringIn 44 = .ok (.aload_n 0, 1) := by decide +kernel
theorem dX7_bringIn_45 : decode cX7_bringIn 45 = .ok (.getfield 58, 3) := by decide +kernel
theorem dX7_bringIn_48 : decode cX7_bringIn 48 = .ok (.bipush 64, 2) := by decide +kernel
theorem dX7_bringIn_50 : decode cX7_bringIn 50 = .ok (.aload_n 0, 1) := by decide +kernel
theorem dX7_bringIn_51 : decode cX7_bringIn 51 = .ok (.getfield 25, 3) := by decide +kernel
theorem dX7_bringIn_54 : decode cX7_bringIn 54 = .ok (.iload_n 1, 1) := by decide +kernel
theorem dX7_bringIn_55 : decode cX7_bringIn 55 = .ok (.iaload, 1) := by decide +kernel
theorem dX7_bringIn_56 : decode cX7_bringIn 56 = .ok (.imul, 1) := by decide +kernel
theorem dX7_bringIn_57 : decode cX7_bringIn 57 = .ok (.iload_n 3, 1) := by decide +kernel
theorem dX7_bringIn_58 : decode cX7_bringIn 58 = .ok (.iadd, 1) := by decide +kernel
theorem dX7_bringIn_59 : decode cX7_bringIn 59 = .ok (.baload, 1) := by decide +kernel
theorem dX7_bringIn_60 : decode cX7_bringIn 60 = .ok (.bastore, 1) := by decide +kernel
theorem dX7_bringIn_61 : decode cX7_bringIn 61 = .ok (.iinc 3 1, 3) := by decide +kernel
theorem dX7_bringIn_64 : decode cX7_bringIn 64 = .ok (.goto (-50), 3) := by decide +kernel
theorem dX7_bringIn_67 : decode cX7_bringIn 67 = .ok (.aload_n 0, 1) := by decide +kernel
theorem dX7_bringIn_68 : decode cX7_bringIn 68 = .ok (.getfield 25, 3) := by decide +kernel
theorem dX7_bringIn_71 : decode cX7_bringIn 71 = .ok (.iload_n 1, 1) := by decide +kernel
theorem dX7_bringIn_72 : decode cX7_bringIn 72 = .ok (.iaload, 1) := by decide +kernel
theorem dX7_bringIn_73 : decode cX7_bringIn 73 = .ok (.iconst (-1), 1) := by decide +kernel
theorem dX7_bringIn_74 : decode cX7_bringIn 74 = .ok (.if_icmp .eq 14, 3) := by decide +kernel
theorem dX7_bringIn_77 : decode cX7_bringIn 77 = .ok (.aload_n 0, 1) := by decide +kernel
theorem dX7_bringIn_78 : decode cX7_bringIn 78 = .ok (.iconst 0, 1) := by decide +kernel
theorem dX7_bringIn_79 : decode cX7_bringIn 79 = .ok (.aload_n 0, 1) := by decide +kernel
theorem dX7_bringIn_80 : decode cX7_bringIn 80 = .ok (.getfield 25, 3) := by decide +kernel
theorem dX7_bringIn_83 : decode cX7_bringIn 83 = .ok (.iload_n 1, 1) := by decide +kernel
theorem dX7_bringIn_84 : decode cX7_bringIn 84 = .ok (.iaload, 1) := by decide +kernel
theorem dX7_bringIn_85 : decode cX7_bringIn 85 = .ok (.invokevirtual 140, 3) := by decide +kernel
theorem dX7_bringIn_88 : decode cX7_bringIn 88 = .ok (.aload_n 0, 1) := by decide +kernel
theorem dX7_bringIn_89 : decode cX7_bringIn 89 = .ok (.getfield 50, 3) := by decide +kernel
theorem dX7_bringIn_92 : decode cX7_bringIn 92 = .ok (.iload_n 2, 1) := by decide +kernel
theorem dX7_bringIn_93 : decode cX7_bringIn 93 = .ok (.iconst 1, 1) := by decide +kernel
theorem dX7_bringIn_94 : decode cX7_bringIn 94 = .ok (.bastore, 1) := by decide +kernel
theorem dX7_bringIn_95 : decode cX7_bringIn 95 = .ok (.aload_n 0, 1) := by decide +kernel
theorem dX7_bringIn_96 : decode cX7_bringIn 96 = .ok (.getfield 22, 3) := by decide +kernel
theorem dX7_bringIn_99 : decode cX7_bringIn 99 = .ok (.iload_n 1, 1) := by decide +kernel
theorem dX7_bringIn_100 : decode cX7_bringIn 100 = .ok (.iload_n 2, 1) := by decide +kernel
theorem dX7_bringIn_101 : decode cX7_bringIn 101 = .ok (.iastore, 1) := by decide +kernel
theorem dX7_bringIn_102 : decode cX7_bringIn 102 = .ok (.aload_n 0, 1) := by decide +kernel
theorem dX7_bringIn_103 : decode cX7_bringIn 103 = .ok (.getfield 31, 3) := by decide +kernel
theorem dX7_bringIn_106 : decode cX7_bringIn 106 = .ok (.iload_n 1, 1) := by decide +kernel
theorem dX7_bringIn_107 : decode cX7_bringIn 107 = .ok (.iaload, 1) := by decide +kernel
theorem dX7_bringIn_108 : decode cX7_bringIn 108 = .ok (.ifCond .le 25, 3) := by decide +kernel
theorem dX7_bringIn_111 : decode cX7_bringIn 111 = .ok (.aload_n 0, 1) := by decide +kernel
theorem dX7_bringIn_112 : decode cX7_bringIn 112 = .ok (.getfield 126, 3) := by decide +kernel
theorem dX7_bringIn_115 : decode cX7_bringIn 115 = .ok (.aload_n 0, 1) := by decide +kernel
theorem dX7_bringIn_116 : decode cX7_bringIn 116 = .ok (.getfield 31, 3) := by decide +kernel
theorem dX7_bringIn_119 : decode cX7_bringIn 119 = .ok (.iload_n 1, 1) := by decide +kernel
theorem dX7_bringIn_120 : decode cX7_bringIn 120 = .ok (.iaload, 1) := by decide +kernel
theorem dX7_bringIn_121 : decode cX7_bringIn 121 = .ok (.isub, 1) := by decide +kernel
theorem dX7_bringIn_122 : decode cX7_bringIn 122 = .ok (.aload_n 0, 1) := by decide +kernel
theorem dX7_bringIn_123 : decode cX7_bringIn 123 = .ok (.getfield 102, 3) := by decide +kernel
theorem dX7_bringIn_126 : decode cX7_bringIn 126 = .ok (.if_icmp .gt 7, 3) := by decide +kernel
theorem dX7_bringIn_129 : decode cX7_bringIn 129 = .ok (.iconst 1, 1) := by decide +kernel
theorem dX7_bringIn_130 : decode cX7_bringIn 130 = .ok (.goto 4, 3) := by decide +kernel
theorem dX7_bringIn_133 : decode cX7_bringIn 133 = .ok (.iconst 0, 1) := by decide +kernel
theorem dX7_bringIn_134 : decode cX7_bringIn 134 = .ok (.istore_n 3, 1) := by decide +kernel
theorem dX7_bringIn_135 : decode cX7_bringIn 135 = .ok (.aload_n 0, 1) := by decide +kernel
theorem dX7_bringIn_136 : decode cX7_bringIn 136 = .ok (.iload_n 1, 1) := by decide +kernel
theorem dX7_bringIn_137 : decode cX7_bringIn 137 = .ok (.invokevirtual 129, 3) := by decide +kernel
theorem dX7_bringIn_140 : decode cX7_bringIn 140 = .ok (.aload_n 0, 1) := by decide +kernel
theorem dX7_bringIn_141 : decode cX7_bringIn 141 = .ok (.iload_n 1, 1) := by decide +kernel
theorem dX7_bringIn_142 : decode cX7_bringIn 142 = .ok (.iload_n 3, 1) := by decide +kernel
theorem dX7_bringIn_143 : decode cX7_bringIn 143 = .ok (.invokevirtual 116, 3) := by decide +kernel
theorem dX7_bringIn_146 : decode cX7_bringIn 146 = .ok (.iconst 1, 1) := by decide +kernel
theorem dX7_bringIn_147 : decode cX7_bringIn 147 = .ok (.ireturn, 1) := by decide +kernel
theorem dX7_seenAgain_0 : decode cX7_seenAgain 0 = .ok (.aload_n 0, 1) := by decide +kernel
theorem dX7_seenAgain_1 : decode cX7_seenAgain 1 = .ok (.getfield 34, 3) := by decide +kernel
theorem dX7_seenAgain_4 : decode cX7_seenAgain 4 = .ok (.iload_n 1, 1) := by decide +kernel
theorem dX7_seenAgain_5 : decode cX7_seenAgain 5 = .ok (.baload, 1) := by decide +kernel
theorem dX7_seenAgain_6 : decode cX7_seenAgain 6 = .ok (.ifCond .ne 13, 3) := by decide +kernel
theorem dX7_seenAgain_9 : decode cX7_seenAgain 9 = .ok (.aload_n 0, 1) := by decide +kernel
theorem dX7_seenAgain_10 : decode cX7_seenAgain 10 = .ok (.getfield 34, 3) := by decide +kernel
theorem dX7_seenAgain_13 : decode cX7_seenAgain 13 = .ok (.iload_n 1, 1) := by decide +kernel
theorem dX7_seenAgain_14 : decode cX7_seenAgain 14 = .ok (.iconst 1, 1) := by decide +kernel
theorem dX7_seenAgain_15 : decode cX7_seenAgain 15 = .ok (.bastore, 1) := by decide +kernel
theorem dX7_seenAgain_16 : decode cX7_seenAgain 16 = .ok (.goto 25, 3) := by decide +kernel
theorem dX7_seenAgain_19 : decode cX7_seenAgain 19 = .ok (.aload_n 0, 1) := by decide +kernel
theorem dX7_seenAgain_20 : decode cX7_seenAgain 20 = .ok (.getfield 41, 3) := by decide +kernel
theorem dX7_seenAgain_23 : decode cX7_seenAgain 23 = .ok (.iload_n 1, 1) := by decide +kernel
theorem dX7_seenAgain_24 : decode cX7_seenAgain 24 = .ok (.baload, 1) := by decide +kernel
theorem dX7_seenAgain_25 : decode cX7_seenAgain 25 = .ok (.ifCond .ne 16, 3) := by decide +kernel
theorem dX7_seenAgain_28 : decode cX7_seenAgain 28 = .ok (.aload_n 0, 1) := by decide +kernel
theorem dX7_seenAgain_29 : decode cX7_seenAgain 29 = .ok (.getfield 34, 3) := by decide +kernel
theorem dX7_seenAgain_32 : decode cX7_seenAgain 32 = .ok (.iload_n 1, 1) := by decide +kernel
theorem dX7_seenAgain_33 : decode cX7_seenAgain 33 = .ok (.iconst 0, 1) := by decide +kernel
theorem dX7_seenAgain_34 : decode cX7_seenAgain 34 = .ok (.bastore, 1) := by decide +kernel
theorem dX7_seenAgain_35 : decode cX7_seenAgain 35 = .ok (.aload_n 0, 1) := by decide +kernel
theorem dX7_seenAgain_36 : decode cX7_seenAgain 36 = .ok (.iload_n 1, 1) := by decide +kernel
theorem dX7_seenAgain_37 : decode cX7_seenAgain 37 = .ok (.iconst 1, 1) := by decide +kernel
theorem dX7_seenAgain_38 : decode cX7_seenAgain 38 = .ok (.invokevirtual 143, 3) := by decide +kernel
theorem dX7_seenAgain_41 : decode cX7_seenAgain 41 = .ok (.return_, 1) := by decide +kernel
theorem dX7_touch_0 : decode cX7_touch 0 = .ok (.aload_n 0, 1) := by decide +kernel
theorem dX7_touch_1 : decode cX7_touch 1 = .ok (.iload_n 1, 1) := by decide +kernel
theorem dX7_touch_2 : decode cX7_touch 2 = .ok (.invokevirtual 159, 3) := by decide +kernel
theorem dX7_touch_5 : decode cX7_touch 5 = .ok (.ifCond .eq 10, 3) := by decide +kernel
theorem dX7_touch_8 : decode cX7_touch 8 = .ok (.aload_n 0, 1) := by decide +kernel
theorem dX7_touch_9 : decode cX7_touch 9 = .ok (.iload_n 1, 1) := by decide +kernel
theorem dX7_touch_10 : decode cX7_touch 10 = .ok (.invokevirtual 162, 3) := by decide +kernel
theorem dX7_touch_13 : decode cX7_touch 13 = .ok (.iconst 1, 1) := by decide +kernel
theorem dX7_touch_14 : decode cX7_touch 14 = .ok (.ireturn, 1) := by decide +kernel
theorem dX7_touch_15 : decode cX7_touch 15 = .ok (.aload_n 0, 1) := by decide +kernel
theorem dX7_touch_16 : decode cX7_touch 16 = .ok (.iload_n 1, 1) := by decide +kernel
theorem dX7_touch_17 : decode cX7_touch 17 = .ok (.invokevirtual 165, 3) := by decide +kernel
theorem dX7_touch_20 : decode cX7_touch 20 = .ok (.ireturn, 1) := by decide +kernel
theorem dX7_ahead_0 : decode cX7_ahead 0 = .ok (.aload_n 0, 1) := by decide +kernel
theorem dX7_ahead_1 : decode cX7_ahead 1 = .ok (.getfield 13, 3) := by decide +kernel
theorem dX7_ahead_4 : decode cX7_ahead 4 = .ok (.iload_n 1, 1) := by decide +kernel
theorem dX7_ahead_5 : decode cX7_ahead 5 = .ok (.iload_n 2, 1) := by decide +kernel
theorem dX7_ahead_6 : decode cX7_ahead 6 = .ok (.aload_n 0, 1) := by decide +kernel
theorem dX7_ahead_7 : decode cX7_ahead 7 = .ok (.getfield 16, 3) := by decide +kernel
theorem dX7_ahead_10 : decode cX7_ahead 10 = .ok (.iload_n 1, 1) := by decide +kernel
theorem dX7_ahead_11 : decode cX7_ahead 11 = .ok (.iaload, 1) := by decide +kernel
theorem dX7_ahead_12 : decode cX7_ahead 12 = .ok (.if_icmp .eq 7, 3) := by decide +kernel
theorem dX7_ahead_15 : decode cX7_ahead 15 = .ok (.iconst 1, 1) := by decide +kernel
theorem dX7_ahead_16 : decode cX7_ahead 16 = .ok (.goto 26, 3) := by decide +kernel
theorem dX7_ahead_19 : decode cX7_ahead 19 = .ok (.aload_n 0, 1) := by decide +kernel
theorem dX7_ahead_20 : decode cX7_ahead 20 = .ok (.getfield 13, 3) := by decide +kernel
theorem dX7_ahead_23 : decode cX7_ahead 23 = .ok (.iload_n 1, 1) := by decide +kernel
theorem dX7_ahead_24 : decode cX7_ahead 24 = .ok (.iaload, 1) := by decide +kernel
theorem dX7_ahead_25 : decode cX7_ahead 25 = .ok (.iconst 4, 1) := by decide +kernel
theorem dX7_ahead_26 : decode cX7_ahead 26 = .ok (.if_icmp .ge 14, 3) := by decide +kernel
theorem dX7_ahead_29 : decode cX7_ahead 29 = .ok (.iconst 2, 1) := by decide +kernel
theorem dX7_ahead_30 : decode cX7_ahead 30 = .ok (.aload_n 0, 1) := by decide +kernel
theorem dX7_ahead_31 : decode cX7_ahead 31 = .ok (.getfield 13, 3) := by decide +kernel
theorem dX7_ahead_34 : decode cX7_ahead 34 = .ok (.iload_n 1, 1) := by decide +kernel
theorem dX7_ahead_35 : decode cX7_ahead 35 = .ok (.iaload, 1) := by decide +kernel
theorem dX7_ahead_36 : decode cX7_ahead 36 = .ok (.imul, 1) := by decide +kernel
theorem dX7_ahead_37 : decode cX7_ahead 37 = .ok (.goto 5, 3) := by decide +kernel
theorem dX7_ahead_40 : decode cX7_ahead 40 = .ok (.bipush 8, 2) := by decide +kernel
theorem dX7_ahead_42 : decode cX7_ahead 42 = .ok (.iastore, 1) := by decide +kernel
theorem dX7_ahead_43 : decode cX7_ahead 43 = .ok (.aload_n 0, 1) := by decide +kernel
theorem dX7_ahead_44 : decode cX7_ahead 44 = .ok (.getfield 16, 3) := by decide +kernel
theorem dX7_ahead_47 : decode cX7_ahead 47 = .ok (.iload_n 1, 1) := by decide +kernel
theorem dX7_ahead_48 : decode cX7_ahead 48 = .ok (.iload_n 2, 1) := by decide +kernel
theorem dX7_ahead_49 : decode cX7_ahead 49 = .ok (.iconst 1, 1) := by decide +kernel
theorem dX7_ahead_50 : decode cX7_ahead 50 = .ok (.iadd, 1) := by decide +kernel
theorem dX7_ahead_51 : decode cX7_ahead 51 = .ok (.iastore, 1) := by decide +kernel
theorem dX7_ahead_52 : decode cX7_ahead 52 = .ok (.iload_n 2, 1) := by decide +kernel
theorem dX7_ahead_53 : decode cX7_ahead 53 = .ok (.iconst 1, 1) := by decide +kernel
theorem dX7_ahead_54 : decode cX7_ahead 54 = .ok (.iadd, 1) := by decide +kernel
theorem dX7_ahead_55 : decode cX7_ahead 55 = .ok (.istore_n 3, 1) := by decide +kernel
theorem dX7_ahead_56 : decode cX7_ahead 56 = .ok (.iload_n 3, 1) := by decide +kernel
theorem dX7_ahead_57 : decode cX7_ahead 57 = .ok (.iload_n 2, 1) := by decide +kernel
theorem dX7_ahead_58 : decode cX7_ahead 58 = .ok (.aload_n 0, 1) := by decide +kernel
theorem dX7_ahead_59 : decode cX7_ahead 59 = .ok (.getfield 13, 3) := by decide +kernel
theorem dX7_ahead_62 : decode cX7_ahead 62 = .ok (.iload_n 1, 1) := by decide +kernel
theorem dX7_ahead_63 : decode cX7_ahead 63 = .ok (.iaload, 1) := by decide +kernel
theorem dX7_ahead_64 : decode cX7_ahead 64 = .ok (.iadd, 1) := by decide +kernel
theorem dX7_ahead_65 : decode cX7_ahead 65 = .ok (.if_icmp .ge 59, 3) := by decide +kernel
theorem dX7_ahead_68 : decode cX7_ahead 68 = .ok (.bipush 64, 2) := by decide +kernel
theorem dX7_ahead_70 : decode cX7_ahead 70 = .ok (.iload_n 3, 1) := by decide +kernel
theorem dX7_ahead_71 : decode cX7_ahead 71 = .ok (.imul, 1) := by decide +kernel
theorem dX7_ahead_72 : decode cX7_ahead 72 = .ok (.aload_n 0, 1) := by decide +kernel
theorem dX7_ahead_73 : decode cX7_ahead 73 = .ok (.getfield 7, 3) := by decide +kernel
theorem dX7_ahead_76 : decode cX7_ahead 76 = .ok (.iload_n 1, 1) := by decide +kernel
theorem dX7_ahead_77 : decode cX7_ahead 77 = .ok (.iaload, 1) := by decide +kernel
theorem dX7_ahead_78 : decode cX7_ahead 78 = .ok (.if_icmp .ge 46, 3) := by decide +kernel
theorem dX7_ahead_81 : decode cX7_ahead 81 = .ok (.sipush 256, 3) := by decide +kernel
theorem dX7_ahead_84 : decode cX7_ahead 84 = .ok (.iload_n 1, 1) := by decide +kernel
theorem dX7_ahead_85 : decode cX7_ahead 85 = .ok (.imul, 1) := by decide +kernel
theorem dX7_ahead_86 : decode cX7_ahead 86 = .ok (.iload_n 3, 1) := by decide +kernel
theorem dX7_ahead_87 : decode cX7_ahead 87 = .ok (.iadd, 1) := by decide +kernel
theorem dX7_ahead_88 : decode cX7_ahead 88 = .ok (.istore 4, 2) := by decide +kernel
theorem dX7_ahead_90 : decode cX7_ahead 90 = .ok (.aload_n 0, 1) := by decide +kernel
theorem dX7_ahead_91 : decode cX7_ahead 91 = .ok (.iload 4, 2) := by decide +kernel
theorem dX7_ahead_93 : decode cX7_ahead 93 = .ok (.invokevirtual 159, 3) := by decide +kernel
theorem dX7_ahead_96 : decode cX7_ahead 96 = .ok (.ifCond .ne 13, 3) := by decide +kernel
theorem dX7_ahead_99 : decode cX7_ahead 99 = .ok (.aload_n 0, 1) := by decide +kernel
theorem dX7_ahead_100 : decode cX7_ahead 100 = .ok (.iload 4, 2) := by decide +kernel
theorem dX7_ahead_102 : decode cX7_ahead 102 = .ok (.invokevirtual 165, 3) := by decide +kernel
theorem dX7_ahead_105 : decode cX7_ahead 105 = .ok (.ifCond .ne 4, 3) := by decide +kernel
theorem dX7_ahead_108 : decode cX7_ahead 108 = .ok (.return_, 1) := by decide +kernel
theorem dX7_ahead_109 : decode cX7_ahead 109 = .ok (.aload_n 0, 1) := by decide +kernel
theorem dX7_ahead_110 : decode cX7_ahead 110 = .ok (.getfield 16, 3) := by decide +kernel
theorem dX7_ahead_113 : decode cX7_ahead 113 = .ok (.iload_n 1, 1) := by decide +kernel
theorem dX7_ahead_114 : decode cX7_ahead 114 = .ok (.iload_n 3, 1) := by decide +kernel
theorem dX7_ahead_115 : decode cX7_ahead 115 = .ok (.iconst 1, 1) := by decide +kernel
theorem dX7_ahead_116 : decode cX7_ahead 116 = .ok (.iadd, 1) := by decide +kernel
theorem dX7_ahead_117 : decode cX7_ahead 117 = .ok (.iastore, 1) := by decide +kernel
theorem dX7_ahead_118 : decode cX7_ahead 118 = .ok (.iinc 3 1, 3) := by decide +kernel
theorem dX7_ahead_121 : decode cX7_ahead 121 = .ok (.goto (-65), 3) := by decide +kernel
theorem dX7_ahead_124 : decode cX7_ahead 124 = .ok (.return_, 1) := by decide +kernel
theorem dX7_read_0 : decode cX7_read 0 = .ok (.iload_n 1, 1) := by decide +kernel
theorem dX7_read_1 : decode cX7_read 1 = .ok (.invokestatic 168, 3) := by decide +kernel
theorem dX7_read_4 : decode cX7_read 4 = .ok (.ifCond .eq 19, 3) := by decide +kernel
theorem dX7_read_7 : decode cX7_read 7 = .ok (.iload_n 2, 1) := by decide +kernel
theorem dX7_read_8 : decode cX7_read 8 = .ok (.ifCond .lt 15, 3) := by decide +kernel
theorem dX7_read_11 : decode cX7_read 11 = .ok (.iload_n 3, 1) := by decide +kernel
theorem dX7_read_12 : decode cX7_read 12 = .ok (.iconst 1, 1) := by decide +kernel
theorem dX7_read_13 : decode cX7_read 13 = .ok (.if_icmp .lt 10, 3) := by decide +kernel
theorem dX7_read_16 : decode cX7_read 16 = .ok (.iload_n 3, 1) := by decide +kernel
theorem dX7_read_17 : decode cX7_read 17 = .ok (.sipush 1024, 3) := by decide +kernel
theorem dX7_read_20 : decode cX7_read 20 = .ok (.if_icmp .le 6, 3) := by decide +kernel
theorem dX7_read_23 : decode cX7_read 23 = .ok (.bipush (-2), 2) := by decide +kernel
theorem dX7_read_25 : decode cX7_read 25 = .ok (.ireturn, 1) := by decide +kernel
theorem dX7_read_26 : decode cX7_read 26 = .ok (.aload_n 0, 1) := by decide +kernel
theorem dX7_read_27 : decode cX7_read 27 = .ok (.iconst 0, 1) := by decide +kernel
theorem dX7_read_28 : decode cX7_read 28 = .ok (.putfield 89, 3) := by decide +kernel
theorem dX7_read_31 : decode cX7_read 31 = .ok (.aload_n 0, 1) := by decide +kernel
theorem dX7_read_32 : decode cX7_read 32 = .ok (.getfield 7, 3) := by decide +kernel
theorem dX7_read_35 : decode cX7_read 35 = .ok (.iload_n 1, 1) := by decide +kernel
theorem dX7_read_36 : decode cX7_read 36 = .ok (.iaload, 1) := by decide +kernel
theorem dX7_read_37 : decode cX7_read 37 = .ok (.iload_n 2, 1) := by decide +kernel
theorem dX7_read_38 : decode cX7_read 38 = .ok (.isub, 1) := by decide +kernel
theorem dX7_read_39 : decode cX7_read 39 = .ok (.iload_n 3, 1) := by decide +kernel
theorem dX7_read_40 : decode cX7_read 40 = .ok (.if_icmp .ge 12, 3) := by decide +kernel
theorem dX7_read_43 : decode cX7_read 43 = .ok (.aload_n 0, 1) := by decide +kernel
theorem dX7_read_44 : decode cX7_read 44 = .ok (.getfield 7, 3) := by decide +kernel
theorem dX7_read_47 : decode cX7_read 47 = .ok (.iload_n 1, 1) := by decide +kernel
theorem dX7_read_48 : decode cX7_read 48 = .ok (.iaload, 1) := by decide +kernel
theorem dX7_read_49 : decode cX7_read 49 = .ok (.goto 6, 3) := by decide +kernel
theorem dX7_read_52 : decode cX7_read 52 = .ok (.iload_n 2, 1) := by decide +kernel
theorem dX7_read_53 : decode cX7_read 53 = .ok (.iload_n 3, 1) := by decide +kernel
theorem dX7_read_54 : decode cX7_read 54 = .ok (.iadd, 1) := by decide +kernel
theorem dX7_read_55 : decode cX7_read 55 = .ok (.istore 4, 2) := by decide +kernel
theorem dX7_read_57 : decode cX7_read 57 = .ok (.iconst 0, 1) := by decide +kernel
theorem dX7_read_58 : decode cX7_read 58 = .ok (.istore 5, 2) := by decide +kernel
theorem dX7_read_60 : decode cX7_read 60 = .ok (.iload_n 2, 1) := by decide +kernel
theorem dX7_read_61 : decode cX7_read 61 = .ok (.istore 6, 2) := by decide +kernel
theorem dX7_read_63 : decode cX7_read 63 = .ok (.iload 6, 2) := by decide +kernel
theorem dX7_read_65 : decode cX7_read 65 = .ok (.iload 4, 2) := by decide +kernel
theorem dX7_read_67 : decode cX7_read 67 = .ok (.if_icmp .ge 132, 3) := by decide +kernel
theorem dX7_read_70 : decode cX7_read 70 = .ok (.sipush 256, 3) := by decide +kernel
theorem dX7_read_73 : decode cX7_read 73 = .ok (.iload_n 1, 1) := by decide +kernel
theorem dX7_read_74 : decode cX7_read 74 = .ok (.imul, 1) := by decide +kernel
theorem dX7_read_75 : decode cX7_read 75 = .ok (.iload 6, 2) := by decide +kernel
theorem dX7_read_77 : decode cX7_read 77 = .ok (.bipush 64, 2) := by decide +kernel
theorem dX7_read_79 : decode cX7_read 79 = .ok (.idiv, 1) := by decide +kernel
theorem dX7_read_80 : decode cX7_read 80 = .ok (.iadd, 1) := by decide +kernel
theorem dX7_read_81 : decode cX7_read 81 = .ok (.istore 7, 2) := by decide +kernel
theorem dX7_read_83 : decode cX7_read 83 = .ok (.aload_n 0, 1) := by decide +kernel
theorem dX7_read_84 : decode cX7_read 84 = .ok (.iload 7, 2) := by decide +kernel
theorem dX7_read_86 : decode cX7_read 86 = .ok (.invokevirtual 159, 3) := by decide +kernel
theorem dX7_read_89 : decode cX7_read 89 = .ok (.istore 8, 2) := by decide +kernel
theorem dX7_read_91 : decode cX7_read 91 = .ok (.aload_n 0, 1) := by decide +kernel
theorem dX7_read_92 : decode cX7_read 92 = .ok (.iload 7, 2) := by decide +kernel
theorem dX7_read_94 : decode cX7_read 94 = .ok (.invokevirtual 171, 3) := by decide +kernel
theorem dX7_read_97 : decode cX7_read 97 = .ok (.ifCond .ne 20, 3) := by decide +kernel
theorem dX7_read_100 : decode cX7_read 100 = .ok (.iload 5, 2) := by decide +kernel
theorem dX7_read_102 : decode cX7_read 102 = .ok (.ifCond .ne 6, 3) := by decide +kernel
theorem dX7_read_105 : decode cX7_read 105 = .ok (.bipush (-3), 2) := by decide +kernel
theorem dX7_read_107 : decode cX7_read 107 = .ok (.ireturn, 1) := by decide +kernel
theorem dX7_read_108 : decode cX7_read 108 = .ok (.aload_n 0, 1) := by decide +kernel
theorem dX7_read_109 : decode cX7_read 109 = .ok (.iload 5, 2) := by decide +kernel
theorem dX7_read_111 : decode cX7_read 111 = .ok (.putfield 174, 3) := by decide +kernel
theorem dX7_read_114 : decode cX7_read 114 = .ok (.iload 5, 2) := by decide +kernel
theorem dX7_read_116 : decode cX7_read 116 = .ok (.ireturn, 1) := by decide +kernel
theorem dX7_read_117 : decode cX7_read 117 = .ok (.bipush 64, 2) := by decide +kernel
theorem dX7_read_119 : decode cX7_read 119 = .ok (.iload 6, 2) := by decide +kernel
theorem dX7_read_121 : decode cX7_read 121 = .ok (.bipush 64, 2) := by decide +kernel
theorem dX7_read_123 : decode cX7_read 123 = .ok (.idiv, 1) := by decide +kernel
theorem dX7_read_124 : decode cX7_read 124 = .ok (.iconst 1, 1) := by decide +kernel
theorem dX7_read_125 : decode cX7_read 125 = .ok (.iadd, 1) := by decide +kernel
theorem dX7_read_126 : decode cX7_read 126 = .ok (.imul, 1) := by decide +kernel
theorem dX7_read_127 : decode cX7_read 127 = .ok (.istore 9, 2) := by decide +kernel
theorem dX7_read_129 : decode cX7_read 129 = .ok (.iload 6, 2) := by decide +kernel
theorem dX7_read_131 : decode cX7_read 131 = .ok (.iload 4, 2) := by decide +kernel
theorem dX7_read_133 : decode cX7_read 133 = .ok (.if_icmp .ge 47, 3) := by decide +kernel
theorem dX7_read_136 : decode cX7_read 136 = .ok (.iload 6, 2) := by decide +kernel
theorem dX7_read_138 : decode cX7_read 138 = .ok (.iload 9, 2) := by decide +kernel
theorem dX7_read_140 : decode cX7_read 140 = .ok (.if_icmp .ge 40, 3) := by decide +kernel
theorem dX7_read_143 : decode cX7_read 143 = .ok (.aload_n 0, 1) := by decide +kernel
theorem dX7_read_144 : decode cX7_read 144 = .ok (.getfield 67, 3) := by decide +kernel
theorem dX7_read_147 : decode cX7_read 147 = .ok (.iload 5, 2) := by decide +kernel
theorem dX7_read_149 : decode cX7_read 149 = .ok (.aload_n 0, 1) := by decide +kernel
theorem dX7_read_150 : decode cX7_read 150 = .ok (.getfield 53, 3) := by decide +kernel
theorem dX7_read_153 : decode cX7_read 153 = .ok (.bipush 64, 2) := by decide +kernel
theorem dX7_read_155 : decode cX7_read 155 = .ok (.aload_n 0, 1) := by decide +kernel
theorem dX7_read_156 : decode cX7_read 156 = .ok (.getfield 22, 3) := by decide +kernel
theorem dX7_read_159 : decode cX7_read 159 = .ok (.iload 7, 2) := by decide +kernel
theorem dX7_read_161 : decode cX7_read 161 = .ok (.iaload, 1) := by decide +kernel
theorem dX7_read_162 : decode cX7_read 162 = .ok (.imul, 1) := by decide +kernel
theorem dX7_read_163 : decode cX7_read 163 = .ok (.iload 6, 2) := by decide +kernel
theorem dX7_read_165 : decode cX7_read 165 = .ok (.bipush 64, 2) := by decide +kernel
theorem dX7_read_167 : decode cX7_read 167 = .ok (.irem, 1) := by decide +kernel
theorem dX7_read_168 : decode cX7_read 168 = .ok (.iadd, 1) := by decide +kernel
theorem dX7_read_169 : decode cX7_read 169 = .ok (.baload, 1) := by decide +kernel
theorem dX7_read_170 : decode cX7_read 170 = .ok (.bastore, 1) := by decide +kernel
theorem dX7_read_171 : decode cX7_read 171 = .ok (.iinc 5 1, 3) := by decide +kernel
theorem dX7_read_174 : decode cX7_read 174 = .ok (.iinc 6 1, 3) := by decide +kernel
theorem dX7_read_177 : decode cX7_read 177 = .ok (.goto (-48), 3) := by decide +kernel
theorem dX7_read_180 : decode cX7_read 180 = .ok (.iload 8, 2) := by decide +kernel
theorem dX7_read_182 : decode cX7_read 182 = .ok (.ifCond .ne 14, 3) := by decide +kernel
theorem dX7_read_185 : decode cX7_read 185 = .ok (.aload_n 0, 1) := by decide +kernel
theorem dX7_read_186 : decode cX7_read 186 = .ok (.iload_n 1, 1) := by decide +kernel
theorem dX7_read_187 : decode cX7_read 187 = .ok (.iload 7, 2) := by decide +kernel
theorem dX7_read_189 : decode cX7_read 189 = .ok (.sipush 256, 3) := by decide +kernel
theorem dX7_read_192 : decode cX7_read 192 = .ok (.irem, 1) := by decide +kernel
theorem dX7_read_193 : decode cX7_read 193 = .ok (.invokevirtual 177, 3) := by decide +kernel
theorem dX7_read_196 : decode cX7_read 196 = .ok (.goto (-133), 3) := by decide +kernel
theorem dX7_read_199 : decode cX7_read 199 = .ok (.aload_n 0, 1) := by decide +kernel
theorem dX7_read_200 : decode cX7_read 200 = .ok (.iload 5, 2) := by decide +kernel
theorem dX7_read_202 : decode cX7_read 202 = .ok (.putfield 174, 3) := by decide +kernel
theorem dX7_read_205 : decode cX7_read 205 = .ok (.iload 5, 2) := by decide +kernel
theorem dX7_read_207 : decode cX7_read 207 = .ok (.ireturn, 1) := by decide +kernel
theorem dX7_hand_0 : decode cX7_hand 0 = .ok (.iload_n 1, 1) := by decide +kernel
theorem dX7_hand_1 : decode cX7_hand 1 = .ok (.ifCond .lt 24, 3) := by decide +kernel
theorem dX7_hand_4 : decode cX7_hand 4 = .ok (.iload_n 1, 1) := by decide +kernel
theorem dX7_hand_5 : decode cX7_hand 5 = .ok (.aload_n 0, 1) := by decide +kernel
theorem dX7_hand_6 : decode cX7_hand 6 = .ok (.getfield 174, 3) := by decide +kernel
theorem dX7_hand_9 : decode cX7_hand 9 = .ok (.if_icmp .ge 16, 3) := by decide +kernel
theorem dX7_hand_12 : decode cX7_hand 12 = .ok (.aload_n 0, 1) := by decide +kernel
theorem dX7_hand_13 : decode cX7_hand 13 = .ok (.getfield 67, 3) := by decide +kernel
theorem dX7_hand_16 : decode cX7_hand 16 = .ok (.iload_n 1, 1) := by decide +kernel
theorem dX7_hand_17 : decode cX7_hand 17 = .ok (.baload, 1) := by decide +kernel
theorem dX7_hand_18 : decode cX7_hand 18 = .ok (.sipush 255, 3) := by decide +kernel
theorem dX7_hand_21 : decode cX7_hand 21 = .ok (.iand, 1) := by decide +kernel
theorem dX7_hand_22 : decode cX7_hand 22 = .ok (.goto 4, 3) := by decide +kernel
theorem dX7_hand_25 : decode cX7_hand 25 = .ok (.iconst (-1), 1) := by decide +kernel
theorem dX7_hand_26 : decode cX7_hand 26 = .ok (.ireturn, 1) := by decide +kernel
theorem dX7_dirties_0 : decode cX7_dirties 0 = .ok (.iconst 0, 1) := by decide +kernel
theorem dX7_dirties_1 : decode cX7_dirties 1 = .ok (.istore_n 1, 1) := by decide +kernel
theorem dX7_dirties_2 : decode cX7_dirties 2 = .ok (.iconst 0, 1) := by decide +kernel
theorem dX7_dirties_3 : decode cX7_dirties 3 = .ok (.istore_n 2, 1) := by decide +kernel
theorem dX7_dirties_4 : decode cX7_dirties 4 = .ok (.iload_n 2, 1) := by decide +kernel
theorem dX7_dirties_5 : decode cX7_dirties 5 = .ok (.sipush 3072, 3) := by decide +kernel
theorem dX7_dirties_8 : decode cX7_dirties 8 = .ok (.if_icmp .ge 25, 3) := by decide +kernel
theorem dX7_dirties_11 : decode cX7_dirties 11 = .ok (.iload_n 1, 1) := by decide +kernel
theorem dX7_dirties_12 : decode cX7_dirties 12 = .ok (.aload_n 0, 1) := by decide +kernel
theorem dX7_dirties_13 : decode cX7_dirties 13 = .ok (.iload_n 2, 1) := by decide +kernel
theorem dX7_dirties_14 : decode cX7_dirties 14 = .ok (.invokevirtual 146, 3) := by decide +kernel
theorem dX7_dirties_17 : decode cX7_dirties 17 = .ok (.ifCond .eq 7, 3) := by decide +kernel
theorem dX7_dirties_20 : decode cX7_dirties 20 = .ok (.iconst 1, 1) := by decide +kernel
theorem dX7_dirties_21 : decode cX7_dirties 21 = .ok (.goto 4, 3) := by decide +kernel
theorem dX7_dirties_24 : decode cX7_dirties 24 = .ok (.iconst 0, 1) := by decide +kernel
theorem dX7_dirties_25 : decode cX7_dirties 25 = .ok (.iadd, 1) := by decide +kernel
theorem dX7_dirties_26 : decode cX7_dirties 26 = .ok (.istore_n 1, 1) := by decide +kernel
theorem dX7_dirties_27 : decode cX7_dirties 27 = .ok (.iinc 2 1, 3) := by decide +kernel
theorem dX7_dirties_30 : decode cX7_dirties 30 = .ok (.goto (-26), 3) := by decide +kernel
theorem dX7_dirties_33 : decode cX7_dirties 33 = .ok (.iload_n 1, 1) := by decide +kernel
theorem dX7_dirties_34 : decode cX7_dirties 34 = .ok (.ireturn, 1) := by decide +kernel
theorem dX7_oldest_0 : decode cX7_oldest 0 = .ok (.iconst (-1), 1) := by decide +kernel
theorem dX7_oldest_1 : decode cX7_oldest 1 = .ok (.istore_n 2, 1) := by decide +kernel
theorem dX7_oldest_2 : decode cX7_oldest 2 = .ok (.iconst 0, 1) := by decide +kernel
theorem dX7_oldest_3 : decode cX7_oldest 3 = .ok (.istore_n 3, 1) := by decide +kernel
theorem dX7_oldest_4 : decode cX7_oldest 4 = .ok (.iload_n 3, 1) := by decide +kernel
theorem dX7_oldest_5 : decode cX7_oldest 5 = .ok (.sipush 3072, 3) := by decide +kernel
theorem dX7_oldest_8 : decode cX7_oldest 8 = .ok (.if_icmp .ge 58, 3) := by decide +kernel
theorem dX7_oldest_11 : decode cX7_oldest 11 = .ok (.aload_n 0, 1) := by decide +kernel
theorem dX7_oldest_12 : decode cX7_oldest 12 = .ok (.iload_n 3, 1) := by decide +kernel
theorem dX7_oldest_13 : decode cX7_oldest 13 = .ok (.invokevirtual 146, 3) := by decide +kernel
theorem dX7_oldest_16 : decode cX7_oldest 16 = .ok (.ifCond .eq 44, 3) := by decide +kernel
theorem dX7_oldest_19 : decode cX7_oldest 19 = .ok (.aload_n 0, 1) := by decide +kernel
theorem dX7_oldest_20 : decode cX7_oldest 20 = .ok (.getfield 79, 3) := by decide +kernel
theorem dX7_oldest_23 : decode cX7_oldest 23 = .ok (.iload_n 3, 1) := by decide +kernel
theorem dX7_oldest_24 : decode cX7_oldest 24 = .ok (.baload, 1) := by decide +kernel
theorem dX7_oldest_25 : decode cX7_oldest 25 = .ok (.ifCond .ne 35, 3) := by decide +kernel
theorem dX7_oldest_28 : decode cX7_oldest 28 = .ok (.aload_n 0, 1) := by decide +kernel
theorem dX7_oldest_29 : decode cX7_oldest 29 = .ok (.getfield 28, 3) := by decide +kernel
theorem dX7_oldest_32 : decode cX7_oldest 32 = .ok (.iload_n 3, 1) := by decide +kernel
theorem dX7_oldest_33 : decode cX7_oldest 33 = .ok (.iaload, 1) := by decide +kernel
theorem dX7_oldest_34 : decode cX7_oldest 34 = .ok (.iload_n 1, 1) := by decide +kernel
theorem dX7_oldest_35 : decode cX7_oldest 35 = .ok (.if_icmp .gt 25, 3) := by decide +kernel
theorem dX7_oldest_38 : decode cX7_oldest 38 = .ok (.iload_n 2, 1) := by decide +kernel
theorem dX7_oldest_39 : decode cX7_oldest 39 = .ok (.iconst (-1), 1) := by decide +kernel
theorem dX7_oldest_40 : decode cX7_oldest 40 = .ok (.if_icmp .eq 18, 3) := by decide +kernel
theorem dX7_oldest_43 : decode cX7_oldest 43 = .ok (.aload_n 0, 1) := by decide +kernel
theorem dX7_oldest_44 : decode cX7_oldest 44 = .ok (.getfield 28, 3) := by decide +kernel
theorem dX7_oldest_47 : decode cX7_oldest 47 = .ok (.iload_n 3, 1) := by decide +kernel
theorem dX7_oldest_48 : decode cX7_oldest 48 = .ok (.iaload, 1) := by decide +kernel
theorem dX7_oldest_49 : decode cX7_oldest 49 = .ok (.aload_n 0, 1) := by decide +kernel
theorem dX7_oldest_50 : decode cX7_oldest 50 = .ok (.getfield 28, 3) := by decide +kernel
theorem dX7_oldest_53 : decode cX7_oldest 53 = .ok (.iload_n 2, 1) := by decide +kernel
theorem dX7_oldest_54 : decode cX7_oldest 54 = .ok (.iaload, 1) := by decide +kernel
theorem dX7_oldest_55 : decode cX7_oldest 55 = .ok (.if_icmp .ge 5, 3) := by decide +kernel
theorem dX7_oldest_58 : decode cX7_oldest 58 = .ok (.iload_n 3, 1) := by decide +kernel
theorem dX7_oldest_59 : decode cX7_oldest 59 = .ok (.istore_n 2, 1) := by decide +kernel
theorem dX7_oldest_60 : decode cX7_oldest 60 = .ok (.iinc 3 1, 3) := by decide +kernel
theorem dX7_oldest_63 : decode cX7_oldest 63 = .ok (.goto (-59), 3) := by decide +kernel
theorem dX7_oldest_66 : decode cX7_oldest 66 = .ok (.iload_n 2, 1) := by decide +kernel
theorem dX7_oldest_67 : decode cX7_oldest 67 = .ok (.ireturn, 1) := by decide +kernel
theorem dX7_noneTried_0 : decode cX7_noneTried 0 = .ok (.iconst 0, 1) := by decide +kernel
theorem dX7_noneTried_1 : decode cX7_noneTried 1 = .ok (.istore_n 1, 1) := by decide +kernel
theorem dX7_noneTried_2 : decode cX7_noneTried 2 = .ok (.iload_n 1, 1) := by decide +kernel
theorem dX7_noneTried_3 : decode cX7_noneTried 3 = .ok (.sipush 3072, 3) := by decide +kernel
theorem dX7_noneTried_6 : decode cX7_noneTried 6 = .ok (.if_icmp .ge 16, 3) := by decide +kernel
theorem dX7_noneTried_9 : decode cX7_noneTried 9 = .ok (.aload_n 0, 1) := by decide +kernel
theorem dX7_noneTried_10 : decode cX7_noneTried 10 = .ok (.getfield 79, 3) := by decide +kernel
theorem dX7_noneTried_13 : decode cX7_noneTried 13 = .ok (.iload_n 1, 1) := by decide +kernel
theorem dX7_noneTried_14 : decode cX7_noneTried 14 = .ok (.iconst 0, 1) := by decide +kernel
theorem dX7_noneTried_15 : decode cX7_noneTried 15 = .ok (.bastore, 1) := by decide +kernel
theorem dX7_noneTried_16 : decode cX7_noneTried 16 = .ok (.iinc 1 1, 3) := by decide +kernel
theorem dX7_noneTried_19 : decode cX7_noneTried 19 = .ok (.goto (-17), 3) := by decide +kernel
theorem dX7_noneTried_22 : decode cX7_noneTried 22 = .ok (.return_, 1) := by decide +kernel
theorem dX7_lessDirty_0 : decode cX7_lessDirty 0 = .ok (.aload_n 0, 1) := by decide +kernel
theorem dX7_lessDirty_1 : decode cX7_lessDirty 1 = .ok (.invokevirtual 180, 3) := by decide +kernel
theorem dX7_lessDirty_4 : decode cX7_lessDirty 4 = .ok (.aload_n 0, 1) := by decide +kernel
theorem dX7_lessDirty_5 : decode cX7_lessDirty 5 = .ok (.getfield 82, 3) := by decide +kernel
theorem dX7_lessDirty_8 : decode cX7_lessDirty 8 = .ok (.iconst 2, 1) := by decide +kernel
theorem dX7_lessDirty_9 : decode cX7_lessDirty 9 = .ok (.idiv, 1) := by decide +kernel
theorem dX7_lessDirty_10 : decode cX7_lessDirty 10 = .ok (.if_icmp .gt 4, 3) := by decide +kernel
theorem dX7_lessDirty_13 : decode cX7_lessDirty 13 = .ok (.return_, 1) := by decide +kernel
theorem dX7_lessDirty_14 : decode cX7_lessDirty 14 = .ok (.aload_n 0, 1) := by decide +kernel
theorem dX7_lessDirty_15 : decode cX7_lessDirty 15 = .ok (.invokevirtual 183, 3) := by decide +kernel
theorem dX7_lessDirty_18 : decode cX7_lessDirty 18 = .ok (.aload_n 0, 1) := by decide +kernel
theorem dX7_lessDirty_19 : decode cX7_lessDirty 19 = .ok (.aload_n 0, 1) := by decide +kernel
theorem dX7_lessDirty_20 : decode cX7_lessDirty 20 = .ok (.getfield 186, 3) := by decide +kernel
theorem dX7_lessDirty_23 : decode cX7_lessDirty 23 = .ok (.invokevirtual 189, 3) := by decide +kernel
theorem dX7_lessDirty_26 : decode cX7_lessDirty 26 = .ok (.istore_n 1, 1) := by decide +kernel
theorem dX7_lessDirty_27 : decode cX7_lessDirty 27 = .ok (.iload_n 1, 1) := by decide +kernel
theorem dX7_lessDirty_28 : decode cX7_lessDirty 28 = .ok (.iconst (-1), 1) := by decide +kernel
theorem dX7_lessDirty_29 : decode cX7_lessDirty 29 = .ok (.if_icmp .eq 41, 3) := by decide +kernel
theorem dX7_lessDirty_32 : decode cX7_lessDirty 32 = .ok (.aload_n 0, 1) := by decide +kernel
theorem dX7_lessDirty_33 : decode cX7_lessDirty 33 = .ok (.invokevirtual 180, 3) := by decide +kernel
theorem dX7_lessDirty_36 : decode cX7_lessDirty 36 = .ok (.aload_n 0, 1) := by decide +kernel
theorem dX7_lessDirty_37 : decode cX7_lessDirty 37 = .ok (.getfield 82, 3) := by decide +kernel
theorem dX7_lessDirty_40 : decode cX7_lessDirty 40 = .ok (.iconst 4, 1) := by decide +kernel
theorem dX7_lessDirty_41 : decode cX7_lessDirty 41 = .ok (.idiv, 1) := by decide +kernel
theorem dX7_lessDirty_42 : decode cX7_lessDirty 42 = .ok (.if_icmp .le 28, 3) := by decide +kernel
theorem dX7_lessDirty_45 : decode cX7_lessDirty 45 = .ok (.aload_n 0, 1) := by decide +kernel
theorem dX7_lessDirty_46 : decode cX7_lessDirty 46 = .ok (.iload_n 1, 1) := by decide +kernel
theorem dX7_lessDirty_47 : decode cX7_lessDirty 47 = .ok (.invokevirtual 149, 3) := by decide +kernel
theorem dX7_lessDirty_50 : decode cX7_lessDirty 50 = .ok (.istore_n 2, 1) := by decide +kernel
theorem dX7_lessDirty_51 : decode cX7_lessDirty 51 = .ok (.aload_n 0, 1) := by decide +kernel
theorem dX7_lessDirty_52 : decode cX7_lessDirty 52 = .ok (.getfield 79, 3) := by decide +kernel
theorem dX7_lessDirty_55 : decode cX7_lessDirty 55 = .ok (.iload_n 1, 1) := by decide +kernel
theorem dX7_lessDirty_56 : decode cX7_lessDirty 56 = .ok (.iconst 1, 1) := by decide +kernel
theorem dX7_lessDirty_57 : decode cX7_lessDirty 57 = .ok (.bastore, 1) := by decide +kernel
theorem dX7_lessDirty_58 : decode cX7_lessDirty 58 = .ok (.aload_n 0, 1) := by decide +kernel
theorem dX7_lessDirty_59 : decode cX7_lessDirty 59 = .ok (.aload_n 0, 1) := by decide +kernel
theorem dX7_lessDirty_60 : decode cX7_lessDirty 60 = .ok (.getfield 186, 3) := by decide +kernel
theorem dX7_lessDirty_63 : decode cX7_lessDirty 63 = .ok (.invokevirtual 189, 3) := by decide +kernel
theorem dX7_lessDirty_66 : decode cX7_lessDirty 66 = .ok (.istore_n 1, 1) := by decide +kernel
theorem dX7_lessDirty_67 : decode cX7_lessDirty 67 = .ok (.goto (-40), 3) := by decide +kernel
theorem dX7_lessDirty_70 : decode cX7_lessDirty 70 = .ok (.return_, 1) := by decide +kernel
theorem dX7_put_0 : decode cX7_put 0 = .ok (.aload_n 0, 1) := by decide +kernel
theorem dX7_put_1 : decode cX7_put 1 = .ok (.iconst 0, 1) := by decide +kernel
theorem dX7_put_2 : decode cX7_put 2 = .ok (.putfield 89, 3) := by decide +kernel
theorem dX7_put_5 : decode cX7_put 5 = .ok (.iconst 0, 1) := by decide +kernel
theorem dX7_put_6 : decode cX7_put 6 = .ok (.istore 8, 2) := by decide +kernel
theorem dX7_put_8 : decode cX7_put 8 = .ok (.iconst 1, 1) := by decide +kernel
theorem dX7_put_9 : decode cX7_put 9 = .ok (.istore 9, 2) := by decide +kernel
theorem dX7_put_11 : decode cX7_put 11 = .ok (.iload 8, 2) := by decide +kernel
theorem dX7_put_13 : decode cX7_put 13 = .ok (.iload_n 3, 1) := by decide +kernel
theorem dX7_put_14 : decode cX7_put 14 = .ok (.if_icmp .ge 187, 3) := by decide +kernel
theorem dX7_put_17 : decode cX7_put 17 = .ok (.iload 9, 2) := by decide +kernel
theorem dX7_put_19 : decode cX7_put 19 = .ok (.ifCond .eq 182, 3) := by decide +kernel
theorem dX7_put_22 : decode cX7_put 22 = .ok (.sipush 256, 3) := by decide +kernel
theorem dX7_put_25 : decode cX7_put 25 = .ok (.iload_n 1, 1) := by decide +kernel
theorem dX7_put_26 : decode cX7_put 26 = .ok (.imul, 1) := by decide +kernel
theorem dX7_put_27 : decode cX7_put 27 = .ok (.iload_n 2, 1) := by decide +kernel
theorem dX7_put_28 : decode cX7_put 28 = .ok (.iload 8, 2) := by decide +kernel
theorem dX7_put_30 : decode cX7_put 30 = .ok (.iadd, 1) := by decide +kernel
theorem dX7_put_31 : decode cX7_put 31 = .ok (.bipush 64, 2) := by decide +kernel
theorem dX7_put_33 : decode cX7_put 33 = .ok (.idiv, 1) := by decide +kernel
theorem dX7_put_34 : decode cX7_put 34 = .ok (.iadd, 1) := by decide +kernel
theorem dX7_put_35 : decode cX7_put 35 = .ok (.istore 10, 2) := by decide +kernel
theorem dX7_put_37 : decode cX7_put 37 = .ok (.aload_n 0, 1) := by decide +kernel
theorem dX7_put_38 : decode cX7_put 38 = .ok (.iload 10, 2) := by decide +kernel
theorem dX7_put_40 : decode cX7_put 40 = .ok (.invokevirtual 171, 3) := by decide +kernel
theorem dX7_put_43 : decode cX7_put 43 = .ok (.istore 9, 2) := by decide +kernel
theorem dX7_put_45 : decode cX7_put 45 = .ok (.iload 9, 2) := by decide +kernel
theorem dX7_put_47 : decode cX7_put 47 = .ok (.ifCond .ne 6, 3) := by decide +kernel
theorem dX7_put_50 : decode cX7_put 50 = .ok (.goto (-39), 3) := by decide +kernel
theorem dX7_put_53 : decode cX7_put 53 = .ok (.aload_n 0, 1) := by decide +kernel
theorem dX7_put_54 : decode cX7_put 54 = .ok (.getfield 28, 3) := by decide +kernel
theorem dX7_put_57 : decode cX7_put 57 = .ok (.iload 10, 2) := by decide +kernel
theorem dX7_put_59 : decode cX7_put 59 = .ok (.aload_n 0, 1) := by decide +kernel
theorem dX7_put_60 : decode cX7_put 60 = .ok (.iload 10, 2) := by decide +kernel
theorem dX7_put_62 : decode cX7_put 62 = .ok (.invokevirtual 146, 3) := by decide +kernel
theorem dX7_put_65 : decode cX7_put 65 = .ok (.ifCond .eq 13, 3) := by decide +kernel
theorem dX7_put_68 : decode cX7_put 68 = .ok (.aload_n 0, 1) := by decide +kernel
theorem dX7_put_69 : decode cX7_put 69 = .ok (.getfield 28, 3) := by decide +kernel
theorem dX7_put_72 : decode cX7_put 72 = .ok (.iload 10, 2) := by decide +kernel
theorem dX7_put_74 : decode cX7_put 74 = .ok (.iaload, 1) := by decide +kernel
theorem dX7_put_75 : decode cX7_put 75 = .ok (.goto 7, 3) := by decide +kernel
theorem dX7_put_78 : decode cX7_put 78 = .ok (.aload_n 0, 1) := by decide +kernel
theorem dX7_put_79 : decode cX7_put 79 = .ok (.getfield 186, 3) := by decide +kernel
theorem dX7_put_82 : decode cX7_put 82 = .ok (.iastore, 1) := by decide +kernel
theorem dX7_put_83 : decode cX7_put 83 = .ok (.bipush 64, 2) := by decide +kernel
theorem dX7_put_85 : decode cX7_put 85 = .ok (.iload_n 2, 1) := by decide +kernel
theorem dX7_put_86 : decode cX7_put 86 = .ok (.iload 8, 2) := by decide +kernel
theorem dX7_put_88 : decode cX7_put 88 = .ok (.iadd, 1) := by decide +kernel
theorem dX7_put_89 : decode cX7_put 89 = .ok (.bipush 64, 2) := by decide +kernel
theorem dX7_put_91 : decode cX7_put 91 = .ok (.idiv, 1) := by decide +kernel
theorem dX7_put_92 : decode cX7_put 92 = .ok (.iconst 1, 1) := by decide +kernel
theorem dX7_put_93 : decode cX7_put 93 = .ok (.iadd, 1) := by decide +kernel
theorem dX7_put_94 : decode cX7_put 94 = .ok (.imul, 1) := by decide +kernel
theorem dX7_put_95 : decode cX7_put 95 = .ok (.istore 11, 2) := by decide +kernel
theorem dX7_put_97 : decode cX7_put 97 = .ok (.iload 8, 2) := by decide +kernel
theorem dX7_put_99 : decode cX7_put 99 = .ok (.iload_n 3, 1) := by decide +kernel
theorem dX7_put_100 : decode cX7_put 100 = .ok (.if_icmp .ge 66, 3) := by decide +kernel
theorem dX7_put_103 : decode cX7_put 103 = .ok (.iload_n 2, 1) := by decide +kernel
theorem dX7_put_104 : decode cX7_put 104 = .ok (.iload 8, 2) := by decide +kernel
theorem dX7_put_106 : decode cX7_put 106 = .ok (.iadd, 1) := by decide +kernel
theorem dX7_put_107 : decode cX7_put 107 = .ok (.iload 11, 2) := by decide +kernel
theorem dX7_put_109 : decode cX7_put 109 = .ok (.if_icmp .ge 57, 3) := by decide +kernel
theorem dX7_put_112 : decode cX7_put 112 = .ok (.aload_n 0, 1) := by decide +kernel
theorem dX7_put_113 : decode cX7_put 113 = .ok (.getfield 53, 3) := by decide +kernel
theorem dX7_put_116 : decode cX7_put 116 = .ok (.bipush 64, 2) := by decide +kernel
theorem dX7_put_118 : decode cX7_put 118 = .ok (.aload_n 0, 1) := by decide +kernel
theorem dX7_put_119 : decode cX7_put 119 = .ok (.getfield 22, 3) := by decide +kernel
theorem dX7_put_122 : decode cX7_put 122 = .ok (.iload 10, 2) := by decide +kernel
theorem dX7_put_124 : decode cX7_put 124 = .ok (.iaload, 1) := by decide +kernel
theorem dX7_put_125 : decode cX7_put 125 = .ok (.imul, 1) := by decide +kernel
theorem dX7_put_126 : decode cX7_put 126 = .ok (.iload_n 2, 1) := by decide +kernel
theorem dX7_put_127 : decode cX7_put 127 = .ok (.iload 8, 2) := by decide +kernel
theorem dX7_put_129 : decode cX7_put 129 = .ok (.iadd, 1) := by decide +kernel
theorem dX7_put_130 : decode cX7_put 130 = .ok (.bipush 64, 2) := by decide +kernel
theorem dX7_put_132 : decode cX7_put 132 = .ok (.irem, 1) := by decide +kernel
theorem dX7_put_133 : decode cX7_put 133 = .ok (.iadd, 1) := by decide +kernel
theorem dX7_put_134 : decode cX7_put 134 = .ok (.iload 4, 2) := by decide +kernel
theorem dX7_put_136 : decode cX7_put 136 = .ok (.ifCond .eq 13, 3) := by decide +kernel
theorem dX7_put_139 : decode cX7_put 139 = .ok (.iload 7, 2) := by decide +kernel
theorem dX7_put_141 : decode cX7_put 141 = .ok (.iconst 3, 1) := by decide +kernel
theorem dX7_put_142 : decode cX7_put 142 = .ok (.iload 8, 2) := by decide +kernel
theorem dX7_put_144 : decode cX7_put 144 = .ok (.imul, 1) := by decide +kernel
theorem dX7_put_145 : decode cX7_put 145 = .ok (.iadd, 1) := by decide +kernel
theorem dX7_put_146 : decode cX7_put 146 = .ok (.goto 12, 3) := by decide +kernel
theorem dX7_put_149 : decode cX7_put 149 = .ok (.lload 5, 2) := by decide +kernel
theorem dX7_put_151 : decode cX7_put 151 = .ok (.bipush 8, 2) := by decide +kernel
theorem dX7_put_153 : decode cX7_put 153 = .ok (.iload 8, 2) := by decide +kernel
theorem dX7_put_155 : decode cX7_put 155 = .ok (.imul, 1) := by decide +kernel
theorem dX7_put_156 : decode cX7_put 156 = .ok (.lshr, 1) := by decide +kernel
theorem dX7_put_157 : decode cX7_put 157 = .ok (.l2i, 1) := by decide +kernel
theorem dX7_put_158 : decode cX7_put 158 = .ok (.i2b, 1) := by decide +kernel
theorem dX7_put_159 : decode cX7_put 159 = .ok (.bastore, 1) := by decide +kernel
theorem dX7_put_160 : decode cX7_put 160 = .ok (.iinc 8 1, 3) := by decide +kernel
theorem dX7_put_163 : decode cX7_put 163 = .ok (.goto (-66), 3) := by decide +kernel
theorem dX7_put_166 : decode cX7_put 166 = .ok (.aload_n 0, 1) := by decide +kernel
theorem dX7_put_167 : decode cX7_put 167 = .ok (.getfield 7, 3) := by decide +kernel
theorem dX7_put_170 : decode cX7_put 170 = .ok (.iload_n 1, 1) := by decide +kernel
theorem dX7_put_171 : decode cX7_put 171 = .ok (.iload_n 2, 1) := by decide +kernel
theorem dX7_put_172 : decode cX7_put 172 = .ok (.iload 8, 2) := by decide +kernel
theorem dX7_put_174 : decode cX7_put 174 = .ok (.iadd, 1) := by decide +kernel
theorem dX7_put_175 : decode cX7_put 175 = .ok (.aload_n 0, 1) := by decide +kernel
theorem dX7_put_176 : decode cX7_put 176 = .ok (.getfield 7, 3) := by decide +kernel
theorem dX7_put_179 : decode cX7_put 179 = .ok (.iload_n 1, 1) := by decide +kernel
theorem dX7_put_180 : decode cX7_put 180 = .ok (.iaload, 1) := by decide +kernel
theorem dX7_put_181 : decode cX7_put 181 = .ok (.if_icmp .le 10, 3) := by decide +kernel
theorem dX7_put_184 : decode cX7_put 184 = .ok (.iload_n 2, 1) := by decide +kernel
theorem dX7_put_185 : decode cX7_put 185 = .ok (.iload 8, 2) := by decide +kernel
theorem dX7_put_187 : decode cX7_put 187 = .ok (.iadd, 1) := by decide +kernel
theorem dX7_put_188 : decode cX7_put 188 = .ok (.goto 9, 3) := by decide +kernel
theorem dX7_put_191 : decode cX7_put 191 = .ok (.aload_n 0, 1) := by decide +kernel
theorem dX7_put_192 : decode cX7_put 192 = .ok (.getfield 7, 3) := by decide +kernel
theorem dX7_put_195 : decode cX7_put 195 = .ok (.iload_n 1, 1) := by decide +kernel
theorem dX7_put_196 : decode cX7_put 196 = .ok (.iaload, 1) := by decide +kernel
theorem dX7_put_197 : decode cX7_put 197 = .ok (.iastore, 1) := by decide +kernel
theorem dX7_put_198 : decode cX7_put 198 = .ok (.goto (-187), 3) := by decide +kernel
theorem dX7_put_201 : decode cX7_put 201 = .ok (.iload 8, 2) := by decide +kernel
theorem dX7_put_203 : decode cX7_put 203 = .ok (.ifCond .ne 6, 3) := by decide +kernel
theorem dX7_put_206 : decode cX7_put 206 = .ok (.bipush (-3), 2) := by decide +kernel
theorem dX7_put_208 : decode cX7_put 208 = .ok (.ireturn, 1) := by decide +kernel
theorem dX7_put_209 : decode cX7_put 209 = .ok (.aload_n 0, 1) := by decide +kernel
theorem dX7_put_210 : decode cX7_put 210 = .ok (.invokevirtual 192, 3) := by decide +kernel
theorem dX7_put_213 : decode cX7_put 213 = .ok (.iload 8, 2) := by decide +kernel
theorem dX7_put_215 : decode cX7_put 215 = .ok (.ireturn, 1) := by decide +kernel
theorem dX7_write_0 : decode cX7_write 0 = .ok (.iload_n 1, 1) := by decide +kernel
theorem dX7_write_1 : decode cX7_write 1 = .ok (.invokestatic 168, 3) := by decide +kernel
theorem dX7_write_4 : decode cX7_write 4 = .ok (.ifCond .eq 30, 3) := by decide +kernel
theorem dX7_write_7 : decode cX7_write 7 = .ok (.iload 5, 2) := by decide +kernel
theorem dX7_write_9 : decode cX7_write 9 = .ok (.iconst 1, 1) := by decide +kernel
theorem dX7_write_10 : decode cX7_write 10 = .ok (.if_icmp .lt 24, 3) := by decide +kernel
theorem dX7_write_13 : decode cX7_write 13 = .ok (.iload 5, 2) := by decide +kernel
theorem dX7_write_15 : decode cX7_write 15 = .ok (.bipush 8, 2) := by decide +kernel
theorem dX7_write_17 : decode cX7_write 17 = .ok (.if_icmp .gt 17, 3) := by decide +kernel
theorem dX7_write_20 : decode cX7_write 20 = .ok (.iload_n 2, 1) := by decide +kernel
theorem dX7_write_21 : decode cX7_write 21 = .ok (.ifCond .lt 13, 3) := by decide +kernel
theorem dX7_write_24 : decode cX7_write 24 = .ok (.iload_n 2, 1) := by decide +kernel
theorem dX7_write_25 : decode cX7_write 25 = .ok (.sipush 16384, 3) := by decide +kernel
theorem dX7_write_28 : decode cX7_write 28 = .ok (.iload 5, 2) := by decide +kernel
theorem dX7_write_30 : decode cX7_write 30 = .ok (.isub, 1) := by decide +kernel
theorem dX7_write_31 : decode cX7_write 31 = .ok (.if_icmp .le 6, 3) := by decide +kernel
theorem dX7_write_34 : decode cX7_write 34 = .ok (.bipush (-2), 2) := by decide +kernel
theorem dX7_write_36 : decode cX7_write 36 = .ok (.ireturn, 1) := by decide +kernel
theorem dX7_write_37 : decode cX7_write 37 = .ok (.aload_n 0, 1) := by decide +kernel
theorem dX7_write_38 : decode cX7_write 38 = .ok (.iload_n 1, 1) := by decide +kernel
theorem dX7_write_39 : decode cX7_write 39 = .ok (.iload_n 2, 1) := by decide +kernel
theorem dX7_write_40 : decode cX7_write 40 = .ok (.iload 5, 2) := by decide +kernel
theorem dX7_write_42 : decode cX7_write 42 = .ok (.iconst 0, 1) := by decide +kernel
theorem dX7_write_43 : decode cX7_write 43 = .ok (.lload_n 3, 1) := by decide +kernel
theorem dX7_write_44 : decode cX7_write 44 = .ok (.iconst 0, 1) := by decide +kernel
theorem dX7_write_45 : decode cX7_write 45 = .ok (.invokevirtual 195, 3) := by decide +kernel
theorem dX7_write_48 : decode cX7_write 48 = .ok (.ireturn, 1) := by decide +kernel
theorem dX7_fill_0 : decode cX7_fill 0 = .ok (.iload_n 1, 1) := by decide +kernel
theorem dX7_fill_1 : decode cX7_fill 1 = .ok (.invokestatic 168, 3) := by decide +kernel
theorem dX7_fill_4 : decode cX7_fill 4 = .ok (.ifCond .eq 28, 3) := by decide +kernel
theorem dX7_fill_7 : decode cX7_fill 7 = .ok (.iload_n 3, 1) := by decide +kernel
theorem dX7_fill_8 : decode cX7_fill 8 = .ok (.iconst 1, 1) := by decide +kernel
theorem dX7_fill_9 : decode cX7_fill 9 = .ok (.if_icmp .lt 23, 3) := by decide +kernel
theorem dX7_fill_12 : decode cX7_fill 12 = .ok (.iload_n 3, 1) := by decide +kernel
theorem dX7_fill_13 : decode cX7_fill 13 = .ok (.sipush 1024, 3) := by decide +kernel
theorem dX7_fill_16 : decode cX7_fill 16 = .ok (.if_icmp .gt 16, 3) := by decide +kernel
theorem dX7_fill_19 : decode cX7_fill 19 = .ok (.iload_n 2, 1) := by decide +kernel
theorem dX7_fill_20 : decode cX7_fill 20 = .ok (.ifCond .lt 12, 3) := by decide +kernel
theorem dX7_fill_23 : decode cX7_fill 23 = .ok (.iload_n 2, 1) := by decide +kernel
theorem dX7_fill_24 : decode cX7_fill 24 = .ok (.sipush 16384, 3) := by decide +kernel
theorem dX7_fill_27 : decode cX7_fill 27 = .ok (.iload_n 3, 1) := by decide +kernel
theorem dX7_fill_28 : decode cX7_fill 28 = .ok (.isub, 1) := by decide +kernel
theorem dX7_fill_29 : decode cX7_fill 29 = .ok (.if_icmp .le 6, 3) := by decide +kernel
theorem dX7_fill_32 : decode cX7_fill 32 = .ok (.bipush (-2), 2) := by decide +kernel
theorem dX7_fill_34 : decode cX7_fill 34 = .ok (.ireturn, 1) := by decide +kernel
theorem dX7_fill_35 : decode cX7_fill 35 = .ok (.aload_n 0, 1) := by decide +kernel
theorem dX7_fill_36 : decode cX7_fill 36 = .ok (.iload_n 1, 1) := by decide +kernel
theorem dX7_fill_37 : decode cX7_fill 37 = .ok (.iload_n 2, 1) := by decide +kernel
theorem dX7_fill_38 : decode cX7_fill 38 = .ok (.iload_n 3, 1) := by decide +kernel
theorem dX7_fill_39 : decode cX7_fill 39 = .ok (.iconst 1, 1) := by decide +kernel
theorem dX7_fill_40 : decode cX7_fill 40 = .ok (.lconst 0, 1) := by decide +kernel
theorem dX7_fill_41 : decode cX7_fill 41 = .ok (.iload 4, 2) := by decide +kernel
theorem dX7_fill_43 : decode cX7_fill 43 = .ok (.invokevirtual 195, 3) := by decide +kernel
theorem dX7_fill_46 : decode cX7_fill 46 = .ok (.ireturn, 1) := by decide +kernel
theorem dX7_isHoled_0 : decode cX7_isHoled 0 = .ok (.aload_n 0, 1) := by decide +kernel
theorem dX7_isHoled_1 : decode cX7_isHoled 1 = .ok (.iload_n 1, 1) := by decide +kernel
theorem dX7_isHoled_2 : decode cX7_isHoled 2 = .ok (.invokevirtual 159, 3) := by decide +kernel
theorem dX7_isHoled_5 : decode cX7_isHoled 5 = .ok (.ifCond .ne 13, 3) := by decide +kernel
theorem dX7_isHoled_8 : decode cX7_isHoled 8 = .ok (.aload_n 0, 1) := by decide +kernel
theorem dX7_isHoled_9 : decode cX7_isHoled 9 = .ok (.getfield 25, 3) := by decide +kernel
theorem dX7_isHoled_12 : decode cX7_isHoled 12 = .ok (.iload_n 1, 1) := by decide +kernel
theorem dX7_isHoled_13 : decode cX7_isHoled 13 = .ok (.iaload, 1) := by decide +kernel
theorem dX7_isHoled_14 : decode cX7_isHoled 14 = .ok (.iconst (-1), 1) := by decide +kernel
theorem dX7_isHoled_15 : decode cX7_isHoled 15 = .ok (.if_icmp .eq 7, 3) := by decide +kernel
theorem dX7_isHoled_18 : decode cX7_isHoled 18 = .ok (.iconst 1, 1) := by decide +kernel
theorem dX7_isHoled_19 : decode cX7_isHoled 19 = .ok (.goto 4, 3) := by decide +kernel
theorem dX7_isHoled_22 : decode cX7_isHoled 22 = .ok (.iconst 0, 1) := by decide +kernel
theorem dX7_isHoled_23 : decode cX7_isHoled 23 = .ok (.istore_n 2, 1) := by decide +kernel
theorem dX7_isHoled_24 : decode cX7_isHoled 24 = .ok (.aload_n 0, 1) := by decide +kernel
theorem dX7_isHoled_25 : decode cX7_isHoled 25 = .ok (.iload_n 1, 1) := by decide +kernel
theorem dX7_isHoled_26 : decode cX7_isHoled 26 = .ok (.invokevirtual 159, 3) := by decide +kernel
theorem dX7_isHoled_29 : decode cX7_isHoled 29 = .ok (.ifCond .eq 8, 3) := by decide +kernel
theorem dX7_isHoled_32 : decode cX7_isHoled 32 = .ok (.aload_n 0, 1) := by decide +kernel
theorem dX7_isHoled_33 : decode cX7_isHoled 33 = .ok (.iload_n 1, 1) := by decide +kernel
theorem dX7_isHoled_34 : decode cX7_isHoled 34 = .ok (.invokevirtual 123, 3) := by decide +kernel
theorem dX7_isHoled_37 : decode cX7_isHoled 37 = .ok (.aload_n 0, 1) := by decide +kernel
theorem dX7_isHoled_38 : decode cX7_isHoled 38 = .ok (.iload_n 1, 1) := by decide +kernel
theorem dX7_isHoled_39 : decode cX7_isHoled 39 = .ok (.invokevirtual 129, 3) := by decide +kernel
theorem dX7_isHoled_42 : decode cX7_isHoled 42 = .ok (.aload_n 0, 1) := by decide +kernel
theorem dX7_isHoled_43 : decode cX7_isHoled 43 = .ok (.getfield 25, 3) := by decide +kernel
theorem dX7_isHoled_46 : decode cX7_isHoled 46 = .ok (.iload_n 1, 1) := by decide +kernel
theorem dX7_isHoled_47 : decode cX7_isHoled 47 = .ok (.iaload, 1) := by decide +kernel
theorem dX7_isHoled_48 : decode cX7_isHoled 48 = .ok (.iconst (-1), 1) := by decide +kernel
theorem dX7_isHoled_49 : decode cX7_isHoled 49 = .ok (.if_icmp .eq 22, 3) := by decide +kernel
theorem dX7_isHoled_52 : decode cX7_isHoled 52 = .ok (.aload_n 0, 1) := by decide +kernel
theorem dX7_isHoled_53 : decode cX7_isHoled 53 = .ok (.getfield 61, 3) := by decide +kernel
theorem dX7_isHoled_56 : decode cX7_isHoled 56 = .ok (.aload_n 0, 1) := by decide +kernel
theorem dX7_isHoled_57 : decode cX7_isHoled 57 = .ok (.getfield 25, 3) := by decide +kernel
theorem dX7_isHoled_60 : decode cX7_isHoled 60 = .ok (.iload_n 1, 1) := by decide +kernel
theorem dX7_isHoled_61 : decode cX7_isHoled 61 = .ok (.iaload, 1) := by decide +kernel
theorem dX7_isHoled_62 : decode cX7_isHoled 62 = .ok (.iconst 0, 1) := by decide +kernel
theorem dX7_isHoled_63 : decode cX7_isHoled 63 = .ok (.bastore, 1) := by decide +kernel
theorem dX7_isHoled_64 : decode cX7_isHoled 64 = .ok (.aload_n 0, 1) := by decide +kernel
theorem dX7_isHoled_65 : decode cX7_isHoled 65 = .ok (.getfield 25, 3) := by decide +kernel
theorem dX7_isHoled_68 : decode cX7_isHoled 68 = .ok (.iload_n 1, 1) := by decide +kernel
theorem dX7_isHoled_69 : decode cX7_isHoled 69 = .ok (.iconst (-1), 1) := by decide +kernel
theorem dX7_isHoled_70 : decode cX7_isHoled 70 = .ok (.iastore, 1) := by decide +kernel
theorem dX7_isHoled_71 : decode cX7_isHoled 71 = .ok (.iload_n 2, 1) := by decide +kernel
theorem dX7_isHoled_72 : decode cX7_isHoled 72 = .ok (.ireturn, 1) := by decide +kernel
theorem dX7_truncate_0 : decode cX7_truncate 0 = .ok (.iload_n 1, 1) := by decide +kernel
theorem dX7_truncate_1 : decode cX7_truncate 1 = .ok (.invokestatic 168, 3) := by decide +kernel
theorem dX7_truncate_4 : decode cX7_truncate 4 = .ok (.ifCond .eq 14, 3) := by decide +kernel
theorem dX7_truncate_7 : decode cX7_truncate 7 = .ok (.iload_n 2, 1) := by decide +kernel
theorem dX7_truncate_8 : decode cX7_truncate 8 = .ok (.ifCond .lt 10, 3) := by decide +kernel
theorem dX7_truncate_11 : decode cX7_truncate 11 = .ok (.iload_n 2, 1) := by decide +kernel
theorem dX7_truncate_12 : decode cX7_truncate 12 = .ok (.sipush 16384, 3) := by decide +kernel
theorem dX7_truncate_15 : decode cX7_truncate 15 = .ok (.if_icmp .le 6, 3) := by decide +kernel
theorem dX7_truncate_18 : decode cX7_truncate 18 = .ok (.bipush (-2), 2) := by decide +kernel
theorem dX7_truncate_20 : decode cX7_truncate 20 = .ok (.ireturn, 1) := by decide +kernel
theorem dX7_truncate_21 : decode cX7_truncate 21 = .ok (.aload_n 0, 1) := by decide +kernel
theorem dX7_truncate_22 : decode cX7_truncate 22 = .ok (.iconst 0, 1) := by decide +kernel
theorem dX7_truncate_23 : decode cX7_truncate 23 = .ok (.putfield 89, 3) := by decide +kernel
theorem dX7_truncate_26 : decode cX7_truncate 26 = .ok (.aload_n 0, 1) := by decide +kernel
theorem dX7_truncate_27 : decode cX7_truncate 27 = .ok (.getfield 7, 3) := by decide +kernel
theorem dX7_truncate_30 : decode cX7_truncate 30 = .ok (.iload_n 1, 1) := by decide +kernel
theorem dX7_truncate_31 : decode cX7_truncate 31 = .ok (.iaload, 1) := by decide +kernel
theorem dX7_truncate_32 : decode cX7_truncate 32 = .ok (.istore_n 3, 1) := by decide +kernel
theorem dX7_truncate_33 : decode cX7_truncate 33 = .ok (.aload_n 0, 1) := by decide +kernel
theorem dX7_truncate_34 : decode cX7_truncate 34 = .ok (.getfield 7, 3) := by decide +kernel
theorem dX7_truncate_37 : decode cX7_truncate 37 = .ok (.iload_n 1, 1) := by decide +kernel
theorem dX7_truncate_38 : decode cX7_truncate 38 = .ok (.iload_n 2, 1) := by decide +kernel
theorem dX7_truncate_39 : decode cX7_truncate 39 = .ok (.iastore, 1) := by decide +kernel
theorem dX7_truncate_40 : decode cX7_truncate 40 = .ok (.iload_n 2, 1) := by decide +kernel
theorem dX7_truncate_41 : decode cX7_truncate 41 = .ok (.iload_n 3, 1) := by decide +kernel
theorem dX7_truncate_42 : decode cX7_truncate 42 = .ok (.if_icmp .lt 5, 3) := by decide +kernel
theorem dX7_truncate_45 : decode cX7_truncate 45 = .ok (.iload_n 3, 1) := by decide +kernel
theorem dX7_truncate_46 : decode cX7_truncate 46 = .ok (.ireturn, 1) := by decide +kernel
theorem dX7_truncate_47 : decode cX7_truncate 47 = .ok (.iload_n 2, 1) := by decide +kernel
theorem dX7_truncate_48 : decode cX7_truncate 48 = .ok (.bipush 64, 2) := by decide +kernel
theorem dX7_truncate_50 : decode cX7_truncate 50 = .ok (.iadd, 1) := by decide +kernel
theorem dX7_truncate_51 : decode cX7_truncate 51 = .ok (.iconst 1, 1) := by decide +kernel
theorem dX7_truncate_52 : decode cX7_truncate 52 = .ok (.isub, 1) := by decide +kernel
theorem dX7_truncate_53 : decode cX7_truncate 53 = .ok (.bipush 64, 2) := by decide +kernel
theorem dX7_truncate_55 : decode cX7_truncate 55 = .ok (.idiv, 1) := by decide +kernel
theorem dX7_truncate_56 : decode cX7_truncate 56 = .ok (.istore 4, 2) := by decide +kernel
theorem dX7_truncate_58 : decode cX7_truncate 58 = .ok (.iload 4, 2) := by decide +kernel
theorem dX7_truncate_60 : decode cX7_truncate 60 = .ok (.sipush 256, 3) := by decide +kernel
theorem dX7_truncate_63 : decode cX7_truncate 63 = .ok (.if_icmp .ge 23, 3) := by decide +kernel
theorem dX7_truncate_66 : decode cX7_truncate 66 = .ok (.aload_n 0, 1) := by decide +kernel
theorem dX7_truncate_67 : decode cX7_truncate 67 = .ok (.sipush 256, 3) := by decide +kernel
theorem dX7_truncate_70 : decode cX7_truncate 70 = .ok (.iload_n 1, 1) := by decide +kernel
theorem dX7_truncate_71 : decode cX7_truncate 71 = .ok (.imul, 1) := by decide +kernel
theorem dX7_truncate_72 : decode cX7_truncate 72 = .ok (.iload 4, 2) := by decide +kernel
theorem dX7_truncate_74 : decode cX7_truncate 74 = .ok (.iadd, 1) := by decide +kernel
theorem dX7_truncate_75 : decode cX7_truncate 75 = .ok (.invokevirtual 199, 3) := by decide +kernel
theorem dX7_truncate_78 : decode cX7_truncate 78 = .ok (.istore 5, 2) := by decide +kernel
theorem dX7_truncate_80 : decode cX7_truncate 80 = .ok (.iinc 4 1, 3) := by decide +kernel
theorem dX7_truncate_83 : decode cX7_truncate 83 = .ok (.goto (-25), 3) := by decide +kernel
theorem dX7_truncate_86 : decode cX7_truncate 86 = .ok (.sipush 256, 3) := by decide +kernel
theorem dX7_truncate_89 : decode cX7_truncate 89 = .ok (.iload_n 1, 1) := by decide +kernel
theorem dX7_truncate_90 : decode cX7_truncate 90 = .ok (.imul, 1) := by decide +kernel
theorem dX7_truncate_91 : decode cX7_truncate 91 = .ok (.iload_n 2, 1) := by decide +kernel
theorem dX7_truncate_92 : decode cX7_truncate 92 = .ok (.bipush 64, 2) := by decide +kernel
theorem dX7_truncate_94 : decode cX7_truncate 94 = .ok (.idiv, 1) := by decide +kernel
theorem dX7_truncate_95 : decode cX7_truncate 95 = .ok (.iadd, 1) := by decide +kernel
theorem dX7_truncate_96 : decode cX7_truncate 96 = .ok (.istore 4, 2) := by decide +kernel
theorem dX7_truncate_98 : decode cX7_truncate 98 = .ok (.iload_n 2, 1) := by decide +kernel
theorem dX7_truncate_99 : decode cX7_truncate 99 = .ok (.bipush 64, 2) := by decide +kernel
theorem dX7_truncate_101 : decode cX7_truncate 101 = .ok (.irem, 1) := by decide +kernel
theorem dX7_truncate_102 : decode cX7_truncate 102 = .ok (.ifCond .eq 23, 3) := by decide +kernel
theorem dX7_truncate_105 : decode cX7_truncate 105 = .ok (.aload_n 0, 1) := by decide +kernel
theorem dX7_truncate_106 : decode cX7_truncate 106 = .ok (.iload 4, 2) := by decide +kernel
theorem dX7_truncate_108 : decode cX7_truncate 108 = .ok (.invokevirtual 159, 3) := by decide +kernel
theorem dX7_truncate_111 : decode cX7_truncate 111 = .ok (.ifCond .ne 16, 3) := by decide +kernel
theorem dX7_truncate_114 : decode cX7_truncate 114 = .ok (.aload_n 0, 1) := by decide +kernel
theorem dX7_truncate_115 : decode cX7_truncate 115 = .ok (.getfield 25, 3) := by decide +kernel
theorem dX7_truncate_118 : decode cX7_truncate 118 = .ok (.iload 4, 2) := by decide +kernel
theorem dX7_truncate_120 : decode cX7_truncate 120 = .ok (.iaload, 1) := by decide +kernel
theorem dX7_truncate_121 : decode cX7_truncate 121 = .ok (.iconst (-1), 1) := by decide +kernel
theorem dX7_truncate_122 : decode cX7_truncate 122 = .ok (.if_icmp .ne 5, 3) := by decide +kernel
theorem dX7_truncate_125 : decode cX7_truncate 125 = .ok (.iload_n 3, 1) := by decide +kernel
theorem dX7_truncate_126 : decode cX7_truncate 126 = .ok (.ireturn, 1) := by decide +kernel
theorem dX7_truncate_127 : decode cX7_truncate 127 = .ok (.aload_n 0, 1) := by decide +kernel
theorem dX7_truncate_128 : decode cX7_truncate 128 = .ok (.iload 4, 2) := by decide +kernel
theorem dX7_truncate_130 : decode cX7_truncate 130 = .ok (.invokevirtual 171, 3) := by decide +kernel
theorem dX7_truncate_133 : decode cX7_truncate 133 = .ok (.ifCond .ne 6, 3) := by decide +kernel
theorem dX7_truncate_136 : decode cX7_truncate 136 = .ok (.bipush (-3), 2) := by decide +kernel
theorem dX7_truncate_138 : decode cX7_truncate 138 = .ok (.ireturn, 1) := by decide +kernel
theorem dX7_truncate_139 : decode cX7_truncate 139 = .ok (.iload_n 2, 1) := by decide +kernel
theorem dX7_truncate_140 : decode cX7_truncate 140 = .ok (.bipush 64, 2) := by decide +kernel
theorem dX7_truncate_142 : decode cX7_truncate 142 = .ok (.irem, 1) := by decide +kernel
theorem dX7_truncate_143 : decode cX7_truncate 143 = .ok (.istore 5, 2) := by decide +kernel
theorem dX7_truncate_145 : decode cX7_truncate 145 = .ok (.iload 5, 2) := by decide +kernel
theorem dX7_truncate_147 : decode cX7_truncate 147 = .ok (.bipush 64, 2) := by decide +kernel
theorem dX7_truncate_149 : decode cX7_truncate 149 = .ok (.if_icmp .ge 28, 3) := by decide +kernel
theorem dX7_truncate_152 : decode cX7_truncate 152 = .ok (.aload_n 0, 1) := by decide +kernel
theorem dX7_truncate_153 : decode cX7_truncate 153 = .ok (.getfield 53, 3) := by decide +kernel
theorem dX7_truncate_156 : decode cX7_truncate 156 = .ok (.bipush 64, 2) := by decide +kernel
theorem dX7_truncate_158 : decode cX7_truncate 158 = .ok (.aload_n 0, 1) := by decide +kernel
theorem dX7_truncate_159 : decode cX7_truncate 159 = .ok (.getfield 22, 3) := by decide +kernel
theorem dX7_truncate_162 : decode cX7_truncate 162 = .ok (.iload 4, 2) := by decide +kernel
theorem dX7_truncate_164 : decode cX7_truncate 164 = .ok (.iaload, 1) := by decide +kernel
theorem dX7_truncate_165 : decode cX7_truncate 165 = .ok (.imul, 1) := by decide +kernel
theorem dX7_truncate_166 : decode cX7_truncate 166 = .ok (.iload 5, 2) := by decide +kernel
theorem dX7_truncate_168 : decode cX7_truncate 168 = .ok (.iadd, 1) := by decide +kernel
theorem dX7_truncate_169 : decode cX7_truncate 169 = .ok (.iconst 0, 1) := by decide +kernel
theorem dX7_truncate_170 : decode cX7_truncate 170 = .ok (.bastore, 1) := by decide +kernel
theorem dX7_truncate_171 : decode cX7_truncate 171 = .ok (.iinc 5 1, 3) := by decide +kernel
theorem dX7_truncate_174 : decode cX7_truncate 174 = .ok (.goto (-29), 3) := by decide +kernel
theorem dX7_truncate_177 : decode cX7_truncate 177 = .ok (.aload_n 0, 1) := by decide +kernel
theorem dX7_truncate_178 : decode cX7_truncate 178 = .ok (.getfield 28, 3) := by decide +kernel
theorem dX7_truncate_181 : decode cX7_truncate 181 = .ok (.iload 4, 2) := by decide +kernel
theorem dX7_truncate_183 : decode cX7_truncate 183 = .ok (.aload_n 0, 1) := by decide +kernel
theorem dX7_truncate_184 : decode cX7_truncate 184 = .ok (.iload 4, 2) := by decide +kernel
end
section
theorem dX7_truncate_186 : decode cX7_truncate 186 = .ok (.invokevirtual 146, 3) := by decide +kernel
theorem dX7_truncate_189 : decode cX7_truncate 189 = .ok (.ifCond .eq 13, 3) := by decide +kernel
theorem dX7_truncate_192 : decode cX7_truncate 192 = .ok (.aload_n 0, 1) := by decide +kernel
theorem dX7_truncate_193 : decode cX7_truncate 193 = .ok (.getfield 28, 3) := by decide +kernel
theorem dX7_truncate_196 : decode cX7_truncate 196 = .ok (.iload 4, 2) := by decide +kernel
theorem dX7_truncate_198 : decode cX7_truncate 198 = .ok (.iaload, 1) := by decide +kernel
theorem dX7_truncate_199 : decode cX7_truncate 199 = .ok (.goto 7, 3) := by decide +kernel
theorem dX7_truncate_202 : decode cX7_truncate 202 = .ok (.aload_n 0, 1) := by decide +kernel
theorem dX7_truncate_203 : decode cX7_truncate 203 = .ok (.getfield 186, 3) := by decide +kernel
theorem dX7_truncate_206 : decode cX7_truncate 206 = .ok (.iastore, 1) := by decide +kernel
theorem dX7_truncate_207 : decode cX7_truncate 207 = .ok (.iload_n 3, 1) := by decide +kernel
theorem dX7_truncate_208 : decode cX7_truncate 208 = .ok (.ireturn, 1) := by decide +kernel
theorem dX7_punch_0 : decode cX7_punch 0 = .ok (.iload_n 1, 1) := by decide +kernel
theorem dX7_punch_1 : decode cX7_punch 1 = .ok (.invokestatic 168, 3) := by decide +kernel
theorem dX7_punch_4 : decode cX7_punch 4 = .ok (.ifCond .eq 22, 3) := by decide +kernel
theorem dX7_punch_7 : decode cX7_punch 7 = .ok (.iload_n 2, 1) := by decide +kernel
theorem dX7_punch_8 : decode cX7_punch 8 = .ok (.invokestatic 202, 3) := by decide +kernel
theorem dX7_punch_11 : decode cX7_punch 11 = .ok (.ifCond .eq 15, 3) := by decide +kernel
theorem dX7_punch_14 : decode cX7_punch 14 = .ok (.iload_n 3, 1) := by decide +kernel
theorem dX7_punch_15 : decode cX7_punch 15 = .ok (.iconst 1, 1) := by decide +kernel
theorem dX7_punch_16 : decode cX7_punch 16 = .ok (.if_icmp .lt 10, 3) := by decide +kernel
theorem dX7_punch_19 : decode cX7_punch 19 = .ok (.iload_n 3, 1) := by decide +kernel
theorem dX7_punch_20 : decode cX7_punch 20 = .ok (.sipush 256, 3) := by decide +kernel
theorem dX7_punch_23 : decode cX7_punch 23 = .ok (.if_icmp .le 6, 3) := by decide +kernel
theorem dX7_punch_26 : decode cX7_punch 26 = .ok (.bipush (-2), 2) := by decide +kernel
theorem dX7_punch_28 : decode cX7_punch 28 = .ok (.ireturn, 1) := by decide +kernel
theorem dX7_punch_29 : decode cX7_punch 29 = .ok (.iconst 0, 1) := by decide +kernel
theorem dX7_punch_30 : decode cX7_punch 30 = .ok (.istore 4, 2) := by decide +kernel
theorem dX7_punch_32 : decode cX7_punch 32 = .ok (.iload_n 2, 1) := by decide +kernel
theorem dX7_punch_33 : decode cX7_punch 33 = .ok (.istore 5, 2) := by decide +kernel
theorem dX7_punch_35 : decode cX7_punch 35 = .ok (.iload 5, 2) := by decide +kernel
theorem dX7_punch_37 : decode cX7_punch 37 = .ok (.iload_n 2, 1) := by decide +kernel
theorem dX7_punch_38 : decode cX7_punch 38 = .ok (.iload_n 3, 1) := by decide +kernel
theorem dX7_punch_39 : decode cX7_punch 39 = .ok (.iadd, 1) := by decide +kernel
theorem dX7_punch_40 : decode cX7_punch 40 = .ok (.if_icmp .ge 42, 3) := by decide +kernel
theorem dX7_punch_43 : decode cX7_punch 43 = .ok (.iload 5, 2) := by decide +kernel
theorem dX7_punch_45 : decode cX7_punch 45 = .ok (.sipush 256, 3) := by decide +kernel
theorem dX7_punch_48 : decode cX7_punch 48 = .ok (.if_icmp .ge 34, 3) := by decide +kernel
theorem dX7_punch_51 : decode cX7_punch 51 = .ok (.iload 4, 2) := by decide +kernel
theorem dX7_punch_53 : decode cX7_punch 53 = .ok (.aload_n 0, 1) := by decide +kernel
theorem dX7_punch_54 : decode cX7_punch 54 = .ok (.sipush 256, 3) := by decide +kernel
theorem dX7_punch_57 : decode cX7_punch 57 = .ok (.iload_n 1, 1) := by decide +kernel
theorem dX7_punch_58 : decode cX7_punch 58 = .ok (.imul, 1) := by decide +kernel
theorem dX7_punch_59 : decode cX7_punch 59 = .ok (.iload 5, 2) := by decide +kernel
theorem dX7_punch_61 : decode cX7_punch 61 = .ok (.iadd, 1) := by decide +kernel
theorem dX7_punch_62 : decode cX7_punch 62 = .ok (.invokevirtual 199, 3) := by decide +kernel
theorem dX7_punch_65 : decode cX7_punch 65 = .ok (.ifCond .eq 7, 3) := by decide +kernel
theorem dX7_punch_68 : decode cX7_punch 68 = .ok (.iconst 1, 1) := by decide +kernel
theorem dX7_punch_69 : decode cX7_punch 69 = .ok (.goto 4, 3) := by decide +kernel
theorem dX7_punch_72 : decode cX7_punch 72 = .ok (.iconst 0, 1) := by decide +kernel
theorem dX7_punch_73 : decode cX7_punch 73 = .ok (.iadd, 1) := by decide +kernel
theorem dX7_punch_74 : decode cX7_punch 74 = .ok (.istore 4, 2) := by decide +kernel
theorem dX7_punch_76 : decode cX7_punch 76 = .ok (.iinc 5 1, 3) := by decide +kernel
theorem dX7_punch_79 : decode cX7_punch 79 = .ok (.goto (-44), 3) := by decide +kernel
theorem dX7_punch_82 : decode cX7_punch 82 = .ok (.iload 4, 2) := by decide +kernel
theorem dX7_punch_84 : decode cX7_punch 84 = .ok (.ireturn, 1) := by decide +kernel
theorem dX7_sync_0 : decode cX7_sync 0 = .ok (.iload_n 1, 1) := by decide +kernel
theorem dX7_sync_1 : decode cX7_sync 1 = .ok (.invokestatic 168, 3) := by decide +kernel
theorem dX7_sync_4 : decode cX7_sync 4 = .ok (.ifCond .ne 6, 3) := by decide +kernel
theorem dX7_sync_7 : decode cX7_sync 7 = .ok (.bipush (-2), 2) := by decide +kernel
theorem dX7_sync_9 : decode cX7_sync 9 = .ok (.ireturn, 1) := by decide +kernel
theorem dX7_sync_10 : decode cX7_sync 10 = .ok (.aload_n 0, 1) := by decide +kernel
theorem dX7_sync_11 : decode cX7_sync 11 = .ok (.iconst 0, 1) := by decide +kernel
theorem dX7_sync_12 : decode cX7_sync 12 = .ok (.putfield 89, 3) := by decide +kernel
theorem dX7_sync_15 : decode cX7_sync 15 = .ok (.iconst 0, 1) := by decide +kernel
theorem dX7_sync_16 : decode cX7_sync 16 = .ok (.istore_n 2, 1) := by decide +kernel
theorem dX7_sync_17 : decode cX7_sync 17 = .ok (.sipush 256, 3) := by decide +kernel
theorem dX7_sync_20 : decode cX7_sync 20 = .ok (.iload_n 1, 1) := by decide +kernel
theorem dX7_sync_21 : decode cX7_sync 21 = .ok (.imul, 1) := by decide +kernel
theorem dX7_sync_22 : decode cX7_sync 22 = .ok (.istore_n 3, 1) := by decide +kernel
theorem dX7_sync_23 : decode cX7_sync 23 = .ok (.iload_n 3, 1) := by decide +kernel
theorem dX7_sync_24 : decode cX7_sync 24 = .ok (.sipush 256, 3) := by decide +kernel
theorem dX7_sync_27 : decode cX7_sync 27 = .ok (.iload_n 1, 1) := by decide +kernel
theorem dX7_sync_28 : decode cX7_sync 28 = .ok (.imul, 1) := by decide +kernel
theorem dX7_sync_29 : decode cX7_sync 29 = .ok (.sipush 256, 3) := by decide +kernel
theorem dX7_sync_32 : decode cX7_sync 32 = .ok (.iadd, 1) := by decide +kernel
theorem dX7_sync_33 : decode cX7_sync 33 = .ok (.if_icmp .ge 33, 3) := by decide +kernel
theorem dX7_sync_36 : decode cX7_sync 36 = .ok (.iload_n 2, 1) := by decide +kernel
theorem dX7_sync_37 : decode cX7_sync 37 = .ok (.aload_n 0, 1) := by decide +kernel
theorem dX7_sync_38 : decode cX7_sync 38 = .ok (.iload_n 3, 1) := by decide +kernel
theorem dX7_sync_39 : decode cX7_sync 39 = .ok (.invokevirtual 146, 3) := by decide +kernel
theorem dX7_sync_42 : decode cX7_sync 42 = .ok (.ifCond .eq 15, 3) := by decide +kernel
theorem dX7_sync_45 : decode cX7_sync 45 = .ok (.aload_n 0, 1) := by decide +kernel
theorem dX7_sync_46 : decode cX7_sync 46 = .ok (.iload_n 3, 1) := by decide +kernel
theorem dX7_sync_47 : decode cX7_sync 47 = .ok (.invokevirtual 149, 3) := by decide +kernel
theorem dX7_sync_50 : decode cX7_sync 50 = .ok (.ifCond .eq 7, 3) := by decide +kernel
theorem dX7_sync_53 : decode cX7_sync 53 = .ok (.iconst 1, 1) := by decide +kernel
theorem dX7_sync_54 : decode cX7_sync 54 = .ok (.goto 4, 3) := by decide +kernel
theorem dX7_sync_57 : decode cX7_sync 57 = .ok (.iconst 0, 1) := by decide +kernel
theorem dX7_sync_58 : decode cX7_sync 58 = .ok (.iadd, 1) := by decide +kernel
theorem dX7_sync_59 : decode cX7_sync 59 = .ok (.istore_n 2, 1) := by decide +kernel
theorem dX7_sync_60 : decode cX7_sync 60 = .ok (.iinc 3 1, 3) := by decide +kernel
theorem dX7_sync_63 : decode cX7_sync 63 = .ok (.goto (-40), 3) := by decide +kernel
theorem dX7_sync_66 : decode cX7_sync 66 = .ok (.aload_n 0, 1) := by decide +kernel
theorem dX7_sync_67 : decode cX7_sync 67 = .ok (.getfield 19, 3) := by decide +kernel
theorem dX7_sync_70 : decode cX7_sync 70 = .ok (.iload_n 1, 1) := by decide +kernel
theorem dX7_sync_71 : decode cX7_sync 71 = .ok (.iaload, 1) := by decide +kernel
theorem dX7_sync_72 : decode cX7_sync 72 = .ok (.istore_n 3, 1) := by decide +kernel
theorem dX7_sync_73 : decode cX7_sync 73 = .ok (.aload_n 0, 1) := by decide +kernel
theorem dX7_sync_74 : decode cX7_sync 74 = .ok (.getfield 19, 3) := by decide +kernel
theorem dX7_sync_77 : decode cX7_sync 77 = .ok (.iload_n 1, 1) := by decide +kernel
theorem dX7_sync_78 : decode cX7_sync 78 = .ok (.iconst 0, 1) := by decide +kernel
theorem dX7_sync_79 : decode cX7_sync 79 = .ok (.iastore, 1) := by decide +kernel
theorem dX7_sync_80 : decode cX7_sync 80 = .ok (.iload_n 3, 1) := by decide +kernel
theorem dX7_sync_81 : decode cX7_sync 81 = .ok (.ifCond .ne 7, 3) := by decide +kernel
theorem dX7_sync_84 : decode cX7_sync 84 = .ok (.iload_n 2, 1) := by decide +kernel
theorem dX7_sync_85 : decode cX7_sync 85 = .ok (.goto 4, 3) := by decide +kernel
theorem dX7_sync_88 : decode cX7_sync 88 = .ok (.iload_n 3, 1) := by decide +kernel
theorem dX7_sync_89 : decode cX7_sync 89 = .ok (.ireturn, 1) := by decide +kernel
theorem dX7_syncAll_0 : decode cX7_syncAll 0 = .ok (.aload_n 0, 1) := by decide +kernel
theorem dX7_syncAll_1 : decode cX7_syncAll 1 = .ok (.iconst 0, 1) := by decide +kernel
theorem dX7_syncAll_2 : decode cX7_syncAll 2 = .ok (.putfield 89, 3) := by decide +kernel
theorem dX7_syncAll_5 : decode cX7_syncAll 5 = .ok (.iconst 0, 1) := by decide +kernel
theorem dX7_syncAll_6 : decode cX7_syncAll 6 = .ok (.istore_n 1, 1) := by decide +kernel
theorem dX7_syncAll_7 : decode cX7_syncAll 7 = .ok (.iload_n 1, 1) := by decide +kernel
theorem dX7_syncAll_8 : decode cX7_syncAll 8 = .ok (.sipush 3072, 3) := by decide +kernel
theorem dX7_syncAll_11 : decode cX7_syncAll 11 = .ok (.if_icmp .ge 31, 3) := by decide +kernel
theorem dX7_syncAll_14 : decode cX7_syncAll 14 = .ok (.aload_n 0, 1) := by decide +kernel
theorem dX7_syncAll_15 : decode cX7_syncAll 15 = .ok (.iload_n 1, 1) := by decide +kernel
theorem dX7_syncAll_16 : decode cX7_syncAll 16 = .ok (.invokevirtual 146, 3) := by decide +kernel
theorem dX7_syncAll_19 : decode cX7_syncAll 19 = .ok (.ifCond .eq 15, 3) := by decide +kernel
theorem dX7_syncAll_22 : decode cX7_syncAll 22 = .ok (.aload_n 0, 1) := by decide +kernel
theorem dX7_syncAll_23 : decode cX7_syncAll 23 = .ok (.iload_n 1, 1) := by decide +kernel
theorem dX7_syncAll_24 : decode cX7_syncAll 24 = .ok (.invokevirtual 136, 3) := by decide +kernel
theorem dX7_syncAll_27 : decode cX7_syncAll 27 = .ok (.ifCond .eq 7, 3) := by decide +kernel
theorem dX7_syncAll_30 : decode cX7_syncAll 30 = .ok (.iconst 1, 1) := by decide +kernel
theorem dX7_syncAll_31 : decode cX7_syncAll 31 = .ok (.goto 4, 3) := by decide +kernel
theorem dX7_syncAll_34 : decode cX7_syncAll 34 = .ok (.iconst 0, 1) := by decide +kernel
theorem dX7_syncAll_35 : decode cX7_syncAll 35 = .ok (.istore_n 2, 1) := by decide +kernel
theorem dX7_syncAll_36 : decode cX7_syncAll 36 = .ok (.iinc 1 1, 3) := by decide +kernel
theorem dX7_syncAll_39 : decode cX7_syncAll 39 = .ok (.goto (-32), 3) := by decide +kernel
theorem dX7_syncAll_42 : decode cX7_syncAll 42 = .ok (.iconst 0, 1) := by decide +kernel
theorem dX7_syncAll_43 : decode cX7_syncAll 43 = .ok (.istore_n 1, 1) := by decide +kernel
theorem dX7_syncAll_44 : decode cX7_syncAll 44 = .ok (.iconst 0, 1) := by decide +kernel
theorem dX7_syncAll_45 : decode cX7_syncAll 45 = .ok (.istore_n 2, 1) := by decide +kernel
theorem dX7_syncAll_46 : decode cX7_syncAll 46 = .ok (.iload_n 2, 1) := by decide +kernel
theorem dX7_syncAll_47 : decode cX7_syncAll 47 = .ok (.aload_n 0, 1) := by decide +kernel
theorem dX7_syncAll_48 : decode cX7_syncAll 48 = .ok (.getfield 86, 3) := by decide +kernel
theorem dX7_syncAll_51 : decode cX7_syncAll 51 = .ok (.if_icmp .ge 58, 3) := by decide +kernel
theorem dX7_syncAll_54 : decode cX7_syncAll 54 = .ok (.iconst 0, 1) := by decide +kernel
theorem dX7_syncAll_55 : decode cX7_syncAll 55 = .ok (.istore_n 3, 1) := by decide +kernel
theorem dX7_syncAll_56 : decode cX7_syncAll 56 = .ok (.iload_n 3, 1) := by decide +kernel
theorem dX7_syncAll_57 : decode cX7_syncAll 57 = .ok (.sipush 3072, 3) := by decide +kernel
theorem dX7_syncAll_60 : decode cX7_syncAll 60 = .ok (.if_icmp .ge 43, 3) := by decide +kernel
theorem dX7_syncAll_63 : decode cX7_syncAll 63 = .ok (.aload_n 0, 1) := by decide +kernel
theorem dX7_syncAll_64 : decode cX7_syncAll 64 = .ok (.getfield 25, 3) := by decide +kernel
theorem dX7_syncAll_67 : decode cX7_syncAll 67 = .ok (.iload_n 3, 1) := by decide +kernel
theorem dX7_syncAll_68 : decode cX7_syncAll 68 = .ok (.iaload, 1) := by decide +kernel
theorem dX7_syncAll_69 : decode cX7_syncAll 69 = .ok (.iload_n 2, 1) := by decide +kernel
theorem dX7_syncAll_70 : decode cX7_syncAll 70 = .ok (.if_icmp .ne 27, 3) := by decide +kernel
theorem dX7_syncAll_73 : decode cX7_syncAll 73 = .ok (.aload_n 0, 1) := by decide +kernel
theorem dX7_syncAll_74 : decode cX7_syncAll 74 = .ok (.iload_n 3, 1) := by decide +kernel
theorem dX7_syncAll_75 : decode cX7_syncAll 75 = .ok (.invokevirtual 146, 3) := by decide +kernel
theorem dX7_syncAll_78 : decode cX7_syncAll 78 = .ok (.ifCond .eq 19, 3) := by decide +kernel
theorem dX7_syncAll_81 : decode cX7_syncAll 81 = .ok (.iload_n 1, 1) := by decide +kernel
theorem dX7_syncAll_82 : decode cX7_syncAll 82 = .ok (.aload_n 0, 1) := by decide +kernel
theorem dX7_syncAll_83 : decode cX7_syncAll 83 = .ok (.iload_n 3, 1) := by decide +kernel
theorem dX7_syncAll_84 : decode cX7_syncAll 84 = .ok (.invokevirtual 149, 3) := by decide +kernel
theorem dX7_syncAll_87 : decode cX7_syncAll 87 = .ok (.ifCond .eq 7, 3) := by decide +kernel
theorem dX7_syncAll_90 : decode cX7_syncAll 90 = .ok (.iconst 1, 1) := by decide +kernel
theorem dX7_syncAll_91 : decode cX7_syncAll 91 = .ok (.goto 4, 3) := by decide +kernel
theorem dX7_syncAll_94 : decode cX7_syncAll 94 = .ok (.iconst 0, 1) := by decide +kernel
theorem dX7_syncAll_95 : decode cX7_syncAll 95 = .ok (.iadd, 1) := by decide +kernel
theorem dX7_syncAll_96 : decode cX7_syncAll 96 = .ok (.istore_n 1, 1) := by decide +kernel
theorem dX7_syncAll_97 : decode cX7_syncAll 97 = .ok (.iinc 3 1, 3) := by decide +kernel
theorem dX7_syncAll_100 : decode cX7_syncAll 100 = .ok (.goto (-44), 3) := by decide +kernel
theorem dX7_syncAll_103 : decode cX7_syncAll 103 = .ok (.iinc 2 1, 3) := by decide +kernel
theorem dX7_syncAll_106 : decode cX7_syncAll 106 = .ok (.goto (-60), 3) := by decide +kernel
theorem dX7_syncAll_109 : decode cX7_syncAll 109 = .ok (.iload_n 1, 1) := by decide +kernel
theorem dX7_syncAll_110 : decode cX7_syncAll 110 = .ok (.ireturn, 1) := by decide +kernel
theorem dX7_tick_0 : decode cX7_tick 0 = .ok (.iload_n 1, 1) := by decide +kernel
theorem dX7_tick_1 : decode cX7_tick 1 = .ok (.ifCond .lt 10, 3) := by decide +kernel
theorem dX7_tick_4 : decode cX7_tick 4 = .ok (.iload_n 1, 1) := by decide +kernel
theorem dX7_tick_5 : decode cX7_tick 5 = .ok (.sipush 1000, 3) := by decide +kernel
theorem dX7_tick_8 : decode cX7_tick 8 = .ok (.if_icmp .le 6, 3) := by decide +kernel
theorem dX7_tick_11 : decode cX7_tick 11 = .ok (.bipush (-2), 2) := by decide +kernel
theorem dX7_tick_13 : decode cX7_tick 13 = .ok (.ireturn, 1) := by decide +kernel
theorem dX7_tick_14 : decode cX7_tick 14 = .ok (.aload_n 0, 1) := by decide +kernel
theorem dX7_tick_15 : decode cX7_tick 15 = .ok (.iconst 0, 1) := by decide +kernel
theorem dX7_tick_16 : decode cX7_tick 16 = .ok (.putfield 89, 3) := by decide +kernel
theorem dX7_tick_19 : decode cX7_tick 19 = .ok (.iconst 0, 1) := by decide +kernel
theorem dX7_tick_20 : decode cX7_tick 20 = .ok (.istore_n 2, 1) := by decide +kernel
theorem dX7_tick_21 : decode cX7_tick 21 = .ok (.iconst 0, 1) := by decide +kernel
theorem dX7_tick_22 : decode cX7_tick 22 = .ok (.istore_n 3, 1) := by decide +kernel
theorem dX7_tick_23 : decode cX7_tick 23 = .ok (.iload_n 3, 1) := by decide +kernel
theorem dX7_tick_24 : decode cX7_tick 24 = .ok (.iload_n 1, 1) := by decide +kernel
theorem dX7_tick_25 : decode cX7_tick 25 = .ok (.if_icmp .ge 81, 3) := by decide +kernel
theorem dX7_tick_28 : decode cX7_tick 28 = .ok (.aload_n 0, 1) := by decide +kernel
theorem dX7_tick_29 : decode cX7_tick 29 = .ok (.dup, 1) := by decide +kernel
theorem dX7_tick_30 : decode cX7_tick 30 = .ok (.getfield 186, 3) := by decide +kernel
theorem dX7_tick_33 : decode cX7_tick 33 = .ok (.iconst 1, 1) := by decide +kernel
theorem dX7_tick_34 : decode cX7_tick 34 = .ok (.iadd, 1) := by decide +kernel
theorem dX7_tick_35 : decode cX7_tick 35 = .ok (.putfield 186, 3) := by decide +kernel
theorem dX7_tick_38 : decode cX7_tick 38 = .ok (.aload_n 0, 1) := by decide +kernel
theorem dX7_tick_39 : decode cX7_tick 39 = .ok (.invokevirtual 183, 3) := by decide +kernel
theorem dX7_tick_42 : decode cX7_tick 42 = .ok (.iconst 0, 1) := by decide +kernel
theorem dX7_tick_43 : decode cX7_tick 43 = .ok (.istore 4, 2) := by decide +kernel
theorem dX7_tick_45 : decode cX7_tick 45 = .ok (.iload 4, 2) := by decide +kernel
theorem dX7_tick_47 : decode cX7_tick 47 = .ok (.iconst 4, 1) := by decide +kernel
theorem dX7_tick_48 : decode cX7_tick 48 = .ok (.if_icmp .ge 52, 3) := by decide +kernel
theorem dX7_tick_51 : decode cX7_tick 51 = .ok (.aload_n 0, 1) := by decide +kernel
theorem dX7_tick_52 : decode cX7_tick 52 = .ok (.aload_n 0, 1) := by decide +kernel
theorem dX7_tick_53 : decode cX7_tick 53 = .ok (.getfield 186, 3) := by decide +kernel
theorem dX7_tick_56 : decode cX7_tick 56 = .ok (.iconst 5, 1) := by decide +kernel
theorem dX7_tick_57 : decode cX7_tick 57 = .ok (.isub, 1) := by decide +kernel
theorem dX7_tick_58 : decode cX7_tick 58 = .ok (.invokevirtual 189, 3) := by decide +kernel
theorem dX7_tick_61 : decode cX7_tick 61 = .ok (.istore 5, 2) := by decide +kernel
theorem dX7_tick_63 : decode cX7_tick 63 = .ok (.iload 5, 2) := by decide +kernel
theorem dX7_tick_65 : decode cX7_tick 65 = .ok (.iconst (-1), 1) := by decide +kernel
theorem dX7_tick_66 : decode cX7_tick 66 = .ok (.if_icmp .eq 28, 3) := by decide +kernel
theorem dX7_tick_69 : decode cX7_tick 69 = .ok (.iload_n 2, 1) := by decide +kernel
theorem dX7_tick_70 : decode cX7_tick 70 = .ok (.aload_n 0, 1) := by decide +kernel
theorem dX7_tick_71 : decode cX7_tick 71 = .ok (.iload 5, 2) := by decide +kernel
theorem dX7_tick_73 : decode cX7_tick 73 = .ok (.invokevirtual 149, 3) := by decide +kernel
theorem dX7_tick_76 : decode cX7_tick 76 = .ok (.ifCond .eq 7, 3) := by decide +kernel
theorem dX7_tick_79 : decode cX7_tick 79 = .ok (.iconst 1, 1) := by decide +kernel
theorem dX7_tick_80 : decode cX7_tick 80 = .ok (.goto 4, 3) := by decide +kernel
theorem dX7_tick_83 : decode cX7_tick 83 = .ok (.iconst 0, 1) := by decide +kernel
theorem dX7_tick_84 : decode cX7_tick 84 = .ok (.iadd, 1) := by decide +kernel
theorem dX7_tick_85 : decode cX7_tick 85 = .ok (.istore_n 2, 1) := by decide +kernel
theorem dX7_tick_86 : decode cX7_tick 86 = .ok (.aload_n 0, 1) := by decide +kernel
theorem dX7_tick_87 : decode cX7_tick 87 = .ok (.getfield 79, 3) := by decide +kernel
theorem dX7_tick_90 : decode cX7_tick 90 = .ok (.iload 5, 2) := by decide +kernel
theorem dX7_tick_92 : decode cX7_tick 92 = .ok (.iconst 1, 1) := by decide +kernel
theorem dX7_tick_93 : decode cX7_tick 93 = .ok (.bastore, 1) := by decide +kernel
theorem dX7_tick_94 : decode cX7_tick 94 = .ok (.iinc 4 1, 3) := by decide +kernel
theorem dX7_tick_97 : decode cX7_tick 97 = .ok (.goto (-52), 3) := by decide +kernel
theorem dX7_tick_100 : decode cX7_tick 100 = .ok (.iinc 3 1, 3) := by decide +kernel
theorem dX7_tick_103 : decode cX7_tick 103 = .ok (.goto (-80), 3) := by decide +kernel
theorem dX7_tick_106 : decode cX7_tick 106 = .ok (.iload_n 2, 1) := by decide +kernel
theorem dX7_tick_107 : decode cX7_tick 107 = .ok (.ireturn, 1) := by decide +kernel
theorem dX7_drop_0 : decode cX7_drop 0 = .ok (.iconst 0, 1) := by decide +kernel
theorem dX7_drop_1 : decode cX7_drop 1 = .ok (.istore_n 1, 1) := by decide +kernel
theorem dX7_drop_2 : decode cX7_drop 2 = .ok (.iconst 0, 1) := by decide +kernel
theorem dX7_drop_3 : decode cX7_drop 3 = .ok (.istore_n 2, 1) := by decide +kernel
theorem dX7_drop_4 : decode cX7_drop 4 = .ok (.iload_n 2, 1) := by decide +kernel
theorem dX7_drop_5 : decode cX7_drop 5 = .ok (.sipush 3072, 3) := by decide +kernel
theorem dX7_drop_8 : decode cX7_drop 8 = .ok (.if_icmp .ge 42, 3) := by decide +kernel
theorem dX7_drop_11 : decode cX7_drop 11 = .ok (.aload_n 0, 1) := by decide +kernel
theorem dX7_drop_12 : decode cX7_drop 12 = .ok (.iload_n 2, 1) := by decide +kernel
theorem dX7_drop_13 : decode cX7_drop 13 = .ok (.invokevirtual 159, 3) := by decide +kernel
theorem dX7_drop_16 : decode cX7_drop 16 = .ok (.ifCond .eq 28, 3) := by decide +kernel
theorem dX7_drop_19 : decode cX7_drop 19 = .ok (.aload_n 0, 1) := by decide +kernel
theorem dX7_drop_20 : decode cX7_drop 20 = .ok (.iload_n 2, 1) := by decide +kernel
theorem dX7_drop_21 : decode cX7_drop 21 = .ok (.invokevirtual 146, 3) := by decide +kernel
theorem dX7_drop_24 : decode cX7_drop 24 = .ok (.ifCond .ne 20, 3) := by decide +kernel
theorem dX7_drop_27 : decode cX7_drop 27 = .ok (.aload_n 0, 1) := by decide +kernel
theorem dX7_drop_28 : decode cX7_drop 28 = .ok (.getfield 38, 3) := by decide +kernel
theorem dX7_drop_31 : decode cX7_drop 31 = .ok (.iload_n 2, 1) := by decide +kernel
theorem dX7_drop_32 : decode cX7_drop 32 = .ok (.baload, 1) := by decide +kernel
theorem dX7_drop_33 : decode cX7_drop 33 = .ok (.ifCond .ne 11, 3) := by decide +kernel
theorem dX7_drop_36 : decode cX7_drop 36 = .ok (.aload_n 0, 1) := by decide +kernel
theorem dX7_drop_37 : decode cX7_drop 37 = .ok (.iload_n 2, 1) := by decide +kernel
theorem dX7_drop_38 : decode cX7_drop 38 = .ok (.invokevirtual 152, 3) := by decide +kernel
theorem dX7_drop_41 : decode cX7_drop 41 = .ok (.iinc 1 1, 3) := by decide +kernel
theorem dX7_drop_44 : decode cX7_drop 44 = .ok (.iinc 2 1, 3) := by decide +kernel
theorem dX7_drop_47 : decode cX7_drop 47 = .ok (.goto (-43), 3) := by decide +kernel
theorem dX7_drop_50 : decode cX7_drop 50 = .ok (.iload_n 1, 1) := by decide +kernel
theorem dX7_drop_51 : decode cX7_drop 51 = .ok (.ireturn, 1) := by decide +kernel
theorem dX7_crash_0 : decode cX7_crash 0 = .ok (.aload_n 0, 1) := by decide +kernel
theorem dX7_crash_1 : decode cX7_crash 1 = .ok (.invokevirtual 180, 3) := by decide +kernel
theorem dX7_crash_4 : decode cX7_crash 4 = .ok (.istore_n 1, 1) := by decide +kernel
theorem dX7_crash_5 : decode cX7_crash 5 = .ok (.iconst 0, 1) := by decide +kernel
theorem dX7_crash_6 : decode cX7_crash 6 = .ok (.istore_n 2, 1) := by decide +kernel
theorem dX7_crash_7 : decode cX7_crash 7 = .ok (.iload_n 2, 1) := by decide +kernel
theorem dX7_crash_8 : decode cX7_crash 8 = .ok (.sipush 3072, 3) := by decide +kernel
theorem dX7_crash_11 : decode cX7_crash 11 = .ok (.if_icmp .ge 27, 3) := by decide +kernel
theorem dX7_crash_14 : decode cX7_crash 14 = .ok (.aload_n 0, 1) := by decide +kernel
theorem dX7_crash_15 : decode cX7_crash 15 = .ok (.iload_n 2, 1) := by decide +kernel
theorem dX7_crash_16 : decode cX7_crash 16 = .ok (.invokevirtual 159, 3) := by decide +kernel
theorem dX7_crash_19 : decode cX7_crash 19 = .ok (.ifCond .eq 8, 3) := by decide +kernel
theorem dX7_crash_22 : decode cX7_crash 22 = .ok (.aload_n 0, 1) := by decide +kernel
theorem dX7_crash_23 : decode cX7_crash 23 = .ok (.iload_n 2, 1) := by decide +kernel
theorem dX7_crash_24 : decode cX7_crash 24 = .ok (.invokevirtual 123, 3) := by decide +kernel
theorem dX7_crash_27 : decode cX7_crash 27 = .ok (.aload_n 0, 1) := by decide +kernel
theorem dX7_crash_28 : decode cX7_crash 28 = .ok (.iload_n 2, 1) := by decide +kernel
theorem dX7_crash_29 : decode cX7_crash 29 = .ok (.invokevirtual 129, 3) := by decide +kernel
theorem dX7_crash_32 : decode cX7_crash 32 = .ok (.iinc 2 1, 3) := by decide +kernel
theorem dX7_crash_35 : decode cX7_crash 35 = .ok (.goto (-28), 3) := by decide +kernel
theorem dX7_crash_38 : decode cX7_crash 38 = .ok (.iconst 0, 1) := by decide +kernel
theorem dX7_crash_39 : decode cX7_crash 39 = .ok (.istore_n 2, 1) := by decide +kernel
theorem dX7_crash_40 : decode cX7_crash 40 = .ok (.iload_n 2, 1) := by decide +kernel
theorem dX7_crash_41 : decode cX7_crash 41 = .ok (.bipush 12, 2) := by decide +kernel
theorem dX7_crash_43 : decode cX7_crash 43 = .ok (.if_icmp .ge 30, 3) := by decide +kernel
theorem dX7_crash_46 : decode cX7_crash 46 = .ok (.aload_n 0, 1) := by decide +kernel
theorem dX7_crash_47 : decode cX7_crash 47 = .ok (.getfield 13, 3) := by decide +kernel
theorem dX7_crash_50 : decode cX7_crash 50 = .ok (.iload_n 2, 1) := by decide +kernel
theorem dX7_crash_51 : decode cX7_crash 51 = .ok (.iconst 1, 1) := by decide +kernel
theorem dX7_crash_52 : decode cX7_crash 52 = .ok (.iastore, 1) := by decide +kernel
theorem dX7_crash_53 : decode cX7_crash 53 = .ok (.aload_n 0, 1) := by decide +kernel
theorem dX7_crash_54 : decode cX7_crash 54 = .ok (.getfield 16, 3) := by decide +kernel
theorem dX7_crash_57 : decode cX7_crash 57 = .ok (.iload_n 2, 1) := by decide +kernel
theorem dX7_crash_58 : decode cX7_crash 58 = .ok (.iconst 0, 1) := by decide +kernel
theorem dX7_crash_59 : decode cX7_crash 59 = .ok (.iastore, 1) := by decide +kernel
theorem dX7_crash_60 : decode cX7_crash 60 = .ok (.aload_n 0, 1) := by decide +kernel
theorem dX7_crash_61 : decode cX7_crash 61 = .ok (.getfield 19, 3) := by decide +kernel
theorem dX7_crash_64 : decode cX7_crash 64 = .ok (.iload_n 2, 1) := by decide +kernel
theorem dX7_crash_65 : decode cX7_crash 65 = .ok (.iconst 0, 1) := by decide +kernel
theorem dX7_crash_66 : decode cX7_crash 66 = .ok (.iastore, 1) := by decide +kernel
theorem dX7_crash_67 : decode cX7_crash 67 = .ok (.iinc 2 1, 3) := by decide +kernel
theorem dX7_crash_70 : decode cX7_crash 70 = .ok (.goto (-30), 3) := by decide +kernel
theorem dX7_crash_73 : decode cX7_crash 73 = .ok (.aload_n 0, 1) := by decide +kernel
theorem dX7_crash_74 : decode cX7_crash 74 = .ok (.iconst 0, 1) := by decide +kernel
theorem dX7_crash_75 : decode cX7_crash 75 = .ok (.putfield 174, 3) := by decide +kernel
theorem dX7_crash_78 : decode cX7_crash 78 = .ok (.iload_n 1, 1) := by decide +kernel
theorem dX7_crash_79 : decode cX7_crash 79 = .ok (.ireturn, 1) := by decide +kernel
theorem dX7_fail_0 : decode cX7_fail 0 = .ok (.iload_n 1, 1) := by decide +kernel
theorem dX7_fail_1 : decode cX7_fail 1 = .ok (.ifCond .lt 11, 3) := by decide +kernel
theorem dX7_fail_4 : decode cX7_fail 4 = .ok (.iload_n 1, 1) := by decide +kernel
theorem dX7_fail_5 : decode cX7_fail 5 = .ok (.aload_n 0, 1) := by decide +kernel
theorem dX7_fail_6 : decode cX7_fail 6 = .ok (.getfield 86, 3) := by decide +kernel
theorem dX7_fail_9 : decode cX7_fail 9 = .ok (.if_icmp .lt 5, 3) := by decide +kernel
theorem dX7_fail_12 : decode cX7_fail 12 = .ok (.iconst 0, 1) := by decide +kernel
theorem dX7_fail_13 : decode cX7_fail 13 = .ok (.ireturn, 1) := by decide +kernel
theorem dX7_fail_14 : decode cX7_fail 14 = .ok (.aload_n 0, 1) := by decide +kernel
theorem dX7_fail_15 : decode cX7_fail 15 = .ok (.getfield 64, 3) := by decide +kernel
theorem dX7_fail_18 : decode cX7_fail 18 = .ok (.iload_n 1, 1) := by decide +kernel
theorem dX7_fail_19 : decode cX7_fail 19 = .ok (.baload, 1) := by decide +kernel
theorem dX7_fail_20 : decode cX7_fail 20 = .ok (.iload_n 2, 1) := by decide +kernel
theorem dX7_fail_21 : decode cX7_fail 21 = .ok (.if_icmp .eq 7, 3) := by decide +kernel
theorem dX7_fail_24 : decode cX7_fail 24 = .ok (.iconst 1, 1) := by decide +kernel
theorem dX7_fail_25 : decode cX7_fail 25 = .ok (.goto 4, 3) := by decide +kernel
theorem dX7_fail_28 : decode cX7_fail 28 = .ok (.iconst 0, 1) := by decide +kernel
theorem dX7_fail_29 : decode cX7_fail 29 = .ok (.istore_n 3, 1) := by decide +kernel
theorem dX7_fail_30 : decode cX7_fail 30 = .ok (.aload_n 0, 1) := by decide +kernel
theorem dX7_fail_31 : decode cX7_fail 31 = .ok (.getfield 64, 3) := by decide +kernel
theorem dX7_fail_34 : decode cX7_fail 34 = .ok (.iload_n 1, 1) := by decide +kernel
theorem dX7_fail_35 : decode cX7_fail 35 = .ok (.iload_n 2, 1) := by decide +kernel
theorem dX7_fail_36 : decode cX7_fail 36 = .ok (.bastore, 1) := by decide +kernel
theorem dX7_fail_37 : decode cX7_fail 37 = .ok (.iload_n 3, 1) := by decide +kernel
theorem dX7_fail_38 : decode cX7_fail 38 = .ok (.ireturn, 1) := by decide +kernel
theorem dX7_pins_0 : decode cX7_pins 0 = .ok (.iconst 0, 1) := by decide +kernel
theorem dX7_pins_1 : decode cX7_pins 1 = .ok (.istore_n 1, 1) := by decide +kernel
theorem dX7_pins_2 : decode cX7_pins 2 = .ok (.iconst 0, 1) := by decide +kernel
theorem dX7_pins_3 : decode cX7_pins 3 = .ok (.istore_n 2, 1) := by decide +kernel
theorem dX7_pins_4 : decode cX7_pins 4 = .ok (.iload_n 2, 1) := by decide +kernel
theorem dX7_pins_5 : decode cX7_pins 5 = .ok (.sipush 3072, 3) := by decide +kernel
theorem dX7_pins_8 : decode cX7_pins 8 = .ok (.if_icmp .ge 26, 3) := by decide +kernel
theorem dX7_pins_11 : decode cX7_pins 11 = .ok (.iload_n 1, 1) := by decide +kernel
theorem dX7_pins_12 : decode cX7_pins 12 = .ok (.aload_n 0, 1) := by decide +kernel
theorem dX7_pins_13 : decode cX7_pins 13 = .ok (.getfield 38, 3) := by decide +kernel
theorem dX7_pins_16 : decode cX7_pins 16 = .ok (.iload_n 2, 1) := by decide +kernel
theorem dX7_pins_17 : decode cX7_pins 17 = .ok (.baload, 1) := by decide +kernel
theorem dX7_pins_18 : decode cX7_pins 18 = .ok (.ifCond .eq 7, 3) := by decide +kernel
theorem dX7_pins_21 : decode cX7_pins 21 = .ok (.iconst 1, 1) := by decide +kernel
theorem dX7_pins_22 : decode cX7_pins 22 = .ok (.goto 4, 3) := by decide +kernel
theorem dX7_pins_25 : decode cX7_pins 25 = .ok (.iconst 0, 1) := by decide +kernel
theorem dX7_pins_26 : decode cX7_pins 26 = .ok (.iadd, 1) := by decide +kernel
theorem dX7_pins_27 : decode cX7_pins 27 = .ok (.istore_n 1, 1) := by decide +kernel
theorem dX7_pins_28 : decode cX7_pins 28 = .ok (.iinc 2 1, 3) := by decide +kernel
theorem dX7_pins_31 : decode cX7_pins 31 = .ok (.goto (-27), 3) := by decide +kernel
theorem dX7_pins_34 : decode cX7_pins 34 = .ok (.iload_n 1, 1) := by decide +kernel
theorem dX7_pins_35 : decode cX7_pins 35 = .ok (.ireturn, 1) := by decide +kernel
theorem dX7_pin_0 : decode cX7_pin 0 = .ok (.iload_n 1, 1) := by decide +kernel
theorem dX7_pin_1 : decode cX7_pin 1 = .ok (.invokestatic 168, 3) := by decide +kernel
theorem dX7_pin_4 : decode cX7_pin 4 = .ok (.ifCond .eq 10, 3) := by decide +kernel
theorem dX7_pin_7 : decode cX7_pin 7 = .ok (.iload_n 2, 1) := by decide +kernel
theorem dX7_pin_8 : decode cX7_pin 8 = .ok (.invokestatic 202, 3) := by decide +kernel
theorem dX7_pin_11 : decode cX7_pin 11 = .ok (.ifCond .ne 5, 3) := by decide +kernel
theorem dX7_pin_14 : decode cX7_pin 14 = .ok (.iconst 0, 1) := by decide +kernel
theorem dX7_pin_15 : decode cX7_pin 15 = .ok (.ireturn, 1) := by decide +kernel
theorem dX7_pin_16 : decode cX7_pin 16 = .ok (.sipush 256, 3) := by decide +kernel
theorem dX7_pin_19 : decode cX7_pin 19 = .ok (.iload_n 1, 1) := by decide +kernel
theorem dX7_pin_20 : decode cX7_pin 20 = .ok (.imul, 1) := by decide +kernel
theorem dX7_pin_21 : decode cX7_pin 21 = .ok (.iload_n 2, 1) := by decide +kernel
theorem dX7_pin_22 : decode cX7_pin 22 = .ok (.iadd, 1) := by decide +kernel
theorem dX7_pin_23 : decode cX7_pin 23 = .ok (.istore 4, 2) := by decide +kernel
theorem dX7_pin_25 : decode cX7_pin 25 = .ok (.aload_n 0, 1) := by decide +kernel
theorem dX7_pin_26 : decode cX7_pin 26 = .ok (.getfield 38, 3) := by decide +kernel
theorem dX7_pin_29 : decode cX7_pin 29 = .ok (.iload 4, 2) := by decide +kernel
theorem dX7_pin_31 : decode cX7_pin 31 = .ok (.baload, 1) := by decide +kernel
theorem dX7_pin_32 : decode cX7_pin 32 = .ok (.istore 5, 2) := by decide +kernel
theorem dX7_pin_34 : decode cX7_pin 34 = .ok (.iload_n 3, 1) := by decide +kernel
theorem dX7_pin_35 : decode cX7_pin 35 = .ok (.ifCond .ne 14, 3) := by decide +kernel
theorem dX7_pin_38 : decode cX7_pin 38 = .ok (.aload_n 0, 1) := by decide +kernel
theorem dX7_pin_39 : decode cX7_pin 39 = .ok (.getfield 38, 3) := by decide +kernel
theorem dX7_pin_42 : decode cX7_pin 42 = .ok (.iload 4, 2) := by decide +kernel
theorem dX7_pin_44 : decode cX7_pin 44 = .ok (.iconst 0, 1) := by decide +kernel
theorem dX7_pin_45 : decode cX7_pin 45 = .ok (.bastore, 1) := by decide +kernel
theorem dX7_pin_46 : decode cX7_pin 46 = .ok (.iload 5, 2) := by decide +kernel
theorem dX7_pin_48 : decode cX7_pin 48 = .ok (.ireturn, 1) := by decide +kernel
theorem dX7_pin_49 : decode cX7_pin 49 = .ok (.bipush 64, 2) := by decide +kernel
theorem dX7_pin_51 : decode cX7_pin 51 = .ok (.iload_n 2, 1) := by decide +kernel
theorem dX7_pin_52 : decode cX7_pin 52 = .ok (.imul, 1) := by decide +kernel
theorem dX7_pin_53 : decode cX7_pin 53 = .ok (.aload_n 0, 1) := by decide +kernel
theorem dX7_pin_54 : decode cX7_pin 54 = .ok (.getfield 7, 3) := by decide +kernel
theorem dX7_pin_57 : decode cX7_pin 57 = .ok (.iload_n 1, 1) := by decide +kernel
theorem dX7_pin_58 : decode cX7_pin 58 = .ok (.iaload, 1) := by decide +kernel
theorem dX7_pin_59 : decode cX7_pin 59 = .ok (.if_icmp .ge 21, 3) := by decide +kernel
theorem dX7_pin_62 : decode cX7_pin 62 = .ok (.iload 5, 2) := by decide +kernel
theorem dX7_pin_64 : decode cX7_pin 64 = .ok (.ifCond .ne 18, 3) := by decide +kernel
theorem dX7_pin_67 : decode cX7_pin 67 = .ok (.aload_n 0, 1) := by decide +kernel
theorem dX7_pin_68 : decode cX7_pin 68 = .ok (.invokevirtual 205, 3) := by decide +kernel
theorem dX7_pin_71 : decode cX7_pin 71 = .ok (.aload_n 0, 1) := by decide +kernel
theorem dX7_pin_72 : decode cX7_pin 72 = .ok (.getfield 82, 3) := by decide +kernel
theorem dX7_pin_75 : decode cX7_pin 75 = .ok (.iconst 2, 1) := by decide +kernel
theorem dX7_pin_76 : decode cX7_pin 76 = .ok (.idiv, 1) := by decide +kernel
theorem dX7_pin_77 : decode cX7_pin 77 = .ok (.if_icmp .lt 5, 3) := by decide +kernel
theorem dX7_pin_80 : decode cX7_pin 80 = .ok (.iconst 0, 1) := by decide +kernel
theorem dX7_pin_81 : decode cX7_pin 81 = .ok (.ireturn, 1) := by decide +kernel
theorem dX7_pin_82 : decode cX7_pin 82 = .ok (.aload_n 0, 1) := by decide +kernel
theorem dX7_pin_83 : decode cX7_pin 83 = .ok (.iconst 0, 1) := by decide +kernel
theorem dX7_pin_84 : decode cX7_pin 84 = .ok (.putfield 89, 3) := by decide +kernel
theorem dX7_pin_87 : decode cX7_pin 87 = .ok (.aload_n 0, 1) := by decide +kernel
theorem dX7_pin_88 : decode cX7_pin 88 = .ok (.iload 4, 2) := by decide +kernel
theorem dX7_pin_90 : decode cX7_pin 90 = .ok (.invokevirtual 171, 3) := by decide +kernel
theorem dX7_pin_93 : decode cX7_pin 93 = .ok (.ifCond .ne 5, 3) := by decide +kernel
theorem dX7_pin_96 : decode cX7_pin 96 = .ok (.iconst 0, 1) := by decide +kernel
theorem dX7_pin_97 : decode cX7_pin 97 = .ok (.ireturn, 1) := by decide +kernel
theorem dX7_pin_98 : decode cX7_pin 98 = .ok (.aload_n 0, 1) := by decide +kernel
theorem dX7_pin_99 : decode cX7_pin 99 = .ok (.getfield 38, 3) := by decide +kernel
theorem dX7_pin_102 : decode cX7_pin 102 = .ok (.iload 4, 2) := by decide +kernel
theorem dX7_pin_104 : decode cX7_pin 104 = .ok (.iconst 1, 1) := by decide +kernel
theorem dX7_pin_105 : decode cX7_pin 105 = .ok (.bastore, 1) := by decide +kernel
theorem dX7_pin_106 : decode cX7_pin 106 = .ok (.iload 5, 2) := by decide +kernel
theorem dX7_pin_108 : decode cX7_pin 108 = .ok (.ireturn, 1) := by decide +kernel
theorem dX7_size_0 : decode cX7_size 0 = .ok (.iload_n 1, 1) := by decide +kernel
theorem dX7_size_1 : decode cX7_size 1 = .ok (.invokestatic 168, 3) := by decide +kernel
theorem dX7_size_4 : decode cX7_size 4 = .ok (.ifCond .eq 12, 3) := by decide +kernel
theorem dX7_size_7 : decode cX7_size 7 = .ok (.aload_n 0, 1) := by decide +kernel
theorem dX7_size_8 : decode cX7_size 8 = .ok (.getfield 7, 3) := by decide +kernel
theorem dX7_size_11 : decode cX7_size 11 = .ok (.iload_n 1, 1) := by decide +kernel
theorem dX7_size_12 : decode cX7_size 12 = .ok (.iaload, 1) := by decide +kernel
theorem dX7_size_13 : decode cX7_size 13 = .ok (.goto 5, 3) := by decide +kernel
theorem dX7_size_16 : decode cX7_size 16 = .ok (.bipush (-2), 2) := by decide +kernel
theorem dX7_size_18 : decode cX7_size 18 = .ok (.ireturn, 1) := by decide +kernel
theorem dX7_page_0 : decode cX7_page 0 = .ok (.iload_n 1, 1) := by decide +kernel
theorem dX7_page_1 : decode cX7_page 1 = .ok (.invokestatic 168, 3) := by decide +kernel
theorem dX7_page_4 : decode cX7_page 4 = .ok (.ifCond .eq 20, 3) := by decide +kernel
theorem dX7_page_7 : decode cX7_page 7 = .ok (.iload_n 2, 1) := by decide +kernel
theorem dX7_page_8 : decode cX7_page 8 = .ok (.invokestatic 202, 3) := by decide +kernel
theorem dX7_page_11 : decode cX7_page 11 = .ok (.ifCond .eq 13, 3) := by decide +kernel
theorem dX7_page_14 : decode cX7_page 14 = .ok (.iload_n 3, 1) := by decide +kernel
theorem dX7_page_15 : decode cX7_page 15 = .ok (.ifCond .lt 9, 3) := by decide +kernel
theorem dX7_page_18 : decode cX7_page 18 = .ok (.iload_n 3, 1) := by decide +kernel
theorem dX7_page_19 : decode cX7_page 19 = .ok (.bipush 7, 2) := by decide +kernel
theorem dX7_page_21 : decode cX7_page 21 = .ok (.if_icmp .le 6, 3) := by decide +kernel
theorem dX7_page_24 : decode cX7_page 24 = .ok (.bipush (-2), 2) := by decide +kernel
theorem dX7_page_26 : decode cX7_page 26 = .ok (.ireturn, 1) := by decide +kernel
theorem dX7_page_27 : decode cX7_page 27 = .ok (.sipush 256, 3) := by decide +kernel
theorem dX7_page_30 : decode cX7_page 30 = .ok (.iload_n 1, 1) := by decide +kernel
theorem dX7_page_31 : decode cX7_page 31 = .ok (.imul, 1) := by decide +kernel
theorem dX7_page_32 : decode cX7_page 32 = .ok (.iload_n 2, 1) := by decide +kernel
theorem dX7_page_33 : decode cX7_page 33 = .ok (.iadd, 1) := by decide +kernel
theorem dX7_page_34 : decode cX7_page 34 = .ok (.istore 4, 2) := by decide +kernel
theorem dX7_page_36 : decode cX7_page 36 = .ok (.iload_n 3, 1) := by decide +kernel
theorem dX7_page_37 : decode cX7_page 37 = .ok (.tableswitch 141 0 6 #[43, 51, 59, 67, 89, 109, 125], 43) := by decide +kernel
theorem dX7_page_80 : decode cX7_page 80 = .ok (.aload_n 0, 1) := by decide +kernel
theorem dX7_page_81 : decode cX7_page 81 = .ok (.getfield 22, 3) := by decide +kernel
theorem dX7_page_84 : decode cX7_page 84 = .ok (.iload 4, 2) := by decide +kernel
theorem dX7_page_86 : decode cX7_page 86 = .ok (.iaload, 1) := by decide +kernel
theorem dX7_page_87 : decode cX7_page 87 = .ok (.ireturn, 1) := by decide +kernel
theorem dX7_page_88 : decode cX7_page 88 = .ok (.aload_n 0, 1) := by decide +kernel
theorem dX7_page_89 : decode cX7_page 89 = .ok (.getfield 25, 3) := by decide +kernel
theorem dX7_page_92 : decode cX7_page 92 = .ok (.iload 4, 2) := by decide +kernel
theorem dX7_page_94 : decode cX7_page 94 = .ok (.iaload, 1) := by decide +kernel
theorem dX7_page_95 : decode cX7_page 95 = .ok (.ireturn, 1) := by decide +kernel
theorem dX7_page_96 : decode cX7_page 96 = .ok (.aload_n 0, 1) := by decide +kernel
theorem dX7_page_97 : decode cX7_page 97 = .ok (.getfield 28, 3) := by decide +kernel
theorem dX7_page_100 : decode cX7_page 100 = .ok (.iload 4, 2) := by decide +kernel
theorem dX7_page_102 : decode cX7_page 102 = .ok (.iaload, 1) := by decide +kernel
theorem dX7_page_103 : decode cX7_page 103 = .ok (.ireturn, 1) := by decide +kernel
theorem dX7_page_104 : decode cX7_page 104 = .ok (.aload_n 0, 1) := by decide +kernel
theorem dX7_page_105 : decode cX7_page 105 = .ok (.getfield 31, 3) := by decide +kernel
theorem dX7_page_108 : decode cX7_page 108 = .ok (.iload 4, 2) := by decide +kernel
theorem dX7_page_110 : decode cX7_page 110 = .ok (.iaload, 1) := by decide +kernel
theorem dX7_page_111 : decode cX7_page 111 = .ok (.ifCond .le 13, 3) := by decide +kernel
theorem dX7_page_114 : decode cX7_page 114 = .ok (.aload_n 0, 1) := by decide +kernel
theorem dX7_page_115 : decode cX7_page 115 = .ok (.getfield 31, 3) := by decide +kernel
theorem dX7_page_118 : decode cX7_page 118 = .ok (.iload 4, 2) := by decide +kernel
theorem dX7_page_120 : decode cX7_page 120 = .ok (.iaload, 1) := by decide +kernel
theorem dX7_page_121 : decode cX7_page 121 = .ok (.goto 4, 3) := by decide +kernel
theorem dX7_page_124 : decode cX7_page 124 = .ok (.iconst (-1), 1) := by decide +kernel
theorem dX7_page_125 : decode cX7_page 125 = .ok (.ireturn, 1) := by decide +kernel
theorem dX7_page_126 : decode cX7_page 126 = .ok (.aload_n 0, 1) := by decide +kernel
theorem dX7_page_127 : decode cX7_page 127 = .ok (.iload 4, 2) := by decide +kernel
theorem dX7_page_129 : decode cX7_page 129 = .ok (.invokevirtual 159, 3) := by decide +kernel
theorem dX7_page_132 : decode cX7_page 132 = .ok (.ifCond .eq 12, 3) := by decide +kernel
theorem dX7_page_135 : decode cX7_page 135 = .ok (.aload_n 0, 1) := by decide +kernel
theorem dX7_page_136 : decode cX7_page 136 = .ok (.iload 4, 2) := by decide +kernel
theorem dX7_page_138 : decode cX7_page 138 = .ok (.invokevirtual 108, 3) := by decide +kernel
theorem dX7_page_141 : decode cX7_page 141 = .ok (.goto 4, 3) := by decide +kernel
theorem dX7_page_144 : decode cX7_page 144 = .ok (.iconst (-1), 1) := by decide +kernel
theorem dX7_page_145 : decode cX7_page 145 = .ok (.ireturn, 1) := by decide +kernel
theorem dX7_page_146 : decode cX7_page 146 = .ok (.aload_n 0, 1) := by decide +kernel
theorem dX7_page_147 : decode cX7_page 147 = .ok (.getfield 34, 3) := by decide +kernel
theorem dX7_page_150 : decode cX7_page 150 = .ok (.iload 4, 2) := by decide +kernel
theorem dX7_page_152 : decode cX7_page 152 = .ok (.baload, 1) := by decide +kernel
theorem dX7_page_153 : decode cX7_page 153 = .ok (.ifCond .eq 7, 3) := by decide +kernel
theorem dX7_page_156 : decode cX7_page 156 = .ok (.iconst 1, 1) := by decide +kernel
theorem dX7_page_157 : decode cX7_page 157 = .ok (.goto 4, 3) := by decide +kernel
theorem dX7_page_160 : decode cX7_page 160 = .ok (.iconst 0, 1) := by decide +kernel
theorem dX7_page_161 : decode cX7_page 161 = .ok (.ireturn, 1) := by decide +kernel
theorem dX7_page_162 : decode cX7_page 162 = .ok (.aload_n 0, 1) := by decide +kernel
theorem dX7_page_163 : decode cX7_page 163 = .ok (.getfield 38, 3) := by decide +kernel
theorem dX7_page_166 : decode cX7_page 166 = .ok (.iload 4, 2) := by decide +kernel
theorem dX7_page_168 : decode cX7_page 168 = .ok (.baload, 1) := by decide +kernel
theorem dX7_page_169 : decode cX7_page 169 = .ok (.ifCond .eq 7, 3) := by decide +kernel
theorem dX7_page_172 : decode cX7_page 172 = .ok (.iconst 1, 1) := by decide +kernel
theorem dX7_page_173 : decode cX7_page 173 = .ok (.goto 4, 3) := by decide +kernel
theorem dX7_page_176 : decode cX7_page 176 = .ok (.iconst 0, 1) := by decide +kernel
theorem dX7_page_177 : decode cX7_page 177 = .ok (.ireturn, 1) := by decide +kernel
theorem dX7_page_178 : decode cX7_page 178 = .ok (.aload_n 0, 1) := by decide +kernel
theorem dX7_page_179 : decode cX7_page 179 = .ok (.iload 4, 2) := by decide +kernel
theorem dX7_page_181 : decode cX7_page 181 = .ok (.invokevirtual 159, 3) := by decide +kernel
theorem dX7_page_184 : decode cX7_page 184 = .ok (.ifCond .eq 17, 3) := by decide +kernel
theorem dX7_page_187 : decode cX7_page 187 = .ok (.aload_n 0, 1) := by decide +kernel
theorem dX7_page_188 : decode cX7_page 188 = .ok (.getfield 41, 3) := by decide +kernel
theorem dX7_page_191 : decode cX7_page 191 = .ok (.iload 4, 2) := by decide +kernel
theorem dX7_page_193 : decode cX7_page 193 = .ok (.baload, 1) := by decide +kernel
theorem dX7_page_194 : decode cX7_page 194 = .ok (.ifCond .eq 7, 3) := by decide +kernel
theorem dX7_page_197 : decode cX7_page 197 = .ok (.iconst 1, 1) := by decide +kernel
theorem dX7_page_198 : decode cX7_page 198 = .ok (.goto 4, 3) := by decide +kernel
theorem dX7_page_201 : decode cX7_page 201 = .ok (.iconst 0, 1) := by decide +kernel
theorem dX7_page_202 : decode cX7_page 202 = .ok (.ireturn, 1) := by decide +kernel
theorem dX7_hasMark_0 : decode cX7_hasMark 0 = .ok (.iload_n 2, 1) := by decide +kernel
theorem dX7_hasMark_1 : decode cX7_hasMark 1 = .ok (.tableswitch 57 0 3 #[31, 37, 43, 50], 31) := by decide +kernel
theorem dX7_hasMark_32 : decode cX7_hasMark 32 = .ok (.aload_n 0, 1) := by decide +kernel
theorem dX7_hasMark_33 : decode cX7_hasMark 33 = .ok (.iload_n 1, 1) := by decide +kernel
theorem dX7_hasMark_34 : decode cX7_hasMark 34 = .ok (.invokevirtual 159, 3) := by decide +kernel
theorem dX7_hasMark_37 : decode cX7_hasMark 37 = .ok (.ireturn, 1) := by decide +kernel
theorem dX7_hasMark_38 : decode cX7_hasMark 38 = .ok (.aload_n 0, 1) := by decide +kernel
theorem dX7_hasMark_39 : decode cX7_hasMark 39 = .ok (.iload_n 1, 1) := by decide +kernel
theorem dX7_hasMark_40 : decode cX7_hasMark 40 = .ok (.invokevirtual 146, 3) := by decide +kernel
theorem dX7_hasMark_43 : decode cX7_hasMark 43 = .ok (.ireturn, 1) := by decide +kernel
theorem dX7_hasMark_44 : decode cX7_hasMark 44 = .ok (.aload_n 0, 1) := by decide +kernel
theorem dX7_hasMark_45 : decode cX7_hasMark 45 = .ok (.getfield 34, 3) := by decide +kernel
theorem dX7_hasMark_48 : decode cX7_hasMark 48 = .ok (.iload_n 1, 1) := by decide +kernel
theorem dX7_hasMark_49 : decode cX7_hasMark 49 = .ok (.baload, 1) := by decide +kernel
theorem dX7_hasMark_50 : decode cX7_hasMark 50 = .ok (.ireturn, 1) := by decide +kernel
theorem dX7_hasMark_51 : decode cX7_hasMark 51 = .ok (.aload_n 0, 1) := by decide +kernel
theorem dX7_hasMark_52 : decode cX7_hasMark 52 = .ok (.getfield 38, 3) := by decide +kernel
theorem dX7_hasMark_55 : decode cX7_hasMark 55 = .ok (.iload_n 1, 1) := by decide +kernel
theorem dX7_hasMark_56 : decode cX7_hasMark 56 = .ok (.baload, 1) := by decide +kernel
theorem dX7_hasMark_57 : decode cX7_hasMark 57 = .ok (.ireturn, 1) := by decide +kernel
theorem dX7_hasMark_58 : decode cX7_hasMark 58 = .ok (.aload_n 0, 1) := by decide +kernel
theorem dX7_hasMark_59 : decode cX7_hasMark 59 = .ok (.getfield 31, 3) := by decide +kernel
theorem dX7_hasMark_62 : decode cX7_hasMark 62 = .ok (.iload_n 1, 1) := by decide +kernel
theorem dX7_hasMark_63 : decode cX7_hasMark 63 = .ok (.iaload, 1) := by decide +kernel
theorem dX7_hasMark_64 : decode cX7_hasMark 64 = .ok (.ifCond .le 7, 3) := by decide +kernel
theorem dX7_hasMark_67 : decode cX7_hasMark 67 = .ok (.iconst 1, 1) := by decide +kernel
theorem dX7_hasMark_68 : decode cX7_hasMark 68 = .ok (.goto 4, 3) := by decide +kernel
theorem dX7_hasMark_71 : decode cX7_hasMark 71 = .ok (.iconst 0, 1) := by decide +kernel
theorem dX7_hasMark_72 : decode cX7_hasMark 72 = .ok (.ireturn, 1) := by decide +kernel
theorem dX7_next_0 : decode cX7_next 0 = .ok (.iload_n 1, 1) := by decide +kernel
theorem dX7_next_1 : decode cX7_next 1 = .ok (.invokestatic 168, 3) := by decide +kernel
theorem dX7_next_4 : decode cX7_next 4 = .ok (.ifCond .eq 19, 3) := by decide +kernel
theorem dX7_next_7 : decode cX7_next 7 = .ok (.iload_n 2, 1) := by decide +kernel
theorem dX7_next_8 : decode cX7_next 8 = .ok (.invokestatic 202, 3) := by decide +kernel
theorem dX7_next_11 : decode cX7_next 11 = .ok (.ifCond .eq 12, 3) := by decide +kernel
theorem dX7_next_14 : decode cX7_next 14 = .ok (.iload_n 3, 1) := by decide +kernel
theorem dX7_next_15 : decode cX7_next 15 = .ok (.ifCond .lt 8, 3) := by decide +kernel
theorem dX7_next_18 : decode cX7_next 18 = .ok (.iload_n 3, 1) := by decide +kernel
theorem dX7_next_19 : decode cX7_next 19 = .ok (.iconst 4, 1) := by decide +kernel
theorem dX7_next_20 : decode cX7_next 20 = .ok (.if_icmp .le 6, 3) := by decide +kernel
theorem dX7_next_23 : decode cX7_next 23 = .ok (.bipush (-2), 2) := by decide +kernel
theorem dX7_next_25 : decode cX7_next 25 = .ok (.ireturn, 1) := by decide +kernel
theorem dX7_next_26 : decode cX7_next 26 = .ok (.iload_n 2, 1) := by decide +kernel
theorem dX7_next_27 : decode cX7_next 27 = .ok (.istore 4, 2) := by decide +kernel
theorem dX7_next_29 : decode cX7_next 29 = .ok (.iload 4, 2) := by decide +kernel
theorem dX7_next_31 : decode cX7_next 31 = .ok (.sipush 256, 3) := by decide +kernel
theorem dX7_next_34 : decode cX7_next 34 = .ok (.if_icmp .ge 25, 3) := by decide +kernel
theorem dX7_next_37 : decode cX7_next 37 = .ok (.aload_n 0, 1) := by decide +kernel
theorem dX7_next_38 : decode cX7_next 38 = .ok (.sipush 256, 3) := by decide +kernel
theorem dX7_next_41 : decode cX7_next 41 = .ok (.iload_n 1, 1) := by decide +kernel
theorem dX7_next_42 : decode cX7_next 42 = .ok (.imul, 1) := by decide +kernel
theorem dX7_next_43 : decode cX7_next 43 = .ok (.iload 4, 2) := by decide +kernel
theorem dX7_next_45 : decode cX7_next 45 = .ok (.iadd, 1) := by decide +kernel
theorem dX7_next_46 : decode cX7_next 46 = .ok (.iload_n 3, 1) := by decide +kernel
theorem dX7_next_47 : decode cX7_next 47 = .ok (.invokevirtual 208, 3) := by decide +kernel
theorem dX7_next_50 : decode cX7_next 50 = .ok (.ifCond .ne 9, 3) := by decide +kernel
theorem dX7_next_53 : decode cX7_next 53 = .ok (.iinc 4 1, 3) := by decide +kernel
theorem dX7_next_56 : decode cX7_next 56 = .ok (.goto (-27), 3) := by decide +kernel
theorem dX7_next_59 : decode cX7_next 59 = .ok (.iload 4, 2) := by decide +kernel
theorem dX7_next_61 : decode cX7_next 61 = .ok (.sipush 256, 3) := by decide +kernel
theorem dX7_next_64 : decode cX7_next 64 = .ok (.if_icmp .ge 8, 3) := by decide +kernel
theorem dX7_next_67 : decode cX7_next 67 = .ok (.iload 4, 2) := by decide +kernel
theorem dX7_next_69 : decode cX7_next 69 = .ok (.goto 4, 3) := by decide +kernel
theorem dX7_next_72 : decode cX7_next 72 = .ok (.iconst (-1), 1) := by decide +kernel
theorem dX7_next_73 : decode cX7_next 73 = .ok (.ireturn, 1) := by decide +kernel
theorem dX7_isEntry_0 : decode cX7_isEntry 0 = .ok (.aload_n 0, 1) := by decide +kernel
theorem dX7_isEntry_1 : decode cX7_isEntry 1 = .ok (.iload_n 1, 1) := by decide +kernel
theorem dX7_isEntry_2 : decode cX7_isEntry 2 = .ok (.invokevirtual 159, 3) := by decide +kernel
theorem dX7_isEntry_5 : decode cX7_isEntry 5 = .ok (.ifCond .ne 12, 3) := by decide +kernel
theorem dX7_isEntry_8 : decode cX7_isEntry 8 = .ok (.aload_n 0, 1) := by decide +kernel
theorem dX7_isEntry_9 : decode cX7_isEntry 9 = .ok (.getfield 31, 3) := by decide +kernel
theorem dX7_isEntry_12 : decode cX7_isEntry 12 = .ok (.iload_n 1, 1) := by decide +kernel
theorem dX7_isEntry_13 : decode cX7_isEntry 13 = .ok (.iaload, 1) := by decide +kernel
theorem dX7_isEntry_14 : decode cX7_isEntry 14 = .ok (.ifCond .le 7, 3) := by decide +kernel
theorem dX7_isEntry_17 : decode cX7_isEntry 17 = .ok (.iconst 1, 1) := by decide +kernel
theorem dX7_isEntry_18 : decode cX7_isEntry 18 = .ok (.goto 4, 3) := by decide +kernel
theorem dX7_isEntry_21 : decode cX7_isEntry 21 = .ok (.iconst 0, 1) := by decide +kernel
theorem dX7_isEntry_22 : decode cX7_isEntry 22 = .ok (.ireturn, 1) := by decide +kernel
theorem dX7_height_0 : decode cX7_height 0 = .ok (.iconst (-1), 1) := by decide +kernel
theorem dX7_height_1 : decode cX7_height 1 = .ok (.istore_n 2, 1) := by decide +kernel
theorem dX7_height_2 : decode cX7_height 2 = .ok (.iconst 0, 1) := by decide +kernel
theorem dX7_height_3 : decode cX7_height 3 = .ok (.istore_n 3, 1) := by decide +kernel
theorem dX7_height_4 : decode cX7_height 4 = .ok (.iload_n 3, 1) := by decide +kernel
theorem dX7_height_5 : decode cX7_height 5 = .ok (.sipush 256, 3) := by decide +kernel
theorem dX7_height_8 : decode cX7_height 8 = .ok (.if_icmp .ge 29, 3) := by decide +kernel
theorem dX7_height_11 : decode cX7_height 11 = .ok (.aload_n 0, 1) := by decide +kernel
theorem dX7_height_12 : decode cX7_height 12 = .ok (.sipush 256, 3) := by decide +kernel
theorem dX7_height_15 : decode cX7_height 15 = .ok (.iload_n 1, 1) := by decide +kernel
theorem dX7_height_16 : decode cX7_height 16 = .ok (.imul, 1) := by decide +kernel
theorem dX7_height_17 : decode cX7_height 17 = .ok (.iload_n 3, 1) := by decide +kernel
theorem dX7_height_18 : decode cX7_height 18 = .ok (.iadd, 1) := by decide +kernel
theorem dX7_height_19 : decode cX7_height 19 = .ok (.invokevirtual 212, 3) := by decide +kernel
theorem dX7_height_22 : decode cX7_height 22 = .ok (.ifCond .eq 7, 3) := by decide +kernel
theorem dX7_height_25 : decode cX7_height 25 = .ok (.iload_n 3, 1) := by decide +kernel
theorem dX7_height_26 : decode cX7_height 26 = .ok (.goto 4, 3) := by decide +kernel
theorem dX7_height_29 : decode cX7_height 29 = .ok (.iload_n 2, 1) := by decide +kernel
theorem dX7_height_30 : decode cX7_height 30 = .ok (.istore_n 2, 1) := by decide +kernel
theorem dX7_height_31 : decode cX7_height 31 = .ok (.iinc 3 1, 3) := by decide +kernel
theorem dX7_height_34 : decode cX7_height 34 = .ok (.goto (-30), 3) := by decide +kernel
theorem dX7_height_37 : decode cX7_height 37 = .ok (.iload_n 2, 1) := by decide +kernel
theorem dX7_height_38 : decode cX7_height 38 = .ok (.iconst (-1), 1) := by decide +kernel
theorem dX7_height_39 : decode cX7_height 39 = .ok (.if_icmp .ne 5, 3) := by decide +kernel
theorem dX7_height_42 : decode cX7_height 42 = .ok (.iconst 0, 1) := by decide +kernel
theorem dX7_height_43 : decode cX7_height 43 = .ok (.ireturn, 1) := by decide +kernel
theorem dX7_height_44 : decode cX7_height 44 = .ok (.iconst 1, 1) := by decide +kernel
theorem dX7_height_45 : decode cX7_height 45 = .ok (.istore_n 3, 1) := by decide +kernel
theorem dX7_height_46 : decode cX7_height 46 = .ok (.iconst 1, 1) := by decide +kernel
theorem dX7_height_47 : decode cX7_height 47 = .ok (.iconst 2, 1) := by decide +kernel
theorem dX7_height_48 : decode cX7_height 48 = .ok (.iload_n 3, 1) := by decide +kernel
theorem dX7_height_49 : decode cX7_height 49 = .ok (.imul, 1) := by decide +kernel
theorem dX7_height_50 : decode cX7_height 50 = .ok (.ishl, 1) := by decide +kernel
theorem dX7_height_51 : decode cX7_height 51 = .ok (.iload_n 2, 1) := by decide +kernel
theorem dX7_height_52 : decode cX7_height 52 = .ok (.if_icmp .gt 9, 3) := by decide +kernel
theorem dX7_height_55 : decode cX7_height 55 = .ok (.iinc 3 1, 3) := by decide +kernel
theorem dX7_height_58 : decode cX7_height 58 = .ok (.goto (-12), 3) := by decide +kernel
theorem dX7_height_61 : decode cX7_height 61 = .ok (.iload_n 3, 1) := by decide +kernel
theorem dX7_height_62 : decode cX7_height 62 = .ok (.ireturn, 1) := by decide +kernel
theorem dX7_nodes_0 : decode cX7_nodes 0 = .ok (.iconst 0, 1) := by decide +kernel
theorem dX7_nodes_1 : decode cX7_nodes 1 = .ok (.istore_n 2, 1) := by decide +kernel
theorem dX7_nodes_2 : decode cX7_nodes 2 = .ok (.aload_n 0, 1) := by decide +kernel
theorem dX7_nodes_3 : decode cX7_nodes 3 = .ok (.iload_n 1, 1) := by decide +kernel
theorem dX7_nodes_4 : decode cX7_nodes 4 = .ok (.invokevirtual 215, 3) := by decide +kernel
theorem dX7_nodes_7 : decode cX7_nodes 7 = .ok (.istore_n 3, 1) := by decide +kernel
theorem dX7_nodes_8 : decode cX7_nodes 8 = .ok (.iconst 1, 1) := by decide +kernel
theorem dX7_nodes_9 : decode cX7_nodes 9 = .ok (.istore 4, 2) := by decide +kernel
theorem dX7_nodes_11 : decode cX7_nodes 11 = .ok (.iload 4, 2) := by decide +kernel
theorem dX7_nodes_13 : decode cX7_nodes 13 = .ok (.iload_n 3, 1) := by decide +kernel
theorem dX7_nodes_14 : decode cX7_nodes 14 = .ok (.if_icmp .gt 67, 3) := by decide +kernel
theorem dX7_nodes_17 : decode cX7_nodes 17 = .ok (.iconst (-1), 1) := by decide +kernel
theorem dX7_nodes_18 : decode cX7_nodes 18 = .ok (.istore 5, 2) := by decide +kernel
theorem dX7_nodes_20 : decode cX7_nodes 20 = .ok (.iconst 0, 1) := by decide +kernel
theorem dX7_nodes_21 : decode cX7_nodes 21 = .ok (.istore 6, 2) := by decide +kernel
theorem dX7_nodes_23 : decode cX7_nodes 23 = .ok (.iload 6, 2) := by decide +kernel
theorem dX7_nodes_25 : decode cX7_nodes 25 = .ok (.sipush 256, 3) := by decide +kernel
theorem dX7_nodes_28 : decode cX7_nodes 28 = .ok (.if_icmp .ge 47, 3) := by decide +kernel
theorem dX7_nodes_31 : decode cX7_nodes 31 = .ok (.iload 6, 2) := by decide +kernel
theorem dX7_nodes_33 : decode cX7_nodes 33 = .ok (.iconst 2, 1) := by decide +kernel
theorem dX7_nodes_34 : decode cX7_nodes 34 = .ok (.iload 4, 2) := by decide +kernel
theorem dX7_nodes_36 : decode cX7_nodes 36 = .ok (.imul, 1) := by decide +kernel
theorem dX7_nodes_37 : decode cX7_nodes 37 = .ok (.ishr, 1) := by decide +kernel
theorem dX7_nodes_38 : decode cX7_nodes 38 = .ok (.istore 7, 2) := by decide +kernel
theorem dX7_nodes_40 : decode cX7_nodes 40 = .ok (.aload_n 0, 1) := by decide +kernel
theorem dX7_nodes_41 : decode cX7_nodes 41 = .ok (.sipush 256, 3) := by decide +kernel
theorem dX7_nodes_44 : decode cX7_nodes 44 = .ok (.iload_n 1, 1) := by decide +kernel
theorem dX7_nodes_45 : decode cX7_nodes 45 = .ok (.imul, 1) := by decide +kernel
theorem dX7_nodes_46 : decode cX7_nodes 46 = .ok (.iload 6, 2) := by decide +kernel
theorem dX7_nodes_48 : decode cX7_nodes 48 = .ok (.iadd, 1) := by decide +kernel
theorem dX7_nodes_49 : decode cX7_nodes 49 = .ok (.invokevirtual 212, 3) := by decide +kernel
theorem dX7_nodes_52 : decode cX7_nodes 52 = .ok (.ifCond .eq 17, 3) := by decide +kernel
theorem dX7_nodes_55 : decode cX7_nodes 55 = .ok (.iload 7, 2) := by decide +kernel
theorem dX7_nodes_57 : decode cX7_nodes 57 = .ok (.iload 5, 2) := by decide +kernel
theorem dX7_nodes_59 : decode cX7_nodes 59 = .ok (.if_icmp .eq 10, 3) := by decide +kernel
theorem dX7_nodes_62 : decode cX7_nodes 62 = .ok (.iinc 2 1, 3) := by decide +kernel
theorem dX7_nodes_65 : decode cX7_nodes 65 = .ok (.iload 7, 2) := by decide +kernel
theorem dX7_nodes_67 : decode cX7_nodes 67 = .ok (.istore 5, 2) := by decide +kernel
theorem dX7_nodes_69 : decode cX7_nodes 69 = .ok (.iinc 6 1, 3) := by decide +kernel
theorem dX7_nodes_72 : decode cX7_nodes 72 = .ok (.goto (-49), 3) := by decide +kernel
theorem dX7_nodes_75 : decode cX7_nodes 75 = .ok (.iinc 4 1, 3) := by decide +kernel
theorem dX7_nodes_78 : decode cX7_nodes 78 = .ok (.goto (-67), 3) := by decide +kernel
theorem dX7_nodes_81 : decode cX7_nodes 81 = .ok (.iload_n 2, 1) := by decide +kernel
theorem dX7_nodes_82 : decode cX7_nodes 82 = .ok (.ireturn, 1) := by decide +kernel
theorem dX7_tree_0 : decode cX7_tree 0 = .ok (.iload_n 1, 1) := by decide +kernel
theorem dX7_tree_1 : decode cX7_tree 1 = .ok (.invokestatic 168, 3) := by decide +kernel
theorem dX7_tree_4 : decode cX7_tree 4 = .ok (.ifCond .eq 12, 3) := by decide +kernel
theorem dX7_tree_7 : decode cX7_tree 7 = .ok (.iload_n 2, 1) := by decide +kernel
theorem dX7_tree_8 : decode cX7_tree 8 = .ok (.ifCond .lt 8, 3) := by decide +kernel
theorem dX7_tree_11 : decode cX7_tree 11 = .ok (.iload_n 2, 1) := by decide +kernel
theorem dX7_tree_12 : decode cX7_tree 12 = .ok (.iconst 5, 1) := by decide +kernel
theorem dX7_tree_13 : decode cX7_tree 13 = .ok (.if_icmp .le 6, 3) := by decide +kernel
theorem dX7_tree_16 : decode cX7_tree 16 = .ok (.bipush (-2), 2) := by decide +kernel
theorem dX7_tree_18 : decode cX7_tree 18 = .ok (.ireturn, 1) := by decide +kernel
theorem dX7_tree_19 : decode cX7_tree 19 = .ok (.iload_n 2, 1) := by decide +kernel
theorem dX7_tree_20 : decode cX7_tree 20 = .ok (.tableswitch 106 0 4 #[36, 42, 48, 92, 99], 36) := by decide +kernel
theorem dX7_tree_56 : decode cX7_tree 56 = .ok (.aload_n 0, 1) := by decide +kernel
theorem dX7_tree_57 : decode cX7_tree 57 = .ok (.iload_n 1, 1) := by decide +kernel
theorem dX7_tree_58 : decode cX7_tree 58 = .ok (.invokevirtual 215, 3) := by decide +kernel
theorem dX7_tree_61 : decode cX7_tree 61 = .ok (.ireturn, 1) := by decide +kernel
theorem dX7_tree_62 : decode cX7_tree 62 = .ok (.aload_n 0, 1) := by decide +kernel
theorem dX7_tree_63 : decode cX7_tree 63 = .ok (.iload_n 1, 1) := by decide +kernel
theorem dX7_tree_64 : decode cX7_tree 64 = .ok (.invokevirtual 218, 3) := by decide +kernel
theorem dX7_tree_67 : decode cX7_tree 67 = .ok (.ireturn, 1) := by decide +kernel
theorem dX7_tree_68 : decode cX7_tree 68 = .ok (.iconst 0, 1) := by decide +kernel
theorem dX7_tree_69 : decode cX7_tree 69 = .ok (.istore_n 3, 1) := by decide +kernel
theorem dX7_tree_70 : decode cX7_tree 70 = .ok (.iconst 0, 1) := by decide +kernel
theorem dX7_tree_71 : decode cX7_tree 71 = .ok (.istore 4, 2) := by decide +kernel
theorem dX7_tree_73 : decode cX7_tree 73 = .ok (.iload 4, 2) := by decide +kernel
theorem dX7_tree_75 : decode cX7_tree 75 = .ok (.sipush 256, 3) := by decide +kernel
theorem dX7_tree_78 : decode cX7_tree 78 = .ok (.if_icmp .ge 32, 3) := by decide +kernel
theorem dX7_tree_81 : decode cX7_tree 81 = .ok (.iload_n 3, 1) := by decide +kernel
theorem dX7_tree_82 : decode cX7_tree 82 = .ok (.aload_n 0, 1) := by decide +kernel
theorem dX7_tree_83 : decode cX7_tree 83 = .ok (.sipush 256, 3) := by decide +kernel
theorem dX7_tree_86 : decode cX7_tree 86 = .ok (.iload_n 1, 1) := by decide +kernel
theorem dX7_tree_87 : decode cX7_tree 87 = .ok (.imul, 1) := by decide +kernel
theorem dX7_tree_88 : decode cX7_tree 88 = .ok (.iload 4, 2) := by decide +kernel
theorem dX7_tree_90 : decode cX7_tree 90 = .ok (.iadd, 1) := by decide +kernel
theorem dX7_tree_91 : decode cX7_tree 91 = .ok (.invokevirtual 212, 3) := by decide +kernel
theorem dX7_tree_94 : decode cX7_tree 94 = .ok (.ifCond .eq 7, 3) := by decide +kernel
theorem dX7_tree_97 : decode cX7_tree 97 = .ok (.iconst 1, 1) := by decide +kernel
theorem dX7_tree_98 : decode cX7_tree 98 = .ok (.goto 4, 3) := by decide +kernel
theorem dX7_tree_101 : decode cX7_tree 101 = .ok (.iconst 0, 1) := by decide +kernel
theorem dX7_tree_102 : decode cX7_tree 102 = .ok (.iadd, 1) := by decide +kernel
theorem dX7_tree_103 : decode cX7_tree 103 = .ok (.istore_n 3, 1) := by decide +kernel
theorem dX7_tree_104 : decode cX7_tree 104 = .ok (.iinc 4 1, 3) := by decide +kernel
theorem dX7_tree_107 : decode cX7_tree 107 = .ok (.goto (-34), 3) := by decide +kernel
theorem dX7_tree_110 : decode cX7_tree 110 = .ok (.iload_n 3, 1) := by decide +kernel
theorem dX7_tree_111 : decode cX7_tree 111 = .ok (.ireturn, 1) := by decide +kernel
theorem dX7_tree_112 : decode cX7_tree 112 = .ok (.aload_n 0, 1) := by decide +kernel
theorem dX7_tree_113 : decode cX7_tree 113 = .ok (.getfield 13, 3) := by decide +kernel
theorem dX7_tree_116 : decode cX7_tree 116 = .ok (.iload_n 1, 1) := by decide +kernel
theorem dX7_tree_117 : decode cX7_tree 117 = .ok (.iaload, 1) := by decide +kernel
theorem dX7_tree_118 : decode cX7_tree 118 = .ok (.ireturn, 1) := by decide +kernel
theorem dX7_tree_119 : decode cX7_tree 119 = .ok (.aload_n 0, 1) := by decide +kernel
theorem dX7_tree_120 : decode cX7_tree 120 = .ok (.getfield 16, 3) := by decide +kernel
theorem dX7_tree_123 : decode cX7_tree 123 = .ok (.iload_n 1, 1) := by decide +kernel
theorem dX7_tree_124 : decode cX7_tree 124 = .ok (.iaload, 1) := by decide +kernel
theorem dX7_tree_125 : decode cX7_tree 125 = .ok (.ireturn, 1) := by decide +kernel
theorem dX7_tree_126 : decode cX7_tree 126 = .ok (.aload_n 0, 1) := by decide +kernel
theorem dX7_tree_127 : decode cX7_tree 127 = .ok (.getfield 19, 3) := by decide +kernel
theorem dX7_tree_130 : decode cX7_tree 130 = .ok (.iload_n 1, 1) := by decide +kernel
theorem dX7_tree_131 : decode cX7_tree 131 = .ok (.iaload, 1) := by decide +kernel
theorem dX7_tree_132 : decode cX7_tree 132 = .ok (.ireturn, 1) := by decide +kernel
theorem dX7_listed_0 : decode cX7_listed 0 = .ok (.iload_n 2, 1) := by decide +kernel
theorem dX7_listed_1 : decode cX7_listed 1 = .ok (.ifCond .lt 22, 3) := by decide +kernel
theorem dX7_listed_4 : decode cX7_listed 4 = .ok (.iload_n 2, 1) := by decide +kernel
theorem dX7_listed_5 : decode cX7_listed 5 = .ok (.iload_n 1, 1) := by decide +kernel
theorem dX7_listed_6 : decode cX7_listed 6 = .ok (.ifCond .eq 10, 3) := by decide +kernel
theorem dX7_listed_9 : decode cX7_listed 9 = .ok (.aload_n 0, 1) := by decide +kernel
theorem dX7_listed_10 : decode cX7_listed 10 = .ok (.getfield 102, 3) := by decide +kernel
theorem dX7_listed_13 : decode cX7_listed 13 = .ok (.goto 7, 3) := by decide +kernel
theorem dX7_listed_16 : decode cX7_listed 16 = .ok (.aload_n 0, 1) := by decide +kernel
theorem dX7_listed_17 : decode cX7_listed 17 = .ok (.getfield 105, 3) := by decide +kernel
theorem dX7_listed_20 : decode cX7_listed 20 = .ok (.if_icmp .lt 5, 3) := by decide +kernel
theorem dX7_listed_23 : decode cX7_listed 23 = .ok (.iconst (-1), 1) := by decide +kernel
theorem dX7_listed_24 : decode cX7_listed 24 = .ok (.ireturn, 1) := by decide +kernel
theorem dX7_listed_25 : decode cX7_listed 25 = .ok (.iload_n 1, 1) := by decide +kernel
theorem dX7_listed_26 : decode cX7_listed 26 = .ok (.ifCond .eq 12, 3) := by decide +kernel
theorem dX7_listed_29 : decode cX7_listed 29 = .ok (.aload_n 0, 1) := by decide +kernel
theorem dX7_listed_30 : decode cX7_listed 30 = .ok (.getfield 44, 3) := by decide +kernel
theorem dX7_listed_33 : decode cX7_listed 33 = .ok (.iload_n 2, 1) := by decide +kernel
theorem dX7_listed_34 : decode cX7_listed 34 = .ok (.iaload, 1) := by decide +kernel
theorem dX7_listed_35 : decode cX7_listed 35 = .ok (.goto 9, 3) := by decide +kernel
theorem dX7_listed_38 : decode cX7_listed 38 = .ok (.aload_n 0, 1) := by decide +kernel
theorem dX7_listed_39 : decode cX7_listed 39 = .ok (.getfield 47, 3) := by decide +kernel
theorem dX7_listed_42 : decode cX7_listed 42 = .ok (.iload_n 2, 1) := by decide +kernel
theorem dX7_listed_43 : decode cX7_listed 43 = .ok (.iaload, 1) := by decide +kernel
theorem dX7_listed_44 : decode cX7_listed 44 = .ok (.ireturn, 1) := by decide +kernel
theorem dX7_disk_0 : decode cX7_disk 0 = .ok (.iload_n 1, 1) := by decide +kernel
theorem dX7_disk_1 : decode cX7_disk 1 = .ok (.ifCond .lt 21, 3) := by decide +kernel
theorem dX7_disk_4 : decode cX7_disk 4 = .ok (.iload_n 1, 1) := by decide +kernel
theorem dX7_disk_5 : decode cX7_disk 5 = .ok (.aload_n 0, 1) := by decide +kernel
theorem dX7_disk_6 : decode cX7_disk 6 = .ok (.getfield 86, 3) := by decide +kernel
theorem dX7_disk_9 : decode cX7_disk 9 = .ok (.if_icmp .ge 13, 3) := by decide +kernel
theorem dX7_disk_12 : decode cX7_disk 12 = .ok (.iload_n 2, 1) := by decide +kernel
theorem dX7_disk_13 : decode cX7_disk 13 = .ok (.ifCond .lt 9, 3) := by decide +kernel
theorem dX7_disk_16 : decode cX7_disk 16 = .ok (.iload_n 2, 1) := by decide +kernel
theorem dX7_disk_17 : decode cX7_disk 17 = .ok (.bipush 64, 2) := by decide +kernel
theorem dX7_disk_19 : decode cX7_disk 19 = .ok (.if_icmp .lt 8, 3) := by decide +kernel
theorem dX7_disk_22 : decode cX7_disk 22 = .ok (.bipush (-2), 2) := by decide +kernel
theorem dX7_disk_24 : decode cX7_disk 24 = .ok (.goto 18, 3) := by decide +kernel
theorem dX7_disk_27 : decode cX7_disk 27 = .ok (.aload_n 0, 1) := by decide +kernel
theorem dX7_disk_28 : decode cX7_disk 28 = .ok (.getfield 58, 3) := by decide +kernel
theorem dX7_disk_31 : decode cX7_disk 31 = .ok (.bipush 64, 2) := by decide +kernel
theorem dX7_disk_33 : decode cX7_disk 33 = .ok (.iload_n 1, 1) := by decide +kernel
theorem dX7_disk_34 : decode cX7_disk 34 = .ok (.imul, 1) := by decide +kernel
theorem dX7_disk_35 : decode cX7_disk 35 = .ok (.iload_n 2, 1) := by decide +kernel
theorem dX7_disk_36 : decode cX7_disk 36 = .ok (.iadd, 1) := by decide +kernel
theorem dX7_disk_37 : decode cX7_disk 37 = .ok (.baload, 1) := by decide +kernel
theorem dX7_disk_38 : decode cX7_disk 38 = .ok (.sipush 255, 3) := by decide +kernel
theorem dX7_disk_41 : decode cX7_disk 41 = .ok (.iand, 1) := by decide +kernel
theorem dX7_disk_42 : decode cX7_disk 42 = .ok (.ireturn, 1) := by decide +kernel
theorem dX7_run_0 : decode cX7_run 0 = .ok (.iload_n 2, 1) := by decide +kernel
theorem dX7_run_1 : decode cX7_run 1 = .ok (.ifCond .lt 8, 3) := by decide +kernel
theorem dX7_run_4 : decode cX7_run 4 = .ok (.iload_n 2, 1) := by decide +kernel
theorem dX7_run_5 : decode cX7_run 5 = .ok (.iconst 2, 1) := by decide +kernel
theorem dX7_run_6 : decode cX7_run 6 = .ok (.if_icmp .le 6, 3) := by decide +kernel
theorem dX7_run_9 : decode cX7_run 9 = .ok (.bipush (-2), 2) := by decide +kernel
theorem dX7_run_11 : decode cX7_run 11 = .ok (.ireturn, 1) := by decide +kernel
theorem dX7_run_12 : decode cX7_run 12 = .ok (.iload_n 1, 1) := by decide +kernel
theorem dX7_run_13 : decode cX7_run 13 = .ok (.ifCond .lt 11, 3) := by decide +kernel
theorem dX7_run_16 : decode cX7_run 16 = .ok (.iload_n 1, 1) := by decide +kernel
theorem dX7_run_17 : decode cX7_run 17 = .ok (.aload_n 0, 1) := by decide +kernel
theorem dX7_run_18 : decode cX7_run 18 = .ok (.getfield 93, 3) := by decide +kernel
theorem dX7_run_21 : decode cX7_run 21 = .ok (.if_icmp .lt 5, 3) := by decide +kernel
theorem dX7_run_24 : decode cX7_run 24 = .ok (.iconst (-1), 1) := by decide +kernel
theorem dX7_run_25 : decode cX7_run 25 = .ok (.ireturn, 1) := by decide +kernel
theorem dX7_run_26 : decode cX7_run 26 = .ok (.iload_n 2, 1) := by decide +kernel
theorem dX7_run_27 : decode cX7_run 27 = .ok (.ifCond .ne 12, 3) := by decide +kernel
theorem dX7_run_30 : decode cX7_run 30 = .ok (.aload_n 0, 1) := by decide +kernel
theorem dX7_run_31 : decode cX7_run 31 = .ok (.getfield 70, 3) := by decide +kernel
theorem dX7_run_34 : decode cX7_run 34 = .ok (.iload_n 1, 1) := by decide +kernel
theorem dX7_run_35 : decode cX7_run 35 = .ok (.iaload, 1) := by decide +kernel
theorem dX7_run_36 : decode cX7_run 36 = .ok (.goto 23, 3) := by decide +kernel
theorem dX7_run_39 : decode cX7_run 39 = .ok (.iload_n 2, 1) := by decide +kernel
theorem dX7_run_40 : decode cX7_run 40 = .ok (.iconst 1, 1) := by decide +kernel
theorem dX7_run_41 : decode cX7_run 41 = .ok (.if_icmp .ne 12, 3) := by decide +kernel
theorem dX7_run_44 : decode cX7_run 44 = .ok (.aload_n 0, 1) := by decide +kernel
theorem dX7_run_45 : decode cX7_run 45 = .ok (.getfield 73, 3) := by decide +kernel
theorem dX7_run_48 : decode cX7_run 48 = .ok (.iload_n 1, 1) := by decide +kernel
theorem dX7_run_49 : decode cX7_run 49 = .ok (.iaload, 1) := by decide +kernel
theorem dX7_run_50 : decode cX7_run 50 = .ok (.goto 9, 3) := by decide +kernel
theorem dX7_run_53 : decode cX7_run 53 = .ok (.aload_n 0, 1) := by decide +kernel
theorem dX7_run_54 : decode cX7_run 54 = .ok (.getfield 76, 3) := by decide +kernel
theorem dX7_run_57 : decode cX7_run 57 = .ok (.iload_n 1, 1) := by decide +kernel
theorem dX7_run_58 : decode cX7_run 58 = .ok (.iaload, 1) := by decide +kernel
theorem dX7_run_59 : decode cX7_run 59 = .ok (.ireturn, 1) := by decide +kernel
theorem dX7_pagesIn_0 : decode cX7_pagesIn 0 = .ok (.iconst 0, 1) := by decide +kernel
theorem dX7_pagesIn_1 : decode cX7_pagesIn 1 = .ok (.istore_n 1, 1) := by decide +kernel
theorem dX7_pagesIn_2 : decode cX7_pagesIn 2 = .ok (.iconst 0, 1) := by decide +kernel
theorem dX7_pagesIn_3 : decode cX7_pagesIn 3 = .ok (.istore_n 2, 1) := by decide +kernel
theorem dX7_pagesIn_4 : decode cX7_pagesIn 4 = .ok (.iload_n 2, 1) := by decide +kernel
theorem dX7_pagesIn_5 : decode cX7_pagesIn 5 = .ok (.sipush 3072, 3) := by decide +kernel
theorem dX7_pagesIn_8 : decode cX7_pagesIn 8 = .ok (.if_icmp .ge 25, 3) := by decide +kernel
theorem dX7_pagesIn_11 : decode cX7_pagesIn 11 = .ok (.iload_n 1, 1) := by decide +kernel
theorem dX7_pagesIn_12 : decode cX7_pagesIn 12 = .ok (.aload_n 0, 1) := by decide +kernel
theorem dX7_pagesIn_13 : decode cX7_pagesIn 13 = .ok (.iload_n 2, 1) := by decide +kernel
theorem dX7_pagesIn_14 : decode cX7_pagesIn 14 = .ok (.invokevirtual 159, 3) := by decide +kernel
theorem dX7_pagesIn_17 : decode cX7_pagesIn 17 = .ok (.ifCond .eq 7, 3) := by decide +kernel
theorem dX7_pagesIn_20 : decode cX7_pagesIn 20 = .ok (.iconst 1, 1) := by decide +kernel
theorem dX7_pagesIn_21 : decode cX7_pagesIn 21 = .ok (.goto 4, 3) := by decide +kernel
theorem dX7_pagesIn_24 : decode cX7_pagesIn 24 = .ok (.iconst 0, 1) := by decide +kernel
theorem dX7_pagesIn_25 : decode cX7_pagesIn 25 = .ok (.iadd, 1) := by decide +kernel
theorem dX7_pagesIn_26 : decode cX7_pagesIn 26 = .ok (.istore_n 1, 1) := by decide +kernel
theorem dX7_pagesIn_27 : decode cX7_pagesIn 27 = .ok (.iinc 2 1, 3) := by decide +kernel
theorem dX7_pagesIn_30 : decode cX7_pagesIn 30 = .ok (.goto (-26), 3) := by decide +kernel
theorem dX7_pagesIn_33 : decode cX7_pagesIn 33 = .ok (.iload_n 1, 1) := by decide +kernel
theorem dX7_pagesIn_34 : decode cX7_pagesIn 34 = .ok (.ireturn, 1) := by decide +kernel
theorem dX7_freeBlocks_0 : decode cX7_freeBlocks 0 = .ok (.iconst 0, 1) := by decide +kernel
theorem dX7_freeBlocks_1 : decode cX7_freeBlocks 1 = .ok (.istore_n 1, 1) := by decide +kernel
theorem dX7_freeBlocks_2 : decode cX7_freeBlocks 2 = .ok (.iconst 0, 1) := by decide +kernel
theorem dX7_freeBlocks_3 : decode cX7_freeBlocks 3 = .ok (.istore_n 2, 1) := by decide +kernel
theorem dX7_freeBlocks_4 : decode cX7_freeBlocks 4 = .ok (.iload_n 2, 1) := by decide +kernel
theorem dX7_freeBlocks_5 : decode cX7_freeBlocks 5 = .ok (.aload_n 0, 1) := by decide +kernel
theorem dX7_freeBlocks_6 : decode cX7_freeBlocks 6 = .ok (.getfield 86, 3) := by decide +kernel
theorem dX7_freeBlocks_9 : decode cX7_freeBlocks 9 = .ok (.if_icmp .ge 26, 3) := by decide +kernel
theorem dX7_freeBlocks_12 : decode cX7_freeBlocks 12 = .ok (.iload_n 1, 1) := by decide +kernel
theorem dX7_freeBlocks_13 : decode cX7_freeBlocks 13 = .ok (.aload_n 0, 1) := by decide +kernel
theorem dX7_freeBlocks_14 : decode cX7_freeBlocks 14 = .ok (.getfield 61, 3) := by decide +kernel
theorem dX7_freeBlocks_17 : decode cX7_freeBlocks 17 = .ok (.iload_n 2, 1) := by decide +kernel
theorem dX7_freeBlocks_18 : decode cX7_freeBlocks 18 = .ok (.baload, 1) := by decide +kernel
theorem dX7_freeBlocks_19 : decode cX7_freeBlocks 19 = .ok (.ifCond .eq 7, 3) := by decide +kernel
theorem dX7_freeBlocks_22 : decode cX7_freeBlocks 22 = .ok (.iconst 0, 1) := by decide +kernel
theorem dX7_freeBlocks_23 : decode cX7_freeBlocks 23 = .ok (.goto 4, 3) := by decide +kernel
theorem dX7_freeBlocks_26 : decode cX7_freeBlocks 26 = .ok (.iconst 1, 1) := by decide +kernel
theorem dX7_freeBlocks_27 : decode cX7_freeBlocks 27 = .ok (.iadd, 1) := by decide +kernel
theorem dX7_freeBlocks_28 : decode cX7_freeBlocks 28 = .ok (.istore_n 1, 1) := by decide +kernel
theorem dX7_freeBlocks_29 : decode cX7_freeBlocks 29 = .ok (.iinc 2 1, 3) := by decide +kernel
theorem dX7_freeBlocks_32 : decode cX7_freeBlocks 32 = .ok (.goto (-28), 3) := by decide +kernel
theorem dX7_freeBlocks_35 : decode cX7_freeBlocks 35 = .ok (.iload_n 1, 1) := by decide +kernel
theorem dX7_freeBlocks_36 : decode cX7_freeBlocks 36 = .ok (.ireturn, 1) := by decide +kernel
theorem dX7_wrongFiles_0 : decode cX7_wrongFiles 0 = .ok (.iconst 0, 1) := by decide +kernel
theorem dX7_wrongFiles_1 : decode cX7_wrongFiles 1 = .ok (.istore_n 1, 1) := by decide +kernel
theorem dX7_wrongFiles_2 : decode cX7_wrongFiles 2 = .ok (.iconst 0, 1) := by decide +kernel
theorem dX7_wrongFiles_3 : decode cX7_wrongFiles 3 = .ok (.istore_n 2, 1) := by decide +kernel
theorem dX7_wrongFiles_4 : decode cX7_wrongFiles 4 = .ok (.iload_n 2, 1) := by decide +kernel
theorem dX7_wrongFiles_5 : decode cX7_wrongFiles 5 = .ok (.bipush 12, 2) := by decide +kernel
theorem dX7_wrongFiles_7 : decode cX7_wrongFiles 7 = .ok (.if_icmp .ge 26, 3) := by decide +kernel
theorem dX7_wrongFiles_10 : decode cX7_wrongFiles 10 = .ok (.iload_n 1, 1) := by decide +kernel
theorem dX7_wrongFiles_11 : decode cX7_wrongFiles 11 = .ok (.aload_n 0, 1) := by decide +kernel
theorem dX7_wrongFiles_12 : decode cX7_wrongFiles 12 = .ok (.getfield 19, 3) := by decide +kernel
theorem dX7_wrongFiles_15 : decode cX7_wrongFiles 15 = .ok (.iload_n 2, 1) := by decide +kernel
theorem dX7_wrongFiles_16 : decode cX7_wrongFiles 16 = .ok (.iaload, 1) := by decide +kernel
theorem dX7_wrongFiles_17 : decode cX7_wrongFiles 17 = .ok (.ifCond .eq 7, 3) := by decide +kernel
theorem dX7_wrongFiles_20 : decode cX7_wrongFiles 20 = .ok (.iconst 1, 1) := by decide +kernel
theorem dX7_wrongFiles_21 : decode cX7_wrongFiles 21 = .ok (.goto 4, 3) := by decide +kernel
theorem dX7_wrongFiles_24 : decode cX7_wrongFiles 24 = .ok (.iconst 0, 1) := by decide +kernel
theorem dX7_wrongFiles_25 : decode cX7_wrongFiles 25 = .ok (.iadd, 1) := by decide +kernel
theorem dX7_wrongFiles_26 : decode cX7_wrongFiles 26 = .ok (.istore_n 1, 1) := by decide +kernel
theorem dX7_wrongFiles_27 : decode cX7_wrongFiles 27 = .ok (.iinc 2 1, 3) := by decide +kernel
theorem dX7_wrongFiles_30 : decode cX7_wrongFiles 30 = .ok (.goto (-26), 3) := by decide +kernel
theorem dX7_wrongFiles_33 : decode cX7_wrongFiles 33 = .ok (.iload_n 1, 1) := by decide +kernel
theorem dX7_wrongFiles_34 : decode cX7_wrongFiles 34 = .ok (.ireturn, 1) := by decide +kernel
theorem dX7_told_0 : decode cX7_told 0 = .ok (.iload_n 1, 1) := by decide +kernel
theorem dX7_told_1 : decode cX7_told 1 = .ok (.tableswitch 123 0 11 #[63, 68, 73, 78, 83, 88, 93, 98, 103, 108, 113, 118], 63) := by decide +kernel
theorem dX7_told_64 : decode cX7_told 64 = .ok (.aload_n 0, 1) := by decide +kernel
theorem dX7_told_65 : decode cX7_told 65 = .ok (.invokevirtual 221, 3) := by decide +kernel
theorem dX7_told_68 : decode cX7_told 68 = .ok (.ireturn, 1) := by decide +kernel
theorem dX7_told_69 : decode cX7_told 69 = .ok (.aload_n 0, 1) := by decide +kernel
theorem dX7_told_70 : decode cX7_told 70 = .ok (.getfield 102, 3) := by decide +kernel
theorem dX7_told_73 : decode cX7_told 73 = .ok (.ireturn, 1) := by decide +kernel
theorem dX7_told_74 : decode cX7_told 74 = .ok (.aload_n 0, 1) := by decide +kernel
theorem dX7_told_75 : decode cX7_told 75 = .ok (.invokevirtual 180, 3) := by decide +kernel
theorem dX7_told_78 : decode cX7_told 78 = .ok (.ireturn, 1) := by decide +kernel
theorem dX7_told_79 : decode cX7_told 79 = .ok (.aload_n 0, 1) := by decide +kernel
theorem dX7_told_80 : decode cX7_told 80 = .ok (.invokevirtual 205, 3) := by decide +kernel
theorem dX7_told_83 : decode cX7_told 83 = .ok (.ireturn, 1) := by decide +kernel
theorem dX7_told_84 : decode cX7_told 84 = .ok (.aload_n 0, 1) := by decide +kernel
theorem dX7_told_85 : decode cX7_told 85 = .ok (.getfield 120, 3) := by decide +kernel
theorem dX7_told_88 : decode cX7_told 88 = .ok (.ireturn, 1) := by decide +kernel
theorem dX7_told_89 : decode cX7_told 89 = .ok (.aload_n 0, 1) := by decide +kernel
theorem dX7_told_90 : decode cX7_told 90 = .ok (.getfield 126, 3) := by decide +kernel
theorem dX7_told_93 : decode cX7_told 93 = .ok (.ireturn, 1) := by decide +kernel
theorem dX7_told_94 : decode cX7_told 94 = .ok (.aload_n 0, 1) := by decide +kernel
theorem dX7_told_95 : decode cX7_told 95 = .ok (.getfield 96, 3) := by decide +kernel
theorem dX7_told_98 : decode cX7_told 98 = .ok (.ireturn, 1) := by decide +kernel
theorem dX7_told_99 : decode cX7_told 99 = .ok (.aload_n 0, 1) := by decide +kernel
theorem dX7_told_100 : decode cX7_told 100 = .ok (.getfield 99, 3) := by decide +kernel
theorem dX7_told_103 : decode cX7_told 103 = .ok (.ireturn, 1) := by decide +kernel
theorem dX7_told_104 : decode cX7_told 104 = .ok (.aload_n 0, 1) := by decide +kernel
theorem dX7_told_105 : decode cX7_told 105 = .ok (.invokevirtual 224, 3) := by decide +kernel
theorem dX7_told_108 : decode cX7_told 108 = .ok (.ireturn, 1) := by decide +kernel
theorem dX7_told_109 : decode cX7_told 109 = .ok (.aload_n 0, 1) := by decide +kernel
theorem dX7_told_110 : decode cX7_told 110 = .ok (.getfield 186, 3) := by decide +kernel
theorem dX7_told_113 : decode cX7_told 113 = .ok (.ireturn, 1) := by decide +kernel
theorem dX7_told_114 : decode cX7_told 114 = .ok (.aload_n 0, 1) := by decide +kernel
theorem dX7_told_115 : decode cX7_told 115 = .ok (.getfield 93, 3) := by decide +kernel
theorem dX7_told_118 : decode cX7_told 118 = .ok (.ireturn, 1) := by decide +kernel
theorem dX7_told_119 : decode cX7_told 119 = .ok (.aload_n 0, 1) := by decide +kernel
theorem dX7_told_120 : decode cX7_told 120 = .ok (.invokevirtual 227, 3) := by decide +kernel
theorem dX7_told_123 : decode cX7_told 123 = .ok (.ireturn, 1) := by decide +kernel
theorem dX7_told_124 : decode cX7_told 124 = .ok (.bipush (-2), 2) := by decide +kernel
theorem dX7_told_126 : decode cX7_told 126 = .ok (.ireturn, 1) := by decide +kernel
theorem dJ9_max_7cf53_0 : decode cJ9_max_7cf53 0 = .ok (.iload_n 0, 1) := by decide +kernel
theorem dJ9_max_7cf53_1 : decode cJ9_max_7cf53 1 = .ok (.iload_n 1, 1) := by decide +kernel
theorem dJ9_max_7cf53_2 : decode cJ9_max_7cf53 2 = .ok (.if_icmp .lt 7, 3) := by decide +kernel
theorem dJ9_max_7cf53_5 : decode cJ9_max_7cf53 5 = .ok (.iload_n 0, 1) := by decide +kernel
theorem dJ9_max_7cf53_6 : decode cJ9_max_7cf53 6 = .ok (.goto 4, 3) := by decide +kernel
theorem dJ9_max_7cf53_9 : decode cJ9_max_7cf53 9 = .ok (.iload_n 1, 1) := by decide +kernel
theorem dJ9_max_7cf53_10 : decode cJ9_max_7cf53 10 = .ok (.ireturn, 1) := by decide +kernel
theorem dJ9_min_7cf53_0 : decode cJ9_min_7cf53 0 = .ok (.iload_n 0, 1) := by decide +kernel
theorem dJ9_min_7cf53_1 : decode cJ9_min_7cf53 1 = .ok (.iload_n 1, 1) := by decide +kernel
theorem dJ9_min_7cf53_2 : decode cJ9_min_7cf53 2 = .ok (.if_icmp .gt 7, 3) := by decide +kernel
theorem dJ9_min_7cf53_5 : decode cJ9_min_7cf53 5 = .ok (.iload_n 0, 1) := by decide +kernel
theorem dJ9_min_7cf53_6 : decode cJ9_min_7cf53 6 = .ok (.goto 4, 3) := by decide +kernel
theorem dJ9_min_7cf53_9 : decode cJ9_min_7cf53 9 = .ok (.iload_n 1, 1) := by decide +kernel
theorem dJ9_min_7cf53_10 : decode cJ9_min_7cf53 10 = .ok (.ireturn, 1) := by decide +kernel
theorem dJ7_fill_53178_0 : decode cJ7_fill_53178 0 = .ok (.iconst 0, 1) := by decide +kernel
theorem dJ7_fill_53178_1 : decode cJ7_fill_53178 1 = .ok (.istore_n 2, 1) := by decide +kernel
theorem dJ7_fill_53178_2 : decode cJ7_fill_53178 2 = .ok (.aload_n 0, 1) := by decide +kernel
theorem dJ7_fill_53178_3 : decode cJ7_fill_53178 3 = .ok (.arraylength, 1) := by decide +kernel
theorem dJ7_fill_53178_4 : decode cJ7_fill_53178 4 = .ok (.istore_n 3, 1) := by decide +kernel
theorem dJ7_fill_53178_5 : decode cJ7_fill_53178 5 = .ok (.iload_n 2, 1) := by decide +kernel
theorem dJ7_fill_53178_6 : decode cJ7_fill_53178 6 = .ok (.iload_n 3, 1) := by decide +kernel
theorem dJ7_fill_53178_7 : decode cJ7_fill_53178 7 = .ok (.if_icmp .ge 13, 3) := by decide +kernel
theorem dJ7_fill_53178_10 : decode cJ7_fill_53178 10 = .ok (.aload_n 0, 1) := by decide +kernel
theorem dJ7_fill_53178_11 : decode cJ7_fill_53178 11 = .ok (.iload_n 2, 1) := by decide +kernel
theorem dJ7_fill_53178_12 : decode cJ7_fill_53178 12 = .ok (.iload_n 1, 1) := by decide +kernel
theorem dJ7_fill_53178_13 : decode cJ7_fill_53178 13 = .ok (.iastore, 1) := by decide +kernel
theorem dJ7_fill_53178_14 : decode cJ7_fill_53178 14 = .ok (.iinc 2 1, 3) := by decide +kernel
theorem dJ7_fill_53178_17 : decode cJ7_fill_53178 17 = .ok (.goto (-12), 3) := by decide +kernel
theorem dJ7_fill_53178_20 : decode cJ7_fill_53178 20 = .ok (.return_, 1) := by decide +kernel
theorem dL_cell_0 : decode cL_cell 0 = .ok (.iload_n 1, 1) := by decide +kernel
theorem dL_cell_1 : decode cL_cell 1 = .ok (.aload_n 0, 1) := by decide +kernel
theorem dL_cell_2 : decode cL_cell 2 = .ok (.arraylength, 1) := by decide +kernel
theorem dL_cell_3 : decode cL_cell 3 = .ok (.if_icmp .ge 9, 3) := by decide +kernel
theorem dL_cell_6 : decode cL_cell 6 = .ok (.aload_n 0, 1) := by decide +kernel
theorem dL_cell_7 : decode cL_cell 7 = .ok (.iload_n 1, 1) := by decide +kernel
theorem dL_cell_8 : decode cL_cell 8 = .ok (.iaload, 1) := by decide +kernel
theorem dL_cell_9 : decode cL_cell 9 = .ok (.goto 4, 3) := by decide +kernel
theorem dL_cell_12 : decode cL_cell 12 = .ok (.iconst 0, 1) := by decide +kernel
theorem dL_cell_13 : decode cL_cell 13 = .ok (.ireturn, 1) := by decide +kernel
theorem dL_law_0 : decode cL_law 0 = .ok (.new 7, 3) := by decide +kernel
theorem dL_law_3 : decode cL_law 3 = .ok (.dup, 1) := by decide +kernel
theorem dL_law_4 : decode cL_law 4 = .ok (.aload_n 0, 1) := by decide +kernel
theorem dL_law_5 : decode cL_law 5 = .ok (.iconst 0, 1) := by decide +kernel
theorem dL_law_6 : decode cL_law 6 = .ok (.invokestatic 9, 3) := by decide +kernel
theorem dL_law_9 : decode cL_law 9 = .ok (.aload_n 0, 1) := by decide +kernel
theorem dL_law_10 : decode cL_law 10 = .ok (.iconst 1, 1) := by decide +kernel
theorem dL_law_11 : decode cL_law 11 = .ok (.invokestatic 9, 3) := by decide +kernel
theorem dL_law_14 : decode cL_law 14 = .ok (.invokespecial 15, 3) := by decide +kernel
theorem dL_law_17 : decode cL_law 17 = .ok (.astore_n 1, 1) := by decide +kernel
theorem dL_law_18 : decode cL_law 18 = .ok (.new 18, 3) := by decide +kernel
theorem dL_law_21 : decode cL_law 21 = .ok (.dup, 1) := by decide +kernel
theorem dL_law_22 : decode cL_law 22 = .ok (.aload_n 0, 1) := by decide +kernel
theorem dL_law_23 : decode cL_law 23 = .ok (.iconst 0, 1) := by decide +kernel
theorem dL_law_24 : decode cL_law 24 = .ok (.invokestatic 9, 3) := by decide +kernel
theorem dL_law_27 : decode cL_law 27 = .ok (.aload_n 0, 1) := by decide +kernel
theorem dL_law_28 : decode cL_law 28 = .ok (.iconst 1, 1) := by decide +kernel
theorem dL_law_29 : decode cL_law 29 = .ok (.invokestatic 9, 3) := by decide +kernel
theorem dL_law_32 : decode cL_law 32 = .ok (.invokespecial 20, 3) := by decide +kernel
theorem dL_law_35 : decode cL_law 35 = .ok (.astore_n 2, 1) := by decide +kernel
theorem dL_law_36 : decode cL_law 36 = .ok (.iconst 2, 1) := by decide +kernel
theorem dL_law_37 : decode cL_law 37 = .ok (.istore_n 3, 1) := by decide +kernel
theorem dL_law_38 : decode cL_law 38 = .ok (.iload_n 3, 1) := by decide +kernel
theorem dL_law_39 : decode cL_law 39 = .ok (.aload_n 0, 1) := by decide +kernel
theorem dL_law_40 : decode cL_law 40 = .ok (.arraylength, 1) := by decide +kernel
theorem dL_law_41 : decode cL_law 41 = .ok (.bipush 6, 2) := by decide +kernel
theorem dL_law_43 : decode cL_law 43 = .ok (.isub, 1) := by decide +kernel
theorem dL_law_44 : decode cL_law 44 = .ok (.if_icmp .gt 865, 3) := by decide +kernel
theorem dL_law_47 : decode cL_law 47 = .ok (.aload_n 0, 1) := by decide +kernel
theorem dL_law_48 : decode cL_law 48 = .ok (.iload_n 3, 1) := by decide +kernel
theorem dL_law_49 : decode cL_law 49 = .ok (.iaload, 1) := by decide +kernel
theorem dL_law_50 : decode cL_law 50 = .ok (.bipush 31, 2) := by decide +kernel
theorem dL_law_52 : decode cL_law 52 = .ok (.iand, 1) := by decide +kernel
theorem dL_law_53 : decode cL_law 53 = .ok (.tableswitch 850 0 20 #[99, 142, 165, 248, 301, 334, 377, 400, 413, 436, 449, 462, 511, 570, 593, 636, 679, 712, 761, 794, 827], 99) := by decide +kernel
theorem dL_law_152 : decode cL_law 152 = .ok (.aload_n 1, 1) := by decide +kernel
theorem dL_law_153 : decode cL_law 153 = .ok (.aload_n 0, 1) := by decide +kernel
theorem dL_law_154 : decode cL_law 154 = .ok (.iload_n 3, 1) := by decide +kernel
theorem dL_law_155 : decode cL_law 155 = .ok (.iconst 1, 1) := by decide +kernel
theorem dL_law_156 : decode cL_law 156 = .ok (.iadd, 1) := by decide +kernel
theorem dL_law_157 : decode cL_law 157 = .ok (.iaload, 1) := by decide +kernel
theorem dL_law_158 : decode cL_law 158 = .ok (.aload_n 0, 1) := by decide +kernel
theorem dL_law_159 : decode cL_law 159 = .ok (.iload_n 3, 1) := by decide +kernel
theorem dL_law_160 : decode cL_law 160 = .ok (.iconst 2, 1) := by decide +kernel
theorem dL_law_161 : decode cL_law 161 = .ok (.iadd, 1) := by decide +kernel
theorem dL_law_162 : decode cL_law 162 = .ok (.iaload, 1) := by decide +kernel
theorem dL_law_163 : decode cL_law 163 = .ok (.aload_n 0, 1) := by decide +kernel
theorem dL_law_164 : decode cL_law 164 = .ok (.iload_n 3, 1) := by decide +kernel
theorem dL_law_165 : decode cL_law 165 = .ok (.iconst 3, 1) := by decide +kernel
theorem dL_law_166 : decode cL_law 166 = .ok (.iadd, 1) := by decide +kernel
theorem dL_law_167 : decode cL_law 167 = .ok (.iaload, 1) := by decide +kernel
theorem dL_law_168 : decode cL_law 168 = .ok (.invokevirtual 21, 3) := by decide +kernel
theorem dL_law_171 : decode cL_law 171 = .ok (.aload_n 2, 1) := by decide +kernel
theorem dL_law_172 : decode cL_law 172 = .ok (.aload_n 0, 1) := by decide +kernel
theorem dL_law_173 : decode cL_law 173 = .ok (.iload_n 3, 1) := by decide +kernel
theorem dL_law_174 : decode cL_law 174 = .ok (.iconst 1, 1) := by decide +kernel
theorem dL_law_175 : decode cL_law 175 = .ok (.iadd, 1) := by decide +kernel
theorem dL_law_176 : decode cL_law 176 = .ok (.iaload, 1) := by decide +kernel
theorem dL_law_177 : decode cL_law 177 = .ok (.aload_n 0, 1) := by decide +kernel
theorem dL_law_178 : decode cL_law 178 = .ok (.iload_n 3, 1) := by decide +kernel
theorem dL_law_179 : decode cL_law 179 = .ok (.iconst 2, 1) := by decide +kernel
theorem dL_law_180 : decode cL_law 180 = .ok (.iadd, 1) := by decide +kernel
theorem dL_law_181 : decode cL_law 181 = .ok (.iaload, 1) := by decide +kernel
theorem dL_law_182 : decode cL_law 182 = .ok (.aload_n 0, 1) := by decide +kernel
theorem dL_law_183 : decode cL_law 183 = .ok (.iload_n 3, 1) := by decide +kernel
theorem dL_law_184 : decode cL_law 184 = .ok (.iconst 3, 1) := by decide +kernel
theorem dL_law_185 : decode cL_law 185 = .ok (.iadd, 1) := by decide +kernel
theorem dL_law_186 : decode cL_law 186 = .ok (.iaload, 1) := by decide +kernel
theorem dL_law_187 : decode cL_law 187 = .ok (.invokevirtual 25, 3) := by decide +kernel
theorem dL_law_190 : decode cL_law 190 = .ok (.if_icmp .eq 713, 3) := by decide +kernel
theorem dL_law_193 : decode cL_law 193 = .ok (.iconst 0, 1) := by decide +kernel
theorem dL_law_194 : decode cL_law 194 = .ok (.ireturn, 1) := by decide +kernel
theorem dL_law_195 : decode cL_law 195 = .ok (.aload_n 1, 1) := by decide +kernel
theorem dL_law_196 : decode cL_law 196 = .ok (.aload_n 0, 1) := by decide +kernel
theorem dL_law_197 : decode cL_law 197 = .ok (.iload_n 3, 1) := by decide +kernel
theorem dL_law_198 : decode cL_law 198 = .ok (.iconst 1, 1) := by decide +kernel
theorem dL_law_199 : decode cL_law 199 = .ok (.iadd, 1) := by decide +kernel
theorem dL_law_200 : decode cL_law 200 = .ok (.iaload, 1) := by decide +kernel
theorem dL_law_201 : decode cL_law 201 = .ok (.invokevirtual 26, 3) := by decide +kernel
theorem dL_law_204 : decode cL_law 204 = .ok (.aload_n 2, 1) := by decide +kernel
theorem dL_law_205 : decode cL_law 205 = .ok (.aload_n 0, 1) := by decide +kernel
theorem dL_law_206 : decode cL_law 206 = .ok (.iload_n 3, 1) := by decide +kernel
theorem dL_law_207 : decode cL_law 207 = .ok (.iconst 1, 1) := by decide +kernel
theorem dL_law_208 : decode cL_law 208 = .ok (.iadd, 1) := by decide +kernel
theorem dL_law_209 : decode cL_law 209 = .ok (.iaload, 1) := by decide +kernel
theorem dL_law_210 : decode cL_law 210 = .ok (.invokevirtual 30, 3) := by decide +kernel
theorem dL_law_213 : decode cL_law 213 = .ok (.if_icmp .eq 690, 3) := by decide +kernel
theorem dL_law_216 : decode cL_law 216 = .ok (.iconst 0, 1) := by decide +kernel
theorem dL_law_217 : decode cL_law 217 = .ok (.ireturn, 1) := by decide +kernel
theorem dL_law_218 : decode cL_law 218 = .ok (.aload_n 1, 1) := by decide +kernel
theorem dL_law_219 : decode cL_law 219 = .ok (.aload_n 0, 1) := by decide +kernel
theorem dL_law_220 : decode cL_law 220 = .ok (.iload_n 3, 1) := by decide +kernel
theorem dL_law_221 : decode cL_law 221 = .ok (.iconst 1, 1) := by decide +kernel
theorem dL_law_222 : decode cL_law 222 = .ok (.iadd, 1) := by decide +kernel
theorem dL_law_223 : decode cL_law 223 = .ok (.iaload, 1) := by decide +kernel
theorem dL_law_224 : decode cL_law 224 = .ok (.aload_n 0, 1) := by decide +kernel
theorem dL_law_225 : decode cL_law 225 = .ok (.iload_n 3, 1) := by decide +kernel
theorem dL_law_226 : decode cL_law 226 = .ok (.iconst 2, 1) := by decide +kernel
theorem dL_law_227 : decode cL_law 227 = .ok (.iadd, 1) := by decide +kernel
theorem dL_law_228 : decode cL_law 228 = .ok (.iaload, 1) := by decide +kernel
theorem dL_law_229 : decode cL_law 229 = .ok (.aload_n 0, 1) := by decide +kernel
theorem dL_law_230 : decode cL_law 230 = .ok (.iload_n 3, 1) := by decide +kernel
theorem dL_law_231 : decode cL_law 231 = .ok (.iconst 3, 1) := by decide +kernel
theorem dL_law_232 : decode cL_law 232 = .ok (.iadd, 1) := by decide +kernel
theorem dL_law_233 : decode cL_law 233 = .ok (.iaload, 1) := by decide +kernel
theorem dL_law_234 : decode cL_law 234 = .ok (.i2l, 1) := by decide +kernel
theorem dL_law_235 : decode cL_law 235 = .ok (.bipush 32, 2) := by decide +kernel
theorem dL_law_237 : decode cL_law 237 = .ok (.lshl, 1) := by decide +kernel
theorem dL_law_238 : decode cL_law 238 = .ok (.aload_n 0, 1) := by decide +kernel
theorem dL_law_239 : decode cL_law 239 = .ok (.iload_n 3, 1) := by decide +kernel
theorem dL_law_240 : decode cL_law 240 = .ok (.iconst 4, 1) := by decide +kernel
theorem dL_law_241 : decode cL_law 241 = .ok (.iadd, 1) := by decide +kernel
theorem dL_law_242 : decode cL_law 242 = .ok (.iaload, 1) := by decide +kernel
theorem dL_law_243 : decode cL_law 243 = .ok (.i2l, 1) := by decide +kernel
theorem dL_law_244 : decode cL_law 244 = .ok (.ldc2_w 31, 3) := by decide +kernel
theorem dL_law_247 : decode cL_law 247 = .ok (.land, 1) := by decide +kernel
theorem dL_law_248 : decode cL_law 248 = .ok (.lor, 1) := by decide +kernel
theorem dL_law_249 : decode cL_law 249 = .ok (.aload_n 0, 1) := by decide +kernel
theorem dL_law_250 : decode cL_law 250 = .ok (.iload_n 3, 1) := by decide +kernel
theorem dL_law_251 : decode cL_law 251 = .ok (.iconst 5, 1) := by decide +kernel
theorem dL_law_252 : decode cL_law 252 = .ok (.iadd, 1) := by decide +kernel
theorem dL_law_253 : decode cL_law 253 = .ok (.iaload, 1) := by decide +kernel
theorem dL_law_254 : decode cL_law 254 = .ok (.invokevirtual 33, 3) := by decide +kernel
theorem dL_law_257 : decode cL_law 257 = .ok (.aload_n 2, 1) := by decide +kernel
theorem dL_law_258 : decode cL_law 258 = .ok (.aload_n 0, 1) := by decide +kernel
theorem dL_law_259 : decode cL_law 259 = .ok (.iload_n 3, 1) := by decide +kernel
theorem dL_law_260 : decode cL_law 260 = .ok (.iconst 1, 1) := by decide +kernel
theorem dL_law_261 : decode cL_law 261 = .ok (.iadd, 1) := by decide +kernel
theorem dL_law_262 : decode cL_law 262 = .ok (.iaload, 1) := by decide +kernel
theorem dL_law_263 : decode cL_law 263 = .ok (.aload_n 0, 1) := by decide +kernel
theorem dL_law_264 : decode cL_law 264 = .ok (.iload_n 3, 1) := by decide +kernel
theorem dL_law_265 : decode cL_law 265 = .ok (.iconst 2, 1) := by decide +kernel
theorem dL_law_266 : decode cL_law 266 = .ok (.iadd, 1) := by decide +kernel
theorem dL_law_267 : decode cL_law 267 = .ok (.iaload, 1) := by decide +kernel
theorem dL_law_268 : decode cL_law 268 = .ok (.aload_n 0, 1) := by decide +kernel
theorem dL_law_269 : decode cL_law 269 = .ok (.iload_n 3, 1) := by decide +kernel
theorem dL_law_270 : decode cL_law 270 = .ok (.iconst 3, 1) := by decide +kernel
theorem dL_law_271 : decode cL_law 271 = .ok (.iadd, 1) := by decide +kernel
theorem dL_law_272 : decode cL_law 272 = .ok (.iaload, 1) := by decide +kernel
theorem dL_law_273 : decode cL_law 273 = .ok (.i2l, 1) := by decide +kernel
theorem dL_law_274 : decode cL_law 274 = .ok (.bipush 32, 2) := by decide +kernel
theorem dL_law_276 : decode cL_law 276 = .ok (.lshl, 1) := by decide +kernel
theorem dL_law_277 : decode cL_law 277 = .ok (.aload_n 0, 1) := by decide +kernel
theorem dL_law_278 : decode cL_law 278 = .ok (.iload_n 3, 1) := by decide +kernel
theorem dL_law_279 : decode cL_law 279 = .ok (.iconst 4, 1) := by decide +kernel
theorem dL_law_280 : decode cL_law 280 = .ok (.iadd, 1) := by decide +kernel
theorem dL_law_281 : decode cL_law 281 = .ok (.iaload, 1) := by decide +kernel
theorem dL_law_282 : decode cL_law 282 = .ok (.i2l, 1) := by decide +kernel
theorem dL_law_283 : decode cL_law 283 = .ok (.ldc2_w 31, 3) := by decide +kernel
theorem dL_law_286 : decode cL_law 286 = .ok (.land, 1) := by decide +kernel
theorem dL_law_287 : decode cL_law 287 = .ok (.lor, 1) := by decide +kernel
theorem dL_law_288 : decode cL_law 288 = .ok (.aload_n 0, 1) := by decide +kernel
theorem dL_law_289 : decode cL_law 289 = .ok (.iload_n 3, 1) := by decide +kernel
theorem dL_law_290 : decode cL_law 290 = .ok (.iconst 5, 1) := by decide +kernel
theorem dL_law_291 : decode cL_law 291 = .ok (.iadd, 1) := by decide +kernel
theorem dL_law_292 : decode cL_law 292 = .ok (.iaload, 1) := by decide +kernel
theorem dL_law_293 : decode cL_law 293 = .ok (.invokevirtual 37, 3) := by decide +kernel
theorem dL_law_296 : decode cL_law 296 = .ok (.if_icmp .eq 607, 3) := by decide +kernel
theorem dL_law_299 : decode cL_law 299 = .ok (.iconst 0, 1) := by decide +kernel
theorem dL_law_300 : decode cL_law 300 = .ok (.ireturn, 1) := by decide +kernel
theorem dL_law_301 : decode cL_law 301 = .ok (.aload_n 1, 1) := by decide +kernel
theorem dL_law_302 : decode cL_law 302 = .ok (.aload_n 0, 1) := by decide +kernel
theorem dL_law_303 : decode cL_law 303 = .ok (.iload_n 3, 1) := by decide +kernel
theorem dL_law_304 : decode cL_law 304 = .ok (.iconst 1, 1) := by decide +kernel
theorem dL_law_305 : decode cL_law 305 = .ok (.iadd, 1) := by decide +kernel
theorem dL_law_306 : decode cL_law 306 = .ok (.iaload, 1) := by decide +kernel
theorem dL_law_307 : decode cL_law 307 = .ok (.aload_n 0, 1) := by decide +kernel
theorem dL_law_308 : decode cL_law 308 = .ok (.iload_n 3, 1) := by decide +kernel
theorem dL_law_309 : decode cL_law 309 = .ok (.iconst 2, 1) := by decide +kernel
theorem dL_law_310 : decode cL_law 310 = .ok (.iadd, 1) := by decide +kernel
theorem dL_law_311 : decode cL_law 311 = .ok (.iaload, 1) := by decide +kernel
theorem dL_law_312 : decode cL_law 312 = .ok (.aload_n 0, 1) := by decide +kernel
theorem dL_law_313 : decode cL_law 313 = .ok (.iload_n 3, 1) := by decide +kernel
theorem dL_law_314 : decode cL_law 314 = .ok (.iconst 3, 1) := by decide +kernel
theorem dL_law_315 : decode cL_law 315 = .ok (.iadd, 1) := by decide +kernel
theorem dL_law_316 : decode cL_law 316 = .ok (.iaload, 1) := by decide +kernel
theorem dL_law_317 : decode cL_law 317 = .ok (.aload_n 0, 1) := by decide +kernel
theorem dL_law_318 : decode cL_law 318 = .ok (.iload_n 3, 1) := by decide +kernel
theorem dL_law_319 : decode cL_law 319 = .ok (.iconst 4, 1) := by decide +kernel
theorem dL_law_320 : decode cL_law 320 = .ok (.iadd, 1) := by decide +kernel
theorem dL_law_321 : decode cL_law 321 = .ok (.iaload, 1) := by decide +kernel
theorem dL_law_322 : decode cL_law 322 = .ok (.invokevirtual 38, 3) := by decide +kernel
theorem dL_law_325 : decode cL_law 325 = .ok (.aload_n 2, 1) := by decide +kernel
theorem dL_law_326 : decode cL_law 326 = .ok (.aload_n 0, 1) := by decide +kernel
theorem dL_law_327 : decode cL_law 327 = .ok (.iload_n 3, 1) := by decide +kernel
theorem dL_law_328 : decode cL_law 328 = .ok (.iconst 1, 1) := by decide +kernel
theorem dL_law_329 : decode cL_law 329 = .ok (.iadd, 1) := by decide +kernel
theorem dL_law_330 : decode cL_law 330 = .ok (.iaload, 1) := by decide +kernel
theorem dL_law_331 : decode cL_law 331 = .ok (.aload_n 0, 1) := by decide +kernel
theorem dL_law_332 : decode cL_law 332 = .ok (.iload_n 3, 1) := by decide +kernel
theorem dL_law_333 : decode cL_law 333 = .ok (.iconst 2, 1) := by decide +kernel
theorem dL_law_334 : decode cL_law 334 = .ok (.iadd, 1) := by decide +kernel
theorem dL_law_335 : decode cL_law 335 = .ok (.iaload, 1) := by decide +kernel
theorem dL_law_336 : decode cL_law 336 = .ok (.aload_n 0, 1) := by decide +kernel
theorem dL_law_337 : decode cL_law 337 = .ok (.iload_n 3, 1) := by decide +kernel
theorem dL_law_338 : decode cL_law 338 = .ok (.iconst 3, 1) := by decide +kernel
theorem dL_law_339 : decode cL_law 339 = .ok (.iadd, 1) := by decide +kernel
theorem dL_law_340 : decode cL_law 340 = .ok (.iaload, 1) := by decide +kernel
theorem dL_law_341 : decode cL_law 341 = .ok (.aload_n 0, 1) := by decide +kernel
theorem dL_law_342 : decode cL_law 342 = .ok (.iload_n 3, 1) := by decide +kernel
theorem dL_law_343 : decode cL_law 343 = .ok (.iconst 4, 1) := by decide +kernel
theorem dL_law_344 : decode cL_law 344 = .ok (.iadd, 1) := by decide +kernel
theorem dL_law_345 : decode cL_law 345 = .ok (.iaload, 1) := by decide +kernel
theorem dL_law_346 : decode cL_law 346 = .ok (.invokevirtual 42, 3) := by decide +kernel
theorem dL_law_349 : decode cL_law 349 = .ok (.if_icmp .eq 554, 3) := by decide +kernel
theorem dL_law_352 : decode cL_law 352 = .ok (.iconst 0, 1) := by decide +kernel
theorem dL_law_353 : decode cL_law 353 = .ok (.ireturn, 1) := by decide +kernel
theorem dL_law_354 : decode cL_law 354 = .ok (.aload_n 1, 1) := by decide +kernel
theorem dL_law_355 : decode cL_law 355 = .ok (.aload_n 0, 1) := by decide +kernel
theorem dL_law_356 : decode cL_law 356 = .ok (.iload_n 3, 1) := by decide +kernel
theorem dL_law_357 : decode cL_law 357 = .ok (.iconst 1, 1) := by decide +kernel
theorem dL_law_358 : decode cL_law 358 = .ok (.iadd, 1) := by decide +kernel
theorem dL_law_359 : decode cL_law 359 = .ok (.iaload, 1) := by decide +kernel
theorem dL_law_360 : decode cL_law 360 = .ok (.aload_n 0, 1) := by decide +kernel
theorem dL_law_361 : decode cL_law 361 = .ok (.iload_n 3, 1) := by decide +kernel
theorem dL_law_362 : decode cL_law 362 = .ok (.iconst 2, 1) := by decide +kernel
theorem dL_law_363 : decode cL_law 363 = .ok (.iadd, 1) := by decide +kernel
theorem dL_law_364 : decode cL_law 364 = .ok (.iaload, 1) := by decide +kernel
theorem dL_law_365 : decode cL_law 365 = .ok (.invokevirtual 43, 3) := by decide +kernel
theorem dL_law_368 : decode cL_law 368 = .ok (.aload_n 2, 1) := by decide +kernel
theorem dL_law_369 : decode cL_law 369 = .ok (.aload_n 0, 1) := by decide +kernel
theorem dL_law_370 : decode cL_law 370 = .ok (.iload_n 3, 1) := by decide +kernel
theorem dL_law_371 : decode cL_law 371 = .ok (.iconst 1, 1) := by decide +kernel
theorem dL_law_372 : decode cL_law 372 = .ok (.iadd, 1) := by decide +kernel
theorem dL_law_373 : decode cL_law 373 = .ok (.iaload, 1) := by decide +kernel
theorem dL_law_374 : decode cL_law 374 = .ok (.aload_n 0, 1) := by decide +kernel
theorem dL_law_375 : decode cL_law 375 = .ok (.iload_n 3, 1) := by decide +kernel
theorem dL_law_376 : decode cL_law 376 = .ok (.iconst 2, 1) := by decide +kernel
theorem dL_law_377 : decode cL_law 377 = .ok (.iadd, 1) := by decide +kernel
theorem dL_law_378 : decode cL_law 378 = .ok (.iaload, 1) := by decide +kernel
theorem dL_law_379 : decode cL_law 379 = .ok (.invokevirtual 47, 3) := by decide +kernel
theorem dL_law_382 : decode cL_law 382 = .ok (.if_icmp .eq 521, 3) := by decide +kernel
theorem dL_law_385 : decode cL_law 385 = .ok (.iconst 0, 1) := by decide +kernel
theorem dL_law_386 : decode cL_law 386 = .ok (.ireturn, 1) := by decide +kernel
theorem dL_law_387 : decode cL_law 387 = .ok (.aload_n 1, 1) := by decide +kernel
theorem dL_law_388 : decode cL_law 388 = .ok (.aload_n 0, 1) := by decide +kernel
theorem dL_law_389 : decode cL_law 389 = .ok (.iload_n 3, 1) := by decide +kernel
theorem dL_law_390 : decode cL_law 390 = .ok (.iconst 1, 1) := by decide +kernel
theorem dL_law_391 : decode cL_law 391 = .ok (.iadd, 1) := by decide +kernel
theorem dL_law_392 : decode cL_law 392 = .ok (.iaload, 1) := by decide +kernel
theorem dL_law_393 : decode cL_law 393 = .ok (.aload_n 0, 1) := by decide +kernel
theorem dL_law_394 : decode cL_law 394 = .ok (.iload_n 3, 1) := by decide +kernel
theorem dL_law_395 : decode cL_law 395 = .ok (.iconst 2, 1) := by decide +kernel
theorem dL_law_396 : decode cL_law 396 = .ok (.iadd, 1) := by decide +kernel
theorem dL_law_397 : decode cL_law 397 = .ok (.iaload, 1) := by decide +kernel
theorem dL_law_398 : decode cL_law 398 = .ok (.aload_n 0, 1) := by decide +kernel
theorem dL_law_399 : decode cL_law 399 = .ok (.iload_n 3, 1) := by decide +kernel
theorem dL_law_400 : decode cL_law 400 = .ok (.iconst 3, 1) := by decide +kernel
theorem dL_law_401 : decode cL_law 401 = .ok (.iadd, 1) := by decide +kernel
theorem dL_law_402 : decode cL_law 402 = .ok (.iaload, 1) := by decide +kernel
theorem dL_law_403 : decode cL_law 403 = .ok (.invokevirtual 48, 3) := by decide +kernel
theorem dL_law_406 : decode cL_law 406 = .ok (.aload_n 2, 1) := by decide +kernel
theorem dL_law_407 : decode cL_law 407 = .ok (.aload_n 0, 1) := by decide +kernel
theorem dL_law_408 : decode cL_law 408 = .ok (.iload_n 3, 1) := by decide +kernel
theorem dL_law_409 : decode cL_law 409 = .ok (.iconst 1, 1) := by decide +kernel
theorem dL_law_410 : decode cL_law 410 = .ok (.iadd, 1) := by decide +kernel
theorem dL_law_411 : decode cL_law 411 = .ok (.iaload, 1) := by decide +kernel
theorem dL_law_412 : decode cL_law 412 = .ok (.aload_n 0, 1) := by decide +kernel
theorem dL_law_413 : decode cL_law 413 = .ok (.iload_n 3, 1) := by decide +kernel
theorem dL_law_414 : decode cL_law 414 = .ok (.iconst 2, 1) := by decide +kernel
theorem dL_law_415 : decode cL_law 415 = .ok (.iadd, 1) := by decide +kernel
theorem dL_law_416 : decode cL_law 416 = .ok (.iaload, 1) := by decide +kernel
theorem dL_law_417 : decode cL_law 417 = .ok (.aload_n 0, 1) := by decide +kernel
theorem dL_law_418 : decode cL_law 418 = .ok (.iload_n 3, 1) := by decide +kernel
theorem dL_law_419 : decode cL_law 419 = .ok (.iconst 3, 1) := by decide +kernel
theorem dL_law_420 : decode cL_law 420 = .ok (.iadd, 1) := by decide +kernel
theorem dL_law_421 : decode cL_law 421 = .ok (.iaload, 1) := by decide +kernel
theorem dL_law_422 : decode cL_law 422 = .ok (.invokevirtual 51, 3) := by decide +kernel
theorem dL_law_425 : decode cL_law 425 = .ok (.if_icmp .eq 478, 3) := by decide +kernel
theorem dL_law_428 : decode cL_law 428 = .ok (.iconst 0, 1) := by decide +kernel
theorem dL_law_429 : decode cL_law 429 = .ok (.ireturn, 1) := by decide +kernel
theorem dL_law_430 : decode cL_law 430 = .ok (.aload_n 1, 1) := by decide +kernel
theorem dL_law_431 : decode cL_law 431 = .ok (.aload_n 0, 1) := by decide +kernel
theorem dL_law_432 : decode cL_law 432 = .ok (.iload_n 3, 1) := by decide +kernel
theorem dL_law_433 : decode cL_law 433 = .ok (.iconst 1, 1) := by decide +kernel
theorem dL_law_434 : decode cL_law 434 = .ok (.iadd, 1) := by decide +kernel
theorem dL_law_435 : decode cL_law 435 = .ok (.iaload, 1) := by decide +kernel
theorem dL_law_436 : decode cL_law 436 = .ok (.invokevirtual 52, 3) := by decide +kernel
theorem dL_law_439 : decode cL_law 439 = .ok (.aload_n 2, 1) := by decide +kernel
theorem dL_law_440 : decode cL_law 440 = .ok (.aload_n 0, 1) := by decide +kernel
theorem dL_law_441 : decode cL_law 441 = .ok (.iload_n 3, 1) := by decide +kernel
theorem dL_law_442 : decode cL_law 442 = .ok (.iconst 1, 1) := by decide +kernel
theorem dL_law_443 : decode cL_law 443 = .ok (.iadd, 1) := by decide +kernel
theorem dL_law_444 : decode cL_law 444 = .ok (.iaload, 1) := by decide +kernel
theorem dL_law_445 : decode cL_law 445 = .ok (.invokevirtual 55, 3) := by decide +kernel
theorem dL_law_448 : decode cL_law 448 = .ok (.if_icmp .eq 455, 3) := by decide +kernel
theorem dL_law_451 : decode cL_law 451 = .ok (.iconst 0, 1) := by decide +kernel
theorem dL_law_452 : decode cL_law 452 = .ok (.ireturn, 1) := by decide +kernel
theorem dL_law_453 : decode cL_law 453 = .ok (.aload_n 1, 1) := by decide +kernel
theorem dL_law_454 : decode cL_law 454 = .ok (.invokevirtual 56, 3) := by decide +kernel
theorem dL_law_457 : decode cL_law 457 = .ok (.aload_n 2, 1) := by decide +kernel
theorem dL_law_458 : decode cL_law 458 = .ok (.invokevirtual 60, 3) := by decide +kernel
theorem dL_law_461 : decode cL_law 461 = .ok (.if_icmp .eq 442, 3) := by decide +kernel
theorem dL_law_464 : decode cL_law 464 = .ok (.iconst 0, 1) := by decide +kernel
theorem dL_law_465 : decode cL_law 465 = .ok (.ireturn, 1) := by decide +kernel
theorem dL_law_466 : decode cL_law 466 = .ok (.aload_n 1, 1) := by decide +kernel
theorem dL_law_467 : decode cL_law 467 = .ok (.aload_n 0, 1) := by decide +kernel
theorem dL_law_468 : decode cL_law 468 = .ok (.iload_n 3, 1) := by decide +kernel
theorem dL_law_469 : decode cL_law 469 = .ok (.iconst 1, 1) := by decide +kernel
theorem dL_law_470 : decode cL_law 470 = .ok (.iadd, 1) := by decide +kernel
theorem dL_law_471 : decode cL_law 471 = .ok (.iaload, 1) := by decide +kernel
theorem dL_law_472 : decode cL_law 472 = .ok (.invokevirtual 61, 3) := by decide +kernel
theorem dL_law_475 : decode cL_law 475 = .ok (.aload_n 2, 1) := by decide +kernel
theorem dL_law_476 : decode cL_law 476 = .ok (.aload_n 0, 1) := by decide +kernel
theorem dL_law_477 : decode cL_law 477 = .ok (.iload_n 3, 1) := by decide +kernel
theorem dL_law_478 : decode cL_law 478 = .ok (.iconst 1, 1) := by decide +kernel
theorem dL_law_479 : decode cL_law 479 = .ok (.iadd, 1) := by decide +kernel
theorem dL_law_480 : decode cL_law 480 = .ok (.iaload, 1) := by decide +kernel
theorem dL_law_481 : decode cL_law 481 = .ok (.invokevirtual 64, 3) := by decide +kernel
theorem dL_law_484 : decode cL_law 484 = .ok (.if_icmp .eq 419, 3) := by decide +kernel
theorem dL_law_487 : decode cL_law 487 = .ok (.iconst 0, 1) := by decide +kernel
theorem dL_law_488 : decode cL_law 488 = .ok (.ireturn, 1) := by decide +kernel
theorem dL_law_489 : decode cL_law 489 = .ok (.aload_n 1, 1) := by decide +kernel
theorem dL_law_490 : decode cL_law 490 = .ok (.invokevirtual 65, 3) := by decide +kernel
theorem dL_law_493 : decode cL_law 493 = .ok (.aload_n 2, 1) := by decide +kernel
theorem dL_law_494 : decode cL_law 494 = .ok (.invokevirtual 68, 3) := by decide +kernel
theorem dL_law_497 : decode cL_law 497 = .ok (.if_icmp .eq 406, 3) := by decide +kernel
theorem dL_law_500 : decode cL_law 500 = .ok (.iconst 0, 1) := by decide +kernel
theorem dL_law_501 : decode cL_law 501 = .ok (.ireturn, 1) := by decide +kernel
theorem dL_law_502 : decode cL_law 502 = .ok (.aload_n 1, 1) := by decide +kernel
theorem dL_law_503 : decode cL_law 503 = .ok (.invokevirtual 69, 3) := by decide +kernel
theorem dL_law_506 : decode cL_law 506 = .ok (.aload_n 2, 1) := by decide +kernel
theorem dL_law_507 : decode cL_law 507 = .ok (.invokevirtual 72, 3) := by decide +kernel
theorem dL_law_510 : decode cL_law 510 = .ok (.if_icmp .eq 393, 3) := by decide +kernel
theorem dL_law_513 : decode cL_law 513 = .ok (.iconst 0, 1) := by decide +kernel
theorem dL_law_514 : decode cL_law 514 = .ok (.ireturn, 1) := by decide +kernel
theorem dL_law_515 : decode cL_law 515 = .ok (.aload_n 1, 1) := by decide +kernel
theorem dL_law_516 : decode cL_law 516 = .ok (.aload_n 0, 1) := by decide +kernel
theorem dL_law_517 : decode cL_law 517 = .ok (.iload_n 3, 1) := by decide +kernel
theorem dL_law_518 : decode cL_law 518 = .ok (.iconst 1, 1) := by decide +kernel
theorem dL_law_519 : decode cL_law 519 = .ok (.iadd, 1) := by decide +kernel
theorem dL_law_520 : decode cL_law 520 = .ok (.iaload, 1) := by decide +kernel
theorem dL_law_521 : decode cL_law 521 = .ok (.aload_n 0, 1) := by decide +kernel
theorem dL_law_522 : decode cL_law 522 = .ok (.iload_n 3, 1) := by decide +kernel
theorem dL_law_523 : decode cL_law 523 = .ok (.iconst 2, 1) := by decide +kernel
theorem dL_law_524 : decode cL_law 524 = .ok (.iadd, 1) := by decide +kernel
theorem dL_law_525 : decode cL_law 525 = .ok (.iaload, 1) := by decide +kernel
theorem dL_law_526 : decode cL_law 526 = .ok (.ifCond .eq 7, 3) := by decide +kernel
theorem dL_law_529 : decode cL_law 529 = .ok (.iconst 1, 1) := by decide +kernel
theorem dL_law_530 : decode cL_law 530 = .ok (.goto 4, 3) := by decide +kernel
theorem dL_law_533 : decode cL_law 533 = .ok (.iconst 0, 1) := by decide +kernel
theorem dL_law_534 : decode cL_law 534 = .ok (.invokevirtual 73, 3) := by decide +kernel
theorem dL_law_537 : decode cL_law 537 = .ok (.aload_n 2, 1) := by decide +kernel
theorem dL_law_538 : decode cL_law 538 = .ok (.aload_n 0, 1) := by decide +kernel
theorem dL_law_539 : decode cL_law 539 = .ok (.iload_n 3, 1) := by decide +kernel
theorem dL_law_540 : decode cL_law 540 = .ok (.iconst 1, 1) := by decide +kernel
theorem dL_law_541 : decode cL_law 541 = .ok (.iadd, 1) := by decide +kernel
theorem dL_law_542 : decode cL_law 542 = .ok (.iaload, 1) := by decide +kernel
theorem dL_law_543 : decode cL_law 543 = .ok (.aload_n 0, 1) := by decide +kernel
theorem dL_law_544 : decode cL_law 544 = .ok (.iload_n 3, 1) := by decide +kernel
theorem dL_law_545 : decode cL_law 545 = .ok (.iconst 2, 1) := by decide +kernel
theorem dL_law_546 : decode cL_law 546 = .ok (.iadd, 1) := by decide +kernel
theorem dL_law_547 : decode cL_law 547 = .ok (.iaload, 1) := by decide +kernel
theorem dL_law_548 : decode cL_law 548 = .ok (.ifCond .eq 7, 3) := by decide +kernel
theorem dL_law_551 : decode cL_law 551 = .ok (.iconst 1, 1) := by decide +kernel
theorem dL_law_552 : decode cL_law 552 = .ok (.goto 4, 3) := by decide +kernel
theorem dL_law_555 : decode cL_law 555 = .ok (.iconst 0, 1) := by decide +kernel
theorem dL_law_556 : decode cL_law 556 = .ok (.invokevirtual 77, 3) := by decide +kernel
theorem dL_law_559 : decode cL_law 559 = .ok (.if_icmp .eq 344, 3) := by decide +kernel
theorem dL_law_562 : decode cL_law 562 = .ok (.iconst 0, 1) := by decide +kernel
theorem dL_law_563 : decode cL_law 563 = .ok (.ireturn, 1) := by decide +kernel
theorem dL_law_564 : decode cL_law 564 = .ok (.aload_n 1, 1) := by decide +kernel
theorem dL_law_565 : decode cL_law 565 = .ok (.aload_n 0, 1) := by decide +kernel
theorem dL_law_566 : decode cL_law 566 = .ok (.iload_n 3, 1) := by decide +kernel
theorem dL_law_567 : decode cL_law 567 = .ok (.iconst 1, 1) := by decide +kernel
theorem dL_law_568 : decode cL_law 568 = .ok (.iadd, 1) := by decide +kernel
theorem dL_law_569 : decode cL_law 569 = .ok (.iaload, 1) := by decide +kernel
theorem dL_law_570 : decode cL_law 570 = .ok (.aload_n 0, 1) := by decide +kernel
theorem dL_law_571 : decode cL_law 571 = .ok (.iload_n 3, 1) := by decide +kernel
theorem dL_law_572 : decode cL_law 572 = .ok (.iconst 2, 1) := by decide +kernel
theorem dL_law_573 : decode cL_law 573 = .ok (.iadd, 1) := by decide +kernel
theorem dL_law_574 : decode cL_law 574 = .ok (.iaload, 1) := by decide +kernel
theorem dL_law_575 : decode cL_law 575 = .ok (.aload_n 0, 1) := by decide +kernel
theorem dL_law_576 : decode cL_law 576 = .ok (.iload_n 3, 1) := by decide +kernel
theorem dL_law_577 : decode cL_law 577 = .ok (.iconst 3, 1) := by decide +kernel
theorem dL_law_578 : decode cL_law 578 = .ok (.iadd, 1) := by decide +kernel
theorem dL_law_579 : decode cL_law 579 = .ok (.iaload, 1) := by decide +kernel
theorem dL_law_580 : decode cL_law 580 = .ok (.ifCond .eq 7, 3) := by decide +kernel
theorem dL_law_583 : decode cL_law 583 = .ok (.iconst 1, 1) := by decide +kernel
theorem dL_law_584 : decode cL_law 584 = .ok (.goto 4, 3) := by decide +kernel
theorem dL_law_587 : decode cL_law 587 = .ok (.iconst 0, 1) := by decide +kernel
theorem dL_law_588 : decode cL_law 588 = .ok (.invokevirtual 78, 3) := by decide +kernel
theorem dL_law_591 : decode cL_law 591 = .ok (.aload_n 2, 1) := by decide +kernel
theorem dL_law_592 : decode cL_law 592 = .ok (.aload_n 0, 1) := by decide +kernel
theorem dL_law_593 : decode cL_law 593 = .ok (.iload_n 3, 1) := by decide +kernel
theorem dL_law_594 : decode cL_law 594 = .ok (.iconst 1, 1) := by decide +kernel
theorem dL_law_595 : decode cL_law 595 = .ok (.iadd, 1) := by decide +kernel
theorem dL_law_596 : decode cL_law 596 = .ok (.iaload, 1) := by decide +kernel
theorem dL_law_597 : decode cL_law 597 = .ok (.aload_n 0, 1) := by decide +kernel
theorem dL_law_598 : decode cL_law 598 = .ok (.iload_n 3, 1) := by decide +kernel
theorem dL_law_599 : decode cL_law 599 = .ok (.iconst 2, 1) := by decide +kernel
theorem dL_law_600 : decode cL_law 600 = .ok (.iadd, 1) := by decide +kernel
theorem dL_law_601 : decode cL_law 601 = .ok (.iaload, 1) := by decide +kernel
theorem dL_law_602 : decode cL_law 602 = .ok (.aload_n 0, 1) := by decide +kernel
theorem dL_law_603 : decode cL_law 603 = .ok (.iload_n 3, 1) := by decide +kernel
theorem dL_law_604 : decode cL_law 604 = .ok (.iconst 3, 1) := by decide +kernel
theorem dL_law_605 : decode cL_law 605 = .ok (.iadd, 1) := by decide +kernel
theorem dL_law_606 : decode cL_law 606 = .ok (.iaload, 1) := by decide +kernel
theorem dL_law_607 : decode cL_law 607 = .ok (.ifCond .eq 7, 3) := by decide +kernel
theorem dL_law_610 : decode cL_law 610 = .ok (.iconst 1, 1) := by decide +kernel
theorem dL_law_611 : decode cL_law 611 = .ok (.goto 4, 3) := by decide +kernel
theorem dL_law_614 : decode cL_law 614 = .ok (.iconst 0, 1) := by decide +kernel
theorem dL_law_615 : decode cL_law 615 = .ok (.invokevirtual 82, 3) := by decide +kernel
theorem dL_law_618 : decode cL_law 618 = .ok (.if_icmp .eq 285, 3) := by decide +kernel
theorem dL_law_621 : decode cL_law 621 = .ok (.iconst 0, 1) := by decide +kernel
theorem dL_law_622 : decode cL_law 622 = .ok (.ireturn, 1) := by decide +kernel
theorem dL_law_623 : decode cL_law 623 = .ok (.aload_n 1, 1) := by decide +kernel
theorem dL_law_624 : decode cL_law 624 = .ok (.aload_n 0, 1) := by decide +kernel
theorem dL_law_625 : decode cL_law 625 = .ok (.iload_n 3, 1) := by decide +kernel
theorem dL_law_626 : decode cL_law 626 = .ok (.iconst 1, 1) := by decide +kernel
theorem dL_law_627 : decode cL_law 627 = .ok (.iadd, 1) := by decide +kernel
theorem dL_law_628 : decode cL_law 628 = .ok (.iaload, 1) := by decide +kernel
theorem dL_law_629 : decode cL_law 629 = .ok (.invokevirtual 83, 3) := by decide +kernel
theorem dL_law_632 : decode cL_law 632 = .ok (.aload_n 2, 1) := by decide +kernel
theorem dL_law_633 : decode cL_law 633 = .ok (.aload_n 0, 1) := by decide +kernel
theorem dL_law_634 : decode cL_law 634 = .ok (.iload_n 3, 1) := by decide +kernel
theorem dL_law_635 : decode cL_law 635 = .ok (.iconst 1, 1) := by decide +kernel
theorem dL_law_636 : decode cL_law 636 = .ok (.iadd, 1) := by decide +kernel
theorem dL_law_637 : decode cL_law 637 = .ok (.iaload, 1) := by decide +kernel
theorem dL_law_638 : decode cL_law 638 = .ok (.invokevirtual 86, 3) := by decide +kernel
theorem dL_law_641 : decode cL_law 641 = .ok (.if_icmp .eq 262, 3) := by decide +kernel
theorem dL_law_644 : decode cL_law 644 = .ok (.iconst 0, 1) := by decide +kernel
theorem dL_law_645 : decode cL_law 645 = .ok (.ireturn, 1) := by decide +kernel
theorem dL_law_646 : decode cL_law 646 = .ok (.aload_n 1, 1) := by decide +kernel
theorem dL_law_647 : decode cL_law 647 = .ok (.aload_n 0, 1) := by decide +kernel
theorem dL_law_648 : decode cL_law 648 = .ok (.iload_n 3, 1) := by decide +kernel
theorem dL_law_649 : decode cL_law 649 = .ok (.iconst 1, 1) := by decide +kernel
theorem dL_law_650 : decode cL_law 650 = .ok (.iadd, 1) := by decide +kernel
theorem dL_law_651 : decode cL_law 651 = .ok (.iaload, 1) := by decide +kernel
theorem dL_law_652 : decode cL_law 652 = .ok (.aload_n 0, 1) := by decide +kernel
theorem dL_law_653 : decode cL_law 653 = .ok (.iload_n 3, 1) := by decide +kernel
theorem dL_law_654 : decode cL_law 654 = .ok (.iconst 2, 1) := by decide +kernel
theorem dL_law_655 : decode cL_law 655 = .ok (.iadd, 1) := by decide +kernel
theorem dL_law_656 : decode cL_law 656 = .ok (.iaload, 1) := by decide +kernel
theorem dL_law_657 : decode cL_law 657 = .ok (.aload_n 0, 1) := by decide +kernel
theorem dL_law_658 : decode cL_law 658 = .ok (.iload_n 3, 1) := by decide +kernel
theorem dL_law_659 : decode cL_law 659 = .ok (.iconst 3, 1) := by decide +kernel
theorem dL_law_660 : decode cL_law 660 = .ok (.iadd, 1) := by decide +kernel
theorem dL_law_661 : decode cL_law 661 = .ok (.iaload, 1) := by decide +kernel
theorem dL_law_662 : decode cL_law 662 = .ok (.invokevirtual 87, 3) := by decide +kernel
theorem dL_law_665 : decode cL_law 665 = .ok (.aload_n 2, 1) := by decide +kernel
theorem dL_law_666 : decode cL_law 666 = .ok (.aload_n 0, 1) := by decide +kernel
theorem dL_law_667 : decode cL_law 667 = .ok (.iload_n 3, 1) := by decide +kernel
theorem dL_law_668 : decode cL_law 668 = .ok (.iconst 1, 1) := by decide +kernel
theorem dL_law_669 : decode cL_law 669 = .ok (.iadd, 1) := by decide +kernel
theorem dL_law_670 : decode cL_law 670 = .ok (.iaload, 1) := by decide +kernel
theorem dL_law_671 : decode cL_law 671 = .ok (.aload_n 0, 1) := by decide +kernel
theorem dL_law_672 : decode cL_law 672 = .ok (.iload_n 3, 1) := by decide +kernel
theorem dL_law_673 : decode cL_law 673 = .ok (.iconst 2, 1) := by decide +kernel
theorem dL_law_674 : decode cL_law 674 = .ok (.iadd, 1) := by decide +kernel
theorem dL_law_675 : decode cL_law 675 = .ok (.iaload, 1) := by decide +kernel
theorem dL_law_676 : decode cL_law 676 = .ok (.aload_n 0, 1) := by decide +kernel
theorem dL_law_677 : decode cL_law 677 = .ok (.iload_n 3, 1) := by decide +kernel
theorem dL_law_678 : decode cL_law 678 = .ok (.iconst 3, 1) := by decide +kernel
theorem dL_law_679 : decode cL_law 679 = .ok (.iadd, 1) := by decide +kernel
theorem dL_law_680 : decode cL_law 680 = .ok (.iaload, 1) := by decide +kernel
theorem dL_law_681 : decode cL_law 681 = .ok (.invokevirtual 90, 3) := by decide +kernel
theorem dL_law_684 : decode cL_law 684 = .ok (.if_icmp .eq 219, 3) := by decide +kernel
theorem dL_law_687 : decode cL_law 687 = .ok (.iconst 0, 1) := by decide +kernel
theorem dL_law_688 : decode cL_law 688 = .ok (.ireturn, 1) := by decide +kernel
theorem dL_law_689 : decode cL_law 689 = .ok (.aload_n 1, 1) := by decide +kernel
theorem dL_law_690 : decode cL_law 690 = .ok (.aload_n 0, 1) := by decide +kernel
theorem dL_law_691 : decode cL_law 691 = .ok (.iload_n 3, 1) := by decide +kernel
theorem dL_law_692 : decode cL_law 692 = .ok (.iconst 1, 1) := by decide +kernel
theorem dL_law_693 : decode cL_law 693 = .ok (.iadd, 1) := by decide +kernel
theorem dL_law_694 : decode cL_law 694 = .ok (.iaload, 1) := by decide +kernel
theorem dL_law_695 : decode cL_law 695 = .ok (.aload_n 0, 1) := by decide +kernel
theorem dL_law_696 : decode cL_law 696 = .ok (.iload_n 3, 1) := by decide +kernel
theorem dL_law_697 : decode cL_law 697 = .ok (.iconst 2, 1) := by decide +kernel
theorem dL_law_698 : decode cL_law 698 = .ok (.iadd, 1) := by decide +kernel
theorem dL_law_699 : decode cL_law 699 = .ok (.iaload, 1) := by decide +kernel
theorem dL_law_700 : decode cL_law 700 = .ok (.aload_n 0, 1) := by decide +kernel
theorem dL_law_701 : decode cL_law 701 = .ok (.iload_n 3, 1) := by decide +kernel
theorem dL_law_702 : decode cL_law 702 = .ok (.iconst 3, 1) := by decide +kernel
theorem dL_law_703 : decode cL_law 703 = .ok (.iadd, 1) := by decide +kernel
theorem dL_law_704 : decode cL_law 704 = .ok (.iaload, 1) := by decide +kernel
theorem dL_law_705 : decode cL_law 705 = .ok (.invokevirtual 91, 3) := by decide +kernel
theorem dL_law_708 : decode cL_law 708 = .ok (.aload_n 2, 1) := by decide +kernel
theorem dL_law_709 : decode cL_law 709 = .ok (.aload_n 0, 1) := by decide +kernel
theorem dL_law_710 : decode cL_law 710 = .ok (.iload_n 3, 1) := by decide +kernel
theorem dL_law_711 : decode cL_law 711 = .ok (.iconst 1, 1) := by decide +kernel
theorem dL_law_712 : decode cL_law 712 = .ok (.iadd, 1) := by decide +kernel
theorem dL_law_713 : decode cL_law 713 = .ok (.iaload, 1) := by decide +kernel
theorem dL_law_714 : decode cL_law 714 = .ok (.aload_n 0, 1) := by decide +kernel
theorem dL_law_715 : decode cL_law 715 = .ok (.iload_n 3, 1) := by decide +kernel
theorem dL_law_716 : decode cL_law 716 = .ok (.iconst 2, 1) := by decide +kernel
theorem dL_law_717 : decode cL_law 717 = .ok (.iadd, 1) := by decide +kernel
theorem dL_law_718 : decode cL_law 718 = .ok (.iaload, 1) := by decide +kernel
theorem dL_law_719 : decode cL_law 719 = .ok (.aload_n 0, 1) := by decide +kernel
theorem dL_law_720 : decode cL_law 720 = .ok (.iload_n 3, 1) := by decide +kernel
theorem dL_law_721 : decode cL_law 721 = .ok (.iconst 3, 1) := by decide +kernel
theorem dL_law_722 : decode cL_law 722 = .ok (.iadd, 1) := by decide +kernel
theorem dL_law_723 : decode cL_law 723 = .ok (.iaload, 1) := by decide +kernel
theorem dL_law_724 : decode cL_law 724 = .ok (.invokevirtual 94, 3) := by decide +kernel
theorem dL_law_727 : decode cL_law 727 = .ok (.if_icmp .eq 176, 3) := by decide +kernel
theorem dL_law_730 : decode cL_law 730 = .ok (.iconst 0, 1) := by decide +kernel
theorem dL_law_731 : decode cL_law 731 = .ok (.ireturn, 1) := by decide +kernel
theorem dL_law_732 : decode cL_law 732 = .ok (.aload_n 1, 1) := by decide +kernel
theorem dL_law_733 : decode cL_law 733 = .ok (.aload_n 0, 1) := by decide +kernel
theorem dL_law_734 : decode cL_law 734 = .ok (.iload_n 3, 1) := by decide +kernel
theorem dL_law_735 : decode cL_law 735 = .ok (.iconst 1, 1) := by decide +kernel
theorem dL_law_736 : decode cL_law 736 = .ok (.iadd, 1) := by decide +kernel
theorem dL_law_737 : decode cL_law 737 = .ok (.iaload, 1) := by decide +kernel
theorem dL_law_738 : decode cL_law 738 = .ok (.aload_n 0, 1) := by decide +kernel
theorem dL_law_739 : decode cL_law 739 = .ok (.iload_n 3, 1) := by decide +kernel
theorem dL_law_740 : decode cL_law 740 = .ok (.iconst 2, 1) := by decide +kernel
theorem dL_law_741 : decode cL_law 741 = .ok (.iadd, 1) := by decide +kernel
theorem dL_law_742 : decode cL_law 742 = .ok (.iaload, 1) := by decide +kernel
theorem dL_law_743 : decode cL_law 743 = .ok (.invokevirtual 95, 3) := by decide +kernel
theorem dL_law_746 : decode cL_law 746 = .ok (.aload_n 2, 1) := by decide +kernel
theorem dL_law_747 : decode cL_law 747 = .ok (.aload_n 0, 1) := by decide +kernel
theorem dL_law_748 : decode cL_law 748 = .ok (.iload_n 3, 1) := by decide +kernel
theorem dL_law_749 : decode cL_law 749 = .ok (.iconst 1, 1) := by decide +kernel
theorem dL_law_750 : decode cL_law 750 = .ok (.iadd, 1) := by decide +kernel
theorem dL_law_751 : decode cL_law 751 = .ok (.iaload, 1) := by decide +kernel
theorem dL_law_752 : decode cL_law 752 = .ok (.aload_n 0, 1) := by decide +kernel
theorem dL_law_753 : decode cL_law 753 = .ok (.iload_n 3, 1) := by decide +kernel
theorem dL_law_754 : decode cL_law 754 = .ok (.iconst 2, 1) := by decide +kernel
theorem dL_law_755 : decode cL_law 755 = .ok (.iadd, 1) := by decide +kernel
theorem dL_law_756 : decode cL_law 756 = .ok (.iaload, 1) := by decide +kernel
theorem dL_law_757 : decode cL_law 757 = .ok (.invokevirtual 98, 3) := by decide +kernel
theorem dL_law_760 : decode cL_law 760 = .ok (.if_icmp .eq 143, 3) := by decide +kernel
theorem dL_law_763 : decode cL_law 763 = .ok (.iconst 0, 1) := by decide +kernel
theorem dL_law_764 : decode cL_law 764 = .ok (.ireturn, 1) := by decide +kernel
theorem dL_law_765 : decode cL_law 765 = .ok (.aload_n 1, 1) := by decide +kernel
theorem dL_law_766 : decode cL_law 766 = .ok (.aload_n 0, 1) := by decide +kernel
theorem dL_law_767 : decode cL_law 767 = .ok (.iload_n 3, 1) := by decide +kernel
theorem dL_law_768 : decode cL_law 768 = .ok (.iconst 1, 1) := by decide +kernel
theorem dL_law_769 : decode cL_law 769 = .ok (.iadd, 1) := by decide +kernel
theorem dL_law_770 : decode cL_law 770 = .ok (.iaload, 1) := by decide +kernel
theorem dL_law_771 : decode cL_law 771 = .ok (.ifCond .eq 7, 3) := by decide +kernel
theorem dL_law_774 : decode cL_law 774 = .ok (.iconst 1, 1) := by decide +kernel
theorem dL_law_775 : decode cL_law 775 = .ok (.goto 4, 3) := by decide +kernel
theorem dL_law_778 : decode cL_law 778 = .ok (.iconst 0, 1) := by decide +kernel
theorem dL_law_779 : decode cL_law 779 = .ok (.aload_n 0, 1) := by decide +kernel
theorem dL_law_780 : decode cL_law 780 = .ok (.iload_n 3, 1) := by decide +kernel
theorem dL_law_781 : decode cL_law 781 = .ok (.iconst 2, 1) := by decide +kernel
theorem dL_law_782 : decode cL_law 782 = .ok (.iadd, 1) := by decide +kernel
theorem dL_law_783 : decode cL_law 783 = .ok (.iaload, 1) := by decide +kernel
theorem dL_law_784 : decode cL_law 784 = .ok (.invokevirtual 99, 3) := by decide +kernel
theorem dL_law_787 : decode cL_law 787 = .ok (.aload_n 2, 1) := by decide +kernel
theorem dL_law_788 : decode cL_law 788 = .ok (.aload_n 0, 1) := by decide +kernel
theorem dL_law_789 : decode cL_law 789 = .ok (.iload_n 3, 1) := by decide +kernel
theorem dL_law_790 : decode cL_law 790 = .ok (.iconst 1, 1) := by decide +kernel
theorem dL_law_791 : decode cL_law 791 = .ok (.iadd, 1) := by decide +kernel
theorem dL_law_792 : decode cL_law 792 = .ok (.iaload, 1) := by decide +kernel
theorem dL_law_793 : decode cL_law 793 = .ok (.ifCond .eq 7, 3) := by decide +kernel
theorem dL_law_796 : decode cL_law 796 = .ok (.iconst 1, 1) := by decide +kernel
theorem dL_law_797 : decode cL_law 797 = .ok (.goto 4, 3) := by decide +kernel
theorem dL_law_800 : decode cL_law 800 = .ok (.iconst 0, 1) := by decide +kernel
theorem dL_law_801 : decode cL_law 801 = .ok (.aload_n 0, 1) := by decide +kernel
theorem dL_law_802 : decode cL_law 802 = .ok (.iload_n 3, 1) := by decide +kernel
theorem dL_law_803 : decode cL_law 803 = .ok (.iconst 2, 1) := by decide +kernel
theorem dL_law_804 : decode cL_law 804 = .ok (.iadd, 1) := by decide +kernel
theorem dL_law_805 : decode cL_law 805 = .ok (.iaload, 1) := by decide +kernel
theorem dL_law_806 : decode cL_law 806 = .ok (.invokevirtual 103, 3) := by decide +kernel
theorem dL_law_809 : decode cL_law 809 = .ok (.if_icmp .eq 94, 3) := by decide +kernel
theorem dL_law_812 : decode cL_law 812 = .ok (.iconst 0, 1) := by decide +kernel
theorem dL_law_813 : decode cL_law 813 = .ok (.ireturn, 1) := by decide +kernel
theorem dL_law_814 : decode cL_law 814 = .ok (.aload_n 1, 1) := by decide +kernel
theorem dL_law_815 : decode cL_law 815 = .ok (.aload_n 0, 1) := by decide +kernel
theorem dL_law_816 : decode cL_law 816 = .ok (.iload_n 3, 1) := by decide +kernel
theorem dL_law_817 : decode cL_law 817 = .ok (.iconst 1, 1) := by decide +kernel
theorem dL_law_818 : decode cL_law 818 = .ok (.iadd, 1) := by decide +kernel
theorem dL_law_819 : decode cL_law 819 = .ok (.iaload, 1) := by decide +kernel
theorem dL_law_820 : decode cL_law 820 = .ok (.aload_n 0, 1) := by decide +kernel
theorem dL_law_821 : decode cL_law 821 = .ok (.iload_n 3, 1) := by decide +kernel
theorem dL_law_822 : decode cL_law 822 = .ok (.iconst 2, 1) := by decide +kernel
theorem dL_law_823 : decode cL_law 823 = .ok (.iadd, 1) := by decide +kernel
theorem dL_law_824 : decode cL_law 824 = .ok (.iaload, 1) := by decide +kernel
theorem dL_law_825 : decode cL_law 825 = .ok (.invokevirtual 104, 3) := by decide +kernel
theorem dL_law_828 : decode cL_law 828 = .ok (.aload_n 2, 1) := by decide +kernel
theorem dL_law_829 : decode cL_law 829 = .ok (.aload_n 0, 1) := by decide +kernel
theorem dL_law_830 : decode cL_law 830 = .ok (.iload_n 3, 1) := by decide +kernel
theorem dL_law_831 : decode cL_law 831 = .ok (.iconst 1, 1) := by decide +kernel
theorem dL_law_832 : decode cL_law 832 = .ok (.iadd, 1) := by decide +kernel
theorem dL_law_833 : decode cL_law 833 = .ok (.iaload, 1) := by decide +kernel
theorem dL_law_834 : decode cL_law 834 = .ok (.aload_n 0, 1) := by decide +kernel
theorem dL_law_835 : decode cL_law 835 = .ok (.iload_n 3, 1) := by decide +kernel
theorem dL_law_836 : decode cL_law 836 = .ok (.iconst 2, 1) := by decide +kernel
theorem dL_law_837 : decode cL_law 837 = .ok (.iadd, 1) := by decide +kernel
theorem dL_law_838 : decode cL_law 838 = .ok (.iaload, 1) := by decide +kernel
theorem dL_law_839 : decode cL_law 839 = .ok (.invokevirtual 107, 3) := by decide +kernel
theorem dL_law_842 : decode cL_law 842 = .ok (.if_icmp .eq 61, 3) := by decide +kernel
theorem dL_law_845 : decode cL_law 845 = .ok (.iconst 0, 1) := by decide +kernel
theorem dL_law_846 : decode cL_law 846 = .ok (.ireturn, 1) := by decide +kernel
theorem dL_law_847 : decode cL_law 847 = .ok (.aload_n 1, 1) := by decide +kernel
theorem dL_law_848 : decode cL_law 848 = .ok (.aload_n 0, 1) := by decide +kernel
theorem dL_law_849 : decode cL_law 849 = .ok (.iload_n 3, 1) := by decide +kernel
theorem dL_law_850 : decode cL_law 850 = .ok (.iconst 1, 1) := by decide +kernel
theorem dL_law_851 : decode cL_law 851 = .ok (.iadd, 1) := by decide +kernel
theorem dL_law_852 : decode cL_law 852 = .ok (.iaload, 1) := by decide +kernel
theorem dL_law_853 : decode cL_law 853 = .ok (.aload_n 0, 1) := by decide +kernel
theorem dL_law_854 : decode cL_law 854 = .ok (.iload_n 3, 1) := by decide +kernel
theorem dL_law_855 : decode cL_law 855 = .ok (.iconst 2, 1) := by decide +kernel
theorem dL_law_856 : decode cL_law 856 = .ok (.iadd, 1) := by decide +kernel
theorem dL_law_857 : decode cL_law 857 = .ok (.iaload, 1) := by decide +kernel
theorem dL_law_858 : decode cL_law 858 = .ok (.invokevirtual 108, 3) := by decide +kernel
theorem dL_law_861 : decode cL_law 861 = .ok (.aload_n 2, 1) := by decide +kernel
theorem dL_law_862 : decode cL_law 862 = .ok (.aload_n 0, 1) := by decide +kernel
theorem dL_law_863 : decode cL_law 863 = .ok (.iload_n 3, 1) := by decide +kernel
theorem dL_law_864 : decode cL_law 864 = .ok (.iconst 1, 1) := by decide +kernel
theorem dL_law_865 : decode cL_law 865 = .ok (.iadd, 1) := by decide +kernel
theorem dL_law_866 : decode cL_law 866 = .ok (.iaload, 1) := by decide +kernel
theorem dL_law_867 : decode cL_law 867 = .ok (.aload_n 0, 1) := by decide +kernel
theorem dL_law_868 : decode cL_law 868 = .ok (.iload_n 3, 1) := by decide +kernel
theorem dL_law_869 : decode cL_law 869 = .ok (.iconst 2, 1) := by decide +kernel
theorem dL_law_870 : decode cL_law 870 = .ok (.iadd, 1) := by decide +kernel
theorem dL_law_871 : decode cL_law 871 = .ok (.iaload, 1) := by decide +kernel
theorem dL_law_872 : decode cL_law 872 = .ok (.invokevirtual 111, 3) := by decide +kernel
theorem dL_law_875 : decode cL_law 875 = .ok (.if_icmp .eq 28, 3) := by decide +kernel
theorem dL_law_878 : decode cL_law 878 = .ok (.iconst 0, 1) := by decide +kernel
theorem dL_law_879 : decode cL_law 879 = .ok (.ireturn, 1) := by decide +kernel
theorem dL_law_880 : decode cL_law 880 = .ok (.aload_n 1, 1) := by decide +kernel
theorem dL_law_881 : decode cL_law 881 = .ok (.aload_n 0, 1) := by decide +kernel
theorem dL_law_882 : decode cL_law 882 = .ok (.iload_n 3, 1) := by decide +kernel
theorem dL_law_883 : decode cL_law 883 = .ok (.iconst 1, 1) := by decide +kernel
theorem dL_law_884 : decode cL_law 884 = .ok (.iadd, 1) := by decide +kernel
theorem dL_law_885 : decode cL_law 885 = .ok (.iaload, 1) := by decide +kernel
theorem dL_law_886 : decode cL_law 886 = .ok (.invokevirtual 112, 3) := by decide +kernel
theorem dL_law_889 : decode cL_law 889 = .ok (.aload_n 2, 1) := by decide +kernel
theorem dL_law_890 : decode cL_law 890 = .ok (.aload_n 0, 1) := by decide +kernel
theorem dL_law_891 : decode cL_law 891 = .ok (.iload_n 3, 1) := by decide +kernel
theorem dL_law_892 : decode cL_law 892 = .ok (.iconst 1, 1) := by decide +kernel
theorem dL_law_893 : decode cL_law 893 = .ok (.iadd, 1) := by decide +kernel
theorem dL_law_894 : decode cL_law 894 = .ok (.iaload, 1) := by decide +kernel
theorem dL_law_895 : decode cL_law 895 = .ok (.invokevirtual 115, 3) := by decide +kernel
theorem dL_law_898 : decode cL_law 898 = .ok (.if_icmp .eq 5, 3) := by decide +kernel
theorem dL_law_901 : decode cL_law 901 = .ok (.iconst 0, 1) := by decide +kernel
theorem dL_law_902 : decode cL_law 902 = .ok (.ireturn, 1) := by decide +kernel
theorem dL_law_903 : decode cL_law 903 = .ok (.iinc 3 6, 3) := by decide +kernel
theorem dL_law_906 : decode cL_law 906 = .ok (.goto (-868), 3) := by decide +kernel
theorem dL_law_909 : decode cL_law 909 = .ok (.iconst 1, 1) := by decide +kernel
theorem dL_law_910 : decode cL_law 910 = .ok (.ireturn, 1) := by decide +kernel
end
section
def BIG : List Cond := lw_tbl.filter goodWord
theorem bg_in {w : Cond} (h : w ∈ lw_tbl) (g : goodWord w = true) : w ∈ BIG := List.mem_filter.mpr ⟨h, g⟩
theorem bg_t {w : Cond} (h : w ∈ tables_1) (g : goodWord w = true) : w ∈ BIG := bg_in (List.mem_append_right _ h) g
theorem tb1 {w : Cond} (i : Nat) (h : tables_1_1[i]? = some w) (g : goodWord w = true) : w ∈ BIG := bg_t (List.mem_append_left _ (List.mem_of_getElem? h)) g
theorem tb2 {w : Cond} (i : Nat) (h : tables_1_2[i]? = some w) (g : goodWord w = true) : w ∈ BIG := bg_t (List.mem_append_right _ (List.mem_append_left _ (List.mem_of_getElem? h))) g
theorem tb3 {w : Cond} (i : Nat) (h : tables_1_3[i]? = some w) (g : goodWord w = true) : w ∈ BIG := bg_t (List.mem_append_right _ (List.mem_append_right _ (List.mem_append_left _ (List.mem_of_getElem? h)))) g
theorem tb4 {w : Cond} (i : Nat) (h : tables_1_4[i]? = some w) (g : goodWord w = true) : w ∈ BIG := bg_t (List.mem_append_right _ (List.mem_append_right _ (List.mem_append_right _ (List.mem_of_getElem? h)))) g
theorem bg_sel {y : MethodName} (n : Nat) (i : Nat) (h : lw_privs[i]? = some (y, n)) : Cond.selects y.cls y y ∈ BIG := bg_in (List.mem_append_left _ (List.mem_map.mpr ⟨(y, n), List.mem_of_getElem? h, rfl⟩)) rfl
theorem bg_good {c c' : Cond} (h : c' ∈ BIG) : GoodIn (c :: BIG) (c' :: BIG) := by
  have g : ∀ w ∈ BIG, (w.onTables && w.keeps) = true ∨ ∃ ty, w = .arrayClass ty := fun w h => good_of_word (List.mem_filter.mp h).2
  intro w hw
  rcases List.mem_cons.mp hw with e | e
  · exact ⟨List.mem_cons_of_mem _ (e ▸ h), e ▸ g c' h⟩
  · exact ⟨List.mem_cons_of_mem _ e, g w e⟩
theorem wd_1_0 : (Jvm.Cond.initialized "PageHoldLaw") ∈ BIG := tb1 0 rfl rfl
theorem wd_1_1 : (Jvm.Cond.initialized "PageHold") ∈ BIG := tb1 1 rfl rfl
theorem wd_1_2 : (Jvm.Cond.initialized "PageHold$Words") ∈ BIG := tb1 2 rfl rfl
theorem wd_1_3 : (Jvm.Cond.initialized "java/lang/Math") ∈ BIG := tb1 3 rfl rfl
theorem wd_1_4 : (Jvm.Cond.initialized "PageHold$Disk") ∈ BIG := tb1 4 rfl rfl
theorem wd_1_5 : (Jvm.Cond.initialized "PageHold$Files") ∈ BIG := tb1 5 rfl rfl
theorem wd_1_6 : (Jvm.Cond.initialized "java/util/Arrays") ∈ BIG := tb1 6 rfl rfl
theorem wd_1_7 : (Jvm.Cond.initialized "PageHold$Frames") ∈ BIG := tb1 7 rfl rfl
theorem wd_1_8 : (Jvm.Cond.initialized "PageHold$Order") ∈ BIG := tb1 8 rfl rfl
theorem wd_1_9 : (Jvm.Cond.initialized "PageHold$Shadows") ∈ BIG := tb1 9 rfl rfl
theorem wd_1_10 : (Jvm.Cond.initialized "PageHoldModel") ∈ BIG := tb1 10 rfl rfl
theorem wd_1_11 : (Jvm.Cond.initialized "java/lang/System") ∈ BIG := tb1 11 rfl rfl
theorem wd_1_12 : (Jvm.Cond.classLink "PageHoldLaw" (7 : Nat) "PageHold") ∈ BIG := tb1 12 rfl rfl
theorem wd_1_13 : (Jvm.Cond.instantiable "PageHold" (9 : Nat)) ∈ BIG := tb1 13 rfl rfl
theorem wd_1_14 : (Jvm.Cond.methodLink "PageHoldLaw" (15 : Nat) ({ cls := "PageHold", name := "<init>", desc := "(II)V" } : Jvm.MethodName)) ∈ BIG := tb1 14 rfl rfl
theorem wd_1_15 : (Jvm.Cond.instanceMethod ({ cls := "PageHold", name := "<init>", desc := "(II)V" } : Jvm.MethodName)) ∈ BIG := tb1 15 rfl rfl
theorem wd_1_16 : (Jvm.Cond.code ({ cls := "PageHold", name := "<init>", desc := "(II)V" } : Jvm.MethodName) prog_1_method_1_code (5 : Nat) (Option.none : Option Jvm.ClassFile.FieldType)) ∈ BIG := tb1 16 rfl rfl
theorem wd_1_17 : (Jvm.Cond.methodLink "PageHold" (3 : Nat) ({ cls := "java/lang/Object", name := "<init>", desc := "()V" } : Jvm.MethodName)) ∈ BIG := tb1 17 rfl rfl
theorem wd_1_18 : (Jvm.Cond.instanceMethod ({ cls := "java/lang/Object", name := "<init>", desc := "()V" } : Jvm.MethodName)) ∈ BIG := tb1 18 rfl rfl
theorem wd_1_19 : (Jvm.Cond.code ({ cls := "java/lang/Object", name := "<init>", desc := "()V" } : Jvm.MethodName) object_method_1_code (1 : Nat) (Option.none : Option Jvm.ClassFile.FieldType)) ∈ BIG := tb1 19 rfl rfl
theorem wd_1_20 : (Jvm.Cond.classLink "PageHold" (13 : Nat) "PageHold$Words") ∈ BIG := tb1 20 rfl rfl
theorem wd_1_21 : (Jvm.Cond.instantiable "PageHold$Words" (1 : Nat)) ∈ BIG := tb1 21 rfl rfl
theorem wd_1_22 : (Jvm.Cond.methodLink "PageHold" (15 : Nat) ({ cls := "PageHold$Words", name := "<init>", desc := "(I)V" } : Jvm.MethodName)) ∈ BIG := tb1 22 rfl rfl
theorem wd_1_23 : (Jvm.Cond.instanceMethod ({ cls := "PageHold$Words", name := "<init>", desc := "(I)V" } : Jvm.MethodName)) ∈ BIG := tb1 23 rfl rfl
theorem wd_1_24 : (Jvm.Cond.code ({ cls := "PageHold$Words", name := "<init>", desc := "(I)V" } : Jvm.MethodName) prog_7_method_1_code (2 : Nat) (Option.none : Option Jvm.ClassFile.FieldType)) ∈ BIG := tb1 24 rfl rfl
theorem wd_1_25 : (Jvm.Cond.methodLink "PageHold$Words" (3 : Nat) ({ cls := "java/lang/Object", name := "<init>", desc := "()V" } : Jvm.MethodName)) ∈ BIG := tb1 25 rfl rfl
theorem wd_1_26 : (Jvm.Cond.methodLink "PageHold$Words" (9 : Nat) ({ cls := "java/lang/Math", name := "max", desc := "(II)I" } : Jvm.MethodName)) ∈ BIG := tb1 26 rfl rfl
theorem wd_1_27 : (Jvm.Cond.static ({ cls := "java/lang/Math", name := "max", desc := "(II)I" } : Jvm.MethodName)) ∈ BIG := tb1 27 rfl rfl
theorem wd_1_28 : (Jvm.Cond.code ({ cls := "java/lang/Math", name := "max", desc := "(II)I" } : Jvm.MethodName) prog_10_method_65_code (2 : Nat) (Option.some Jvm.ClassFile.FieldType.int)) ∈ BIG := tb1 28 rfl rfl
theorem wd_1_29 : (Jvm.Cond.fieldLink "PageHold$Words" (15 : Nat) "PageHold$Words" "row" "[J") ∈ BIG := tb1 29 rfl rfl
theorem wd_1_33 : (Jvm.Cond.arrayClass Jvm.ClassFile.FieldType.int) ∈ BIG := tb1 33 rfl rfl
theorem wd_1_34 : (Jvm.Cond.arrayClass Jvm.ClassFile.FieldType.long) ∈ BIG := tb1 34 rfl rfl
theorem wd_1_35 : (Jvm.Cond.classLink "PageHold" (32 : Nat) "PageHold$Disk") ∈ BIG := tb1 35 rfl rfl
theorem wd_1_36 : (Jvm.Cond.instantiable "PageHold$Disk" (11 : Nat)) ∈ BIG := tb1 36 rfl rfl
theorem wd_1_37 : (Jvm.Cond.methodLink "PageHold" (34 : Nat) ({ cls := "PageHold$Disk", name := "<init>", desc := "(I)V" } : Jvm.MethodName)) ∈ BIG := tb1 37 rfl rfl
theorem wd_1_38 : (Jvm.Cond.instanceMethod ({ cls := "PageHold$Disk", name := "<init>", desc := "(I)V" } : Jvm.MethodName)) ∈ BIG := tb1 38 rfl rfl
theorem wd_1_39 : (Jvm.Cond.code ({ cls := "PageHold$Disk", name := "<init>", desc := "(I)V" } : Jvm.MethodName) prog_2_method_1_code (2 : Nat) (Option.none : Option Jvm.ClassFile.FieldType)) ∈ BIG := tb1 39 rfl rfl
theorem wd_1_40 : (Jvm.Cond.methodLink "PageHold$Disk" (3 : Nat) ({ cls := "java/lang/Object", name := "<init>", desc := "()V" } : Jvm.MethodName)) ∈ BIG := tb1 40 rfl rfl
theorem wd_1_41 : (Jvm.Cond.classLink "PageHold$Disk" (35 : Nat) "PageHold$Words") ∈ BIG := tb1 41 rfl rfl
theorem wd_1_42 : (Jvm.Cond.methodLink "PageHold$Disk" (37 : Nat) ({ cls := "PageHold$Words", name := "<init>", desc := "(I)V" } : Jvm.MethodName)) ∈ BIG := tb1 42 rfl rfl
theorem wd_1_43 : (Jvm.Cond.methodLink "PageHold$Disk" (44 : Nat) ({ cls := "java/lang/Math", name := "max", desc := "(II)I" } : Jvm.MethodName)) ∈ BIG := tb1 43 rfl rfl
theorem wd_1_44 : (Jvm.Cond.fieldLink "PageHold$Disk" (40 : Nat) "PageHold$Disk" "bytes" "LPageHold$Words;") ∈ BIG := tb1 44 rfl rfl
theorem wd_1_46 : (Jvm.Cond.fieldLink "PageHold$Disk" (50 : Nat) "PageHold$Disk" "fails" "[Z") ∈ BIG := tb1 46 rfl rfl
theorem wd_1_48 : (Jvm.Cond.fieldLink "PageHold$Disk" (54 : Nat) "PageHold$Disk" "taken" "[Z") ∈ BIG := tb1 48 rfl rfl
theorem wd_1_49 : (Jvm.Cond.fieldLink "PageHold$Disk" (57 : Nat) "PageHold$Disk" "free" "I") ∈ BIG := tb1 49 rfl rfl
theorem wd_1_51 : (Jvm.Cond.fieldLink "PageHold$Disk" (9 : Nat) "PageHold$Disk" "reads" "I") ∈ BIG := tb1 51 rfl rfl
theorem wd_1_53 : (Jvm.Cond.fieldLink "PageHold$Disk" (15 : Nat) "PageHold$Disk" "writes" "I") ∈ BIG := tb1 53 rfl rfl
theorem wd_1_55 : (Jvm.Cond.fieldLink "PageHold$Disk" (18 : Nat) "PageHold$Disk" "kinds" "[I") ∈ BIG := tb1 55 rfl rfl
theorem wd_1_57 : (Jvm.Cond.fieldLink "PageHold$Disk" (22 : Nat) "PageHold$Disk" "firsts" "[I") ∈ BIG := tb1 57 rfl rfl
theorem wd_1_59 : (Jvm.Cond.fieldLink "PageHold$Disk" (25 : Nat) "PageHold$Disk" "lengths" "[I") ∈ BIG := tb1 59 rfl rfl
theorem wd_1_61 : (Jvm.Cond.fieldLink "PageHold$Disk" (28 : Nat) "PageHold$Disk" "runs" "I") ∈ BIG := tb1 61 rfl rfl
theorem wd_1_63 : (Jvm.Cond.fieldLink "PageHold$Disk" (31 : Nat) "PageHold$Disk" "recordIsOld" "Z") ∈ BIG := tb1 63 rfl rfl
theorem wd_1_87 : (Jvm.Cond.arrayClass Jvm.ClassFile.FieldType.boolean) ∈ BIG := tb1 87 rfl rfl
theorem wd_1_88 : (Jvm.Cond.classLink "PageHold" (39 : Nat) "PageHold$Files") ∈ BIG := tb1 88 rfl rfl
theorem wd_1_89 : (Jvm.Cond.instantiable "PageHold$Files" (4 : Nat)) ∈ BIG := tb1 89 rfl rfl
theorem wd_1_90 : (Jvm.Cond.methodLink "PageHold" (41 : Nat) ({ cls := "PageHold$Files", name := "<init>", desc := "()V" } : Jvm.MethodName)) ∈ BIG := tb1 90 rfl rfl
theorem wd_1_91 : (Jvm.Cond.instanceMethod ({ cls := "PageHold$Files", name := "<init>", desc := "()V" } : Jvm.MethodName)) ∈ BIG := tb1 91 rfl rfl
theorem wd_1_92 : (Jvm.Cond.code ({ cls := "PageHold$Files", name := "<init>", desc := "()V" } : Jvm.MethodName) prog_3_method_1_code (1 : Nat) (Option.none : Option Jvm.ClassFile.FieldType)) ∈ BIG := tb1 92 rfl rfl
theorem wd_1_93 : (Jvm.Cond.methodLink "PageHold$Files" (3 : Nat) ({ cls := "java/lang/Object", name := "<init>", desc := "()V" } : Jvm.MethodName)) ∈ BIG := tb1 93 rfl rfl
theorem wd_1_94 : (Jvm.Cond.methodLink "PageHold$Files" (24 : Nat) ({ cls := "java/util/Arrays", name := "fill", desc := "([II)V" } : Jvm.MethodName)) ∈ BIG := tb1 94 rfl rfl
theorem wd_1_95 : (Jvm.Cond.static ({ cls := "java/util/Arrays", name := "fill", desc := "([II)V" } : Jvm.MethodName)) ∈ BIG := tb1 95 rfl rfl
theorem wd_1_96 : (Jvm.Cond.code ({ cls := "java/util/Arrays", name := "fill", desc := "([II)V" } : Jvm.MethodName) prog_12_method_103_code (4 : Nat) (Option.none : Option Jvm.ClassFile.FieldType)) ∈ BIG := tb1 96 rfl rfl
theorem wd_1_97 : (Jvm.Cond.fieldLink "PageHold$Files" (9 : Nat) "PageHold$Files" "sizes" "[I") ∈ BIG := tb1 97 rfl rfl
theorem wd_1_99 : (Jvm.Cond.fieldLink "PageHold$Files" (15 : Nat) "PageHold$Files" "windows" "[I") ∈ BIG := tb1 99 rfl rfl
theorem wd_1_101 : (Jvm.Cond.fieldLink "PageHold$Files" (18 : Nat) "PageHold$Files" "goOn" "[I") ∈ BIG := tb1 101 rfl rfl
theorem wd_1_103 : (Jvm.Cond.fieldLink "PageHold$Files" (21 : Nat) "PageHold$Files" "errors" "[I") ∈ BIG := tb1 103 rfl rfl
theorem wd_1_114 : (Jvm.Cond.classLink "PageHold" (46 : Nat) "PageHold$Frames") ∈ BIG := tb1 114 rfl rfl
theorem wd_1_115 : (Jvm.Cond.instantiable "PageHold$Frames" (12 : Nat)) ∈ BIG := tb1 115 rfl rfl
theorem wd_1_116 : (Jvm.Cond.methodLink "PageHold" (48 : Nat) ({ cls := "PageHold$Frames", name := "<init>", desc := "(I)V" } : Jvm.MethodName)) ∈ BIG := tb1 116 rfl rfl
theorem wd_1_117 : (Jvm.Cond.instanceMethod ({ cls := "PageHold$Frames", name := "<init>", desc := "(I)V" } : Jvm.MethodName)) ∈ BIG := tb1 117 rfl rfl
theorem wd_1_118 : (Jvm.Cond.code ({ cls := "PageHold$Frames", name := "<init>", desc := "(I)V" } : Jvm.MethodName) prog_4_method_1_code (2 : Nat) (Option.none : Option Jvm.ClassFile.FieldType)) ∈ BIG := tb1 118 rfl rfl
theorem wd_1_119 : (Jvm.Cond.methodLink "PageHold$Frames" (3 : Nat) ({ cls := "java/lang/Object", name := "<init>", desc := "()V" } : Jvm.MethodName)) ∈ BIG := tb1 119 rfl rfl
theorem wd_1_120 : (Jvm.Cond.methodLink "PageHold$Frames" (22 : Nat) ({ cls := "java/lang/Math", name := "max", desc := "(II)I" } : Jvm.MethodName)) ∈ BIG := tb1 120 rfl rfl
theorem wd_1_121 : (Jvm.Cond.classLink "PageHold$Frames" (31 : Nat) "PageHold$Words") ∈ BIG := tb1 121 rfl rfl
theorem wd_1_122 : (Jvm.Cond.methodLink "PageHold$Frames" (33 : Nat) ({ cls := "PageHold$Words", name := "<init>", desc := "(I)V" } : Jvm.MethodName)) ∈ BIG := tb1 122 rfl rfl
theorem wd_1_123 : (Jvm.Cond.classLink "PageHold$Frames" (56 : Nat) "PageHold$Order") ∈ BIG := tb1 123 rfl rfl
theorem wd_1_124 : (Jvm.Cond.instantiable "PageHold$Order" (2 : Nat)) ∈ BIG := tb1 124 rfl rfl
theorem wd_1_125 : (Jvm.Cond.methodLink "PageHold$Frames" (58 : Nat) ({ cls := "PageHold$Order", name := "<init>", desc := "(I)V" } : Jvm.MethodName)) ∈ BIG := tb1 125 rfl rfl
theorem wd_1_126 : (Jvm.Cond.instanceMethod ({ cls := "PageHold$Order", name := "<init>", desc := "(I)V" } : Jvm.MethodName)) ∈ BIG := tb1 126 rfl rfl
theorem wd_1_127 : (Jvm.Cond.code ({ cls := "PageHold$Order", name := "<init>", desc := "(I)V" } : Jvm.MethodName) prog_5_method_1_code (2 : Nat) (Option.none : Option Jvm.ClassFile.FieldType)) ∈ BIG := tb1 127 rfl rfl
theorem wd_1_128 : (Jvm.Cond.methodLink "PageHold$Order" (3 : Nat) ({ cls := "java/lang/Object", name := "<init>", desc := "()V" } : Jvm.MethodName)) ∈ BIG := tb1 128 rfl rfl
theorem wd_1_129 : (Jvm.Cond.methodLink "PageHold$Order" (15 : Nat) ({ cls := "java/lang/Math", name := "max", desc := "(II)I" } : Jvm.MethodName)) ∈ BIG := tb1 129 rfl rfl
theorem wd_1_130 : (Jvm.Cond.fieldLink "PageHold$Order" (21 : Nat) "PageHold$Order" "row" "[I") ∈ BIG := tb1 130 rfl rfl
theorem wd_1_131 : (Jvm.Cond.fieldLink "PageHold$Order" (9 : Nat) "PageHold$Order" "count" "I") ∈ BIG := tb1 131 rfl rfl
theorem wd_1_139 : (Jvm.Cond.methodLink "PageHold$Frames" (66 : Nat) ({ cls := "java/util/Arrays", name := "fill", desc := "([II)V" } : Jvm.MethodName)) ∈ BIG := tb1 139 rfl rfl
theorem wd_1_140 : (Jvm.Cond.fieldLink "PageHold$Frames" (28 : Nat) "PageHold$Frames" "most" "I") ∈ BIG := tb1 140 rfl rfl
theorem wd_1_142 : (Jvm.Cond.fieldLink "PageHold$Frames" (36 : Nat) "PageHold$Frames" "bytes" "LPageHold$Words;") ∈ BIG := tb1 142 rfl rfl
theorem wd_1_144 : (Jvm.Cond.fieldLink "PageHold$Frames" (40 : Nat) "PageHold$Frames" "spots" "[I") ∈ BIG := tb1 144 rfl rfl
theorem wd_1_146 : (Jvm.Cond.fieldLink "PageHold$Frames" (43 : Nat) "PageHold$Frames" "since" "[I") ∈ BIG := tb1 146 rfl rfl
theorem wd_1_148 : (Jvm.Cond.fieldLink "PageHold$Frames" (46 : Nat) "PageHold$Frames" "referenced" "[Z") ∈ BIG := tb1 148 rfl rfl
theorem wd_1_150 : (Jvm.Cond.fieldLink "PageHold$Frames" (50 : Nat) "PageHold$Frames" "pinned" "[Z") ∈ BIG := tb1 150 rfl rfl
theorem wd_1_152 : (Jvm.Cond.fieldLink "PageHold$Frames" (53 : Nat) "PageHold$Frames" "onActive" "[Z") ∈ BIG := tb1 152 rfl rfl
theorem wd_1_154 : (Jvm.Cond.fieldLink "PageHold$Frames" (9 : Nat) "PageHold$Frames" "frameBySpot" "[I") ∈ BIG := tb1 154 rfl rfl
theorem wd_1_155 : (Jvm.Cond.fieldLink "PageHold$Frames" (59 : Nat) "PageHold$Frames" "active" "LPageHold$Order;") ∈ BIG := tb1 155 rfl rfl
theorem wd_1_157 : (Jvm.Cond.fieldLink "PageHold$Frames" (63 : Nat) "PageHold$Frames" "inactive" "LPageHold$Order;") ∈ BIG := tb1 157 rfl rfl
theorem wd_1_159 : (Jvm.Cond.fieldLink "PageHold$Frames" (15 : Nat) "PageHold$Frames" "dirtyCount" "I") ∈ BIG := tb1 159 rfl rfl
theorem wd_1_161 : (Jvm.Cond.fieldLink "PageHold$Frames" (19 : Nat) "PageHold$Frames" "pinnedCount" "I") ∈ BIG := tb1 161 rfl rfl
theorem wd_1_188 : (Jvm.Cond.classLink "PageHold" (53 : Nat) "PageHold$Shadows") ∈ BIG := tb1 188 rfl rfl
theorem wd_1_189 : (Jvm.Cond.instantiable "PageHold$Shadows" (4 : Nat)) ∈ BIG := tb1 189 rfl rfl
theorem wd_1_190 : (Jvm.Cond.methodLink "PageHold" (55 : Nat) ({ cls := "PageHold$Shadows", name := "<init>", desc := "(I)V" } : Jvm.MethodName)) ∈ BIG := tb1 190 rfl rfl
theorem wd_1_191 : (Jvm.Cond.instanceMethod ({ cls := "PageHold$Shadows", name := "<init>", desc := "(I)V" } : Jvm.MethodName)) ∈ BIG := tb1 191 rfl rfl
theorem wd_1_192 : (Jvm.Cond.code ({ cls := "PageHold$Shadows", name := "<init>", desc := "(I)V" } : Jvm.MethodName) prog_6_method_1_code (2 : Nat) (Option.none : Option Jvm.ClassFile.FieldType)) ∈ BIG := tb1 192 rfl rfl
theorem wd_1_193 : (Jvm.Cond.methodLink "PageHold$Shadows" (3 : Nat) ({ cls := "java/lang/Object", name := "<init>", desc := "()V" } : Jvm.MethodName)) ∈ BIG := tb1 193 rfl rfl
theorem wd_1_194 : (Jvm.Cond.methodLink "PageHold$Shadows" (22 : Nat) ({ cls := "java/lang/Math", name := "max", desc := "(II)I" } : Jvm.MethodName)) ∈ BIG := tb1 194 rfl rfl
theorem wd_1_195 : (Jvm.Cond.methodLink "PageHold$Shadows" (31 : Nat) ({ cls := "java/util/Arrays", name := "fill", desc := "([II)V" } : Jvm.MethodName)) ∈ BIG := tb1 195 rfl rfl
theorem wd_1_196 : (Jvm.Cond.fieldLink "PageHold$Shadows" (9 : Nat) "PageHold$Shadows" "numberOf" "[I") ∈ BIG := tb1 196 rfl rfl
theorem wd_1_197 : (Jvm.Cond.fieldLink "PageHold$Shadows" (28 : Nat) "PageHold$Shadows" "row" "[I") ∈ BIG := tb1 197 rfl rfl
theorem wd_1_198 : (Jvm.Cond.fieldLink "PageHold$Shadows" (15 : Nat) "PageHold$Shadows" "count" "I") ∈ BIG := tb1 198 rfl rfl
theorem wd_1_200 : (Jvm.Cond.fieldLink "PageHold$Shadows" (19 : Nat) "PageHold$Shadows" "evicted" "I") ∈ BIG := tb1 200 rfl rfl
theorem wd_1_211 : (Jvm.Cond.methodLink "PageHold" (60 : Nat) ({ cls := "java/util/Arrays", name := "fill", desc := "([II)V" } : Jvm.MethodName)) ∈ BIG := tb1 211 rfl rfl
theorem wd_1_212 : (Jvm.Cond.fieldLink "PageHold" (35 : Nat) "PageHold" "store" "LPageHold$Disk;") ∈ BIG := tb1 212 rfl rfl
theorem wd_1_213 : (Jvm.Cond.fieldLink "PageHold" (42 : Nat) "PageHold" "files" "LPageHold$Files;") ∈ BIG := tb1 213 rfl rfl
theorem wd_1_214 : (Jvm.Cond.fieldLink "PageHold" (49 : Nat) "PageHold" "frames" "LPageHold$Frames;") ∈ BIG := tb1 214 rfl rfl
theorem wd_1_215 : (Jvm.Cond.fieldLink "PageHold" (56 : Nat) "PageHold" "shadows" "LPageHold$Shadows;") ∈ BIG := tb1 215 rfl rfl
theorem wd_1_216 : (Jvm.Cond.fieldLink "PageHold" (9 : Nat) "PageHold" "blockOf" "[I") ∈ BIG := tb1 216 rfl rfl
theorem wd_1_217 : (Jvm.Cond.fieldLink "PageHold" (18 : Nat) "PageHold" "inHand" "LPageHold$Words;") ∈ BIG := tb1 217 rfl rfl
theorem wd_1_218 : (Jvm.Cond.fieldLink "PageHold" (22 : Nat) "PageHold" "toWrite" "LPageHold$Words;") ∈ BIG := tb1 218 rfl rfl
theorem wd_1_219 : (Jvm.Cond.fieldLink "PageHold" (25 : Nat) "PageHold" "handCount" "I") ∈ BIG := tb1 219 rfl rfl
theorem wd_1_220 : (Jvm.Cond.fieldLink "PageHold" (29 : Nat) "PageHold" "now" "I") ∈ BIG := tb1 220 rfl rfl
theorem wd_2_0 : (Jvm.Cond.methodLink "PageHoldLaw" (21 : Nat) ({ cls := "PageHold", name := "read", desc := "(III)I" } : Jvm.MethodName)) ∈ BIG := tb2 0 rfl rfl
theorem wd_2_1 : (Jvm.Cond.instanceMethod ({ cls := "PageHold", name := "read", desc := "(III)I" } : Jvm.MethodName)) ∈ BIG := tb2 1 rfl rfl
theorem wd_2_2 : (Jvm.Cond.selects "PageHold" ({ cls := "PageHold", name := "read", desc := "(III)I" } : Jvm.MethodName) ({ cls := "PageHold", name := "read", desc := "(III)I" } : Jvm.MethodName)) ∈ BIG := tb2 2 rfl rfl
theorem wd_2_3 : (Jvm.Cond.code ({ cls := "PageHold", name := "read", desc := "(III)I" } : Jvm.MethodName) prog_1_method_2_code (9 : Nat) (Option.some Jvm.ClassFile.FieldType.int)) ∈ BIG := tb2 3 rfl rfl
theorem wd_2_4 : (Jvm.Cond.methodLink "PageHold" (66 : Nat) ({ cls := "PageHold", name := "isFile", desc := "(I)Z" } : Jvm.MethodName)) ∈ BIG := tb2 4 rfl rfl
theorem wd_2_5 : (Jvm.Cond.static ({ cls := "PageHold", name := "isFile", desc := "(I)Z" } : Jvm.MethodName)) ∈ BIG := tb2 5 rfl rfl
theorem wd_2_6 : (Jvm.Cond.code ({ cls := "PageHold", name := "isFile", desc := "(I)Z" } : Jvm.MethodName) prog_1_method_23_code (1 : Nat) (Option.some Jvm.ClassFile.FieldType.boolean)) ∈ BIG := tb2 6 rfl rfl
theorem wd_2_7 : (Jvm.Cond.methodLink "PageHold" (70 : Nat) ({ cls := "PageHold$Disk", name := "begin", desc := "()V" } : Jvm.MethodName)) ∈ BIG := tb2 7 rfl rfl
theorem wd_2_8 : (Jvm.Cond.instanceMethod ({ cls := "PageHold$Disk", name := "begin", desc := "()V" } : Jvm.MethodName)) ∈ BIG := tb2 8 rfl rfl
theorem wd_2_9 : (Jvm.Cond.selects "PageHold$Disk" ({ cls := "PageHold$Disk", name := "begin", desc := "()V" } : Jvm.MethodName) ({ cls := "PageHold$Disk", name := "begin", desc := "()V" } : Jvm.MethodName)) ∈ BIG := tb2 9 rfl rfl
theorem wd_2_10 : (Jvm.Cond.code ({ cls := "PageHold$Disk", name := "begin", desc := "()V" } : Jvm.MethodName) prog_2_method_2_code (1 : Nat) (Option.none : Option Jvm.ClassFile.FieldType)) ∈ BIG := tb2 10 rfl rfl
theorem wd_2_11 : (Jvm.Cond.methodLink "PageHold" (76 : Nat) ({ cls := "java/lang/Math", name := "min", desc := "(II)I" } : Jvm.MethodName)) ∈ BIG := tb2 11 rfl rfl
theorem wd_2_12 : (Jvm.Cond.static ({ cls := "java/lang/Math", name := "min", desc := "(II)I" } : Jvm.MethodName)) ∈ BIG := tb2 12 rfl rfl
theorem wd_2_13 : (Jvm.Cond.code ({ cls := "java/lang/Math", name := "min", desc := "(II)I" } : Jvm.MethodName) prog_10_method_69_code (2 : Nat) (Option.some Jvm.ClassFile.FieldType.int)) ∈ BIG := tb2 13 rfl rfl
theorem wd_2_14 : (Jvm.Cond.methodLink "PageHold" (82 : Nat) ({ cls := "PageHold", name := "readPage", desc := "(IIII)I" } : Jvm.MethodName)) ∈ BIG := tb2 14 rfl rfl
theorem wd_2_16 : (Jvm.Cond.instanceMethod ({ cls := "PageHold", name := "readPage", desc := "(IIII)I" } : Jvm.MethodName)) ∈ BIG := tb2 16 rfl rfl
theorem wd_2_17 : (Jvm.Cond.code ({ cls := "PageHold", name := "readPage", desc := "(IIII)I" } : Jvm.MethodName) prog_1_method_28_code (11 : Nat) (Option.some Jvm.ClassFile.FieldType.int)) ∈ BIG := tb2 17 rfl rfl
theorem wd_2_18 : (Jvm.Cond.methodLink "PageHold" (105 : Nat) ({ cls := "PageHold", name := "spotOf", desc := "(II)I" } : Jvm.MethodName)) ∈ BIG := tb2 18 rfl rfl
theorem wd_2_19 : (Jvm.Cond.static ({ cls := "PageHold", name := "spotOf", desc := "(II)I" } : Jvm.MethodName)) ∈ BIG := tb2 19 rfl rfl
theorem wd_2_20 : (Jvm.Cond.code ({ cls := "PageHold", name := "spotOf", desc := "(II)I" } : Jvm.MethodName) prog_1_method_26_code (2 : Nat) (Option.some Jvm.ClassFile.FieldType.int)) ∈ BIG := tb2 20 rfl rfl
theorem wd_2_21 : (Jvm.Cond.methodLink "PageHold" (118 : Nat) ({ cls := "PageHold$Frames", name := "frameOf", desc := "(I)I" } : Jvm.MethodName)) ∈ BIG := tb2 21 rfl rfl
theorem wd_2_22 : (Jvm.Cond.instanceMethod ({ cls := "PageHold$Frames", name := "frameOf", desc := "(I)I" } : Jvm.MethodName)) ∈ BIG := tb2 22 rfl rfl
theorem wd_2_23 : (Jvm.Cond.selects "PageHold$Frames" ({ cls := "PageHold$Frames", name := "frameOf", desc := "(I)I" } : Jvm.MethodName) ({ cls := "PageHold$Frames", name := "frameOf", desc := "(I)I" } : Jvm.MethodName)) ∈ BIG := tb2 23 rfl rfl
theorem wd_2_24 : (Jvm.Cond.code ({ cls := "PageHold$Frames", name := "frameOf", desc := "(I)I" } : Jvm.MethodName) prog_4_method_2_code (2 : Nat) (Option.some Jvm.ClassFile.FieldType.int)) ∈ BIG := tb2 24 rfl rfl
theorem wd_2_25 : (Jvm.Cond.methodLink "PageHold" (178 : Nat) ({ cls := "PageHold", name := "touch", desc := "(I)I" } : Jvm.MethodName)) ∈ BIG := tb2 25 rfl rfl
theorem wd_2_27 : (Jvm.Cond.instanceMethod ({ cls := "PageHold", name := "touch", desc := "(I)I" } : Jvm.MethodName)) ∈ BIG := tb2 27 rfl rfl
theorem wd_2_28 : (Jvm.Cond.code ({ cls := "PageHold", name := "touch", desc := "(I)I" } : Jvm.MethodName) prog_1_method_33_code (3 : Nat) (Option.some Jvm.ClassFile.FieldType.int)) ∈ BIG := tb2 28 rfl rfl
theorem wd_2_29 : (Jvm.Cond.methodLink "PageHold" (270 : Nat) ({ cls := "PageHold", name := "bringIn", desc := "(I)I" } : Jvm.MethodName)) ∈ BIG := tb2 29 rfl rfl
theorem wd_2_31 : (Jvm.Cond.instanceMethod ({ cls := "PageHold", name := "bringIn", desc := "(I)I" } : Jvm.MethodName)) ∈ BIG := tb2 31 rfl rfl
theorem wd_2_32 : (Jvm.Cond.code ({ cls := "PageHold", name := "bringIn", desc := "(I)I" } : Jvm.MethodName) prog_1_method_34_code (4 : Nat) (Option.some Jvm.ClassFile.FieldType.int)) ∈ BIG := tb2 32 rfl rfl
theorem wd_2_33 : (Jvm.Cond.methodLink "PageHold" (291 : Nat) ({ cls := "PageHold$Frames", name := "leastFree", desc := "()I" } : Jvm.MethodName)) ∈ BIG := tb2 33 rfl rfl
theorem wd_2_34 : (Jvm.Cond.instanceMethod ({ cls := "PageHold$Frames", name := "leastFree", desc := "()I" } : Jvm.MethodName)) ∈ BIG := tb2 34 rfl rfl
theorem wd_2_35 : (Jvm.Cond.selects "PageHold$Frames" ({ cls := "PageHold$Frames", name := "leastFree", desc := "()I" } : Jvm.MethodName) ({ cls := "PageHold$Frames", name := "leastFree", desc := "()I" } : Jvm.MethodName)) ∈ BIG := tb2 35 rfl rfl
theorem wd_2_36 : (Jvm.Cond.code ({ cls := "PageHold$Frames", name := "leastFree", desc := "()I" } : Jvm.MethodName) prog_4_method_4_code (2 : Nat) (Option.some Jvm.ClassFile.FieldType.int)) ∈ BIG := tb2 36 rfl rfl
theorem wd_2_37 : (Jvm.Cond.methodLink "PageHold" (294 : Nat) ({ cls := "PageHold$Frames", name := "balance", desc := "()V" } : Jvm.MethodName)) ∈ BIG := tb2 37 rfl rfl
theorem wd_2_38 : (Jvm.Cond.instanceMethod ({ cls := "PageHold$Frames", name := "balance", desc := "()V" } : Jvm.MethodName)) ∈ BIG := tb2 38 rfl rfl
theorem wd_2_39 : (Jvm.Cond.selects "PageHold$Frames" ({ cls := "PageHold$Frames", name := "balance", desc := "()V" } : Jvm.MethodName) ({ cls := "PageHold$Frames", name := "balance", desc := "()V" } : Jvm.MethodName)) ∈ BIG := tb2 39 rfl rfl
theorem wd_2_40 : (Jvm.Cond.code ({ cls := "PageHold$Frames", name := "balance", desc := "()V" } : Jvm.MethodName) prog_4_method_9_code (3 : Nat) (Option.none : Option Jvm.ClassFile.FieldType)) ∈ BIG := tb2 40 rfl rfl
theorem wd_2_41 : (Jvm.Cond.methodLink "PageHold$Frames" (95 : Nat) ({ cls := "PageHold$Order", name := "last", desc := "()I" } : Jvm.MethodName)) ∈ BIG := tb2 41 rfl rfl
theorem wd_2_42 : (Jvm.Cond.instanceMethod ({ cls := "PageHold$Order", name := "last", desc := "()I" } : Jvm.MethodName)) ∈ BIG := tb2 42 rfl rfl
theorem wd_2_43 : (Jvm.Cond.selects "PageHold$Order" ({ cls := "PageHold$Order", name := "last", desc := "()I" } : Jvm.MethodName) ({ cls := "PageHold$Order", name := "last", desc := "()I" } : Jvm.MethodName)) ∈ BIG := tb2 43 rfl rfl
theorem wd_2_44 : (Jvm.Cond.code ({ cls := "PageHold$Order", name := "last", desc := "()I" } : Jvm.MethodName) prog_5_method_3_code (1 : Nat) (Option.some Jvm.ClassFile.FieldType.int)) ∈ BIG := tb2 44 rfl rfl
theorem wd_2_45 : (Jvm.Cond.methodLink "PageHold$Order" (25 : Nat) ({ cls := "PageHold$Order", name := "at", desc := "(I)I" } : Jvm.MethodName)) ∈ BIG := tb2 45 rfl rfl
theorem wd_2_46 : (Jvm.Cond.instanceMethod ({ cls := "PageHold$Order", name := "at", desc := "(I)I" } : Jvm.MethodName)) ∈ BIG := tb2 46 rfl rfl
theorem wd_2_47 : (Jvm.Cond.selects "PageHold$Order" ({ cls := "PageHold$Order", name := "at", desc := "(I)I" } : Jvm.MethodName) ({ cls := "PageHold$Order", name := "at", desc := "(I)I" } : Jvm.MethodName)) ∈ BIG := tb2 47 rfl rfl
theorem wd_2_48 : (Jvm.Cond.code ({ cls := "PageHold$Order", name := "at", desc := "(I)I" } : Jvm.MethodName) prog_5_method_2_code (2 : Nat) (Option.some Jvm.ClassFile.FieldType.int)) ∈ BIG := tb2 48 rfl rfl
theorem wd_2_49 : (Jvm.Cond.methodLink "PageHold$Frames" (89 : Nat) ({ cls := "PageHold$Frames", name := "toFront", desc := "(IZ)V" } : Jvm.MethodName)) ∈ BIG := tb2 49 rfl rfl
theorem wd_2_50 : (Jvm.Cond.instanceMethod ({ cls := "PageHold$Frames", name := "toFront", desc := "(IZ)V" } : Jvm.MethodName)) ∈ BIG := tb2 50 rfl rfl
theorem wd_2_51 : (Jvm.Cond.selects "PageHold$Frames" ({ cls := "PageHold$Frames", name := "toFront", desc := "(IZ)V" } : Jvm.MethodName) ({ cls := "PageHold$Frames", name := "toFront", desc := "(IZ)V" } : Jvm.MethodName)) ∈ BIG := tb2 51 rfl rfl
theorem wd_2_52 : (Jvm.Cond.code ({ cls := "PageHold$Frames", name := "toFront", desc := "(IZ)V" } : Jvm.MethodName) prog_4_method_7_code (5 : Nat) (Option.none : Option Jvm.ClassFile.FieldType)) ∈ BIG := tb2 52 rfl rfl
theorem wd_2_53 : (Jvm.Cond.methodLink "PageHold$Frames" (86 : Nat) ({ cls := "PageHold$Order", name := "take", desc := "(I)V" } : Jvm.MethodName)) ∈ BIG := tb2 53 rfl rfl
theorem wd_2_54 : (Jvm.Cond.instanceMethod ({ cls := "PageHold$Order", name := "take", desc := "(I)V" } : Jvm.MethodName)) ∈ BIG := tb2 54 rfl rfl
theorem wd_2_55 : (Jvm.Cond.selects "PageHold$Order" ({ cls := "PageHold$Order", name := "take", desc := "(I)V" } : Jvm.MethodName) ({ cls := "PageHold$Order", name := "take", desc := "(I)V" } : Jvm.MethodName)) ∈ BIG := tb2 55 rfl rfl
theorem wd_2_56 : (Jvm.Cond.code ({ cls := "PageHold$Order", name := "take", desc := "(I)V" } : Jvm.MethodName) prog_5_method_6_code (3 : Nat) (Option.none : Option Jvm.ClassFile.FieldType)) ∈ BIG := tb2 56 rfl rfl
theorem wd_2_57 : (Jvm.Cond.methodLink "PageHold$Order" (35 : Nat) ({ cls := "PageHold$Order", name := "placeOf", desc := "(I)I" } : Jvm.MethodName)) ∈ BIG := tb2 57 rfl rfl
theorem wd_2_58 : (Jvm.Cond.instanceMethod ({ cls := "PageHold$Order", name := "placeOf", desc := "(I)I" } : Jvm.MethodName)) ∈ BIG := tb2 58 rfl rfl
theorem wd_2_59 : (Jvm.Cond.selects "PageHold$Order" ({ cls := "PageHold$Order", name := "placeOf", desc := "(I)I" } : Jvm.MethodName) ({ cls := "PageHold$Order", name := "placeOf", desc := "(I)I" } : Jvm.MethodName)) ∈ BIG := tb2 59 rfl rfl
theorem wd_2_60 : (Jvm.Cond.code ({ cls := "PageHold$Order", name := "placeOf", desc := "(I)I" } : Jvm.MethodName) prog_5_method_4_code (3 : Nat) (Option.some Jvm.ClassFile.FieldType.int)) ∈ BIG := tb2 60 rfl rfl
theorem wd_2_61 : (Jvm.Cond.methodLink "PageHold$Order" (29 : Nat) ({ cls := "java/lang/System", name := "arraycopy", desc := "(Ljava/lang/Object;ILjava/lang/Object;II)V" } : Jvm.MethodName)) ∈ BIG := tb2 61 rfl rfl
theorem wd_2_62 : (Jvm.Cond.static ({ cls := "java/lang/System", name := "arraycopy", desc := "(Ljava/lang/Object;ILjava/lang/Object;II)V" } : Jvm.MethodName)) ∈ BIG := tb2 62 rfl rfl
theorem wd_2_63 : (Jvm.Cond.native ({ cls := "java/lang/System", name := "arraycopy", desc := "(Ljava/lang/Object;ILjava/lang/Object;II)V" } : Jvm.MethodName)) ∈ BIG := tb2 63 rfl rfl
theorem wd_2_64 : (Jvm.Cond.methodLink "PageHold$Frames" (72 : Nat) ({ cls := "PageHold$Order", name := "addFront", desc := "(I)V" } : Jvm.MethodName)) ∈ BIG := tb2 64 rfl rfl
theorem wd_2_65 : (Jvm.Cond.instanceMethod ({ cls := "PageHold$Order", name := "addFront", desc := "(I)V" } : Jvm.MethodName)) ∈ BIG := tb2 65 rfl rfl
theorem wd_2_66 : (Jvm.Cond.selects "PageHold$Order" ({ cls := "PageHold$Order", name := "addFront", desc := "(I)V" } : Jvm.MethodName) ({ cls := "PageHold$Order", name := "addFront", desc := "(I)V" } : Jvm.MethodName)) ∈ BIG := tb2 66 rfl rfl
theorem wd_2_67 : (Jvm.Cond.code ({ cls := "PageHold$Order", name := "addFront", desc := "(I)V" } : Jvm.MethodName) prog_5_method_5_code (2 : Nat) (Option.none : Option Jvm.ClassFile.FieldType)) ∈ BIG := tb2 67 rfl rfl
theorem wd_2_68 : (Jvm.Cond.methodLink "PageHold" (297 : Nat) ({ cls := "PageHold", name := "lookAtInactive", desc := "()I" } : Jvm.MethodName)) ∈ BIG := tb2 68 rfl rfl
theorem wd_2_70 : (Jvm.Cond.instanceMethod ({ cls := "PageHold", name := "lookAtInactive", desc := "()I" } : Jvm.MethodName)) ∈ BIG := tb2 70 rfl rfl
theorem wd_2_71 : (Jvm.Cond.code ({ cls := "PageHold", name := "lookAtInactive", desc := "()I" } : Jvm.MethodName) prog_1_method_35_code (3 : Nat) (Option.some Jvm.ClassFile.FieldType.int)) ∈ BIG := tb2 71 rfl rfl
theorem wd_2_72 : (Jvm.Cond.methodLink "PageHold" (314 : Nat) ({ cls := "PageHold$Order", name := "last", desc := "()I" } : Jvm.MethodName)) ∈ BIG := tb2 72 rfl rfl
theorem wd_2_73 : (Jvm.Cond.methodLink "PageHold" (317 : Nat) ({ cls := "PageHold$Frames", name := "toFront", desc := "(IZ)V" } : Jvm.MethodName)) ∈ BIG := tb2 73 rfl rfl
theorem wd_2_74 : (Jvm.Cond.methodLink "PageHold" (121 : Nat) ({ cls := "PageHold$Frames", name := "isDirty", desc := "(I)Z" } : Jvm.MethodName)) ∈ BIG := tb2 74 rfl rfl
theorem wd_2_75 : (Jvm.Cond.instanceMethod ({ cls := "PageHold$Frames", name := "isDirty", desc := "(I)Z" } : Jvm.MethodName)) ∈ BIG := tb2 75 rfl rfl
theorem wd_2_76 : (Jvm.Cond.selects "PageHold$Frames" ({ cls := "PageHold$Frames", name := "isDirty", desc := "(I)Z" } : Jvm.MethodName) ({ cls := "PageHold$Frames", name := "isDirty", desc := "(I)Z" } : Jvm.MethodName)) ∈ BIG := tb2 76 rfl rfl
theorem wd_2_77 : (Jvm.Cond.code ({ cls := "PageHold$Frames", name := "isDirty", desc := "(I)Z" } : Jvm.MethodName) prog_4_method_11_code (2 : Nat) (Option.some Jvm.ClassFile.FieldType.boolean)) ∈ BIG := tb2 77 rfl rfl
theorem wd_2_78 : (Jvm.Cond.methodLink "PageHold" (124 : Nat) ({ cls := "PageHold", name := "flush", desc := "(I)Z" } : Jvm.MethodName)) ∈ BIG := tb2 78 rfl rfl
theorem wd_2_80 : (Jvm.Cond.instanceMethod ({ cls := "PageHold", name := "flush", desc := "(I)Z" } : Jvm.MethodName)) ∈ BIG := tb2 80 rfl rfl
theorem wd_2_81 : (Jvm.Cond.code ({ cls := "PageHold", name := "flush", desc := "(I)Z" } : Jvm.MethodName) prog_1_method_38_code (5 : Nat) (Option.some Jvm.ClassFile.FieldType.boolean)) ∈ BIG := tb2 81 rfl rfl
theorem wd_2_82 : (Jvm.Cond.methodLink "PageHold" (320 : Nat) ({ cls := "PageHold$Frames", name := "spotIn", desc := "(I)I" } : Jvm.MethodName)) ∈ BIG := tb2 82 rfl rfl
theorem wd_2_83 : (Jvm.Cond.instanceMethod ({ cls := "PageHold$Frames", name := "spotIn", desc := "(I)I" } : Jvm.MethodName)) ∈ BIG := tb2 83 rfl rfl
theorem wd_2_84 : (Jvm.Cond.selects "PageHold$Frames" ({ cls := "PageHold$Frames", name := "spotIn", desc := "(I)I" } : Jvm.MethodName) ({ cls := "PageHold$Frames", name := "spotIn", desc := "(I)I" } : Jvm.MethodName)) ∈ BIG := tb2 84 rfl rfl
theorem wd_2_85 : (Jvm.Cond.code ({ cls := "PageHold$Frames", name := "spotIn", desc := "(I)I" } : Jvm.MethodName) prog_4_method_3_code (2 : Nat) (Option.some Jvm.ClassFile.FieldType.int)) ∈ BIG := tb2 85 rfl rfl
theorem wd_2_86 : (Jvm.Cond.methodLink "PageHold" (130 : Nat) ({ cls := "PageHold", name := "giveBlock", desc := "(I)Z" } : Jvm.MethodName)) ∈ BIG := tb2 86 rfl rfl
theorem wd_2_88 : (Jvm.Cond.instanceMethod ({ cls := "PageHold", name := "giveBlock", desc := "(I)Z" } : Jvm.MethodName)) ∈ BIG := tb2 88 rfl rfl
theorem wd_2_89 : (Jvm.Cond.code ({ cls := "PageHold", name := "giveBlock", desc := "(I)Z" } : Jvm.MethodName) prog_1_method_39_code (2 : Nat) (Option.some Jvm.ClassFile.FieldType.boolean)) ∈ BIG := tb2 89 rfl rfl
theorem wd_2_90 : (Jvm.Cond.methodLink "PageHold" (336 : Nat) ({ cls := "PageHold$Disk", name := "leastFree", desc := "()I" } : Jvm.MethodName)) ∈ BIG := tb2 90 rfl rfl
theorem wd_2_91 : (Jvm.Cond.instanceMethod ({ cls := "PageHold$Disk", name := "leastFree", desc := "()I" } : Jvm.MethodName)) ∈ BIG := tb2 91 rfl rfl
theorem wd_2_92 : (Jvm.Cond.selects "PageHold$Disk" ({ cls := "PageHold$Disk", name := "leastFree", desc := "()I" } : Jvm.MethodName) ({ cls := "PageHold$Disk", name := "leastFree", desc := "()I" } : Jvm.MethodName)) ∈ BIG := tb2 92 rfl rfl
theorem wd_2_93 : (Jvm.Cond.code ({ cls := "PageHold$Disk", name := "leastFree", desc := "()I" } : Jvm.MethodName) prog_2_method_4_code (2 : Nat) (Option.some Jvm.ClassFile.FieldType.int)) ∈ BIG := tb2 93 rfl rfl
theorem wd_2_94 : (Jvm.Cond.methodLink "PageHold" (330 : Nat) ({ cls := "PageHold$Files", name := "setError", desc := "(II)V" } : Jvm.MethodName)) ∈ BIG := tb2 94 rfl rfl
theorem wd_2_95 : (Jvm.Cond.instanceMethod ({ cls := "PageHold$Files", name := "setError", desc := "(II)V" } : Jvm.MethodName)) ∈ BIG := tb2 95 rfl rfl
theorem wd_2_96 : (Jvm.Cond.selects "PageHold$Files" ({ cls := "PageHold$Files", name := "setError", desc := "(II)V" } : Jvm.MethodName) ({ cls := "PageHold$Files", name := "setError", desc := "(II)V" } : Jvm.MethodName)) ∈ BIG := tb2 96 rfl rfl
theorem wd_2_97 : (Jvm.Cond.code ({ cls := "PageHold$Files", name := "setError", desc := "(II)V" } : Jvm.MethodName) prog_3_method_3_code (3 : Nat) (Option.none : Option Jvm.ClassFile.FieldType)) ∈ BIG := tb2 97 rfl rfl
theorem wd_2_98 : (Jvm.Cond.methodLink "PageHold" (326 : Nat) ({ cls := "PageHold$Disk", name := "save", desc := "(ILPageHold$Words;II)Z" } : Jvm.MethodName)) ∈ BIG := tb2 98 rfl rfl
theorem wd_2_99 : (Jvm.Cond.instanceMethod ({ cls := "PageHold$Disk", name := "save", desc := "(ILPageHold$Words;II)Z" } : Jvm.MethodName)) ∈ BIG := tb2 99 rfl rfl
theorem wd_2_100 : (Jvm.Cond.selects "PageHold$Disk" ({ cls := "PageHold$Disk", name := "save", desc := "(ILPageHold$Words;II)Z" } : Jvm.MethodName) ({ cls := "PageHold$Disk", name := "save", desc := "(ILPageHold$Words;II)Z" } : Jvm.MethodName)) ∈ BIG := tb2 100 rfl rfl
theorem wd_2_101 : (Jvm.Cond.code ({ cls := "PageHold$Disk", name := "save", desc := "(ILPageHold$Words;II)Z" } : Jvm.MethodName) prog_2_method_7_code (5 : Nat) (Option.some Jvm.ClassFile.FieldType.boolean)) ∈ BIG := tb2 101 rfl rfl
theorem wd_2_102 : (Jvm.Cond.methodLink "PageHold$Disk" (60 : Nat) ({ cls := "PageHold$Disk", name := "has", desc := "(I)Z" } : Jvm.MethodName)) ∈ BIG := tb2 102 rfl rfl
theorem wd_2_103 : (Jvm.Cond.instanceMethod ({ cls := "PageHold$Disk", name := "has", desc := "(I)Z" } : Jvm.MethodName)) ∈ BIG := tb2 103 rfl rfl
theorem wd_2_104 : (Jvm.Cond.selects "PageHold$Disk" ({ cls := "PageHold$Disk", name := "has", desc := "(I)Z" } : Jvm.MethodName) ({ cls := "PageHold$Disk", name := "has", desc := "(I)Z" } : Jvm.MethodName)) ∈ BIG := tb2 104 rfl rfl
theorem wd_2_105 : (Jvm.Cond.code ({ cls := "PageHold$Disk", name := "has", desc := "(I)Z" } : Jvm.MethodName) prog_2_method_3_code (2 : Nat) (Option.some Jvm.ClassFile.FieldType.boolean)) ∈ BIG := tb2 105 rfl rfl
theorem wd_2_106 : (Jvm.Cond.methodLink "PageHold$Disk" (64 : Nat) ({ cls := "PageHold$Words", name := "copyPage", desc := "(ILPageHold$Words;I)V" } : Jvm.MethodName)) ∈ BIG := tb2 106 rfl rfl
theorem wd_2_107 : (Jvm.Cond.instanceMethod ({ cls := "PageHold$Words", name := "copyPage", desc := "(ILPageHold$Words;I)V" } : Jvm.MethodName)) ∈ BIG := tb2 107 rfl rfl
theorem wd_2_108 : (Jvm.Cond.selects "PageHold$Words" ({ cls := "PageHold$Words", name := "copyPage", desc := "(ILPageHold$Words;I)V" } : Jvm.MethodName) ({ cls := "PageHold$Words", name := "copyPage", desc := "(ILPageHold$Words;I)V" } : Jvm.MethodName)) ∈ BIG := tb2 108 rfl rfl
theorem wd_2_109 : (Jvm.Cond.code ({ cls := "PageHold$Words", name := "copyPage", desc := "(ILPageHold$Words;I)V" } : Jvm.MethodName) prog_7_method_5_code (8 : Nat) (Option.none : Option Jvm.ClassFile.FieldType)) ∈ BIG := tb2 109 rfl rfl
theorem wd_2_110 : (Jvm.Cond.methodLink "PageHold$Disk" (72 : Nat) ({ cls := "PageHold$Words", name := "clear", desc := "(II)V" } : Jvm.MethodName)) ∈ BIG := tb2 110 rfl rfl
theorem wd_2_111 : (Jvm.Cond.instanceMethod ({ cls := "PageHold$Words", name := "clear", desc := "(II)V" } : Jvm.MethodName)) ∈ BIG := tb2 111 rfl rfl
theorem wd_2_112 : (Jvm.Cond.selects "PageHold$Words" ({ cls := "PageHold$Words", name := "clear", desc := "(II)V" } : Jvm.MethodName) ({ cls := "PageHold$Words", name := "clear", desc := "(II)V" } : Jvm.MethodName)) ∈ BIG := tb2 112 rfl rfl
theorem wd_2_113 : (Jvm.Cond.code ({ cls := "PageHold$Words", name := "clear", desc := "(II)V" } : Jvm.MethodName) prog_7_method_4_code (4 : Nat) (Option.none : Option Jvm.ClassFile.FieldType)) ∈ BIG := tb2 113 rfl rfl
theorem wd_2_114 : (Jvm.Cond.constantLong "PageHold$Words" (21 : Nat) (255 : Int64)) ∈ BIG := tb2 114 rfl rfl
theorem wd_2_115 : (Jvm.Cond.constantLong "PageHold$Words" (23 : Nat) (-1 : Int64)) ∈ BIG := tb2 115 rfl rfl
theorem wd_2_116 : (Jvm.Cond.methodLink "PageHold$Disk" (68 : Nat) ({ cls := "PageHold$Disk", name := "note", desc := "(II)V" } : Jvm.MethodName)) ∈ BIG := tb2 116 rfl rfl
theorem wd_2_118 : (Jvm.Cond.instanceMethod ({ cls := "PageHold$Disk", name := "note", desc := "(II)V" } : Jvm.MethodName)) ∈ BIG := tb2 118 rfl rfl
theorem wd_2_119 : (Jvm.Cond.code ({ cls := "PageHold$Disk", name := "note", desc := "(II)V" } : Jvm.MethodName) prog_2_method_8_code (4 : Nat) (Option.none : Option Jvm.ClassFile.FieldType)) ∈ BIG := tb2 119 rfl rfl
theorem wd_2_120 : (Jvm.Cond.methodLink "PageHold" (333 : Nat) ({ cls := "PageHold$Frames", name := "clean", desc := "(I)V" } : Jvm.MethodName)) ∈ BIG := tb2 120 rfl rfl
theorem wd_2_121 : (Jvm.Cond.instanceMethod ({ cls := "PageHold$Frames", name := "clean", desc := "(I)V" } : Jvm.MethodName)) ∈ BIG := tb2 121 rfl rfl
theorem wd_2_122 : (Jvm.Cond.selects "PageHold$Frames" ({ cls := "PageHold$Frames", name := "clean", desc := "(I)V" } : Jvm.MethodName) ({ cls := "PageHold$Frames", name := "clean", desc := "(I)V" } : Jvm.MethodName)) ∈ BIG := tb2 122 rfl rfl
theorem wd_2_123 : (Jvm.Cond.code ({ cls := "PageHold$Frames", name := "clean", desc := "(I)V" } : Jvm.MethodName) prog_4_method_13_code (2 : Nat) (Option.none : Option Jvm.ClassFile.FieldType)) ∈ BIG := tb2 123 rfl rfl
theorem wd_2_124 : (Jvm.Cond.methodLink "PageHold$Frames" (102 : Nat) ({ cls := "PageHold$Frames", name := "isDirty", desc := "(I)Z" } : Jvm.MethodName)) ∈ BIG := tb2 124 rfl rfl
theorem wd_2_125 : (Jvm.Cond.methodLink "PageHold" (300 : Nat) ({ cls := "PageHold", name := "lookAtActive", desc := "()I" } : Jvm.MethodName)) ∈ BIG := tb2 125 rfl rfl
theorem wd_2_127 : (Jvm.Cond.instanceMethod ({ cls := "PageHold", name := "lookAtActive", desc := "()I" } : Jvm.MethodName)) ∈ BIG := tb2 127 rfl rfl
theorem wd_2_128 : (Jvm.Cond.code ({ cls := "PageHold", name := "lookAtActive", desc := "()I" } : Jvm.MethodName) prog_1_method_36_code (3 : Nat) (Option.some Jvm.ClassFile.FieldType.int)) ∈ BIG := tb2 128 rfl rfl
theorem wd_2_129 : (Jvm.Cond.methodLink "PageHold" (218 : Nat) ({ cls := "PageHold$Order", name := "at", desc := "(I)I" } : Jvm.MethodName)) ∈ BIG := tb2 129 rfl rfl
theorem wd_2_130 : (Jvm.Cond.methodLink "PageHold" (150 : Nat) ({ cls := "PageHold", name := "evict", desc := "(I)V" } : Jvm.MethodName)) ∈ BIG := tb2 130 rfl rfl
theorem wd_2_132 : (Jvm.Cond.instanceMethod ({ cls := "PageHold", name := "evict", desc := "(I)V" } : Jvm.MethodName)) ∈ BIG := tb2 132 rfl rfl
theorem wd_2_133 : (Jvm.Cond.code ({ cls := "PageHold", name := "evict", desc := "(I)V" } : Jvm.MethodName) prog_1_method_37_code (3 : Nat) (Option.none : Option Jvm.ClassFile.FieldType)) ∈ BIG := tb2 133 rfl rfl
theorem wd_2_134 : (Jvm.Cond.methodLink "PageHold" (156 : Nat) ({ cls := "PageHold$Frames", name := "leave", desc := "(I)V" } : Jvm.MethodName)) ∈ BIG := tb2 134 rfl rfl
theorem wd_2_135 : (Jvm.Cond.instanceMethod ({ cls := "PageHold$Frames", name := "leave", desc := "(I)V" } : Jvm.MethodName)) ∈ BIG := tb2 135 rfl rfl
theorem wd_2_136 : (Jvm.Cond.selects "PageHold$Frames" ({ cls := "PageHold$Frames", name := "leave", desc := "(I)V" } : Jvm.MethodName) ({ cls := "PageHold$Frames", name := "leave", desc := "(I)V" } : Jvm.MethodName)) ∈ BIG := tb2 136 rfl rfl
theorem wd_2_137 : (Jvm.Cond.code ({ cls := "PageHold$Frames", name := "leave", desc := "(I)V" } : Jvm.MethodName) prog_4_method_6_code (4 : Nat) (Option.none : Option Jvm.ClassFile.FieldType)) ∈ BIG := tb2 137 rfl rfl
theorem wd_2_138 : (Jvm.Cond.methodLink "PageHold$Frames" (75 : Nat) ({ cls := "PageHold$Frames", name := "spotIn", desc := "(I)I" } : Jvm.MethodName)) ∈ BIG := tb2 138 rfl rfl
theorem wd_2_139 : (Jvm.Cond.methodLink "PageHold$Frames" (79 : Nat) ({ cls := "PageHold$Frames", name := "clean", desc := "(I)V" } : Jvm.MethodName)) ∈ BIG := tb2 139 rfl rfl
theorem wd_2_140 : (Jvm.Cond.methodLink "PageHold$Frames" (82 : Nat) ({ cls := "PageHold$Frames", name := "setPinned", desc := "(IZ)V" } : Jvm.MethodName)) ∈ BIG := tb2 140 rfl rfl
theorem wd_2_141 : (Jvm.Cond.instanceMethod ({ cls := "PageHold$Frames", name := "setPinned", desc := "(IZ)V" } : Jvm.MethodName)) ∈ BIG := tb2 141 rfl rfl
theorem wd_2_142 : (Jvm.Cond.selects "PageHold$Frames" ({ cls := "PageHold$Frames", name := "setPinned", desc := "(IZ)V" } : Jvm.MethodName) ({ cls := "PageHold$Frames", name := "setPinned", desc := "(IZ)V" } : Jvm.MethodName)) ∈ BIG := tb2 142 rfl rfl
theorem wd_2_143 : (Jvm.Cond.code ({ cls := "PageHold$Frames", name := "setPinned", desc := "(IZ)V" } : Jvm.MethodName) prog_4_method_14_code (3 : Nat) (Option.none : Option Jvm.ClassFile.FieldType)) ∈ BIG := tb2 143 rfl rfl
theorem wd_2_144 : (Jvm.Cond.methodLink "PageHold" (323 : Nat) ({ cls := "PageHold$Shadows", name := "add", desc := "(I)V" } : Jvm.MethodName)) ∈ BIG := tb2 144 rfl rfl
theorem wd_2_145 : (Jvm.Cond.instanceMethod ({ cls := "PageHold$Shadows", name := "add", desc := "(I)V" } : Jvm.MethodName)) ∈ BIG := tb2 145 rfl rfl
theorem wd_2_146 : (Jvm.Cond.selects "PageHold$Shadows" ({ cls := "PageHold$Shadows", name := "add", desc := "(I)V" } : Jvm.MethodName) ({ cls := "PageHold$Shadows", name := "add", desc := "(I)V" } : Jvm.MethodName)) ∈ BIG := tb2 146 rfl rfl
theorem wd_2_147 : (Jvm.Cond.code ({ cls := "PageHold$Shadows", name := "add", desc := "(I)V" } : Jvm.MethodName) prog_6_method_4_code (2 : Nat) (Option.none : Option Jvm.ClassFile.FieldType)) ∈ BIG := tb2 147 rfl rfl
theorem wd_2_148 : (Jvm.Cond.methodLink "PageHold$Shadows" (41 : Nat) ({ cls := "PageHold$Shadows", name := "forget", desc := "(I)V" } : Jvm.MethodName)) ∈ BIG := tb2 148 rfl rfl
theorem wd_2_149 : (Jvm.Cond.instanceMethod ({ cls := "PageHold$Shadows", name := "forget", desc := "(I)V" } : Jvm.MethodName)) ∈ BIG := tb2 149 rfl rfl
theorem wd_2_150 : (Jvm.Cond.selects "PageHold$Shadows" ({ cls := "PageHold$Shadows", name := "forget", desc := "(I)V" } : Jvm.MethodName) ({ cls := "PageHold$Shadows", name := "forget", desc := "(I)V" } : Jvm.MethodName)) ∈ BIG := tb2 150 rfl rfl
theorem wd_2_151 : (Jvm.Cond.code ({ cls := "PageHold$Shadows", name := "forget", desc := "(I)V" } : Jvm.MethodName) prog_6_method_5_code (3 : Nat) (Option.none : Option Jvm.ClassFile.FieldType)) ∈ BIG := tb2 151 rfl rfl
theorem wd_2_152 : (Jvm.Cond.methodLink "PageHold$Shadows" (37 : Nat) ({ cls := "PageHold$Shadows", name := "of", desc := "(I)I" } : Jvm.MethodName)) ∈ BIG := tb2 152 rfl rfl
theorem wd_2_153 : (Jvm.Cond.instanceMethod ({ cls := "PageHold$Shadows", name := "of", desc := "(I)I" } : Jvm.MethodName)) ∈ BIG := tb2 153 rfl rfl
theorem wd_2_154 : (Jvm.Cond.selects "PageHold$Shadows" ({ cls := "PageHold$Shadows", name := "of", desc := "(I)I" } : Jvm.MethodName) ({ cls := "PageHold$Shadows", name := "of", desc := "(I)I" } : Jvm.MethodName)) ∈ BIG := tb2 154 rfl rfl
theorem wd_2_155 : (Jvm.Cond.code ({ cls := "PageHold$Shadows", name := "of", desc := "(I)I" } : Jvm.MethodName) prog_6_method_2_code (2 : Nat) (Option.some Jvm.ClassFile.FieldType.int)) ∈ BIG := tb2 155 rfl rfl
theorem wd_2_156 : (Jvm.Cond.methodLink "PageHold$Shadows" (45 : Nat) ({ cls := "java/lang/System", name := "arraycopy", desc := "(Ljava/lang/Object;ILjava/lang/Object;II)V" } : Jvm.MethodName)) ∈ BIG := tb2 156 rfl rfl
theorem wd_2_157 : (Jvm.Cond.methodLink "PageHold" (279 : Nat) ({ cls := "PageHold$Words", name := "clear", desc := "(II)V" } : Jvm.MethodName)) ∈ BIG := tb2 157 rfl rfl
theorem wd_2_158 : (Jvm.Cond.methodLink "PageHold" (303 : Nat) ({ cls := "PageHold$Disk", name := "load", desc := "(ILPageHold$Words;I)V" } : Jvm.MethodName)) ∈ BIG := tb2 158 rfl rfl
theorem wd_2_159 : (Jvm.Cond.instanceMethod ({ cls := "PageHold$Disk", name := "load", desc := "(ILPageHold$Words;I)V" } : Jvm.MethodName)) ∈ BIG := tb2 159 rfl rfl
theorem wd_2_160 : (Jvm.Cond.selects "PageHold$Disk" ({ cls := "PageHold$Disk", name := "load", desc := "(ILPageHold$Words;I)V" } : Jvm.MethodName) ({ cls := "PageHold$Disk", name := "load", desc := "(ILPageHold$Words;I)V" } : Jvm.MethodName)) ∈ BIG := tb2 160 rfl rfl
theorem wd_2_161 : (Jvm.Cond.code ({ cls := "PageHold$Disk", name := "load", desc := "(ILPageHold$Words;I)V" } : Jvm.MethodName) prog_2_method_6_code (4 : Nat) (Option.none : Option Jvm.ClassFile.FieldType)) ∈ BIG := tb2 161 rfl rfl
theorem wd_2_162 : (Jvm.Cond.methodLink "PageHold" (307 : Nat) ({ cls := "PageHold$Shadows", name := "isRecent", desc := "(II)Z" } : Jvm.MethodName)) ∈ BIG := tb2 162 rfl rfl
theorem wd_2_163 : (Jvm.Cond.instanceMethod ({ cls := "PageHold$Shadows", name := "isRecent", desc := "(II)Z" } : Jvm.MethodName)) ∈ BIG := tb2 163 rfl rfl
theorem wd_2_164 : (Jvm.Cond.selects "PageHold$Shadows" ({ cls := "PageHold$Shadows", name := "isRecent", desc := "(II)Z" } : Jvm.MethodName) ({ cls := "PageHold$Shadows", name := "isRecent", desc := "(II)Z" } : Jvm.MethodName)) ∈ BIG := tb2 164 rfl rfl
theorem wd_2_165 : (Jvm.Cond.code ({ cls := "PageHold$Shadows", name := "isRecent", desc := "(II)Z" } : Jvm.MethodName) prog_6_method_3_code (4 : Nat) (Option.some Jvm.ClassFile.FieldType.boolean)) ∈ BIG := tb2 165 rfl rfl
theorem wd_2_166 : (Jvm.Cond.methodLink "PageHold" (282 : Nat) ({ cls := "PageHold$Shadows", name := "forget", desc := "(I)V" } : Jvm.MethodName)) ∈ BIG := tb2 166 rfl rfl
theorem wd_2_167 : (Jvm.Cond.methodLink "PageHold" (310 : Nat) ({ cls := "PageHold$Frames", name := "enter", desc := "(IIZ)V" } : Jvm.MethodName)) ∈ BIG := tb2 167 rfl rfl
theorem wd_2_168 : (Jvm.Cond.instanceMethod ({ cls := "PageHold$Frames", name := "enter", desc := "(IIZ)V" } : Jvm.MethodName)) ∈ BIG := tb2 168 rfl rfl
theorem wd_2_169 : (Jvm.Cond.selects "PageHold$Frames" ({ cls := "PageHold$Frames", name := "enter", desc := "(IIZ)V" } : Jvm.MethodName) ({ cls := "PageHold$Frames", name := "enter", desc := "(IIZ)V" } : Jvm.MethodName)) ∈ BIG := tb2 169 rfl rfl
theorem wd_2_170 : (Jvm.Cond.code ({ cls := "PageHold$Frames", name := "enter", desc := "(IIZ)V" } : Jvm.MethodName) prog_4_method_5_code (5 : Nat) (Option.none : Option Jvm.ClassFile.FieldType)) ∈ BIG := tb2 170 rfl rfl
theorem wd_2_171 : (Jvm.Cond.methodLink "PageHold" (288 : Nat) ({ cls := "PageHold$Frames", name := "seeAgain", desc := "(I)V" } : Jvm.MethodName)) ∈ BIG := tb2 171 rfl rfl
theorem wd_2_172 : (Jvm.Cond.instanceMethod ({ cls := "PageHold$Frames", name := "seeAgain", desc := "(I)V" } : Jvm.MethodName)) ∈ BIG := tb2 172 rfl rfl
theorem wd_2_173 : (Jvm.Cond.selects "PageHold$Frames" ({ cls := "PageHold$Frames", name := "seeAgain", desc := "(I)V" } : Jvm.MethodName) ({ cls := "PageHold$Frames", name := "seeAgain", desc := "(I)V" } : Jvm.MethodName)) ∈ BIG := tb2 173 rfl rfl
theorem wd_2_174 : (Jvm.Cond.code ({ cls := "PageHold$Frames", name := "seeAgain", desc := "(I)V" } : Jvm.MethodName) prog_4_method_8_code (2 : Nat) (Option.none : Option Jvm.ClassFile.FieldType)) ∈ BIG := tb2 174 rfl rfl
theorem wd_2_175 : (Jvm.Cond.methodLink "PageHold" (263 : Nat) ({ cls := "java/lang/Math", name := "max", desc := "(II)I" } : Jvm.MethodName)) ∈ BIG := tb2 175 rfl rfl
theorem wd_2_176 : (Jvm.Cond.methodLink "PageHold" (86 : Nat) ({ cls := "PageHold$Words", name := "byteAt", desc := "(I)I" } : Jvm.MethodName)) ∈ BIG := tb2 176 rfl rfl
theorem wd_2_177 : (Jvm.Cond.instanceMethod ({ cls := "PageHold$Words", name := "byteAt", desc := "(I)I" } : Jvm.MethodName)) ∈ BIG := tb2 177 rfl rfl
theorem wd_2_178 : (Jvm.Cond.selects "PageHold$Words" ({ cls := "PageHold$Words", name := "byteAt", desc := "(I)I" } : Jvm.MethodName) ({ cls := "PageHold$Words", name := "byteAt", desc := "(I)I" } : Jvm.MethodName)) ∈ BIG := tb2 178 rfl rfl
theorem wd_2_179 : (Jvm.Cond.code ({ cls := "PageHold$Words", name := "byteAt", desc := "(I)I" } : Jvm.MethodName) prog_7_method_2_code (2 : Nat) (Option.some Jvm.ClassFile.FieldType.int)) ∈ BIG := tb2 179 rfl rfl
theorem wd_2_180 : (Jvm.Cond.methodLink "PageHold" (94 : Nat) ({ cls := "PageHold$Words", name := "put", desc := "(II)V" } : Jvm.MethodName)) ∈ BIG := tb2 180 rfl rfl
theorem wd_2_181 : (Jvm.Cond.instanceMethod ({ cls := "PageHold$Words", name := "put", desc := "(II)V" } : Jvm.MethodName)) ∈ BIG := tb2 181 rfl rfl
theorem wd_2_182 : (Jvm.Cond.selects "PageHold$Words" ({ cls := "PageHold$Words", name := "put", desc := "(II)V" } : Jvm.MethodName) ({ cls := "PageHold$Words", name := "put", desc := "(II)V" } : Jvm.MethodName)) ∈ BIG := tb2 182 rfl rfl
theorem wd_2_183 : (Jvm.Cond.code ({ cls := "PageHold$Words", name := "put", desc := "(II)V" } : Jvm.MethodName) prog_7_method_3_code (6 : Nat) (Option.none : Option Jvm.ClassFile.FieldType)) ∈ BIG := tb2 183 rfl rfl
theorem wd_2_184 : (Jvm.Cond.methodLink "PageHold" (267 : Nat) ({ cls := "PageHold", name := "bringAhead", desc := "(II)V" } : Jvm.MethodName)) ∈ BIG := tb2 184 rfl rfl
theorem wd_2_186 : (Jvm.Cond.instanceMethod ({ cls := "PageHold", name := "bringAhead", desc := "(II)V" } : Jvm.MethodName)) ∈ BIG := tb2 186 rfl rfl
theorem wd_2_187 : (Jvm.Cond.code ({ cls := "PageHold", name := "bringAhead", desc := "(II)V" } : Jvm.MethodName) prog_1_method_29_code (9 : Nat) (Option.none : Option Jvm.ClassFile.FieldType)) ∈ BIG := tb2 187 rfl rfl
theorem wd_2_188 : (Jvm.Cond.methodLink "PageHold" (102 : Nat) ({ cls := "PageHold", name := "pagesIn", desc := "(I)I" } : Jvm.MethodName)) ∈ BIG := tb2 188 rfl rfl
theorem wd_2_189 : (Jvm.Cond.static ({ cls := "PageHold", name := "pagesIn", desc := "(I)I" } : Jvm.MethodName)) ∈ BIG := tb2 189 rfl rfl
theorem wd_2_190 : (Jvm.Cond.code ({ cls := "PageHold", name := "pagesIn", desc := "(I)I" } : Jvm.MethodName) prog_1_method_27_code (1 : Nat) (Option.some Jvm.ClassFile.FieldType.int)) ∈ BIG := tb2 190 rfl rfl
theorem wd_2_191 : (Jvm.Cond.methodLink "PageHoldLaw" (26 : Nat) ({ cls := "PageHold", name := "hand", desc := "(I)I" } : Jvm.MethodName)) ∈ BIG := tb2 191 rfl rfl
theorem wd_2_192 : (Jvm.Cond.instanceMethod ({ cls := "PageHold", name := "hand", desc := "(I)I" } : Jvm.MethodName)) ∈ BIG := tb2 192 rfl rfl
theorem wd_2_193 : (Jvm.Cond.selects "PageHold" ({ cls := "PageHold", name := "hand", desc := "(I)I" } : Jvm.MethodName) ({ cls := "PageHold", name := "hand", desc := "(I)I" } : Jvm.MethodName)) ∈ BIG := tb2 193 rfl rfl
theorem wd_2_194 : (Jvm.Cond.code ({ cls := "PageHold", name := "hand", desc := "(I)I" } : Jvm.MethodName) prog_1_method_3_code (2 : Nat) (Option.some Jvm.ClassFile.FieldType.int)) ∈ BIG := tb2 194 rfl rfl
theorem wd_2_195 : (Jvm.Cond.methodLink "PageHoldLaw" (33 : Nat) ({ cls := "PageHold", name := "write", desc := "(IIJI)I" } : Jvm.MethodName)) ∈ BIG := tb2 195 rfl rfl
theorem wd_2_196 : (Jvm.Cond.instanceMethod ({ cls := "PageHold", name := "write", desc := "(IIJI)I" } : Jvm.MethodName)) ∈ BIG := tb2 196 rfl rfl
theorem wd_2_197 : (Jvm.Cond.selects "PageHold" ({ cls := "PageHold", name := "write", desc := "(IIJI)I" } : Jvm.MethodName) ({ cls := "PageHold", name := "write", desc := "(IIJI)I" } : Jvm.MethodName)) ∈ BIG := tb2 197 rfl rfl
theorem wd_2_198 : (Jvm.Cond.code ({ cls := "PageHold", name := "write", desc := "(IIJI)I" } : Jvm.MethodName) prog_1_method_4_code (7 : Nat) (Option.some Jvm.ClassFile.FieldType.int)) ∈ BIG := tb2 198 rfl rfl
theorem wd_2_199 : (Jvm.Cond.methodLink "PageHold" (90 : Nat) ({ cls := "PageHold", name := "isStretch", desc := "(III)Z" } : Jvm.MethodName)) ∈ BIG := tb2 199 rfl rfl
theorem wd_2_200 : (Jvm.Cond.static ({ cls := "PageHold", name := "isStretch", desc := "(III)Z" } : Jvm.MethodName)) ∈ BIG := tb2 200 rfl rfl
theorem wd_2_201 : (Jvm.Cond.code ({ cls := "PageHold", name := "isStretch", desc := "(III)Z" } : Jvm.MethodName) prog_1_method_25_code (3 : Nat) (Option.some Jvm.ClassFile.FieldType.boolean)) ∈ BIG := tb2 201 rfl rfl
theorem wd_2_202 : (Jvm.Cond.methodLink "PageHold" (98 : Nat) ({ cls := "PageHold", name := "putRow", desc := "(III)I" } : Jvm.MethodName)) ∈ BIG := tb2 202 rfl rfl
theorem wd_2_204 : (Jvm.Cond.instanceMethod ({ cls := "PageHold", name := "putRow", desc := "(III)I" } : Jvm.MethodName)) ∈ BIG := tb2 204 rfl rfl
theorem wd_2_205 : (Jvm.Cond.code ({ cls := "PageHold", name := "putRow", desc := "(III)I" } : Jvm.MethodName) prog_1_method_30_code (11 : Nat) (Option.some Jvm.ClassFile.FieldType.int)) ∈ BIG := tb2 205 rfl rfl
theorem wd_2_206 : (Jvm.Cond.methodLink "PageHold" (273 : Nat) ({ cls := "PageHold$Frames", name := "soil", desc := "(II)V" } : Jvm.MethodName)) ∈ BIG := tb2 206 rfl rfl
theorem wd_2_207 : (Jvm.Cond.instanceMethod ({ cls := "PageHold$Frames", name := "soil", desc := "(II)V" } : Jvm.MethodName)) ∈ BIG := tb2 207 rfl rfl
theorem wd_2_208 : (Jvm.Cond.selects "PageHold$Frames" ({ cls := "PageHold$Frames", name := "soil", desc := "(II)V" } : Jvm.MethodName) ({ cls := "PageHold$Frames", name := "soil", desc := "(II)V" } : Jvm.MethodName)) ∈ BIG := tb2 208 rfl rfl
theorem wd_2_209 : (Jvm.Cond.code ({ cls := "PageHold$Frames", name := "soil", desc := "(II)V" } : Jvm.MethodName) prog_4_method_12_code (3 : Nat) (Option.none : Option Jvm.ClassFile.FieldType)) ∈ BIG := tb2 209 rfl rfl
theorem wd_2_210 : (Jvm.Cond.methodLink "PageHold" (276 : Nat) ({ cls := "PageHold", name := "writeSurplus", desc := "()V" } : Jvm.MethodName)) ∈ BIG := tb2 210 rfl rfl
theorem wd_2_212 : (Jvm.Cond.instanceMethod ({ cls := "PageHold", name := "writeSurplus", desc := "()V" } : Jvm.MethodName)) ∈ BIG := tb2 212 rfl rfl
theorem wd_2_213 : (Jvm.Cond.code ({ cls := "PageHold", name := "writeSurplus", desc := "()V" } : Jvm.MethodName) prog_1_method_40_code (5 : Nat) (Option.none : Option Jvm.ClassFile.FieldType)) ∈ BIG := tb2 213 rfl rfl
theorem wd_2_214 : (Jvm.Cond.constantLong "PageHold" (337 : Nat) (-1 : Int64)) ∈ BIG := tb2 214 rfl rfl
theorem wd_2_215 : (Jvm.Cond.methodLink "PageHold" (339 : Nat) ({ cls := "PageHold$Frames", name := "oldestDirty", desc := "(J)I" } : Jvm.MethodName)) ∈ BIG := tb2 215 rfl rfl
theorem wd_2_216 : (Jvm.Cond.instanceMethod ({ cls := "PageHold$Frames", name := "oldestDirty", desc := "(J)I" } : Jvm.MethodName)) ∈ BIG := tb2 216 rfl rfl
theorem wd_2_217 : (Jvm.Cond.selects "PageHold$Frames" ({ cls := "PageHold$Frames", name := "oldestDirty", desc := "(J)I" } : Jvm.MethodName) ({ cls := "PageHold$Frames", name := "oldestDirty", desc := "(J)I" } : Jvm.MethodName)) ∈ BIG := tb2 217 rfl rfl
theorem wd_2_218 : (Jvm.Cond.code ({ cls := "PageHold$Frames", name := "oldestDirty", desc := "(J)I" } : Jvm.MethodName) prog_4_method_16_code (9 : Nat) (Option.some Jvm.ClassFile.FieldType.int)) ∈ BIG := tb2 218 rfl rfl
theorem wd_2_219 : (Jvm.Cond.methodLink "PageHold$Frames" (110 : Nat) ({ cls := "PageHold$Frames", name := "ageKey", desc := "(I)J" } : Jvm.MethodName)) ∈ BIG := tb2 219 rfl rfl
theorem wd_2_220 : (Jvm.Cond.instanceMethod ({ cls := "PageHold$Frames", name := "ageKey", desc := "(I)J" } : Jvm.MethodName)) ∈ BIG := tb2 220 rfl rfl
theorem wd_2_221 : (Jvm.Cond.selects "PageHold$Frames" ({ cls := "PageHold$Frames", name := "ageKey", desc := "(I)J" } : Jvm.MethodName) ({ cls := "PageHold$Frames", name := "ageKey", desc := "(I)J" } : Jvm.MethodName)) ∈ BIG := tb2 221 rfl rfl
theorem wd_2_222 : (Jvm.Cond.code ({ cls := "PageHold$Frames", name := "ageKey", desc := "(I)J" } : Jvm.MethodName) prog_4_method_15_code (2 : Nat) (Option.some Jvm.ClassFile.FieldType.long)) ∈ BIG := tb2 222 rfl rfl
theorem wd_2_223 : (Jvm.Cond.constantLong "PageHold$Frames" (106 : Nat) (3072 : Int64)) ∈ BIG := tb2 223 rfl rfl
theorem wd_2_224 : (Jvm.Cond.constantLong "PageHold$Frames" (108 : Nat) (-1 : Int64)) ∈ BIG := tb2 224 rfl rfl
theorem wd_2_225 : (Jvm.Cond.methodLink "PageHold" (343 : Nat) ({ cls := "PageHold$Frames", name := "ageKey", desc := "(I)J" } : Jvm.MethodName)) ∈ BIG := tb2 225 rfl rfl
theorem wd_2_226 : (Jvm.Cond.methodLink "PageHoldLaw" (38 : Nat) ({ cls := "PageHold", name := "fill", desc := "(IIII)I" } : Jvm.MethodName)) ∈ BIG := tb2 226 rfl rfl
theorem wd_2_227 : (Jvm.Cond.instanceMethod ({ cls := "PageHold", name := "fill", desc := "(IIII)I" } : Jvm.MethodName)) ∈ BIG := tb2 227 rfl rfl
theorem wd_2_228 : (Jvm.Cond.selects "PageHold" ({ cls := "PageHold", name := "fill", desc := "(IIII)I" } : Jvm.MethodName) ({ cls := "PageHold", name := "fill", desc := "(IIII)I" } : Jvm.MethodName)) ∈ BIG := tb2 228 rfl rfl
theorem wd_2_229 : (Jvm.Cond.code ({ cls := "PageHold", name := "fill", desc := "(IIII)I" } : Jvm.MethodName) prog_1_method_5_code (6 : Nat) (Option.some Jvm.ClassFile.FieldType.int)) ∈ BIG := tb2 229 rfl rfl
theorem wd_2_230 : (Jvm.Cond.methodLink "PageHoldLaw" (43 : Nat) ({ cls := "PageHold", name := "truncate", desc := "(II)I" } : Jvm.MethodName)) ∈ BIG := tb2 230 rfl rfl
theorem wd_2_231 : (Jvm.Cond.instanceMethod ({ cls := "PageHold", name := "truncate", desc := "(II)I" } : Jvm.MethodName)) ∈ BIG := tb2 231 rfl rfl
theorem wd_2_232 : (Jvm.Cond.selects "PageHold" ({ cls := "PageHold", name := "truncate", desc := "(II)I" } : Jvm.MethodName) ({ cls := "PageHold", name := "truncate", desc := "(II)I" } : Jvm.MethodName)) ∈ BIG := tb2 232 rfl rfl
theorem wd_2_233 : (Jvm.Cond.code ({ cls := "PageHold", name := "truncate", desc := "(II)I" } : Jvm.MethodName) prog_1_method_6_code (5 : Nat) (Option.some Jvm.ClassFile.FieldType.int)) ∈ BIG := tb2 233 rfl rfl
theorem wd_2_234 : (Jvm.Cond.methodLink "PageHold" (108 : Nat) ({ cls := "PageHold", name := "makeHole", desc := "(I)Z" } : Jvm.MethodName)) ∈ BIG := tb2 234 rfl rfl
theorem wd_2_236 : (Jvm.Cond.instanceMethod ({ cls := "PageHold", name := "makeHole", desc := "(I)Z" } : Jvm.MethodName)) ∈ BIG := tb2 236 rfl rfl
theorem wd_2_237 : (Jvm.Cond.code ({ cls := "PageHold", name := "makeHole", desc := "(I)Z" } : Jvm.MethodName) prog_1_method_32_code (4 : Nat) (Option.some Jvm.ClassFile.FieldType.boolean)) ∈ BIG := tb2 237 rfl rfl
theorem wd_2_238 : (Jvm.Cond.methodLink "PageHold" (285 : Nat) ({ cls := "PageHold$Disk", name := "giveBack", desc := "(I)V" } : Jvm.MethodName)) ∈ BIG := tb2 238 rfl rfl
theorem wd_2_239 : (Jvm.Cond.instanceMethod ({ cls := "PageHold$Disk", name := "giveBack", desc := "(I)V" } : Jvm.MethodName)) ∈ BIG := tb2 239 rfl rfl
theorem wd_3_0 : (Jvm.Cond.selects "PageHold$Disk" ({ cls := "PageHold$Disk", name := "giveBack", desc := "(I)V" } : Jvm.MethodName) ({ cls := "PageHold$Disk", name := "giveBack", desc := "(I)V" } : Jvm.MethodName)) ∈ BIG := tb3 0 rfl rfl
theorem wd_3_1 : (Jvm.Cond.code ({ cls := "PageHold$Disk", name := "giveBack", desc := "(I)V" } : Jvm.MethodName) prog_2_method_5_code (2 : Nat) (Option.none : Option Jvm.ClassFile.FieldType)) ∈ BIG := tb3 1 rfl rfl
theorem wd_3_2 : (Jvm.Cond.methodLink "PageHold" (111 : Nat) ({ cls := "PageHold", name := "cutLastPage", desc := "(II)Z" } : Jvm.MethodName)) ∈ BIG := tb3 2 rfl rfl
theorem wd_3_4 : (Jvm.Cond.instanceMethod ({ cls := "PageHold", name := "cutLastPage", desc := "(II)Z" } : Jvm.MethodName)) ∈ BIG := tb3 4 rfl rfl
theorem wd_3_5 : (Jvm.Cond.code ({ cls := "PageHold", name := "cutLastPage", desc := "(II)Z" } : Jvm.MethodName) prog_1_method_31_code (6 : Nat) (Option.some Jvm.ClassFile.FieldType.boolean)) ∈ BIG := tb3 5 rfl rfl
theorem wd_3_6 : (Jvm.Cond.methodLink "PageHoldLaw" (48 : Nat) ({ cls := "PageHold", name := "punch", desc := "(III)I" } : Jvm.MethodName)) ∈ BIG := tb3 6 rfl rfl
theorem wd_3_7 : (Jvm.Cond.instanceMethod ({ cls := "PageHold", name := "punch", desc := "(III)I" } : Jvm.MethodName)) ∈ BIG := tb3 7 rfl rfl
theorem wd_3_8 : (Jvm.Cond.selects "PageHold" ({ cls := "PageHold", name := "punch", desc := "(III)I" } : Jvm.MethodName) ({ cls := "PageHold", name := "punch", desc := "(III)I" } : Jvm.MethodName)) ∈ BIG := tb3 8 rfl rfl
theorem wd_3_9 : (Jvm.Cond.code ({ cls := "PageHold", name := "punch", desc := "(III)I" } : Jvm.MethodName) prog_1_method_7_code (7 : Nat) (Option.some Jvm.ClassFile.FieldType.int)) ∈ BIG := tb3 9 rfl rfl
theorem wd_3_10 : (Jvm.Cond.methodLink "PageHold" (115 : Nat) ({ cls := "PageHold", name := "isPage", desc := "(I)Z" } : Jvm.MethodName)) ∈ BIG := tb3 10 rfl rfl
theorem wd_3_11 : (Jvm.Cond.static ({ cls := "PageHold", name := "isPage", desc := "(I)Z" } : Jvm.MethodName)) ∈ BIG := tb3 11 rfl rfl
theorem wd_3_12 : (Jvm.Cond.code ({ cls := "PageHold", name := "isPage", desc := "(I)Z" } : Jvm.MethodName) prog_1_method_24_code (1 : Nat) (Option.some Jvm.ClassFile.FieldType.boolean)) ∈ BIG := tb3 12 rfl rfl
theorem wd_3_13 : (Jvm.Cond.methodLink "PageHoldLaw" (52 : Nat) ({ cls := "PageHold", name := "sync", desc := "(I)I" } : Jvm.MethodName)) ∈ BIG := tb3 13 rfl rfl
theorem wd_3_14 : (Jvm.Cond.instanceMethod ({ cls := "PageHold", name := "sync", desc := "(I)I" } : Jvm.MethodName)) ∈ BIG := tb3 14 rfl rfl
theorem wd_3_15 : (Jvm.Cond.selects "PageHold" ({ cls := "PageHold", name := "sync", desc := "(I)I" } : Jvm.MethodName) ({ cls := "PageHold", name := "sync", desc := "(I)I" } : Jvm.MethodName)) ∈ BIG := tb3 15 rfl rfl
theorem wd_3_16 : (Jvm.Cond.code ({ cls := "PageHold", name := "sync", desc := "(I)I" } : Jvm.MethodName) prog_1_method_8_code (5 : Nat) (Option.some Jvm.ClassFile.FieldType.int)) ∈ BIG := tb3 16 rfl rfl
theorem wd_3_17 : (Jvm.Cond.methodLink "PageHoldLaw" (56 : Nat) ({ cls := "PageHold", name := "syncAll", desc := "()I" } : Jvm.MethodName)) ∈ BIG := tb3 17 rfl rfl
theorem wd_3_18 : (Jvm.Cond.instanceMethod ({ cls := "PageHold", name := "syncAll", desc := "()I" } : Jvm.MethodName)) ∈ BIG := tb3 18 rfl rfl
theorem wd_3_19 : (Jvm.Cond.selects "PageHold" ({ cls := "PageHold", name := "syncAll", desc := "()I" } : Jvm.MethodName) ({ cls := "PageHold", name := "syncAll", desc := "()I" } : Jvm.MethodName)) ∈ BIG := tb3 19 rfl rfl
theorem wd_3_20 : (Jvm.Cond.code ({ cls := "PageHold", name := "syncAll", desc := "()I" } : Jvm.MethodName) prog_1_method_9_code (4 : Nat) (Option.some Jvm.ClassFile.FieldType.int)) ∈ BIG := tb3 20 rfl rfl
theorem wd_3_21 : (Jvm.Cond.methodLink "PageHold" (133 : Nat) ({ cls := "PageHold", name := "leastDirtyBlock", desc := "(I)I" } : Jvm.MethodName)) ∈ BIG := tb3 21 rfl rfl
theorem wd_3_23 : (Jvm.Cond.instanceMethod ({ cls := "PageHold", name := "leastDirtyBlock", desc := "(I)I" } : Jvm.MethodName)) ∈ BIG := tb3 23 rfl rfl
theorem wd_3_24 : (Jvm.Cond.code ({ cls := "PageHold", name := "leastDirtyBlock", desc := "(I)I" } : Jvm.MethodName) prog_1_method_42_code (5 : Nat) (Option.some Jvm.ClassFile.FieldType.int)) ∈ BIG := tb3 24 rfl rfl
theorem wd_3_25 : (Jvm.Cond.methodLink "PageHold" (347 : Nat) ({ cls := "PageHold", name := "dirtyBlockIn", desc := "(I)I" } : Jvm.MethodName)) ∈ BIG := tb3 25 rfl rfl
theorem wd_3_27 : (Jvm.Cond.instanceMethod ({ cls := "PageHold", name := "dirtyBlockIn", desc := "(I)I" } : Jvm.MethodName)) ∈ BIG := tb3 27 rfl rfl
theorem wd_3_28 : (Jvm.Cond.code ({ cls := "PageHold", name := "dirtyBlockIn", desc := "(I)I" } : Jvm.MethodName) prog_1_method_44_code (3 : Nat) (Option.some Jvm.ClassFile.FieldType.int)) ∈ BIG := tb3 28 rfl rfl
theorem wd_3_29 : (Jvm.Cond.methodLink "PageHold" (139 : Nat) ({ cls := "PageHold", name := "dirtyFrameAt", desc := "(I)I" } : Jvm.MethodName)) ∈ BIG := tb3 29 rfl rfl
theorem wd_3_31 : (Jvm.Cond.instanceMethod ({ cls := "PageHold", name := "dirtyFrameAt", desc := "(I)I" } : Jvm.MethodName)) ∈ BIG := tb3 31 rfl rfl
theorem wd_3_32 : (Jvm.Cond.code ({ cls := "PageHold", name := "dirtyFrameAt", desc := "(I)I" } : Jvm.MethodName) prog_1_method_43_code (3 : Nat) (Option.some Jvm.ClassFile.FieldType.int)) ∈ BIG := tb3 32 rfl rfl
theorem wd_3_33 : (Jvm.Cond.methodLink "PageHoldLaw" (61 : Nat) ({ cls := "PageHold", name := "tick", desc := "(I)I" } : Jvm.MethodName)) ∈ BIG := tb3 33 rfl rfl
theorem wd_3_34 : (Jvm.Cond.instanceMethod ({ cls := "PageHold", name := "tick", desc := "(I)I" } : Jvm.MethodName)) ∈ BIG := tb3 34 rfl rfl
theorem wd_3_35 : (Jvm.Cond.selects "PageHold" ({ cls := "PageHold", name := "tick", desc := "(I)I" } : Jvm.MethodName) ({ cls := "PageHold", name := "tick", desc := "(I)I" } : Jvm.MethodName)) ∈ BIG := tb3 35 rfl rfl
theorem wd_3_36 : (Jvm.Cond.code ({ cls := "PageHold", name := "tick", desc := "(I)I" } : Jvm.MethodName) prog_1_method_10_code (4 : Nat) (Option.some Jvm.ClassFile.FieldType.int)) ∈ BIG := tb3 36 rfl rfl
theorem wd_3_37 : (Jvm.Cond.methodLink "PageHold" (142 : Nat) ({ cls := "PageHold", name := "writeAged", desc := "()I" } : Jvm.MethodName)) ∈ BIG := tb3 37 rfl rfl
theorem wd_3_39 : (Jvm.Cond.instanceMethod ({ cls := "PageHold", name := "writeAged", desc := "()I" } : Jvm.MethodName)) ∈ BIG := tb3 39 rfl rfl
theorem wd_3_40 : (Jvm.Cond.code ({ cls := "PageHold", name := "writeAged", desc := "()I" } : Jvm.MethodName) prog_1_method_41_code (6 : Nat) (Option.some Jvm.ClassFile.FieldType.int)) ∈ BIG := tb3 40 rfl rfl
theorem wd_3_41 : (Jvm.Cond.methodLink "PageHoldLaw" (65 : Nat) ({ cls := "PageHold", name := "drop", desc := "()I" } : Jvm.MethodName)) ∈ BIG := tb3 41 rfl rfl
theorem wd_3_42 : (Jvm.Cond.instanceMethod ({ cls := "PageHold", name := "drop", desc := "()I" } : Jvm.MethodName)) ∈ BIG := tb3 42 rfl rfl
theorem wd_3_43 : (Jvm.Cond.selects "PageHold" ({ cls := "PageHold", name := "drop", desc := "()I" } : Jvm.MethodName) ({ cls := "PageHold", name := "drop", desc := "()I" } : Jvm.MethodName)) ∈ BIG := tb3 43 rfl rfl
theorem wd_3_44 : (Jvm.Cond.code ({ cls := "PageHold", name := "drop", desc := "()I" } : Jvm.MethodName) prog_1_method_11_code (4 : Nat) (Option.some Jvm.ClassFile.FieldType.int)) ∈ BIG := tb3 44 rfl rfl
theorem wd_3_45 : (Jvm.Cond.methodLink "PageHoldLaw" (69 : Nat) ({ cls := "PageHold", name := "crash", desc := "()I" } : Jvm.MethodName)) ∈ BIG := tb3 45 rfl rfl
theorem wd_3_46 : (Jvm.Cond.instanceMethod ({ cls := "PageHold", name := "crash", desc := "()I" } : Jvm.MethodName)) ∈ BIG := tb3 46 rfl rfl
theorem wd_3_47 : (Jvm.Cond.selects "PageHold" ({ cls := "PageHold", name := "crash", desc := "()I" } : Jvm.MethodName) ({ cls := "PageHold", name := "crash", desc := "()I" } : Jvm.MethodName)) ∈ BIG := tb3 47 rfl rfl
theorem wd_3_48 : (Jvm.Cond.code ({ cls := "PageHold", name := "crash", desc := "()I" } : Jvm.MethodName) prog_1_method_12_code (3 : Nat) (Option.some Jvm.ClassFile.FieldType.int)) ∈ BIG := tb3 48 rfl rfl
theorem wd_3_49 : (Jvm.Cond.methodLink "PageHold" (159 : Nat) ({ cls := "PageHold$Shadows", name := "forgetAll", desc := "()V" } : Jvm.MethodName)) ∈ BIG := tb3 49 rfl rfl
theorem wd_3_50 : (Jvm.Cond.instanceMethod ({ cls := "PageHold$Shadows", name := "forgetAll", desc := "()V" } : Jvm.MethodName)) ∈ BIG := tb3 50 rfl rfl
theorem wd_3_51 : (Jvm.Cond.selects "PageHold$Shadows" ({ cls := "PageHold$Shadows", name := "forgetAll", desc := "()V" } : Jvm.MethodName) ({ cls := "PageHold$Shadows", name := "forgetAll", desc := "()V" } : Jvm.MethodName)) ∈ BIG := tb3 51 rfl rfl
theorem wd_3_52 : (Jvm.Cond.code ({ cls := "PageHold$Shadows", name := "forgetAll", desc := "()V" } : Jvm.MethodName) prog_6_method_6_code (1 : Nat) (Option.none : Option Jvm.ClassFile.FieldType)) ∈ BIG := tb3 52 rfl rfl
theorem wd_3_53 : (Jvm.Cond.methodLink "PageHold" (162 : Nat) ({ cls := "PageHold$Files", name := "reset", desc := "()V" } : Jvm.MethodName)) ∈ BIG := tb3 53 rfl rfl
theorem wd_3_54 : (Jvm.Cond.instanceMethod ({ cls := "PageHold$Files", name := "reset", desc := "()V" } : Jvm.MethodName)) ∈ BIG := tb3 54 rfl rfl
theorem wd_3_55 : (Jvm.Cond.selects "PageHold$Files" ({ cls := "PageHold$Files", name := "reset", desc := "()V" } : Jvm.MethodName) ({ cls := "PageHold$Files", name := "reset", desc := "()V" } : Jvm.MethodName)) ∈ BIG := tb3 55 rfl rfl
theorem wd_3_56 : (Jvm.Cond.code ({ cls := "PageHold$Files", name := "reset", desc := "()V" } : Jvm.MethodName) prog_3_method_2_code (1 : Nat) (Option.none : Option Jvm.ClassFile.FieldType)) ∈ BIG := tb3 56 rfl rfl
theorem wd_3_57 : (Jvm.Cond.methodLink "PageHoldLaw" (73 : Nat) ({ cls := "PageHold", name := "fail", desc := "(IZ)Z" } : Jvm.MethodName)) ∈ BIG := tb3 57 rfl rfl
theorem wd_3_58 : (Jvm.Cond.instanceMethod ({ cls := "PageHold", name := "fail", desc := "(IZ)Z" } : Jvm.MethodName)) ∈ BIG := tb3 58 rfl rfl
theorem wd_3_59 : (Jvm.Cond.selects "PageHold" ({ cls := "PageHold", name := "fail", desc := "(IZ)Z" } : Jvm.MethodName) ({ cls := "PageHold", name := "fail", desc := "(IZ)Z" } : Jvm.MethodName)) ∈ BIG := tb3 59 rfl rfl
theorem wd_3_60 : (Jvm.Cond.code ({ cls := "PageHold", name := "fail", desc := "(IZ)Z" } : Jvm.MethodName) prog_1_method_13_code (3 : Nat) (Option.some Jvm.ClassFile.FieldType.boolean)) ∈ BIG := tb3 60 rfl rfl
theorem wd_3_61 : (Jvm.Cond.methodLink "PageHold" (165 : Nat) ({ cls := "PageHold$Disk", name := "has", desc := "(I)Z" } : Jvm.MethodName)) ∈ BIG := tb3 61 rfl rfl
theorem wd_3_62 : (Jvm.Cond.methodLink "PageHoldLaw" (78 : Nat) ({ cls := "PageHold", name := "pin", desc := "(IIZ)Z" } : Jvm.MethodName)) ∈ BIG := tb3 62 rfl rfl
theorem wd_3_63 : (Jvm.Cond.instanceMethod ({ cls := "PageHold", name := "pin", desc := "(IIZ)Z" } : Jvm.MethodName)) ∈ BIG := tb3 63 rfl rfl
theorem wd_3_64 : (Jvm.Cond.selects "PageHold" ({ cls := "PageHold", name := "pin", desc := "(IIZ)Z" } : Jvm.MethodName) ({ cls := "PageHold", name := "pin", desc := "(IIZ)Z" } : Jvm.MethodName)) ∈ BIG := tb3 64 rfl rfl
theorem wd_3_65 : (Jvm.Cond.code ({ cls := "PageHold", name := "pin", desc := "(IIZ)Z" } : Jvm.MethodName) prog_1_method_14_code (8 : Nat) (Option.some Jvm.ClassFile.FieldType.boolean)) ∈ BIG := tb3 65 rfl rfl
theorem wd_3_66 : (Jvm.Cond.methodLink "PageHold" (171 : Nat) ({ cls := "PageHold$Frames", name := "setPinned", desc := "(IZ)V" } : Jvm.MethodName)) ∈ BIG := tb3 66 rfl rfl
theorem wd_3_67 : (Jvm.Cond.methodLink "PageHoldLaw" (83 : Nat) ({ cls := "PageHold", name := "size", desc := "(I)I" } : Jvm.MethodName)) ∈ BIG := tb3 67 rfl rfl
theorem wd_3_68 : (Jvm.Cond.instanceMethod ({ cls := "PageHold", name := "size", desc := "(I)I" } : Jvm.MethodName)) ∈ BIG := tb3 68 rfl rfl
theorem wd_3_69 : (Jvm.Cond.selects "PageHold" ({ cls := "PageHold", name := "size", desc := "(I)I" } : Jvm.MethodName) ({ cls := "PageHold", name := "size", desc := "(I)I" } : Jvm.MethodName)) ∈ BIG := tb3 69 rfl rfl
theorem wd_3_70 : (Jvm.Cond.code ({ cls := "PageHold", name := "size", desc := "(I)I" } : Jvm.MethodName) prog_1_method_15_code (2 : Nat) (Option.some Jvm.ClassFile.FieldType.int)) ∈ BIG := tb3 70 rfl rfl
theorem wd_3_71 : (Jvm.Cond.methodLink "PageHoldLaw" (87 : Nat) ({ cls := "PageHold", name := "page", desc := "(III)I" } : Jvm.MethodName)) ∈ BIG := tb3 71 rfl rfl
theorem wd_3_72 : (Jvm.Cond.instanceMethod ({ cls := "PageHold", name := "page", desc := "(III)I" } : Jvm.MethodName)) ∈ BIG := tb3 72 rfl rfl
theorem wd_3_73 : (Jvm.Cond.selects "PageHold" ({ cls := "PageHold", name := "page", desc := "(III)I" } : Jvm.MethodName) ({ cls := "PageHold", name := "page", desc := "(III)I" } : Jvm.MethodName)) ∈ BIG := tb3 73 rfl rfl
theorem wd_3_74 : (Jvm.Cond.code ({ cls := "PageHold", name := "page", desc := "(III)I" } : Jvm.MethodName) prog_1_method_16_code (6 : Nat) (Option.some Jvm.ClassFile.FieldType.int)) ∈ BIG := tb3 74 rfl rfl
theorem wd_3_75 : (Jvm.Cond.methodLink "PageHold" (184 : Nat) ({ cls := "PageHold$Shadows", name := "of", desc := "(I)I" } : Jvm.MethodName)) ∈ BIG := tb3 75 rfl rfl
theorem wd_3_76 : (Jvm.Cond.methodLink "PageHold" (187 : Nat) ({ cls := "PageHold$Frames", name := "placeOf", desc := "(I)I" } : Jvm.MethodName)) ∈ BIG := tb3 76 rfl rfl
theorem wd_3_77 : (Jvm.Cond.instanceMethod ({ cls := "PageHold$Frames", name := "placeOf", desc := "(I)I" } : Jvm.MethodName)) ∈ BIG := tb3 77 rfl rfl
theorem wd_3_78 : (Jvm.Cond.selects "PageHold$Frames" ({ cls := "PageHold$Frames", name := "placeOf", desc := "(I)I" } : Jvm.MethodName) ({ cls := "PageHold$Frames", name := "placeOf", desc := "(I)I" } : Jvm.MethodName)) ∈ BIG := tb3 78 rfl rfl
theorem wd_3_79 : (Jvm.Cond.code ({ cls := "PageHold$Frames", name := "placeOf", desc := "(I)I" } : Jvm.MethodName) prog_4_method_10_code (2 : Nat) (Option.some Jvm.ClassFile.FieldType.int)) ∈ BIG := tb3 79 rfl rfl
theorem wd_3_80 : (Jvm.Cond.methodLink "PageHold$Frames" (99 : Nat) ({ cls := "PageHold$Order", name := "placeOf", desc := "(I)I" } : Jvm.MethodName)) ∈ BIG := tb3 80 rfl rfl
theorem wd_3_81 : (Jvm.Cond.methodLink "PageHoldLaw" (91 : Nat) ({ cls := "PageHold", name := "next", desc := "(III)I" } : Jvm.MethodName)) ∈ BIG := tb3 81 rfl rfl
theorem wd_3_82 : (Jvm.Cond.instanceMethod ({ cls := "PageHold", name := "next", desc := "(III)I" } : Jvm.MethodName)) ∈ BIG := tb3 82 rfl rfl
theorem wd_3_83 : (Jvm.Cond.selects "PageHold" ({ cls := "PageHold", name := "next", desc := "(III)I" } : Jvm.MethodName) ({ cls := "PageHold", name := "next", desc := "(III)I" } : Jvm.MethodName)) ∈ BIG := tb3 83 rfl rfl
theorem wd_3_84 : (Jvm.Cond.code ({ cls := "PageHold", name := "next", desc := "(III)I" } : Jvm.MethodName) prog_1_method_17_code (5 : Nat) (Option.some Jvm.ClassFile.FieldType.int)) ∈ BIG := tb3 84 rfl rfl
theorem wd_3_85 : (Jvm.Cond.methodLink "PageHold" (196 : Nat) ({ cls := "PageHold", name := "isMarked", desc := "(II)Z" } : Jvm.MethodName)) ∈ BIG := tb3 85 rfl rfl
theorem wd_3_87 : (Jvm.Cond.instanceMethod ({ cls := "PageHold", name := "isMarked", desc := "(II)Z" } : Jvm.MethodName)) ∈ BIG := tb3 87 rfl rfl
theorem wd_3_88 : (Jvm.Cond.code ({ cls := "PageHold", name := "isMarked", desc := "(II)Z" } : Jvm.MethodName) prog_1_method_45_code (4 : Nat) (Option.some Jvm.ClassFile.FieldType.boolean)) ∈ BIG := tb3 88 rfl rfl
theorem wd_3_89 : (Jvm.Cond.methodLink "PageHoldLaw" (95 : Nat) ({ cls := "PageHold", name := "tree", desc := "(II)I" } : Jvm.MethodName)) ∈ BIG := tb3 89 rfl rfl
theorem wd_3_90 : (Jvm.Cond.instanceMethod ({ cls := "PageHold", name := "tree", desc := "(II)I" } : Jvm.MethodName)) ∈ BIG := tb3 90 rfl rfl
theorem wd_3_91 : (Jvm.Cond.selects "PageHold" ({ cls := "PageHold", name := "tree", desc := "(II)I" } : Jvm.MethodName) ({ cls := "PageHold", name := "tree", desc := "(II)I" } : Jvm.MethodName)) ∈ BIG := tb3 91 rfl rfl
theorem wd_3_92 : (Jvm.Cond.code ({ cls := "PageHold", name := "tree", desc := "(II)I" } : Jvm.MethodName) prog_1_method_18_code (3 : Nat) (Option.some Jvm.ClassFile.FieldType.int)) ∈ BIG := tb3 92 rfl rfl
theorem wd_3_93 : (Jvm.Cond.methodLink "PageHold" (199 : Nat) ({ cls := "PageHold", name := "treeHeight", desc := "(I)I" } : Jvm.MethodName)) ∈ BIG := tb3 93 rfl rfl
theorem wd_3_95 : (Jvm.Cond.instanceMethod ({ cls := "PageHold", name := "treeHeight", desc := "(I)I" } : Jvm.MethodName)) ∈ BIG := tb3 95 rfl rfl
theorem wd_3_96 : (Jvm.Cond.code ({ cls := "PageHold", name := "treeHeight", desc := "(I)I" } : Jvm.MethodName) prog_1_method_48_code (3 : Nat) (Option.some Jvm.ClassFile.FieldType.int)) ∈ BIG := tb3 96 rfl rfl
theorem wd_3_97 : (Jvm.Cond.methodLink "PageHold" (350 : Nat) ({ cls := "PageHold", name := "isEntry", desc := "(I)Z" } : Jvm.MethodName)) ∈ BIG := tb3 97 rfl rfl
theorem wd_3_99 : (Jvm.Cond.instanceMethod ({ cls := "PageHold", name := "isEntry", desc := "(I)Z" } : Jvm.MethodName)) ∈ BIG := tb3 99 rfl rfl
theorem wd_3_100 : (Jvm.Cond.code ({ cls := "PageHold", name := "isEntry", desc := "(I)Z" } : Jvm.MethodName) prog_1_method_46_code (2 : Nat) (Option.some Jvm.ClassFile.FieldType.boolean)) ∈ BIG := tb3 100 rfl rfl
theorem wd_3_101 : (Jvm.Cond.methodLink "PageHold" (202 : Nat) ({ cls := "PageHold", name := "treeNodes", desc := "(I)I" } : Jvm.MethodName)) ∈ BIG := tb3 101 rfl rfl
theorem wd_3_103 : (Jvm.Cond.instanceMethod ({ cls := "PageHold", name := "treeNodes", desc := "(I)I" } : Jvm.MethodName)) ∈ BIG := tb3 103 rfl rfl
theorem wd_3_104 : (Jvm.Cond.code ({ cls := "PageHold", name := "treeNodes", desc := "(I)I" } : Jvm.MethodName) prog_1_method_49_code (8 : Nat) (Option.some Jvm.ClassFile.FieldType.int)) ∈ BIG := tb3 104 rfl rfl
theorem wd_3_105 : (Jvm.Cond.methodLink "PageHold" (205 : Nat) ({ cls := "PageHold", name := "treeEntries", desc := "(I)I" } : Jvm.MethodName)) ∈ BIG := tb3 105 rfl rfl
theorem wd_3_107 : (Jvm.Cond.instanceMethod ({ cls := "PageHold", name := "treeEntries", desc := "(I)I" } : Jvm.MethodName)) ∈ BIG := tb3 107 rfl rfl
theorem wd_3_108 : (Jvm.Cond.code ({ cls := "PageHold", name := "treeEntries", desc := "(I)I" } : Jvm.MethodName) prog_1_method_47_code (4 : Nat) (Option.some Jvm.ClassFile.FieldType.int)) ∈ BIG := tb3 108 rfl rfl
theorem wd_3_109 : (Jvm.Cond.methodLink "PageHoldLaw" (99 : Nat) ({ cls := "PageHold", name := "listed", desc := "(ZI)I" } : Jvm.MethodName)) ∈ BIG := tb3 109 rfl rfl
theorem wd_3_110 : (Jvm.Cond.instanceMethod ({ cls := "PageHold", name := "listed", desc := "(ZI)I" } : Jvm.MethodName)) ∈ BIG := tb3 110 rfl rfl
theorem wd_3_111 : (Jvm.Cond.selects "PageHold" ({ cls := "PageHold", name := "listed", desc := "(ZI)I" } : Jvm.MethodName) ({ cls := "PageHold", name := "listed", desc := "(ZI)I" } : Jvm.MethodName)) ∈ BIG := tb3 111 rfl rfl
theorem wd_3_112 : (Jvm.Cond.code ({ cls := "PageHold", name := "listed", desc := "(ZI)I" } : Jvm.MethodName) prog_1_method_19_code (4 : Nat) (Option.some Jvm.ClassFile.FieldType.int)) ∈ BIG := tb3 112 rfl rfl
theorem wd_3_113 : (Jvm.Cond.methodLink "PageHoldLaw" (104 : Nat) ({ cls := "PageHold", name := "disk", desc := "(II)I" } : Jvm.MethodName)) ∈ BIG := tb3 113 rfl rfl
theorem wd_3_114 : (Jvm.Cond.instanceMethod ({ cls := "PageHold", name := "disk", desc := "(II)I" } : Jvm.MethodName)) ∈ BIG := tb3 114 rfl rfl
theorem wd_3_115 : (Jvm.Cond.selects "PageHold" ({ cls := "PageHold", name := "disk", desc := "(II)I" } : Jvm.MethodName) ({ cls := "PageHold", name := "disk", desc := "(II)I" } : Jvm.MethodName)) ∈ BIG := tb3 115 rfl rfl
theorem wd_3_116 : (Jvm.Cond.code ({ cls := "PageHold", name := "disk", desc := "(II)I" } : Jvm.MethodName) prog_1_method_20_code (3 : Nat) (Option.some Jvm.ClassFile.FieldType.int)) ∈ BIG := tb3 116 rfl rfl
theorem wd_3_117 : (Jvm.Cond.methodLink "PageHoldLaw" (108 : Nat) ({ cls := "PageHold", name := "run", desc := "(II)I" } : Jvm.MethodName)) ∈ BIG := tb3 117 rfl rfl
theorem wd_3_118 : (Jvm.Cond.instanceMethod ({ cls := "PageHold", name := "run", desc := "(II)I" } : Jvm.MethodName)) ∈ BIG := tb3 118 rfl rfl
theorem wd_3_119 : (Jvm.Cond.selects "PageHold" ({ cls := "PageHold", name := "run", desc := "(II)I" } : Jvm.MethodName) ({ cls := "PageHold", name := "run", desc := "(II)I" } : Jvm.MethodName)) ∈ BIG := tb3 119 rfl rfl
theorem wd_3_120 : (Jvm.Cond.code ({ cls := "PageHold", name := "run", desc := "(II)I" } : Jvm.MethodName) prog_1_method_21_code (3 : Nat) (Option.some Jvm.ClassFile.FieldType.int)) ∈ BIG := tb3 120 rfl rfl
theorem wd_3_121 : (Jvm.Cond.methodLink "PageHoldLaw" (112 : Nat) ({ cls := "PageHold", name := "told", desc := "(I)I" } : Jvm.MethodName)) ∈ BIG := tb3 121 rfl rfl
theorem wd_3_122 : (Jvm.Cond.instanceMethod ({ cls := "PageHold", name := "told", desc := "(I)I" } : Jvm.MethodName)) ∈ BIG := tb3 122 rfl rfl
theorem wd_3_123 : (Jvm.Cond.selects "PageHold" ({ cls := "PageHold", name := "told", desc := "(I)I" } : Jvm.MethodName) ({ cls := "PageHold", name := "told", desc := "(I)I" } : Jvm.MethodName)) ∈ BIG := tb3 123 rfl rfl
theorem wd_3_124 : (Jvm.Cond.code ({ cls := "PageHold", name := "told", desc := "(I)I" } : Jvm.MethodName) prog_1_method_22_code (2 : Nat) (Option.some Jvm.ClassFile.FieldType.int)) ∈ BIG := tb3 124 rfl rfl
theorem wd_3_125 : (Jvm.Cond.methodLink "PageHold" (260 : Nat) ({ cls := "PageHold$Files", name := "withError", desc := "()I" } : Jvm.MethodName)) ∈ BIG := tb3 125 rfl rfl
theorem wd_3_126 : (Jvm.Cond.instanceMethod ({ cls := "PageHold$Files", name := "withError", desc := "()I" } : Jvm.MethodName)) ∈ BIG := tb3 126 rfl rfl
theorem wd_3_127 : (Jvm.Cond.selects "PageHold$Files" ({ cls := "PageHold$Files", name := "withError", desc := "()I" } : Jvm.MethodName) ({ cls := "PageHold$Files", name := "withError", desc := "()I" } : Jvm.MethodName)) ∈ BIG := tb3 127 rfl rfl
theorem wd_3_128 : (Jvm.Cond.code ({ cls := "PageHold$Files", name := "withError", desc := "()I" } : Jvm.MethodName) prog_3_method_4_code (6 : Nat) (Option.some Jvm.ClassFile.FieldType.int)) ∈ BIG := tb3 128 rfl rfl
theorem wd_3_129 : (Jvm.Cond.methodLink "PageHoldLaw" (9 : Nat) ({ cls := "PageHoldLaw", name := "cell", desc := "([II)I" } : Jvm.MethodName)) ∈ BIG := tb3 129 rfl rfl
theorem wd_3_130 : (Jvm.Cond.static ({ cls := "PageHoldLaw", name := "cell", desc := "([II)I" } : Jvm.MethodName)) ∈ BIG := tb3 130 rfl rfl
theorem wd_3_131 : (Jvm.Cond.code ({ cls := "PageHoldLaw", name := "cell", desc := "([II)I" } : Jvm.MethodName) method_2_code (2 : Nat) (Option.some Jvm.ClassFile.FieldType.int)) ∈ BIG := tb3 131 rfl rfl
theorem wd_3_132 : (Jvm.Cond.classLink "PageHoldLaw" (18 : Nat) "PageHoldModel") ∈ BIG := tb3 132 rfl rfl
theorem wd_3_133 : (Jvm.Cond.instantiable "PageHoldModel" (35 : Nat)) ∈ BIG := tb3 133 rfl rfl
theorem wd_3_134 : (Jvm.Cond.methodLink "PageHoldLaw" (20 : Nat) ({ cls := "PageHoldModel", name := "<init>", desc := "(II)V" } : Jvm.MethodName)) ∈ BIG := tb3 134 rfl rfl
theorem wd_3_135 : (Jvm.Cond.instanceMethod ({ cls := "PageHoldModel", name := "<init>", desc := "(II)V" } : Jvm.MethodName)) ∈ BIG := tb3 135 rfl rfl
theorem wd_3_136 : (Jvm.Cond.code ({ cls := "PageHoldModel", name := "<init>", desc := "(II)V" } : Jvm.MethodName) prog_9_method_1_code (4 : Nat) (Option.none : Option Jvm.ClassFile.FieldType)) ∈ BIG := tb3 136 rfl rfl
theorem wd_3_137 : (Jvm.Cond.methodLink "PageHoldModel" (1 : Nat) ({ cls := "java/lang/Object", name := "<init>", desc := "()V" } : Jvm.MethodName)) ∈ BIG := tb3 137 rfl rfl
theorem wd_3_138 : (Jvm.Cond.constant "PageHoldModel" (57 : Nat) (32768 : Int32)) ∈ BIG := tb3 138 rfl rfl
theorem wd_3_139 : (Jvm.Cond.fieldLink "PageHoldModel" (82 : Nat) "PageHoldModel" "frames" "I") ∈ BIG := tb3 139 rfl rfl
theorem wd_3_140 : (Jvm.Cond.fieldLink "PageHoldModel" (86 : Nat) "PageHoldModel" "blocks" "I") ∈ BIG := tb3 140 rfl rfl
theorem wd_3_141 : (Jvm.Cond.fieldLink "PageHoldModel" (7 : Nat) "PageHoldModel" "sizes" "[I") ∈ BIG := tb3 141 rfl rfl
theorem wd_3_142 : (Jvm.Cond.fieldLink "PageHoldModel" (13 : Nat) "PageHoldModel" "windows" "[I") ∈ BIG := tb3 142 rfl rfl
theorem wd_3_143 : (Jvm.Cond.fieldLink "PageHoldModel" (16 : Nat) "PageHoldModel" "nexts" "[I") ∈ BIG := tb3 143 rfl rfl
theorem wd_3_144 : (Jvm.Cond.fieldLink "PageHoldModel" (19 : Nat) "PageHoldModel" "errors" "[I") ∈ BIG := tb3 144 rfl rfl
theorem wd_3_145 : (Jvm.Cond.fieldLink "PageHoldModel" (22 : Nat) "PageHoldModel" "frameOf" "[I") ∈ BIG := tb3 145 rfl rfl
theorem wd_3_146 : (Jvm.Cond.fieldLink "PageHoldModel" (25 : Nat) "PageHoldModel" "blockOf" "[I") ∈ BIG := tb3 146 rfl rfl
theorem wd_3_147 : (Jvm.Cond.fieldLink "PageHoldModel" (28 : Nat) "PageHoldModel" "since" "[I") ∈ BIG := tb3 147 rfl rfl
theorem wd_3_148 : (Jvm.Cond.fieldLink "PageHoldModel" (31 : Nat) "PageHoldModel" "shadow" "[I") ∈ BIG := tb3 148 rfl rfl
theorem wd_3_149 : (Jvm.Cond.fieldLink "PageHoldModel" (34 : Nat) "PageHoldModel" "referenced" "[Z") ∈ BIG := tb3 149 rfl rfl
theorem wd_3_150 : (Jvm.Cond.fieldLink "PageHoldModel" (38 : Nat) "PageHoldModel" "pinned" "[Z") ∈ BIG := tb3 150 rfl rfl
theorem wd_3_151 : (Jvm.Cond.fieldLink "PageHoldModel" (41 : Nat) "PageHoldModel" "isActive" "[Z") ∈ BIG := tb3 151 rfl rfl
theorem wd_3_152 : (Jvm.Cond.fieldLink "PageHoldModel" (44 : Nat) "PageHoldModel" "active" "[I") ∈ BIG := tb3 152 rfl rfl
theorem wd_3_153 : (Jvm.Cond.fieldLink "PageHoldModel" (47 : Nat) "PageHoldModel" "inactive" "[I") ∈ BIG := tb3 153 rfl rfl
theorem wd_3_154 : (Jvm.Cond.fieldLink "PageHoldModel" (102 : Nat) "PageHoldModel" "actives" "I") ∈ BIG := tb3 154 rfl rfl
theorem wd_3_155 : (Jvm.Cond.fieldLink "PageHoldModel" (105 : Nat) "PageHoldModel" "inactives" "I") ∈ BIG := tb3 155 rfl rfl
theorem wd_3_156 : (Jvm.Cond.fieldLink "PageHoldModel" (50 : Nat) "PageHoldModel" "used" "[Z") ∈ BIG := tb3 156 rfl rfl
theorem wd_3_157 : (Jvm.Cond.fieldLink "PageHoldModel" (53 : Nat) "PageHoldModel" "bytes" "[B") ∈ BIG := tb3 157 rfl rfl
theorem wd_3_158 : (Jvm.Cond.fieldLink "PageHoldModel" (58 : Nat) "PageHoldModel" "disk" "[B") ∈ BIG := tb3 158 rfl rfl
theorem wd_3_159 : (Jvm.Cond.fieldLink "PageHoldModel" (61 : Nat) "PageHoldModel" "taken" "[Z") ∈ BIG := tb3 159 rfl rfl
theorem wd_3_160 : (Jvm.Cond.fieldLink "PageHoldModel" (64 : Nat) "PageHoldModel" "fails" "[Z") ∈ BIG := tb3 160 rfl rfl
theorem wd_3_161 : (Jvm.Cond.fieldLink "PageHoldModel" (67 : Nat) "PageHoldModel" "hand" "[B") ∈ BIG := tb3 161 rfl rfl
theorem wd_3_162 : (Jvm.Cond.fieldLink "PageHoldModel" (174 : Nat) "PageHoldModel" "hands" "I") ∈ BIG := tb3 162 rfl rfl
theorem wd_3_163 : (Jvm.Cond.fieldLink "PageHoldModel" (186 : Nat) "PageHoldModel" "time" "I") ∈ BIG := tb3 163 rfl rfl
theorem wd_3_164 : (Jvm.Cond.fieldLink "PageHoldModel" (126 : Nat) "PageHoldModel" "evicted" "I") ∈ BIG := tb3 164 rfl rfl
theorem wd_3_165 : (Jvm.Cond.fieldLink "PageHoldModel" (120 : Nat) "PageHoldModel" "shadows" "I") ∈ BIG := tb3 165 rfl rfl
theorem wd_3_166 : (Jvm.Cond.fieldLink "PageHoldModel" (96 : Nat) "PageHoldModel" "reads" "I") ∈ BIG := tb3 166 rfl rfl
theorem wd_3_167 : (Jvm.Cond.fieldLink "PageHoldModel" (99 : Nat) "PageHoldModel" "writes" "I") ∈ BIG := tb3 167 rfl rfl
theorem wd_3_168 : (Jvm.Cond.fieldLink "PageHoldModel" (70 : Nat) "PageHoldModel" "runKind" "[I") ∈ BIG := tb3 168 rfl rfl
theorem wd_3_169 : (Jvm.Cond.fieldLink "PageHoldModel" (73 : Nat) "PageHoldModel" "runFirst" "[I") ∈ BIG := tb3 169 rfl rfl
theorem wd_3_170 : (Jvm.Cond.fieldLink "PageHoldModel" (76 : Nat) "PageHoldModel" "runMany" "[I") ∈ BIG := tb3 170 rfl rfl
theorem wd_3_171 : (Jvm.Cond.fieldLink "PageHoldModel" (93 : Nat) "PageHoldModel" "runs" "I") ∈ BIG := tb3 171 rfl rfl
theorem wd_3_172 : (Jvm.Cond.fieldLink "PageHoldModel" (89 : Nat) "PageHoldModel" "isRecorded" "Z") ∈ BIG := tb3 172 rfl rfl
theorem wd_3_173 : (Jvm.Cond.fieldLink "PageHoldModel" (79 : Nat) "PageHoldModel" "tried" "[Z") ∈ BIG := tb3 173 rfl rfl
theorem wd_4_5 : (Jvm.Cond.arrayClass Jvm.ClassFile.FieldType.byte) ∈ BIG := tb4 5 rfl rfl
theorem wd_4_6 : (Jvm.Cond.methodLink "PageHoldLaw" (25 : Nat) ({ cls := "PageHoldModel", name := "read", desc := "(III)I" } : Jvm.MethodName)) ∈ BIG := tb4 6 rfl rfl
theorem wd_4_7 : (Jvm.Cond.instanceMethod ({ cls := "PageHoldModel", name := "read", desc := "(III)I" } : Jvm.MethodName)) ∈ BIG := tb4 7 rfl rfl
theorem wd_4_8 : (Jvm.Cond.selects "PageHoldModel" ({ cls := "PageHoldModel", name := "read", desc := "(III)I" } : Jvm.MethodName) ({ cls := "PageHoldModel", name := "read", desc := "(III)I" } : Jvm.MethodName)) ∈ BIG := tb4 8 rfl rfl
theorem wd_4_9 : (Jvm.Cond.code ({ cls := "PageHoldModel", name := "read", desc := "(III)I" } : Jvm.MethodName) prog_9_method_23_code (10 : Nat) (Option.some Jvm.ClassFile.FieldType.int)) ∈ BIG := tb4 9 rfl rfl
theorem wd_4_10 : (Jvm.Cond.methodLink "PageHoldModel" (168 : Nat) ({ cls := "PageHoldModel", name := "isFile", desc := "(I)Z" } : Jvm.MethodName)) ∈ BIG := tb4 10 rfl rfl
theorem wd_4_11 : (Jvm.Cond.static ({ cls := "PageHoldModel", name := "isFile", desc := "(I)Z" } : Jvm.MethodName)) ∈ BIG := tb4 11 rfl rfl
theorem wd_4_12 : (Jvm.Cond.code ({ cls := "PageHoldModel", name := "isFile", desc := "(I)Z" } : Jvm.MethodName) prog_9_method_3_code (1 : Nat) (Option.some Jvm.ClassFile.FieldType.boolean)) ∈ BIG := tb4 12 rfl rfl
theorem wd_4_13 : (Jvm.Cond.methodLink "PageHoldModel" (159 : Nat) ({ cls := "PageHoldModel", name := "isIn", desc := "(I)Z" } : Jvm.MethodName)) ∈ BIG := tb4 13 rfl rfl
theorem wd_4_15 : (Jvm.Cond.instanceMethod ({ cls := "PageHoldModel", name := "isIn", desc := "(I)Z" } : Jvm.MethodName)) ∈ BIG := tb4 15 rfl rfl
theorem wd_4_16 : (Jvm.Cond.code ({ cls := "PageHoldModel", name := "isIn", desc := "(I)Z" } : Jvm.MethodName) prog_9_method_5_code (2 : Nat) (Option.some Jvm.ClassFile.FieldType.boolean)) ∈ BIG := tb4 16 rfl rfl
theorem wd_4_17 : (Jvm.Cond.methodLink "PageHoldModel" (171 : Nat) ({ cls := "PageHoldModel", name := "touch", desc := "(I)Z" } : Jvm.MethodName)) ∈ BIG := tb4 17 rfl rfl
theorem wd_4_19 : (Jvm.Cond.instanceMethod ({ cls := "PageHoldModel", name := "touch", desc := "(I)Z" } : Jvm.MethodName)) ∈ BIG := tb4 19 rfl rfl
theorem wd_4_20 : (Jvm.Cond.code ({ cls := "PageHoldModel", name := "touch", desc := "(I)Z" } : Jvm.MethodName) prog_9_method_21_code (2 : Nat) (Option.some Jvm.ClassFile.FieldType.boolean)) ∈ BIG := tb4 20 rfl rfl
theorem wd_4_21 : (Jvm.Cond.methodLink "PageHoldModel" (162 : Nat) ({ cls := "PageHoldModel", name := "seenAgain", desc := "(I)V" } : Jvm.MethodName)) ∈ BIG := tb4 21 rfl rfl
theorem wd_4_23 : (Jvm.Cond.instanceMethod ({ cls := "PageHoldModel", name := "seenAgain", desc := "(I)V" } : Jvm.MethodName)) ∈ BIG := tb4 23 rfl rfl
theorem wd_4_24 : (Jvm.Cond.code ({ cls := "PageHoldModel", name := "seenAgain", desc := "(I)V" } : Jvm.MethodName) prog_9_method_20_code (2 : Nat) (Option.none : Option Jvm.ClassFile.FieldType)) ∈ BIG := tb4 24 rfl rfl
theorem wd_4_25 : (Jvm.Cond.methodLink "PageHoldModel" (143 : Nat) ({ cls := "PageHoldModel", name := "move", desc := "(IZ)V" } : Jvm.MethodName)) ∈ BIG := tb4 25 rfl rfl
theorem wd_4_27 : (Jvm.Cond.instanceMethod ({ cls := "PageHoldModel", name := "move", desc := "(IZ)V" } : Jvm.MethodName)) ∈ BIG := tb4 27 rfl rfl
theorem wd_4_28 : (Jvm.Cond.code ({ cls := "PageHoldModel", name := "move", desc := "(IZ)V" } : Jvm.MethodName) prog_9_method_11_code (3 : Nat) (Option.none : Option Jvm.ClassFile.FieldType)) ∈ BIG := tb4 28 rfl rfl
theorem wd_4_29 : (Jvm.Cond.methodLink "PageHoldModel" (112 : Nat) ({ cls := "PageHoldModel", name := "fromList", desc := "(I)V" } : Jvm.MethodName)) ∈ BIG := tb4 29 rfl rfl
theorem wd_4_31 : (Jvm.Cond.instanceMethod ({ cls := "PageHoldModel", name := "fromList", desc := "(I)V" } : Jvm.MethodName)) ∈ BIG := tb4 31 rfl rfl
theorem wd_4_32 : (Jvm.Cond.code ({ cls := "PageHoldModel", name := "fromList", desc := "(I)V" } : Jvm.MethodName) prog_9_method_10_code (4 : Nat) (Option.none : Option Jvm.ClassFile.FieldType)) ∈ BIG := tb4 32 rfl rfl
theorem wd_4_33 : (Jvm.Cond.methodLink "PageHoldModel" (108 : Nat) ({ cls := "PageHoldModel", name := "placeOf", desc := "(I)I" } : Jvm.MethodName)) ∈ BIG := tb4 33 rfl rfl
theorem wd_4_35 : (Jvm.Cond.instanceMethod ({ cls := "PageHoldModel", name := "placeOf", desc := "(I)I" } : Jvm.MethodName)) ∈ BIG := tb4 35 rfl rfl
theorem wd_4_36 : (Jvm.Cond.code ({ cls := "PageHoldModel", name := "placeOf", desc := "(I)I" } : Jvm.MethodName) prog_9_method_9_code (3 : Nat) (Option.some Jvm.ClassFile.FieldType.int)) ∈ BIG := tb4 36 rfl rfl
theorem wd_4_37 : (Jvm.Cond.methodLink "PageHoldModel" (116 : Nat) ({ cls := "PageHoldModel", name := "toFront", desc := "(IZ)V" } : Jvm.MethodName)) ∈ BIG := tb4 37 rfl rfl
theorem wd_4_39 : (Jvm.Cond.instanceMethod ({ cls := "PageHoldModel", name := "toFront", desc := "(IZ)V" } : Jvm.MethodName)) ∈ BIG := tb4 39 rfl rfl
theorem wd_4_40 : (Jvm.Cond.code ({ cls := "PageHoldModel", name := "toFront", desc := "(IZ)V" } : Jvm.MethodName) prog_9_method_8_code (4 : Nat) (Option.none : Option Jvm.ClassFile.FieldType)) ∈ BIG := tb4 40 rfl rfl
theorem wd_4_41 : (Jvm.Cond.methodLink "PageHoldModel" (165 : Nat) ({ cls := "PageHoldModel", name := "bringIn", desc := "(I)Z" } : Jvm.MethodName)) ∈ BIG := tb4 41 rfl rfl
theorem wd_4_43 : (Jvm.Cond.instanceMethod ({ cls := "PageHoldModel", name := "bringIn", desc := "(I)Z" } : Jvm.MethodName)) ∈ BIG := tb4 43 rfl rfl
theorem wd_4_44 : (Jvm.Cond.code ({ cls := "PageHoldModel", name := "bringIn", desc := "(I)Z" } : Jvm.MethodName) prog_9_method_19_code (4 : Nat) (Option.some Jvm.ClassFile.FieldType.boolean)) ∈ BIG := tb4 44 rfl rfl
theorem wd_4_45 : (Jvm.Cond.methodLink "PageHoldModel" (155 : Nat) ({ cls := "PageHoldModel", name := "frame", desc := "()I" } : Jvm.MethodName)) ∈ BIG := tb4 45 rfl rfl
theorem wd_4_47 : (Jvm.Cond.instanceMethod ({ cls := "PageHoldModel", name := "frame", desc := "()I" } : Jvm.MethodName)) ∈ BIG := tb4 47 rfl rfl
theorem wd_4_48 : (Jvm.Cond.code ({ cls := "PageHoldModel", name := "frame", desc := "()I" } : Jvm.MethodName) prog_9_method_18_code (4 : Nat) (Option.some Jvm.ClassFile.FieldType.int)) ∈ BIG := tb4 48 rfl rfl
theorem wd_4_49 : (Jvm.Cond.methodLink "PageHoldModel" (146 : Nat) ({ cls := "PageHoldModel", name := "isDirty", desc := "(I)Z" } : Jvm.MethodName)) ∈ BIG := tb4 49 rfl rfl
theorem wd_4_51 : (Jvm.Cond.instanceMethod ({ cls := "PageHoldModel", name := "isDirty", desc := "(I)Z" } : Jvm.MethodName)) ∈ BIG := tb4 51 rfl rfl
theorem wd_4_52 : (Jvm.Cond.code ({ cls := "PageHoldModel", name := "isDirty", desc := "(I)Z" } : Jvm.MethodName) prog_9_method_6_code (2 : Nat) (Option.some Jvm.ClassFile.FieldType.boolean)) ∈ BIG := tb4 52 rfl rfl
theorem wd_4_53 : (Jvm.Cond.methodLink "PageHoldModel" (149 : Nat) ({ cls := "PageHoldModel", name := "written", desc := "(I)Z" } : Jvm.MethodName)) ∈ BIG := tb4 53 rfl rfl
theorem wd_4_55 : (Jvm.Cond.instanceMethod ({ cls := "PageHoldModel", name := "written", desc := "(I)Z" } : Jvm.MethodName)) ∈ BIG := tb4 55 rfl rfl
theorem wd_4_56 : (Jvm.Cond.code ({ cls := "PageHoldModel", name := "written", desc := "(I)Z" } : Jvm.MethodName) prog_9_method_17_code (5 : Nat) (Option.some Jvm.ClassFile.FieldType.boolean)) ∈ BIG := tb4 56 rfl rfl
theorem wd_4_57 : (Jvm.Cond.methodLink "PageHoldModel" (136 : Nat) ({ cls := "PageHoldModel", name := "hasBlock", desc := "(I)Z" } : Jvm.MethodName)) ∈ BIG := tb4 57 rfl rfl
theorem wd_4_59 : (Jvm.Cond.instanceMethod ({ cls := "PageHoldModel", name := "hasBlock", desc := "(I)Z" } : Jvm.MethodName)) ∈ BIG := tb4 59 rfl rfl
theorem wd_4_60 : (Jvm.Cond.code ({ cls := "PageHoldModel", name := "hasBlock", desc := "(I)Z" } : Jvm.MethodName) prog_9_method_16_code (3 : Nat) (Option.some Jvm.ClassFile.FieldType.boolean)) ∈ BIG := tb4 60 rfl rfl
theorem wd_4_61 : (Jvm.Cond.methodLink "PageHoldModel" (132 : Nat) ({ cls := "PageHoldModel", name := "wrong", desc := "(II)V" } : Jvm.MethodName)) ∈ BIG := tb4 61 rfl rfl
theorem wd_4_63 : (Jvm.Cond.instanceMethod ({ cls := "PageHoldModel", name := "wrong", desc := "(II)V" } : Jvm.MethodName)) ∈ BIG := tb4 63 rfl rfl
theorem wd_4_64 : (Jvm.Cond.code ({ cls := "PageHoldModel", name := "wrong", desc := "(II)V" } : Jvm.MethodName) prog_9_method_15_code (4 : Nat) (Option.none : Option Jvm.ClassFile.FieldType)) ∈ BIG := tb4 64 rfl rfl
theorem wd_4_65 : (Jvm.Cond.methodLink "PageHoldModel" (140 : Nat) ({ cls := "PageHoldModel", name := "record", desc := "(II)V" } : Jvm.MethodName)) ∈ BIG := tb4 65 rfl rfl
theorem wd_4_67 : (Jvm.Cond.instanceMethod ({ cls := "PageHoldModel", name := "record", desc := "(II)V" } : Jvm.MethodName)) ∈ BIG := tb4 67 rfl rfl
theorem wd_4_68 : (Jvm.Cond.code ({ cls := "PageHoldModel", name := "record", desc := "(II)V" } : Jvm.MethodName) prog_9_method_7_code (4 : Nat) (Option.none : Option Jvm.ClassFile.FieldType)) ∈ BIG := tb4 68 rfl rfl
theorem wd_4_69 : (Jvm.Cond.methodLink "PageHoldModel" (152 : Nat) ({ cls := "PageHoldModel", name := "evict", desc := "(I)V" } : Jvm.MethodName)) ∈ BIG := tb4 69 rfl rfl
theorem wd_4_71 : (Jvm.Cond.instanceMethod ({ cls := "PageHoldModel", name := "evict", desc := "(I)V" } : Jvm.MethodName)) ∈ BIG := tb4 71 rfl rfl
theorem wd_4_72 : (Jvm.Cond.code ({ cls := "PageHoldModel", name := "evict", desc := "(I)V" } : Jvm.MethodName) prog_9_method_14_code (4 : Nat) (Option.none : Option Jvm.ClassFile.FieldType)) ∈ BIG := tb4 72 rfl rfl
theorem wd_4_73 : (Jvm.Cond.methodLink "PageHoldModel" (123 : Nat) ({ cls := "PageHoldModel", name := "goOut", desc := "(I)V" } : Jvm.MethodName)) ∈ BIG := tb4 73 rfl rfl
theorem wd_4_75 : (Jvm.Cond.instanceMethod ({ cls := "PageHoldModel", name := "goOut", desc := "(I)V" } : Jvm.MethodName)) ∈ BIG := tb4 75 rfl rfl
theorem wd_4_76 : (Jvm.Cond.code ({ cls := "PageHoldModel", name := "goOut", desc := "(I)V" } : Jvm.MethodName) prog_9_method_12_code (2 : Nat) (Option.none : Option Jvm.ClassFile.FieldType)) ∈ BIG := tb4 76 rfl rfl
theorem wd_4_77 : (Jvm.Cond.methodLink "PageHoldModel" (129 : Nat) ({ cls := "PageHoldModel", name := "noShadow", desc := "(I)V" } : Jvm.MethodName)) ∈ BIG := tb4 77 rfl rfl
theorem wd_4_79 : (Jvm.Cond.instanceMethod ({ cls := "PageHoldModel", name := "noShadow", desc := "(I)V" } : Jvm.MethodName)) ∈ BIG := tb4 79 rfl rfl
theorem wd_4_80 : (Jvm.Cond.code ({ cls := "PageHoldModel", name := "noShadow", desc := "(I)V" } : Jvm.MethodName) prog_9_method_13_code (2 : Nat) (Option.none : Option Jvm.ClassFile.FieldType)) ∈ BIG := tb4 80 rfl rfl
theorem wd_4_81 : (Jvm.Cond.methodLink "PageHoldModel" (177 : Nat) ({ cls := "PageHoldModel", name := "ahead", desc := "(II)V" } : Jvm.MethodName)) ∈ BIG := tb4 81 rfl rfl
theorem wd_4_83 : (Jvm.Cond.instanceMethod ({ cls := "PageHoldModel", name := "ahead", desc := "(II)V" } : Jvm.MethodName)) ∈ BIG := tb4 83 rfl rfl
theorem wd_4_84 : (Jvm.Cond.code ({ cls := "PageHoldModel", name := "ahead", desc := "(II)V" } : Jvm.MethodName) prog_9_method_22_code (5 : Nat) (Option.none : Option Jvm.ClassFile.FieldType)) ∈ BIG := tb4 84 rfl rfl
theorem wd_4_85 : (Jvm.Cond.methodLink "PageHoldLaw" (30 : Nat) ({ cls := "PageHoldModel", name := "hand", desc := "(I)I" } : Jvm.MethodName)) ∈ BIG := tb4 85 rfl rfl
theorem wd_4_86 : (Jvm.Cond.instanceMethod ({ cls := "PageHoldModel", name := "hand", desc := "(I)I" } : Jvm.MethodName)) ∈ BIG := tb4 86 rfl rfl
theorem wd_4_87 : (Jvm.Cond.selects "PageHoldModel" ({ cls := "PageHoldModel", name := "hand", desc := "(I)I" } : Jvm.MethodName) ({ cls := "PageHoldModel", name := "hand", desc := "(I)I" } : Jvm.MethodName)) ∈ BIG := tb4 87 rfl rfl
theorem wd_4_88 : (Jvm.Cond.code ({ cls := "PageHoldModel", name := "hand", desc := "(I)I" } : Jvm.MethodName) prog_9_method_24_code (2 : Nat) (Option.some Jvm.ClassFile.FieldType.int)) ∈ BIG := tb4 88 rfl rfl
theorem wd_4_89 : (Jvm.Cond.methodLink "PageHoldLaw" (37 : Nat) ({ cls := "PageHoldModel", name := "write", desc := "(IIJI)I" } : Jvm.MethodName)) ∈ BIG := tb4 89 rfl rfl
theorem wd_4_90 : (Jvm.Cond.instanceMethod ({ cls := "PageHoldModel", name := "write", desc := "(IIJI)I" } : Jvm.MethodName)) ∈ BIG := tb4 90 rfl rfl
theorem wd_4_91 : (Jvm.Cond.selects "PageHoldModel" ({ cls := "PageHoldModel", name := "write", desc := "(IIJI)I" } : Jvm.MethodName) ({ cls := "PageHoldModel", name := "write", desc := "(IIJI)I" } : Jvm.MethodName)) ∈ BIG := tb4 91 rfl rfl
theorem wd_4_92 : (Jvm.Cond.code ({ cls := "PageHoldModel", name := "write", desc := "(IIJI)I" } : Jvm.MethodName) prog_9_method_30_code (6 : Nat) (Option.some Jvm.ClassFile.FieldType.int)) ∈ BIG := tb4 92 rfl rfl
theorem wd_4_93 : (Jvm.Cond.methodLink "PageHoldModel" (195 : Nat) ({ cls := "PageHoldModel", name := "put", desc := "(IIIZJI)I" } : Jvm.MethodName)) ∈ BIG := tb4 93 rfl rfl
theorem wd_4_95 : (Jvm.Cond.instanceMethod ({ cls := "PageHoldModel", name := "put", desc := "(IIIZJI)I" } : Jvm.MethodName)) ∈ BIG := tb4 95 rfl rfl
theorem wd_4_96 : (Jvm.Cond.code ({ cls := "PageHoldModel", name := "put", desc := "(IIIZJI)I" } : Jvm.MethodName) prog_9_method_29_code (12 : Nat) (Option.some Jvm.ClassFile.FieldType.int)) ∈ BIG := tb4 96 rfl rfl
theorem wd_4_97 : (Jvm.Cond.methodLink "PageHoldModel" (192 : Nat) ({ cls := "PageHoldModel", name := "lessDirty", desc := "()V" } : Jvm.MethodName)) ∈ BIG := tb4 97 rfl rfl
theorem wd_4_99 : (Jvm.Cond.instanceMethod ({ cls := "PageHoldModel", name := "lessDirty", desc := "()V" } : Jvm.MethodName)) ∈ BIG := tb4 99 rfl rfl
theorem wd_4_100 : (Jvm.Cond.code ({ cls := "PageHoldModel", name := "lessDirty", desc := "()V" } : Jvm.MethodName) prog_9_method_28_code (3 : Nat) (Option.none : Option Jvm.ClassFile.FieldType)) ∈ BIG := tb4 100 rfl rfl
theorem wd_4_101 : (Jvm.Cond.methodLink "PageHoldModel" (180 : Nat) ({ cls := "PageHoldModel", name := "dirties", desc := "()I" } : Jvm.MethodName)) ∈ BIG := tb4 101 rfl rfl
theorem wd_4_103 : (Jvm.Cond.instanceMethod ({ cls := "PageHoldModel", name := "dirties", desc := "()I" } : Jvm.MethodName)) ∈ BIG := tb4 103 rfl rfl
theorem wd_4_104 : (Jvm.Cond.code ({ cls := "PageHoldModel", name := "dirties", desc := "()I" } : Jvm.MethodName) prog_9_method_25_code (3 : Nat) (Option.some Jvm.ClassFile.FieldType.int)) ∈ BIG := tb4 104 rfl rfl
theorem wd_4_105 : (Jvm.Cond.methodLink "PageHoldModel" (183 : Nat) ({ cls := "PageHoldModel", name := "noneTried", desc := "()V" } : Jvm.MethodName)) ∈ BIG := tb4 105 rfl rfl
theorem wd_4_107 : (Jvm.Cond.instanceMethod ({ cls := "PageHoldModel", name := "noneTried", desc := "()V" } : Jvm.MethodName)) ∈ BIG := tb4 107 rfl rfl
theorem wd_4_108 : (Jvm.Cond.code ({ cls := "PageHoldModel", name := "noneTried", desc := "()V" } : Jvm.MethodName) prog_9_method_27_code (2 : Nat) (Option.none : Option Jvm.ClassFile.FieldType)) ∈ BIG := tb4 108 rfl rfl
theorem wd_4_109 : (Jvm.Cond.methodLink "PageHoldModel" (189 : Nat) ({ cls := "PageHoldModel", name := "oldest", desc := "(I)I" } : Jvm.MethodName)) ∈ BIG := tb4 109 rfl rfl
theorem wd_4_111 : (Jvm.Cond.instanceMethod ({ cls := "PageHoldModel", name := "oldest", desc := "(I)I" } : Jvm.MethodName)) ∈ BIG := tb4 111 rfl rfl
theorem wd_4_112 : (Jvm.Cond.code ({ cls := "PageHoldModel", name := "oldest", desc := "(I)I" } : Jvm.MethodName) prog_9_method_26_code (4 : Nat) (Option.some Jvm.ClassFile.FieldType.int)) ∈ BIG := tb4 112 rfl rfl
theorem wd_4_113 : (Jvm.Cond.methodLink "PageHoldLaw" (42 : Nat) ({ cls := "PageHoldModel", name := "fill", desc := "(IIII)I" } : Jvm.MethodName)) ∈ BIG := tb4 113 rfl rfl
theorem wd_4_114 : (Jvm.Cond.instanceMethod ({ cls := "PageHoldModel", name := "fill", desc := "(IIII)I" } : Jvm.MethodName)) ∈ BIG := tb4 114 rfl rfl
theorem wd_4_115 : (Jvm.Cond.selects "PageHoldModel" ({ cls := "PageHoldModel", name := "fill", desc := "(IIII)I" } : Jvm.MethodName) ({ cls := "PageHoldModel", name := "fill", desc := "(IIII)I" } : Jvm.MethodName)) ∈ BIG := tb4 115 rfl rfl
theorem wd_4_116 : (Jvm.Cond.code ({ cls := "PageHoldModel", name := "fill", desc := "(IIII)I" } : Jvm.MethodName) prog_9_method_31_code (5 : Nat) (Option.some Jvm.ClassFile.FieldType.int)) ∈ BIG := tb4 116 rfl rfl
theorem wd_4_117 : (Jvm.Cond.methodLink "PageHoldLaw" (47 : Nat) ({ cls := "PageHoldModel", name := "truncate", desc := "(II)I" } : Jvm.MethodName)) ∈ BIG := tb4 117 rfl rfl
theorem wd_4_118 : (Jvm.Cond.instanceMethod ({ cls := "PageHoldModel", name := "truncate", desc := "(II)I" } : Jvm.MethodName)) ∈ BIG := tb4 118 rfl rfl
theorem wd_4_119 : (Jvm.Cond.selects "PageHoldModel" ({ cls := "PageHoldModel", name := "truncate", desc := "(II)I" } : Jvm.MethodName) ({ cls := "PageHoldModel", name := "truncate", desc := "(II)I" } : Jvm.MethodName)) ∈ BIG := tb4 119 rfl rfl
theorem wd_4_120 : (Jvm.Cond.code ({ cls := "PageHoldModel", name := "truncate", desc := "(II)I" } : Jvm.MethodName) prog_9_method_33_code (6 : Nat) (Option.some Jvm.ClassFile.FieldType.int)) ∈ BIG := tb4 120 rfl rfl
theorem wd_4_121 : (Jvm.Cond.methodLink "PageHoldModel" (199 : Nat) ({ cls := "PageHoldModel", name := "isHoled", desc := "(I)Z" } : Jvm.MethodName)) ∈ BIG := tb4 121 rfl rfl
theorem wd_4_123 : (Jvm.Cond.instanceMethod ({ cls := "PageHoldModel", name := "isHoled", desc := "(I)Z" } : Jvm.MethodName)) ∈ BIG := tb4 123 rfl rfl
theorem wd_4_124 : (Jvm.Cond.code ({ cls := "PageHoldModel", name := "isHoled", desc := "(I)Z" } : Jvm.MethodName) prog_9_method_32_code (3 : Nat) (Option.some Jvm.ClassFile.FieldType.boolean)) ∈ BIG := tb4 124 rfl rfl
theorem wd_4_125 : (Jvm.Cond.methodLink "PageHoldLaw" (51 : Nat) ({ cls := "PageHoldModel", name := "punch", desc := "(III)I" } : Jvm.MethodName)) ∈ BIG := tb4 125 rfl rfl
theorem wd_4_126 : (Jvm.Cond.instanceMethod ({ cls := "PageHoldModel", name := "punch", desc := "(III)I" } : Jvm.MethodName)) ∈ BIG := tb4 126 rfl rfl
theorem wd_4_127 : (Jvm.Cond.selects "PageHoldModel" ({ cls := "PageHoldModel", name := "punch", desc := "(III)I" } : Jvm.MethodName) ({ cls := "PageHoldModel", name := "punch", desc := "(III)I" } : Jvm.MethodName)) ∈ BIG := tb4 127 rfl rfl
theorem wd_4_128 : (Jvm.Cond.code ({ cls := "PageHoldModel", name := "punch", desc := "(III)I" } : Jvm.MethodName) prog_9_method_34_code (6 : Nat) (Option.some Jvm.ClassFile.FieldType.int)) ∈ BIG := tb4 128 rfl rfl
theorem wd_4_129 : (Jvm.Cond.methodLink "PageHoldModel" (202 : Nat) ({ cls := "PageHoldModel", name := "isPage", desc := "(I)Z" } : Jvm.MethodName)) ∈ BIG := tb4 129 rfl rfl
theorem wd_4_130 : (Jvm.Cond.static ({ cls := "PageHoldModel", name := "isPage", desc := "(I)Z" } : Jvm.MethodName)) ∈ BIG := tb4 130 rfl rfl
theorem wd_4_131 : (Jvm.Cond.code ({ cls := "PageHoldModel", name := "isPage", desc := "(I)Z" } : Jvm.MethodName) prog_9_method_4_code (1 : Nat) (Option.some Jvm.ClassFile.FieldType.boolean)) ∈ BIG := tb4 131 rfl rfl
theorem wd_4_132 : (Jvm.Cond.methodLink "PageHoldLaw" (55 : Nat) ({ cls := "PageHoldModel", name := "sync", desc := "(I)I" } : Jvm.MethodName)) ∈ BIG := tb4 132 rfl rfl
theorem wd_4_133 : (Jvm.Cond.instanceMethod ({ cls := "PageHoldModel", name := "sync", desc := "(I)I" } : Jvm.MethodName)) ∈ BIG := tb4 133 rfl rfl
theorem wd_4_134 : (Jvm.Cond.selects "PageHoldModel" ({ cls := "PageHoldModel", name := "sync", desc := "(I)I" } : Jvm.MethodName) ({ cls := "PageHoldModel", name := "sync", desc := "(I)I" } : Jvm.MethodName)) ∈ BIG := tb4 134 rfl rfl
theorem wd_4_135 : (Jvm.Cond.code ({ cls := "PageHoldModel", name := "sync", desc := "(I)I" } : Jvm.MethodName) prog_9_method_35_code (4 : Nat) (Option.some Jvm.ClassFile.FieldType.int)) ∈ BIG := tb4 135 rfl rfl
theorem wd_4_136 : (Jvm.Cond.methodLink "PageHoldLaw" (60 : Nat) ({ cls := "PageHoldModel", name := "syncAll", desc := "()I" } : Jvm.MethodName)) ∈ BIG := tb4 136 rfl rfl
theorem wd_4_137 : (Jvm.Cond.instanceMethod ({ cls := "PageHoldModel", name := "syncAll", desc := "()I" } : Jvm.MethodName)) ∈ BIG := tb4 137 rfl rfl
theorem wd_4_138 : (Jvm.Cond.selects "PageHoldModel" ({ cls := "PageHoldModel", name := "syncAll", desc := "()I" } : Jvm.MethodName) ({ cls := "PageHoldModel", name := "syncAll", desc := "()I" } : Jvm.MethodName)) ∈ BIG := tb4 138 rfl rfl
theorem wd_4_139 : (Jvm.Cond.code ({ cls := "PageHoldModel", name := "syncAll", desc := "()I" } : Jvm.MethodName) prog_9_method_36_code (4 : Nat) (Option.some Jvm.ClassFile.FieldType.int)) ∈ BIG := tb4 139 rfl rfl
theorem wd_4_140 : (Jvm.Cond.methodLink "PageHoldLaw" (64 : Nat) ({ cls := "PageHoldModel", name := "tick", desc := "(I)I" } : Jvm.MethodName)) ∈ BIG := tb4 140 rfl rfl
theorem wd_4_141 : (Jvm.Cond.instanceMethod ({ cls := "PageHoldModel", name := "tick", desc := "(I)I" } : Jvm.MethodName)) ∈ BIG := tb4 141 rfl rfl
theorem wd_4_142 : (Jvm.Cond.selects "PageHoldModel" ({ cls := "PageHoldModel", name := "tick", desc := "(I)I" } : Jvm.MethodName) ({ cls := "PageHoldModel", name := "tick", desc := "(I)I" } : Jvm.MethodName)) ∈ BIG := tb4 142 rfl rfl
theorem wd_4_143 : (Jvm.Cond.code ({ cls := "PageHoldModel", name := "tick", desc := "(I)I" } : Jvm.MethodName) prog_9_method_37_code (6 : Nat) (Option.some Jvm.ClassFile.FieldType.int)) ∈ BIG := tb4 143 rfl rfl
theorem wd_4_144 : (Jvm.Cond.methodLink "PageHoldLaw" (68 : Nat) ({ cls := "PageHoldModel", name := "drop", desc := "()I" } : Jvm.MethodName)) ∈ BIG := tb4 144 rfl rfl
theorem wd_4_145 : (Jvm.Cond.instanceMethod ({ cls := "PageHoldModel", name := "drop", desc := "()I" } : Jvm.MethodName)) ∈ BIG := tb4 145 rfl rfl
theorem wd_4_146 : (Jvm.Cond.selects "PageHoldModel" ({ cls := "PageHoldModel", name := "drop", desc := "()I" } : Jvm.MethodName) ({ cls := "PageHoldModel", name := "drop", desc := "()I" } : Jvm.MethodName)) ∈ BIG := tb4 146 rfl rfl
theorem wd_4_147 : (Jvm.Cond.code ({ cls := "PageHoldModel", name := "drop", desc := "()I" } : Jvm.MethodName) prog_9_method_38_code (3 : Nat) (Option.some Jvm.ClassFile.FieldType.int)) ∈ BIG := tb4 147 rfl rfl
theorem wd_4_148 : (Jvm.Cond.methodLink "PageHoldLaw" (72 : Nat) ({ cls := "PageHoldModel", name := "crash", desc := "()I" } : Jvm.MethodName)) ∈ BIG := tb4 148 rfl rfl
theorem wd_4_149 : (Jvm.Cond.instanceMethod ({ cls := "PageHoldModel", name := "crash", desc := "()I" } : Jvm.MethodName)) ∈ BIG := tb4 149 rfl rfl
theorem wd_4_150 : (Jvm.Cond.selects "PageHoldModel" ({ cls := "PageHoldModel", name := "crash", desc := "()I" } : Jvm.MethodName) ({ cls := "PageHoldModel", name := "crash", desc := "()I" } : Jvm.MethodName)) ∈ BIG := tb4 150 rfl rfl
theorem wd_4_151 : (Jvm.Cond.code ({ cls := "PageHoldModel", name := "crash", desc := "()I" } : Jvm.MethodName) prog_9_method_39_code (3 : Nat) (Option.some Jvm.ClassFile.FieldType.int)) ∈ BIG := tb4 151 rfl rfl
theorem wd_4_152 : (Jvm.Cond.methodLink "PageHoldLaw" (77 : Nat) ({ cls := "PageHoldModel", name := "fail", desc := "(IZ)Z" } : Jvm.MethodName)) ∈ BIG := tb4 152 rfl rfl
theorem wd_4_153 : (Jvm.Cond.instanceMethod ({ cls := "PageHoldModel", name := "fail", desc := "(IZ)Z" } : Jvm.MethodName)) ∈ BIG := tb4 153 rfl rfl
theorem wd_4_154 : (Jvm.Cond.selects "PageHoldModel" ({ cls := "PageHoldModel", name := "fail", desc := "(IZ)Z" } : Jvm.MethodName) ({ cls := "PageHoldModel", name := "fail", desc := "(IZ)Z" } : Jvm.MethodName)) ∈ BIG := tb4 154 rfl rfl
theorem wd_4_155 : (Jvm.Cond.code ({ cls := "PageHoldModel", name := "fail", desc := "(IZ)Z" } : Jvm.MethodName) prog_9_method_40_code (4 : Nat) (Option.some Jvm.ClassFile.FieldType.boolean)) ∈ BIG := tb4 155 rfl rfl
theorem wd_4_156 : (Jvm.Cond.methodLink "PageHoldLaw" (82 : Nat) ({ cls := "PageHoldModel", name := "pin", desc := "(IIZ)Z" } : Jvm.MethodName)) ∈ BIG := tb4 156 rfl rfl
theorem wd_4_157 : (Jvm.Cond.instanceMethod ({ cls := "PageHoldModel", name := "pin", desc := "(IIZ)Z" } : Jvm.MethodName)) ∈ BIG := tb4 157 rfl rfl
theorem wd_4_158 : (Jvm.Cond.selects "PageHoldModel" ({ cls := "PageHoldModel", name := "pin", desc := "(IIZ)Z" } : Jvm.MethodName) ({ cls := "PageHoldModel", name := "pin", desc := "(IIZ)Z" } : Jvm.MethodName)) ∈ BIG := tb4 158 rfl rfl
theorem wd_4_159 : (Jvm.Cond.code ({ cls := "PageHoldModel", name := "pin", desc := "(IIZ)Z" } : Jvm.MethodName) prog_9_method_42_code (6 : Nat) (Option.some Jvm.ClassFile.FieldType.boolean)) ∈ BIG := tb4 159 rfl rfl
theorem wd_4_160 : (Jvm.Cond.methodLink "PageHoldModel" (205 : Nat) ({ cls := "PageHoldModel", name := "pins", desc := "()I" } : Jvm.MethodName)) ∈ BIG := tb4 160 rfl rfl
theorem wd_4_162 : (Jvm.Cond.instanceMethod ({ cls := "PageHoldModel", name := "pins", desc := "()I" } : Jvm.MethodName)) ∈ BIG := tb4 162 rfl rfl
theorem wd_4_163 : (Jvm.Cond.code ({ cls := "PageHoldModel", name := "pins", desc := "()I" } : Jvm.MethodName) prog_9_method_41_code (3 : Nat) (Option.some Jvm.ClassFile.FieldType.int)) ∈ BIG := tb4 163 rfl rfl
theorem wd_4_164 : (Jvm.Cond.methodLink "PageHoldLaw" (86 : Nat) ({ cls := "PageHoldModel", name := "size", desc := "(I)I" } : Jvm.MethodName)) ∈ BIG := tb4 164 rfl rfl
theorem wd_4_165 : (Jvm.Cond.instanceMethod ({ cls := "PageHoldModel", name := "size", desc := "(I)I" } : Jvm.MethodName)) ∈ BIG := tb4 165 rfl rfl
theorem wd_4_166 : (Jvm.Cond.selects "PageHoldModel" ({ cls := "PageHoldModel", name := "size", desc := "(I)I" } : Jvm.MethodName) ({ cls := "PageHoldModel", name := "size", desc := "(I)I" } : Jvm.MethodName)) ∈ BIG := tb4 166 rfl rfl
theorem wd_4_167 : (Jvm.Cond.code ({ cls := "PageHoldModel", name := "size", desc := "(I)I" } : Jvm.MethodName) prog_9_method_43_code (2 : Nat) (Option.some Jvm.ClassFile.FieldType.int)) ∈ BIG := tb4 167 rfl rfl
theorem wd_4_168 : (Jvm.Cond.methodLink "PageHoldLaw" (90 : Nat) ({ cls := "PageHoldModel", name := "page", desc := "(III)I" } : Jvm.MethodName)) ∈ BIG := tb4 168 rfl rfl
theorem wd_4_169 : (Jvm.Cond.instanceMethod ({ cls := "PageHoldModel", name := "page", desc := "(III)I" } : Jvm.MethodName)) ∈ BIG := tb4 169 rfl rfl
theorem wd_4_170 : (Jvm.Cond.selects "PageHoldModel" ({ cls := "PageHoldModel", name := "page", desc := "(III)I" } : Jvm.MethodName) ({ cls := "PageHoldModel", name := "page", desc := "(III)I" } : Jvm.MethodName)) ∈ BIG := tb4 170 rfl rfl
theorem wd_4_171 : (Jvm.Cond.code ({ cls := "PageHoldModel", name := "page", desc := "(III)I" } : Jvm.MethodName) prog_9_method_44_code (5 : Nat) (Option.some Jvm.ClassFile.FieldType.int)) ∈ BIG := tb4 171 rfl rfl
theorem wd_4_172 : (Jvm.Cond.methodLink "PageHoldLaw" (94 : Nat) ({ cls := "PageHoldModel", name := "next", desc := "(III)I" } : Jvm.MethodName)) ∈ BIG := tb4 172 rfl rfl
theorem wd_4_173 : (Jvm.Cond.instanceMethod ({ cls := "PageHoldModel", name := "next", desc := "(III)I" } : Jvm.MethodName)) ∈ BIG := tb4 173 rfl rfl
theorem wd_4_174 : (Jvm.Cond.selects "PageHoldModel" ({ cls := "PageHoldModel", name := "next", desc := "(III)I" } : Jvm.MethodName) ({ cls := "PageHoldModel", name := "next", desc := "(III)I" } : Jvm.MethodName)) ∈ BIG := tb4 174 rfl rfl
theorem wd_4_175 : (Jvm.Cond.code ({ cls := "PageHoldModel", name := "next", desc := "(III)I" } : Jvm.MethodName) prog_9_method_46_code (5 : Nat) (Option.some Jvm.ClassFile.FieldType.int)) ∈ BIG := tb4 175 rfl rfl
theorem wd_4_176 : (Jvm.Cond.methodLink "PageHoldModel" (208 : Nat) ({ cls := "PageHoldModel", name := "hasMark", desc := "(II)Z" } : Jvm.MethodName)) ∈ BIG := tb4 176 rfl rfl
theorem wd_4_178 : (Jvm.Cond.instanceMethod ({ cls := "PageHoldModel", name := "hasMark", desc := "(II)Z" } : Jvm.MethodName)) ∈ BIG := tb4 178 rfl rfl
theorem wd_4_179 : (Jvm.Cond.code ({ cls := "PageHoldModel", name := "hasMark", desc := "(II)Z" } : Jvm.MethodName) prog_9_method_45_code (3 : Nat) (Option.some Jvm.ClassFile.FieldType.boolean)) ∈ BIG := tb4 179 rfl rfl
theorem wd_4_180 : (Jvm.Cond.methodLink "PageHoldLaw" (98 : Nat) ({ cls := "PageHoldModel", name := "tree", desc := "(II)I" } : Jvm.MethodName)) ∈ BIG := tb4 180 rfl rfl
theorem wd_4_181 : (Jvm.Cond.instanceMethod ({ cls := "PageHoldModel", name := "tree", desc := "(II)I" } : Jvm.MethodName)) ∈ BIG := tb4 181 rfl rfl
theorem wd_4_182 : (Jvm.Cond.selects "PageHoldModel" ({ cls := "PageHoldModel", name := "tree", desc := "(II)I" } : Jvm.MethodName) ({ cls := "PageHoldModel", name := "tree", desc := "(II)I" } : Jvm.MethodName)) ∈ BIG := tb4 182 rfl rfl
theorem wd_4_183 : (Jvm.Cond.code ({ cls := "PageHoldModel", name := "tree", desc := "(II)I" } : Jvm.MethodName) prog_9_method_50_code (5 : Nat) (Option.some Jvm.ClassFile.FieldType.int)) ∈ BIG := tb4 183 rfl rfl
theorem wd_4_184 : (Jvm.Cond.methodLink "PageHoldModel" (215 : Nat) ({ cls := "PageHoldModel", name := "height", desc := "(I)I" } : Jvm.MethodName)) ∈ BIG := tb4 184 rfl rfl
theorem wd_4_186 : (Jvm.Cond.instanceMethod ({ cls := "PageHoldModel", name := "height", desc := "(I)I" } : Jvm.MethodName)) ∈ BIG := tb4 186 rfl rfl
theorem wd_4_187 : (Jvm.Cond.code ({ cls := "PageHoldModel", name := "height", desc := "(I)I" } : Jvm.MethodName) prog_9_method_48_code (4 : Nat) (Option.some Jvm.ClassFile.FieldType.int)) ∈ BIG := tb4 187 rfl rfl
theorem wd_4_188 : (Jvm.Cond.methodLink "PageHoldModel" (212 : Nat) ({ cls := "PageHoldModel", name := "isEntry", desc := "(I)Z" } : Jvm.MethodName)) ∈ BIG := tb4 188 rfl rfl
theorem wd_4_190 : (Jvm.Cond.instanceMethod ({ cls := "PageHoldModel", name := "isEntry", desc := "(I)Z" } : Jvm.MethodName)) ∈ BIG := tb4 190 rfl rfl
theorem wd_4_191 : (Jvm.Cond.code ({ cls := "PageHoldModel", name := "isEntry", desc := "(I)Z" } : Jvm.MethodName) prog_9_method_47_code (2 : Nat) (Option.some Jvm.ClassFile.FieldType.boolean)) ∈ BIG := tb4 191 rfl rfl
theorem wd_4_192 : (Jvm.Cond.methodLink "PageHoldModel" (218 : Nat) ({ cls := "PageHoldModel", name := "nodes", desc := "(I)I" } : Jvm.MethodName)) ∈ BIG := tb4 192 rfl rfl
theorem wd_4_194 : (Jvm.Cond.instanceMethod ({ cls := "PageHoldModel", name := "nodes", desc := "(I)I" } : Jvm.MethodName)) ∈ BIG := tb4 194 rfl rfl
theorem wd_4_195 : (Jvm.Cond.code ({ cls := "PageHoldModel", name := "nodes", desc := "(I)I" } : Jvm.MethodName) prog_9_method_49_code (8 : Nat) (Option.some Jvm.ClassFile.FieldType.int)) ∈ BIG := tb4 195 rfl rfl
theorem wd_4_196 : (Jvm.Cond.methodLink "PageHoldLaw" (103 : Nat) ({ cls := "PageHoldModel", name := "listed", desc := "(ZI)I" } : Jvm.MethodName)) ∈ BIG := tb4 196 rfl rfl
theorem wd_4_197 : (Jvm.Cond.instanceMethod ({ cls := "PageHoldModel", name := "listed", desc := "(ZI)I" } : Jvm.MethodName)) ∈ BIG := tb4 197 rfl rfl
theorem wd_4_198 : (Jvm.Cond.selects "PageHoldModel" ({ cls := "PageHoldModel", name := "listed", desc := "(ZI)I" } : Jvm.MethodName) ({ cls := "PageHoldModel", name := "listed", desc := "(ZI)I" } : Jvm.MethodName)) ∈ BIG := tb4 198 rfl rfl
theorem wd_4_199 : (Jvm.Cond.code ({ cls := "PageHoldModel", name := "listed", desc := "(ZI)I" } : Jvm.MethodName) prog_9_method_51_code (3 : Nat) (Option.some Jvm.ClassFile.FieldType.int)) ∈ BIG := tb4 199 rfl rfl
theorem wd_4_200 : (Jvm.Cond.methodLink "PageHoldLaw" (107 : Nat) ({ cls := "PageHoldModel", name := "disk", desc := "(II)I" } : Jvm.MethodName)) ∈ BIG := tb4 200 rfl rfl
theorem wd_4_201 : (Jvm.Cond.instanceMethod ({ cls := "PageHoldModel", name := "disk", desc := "(II)I" } : Jvm.MethodName)) ∈ BIG := tb4 201 rfl rfl
theorem wd_4_202 : (Jvm.Cond.selects "PageHoldModel" ({ cls := "PageHoldModel", name := "disk", desc := "(II)I" } : Jvm.MethodName) ({ cls := "PageHoldModel", name := "disk", desc := "(II)I" } : Jvm.MethodName)) ∈ BIG := tb4 202 rfl rfl
theorem wd_4_203 : (Jvm.Cond.code ({ cls := "PageHoldModel", name := "disk", desc := "(II)I" } : Jvm.MethodName) prog_9_method_52_code (3 : Nat) (Option.some Jvm.ClassFile.FieldType.int)) ∈ BIG := tb4 203 rfl rfl
theorem wd_4_204 : (Jvm.Cond.methodLink "PageHoldLaw" (111 : Nat) ({ cls := "PageHoldModel", name := "run", desc := "(II)I" } : Jvm.MethodName)) ∈ BIG := tb4 204 rfl rfl
theorem wd_4_205 : (Jvm.Cond.instanceMethod ({ cls := "PageHoldModel", name := "run", desc := "(II)I" } : Jvm.MethodName)) ∈ BIG := tb4 205 rfl rfl
theorem wd_4_206 : (Jvm.Cond.selects "PageHoldModel" ({ cls := "PageHoldModel", name := "run", desc := "(II)I" } : Jvm.MethodName) ({ cls := "PageHoldModel", name := "run", desc := "(II)I" } : Jvm.MethodName)) ∈ BIG := tb4 206 rfl rfl
theorem wd_4_207 : (Jvm.Cond.code ({ cls := "PageHoldModel", name := "run", desc := "(II)I" } : Jvm.MethodName) prog_9_method_53_code (3 : Nat) (Option.some Jvm.ClassFile.FieldType.int)) ∈ BIG := tb4 207 rfl rfl
theorem wd_4_208 : (Jvm.Cond.methodLink "PageHoldLaw" (115 : Nat) ({ cls := "PageHoldModel", name := "told", desc := "(I)I" } : Jvm.MethodName)) ∈ BIG := tb4 208 rfl rfl
theorem wd_4_209 : (Jvm.Cond.instanceMethod ({ cls := "PageHoldModel", name := "told", desc := "(I)I" } : Jvm.MethodName)) ∈ BIG := tb4 209 rfl rfl
theorem wd_4_210 : (Jvm.Cond.selects "PageHoldModel" ({ cls := "PageHoldModel", name := "told", desc := "(I)I" } : Jvm.MethodName) ({ cls := "PageHoldModel", name := "told", desc := "(I)I" } : Jvm.MethodName)) ∈ BIG := tb4 210 rfl rfl
theorem wd_4_211 : (Jvm.Cond.code ({ cls := "PageHoldModel", name := "told", desc := "(I)I" } : Jvm.MethodName) prog_9_method_57_code (2 : Nat) (Option.some Jvm.ClassFile.FieldType.int)) ∈ BIG := tb4 211 rfl rfl
theorem wd_4_212 : (Jvm.Cond.methodLink "PageHoldModel" (221 : Nat) ({ cls := "PageHoldModel", name := "pagesIn", desc := "()I" } : Jvm.MethodName)) ∈ BIG := tb4 212 rfl rfl
theorem wd_4_214 : (Jvm.Cond.instanceMethod ({ cls := "PageHoldModel", name := "pagesIn", desc := "()I" } : Jvm.MethodName)) ∈ BIG := tb4 214 rfl rfl
theorem wd_4_215 : (Jvm.Cond.code ({ cls := "PageHoldModel", name := "pagesIn", desc := "()I" } : Jvm.MethodName) prog_9_method_54_code (3 : Nat) (Option.some Jvm.ClassFile.FieldType.int)) ∈ BIG := tb4 215 rfl rfl
theorem wd_4_216 : (Jvm.Cond.methodLink "PageHoldModel" (224 : Nat) ({ cls := "PageHoldModel", name := "freeBlocks", desc := "()I" } : Jvm.MethodName)) ∈ BIG := tb4 216 rfl rfl
theorem wd_4_218 : (Jvm.Cond.instanceMethod ({ cls := "PageHoldModel", name := "freeBlocks", desc := "()I" } : Jvm.MethodName)) ∈ BIG := tb4 218 rfl rfl
theorem wd_4_219 : (Jvm.Cond.code ({ cls := "PageHoldModel", name := "freeBlocks", desc := "()I" } : Jvm.MethodName) prog_9_method_55_code (3 : Nat) (Option.some Jvm.ClassFile.FieldType.int)) ∈ BIG := tb4 219 rfl rfl
theorem wd_4_220 : (Jvm.Cond.methodLink "PageHoldModel" (227 : Nat) ({ cls := "PageHoldModel", name := "wrongFiles", desc := "()I" } : Jvm.MethodName)) ∈ BIG := tb4 220 rfl rfl
theorem wd_4_222 : (Jvm.Cond.instanceMethod ({ cls := "PageHoldModel", name := "wrongFiles", desc := "()I" } : Jvm.MethodName)) ∈ BIG := tb4 222 rfl rfl
theorem wd_4_223 : (Jvm.Cond.code ({ cls := "PageHoldModel", name := "wrongFiles", desc := "()I" } : Jvm.MethodName) prog_9_method_56_code (3 : Nat) (Option.some Jvm.ClassFile.FieldType.int)) ∈ BIG := tb4 223 rfl rfl
theorem wd_4_224 : (Jvm.Cond.constantLong "PageHoldLaw" (31 : Nat) (4294967295 : Int64)) ∈ BIG := tb4 224 rfl rfl
theorem wd_s_0 : Cond.selects "PageHold" ⟨"PageHold", "readPage", "(IIII)I"⟩ ⟨"PageHold", "readPage", "(IIII)I"⟩ ∈ BIG := bg_sel (y := ⟨"PageHold", "readPage", "(IIII)I"⟩) 9 0 (by decide +kernel)
theorem wd_s_1 : Cond.selects "PageHold" ⟨"PageHold", "touch", "(I)I"⟩ ⟨"PageHold", "touch", "(I)I"⟩ ∈ BIG := bg_sel (y := ⟨"PageHold", "touch", "(I)I"⟩) 9 1 (by decide +kernel)
theorem wd_s_2 : Cond.selects "PageHold" ⟨"PageHold", "bringIn", "(I)I"⟩ ⟨"PageHold", "bringIn", "(I)I"⟩ ∈ BIG := bg_sel (y := ⟨"PageHold", "bringIn", "(I)I"⟩) 9 2 (by decide +kernel)
theorem wd_s_3 : Cond.selects "PageHold" ⟨"PageHold", "lookAtInactive", "()I"⟩ ⟨"PageHold", "lookAtInactive", "()I"⟩ ∈ BIG := bg_sel (y := ⟨"PageHold", "lookAtInactive", "()I"⟩) 9 3 (by decide +kernel)
theorem wd_s_4 : Cond.selects "PageHold" ⟨"PageHold", "flush", "(I)Z"⟩ ⟨"PageHold", "flush", "(I)Z"⟩ ∈ BIG := bg_sel (y := ⟨"PageHold", "flush", "(I)Z"⟩) 9 4 (by decide +kernel)
theorem wd_s_5 : Cond.selects "PageHold" ⟨"PageHold", "giveBlock", "(I)Z"⟩ ⟨"PageHold", "giveBlock", "(I)Z"⟩ ∈ BIG := bg_sel (y := ⟨"PageHold", "giveBlock", "(I)Z"⟩) 9 5 (by decide +kernel)
theorem wd_s_6 : Cond.selects "PageHold$Disk" ⟨"PageHold$Disk", "note", "(II)V"⟩ ⟨"PageHold$Disk", "note", "(II)V"⟩ ∈ BIG := bg_sel (y := ⟨"PageHold$Disk", "note", "(II)V"⟩) 11 6 (by decide +kernel)
theorem wd_s_7 : Cond.selects "PageHold" ⟨"PageHold", "lookAtActive", "()I"⟩ ⟨"PageHold", "lookAtActive", "()I"⟩ ∈ BIG := bg_sel (y := ⟨"PageHold", "lookAtActive", "()I"⟩) 9 7 (by decide +kernel)
theorem wd_s_8 : Cond.selects "PageHold" ⟨"PageHold", "evict", "(I)V"⟩ ⟨"PageHold", "evict", "(I)V"⟩ ∈ BIG := bg_sel (y := ⟨"PageHold", "evict", "(I)V"⟩) 9 8 (by decide +kernel)
theorem wd_s_9 : Cond.selects "PageHold" ⟨"PageHold", "bringAhead", "(II)V"⟩ ⟨"PageHold", "bringAhead", "(II)V"⟩ ∈ BIG := bg_sel (y := ⟨"PageHold", "bringAhead", "(II)V"⟩) 9 9 (by decide +kernel)
theorem wd_s_10 : Cond.selects "PageHold" ⟨"PageHold", "putRow", "(III)I"⟩ ⟨"PageHold", "putRow", "(III)I"⟩ ∈ BIG := bg_sel (y := ⟨"PageHold", "putRow", "(III)I"⟩) 9 10 (by decide +kernel)
theorem wd_s_11 : Cond.selects "PageHold" ⟨"PageHold", "writeSurplus", "()V"⟩ ⟨"PageHold", "writeSurplus", "()V"⟩ ∈ BIG := bg_sel (y := ⟨"PageHold", "writeSurplus", "()V"⟩) 9 11 (by decide +kernel)
theorem wd_s_12 : Cond.selects "PageHold" ⟨"PageHold", "makeHole", "(I)Z"⟩ ⟨"PageHold", "makeHole", "(I)Z"⟩ ∈ BIG := bg_sel (y := ⟨"PageHold", "makeHole", "(I)Z"⟩) 9 12 (by decide +kernel)
theorem wd_s_13 : Cond.selects "PageHold" ⟨"PageHold", "cutLastPage", "(II)Z"⟩ ⟨"PageHold", "cutLastPage", "(II)Z"⟩ ∈ BIG := bg_sel (y := ⟨"PageHold", "cutLastPage", "(II)Z"⟩) 9 13 (by decide +kernel)
theorem wd_s_14 : Cond.selects "PageHold" ⟨"PageHold", "leastDirtyBlock", "(I)I"⟩ ⟨"PageHold", "leastDirtyBlock", "(I)I"⟩ ∈ BIG := bg_sel (y := ⟨"PageHold", "leastDirtyBlock", "(I)I"⟩) 9 14 (by decide +kernel)
theorem wd_s_15 : Cond.selects "PageHold" ⟨"PageHold", "dirtyBlockIn", "(I)I"⟩ ⟨"PageHold", "dirtyBlockIn", "(I)I"⟩ ∈ BIG := bg_sel (y := ⟨"PageHold", "dirtyBlockIn", "(I)I"⟩) 9 15 (by decide +kernel)
theorem wd_s_16 : Cond.selects "PageHold" ⟨"PageHold", "dirtyFrameAt", "(I)I"⟩ ⟨"PageHold", "dirtyFrameAt", "(I)I"⟩ ∈ BIG := bg_sel (y := ⟨"PageHold", "dirtyFrameAt", "(I)I"⟩) 9 16 (by decide +kernel)
theorem wd_s_17 : Cond.selects "PageHold" ⟨"PageHold", "writeAged", "()I"⟩ ⟨"PageHold", "writeAged", "()I"⟩ ∈ BIG := bg_sel (y := ⟨"PageHold", "writeAged", "()I"⟩) 9 17 (by decide +kernel)
theorem wd_s_18 : Cond.selects "PageHold" ⟨"PageHold", "isMarked", "(II)Z"⟩ ⟨"PageHold", "isMarked", "(II)Z"⟩ ∈ BIG := bg_sel (y := ⟨"PageHold", "isMarked", "(II)Z"⟩) 9 18 (by decide +kernel)
theorem wd_s_19 : Cond.selects "PageHold" ⟨"PageHold", "treeHeight", "(I)I"⟩ ⟨"PageHold", "treeHeight", "(I)I"⟩ ∈ BIG := bg_sel (y := ⟨"PageHold", "treeHeight", "(I)I"⟩) 9 19 (by decide +kernel)
theorem wd_s_20 : Cond.selects "PageHold" ⟨"PageHold", "isEntry", "(I)Z"⟩ ⟨"PageHold", "isEntry", "(I)Z"⟩ ∈ BIG := bg_sel (y := ⟨"PageHold", "isEntry", "(I)Z"⟩) 9 20 (by decide +kernel)
theorem wd_s_21 : Cond.selects "PageHold" ⟨"PageHold", "treeNodes", "(I)I"⟩ ⟨"PageHold", "treeNodes", "(I)I"⟩ ∈ BIG := bg_sel (y := ⟨"PageHold", "treeNodes", "(I)I"⟩) 9 21 (by decide +kernel)
theorem wd_s_22 : Cond.selects "PageHold" ⟨"PageHold", "treeEntries", "(I)I"⟩ ⟨"PageHold", "treeEntries", "(I)I"⟩ ∈ BIG := bg_sel (y := ⟨"PageHold", "treeEntries", "(I)I"⟩) 9 22 (by decide +kernel)
theorem wd_s_23 : Cond.selects "PageHoldModel" ⟨"PageHoldModel", "isIn", "(I)Z"⟩ ⟨"PageHoldModel", "isIn", "(I)Z"⟩ ∈ BIG := bg_sel (y := ⟨"PageHoldModel", "isIn", "(I)Z"⟩) 35 23 (by decide +kernel)
theorem wd_s_24 : Cond.selects "PageHoldModel" ⟨"PageHoldModel", "touch", "(I)Z"⟩ ⟨"PageHoldModel", "touch", "(I)Z"⟩ ∈ BIG := bg_sel (y := ⟨"PageHoldModel", "touch", "(I)Z"⟩) 35 24 (by decide +kernel)
theorem wd_s_25 : Cond.selects "PageHoldModel" ⟨"PageHoldModel", "seenAgain", "(I)V"⟩ ⟨"PageHoldModel", "seenAgain", "(I)V"⟩ ∈ BIG := bg_sel (y := ⟨"PageHoldModel", "seenAgain", "(I)V"⟩) 35 25 (by decide +kernel)
theorem wd_s_26 : Cond.selects "PageHoldModel" ⟨"PageHoldModel", "move", "(IZ)V"⟩ ⟨"PageHoldModel", "move", "(IZ)V"⟩ ∈ BIG := bg_sel (y := ⟨"PageHoldModel", "move", "(IZ)V"⟩) 35 26 (by decide +kernel)
theorem wd_s_27 : Cond.selects "PageHoldModel" ⟨"PageHoldModel", "fromList", "(I)V"⟩ ⟨"PageHoldModel", "fromList", "(I)V"⟩ ∈ BIG := bg_sel (y := ⟨"PageHoldModel", "fromList", "(I)V"⟩) 35 27 (by decide +kernel)
theorem wd_s_28 : Cond.selects "PageHoldModel" ⟨"PageHoldModel", "placeOf", "(I)I"⟩ ⟨"PageHoldModel", "placeOf", "(I)I"⟩ ∈ BIG := bg_sel (y := ⟨"PageHoldModel", "placeOf", "(I)I"⟩) 35 28 (by decide +kernel)
theorem wd_s_29 : Cond.selects "PageHoldModel" ⟨"PageHoldModel", "toFront", "(IZ)V"⟩ ⟨"PageHoldModel", "toFront", "(IZ)V"⟩ ∈ BIG := bg_sel (y := ⟨"PageHoldModel", "toFront", "(IZ)V"⟩) 35 29 (by decide +kernel)
theorem wd_s_30 : Cond.selects "PageHoldModel" ⟨"PageHoldModel", "bringIn", "(I)Z"⟩ ⟨"PageHoldModel", "bringIn", "(I)Z"⟩ ∈ BIG := bg_sel (y := ⟨"PageHoldModel", "bringIn", "(I)Z"⟩) 35 30 (by decide +kernel)
theorem wd_s_31 : Cond.selects "PageHoldModel" ⟨"PageHoldModel", "frame", "()I"⟩ ⟨"PageHoldModel", "frame", "()I"⟩ ∈ BIG := bg_sel (y := ⟨"PageHoldModel", "frame", "()I"⟩) 35 31 (by decide +kernel)
theorem wd_s_32 : Cond.selects "PageHoldModel" ⟨"PageHoldModel", "isDirty", "(I)Z"⟩ ⟨"PageHoldModel", "isDirty", "(I)Z"⟩ ∈ BIG := bg_sel (y := ⟨"PageHoldModel", "isDirty", "(I)Z"⟩) 35 32 (by decide +kernel)
theorem wd_s_33 : Cond.selects "PageHoldModel" ⟨"PageHoldModel", "written", "(I)Z"⟩ ⟨"PageHoldModel", "written", "(I)Z"⟩ ∈ BIG := bg_sel (y := ⟨"PageHoldModel", "written", "(I)Z"⟩) 35 33 (by decide +kernel)
theorem wd_s_34 : Cond.selects "PageHoldModel" ⟨"PageHoldModel", "hasBlock", "(I)Z"⟩ ⟨"PageHoldModel", "hasBlock", "(I)Z"⟩ ∈ BIG := bg_sel (y := ⟨"PageHoldModel", "hasBlock", "(I)Z"⟩) 35 34 (by decide +kernel)
theorem wd_s_35 : Cond.selects "PageHoldModel" ⟨"PageHoldModel", "wrong", "(II)V"⟩ ⟨"PageHoldModel", "wrong", "(II)V"⟩ ∈ BIG := bg_sel (y := ⟨"PageHoldModel", "wrong", "(II)V"⟩) 35 35 (by decide +kernel)
theorem wd_s_36 : Cond.selects "PageHoldModel" ⟨"PageHoldModel", "record", "(II)V"⟩ ⟨"PageHoldModel", "record", "(II)V"⟩ ∈ BIG := bg_sel (y := ⟨"PageHoldModel", "record", "(II)V"⟩) 35 36 (by decide +kernel)
theorem wd_s_37 : Cond.selects "PageHoldModel" ⟨"PageHoldModel", "evict", "(I)V"⟩ ⟨"PageHoldModel", "evict", "(I)V"⟩ ∈ BIG := bg_sel (y := ⟨"PageHoldModel", "evict", "(I)V"⟩) 35 37 (by decide +kernel)
theorem wd_s_38 : Cond.selects "PageHoldModel" ⟨"PageHoldModel", "goOut", "(I)V"⟩ ⟨"PageHoldModel", "goOut", "(I)V"⟩ ∈ BIG := bg_sel (y := ⟨"PageHoldModel", "goOut", "(I)V"⟩) 35 38 (by decide +kernel)
theorem wd_s_39 : Cond.selects "PageHoldModel" ⟨"PageHoldModel", "noShadow", "(I)V"⟩ ⟨"PageHoldModel", "noShadow", "(I)V"⟩ ∈ BIG := bg_sel (y := ⟨"PageHoldModel", "noShadow", "(I)V"⟩) 35 39 (by decide +kernel)
theorem wd_s_40 : Cond.selects "PageHoldModel" ⟨"PageHoldModel", "ahead", "(II)V"⟩ ⟨"PageHoldModel", "ahead", "(II)V"⟩ ∈ BIG := bg_sel (y := ⟨"PageHoldModel", "ahead", "(II)V"⟩) 35 40 (by decide +kernel)
theorem wd_s_41 : Cond.selects "PageHoldModel" ⟨"PageHoldModel", "put", "(IIIZJI)I"⟩ ⟨"PageHoldModel", "put", "(IIIZJI)I"⟩ ∈ BIG := bg_sel (y := ⟨"PageHoldModel", "put", "(IIIZJI)I"⟩) 35 41 (by decide +kernel)
theorem wd_s_42 : Cond.selects "PageHoldModel" ⟨"PageHoldModel", "lessDirty", "()V"⟩ ⟨"PageHoldModel", "lessDirty", "()V"⟩ ∈ BIG := bg_sel (y := ⟨"PageHoldModel", "lessDirty", "()V"⟩) 35 42 (by decide +kernel)
theorem wd_s_43 : Cond.selects "PageHoldModel" ⟨"PageHoldModel", "dirties", "()I"⟩ ⟨"PageHoldModel", "dirties", "()I"⟩ ∈ BIG := bg_sel (y := ⟨"PageHoldModel", "dirties", "()I"⟩) 35 43 (by decide +kernel)
theorem wd_s_44 : Cond.selects "PageHoldModel" ⟨"PageHoldModel", "noneTried", "()V"⟩ ⟨"PageHoldModel", "noneTried", "()V"⟩ ∈ BIG := bg_sel (y := ⟨"PageHoldModel", "noneTried", "()V"⟩) 35 44 (by decide +kernel)
theorem wd_s_45 : Cond.selects "PageHoldModel" ⟨"PageHoldModel", "oldest", "(I)I"⟩ ⟨"PageHoldModel", "oldest", "(I)I"⟩ ∈ BIG := bg_sel (y := ⟨"PageHoldModel", "oldest", "(I)I"⟩) 35 45 (by decide +kernel)
theorem wd_s_46 : Cond.selects "PageHoldModel" ⟨"PageHoldModel", "isHoled", "(I)Z"⟩ ⟨"PageHoldModel", "isHoled", "(I)Z"⟩ ∈ BIG := bg_sel (y := ⟨"PageHoldModel", "isHoled", "(I)Z"⟩) 35 46 (by decide +kernel)
theorem wd_s_47 : Cond.selects "PageHoldModel" ⟨"PageHoldModel", "pins", "()I"⟩ ⟨"PageHoldModel", "pins", "()I"⟩ ∈ BIG := bg_sel (y := ⟨"PageHoldModel", "pins", "()I"⟩) 35 47 (by decide +kernel)
theorem wd_s_48 : Cond.selects "PageHoldModel" ⟨"PageHoldModel", "hasMark", "(II)Z"⟩ ⟨"PageHoldModel", "hasMark", "(II)Z"⟩ ∈ BIG := bg_sel (y := ⟨"PageHoldModel", "hasMark", "(II)Z"⟩) 35 48 (by decide +kernel)
theorem wd_s_49 : Cond.selects "PageHoldModel" ⟨"PageHoldModel", "height", "(I)I"⟩ ⟨"PageHoldModel", "height", "(I)I"⟩ ∈ BIG := bg_sel (y := ⟨"PageHoldModel", "height", "(I)I"⟩) 35 49 (by decide +kernel)
theorem wd_s_50 : Cond.selects "PageHoldModel" ⟨"PageHoldModel", "isEntry", "(I)Z"⟩ ⟨"PageHoldModel", "isEntry", "(I)Z"⟩ ∈ BIG := bg_sel (y := ⟨"PageHoldModel", "isEntry", "(I)Z"⟩) 35 50 (by decide +kernel)
theorem wd_s_51 : Cond.selects "PageHoldModel" ⟨"PageHoldModel", "nodes", "(I)I"⟩ ⟨"PageHoldModel", "nodes", "(I)I"⟩ ∈ BIG := bg_sel (y := ⟨"PageHoldModel", "nodes", "(I)I"⟩) 35 51 (by decide +kernel)
theorem wd_s_52 : Cond.selects "PageHoldModel" ⟨"PageHoldModel", "pagesIn", "()I"⟩ ⟨"PageHoldModel", "pagesIn", "()I"⟩ ∈ BIG := bg_sel (y := ⟨"PageHoldModel", "pagesIn", "()I"⟩) 35 52 (by decide +kernel)
theorem wd_s_53 : Cond.selects "PageHoldModel" ⟨"PageHoldModel", "freeBlocks", "()I"⟩ ⟨"PageHoldModel", "freeBlocks", "()I"⟩ ∈ BIG := bg_sel (y := ⟨"PageHoldModel", "freeBlocks", "()I"⟩) 35 53 (by decide +kernel)
theorem wd_s_54 : Cond.selects "PageHoldModel" ⟨"PageHoldModel", "wrongFiles", "()I"⟩ ⟨"PageHoldModel", "wrongFiles", "()I"⟩ ∈ BIG := bg_sel (y := ⟨"PageHoldModel", "wrongFiles", "()I"⟩) 35 54 (by decide +kernel)
theorem uw_X0 : ∀ w ∈ u_ws RX0 TX0 11, w ∈ BIG := by
  intro w hw
  obtain ⟨k, hk, rfl⟩ := List.mem_map.mp hw
  have hk := List.mem_range.mp hk
  match k, hk with
  | 0, _ => exact tb1 64 rfl rfl
  | 1, _ => exact tb1 66 rfl rfl
  | 2, _ => exact tb1 68 rfl rfl
  | 3, _ => exact tb1 70 rfl rfl
  | 4, _ => exact tb1 72 rfl rfl
  | 5, _ => exact tb1 74 rfl rfl
  | 6, _ => exact tb1 76 rfl rfl
  | 7, _ => exact tb1 78 rfl rfl
  | 8, _ => exact tb1 80 rfl rfl
  | 9, _ => exact tb1 82 rfl rfl
  | 10, _ => exact tb1 84 rfl rfl
  | k + 11, hk => exact absurd hk (by omega)
theorem uw_X1 : ∀ w ∈ u_ws RX1 TX1 4, w ∈ BIG := by
  intro w hw
  obtain ⟨k, hk, rfl⟩ := List.mem_map.mp hw
  have hk := List.mem_range.mp hk
  match k, hk with
  | 0, _ => exact tb1 105 rfl rfl
  | 1, _ => exact tb1 107 rfl rfl
  | 2, _ => exact tb1 109 rfl rfl
  | 3, _ => exact tb1 111 rfl rfl
  | k + 4, hk => exact absurd hk (by omega)
theorem uw_X2 : ∀ w ∈ u_ws RX2 TX2 12, w ∈ BIG := by
  intro w hw
  obtain ⟨k, hk, rfl⟩ := List.mem_map.mp hw
  have hk := List.mem_range.mp hk
  match k, hk with
  | 0, _ => exact tb1 163 rfl rfl
  | 1, _ => exact tb1 165 rfl rfl
  | 2, _ => exact tb1 167 rfl rfl
  | 3, _ => exact tb1 169 rfl rfl
  | 4, _ => exact tb1 171 rfl rfl
  | 5, _ => exact tb1 173 rfl rfl
  | 6, _ => exact tb1 175 rfl rfl
  | 7, _ => exact tb1 177 rfl rfl
  | 8, _ => exact tb1 179 rfl rfl
  | 9, _ => exact tb1 181 rfl rfl
  | 10, _ => exact tb1 183 rfl rfl
  | 11, _ => exact tb1 185 rfl rfl
  | k + 12, hk => exact absurd hk (by omega)
theorem uw_X3 : ∀ w ∈ u_ws RX3 TX3 2, w ∈ BIG := by
  intro w hw
  obtain ⟨k, hk, rfl⟩ := List.mem_map.mp hw
  have hk := List.mem_range.mp hk
  match k, hk with
  | 0, _ => exact tb1 134 rfl rfl
  | 1, _ => exact tb1 136 rfl rfl
  | k + 2, hk => exact absurd hk (by omega)
theorem uw_X4 : ∀ w ∈ u_ws RX4 TX4 4, w ∈ BIG := by
  intro w hw
  obtain ⟨k, hk, rfl⟩ := List.mem_map.mp hw
  have hk := List.mem_range.mp hk
  match k, hk with
  | 0, _ => exact tb1 202 rfl rfl
  | 1, _ => exact tb1 204 rfl rfl
  | 2, _ => exact tb1 206 rfl rfl
  | 3, _ => exact tb1 208 rfl rfl
  | k + 4, hk => exact absurd hk (by omega)
theorem uw_X5 : ∀ w ∈ u_ws RX5 TX5 1, w ∈ BIG := by
  intro w hw
  obtain ⟨k, hk, rfl⟩ := List.mem_map.mp hw
  have hk := List.mem_range.mp hk
  match k, hk with
  | 0, _ => exact tb1 30 rfl rfl
  | k + 1, hk => exact absurd hk (by omega)
theorem uw_X6 : ∀ w ∈ u_ws RX6 TX6 9, w ∈ BIG := by
  intro w hw
  obtain ⟨k, hk, rfl⟩ := List.mem_map.mp hw
  have hk := List.mem_range.mp hk
  match k, hk with
  | 0, _ => exact tb1 221 rfl rfl
  | 1, _ => exact tb1 223 rfl rfl
  | 2, _ => exact tb1 225 rfl rfl
  | 3, _ => exact tb1 227 rfl rfl
  | 4, _ => exact tb1 229 rfl rfl
  | 5, _ => exact tb1 231 rfl rfl
  | 6, _ => exact tb1 233 rfl rfl
  | 7, _ => exact tb1 235 rfl rfl
  | 8, _ => exact tb1 237 rfl rfl
  | k + 9, hk => exact absurd hk (by omega)
theorem uw_X7 : ∀ w ∈ u_ws RX7 TX7 35, w ∈ BIG := by
  intro w hw
  obtain ⟨k, hk, rfl⟩ := List.mem_map.mp hw
  have hk := List.mem_range.mp hk
  match k, hk with
  | 0, _ => exact tb3 174 rfl rfl
  | 1, _ => exact tb3 176 rfl rfl
  | 2, _ => exact tb3 178 rfl rfl
  | 3, _ => exact tb3 180 rfl rfl
  | 4, _ => exact tb3 182 rfl rfl
  | 5, _ => exact tb3 184 rfl rfl
  | 6, _ => exact tb3 186 rfl rfl
  | 7, _ => exact tb3 188 rfl rfl
  | 8, _ => exact tb3 190 rfl rfl
  | 9, _ => exact tb3 192 rfl rfl
  | 10, _ => exact tb3 194 rfl rfl
  | 11, _ => exact tb3 196 rfl rfl
  | 12, _ => exact tb3 198 rfl rfl
  | 13, _ => exact tb3 200 rfl rfl
  | 14, _ => exact tb3 202 rfl rfl
  | 15, _ => exact tb3 204 rfl rfl
  | 16, _ => exact tb3 206 rfl rfl
  | 17, _ => exact tb3 208 rfl rfl
  | 18, _ => exact tb3 210 rfl rfl
  | 19, _ => exact tb3 212 rfl rfl
  | 20, _ => exact tb3 214 rfl rfl
  | 21, _ => exact tb3 216 rfl rfl
  | 22, _ => exact tb3 218 rfl rfl
  | 23, _ => exact tb3 220 rfl rfl
  | 24, _ => exact tb3 222 rfl rfl
  | 25, _ => exact tb3 224 rfl rfl
  | 26, _ => exact tb3 226 rfl rfl
  | 27, _ => exact tb3 228 rfl rfl
  | 28, _ => exact tb3 230 rfl rfl
  | 29, _ => exact tb3 232 rfl rfl
  | 30, _ => exact tb3 234 rfl rfl
  | 31, _ => exact tb3 236 rfl rfl
  | 32, _ => exact tb3 238 rfl rfl
  | 33, _ => exact tb4 0 rfl rfl
  | 34, _ => exact tb4 2 rfl rfl
  | k + 35, hk => exact absurd hk (by omega)
def nstL : List (String × Nat × String × String × String × String) := [("PageHold", 229, "PageHold$Disk", "bytes", "LPageHold$Words;", "PageHold"), ("PageHold", 168, "PageHold$Disk", "fails", "[Z", "PageHold"), ("PageHold", 257, "PageHold$Disk", "free", "I", "PageHold"), ("PageHold", 251, "PageHold$Disk", "reads", "I", "PageHold"), ("PageHold", 254, "PageHold$Disk", "writes", "I", "PageHold"), ("PageHold", 235, "PageHold$Disk", "kinds", "[I", "PageHold"), ("PageHold", 238, "PageHold$Disk", "firsts", "[I", "PageHold"), ("PageHold", 241, "PageHold$Disk", "lengths", "[I", "PageHold"), ("PageHold", 232, "PageHold$Disk", "runs", "I", "PageHold"), ("PageHold", 73, "PageHold$Files", "sizes", "[I", "PageHold"), ("PageHold", 208, "PageHold$Files", "windows", "[I", "PageHold"), ("PageHold", 211, "PageHold$Files", "goOn", "[I", "PageHold"), ("PageHold", 127, "PageHold$Files", "errors", "[I", "PageHold"), ("PageHold$Frames", 92, "PageHold$Order", "count", "I", "PageHold"), ("PageHold", 244, "PageHold$Order", "count", "I", "PageHold"), ("PageHold", 136, "PageHold$Frames", "most", "I", "PageHold"), ("PageHold", 266, "PageHold$Frames", "bytes", "LPageHold$Words;", "PageHold"), ("PageHold", 226, "PageHold$Frames", "spots", "[I", "PageHold"), ("PageHold", 181, "PageHold$Frames", "since", "[I", "PageHold"), ("PageHold", 190, "PageHold$Frames", "referenced", "[Z", "PageHold"), ("PageHold", 146, "PageHold$Frames", "pinned", "[Z", "PageHold"), ("PageHold", 193, "PageHold$Frames", "onActive", "[Z", "PageHold"), ("PageHold", 214, "PageHold$Frames", "active", "LPageHold$Order;", "PageHold"), ("PageHold", 223, "PageHold$Frames", "inactive", "LPageHold$Order;", "PageHold"), ("PageHold", 153, "PageHold$Frames", "dirtyCount", "I", "PageHold"), ("PageHold", 175, "PageHold$Frames", "pinnedCount", "I", "PageHold"), ("PageHold", 247, "PageHold$Shadows", "count", "I", "PageHold"), ("PageHold", 248, "PageHold$Shadows", "evicted", "I", "PageHold")]
def nst (U : State) : Prop := ∀ q ∈ nstL, va_Nw (.fieldLinkNest q.1 q.2.1 q.2.2.1 q.2.2.2.1 q.2.2.2.2.1 q.2.2.2.2.2) U
theorem nst.warm {s U : State} (hW : s.WarmedH U.vm) (h : nst s) : nst U := fun q hq => va_Nw.warmF hW (h q hq)
theorem nst.same {s U : State} (e : s.vm = U.vm) (h : nst s) : nst U := fun q hq => va_Nw.same rfl e (h q hq)
theorem nst.at {s : State} {args : Array Value} {a : String} {i : Nat} {b n d t : String} (h : nst s) (hm : (a, i, b, n, d, t) ∈ nstL) : (Cond.fieldLinkNest a i b n d t).before args s = true := va_Nw.use rfl (h (a, i, b, n, d, t) hm)
theorem nst_tb {args : Array Value} {s : State} (hts : ∀ w ∈ lw_tbl, w.before args s = true) : nst s := by
  have h : ∀ q ∈ nstL, Cond.fieldLinkNest q.1 q.2.1 q.2.2.1 q.2.2.2.1 q.2.2.2.2.1 q.2.2.2.2.2 ∈ tables_1 := by
    refine List.forall_mem_cons.mpr ⟨?_, List.forall_mem_cons.mpr ⟨?_, List.forall_mem_cons.mpr ⟨?_, List.forall_mem_cons.mpr ⟨?_, List.forall_mem_cons.mpr ⟨?_, List.forall_mem_cons.mpr ⟨?_, List.forall_mem_cons.mpr ⟨?_, List.forall_mem_cons.mpr ⟨?_, List.forall_mem_cons.mpr ⟨?_, List.forall_mem_cons.mpr ⟨?_, List.forall_mem_cons.mpr ⟨?_, List.forall_mem_cons.mpr ⟨?_, List.forall_mem_cons.mpr ⟨?_, List.forall_mem_cons.mpr ⟨?_, List.forall_mem_cons.mpr ⟨?_, List.forall_mem_cons.mpr ⟨?_, List.forall_mem_cons.mpr ⟨?_, List.forall_mem_cons.mpr ⟨?_, List.forall_mem_cons.mpr ⟨?_, List.forall_mem_cons.mpr ⟨?_, List.forall_mem_cons.mpr ⟨?_, List.forall_mem_cons.mpr ⟨?_, List.forall_mem_cons.mpr ⟨?_, List.forall_mem_cons.mpr ⟨?_, List.forall_mem_cons.mpr ⟨?_, List.forall_mem_cons.mpr ⟨?_, List.forall_mem_cons.mpr ⟨?_, List.forall_mem_cons.mpr ⟨?_, fun _ h => absurd h List.not_mem_nil⟩⟩⟩⟩⟩⟩⟩⟩⟩⟩⟩⟩⟩⟩⟩⟩⟩⟩⟩⟩⟩⟩⟩⟩⟩⟩⟩⟩
    · exact List.mem_append_left _ (List.mem_of_getElem? (l := tables_1_1) (i := 45) rfl)
    · exact List.mem_append_left _ (List.mem_of_getElem? (l := tables_1_1) (i := 47) rfl)
    · exact List.mem_append_left _ (List.mem_of_getElem? (l := tables_1_1) (i := 50) rfl)
    · exact List.mem_append_left _ (List.mem_of_getElem? (l := tables_1_1) (i := 52) rfl)
    · exact List.mem_append_left _ (List.mem_of_getElem? (l := tables_1_1) (i := 54) rfl)
    · exact List.mem_append_left _ (List.mem_of_getElem? (l := tables_1_1) (i := 56) rfl)
    · exact List.mem_append_left _ (List.mem_of_getElem? (l := tables_1_1) (i := 58) rfl)
    · exact List.mem_append_left _ (List.mem_of_getElem? (l := tables_1_1) (i := 60) rfl)
    · exact List.mem_append_left _ (List.mem_of_getElem? (l := tables_1_1) (i := 62) rfl)
    · exact List.mem_append_left _ (List.mem_of_getElem? (l := tables_1_1) (i := 98) rfl)
    · exact List.mem_append_left _ (List.mem_of_getElem? (l := tables_1_1) (i := 100) rfl)
    · exact List.mem_append_left _ (List.mem_of_getElem? (l := tables_1_1) (i := 102) rfl)
    · exact List.mem_append_left _ (List.mem_of_getElem? (l := tables_1_1) (i := 104) rfl)
    · exact List.mem_append_left _ (List.mem_of_getElem? (l := tables_1_1) (i := 132) rfl)
    · exact List.mem_append_left _ (List.mem_of_getElem? (l := tables_1_1) (i := 133) rfl)
    · exact List.mem_append_left _ (List.mem_of_getElem? (l := tables_1_1) (i := 141) rfl)
    · exact List.mem_append_left _ (List.mem_of_getElem? (l := tables_1_1) (i := 143) rfl)
    · exact List.mem_append_left _ (List.mem_of_getElem? (l := tables_1_1) (i := 145) rfl)
    · exact List.mem_append_left _ (List.mem_of_getElem? (l := tables_1_1) (i := 147) rfl)
    · exact List.mem_append_left _ (List.mem_of_getElem? (l := tables_1_1) (i := 149) rfl)
    · exact List.mem_append_left _ (List.mem_of_getElem? (l := tables_1_1) (i := 151) rfl)
    · exact List.mem_append_left _ (List.mem_of_getElem? (l := tables_1_1) (i := 153) rfl)
    · exact List.mem_append_left _ (List.mem_of_getElem? (l := tables_1_1) (i := 156) rfl)
    · exact List.mem_append_left _ (List.mem_of_getElem? (l := tables_1_1) (i := 158) rfl)
    · exact List.mem_append_left _ (List.mem_of_getElem? (l := tables_1_1) (i := 160) rfl)
    · exact List.mem_append_left _ (List.mem_of_getElem? (l := tables_1_1) (i := 162) rfl)
    · exact List.mem_append_left _ (List.mem_of_getElem? (l := tables_1_1) (i := 199) rfl)
    · exact List.mem_append_left _ (List.mem_of_getElem? (l := tables_1_1) (i := 201) rfl)
  exact fun q hq => va_Nw.of rfl (hts _ (List.mem_append_right _ (h q hq)))
theorem nl_0 : ("PageHold", 229, "PageHold$Disk", "bytes", "LPageHold$Words;", "PageHold") ∈ nstL := List.mem_of_getElem? (i := 0) rfl
theorem nl_1 : ("PageHold", 168, "PageHold$Disk", "fails", "[Z", "PageHold") ∈ nstL := List.mem_of_getElem? (i := 1) rfl
theorem nl_2 : ("PageHold", 257, "PageHold$Disk", "free", "I", "PageHold") ∈ nstL := List.mem_of_getElem? (i := 2) rfl
theorem nl_3 : ("PageHold", 251, "PageHold$Disk", "reads", "I", "PageHold") ∈ nstL := List.mem_of_getElem? (i := 3) rfl
theorem nl_4 : ("PageHold", 254, "PageHold$Disk", "writes", "I", "PageHold") ∈ nstL := List.mem_of_getElem? (i := 4) rfl
theorem nl_5 : ("PageHold", 235, "PageHold$Disk", "kinds", "[I", "PageHold") ∈ nstL := List.mem_of_getElem? (i := 5) rfl
theorem nl_6 : ("PageHold", 238, "PageHold$Disk", "firsts", "[I", "PageHold") ∈ nstL := List.mem_of_getElem? (i := 6) rfl
theorem nl_7 : ("PageHold", 241, "PageHold$Disk", "lengths", "[I", "PageHold") ∈ nstL := List.mem_of_getElem? (i := 7) rfl
theorem nl_8 : ("PageHold", 232, "PageHold$Disk", "runs", "I", "PageHold") ∈ nstL := List.mem_of_getElem? (i := 8) rfl
theorem nl_9 : ("PageHold", 73, "PageHold$Files", "sizes", "[I", "PageHold") ∈ nstL := List.mem_of_getElem? (i := 9) rfl
theorem nl_10 : ("PageHold", 208, "PageHold$Files", "windows", "[I", "PageHold") ∈ nstL := List.mem_of_getElem? (i := 10) rfl
theorem nl_11 : ("PageHold", 211, "PageHold$Files", "goOn", "[I", "PageHold") ∈ nstL := List.mem_of_getElem? (i := 11) rfl
theorem nl_12 : ("PageHold", 127, "PageHold$Files", "errors", "[I", "PageHold") ∈ nstL := List.mem_of_getElem? (i := 12) rfl
theorem nl_13 : ("PageHold$Frames", 92, "PageHold$Order", "count", "I", "PageHold") ∈ nstL := List.mem_of_getElem? (i := 13) rfl
theorem nl_14 : ("PageHold", 244, "PageHold$Order", "count", "I", "PageHold") ∈ nstL := List.mem_of_getElem? (i := 14) rfl
theorem nl_15 : ("PageHold", 136, "PageHold$Frames", "most", "I", "PageHold") ∈ nstL := List.mem_of_getElem? (i := 15) rfl
theorem nl_16 : ("PageHold", 266, "PageHold$Frames", "bytes", "LPageHold$Words;", "PageHold") ∈ nstL := List.mem_of_getElem? (i := 16) rfl
theorem nl_17 : ("PageHold", 226, "PageHold$Frames", "spots", "[I", "PageHold") ∈ nstL := List.mem_of_getElem? (i := 17) rfl
theorem nl_18 : ("PageHold", 181, "PageHold$Frames", "since", "[I", "PageHold") ∈ nstL := List.mem_of_getElem? (i := 18) rfl
theorem nl_19 : ("PageHold", 190, "PageHold$Frames", "referenced", "[Z", "PageHold") ∈ nstL := List.mem_of_getElem? (i := 19) rfl
theorem nl_20 : ("PageHold", 146, "PageHold$Frames", "pinned", "[Z", "PageHold") ∈ nstL := List.mem_of_getElem? (i := 20) rfl
theorem nl_21 : ("PageHold", 193, "PageHold$Frames", "onActive", "[Z", "PageHold") ∈ nstL := List.mem_of_getElem? (i := 21) rfl
theorem nl_22 : ("PageHold", 214, "PageHold$Frames", "active", "LPageHold$Order;", "PageHold") ∈ nstL := List.mem_of_getElem? (i := 22) rfl
theorem nl_23 : ("PageHold", 223, "PageHold$Frames", "inactive", "LPageHold$Order;", "PageHold") ∈ nstL := List.mem_of_getElem? (i := 23) rfl
theorem nl_24 : ("PageHold", 153, "PageHold$Frames", "dirtyCount", "I", "PageHold") ∈ nstL := List.mem_of_getElem? (i := 24) rfl
theorem nl_25 : ("PageHold", 175, "PageHold$Frames", "pinnedCount", "I", "PageHold") ∈ nstL := List.mem_of_getElem? (i := 25) rfl
theorem nl_26 : ("PageHold", 247, "PageHold$Shadows", "count", "I", "PageHold") ∈ nstL := List.mem_of_getElem? (i := 26) rfl
theorem nl_27 : ("PageHold", 248, "PageHold$Shadows", "evicted", "I", "PageHold") ∈ nstL := List.mem_of_getElem? (i := 27) rfl
end
section

abbrev St : Type := (Nat → Int32) × (Nat → Nat → Int32) × (Nat → Nat → Int64)
def sG (σ : St) (k : Nat) (x : Int32) : St := (fun j => if j = k then x else σ.1 j, σ.2.1, σ.2.2)
def sA (σ : St) (k : Nat) (f : Nat → Int32) : St := (σ.1, fun j => if j = k then f else σ.2.1 j, σ.2.2)
def sL (σ : St) (k : Nat) (f : Nat → Int64) : St := (σ.1, σ.2.1, fun j => if j = k then f else σ.2.2 j)
def lt_ {α β : Type} (e : α) (k : α → Option β) : Option β := k e
def bI {β : Type} (i : Int32) (n : Nat) (k : Option β) : Option β := if i < 0 ∨ n ≤ i.toNatClampNeg then none else k
def bZ {β : Type} (x : Int32) (k : Option β) : Option β := if vp_nar .boolean x = x then k else none
def bC {β : Type} (n0 n1 : Nat) (sp dp n : Int32) (k : Option β) : Option β := if sp < 0 ∨ dp < 0 ∨ n < 0 ∨ n0 < sp.toNatClampNeg + n.toNatClampNeg ∨ n1 < dp.toNatClampNeg + n.toNatClampNeg then none else k
theorem lt_some {α β : Type} {e : α} {k : α → Option β} {r : β} (h : lt_ e k = some r) : ∃ z, z = e ∧ k z = some r := ⟨e, rfl, h⟩
theorem bI_some {β : Type} {i : Int32} {n : Nat} {k : Option β} {r : β} (h : bI i n k = some r) : vp_in i n ∧ k = some r := by
  unfold bI at h
  by_cases c : i < 0 ∨ n ≤ i.toNatClampNeg
  · rw [if_pos c] at h; cases h
  · rw [if_neg c] at h; exact ⟨c, h⟩
theorem nar_z (x : Int32) : narrow .boolean (.int x) = .int (vp_nar .boolean x) := rfl
theorem bZ_some {β : Type} {x : Int32} {k : Option β} {r : β} (h : bZ x k = some r) : narrow .boolean (.int x) = .int x ∧ k = some r := by
  unfold bZ at h
  by_cases c : vp_nar .boolean x = x
  · rw [if_pos c] at h; exact ⟨by rw [nar_z, c], h⟩
  · rw [if_neg c] at h; cases h
theorem bC_some {β : Type} {n0 n1 : Nat} {sp dp n : Int32} {k : Option β} {r : β} (h : bC n0 n1 sp dp n k = some r) : (¬ sp < 0 ∧ ¬ dp < 0 ∧ ¬ n < 0 ∧ sp.toNatClampNeg + n.toNatClampNeg ≤ n0 ∧ dp.toNatClampNeg + n.toNatClampNeg ≤ n1) ∧ k = some r := by
  unfold bC at h
  by_cases c : sp < 0 ∨ dp < 0 ∨ n < 0 ∨ n0 < sp.toNatClampNeg + n.toNatClampNeg ∨ n1 < dp.toNatClampNeg + n.toNatClampNeg
  · rw [if_pos c] at h; cases h
  · rw [if_neg c] at h
    simp only [not_or, Nat.not_lt] at c
    exact ⟨c, h⟩
theorem bn_some {α β : Type} {o : Option α} {k : α → Option β} {r : β} (h : o.bind k = some r) : ∃ x, o = some x ∧ k x = some r := by
  cases o with
  | none => cases h
  | some x => exact ⟨x, rfl, h⟩
theorem it_t {β : Type} {c : Prop} {d : Decidable c} {a b : Option β} {r : β} (hc : c) (h : @ite _ c d a b = some r) : a = some r := by rw [if_pos hc] at h; exact h
theorem it_f {β : Type} {c : Prop} {d : Decidable c} {a b : Option β} {r : β} (hc : ¬ c) (h : @ite _ c d a b = some r) : b = some r := by rw [if_neg hc] at h; exact h
theorem rt_1 {α : Type} {a z : α} (h : some a = some z) : a = z := Option.some.inj h
theorem rt_2 {α β : Type} {a : α} {b : β} {z : α × β} (h : some (a, b) = some z) : a = z.1 ∧ b = z.2 := by cases h; exact ⟨rfl, rfl⟩
theorem tb_out {x : Int32} {n : Nat} (hn : n < 1000) (h : ∀ k : Nat, k ≤ n → x ≠ nI k) : x.toInt < 0 ∨ (n : Int) < x.toInt := by
  by_cases c : x.toInt < 0
  · exact Or.inl c
  · refine Or.inr (Int.not_le.mp fun q => ?_)
    have hx : ¬ x < 0 := fun q => c (by have := Int32.lt_iff_toInt_lt.mp q; simpa using this)
    obtain ⟨j, hj, e⟩ := nI_of hx
    rw [e, nI_toInt hj] at q
    exact h j (by omega) e

def tyQ (q : Nat → ClassId) : List (ClassId × FieldType) := [(q 0, .int), (q 1, .boolean), (q 2, .byte), (q 3, .long)]
/-- what stays the same through a method: the machine, its code, the words, the classes, which cells may change -/
def CX (p : Program) (s : State) (m : MethodId) (args : Array Value) (c : Code) (cc : ByteArray) (nL : Nat) (own : String) (D : va_G) (tys : List (ClassId × FieldType)) (A : Nat → Prop) : Prop :=
  p.tables.exec = Jvm.exec ∧ c.code = cc ∧ c.maxLocals = nL ∧ s.vm.findClass own = some m.cls ∧ (∀ w ∈ BIG, w.before args s = true) ∧ va_K D vwCl tys s ∧ nst s ∧ (∀ q : Nat, s.heap.size ≤ q → A q)
/-- W over any heap that holds a world -/
def WG (p : Program) (l : Launch) (e : Env) (R : Room) (s : State) (m : MethodId) (args : Array Value) (below : List Frame) (meth : Method) (c : Code) (D : va_G) (A : Nat → Prop) (kc ks : Nat) (Q : State → Prop) (ws : va_W) (g : JFrame) : Prop :=
  ∀ (H : Heap) (locs : List Loc), va_P D vwCl ws H → va_D A ws → va_S A s.heap H locs → W p l e R s m args below meth c H locs kc ks Q g
section SL
variable {p : Program} {l : Launch} {e : Env} {R : Room} {s : State} {m : MethodId} {args : Array Value} {below : List Frame} {meth : Method} {c : Code} {D : va_G} {A : Nat → Prop} {kc ks : Nat} {Q : State → Prop} {ws : va_W} {cc : ByteArray} {nL : Nat} {own : String} {tys : List (ClassId × FieldType)} {pc : Nat} {ls : Array Slot} {rest : List Value}
theorem s_eq {g g2 : JFrame} (h : g = g2) (k : WG p l e R s m args below meth c D A kc ks Q ws g2) : WG p l e R s m args below meth c D A kc ks Q ws g := h ▸ k

theorem s_iconst (C : CX p s m args c cc nL own D tys A) {n : Int} {v : Int32} (hd : decode cc pc = .ok (.iconst n, 1)) (hv : Int32.ofInt n = v) (k : WG p l e R s m args below meth c D A kc ks Q ws (F0 m (pc + 1) ls (.int v :: rest))) : WG p l e R s m args below meth c D A kc ks Q ws (F0 m pc ls rest) := fun H locs hP hD hS => lv_iconst C.1 C.2.1 hd hv (k H locs hP hD hS)
theorem s_bipush (C : CX p s m args c cc nL own D tys A) {n : Int} {v : Int32} (hd : decode cc pc = .ok (.bipush n, 2)) (hv : (Int8.ofInt n).toInt32 = v) (k : WG p l e R s m args below meth c D A kc ks Q ws (F0 m (pc + 2) ls (.int v :: rest))) : WG p l e R s m args below meth c D A kc ks Q ws (F0 m pc ls rest) := fun H locs hP hD hS => lv_bipush C.1 C.2.1 hd hv (k H locs hP hD hS)
theorem s_sipush (C : CX p s m args c cc nL own D tys A) {n : Int} {v : Int32} (hd : decode cc pc = .ok (.sipush n, 3)) (hv : (Int16.ofInt n).toInt32 = v) (k : WG p l e R s m args below meth c D A kc ks Q ws (F0 m (pc + 3) ls (.int v :: rest))) : WG p l e R s m args below meth c D A kc ks Q ws (F0 m pc ls rest) := fun H locs hP hD hS => lv_sipush C.1 C.2.1 hd hv (k H locs hP hD hS)
theorem s_lconst (C : CX p s m args c cc nL own D tys A) {n : Fin 2} {v : Int64} (hd : decode cc pc = .ok (.lconst n, 1)) (hv : Int64.ofNat (n : Nat) = v) (k : WG p l e R s m args below meth c D A kc ks Q ws (F0 m (pc + 1) ls (.long v :: rest))) : WG p l e R s m args below meth c D A kc ks Q ws (F0 m pc ls rest) := fun H locs hP hD hS => lv_lconst C.1 C.2.1 hd hv (k H locs hP hD hS)
theorem s_iload_n (C : CX p s m args c cc nL own D tys A) {kk : Fin 4} {i : Nat} {x : Int32} (hd : decode cc pc = .ok (.iload_n kk, 1)) (hi : (kk : Nat) = i) (hl : ls[i]? = some (.val (.int x))) (k : WG p l e R s m args below meth c D A kc ks Q ws (F0 m (pc + 1) ls (.int x :: rest))) : WG p l e R s m args below meth c D A kc ks Q ws (F0 m pc ls rest) := fun H locs hP hD hS => lv_iload_n C.1 C.2.1 hd hi hl (k H locs hP hD hS)
theorem s_iload (C : CX p s m args c cc nL own D tys A) {i : Nat} {x : Int32} (hd : decode cc pc = .ok (.iload i, 2)) (hl : ls[i]? = some (.val (.int x))) (k : WG p l e R s m args below meth c D A kc ks Q ws (F0 m (pc + 2) ls (.int x :: rest))) : WG p l e R s m args below meth c D A kc ks Q ws (F0 m pc ls rest) := fun H locs hP hD hS => lv_iload C.1 C.2.1 hd hl (k H locs hP hD hS)
theorem s_istore_n (C : CX p s m args c cc nL own D tys A) {kk : Fin 4} {i : Nat} {x : Int32} {lv lv2 : List (Nat × Value)} (hd : decode cc pc = .ok (.istore_n kk, 1)) (hi : (kk : Nat) = i) (h : lv_has ls nL lv) (hn : i < nL) (hl : (i, Value.int x) :: lv.filter (fun q => !(q.1 == i) && !(q.1 + 1 == i && q.2.category == 2)) = lv2) (k : ∀ ls : Array Slot, lv_has ls nL lv2 → WG p l e R s m args below meth c D A kc ks Q ws (F0 m (pc + 1) ls rest)) : WG p l e R s m args below meth c D A kc ks Q ws (F0 m pc ls (.int x :: rest)) := fun H locs hP hD hS => lv_istore_n C.1 C.2.1 hd hi h hn hl (fun ls hl => k ls hl H locs hP hD hS)
theorem s_istore (C : CX p s m args c cc nL own D tys A) {i : Nat} {x : Int32} {lv lv2 : List (Nat × Value)} (hd : decode cc pc = .ok (.istore i, 2)) (h : lv_has ls nL lv) (hn : i < nL) (hl : (i, Value.int x) :: lv.filter (fun q => !(q.1 == i) && !(q.1 + 1 == i && q.2.category == 2)) = lv2) (k : ∀ ls : Array Slot, lv_has ls nL lv2 → WG p l e R s m args below meth c D A kc ks Q ws (F0 m (pc + 2) ls rest)) : WG p l e R s m args below meth c D A kc ks Q ws (F0 m pc ls (.int x :: rest)) := fun H locs hP hD hS => lv_istore C.1 C.2.1 hd h hn hl (fun ls hl => k ls hl H locs hP hD hS)
theorem s_lload_n (C : CX p s m args c cc nL own D tys A) {kk : Fin 4} {i : Nat} {x : Int64} (hd : decode cc pc = .ok (.lload_n kk, 1)) (hi : (kk : Nat) = i) (hl : ls[i]? = some (.val (.long x))) (k : WG p l e R s m args below meth c D A kc ks Q ws (F0 m (pc + 1) ls (.long x :: rest))) : WG p l e R s m args below meth c D A kc ks Q ws (F0 m pc ls rest) := fun H locs hP hD hS => lv_lload_n C.1 C.2.1 hd hi hl (k H locs hP hD hS)
theorem s_lload (C : CX p s m args c cc nL own D tys A) {i : Nat} {x : Int64} (hd : decode cc pc = .ok (.lload i, 2)) (hl : ls[i]? = some (.val (.long x))) (k : WG p l e R s m args below meth c D A kc ks Q ws (F0 m (pc + 2) ls (.long x :: rest))) : WG p l e R s m args below meth c D A kc ks Q ws (F0 m pc ls rest) := fun H locs hP hD hS => lv_lload C.1 C.2.1 hd hl (k H locs hP hD hS)
theorem s_lstore_n (C : CX p s m args c cc nL own D tys A) {kk : Fin 4} {i : Nat} {x : Int64} {lv lv2 : List (Nat × Value)} (hd : decode cc pc = .ok (.lstore_n kk, 1)) (hi : (kk : Nat) = i) (h : lv_has ls nL lv) (hn : i + 1 < nL) (hl : (i, Value.long x) :: lv.filter (fun q => !(q.1 == i) && (!(q.1 == i + 1) && !(q.1 + 1 == i && q.2.category == 2))) = lv2) (k : ∀ ls : Array Slot, lv_has ls nL lv2 → WG p l e R s m args below meth c D A kc ks Q ws (F0 m (pc + 1) ls rest)) : WG p l e R s m args below meth c D A kc ks Q ws (F0 m pc ls (.long x :: rest)) := fun H locs hP hD hS => lv_lstore_n C.1 C.2.1 hd hi h hn hl (fun ls hl => k ls hl H locs hP hD hS)
theorem s_lstore (C : CX p s m args c cc nL own D tys A) {i : Nat} {x : Int64} {lv lv2 : List (Nat × Value)} (hd : decode cc pc = .ok (.lstore i, 2)) (h : lv_has ls nL lv) (hn : i + 1 < nL) (hl : (i, Value.long x) :: lv.filter (fun q => !(q.1 == i) && (!(q.1 == i + 1) && !(q.1 + 1 == i && q.2.category == 2))) = lv2) (k : ∀ ls : Array Slot, lv_has ls nL lv2 → WG p l e R s m args below meth c D A kc ks Q ws (F0 m (pc + 2) ls rest)) : WG p l e R s m args below meth c D A kc ks Q ws (F0 m pc ls (.long x :: rest)) := fun H locs hP hD hS => lv_lstore C.1 C.2.1 hd h hn hl (fun ls hl => k ls hl H locs hP hD hS)
theorem s_aload_n (C : CX p s m args c cc nL own D tys A) {kk : Fin 4} {i : Nat} {x : Nat} (hd : decode cc pc = .ok (.aload_n kk, 1)) (hi : (kk : Nat) = i) (hl : ls[i]? = some (.val (.ref x))) (k : WG p l e R s m args below meth c D A kc ks Q ws (F0 m (pc + 1) ls (.ref x :: rest))) : WG p l e R s m args below meth c D A kc ks Q ws (F0 m pc ls rest) := fun H locs hP hD hS => lv_aload_n C.1 C.2.1 hd hi hl (k H locs hP hD hS)
theorem s_aload (C : CX p s m args c cc nL own D tys A) {i : Nat} {x : Nat} (hd : decode cc pc = .ok (.aload i, 2)) (hl : ls[i]? = some (.val (.ref x))) (k : WG p l e R s m args below meth c D A kc ks Q ws (F0 m (pc + 2) ls (.ref x :: rest))) : WG p l e R s m args below meth c D A kc ks Q ws (F0 m pc ls rest) := fun H locs hP hD hS => lv_aload C.1 C.2.1 hd hl (k H locs hP hD hS)
theorem s_astore_n (C : CX p s m args c cc nL own D tys A) {kk : Fin 4} {i : Nat} {x : Nat} {lv lv2 : List (Nat × Value)} (hd : decode cc pc = .ok (.astore_n kk, 1)) (hi : (kk : Nat) = i) (h : lv_has ls nL lv) (hn : i < nL) (hl : (i, Value.ref x) :: lv.filter (fun q => !(q.1 == i) && !(q.1 + 1 == i && q.2.category == 2)) = lv2) (k : ∀ ls : Array Slot, lv_has ls nL lv2 → WG p l e R s m args below meth c D A kc ks Q ws (F0 m (pc + 1) ls rest)) : WG p l e R s m args below meth c D A kc ks Q ws (F0 m pc ls (.ref x :: rest)) := fun H locs hP hD hS => lv_astore_n C.1 C.2.1 hd hi h hn hl (fun ls hl => k ls hl H locs hP hD hS)
theorem s_astore (C : CX p s m args c cc nL own D tys A) {i : Nat} {x : Nat} {lv lv2 : List (Nat × Value)} (hd : decode cc pc = .ok (.astore i, 2)) (h : lv_has ls nL lv) (hn : i < nL) (hl : (i, Value.ref x) :: lv.filter (fun q => !(q.1 == i) && !(q.1 + 1 == i && q.2.category == 2)) = lv2) (k : ∀ ls : Array Slot, lv_has ls nL lv2 → WG p l e R s m args below meth c D A kc ks Q ws (F0 m (pc + 2) ls rest)) : WG p l e R s m args below meth c D A kc ks Q ws (F0 m pc ls (.ref x :: rest)) := fun H locs hP hD hS => lv_astore C.1 C.2.1 hd h hn hl (fun ls hl => k ls hl H locs hP hD hS)
theorem s_iinc (C : CX p s m args c cc nL own D tys A) {i : Nat} (kx : Nat) {n : Int} {x v : Int32} {lv lv2 : List (Nat × Value)} (hd : decode cc pc = .ok (.iinc i n, 3)) (h : lv_has ls nL lv) (hk : lv[kx]? = some (i, .int x)) (hv : x + Int32.ofInt n = v) (hn : i < nL) (hl : (i, Value.int v) :: lv.filter (fun q => !(q.1 == i) && !(q.1 + 1 == i && q.2.category == 2)) = lv2) (k : ∀ ls : Array Slot, lv_has ls nL lv2 → WG p l e R s m args below meth c D A kc ks Q ws (F0 m (pc + 3) ls rest)) : WG p l e R s m args below meth c D A kc ks Q ws (F0 m pc ls rest) := fun H locs hP hD hS => lv_iinc C.1 C.2.1 hd h hk hv hn hl (fun ls hl => k ls hl H locs hP hD hS)
theorem s_iadd (C : CX p s m args c cc nL own D tys A) {x y : Int32} (hd : decode cc pc = .ok (.iadd, 1))  (k : WG p l e R s m args below meth c D A kc ks Q ws (F0 m (pc + 1) ls (.int (x + y) :: rest))) : WG p l e R s m args below meth c D A kc ks Q ws (F0 m pc ls (.int y :: .int x :: rest)) := fun H locs hP hD hS => lv_iadd C.1 C.2.1 hd (k H locs hP hD hS)
theorem s_isub (C : CX p s m args c cc nL own D tys A) {x y : Int32} (hd : decode cc pc = .ok (.isub, 1))  (k : WG p l e R s m args below meth c D A kc ks Q ws (F0 m (pc + 1) ls (.int (x - y) :: rest))) : WG p l e R s m args below meth c D A kc ks Q ws (F0 m pc ls (.int y :: .int x :: rest)) := fun H locs hP hD hS => lv_isub C.1 C.2.1 hd (k H locs hP hD hS)
theorem s_imul (C : CX p s m args c cc nL own D tys A) {x y : Int32} (hd : decode cc pc = .ok (.imul, 1))  (k : WG p l e R s m args below meth c D A kc ks Q ws (F0 m (pc + 1) ls (.int (x * y) :: rest))) : WG p l e R s m args below meth c D A kc ks Q ws (F0 m pc ls (.int y :: .int x :: rest)) := fun H locs hP hD hS => lv_imul C.1 C.2.1 hd (k H locs hP hD hS)
theorem s_iand (C : CX p s m args c cc nL own D tys A) {x y : Int32} (hd : decode cc pc = .ok (.iand, 1))  (k : WG p l e R s m args below meth c D A kc ks Q ws (F0 m (pc + 1) ls (.int (x &&& y) :: rest))) : WG p l e R s m args below meth c D A kc ks Q ws (F0 m pc ls (.int y :: .int x :: rest)) := fun H locs hP hD hS => lv_iand C.1 C.2.1 hd (k H locs hP hD hS)
theorem s_ishl (C : CX p s m args c cc nL own D tys A) {x y : Int32} (hd : decode cc pc = .ok (.ishl, 1))  (k : WG p l e R s m args below meth c D A kc ks Q ws (F0 m (pc + 1) ls (.int (x <<< (y &&& 31)) :: rest))) : WG p l e R s m args below meth c D A kc ks Q ws (F0 m pc ls (.int y :: .int x :: rest)) := fun H locs hP hD hS => lv_ishl C.1 C.2.1 hd (k H locs hP hD hS)
theorem s_ishr (C : CX p s m args c cc nL own D tys A) {x y : Int32} (hd : decode cc pc = .ok (.ishr, 1))  (k : WG p l e R s m args below meth c D A kc ks Q ws (F0 m (pc + 1) ls (.int (x >>> (y &&& 31)) :: rest))) : WG p l e R s m args below meth c D A kc ks Q ws (F0 m pc ls (.int y :: .int x :: rest)) := fun H locs hP hD hS => lv_ishr C.1 C.2.1 hd (k H locs hP hD hS)
theorem s_idiv (C : CX p s m args c cc nL own D tys A) {x y : Int32} (hd : decode cc pc = .ok (.idiv, 1)) (hne : ¬ y = 0) (k : WG p l e R s m args below meth c D A kc ks Q ws (F0 m (pc + 1) ls (.int (x / y) :: rest))) : WG p l e R s m args below meth c D A kc ks Q ws (F0 m pc ls (.int y :: .int x :: rest)) := fun H locs hP hD hS => lv_idiv C.1 C.2.1 hd hne (k H locs hP hD hS)
theorem s_irem (C : CX p s m args c cc nL own D tys A) {x y : Int32} (hd : decode cc pc = .ok (.irem, 1)) (hne : ¬ y = 0) (k : WG p l e R s m args below meth c D A kc ks Q ws (F0 m (pc + 1) ls (.int (x - x / y * y) :: rest))) : WG p l e R s m args below meth c D A kc ks Q ws (F0 m pc ls (.int y :: .int x :: rest)) := fun H locs hP hD hS => lv_irem C.1 C.2.1 hd hne (k H locs hP hD hS)
theorem s_ladd (C : CX p s m args c cc nL own D tys A) {x y : Int64} (hd : decode cc pc = .ok (.ladd, 1))  (k : WG p l e R s m args below meth c D A kc ks Q ws (F0 m (pc + 1) ls (.long (x + y) :: rest))) : WG p l e R s m args below meth c D A kc ks Q ws (F0 m pc ls (.long y :: .long x :: rest)) := fun H locs hP hD hS => lv_ladd C.1 C.2.1 hd (k H locs hP hD hS)
theorem s_lmul (C : CX p s m args c cc nL own D tys A) {x y : Int64} (hd : decode cc pc = .ok (.lmul, 1))  (k : WG p l e R s m args below meth c D A kc ks Q ws (F0 m (pc + 1) ls (.long (x * y) :: rest))) : WG p l e R s m args below meth c D A kc ks Q ws (F0 m pc ls (.long y :: .long x :: rest)) := fun H locs hP hD hS => lv_lmul C.1 C.2.1 hd (k H locs hP hD hS)
theorem s_land (C : CX p s m args c cc nL own D tys A) {x y : Int64} (hd : decode cc pc = .ok (.land, 1))  (k : WG p l e R s m args below meth c D A kc ks Q ws (F0 m (pc + 1) ls (.long (x &&& y) :: rest))) : WG p l e R s m args below meth c D A kc ks Q ws (F0 m pc ls (.long y :: .long x :: rest)) := fun H locs hP hD hS => lv_land C.1 C.2.1 hd (k H locs hP hD hS)
theorem s_lor (C : CX p s m args c cc nL own D tys A) {x y : Int64} (hd : decode cc pc = .ok (.lor, 1))  (k : WG p l e R s m args below meth c D A kc ks Q ws (F0 m (pc + 1) ls (.long (x ||| y) :: rest))) : WG p l e R s m args below meth c D A kc ks Q ws (F0 m pc ls (.long y :: .long x :: rest)) := fun H locs hP hD hS => lv_lor C.1 C.2.1 hd (k H locs hP hD hS)
theorem s_lxor (C : CX p s m args c cc nL own D tys A) {x y : Int64} (hd : decode cc pc = .ok (.lxor, 1))  (k : WG p l e R s m args below meth c D A kc ks Q ws (F0 m (pc + 1) ls (.long (x ^^^ y) :: rest))) : WG p l e R s m args below meth c D A kc ks Q ws (F0 m pc ls (.long y :: .long x :: rest)) := fun H locs hP hD hS => lv_lxor C.1 C.2.1 hd (k H locs hP hD hS)
theorem s_lshl (C : CX p s m args c cc nL own D tys A) {x : Int64} {y : Int32} (hd : decode cc pc = .ok (.lshl, 1))  (k : WG p l e R s m args below meth c D A kc ks Q ws (F0 m (pc + 1) ls (.long (x <<< (y.toInt64 &&& 63)) :: rest))) : WG p l e R s m args below meth c D A kc ks Q ws (F0 m pc ls (.int y :: .long x :: rest)) := fun H locs hP hD hS => lv_lshl C.1 C.2.1 hd rfl (k H locs hP hD hS)
theorem s_lshr (C : CX p s m args c cc nL own D tys A) {x : Int64} {y : Int32} (hd : decode cc pc = .ok (.lshr, 1))  (k : WG p l e R s m args below meth c D A kc ks Q ws (F0 m (pc + 1) ls (.long (x >>> (y.toInt64 &&& 63)) :: rest))) : WG p l e R s m args below meth c D A kc ks Q ws (F0 m pc ls (.int y :: .long x :: rest)) := fun H locs hP hD hS => lv_lshr C.1 C.2.1 hd rfl (k H locs hP hD hS)
theorem s_lushr (C : CX p s m args c cc nL own D tys A) {x : Int64} {y : Int32} (hd : decode cc pc = .ok (.lushr, 1))  (k : WG p l e R s m args below meth c D A kc ks Q ws (F0 m (pc + 1) ls (.long (x.toUInt64 >>> (y.toInt64.toUInt64 &&& Int64.toUInt64 63)).toInt64 :: rest))) : WG p l e R s m args below meth c D A kc ks Q ws (F0 m pc ls (.int y :: .long x :: rest)) := fun H locs hP hD hS => lv_lushr C.1 C.2.1 hd rfl (k H locs hP hD hS)
theorem s_lcmp (C : CX p s m args c cc nL own D tys A) {x y : Int64} (hd : decode cc pc = .ok (.lcmp, 1))  (k : WG p l e R s m args below meth c D A kc ks Q ws (F0 m (pc + 1) ls (.int (lg_cmp x y) :: rest))) : WG p l e R s m args below meth c D A kc ks Q ws (F0 m pc ls (.long y :: .long x :: rest)) := fun H locs hP hD hS => W.lcmp C.1 C.2.1 hd (k H locs hP hD hS)
theorem s_i2l (C : CX p s m args c cc nL own D tys A) {x : Int32} (hd : decode cc pc = .ok (.i2l, 1))  (k : WG p l e R s m args below meth c D A kc ks Q ws (F0 m (pc + 1) ls (.long x.toInt64 :: rest))) : WG p l e R s m args below meth c D A kc ks Q ws (F0 m pc ls (.int x :: rest)) := fun H locs hP hD hS => lv_i2l C.1 C.2.1 hd rfl (k H locs hP hD hS)
theorem s_l2i (C : CX p s m args c cc nL own D tys A) {x : Int64} (hd : decode cc pc = .ok (.l2i, 1))  (k : WG p l e R s m args below meth c D A kc ks Q ws (F0 m (pc + 1) ls (.int x.toInt32 :: rest))) : WG p l e R s m args below meth c D A kc ks Q ws (F0 m pc ls (.long x :: rest)) := fun H locs hP hD hS => lv_l2i C.1 C.2.1 hd rfl (k H locs hP hD hS)
theorem s_i2b (C : CX p s m args c cc nL own D tys A) {x : Int32} (hd : decode cc pc = .ok (.i2b, 1))  (k : WG p l e R s m args below meth c D A kc ks Q ws (F0 m (pc + 1) ls (.int x.toInt8.toInt32 :: rest))) : WG p l e R s m args below meth c D A kc ks Q ws (F0 m pc ls (.int x :: rest)) := fun H locs hP hD hS => lv_i2b C.1 C.2.1 hd rfl (k H locs hP hD hS)
theorem s_dup (C : CX p s m args c cc nL own D tys A) {va : Value} (hd : decode cc pc = .ok (.dup, 1)) (h1 : va.category = 1) (k : WG p l e R s m args below meth c D A kc ks Q ws (F0 m (pc + 1) ls (va :: va :: rest))) : WG p l e R s m args below meth c D A kc ks Q ws (F0 m pc ls (va :: rest)) := fun H locs hP hD hS => lv_dup C.1 C.2.1 hd h1 (k H locs hP hD hS)
theorem s_pop (C : CX p s m args c cc nL own D tys A) {va : Value} (hd : decode cc pc = .ok (.pop, 1)) (h1 : va.category = 1) (k : WG p l e R s m args below meth c D A kc ks Q ws (F0 m (pc + 1) ls rest)) : WG p l e R s m args below meth c D A kc ks Q ws (F0 m pc ls (va :: rest)) := fun H locs hP hD hS => lv_pop C.1 C.2.1 hd h1 (k H locs hP hD hS)
theorem s_dup2_11 (C : CX p s m args c cc nL own D tys A) {va vb : Value} (hd : decode cc pc = .ok (.dup2, 1)) (h1 : va.category = 1) (h2 : vb.category = 1) (k : WG p l e R s m args below meth c D A kc ks Q ws (F0 m (pc + 1) ls (va :: vb :: va :: vb :: rest))) : WG p l e R s m args below meth c D A kc ks Q ws (F0 m pc ls (va :: vb :: rest)) := fun H locs hP hD hS => lv_dup2_11 C.1 C.2.1 hd h1 h2 (k H locs hP hD hS)
theorem s_dup2_2 (C : CX p s m args c cc nL own D tys A) {va : Value} (hd : decode cc pc = .ok (.dup2, 1)) (h1 : va.category = 2) (k : WG p l e R s m args below meth c D A kc ks Q ws (F0 m (pc + 1) ls (va :: va :: rest))) : WG p l e R s m args below meth c D A kc ks Q ws (F0 m pc ls (va :: rest)) := fun H locs hP hD hS => lv_dup2_2 C.1 C.2.1 hd h1 (k H locs hP hD hS)
theorem s_ldc (C : CX p s m args c cc nL own D tys A) {i : Nat} {v : Int32} (hd : decode cc pc = .ok (.ldc i, 2)) (hw : Cond.constant own i v ∈ BIG) (k : WG p l e R s m args below meth c D A kc ks Q ws (F0 m (pc + 2) ls (.int v :: rest))) : WG p l e R s m args below meth c D A kc ks Q ws (F0 m pc ls rest) := fun H locs hP hD hS => lv_ldc C.1 C.2.1 C.2.2.2.1 (C.2.2.2.2.1 _ hw) hd (k H locs hP hD hS)
theorem s_ldc2 (C : CX p s m args c cc nL own D tys A) {i : Nat} {v : Int64} (hd : decode cc pc = .ok (.ldc2_w i, 3)) (hw : Cond.constantLong own i v ∈ BIG) (k : WG p l e R s m args below meth c D A kc ks Q ws (F0 m (pc + 3) ls (.long v :: rest))) : WG p l e R s m args below meth c D A kc ks Q ws (F0 m pc ls rest) := fun H locs hP hD hS => lv_ldc2 C.1 C.2.1 C.2.2.2.1 (C.2.2.2.2.1 _ hw) hd (k H locs hP hD hS)
theorem s_if_eq (C : CX p s m args c cc nL own D tys A) {x : Int32} {off : Int} {tgt : Nat} (hd : decode cc pc = .ok (.ifCond .eq off, 3)) (ht : (pc : Int) + off = (tgt : Int)) (kt : x = 0 → WG p l e R s m args below meth c D A kc ks Q ws (F0 m tgt ls rest)) (kf : ¬ x = 0 → WG p l e R s m args below meth c D A kc ks Q ws (F0 m (pc + 3) ls rest)) : WG p l e R s m args below meth c D A kc ks Q ws (F0 m pc ls (.int x :: rest)) := fun H locs hP hD hS => lv_if_eq C.1 C.2.1 hd ht (fun q => kt q H locs hP hD hS) (fun q => kf q H locs hP hD hS)
theorem s_icmp_eq (C : CX p s m args c cc nL own D tys A) {x y : Int32} {off : Int} {tgt : Nat} (hd : decode cc pc = .ok (.if_icmp .eq off, 3)) (ht : (pc : Int) + off = (tgt : Int)) (kt : x = y → WG p l e R s m args below meth c D A kc ks Q ws (F0 m tgt ls rest)) (kf : ¬ x = y → WG p l e R s m args below meth c D A kc ks Q ws (F0 m (pc + 3) ls rest)) : WG p l e R s m args below meth c D A kc ks Q ws (F0 m pc ls (.int y :: .int x :: rest)) := fun H locs hP hD hS => lv_icmp_eq C.1 C.2.1 hd ht (fun q => kt q H locs hP hD hS) (fun q => kf q H locs hP hD hS)
theorem s_if_ne (C : CX p s m args c cc nL own D tys A) {x : Int32} {off : Int} {tgt : Nat} (hd : decode cc pc = .ok (.ifCond .ne off, 3)) (ht : (pc : Int) + off = (tgt : Int)) (kt : ¬ x = 0 → WG p l e R s m args below meth c D A kc ks Q ws (F0 m tgt ls rest)) (kf : x = 0 → WG p l e R s m args below meth c D A kc ks Q ws (F0 m (pc + 3) ls rest)) : WG p l e R s m args below meth c D A kc ks Q ws (F0 m pc ls (.int x :: rest)) := fun H locs hP hD hS => lv_if_ne C.1 C.2.1 hd ht (fun q => kt q H locs hP hD hS) (fun q => kf q H locs hP hD hS)
theorem s_icmp_ne (C : CX p s m args c cc nL own D tys A) {x y : Int32} {off : Int} {tgt : Nat} (hd : decode cc pc = .ok (.if_icmp .ne off, 3)) (ht : (pc : Int) + off = (tgt : Int)) (kt : ¬ x = y → WG p l e R s m args below meth c D A kc ks Q ws (F0 m tgt ls rest)) (kf : x = y → WG p l e R s m args below meth c D A kc ks Q ws (F0 m (pc + 3) ls rest)) : WG p l e R s m args below meth c D A kc ks Q ws (F0 m pc ls (.int y :: .int x :: rest)) := fun H locs hP hD hS => lv_icmp_ne C.1 C.2.1 hd ht (fun q => kt q H locs hP hD hS) (fun q => kf q H locs hP hD hS)
theorem s_if_lt (C : CX p s m args c cc nL own D tys A) {x : Int32} {off : Int} {tgt : Nat} (hd : decode cc pc = .ok (.ifCond .lt off, 3)) (ht : (pc : Int) + off = (tgt : Int)) (kt : x < 0 → WG p l e R s m args below meth c D A kc ks Q ws (F0 m tgt ls rest)) (kf : ¬ x < 0 → WG p l e R s m args below meth c D A kc ks Q ws (F0 m (pc + 3) ls rest)) : WG p l e R s m args below meth c D A kc ks Q ws (F0 m pc ls (.int x :: rest)) := fun H locs hP hD hS => lv_if_lt C.1 C.2.1 hd ht (fun q => kt q H locs hP hD hS) (fun q => kf q H locs hP hD hS)
theorem s_icmp_lt (C : CX p s m args c cc nL own D tys A) {x y : Int32} {off : Int} {tgt : Nat} (hd : decode cc pc = .ok (.if_icmp .lt off, 3)) (ht : (pc : Int) + off = (tgt : Int)) (kt : x < y → WG p l e R s m args below meth c D A kc ks Q ws (F0 m tgt ls rest)) (kf : ¬ x < y → WG p l e R s m args below meth c D A kc ks Q ws (F0 m (pc + 3) ls rest)) : WG p l e R s m args below meth c D A kc ks Q ws (F0 m pc ls (.int y :: .int x :: rest)) := fun H locs hP hD hS => lv_icmp_lt C.1 C.2.1 hd ht (fun q => kt q H locs hP hD hS) (fun q => kf q H locs hP hD hS)
theorem s_if_ge (C : CX p s m args c cc nL own D tys A) {x : Int32} {off : Int} {tgt : Nat} (hd : decode cc pc = .ok (.ifCond .ge off, 3)) (ht : (pc : Int) + off = (tgt : Int)) (kt : 0 ≤ x → WG p l e R s m args below meth c D A kc ks Q ws (F0 m tgt ls rest)) (kf : ¬ 0 ≤ x → WG p l e R s m args below meth c D A kc ks Q ws (F0 m (pc + 3) ls rest)) : WG p l e R s m args below meth c D A kc ks Q ws (F0 m pc ls (.int x :: rest)) := fun H locs hP hD hS => lv_if_ge C.1 C.2.1 hd ht (fun q => kt q H locs hP hD hS) (fun q => kf q H locs hP hD hS)
theorem s_icmp_ge (C : CX p s m args c cc nL own D tys A) {x y : Int32} {off : Int} {tgt : Nat} (hd : decode cc pc = .ok (.if_icmp .ge off, 3)) (ht : (pc : Int) + off = (tgt : Int)) (kt : y ≤ x → WG p l e R s m args below meth c D A kc ks Q ws (F0 m tgt ls rest)) (kf : ¬ y ≤ x → WG p l e R s m args below meth c D A kc ks Q ws (F0 m (pc + 3) ls rest)) : WG p l e R s m args below meth c D A kc ks Q ws (F0 m pc ls (.int y :: .int x :: rest)) := fun H locs hP hD hS => lv_icmp_ge C.1 C.2.1 hd ht (fun q => kt q H locs hP hD hS) (fun q => kf q H locs hP hD hS)
theorem s_if_gt (C : CX p s m args c cc nL own D tys A) {x : Int32} {off : Int} {tgt : Nat} (hd : decode cc pc = .ok (.ifCond .gt off, 3)) (ht : (pc : Int) + off = (tgt : Int)) (kt : 0 < x → WG p l e R s m args below meth c D A kc ks Q ws (F0 m tgt ls rest)) (kf : ¬ 0 < x → WG p l e R s m args below meth c D A kc ks Q ws (F0 m (pc + 3) ls rest)) : WG p l e R s m args below meth c D A kc ks Q ws (F0 m pc ls (.int x :: rest)) := fun H locs hP hD hS => lv_if_gt C.1 C.2.1 hd ht (fun q => kt q H locs hP hD hS) (fun q => kf q H locs hP hD hS)
theorem s_icmp_gt (C : CX p s m args c cc nL own D tys A) {x y : Int32} {off : Int} {tgt : Nat} (hd : decode cc pc = .ok (.if_icmp .gt off, 3)) (ht : (pc : Int) + off = (tgt : Int)) (kt : y < x → WG p l e R s m args below meth c D A kc ks Q ws (F0 m tgt ls rest)) (kf : ¬ y < x → WG p l e R s m args below meth c D A kc ks Q ws (F0 m (pc + 3) ls rest)) : WG p l e R s m args below meth c D A kc ks Q ws (F0 m pc ls (.int y :: .int x :: rest)) := fun H locs hP hD hS => lv_icmp_gt C.1 C.2.1 hd ht (fun q => kt q H locs hP hD hS) (fun q => kf q H locs hP hD hS)
theorem s_if_le (C : CX p s m args c cc nL own D tys A) {x : Int32} {off : Int} {tgt : Nat} (hd : decode cc pc = .ok (.ifCond .le off, 3)) (ht : (pc : Int) + off = (tgt : Int)) (kt : x ≤ 0 → WG p l e R s m args below meth c D A kc ks Q ws (F0 m tgt ls rest)) (kf : ¬ x ≤ 0 → WG p l e R s m args below meth c D A kc ks Q ws (F0 m (pc + 3) ls rest)) : WG p l e R s m args below meth c D A kc ks Q ws (F0 m pc ls (.int x :: rest)) := fun H locs hP hD hS => lv_if_le C.1 C.2.1 hd ht (fun q => kt q H locs hP hD hS) (fun q => kf q H locs hP hD hS)
theorem s_icmp_le (C : CX p s m args c cc nL own D tys A) {x y : Int32} {off : Int} {tgt : Nat} (hd : decode cc pc = .ok (.if_icmp .le off, 3)) (ht : (pc : Int) + off = (tgt : Int)) (kt : x ≤ y → WG p l e R s m args below meth c D A kc ks Q ws (F0 m tgt ls rest)) (kf : ¬ x ≤ y → WG p l e R s m args below meth c D A kc ks Q ws (F0 m (pc + 3) ls rest)) : WG p l e R s m args below meth c D A kc ks Q ws (F0 m pc ls (.int y :: .int x :: rest)) := fun H locs hP hD hS => lv_icmp_le C.1 C.2.1 hd ht (fun q => kt q H locs hP hD hS) (fun q => kf q H locs hP hD hS)
theorem s_goto (C : CX p s m args c cc nL own D tys A) {off : Int} {tgt : Nat} (hd : decode cc pc = .ok (.goto off, 3)) (ht : (pc : Int) + off = (tgt : Int)) (k : WG p l e R s m args below meth c D A kc ks Q ws (F0 m tgt ls rest)) : WG p l e R s m args below meth c D A kc ks Q ws (F0 m pc ls rest) := fun H locs hP hD hS => lv_goto C.1 C.2.1 hd ht (k H locs hP hD hS)
theorem s_tblO (C : CX p s m args c cc nL own D tys A) {dflt lo hi : Int} {offs : Array Int} {len : Nat} {x : Int32} {tgt : Nat} (hd : decode cc pc = .ok (.tableswitch dflt lo hi offs, len)) (h : x.toInt < lo ∨ hi < x.toInt) (ht : (pc : Int) + dflt = (tgt : Int)) (k : WG p l e R s m args below meth c D A kc ks Q ws (F0 m tgt ls rest)) : WG p l e R s m args below meth c D A kc ks Q ws (F0 m pc ls (.int x :: rest)) := fun H locs hP hD hS => lv_tableOut C.1 C.2.1 hd h ht (k H locs hP hD hS)
theorem s_tblI (C : CX p s m args c cc nL own D tys A) {dflt lo hi : Int} {offs : Array Int} {len : Nat} {x v : Int32} {off : Int} {tgt : Nat} (hd : decode cc pc = .ok (.tableswitch dflt lo hi offs, len)) (ex : x = v) (h1 : ¬ v.toInt < lo) (h2 : ¬ hi < v.toInt) (ho : offs[(v.toInt - lo).toNat]? = some off) (ht : (pc : Int) + off = (tgt : Int)) (k : WG p l e R s m args below meth c D A kc ks Q ws (F0 m tgt ls rest)) : WG p l e R s m args below meth c D A kc ks Q ws (F0 m pc ls (.int x :: rest)) := fun H locs hP hD hS => lv_tableIn C.1 C.2.1 hd (by rw [ex]; exact h1) (by rw [ex]; exact h2) (by rw [ex]; exact ho) ht (k H locs hP hD hS)
theorem s_lkp (C : CX p s m args c cc nL own D tys A) {dflt : Int} {ps : Array (Int × Int)} {len : Nat} {x : Int32} {off : Int} {tgt : Nat} (hd : decode cc pc = .ok (.lookupswitch dflt ps, len)) (hp : (ps.toList.zip (ps.toList.drop 1)).all (fun (a, next) => a.1 < next.1) = true) (ho : Op.lookupswitch.offset ps.toList dflt x.toInt = off) (ht : (pc : Int) + off = (tgt : Int)) (k : WG p l e R s m args below meth c D A kc ks Q ws (F0 m tgt ls rest)) : WG p l e R s m args below meth c D A kc ks Q ws (F0 m pc ls (.int x :: rest)) := fun H locs hP hD hS => lv_lookup C.1 C.2.1 hd hp ho ht (k H locs hP hD hS)
theorem s_mmax (C : CX p s m args c cc nL own D tys A) {i : Nat} {x y : Int32} (hsz : ls.size = nL) (hd : decode cc pc = .ok (.invokestatic i, 3)) (hl : Cond.methodLink own i Lib.Math.max.name ∈ BIG) (hs : Cond.static Lib.Math.max.name ∈ BIG) (hi : Cond.initialized "java/lang/Math" ∈ BIG) (hc : Cond.code Lib.Math.max.name Lib.Math.max.code 2 (some .int) ∈ BIG) (hf : 1 ≤ R.frames) (hlo : (rest.map fun v => v.category).sum + 13 ≤ R.locals) (h1 : kc ≤ R.cells) (h2 : ks ≤ R.slots) (k : WG p l e R s m args below meth c D A kc ks Q ws (F0 m (pc + 3) ls (.int (if x < y then y else x) :: rest))) : WG p l e R s m args below meth c D A kc ks Q ws (F0 m pc ls (.int y :: .int x :: rest)) := fun H locs hP hD hS => va_mmax C.1 C.2.1 (C.2.2.1.trans hsz.symm) C.2.2.2.1 (C.2.2.2.2.1 _ hl) (C.2.2.2.2.1 _ hs) (C.2.2.2.2.1 _ hi) (C.2.2.2.2.1 _ hc) hf hlo h1 h2 hd (k H locs hP hD hS)
theorem s_mmin (C : CX p s m args c cc nL own D tys A) {i : Nat} {x y : Int32} (hsz : ls.size = nL) (hd : decode cc pc = .ok (.invokestatic i, 3)) (hl : Cond.methodLink own i Lib.Math.min.name ∈ BIG) (hs : Cond.static Lib.Math.min.name ∈ BIG) (hi : Cond.initialized "java/lang/Math" ∈ BIG) (hc : Cond.code Lib.Math.min.name Lib.Math.min.code 2 (some .int) ∈ BIG) (hf : 1 ≤ R.frames) (hlo : (rest.map fun v => v.category).sum + 13 ≤ R.locals) (h1 : kc ≤ R.cells) (h2 : ks ≤ R.slots) (k : WG p l e R s m args below meth c D A kc ks Q ws (F0 m (pc + 3) ls (.int (if y < x then y else x) :: rest))) : WG p l e R s m args below meth c D A kc ks Q ws (F0 m pc ls (.int y :: .int x :: rest)) := fun H locs hP hD hS => va_mmin C.1 C.2.1 (C.2.2.1.trans hsz.symm) C.2.2.2.1 (C.2.2.2.2.1 _ hl) (C.2.2.2.2.1 _ hs) (C.2.2.2.2.1 _ hi) (C.2.2.2.2.1 _ hc) hf hlo h1 h2 hd (k H locs hP hD hS)
end SL


def Pre (D : va_G) (tys : List (ClassId × FieldType)) (ws : va_W) (sz : Nat) (U : State) : Prop := U.heap.size = sz ∧ va_P D vwCl ws U.heap ∧ va_K D vwCl tys U ∧ nst U ∧ va_D (fun _ => True) ws
def Pst (D : va_G) (tys : List (ClassId × FieldType)) (ws ws' : va_W) (sz : Nat) (_ : Unit) (t : State) : Prop := va_P D vwCl ws' t.heap ∧ va_K D vwCl tys t ∧ va_D (va_A ws sz) ws'
def rmO (fr lo : Nat) : Room := { frames := fr, cells := 0, slots := 0, locals := lo }
theorem pre_blind {av : List Value} {D : va_G} {tys : List (ClassId × FieldType)} {ws : va_W} {sz : Nat} : FrameBlind (va_Pc av (Pre D tys ws sz)) := fun a U g mk q => by
  obtain ⟨q0, q1, qP, qK, qN, qD⟩ := q
  exact ⟨q0, q1, qP, va_K.moved (u := U) (U := U.calling g mk a) (Vm.Alike.refl U.vm) qK, nst.same (s := U) (U := U.calling g mk a) rfl qN, qD⟩
theorem pre_at {D : va_G} {tys : List (ClassId × FieldType)} {ws : va_W} {s U : State} {H : Heap} {A : Nat → Prop} (hU : U.heap = H) (hW : s.WarmedH U.vm) (hP : va_P D vwCl ws H) (hK : va_K D vwCl tys s) (hN : nst s) (hD : va_D A ws) : Pre D tys ws H.size U := ⟨by rw [hU], by rw [hU]; exact hP, va_K.moved hW.alike hK, hN.warm hW, hD.weaken (fun _ _ _ _ => trivial)⟩

def MI (l : Launch) (y : MethodName) (cc : ByteArray) (nL : Nat) (ret : Option FieldType) (fr lo : Nat) (D : va_G) (tys : List (ClassId × FieldType)) (av : List Value) (ws ws2 : va_W) (r : Int32) : Prop := ∀ sz : Nat, Met l y (Cond.code y cc nL ret :: BIG) (rmO fr lo) (va_Pc av (Pre D tys ws sz)) (va_Qi (fun (r2 : Int32) (_ : Unit) => r2 = r) (Pst D tys ws ws2 sz) (va_A ws sz)) 0 0 (va_A ws sz)
theorem MI.of {l : Launch} {y : MethodName} {cc : ByteArray} {nL : Nat} {ty : FieldType} {fr lo : Nat} {D : va_G} {tys : List (ClassId × FieldType)} {av : List Value} {ws ws2 : va_W} {r : Int32} (hy : plainName y.cls = true) (hav : (lg_sl av).length ≤ nL)
    (body : ∀ (p : Program) (e : Env) (s : State) (m : MethodId) (args : Array Value) (below : List Frame) (meth : Method) (c : Code) (Q : State → Prop), CX p s m args c cc nL y.cls D tys (va_A ws s.heap.size) → (∀ (pc : Nat) (ls : Array Slot) (w : va_W) (v : Int32), decode cc pc = .ok (.ireturn, 1) → narrow ty (.int v) = .int v → v = r → w = ws2 → WG p l e (rmO fr lo) s m args below meth c D (va_A ws s.heap.size) 0 0 Q w (F0 m pc ls [.int v])) → ∀ ls : Array Slot, lv_has ls nL (lv_args 0 av) → WG p l e (rmO fr lo) s m args below meth c D (va_A ws s.heap.size) 0 0 Q ws (F0 m 0 ls [])) : MI l y cc nL (some ty) fr lo D tys av ws ws2 r := by
  intro sz
  refine Met.ofW (cc := cc) (maxL := nL) (ret := some ty) hy rfl ?_
  intro p e s m args below meth c s₁ B hml hv
  obtain ⟨rfl, hsz, hP, hK, hN, hD0⟩ := hv
  have hts := atoms_spec (ws := Cond.code y cc nL (some ty) :: BIG) B.pre
  have hown : s.vm.findClass y.cls = some m.cls := findClass_of_methodNamed B.named
  have hlocks := B.notSynchronized
  subst hsz
  have hD := hD0.self (sz := s.heap.size)
  have hl := lv_entry av (n := nL) hav
  rw [lg_entry_eq]
  generalize (lg_sl av ++ List.replicate (nL - (lg_sl av).length) Slot.unset).toArray = ls at hl ⊢
  have C : CX p s m av.toArray c cc nL y.cls D tys (va_A ws s.heap.size) := ⟨B.exec, B.bytes, hml, hown, fun w h => hts w (List.mem_cons_of_mem _ h), hK, hN, fun q h => Or.inr h⟩
  refine body p e s m av.toArray below meth c _ C ?_ ls hl s.heap [] hP hD va_S.rf
  intro pc ls w v hd hn er ew H locs hP hD hS
  subst er; subst ew
  exact W.zret (v := v) C.1 C.2.1 B.returns hn (fun t ht hW => ⟨⟨v, (), rfl, rfl, by rw [ht]; exact hP, va_K.moved hW.alike hK, hD⟩, hS.F ht⟩) hS.2.2 hd
def ML (l : Launch) (y : MethodName) (cc : ByteArray) (nL : Nat) (ret : Option FieldType) (fr lo : Nat) (D : va_G) (tys : List (ClassId × FieldType)) (av : List Value) (ws ws2 : va_W) (r : Int64) : Prop := ∀ sz : Nat, Met l y (Cond.code y cc nL ret :: BIG) (rmO fr lo) (va_Pc av (Pre D tys ws sz)) (va_Ql (fun (r2 : Int64) (_ : Unit) => r2 = r) (Pst D tys ws ws2 sz) (va_A ws sz)) 0 0 (va_A ws sz)
theorem ML.of {l : Launch} {y : MethodName} {cc : ByteArray} {nL : Nat} {fr lo : Nat} {D : va_G} {tys : List (ClassId × FieldType)} {av : List Value} {ws ws2 : va_W} {r : Int64} (hy : plainName y.cls = true) (hav : (lg_sl av).length ≤ nL)
    (body : ∀ (p : Program) (e : Env) (s : State) (m : MethodId) (args : Array Value) (below : List Frame) (meth : Method) (c : Code) (Q : State → Prop), CX p s m args c cc nL y.cls D tys (va_A ws s.heap.size) → (∀ (pc : Nat) (ls : Array Slot) (w : va_W) (v : Int64), decode cc pc = .ok (.lreturn, 1) → v = r → w = ws2 → WG p l e (rmO fr lo) s m args below meth c D (va_A ws s.heap.size) 0 0 Q w (F0 m pc ls [.long v])) → ∀ ls : Array Slot, lv_has ls nL (lv_args 0 av) → WG p l e (rmO fr lo) s m args below meth c D (va_A ws s.heap.size) 0 0 Q ws (F0 m 0 ls [])) : ML l y cc nL (some .long) fr lo D tys av ws ws2 r := by
  intro sz
  refine Met.ofW (cc := cc) (maxL := nL) (ret := some .long) hy rfl ?_
  intro p e s m args below meth c s₁ B hml hv
  obtain ⟨rfl, hsz, hP, hK, hN, hD0⟩ := hv
  have hts := atoms_spec (ws := Cond.code y cc nL (some .long) :: BIG) B.pre
  have hown : s.vm.findClass y.cls = some m.cls := findClass_of_methodNamed B.named
  have hlocks := B.notSynchronized
  subst hsz
  have hD := hD0.self (sz := s.heap.size)
  have hl := lv_entry av (n := nL) hav
  rw [lg_entry_eq]
  generalize (lg_sl av ++ List.replicate (nL - (lg_sl av).length) Slot.unset).toArray = ls at hl ⊢
  have C : CX p s m av.toArray c cc nL y.cls D tys (va_A ws s.heap.size) := ⟨B.exec, B.bytes, hml, hown, fun w h => hts w (List.mem_cons_of_mem _ h), hK, hN, fun q h => Or.inr h⟩
  refine body p e s m av.toArray below meth c _ C ?_ ls hl s.heap [] hP hD va_S.rf
  intro pc ls w v hd er ew H locs hP hD hS
  subst er; subst ew
  exact W.lret (v := v) C.1 C.2.1 B.returns (fun t ht hW => ⟨⟨v, (), rfl, rfl, by rw [ht]; exact hP, va_K.moved hW.alike hK, hD⟩, hS.F ht⟩) hS.2.2 hd
def MV (l : Launch) (y : MethodName) (cc : ByteArray) (nL : Nat) (ret : Option FieldType) (fr lo : Nat) (D : va_G) (tys : List (ClassId × FieldType)) (av : List Value) (ws ws2 : va_W) : Prop := ∀ sz : Nat, Met l y (Cond.code y cc nL ret :: BIG) (rmO fr lo) (va_Pc av (Pre D tys ws sz)) (va_Qv (fun (_ : Unit) => True) (Pst D tys ws ws2 sz) (va_A ws sz)) 0 0 (va_A ws sz)
theorem MV.of {l : Launch} {y : MethodName} {cc : ByteArray} {nL : Nat} {fr lo : Nat} {D : va_G} {tys : List (ClassId × FieldType)} {av : List Value} {ws ws2 : va_W} (hy : plainName y.cls = true) (hav : (lg_sl av).length ≤ nL)
    (body : ∀ (p : Program) (e : Env) (s : State) (m : MethodId) (args : Array Value) (below : List Frame) (meth : Method) (c : Code) (Q : State → Prop), CX p s m args c cc nL y.cls D tys (va_A ws s.heap.size) → (∀ (pc : Nat) (ls : Array Slot) (w : va_W), decode cc pc = .ok (.return_, 1) → w = ws2 → WG p l e (rmO fr lo) s m args below meth c D (va_A ws s.heap.size) 0 0 Q w (F0 m pc ls [])) → ∀ ls : Array Slot, lv_has ls nL (lv_args 0 av) → WG p l e (rmO fr lo) s m args below meth c D (va_A ws s.heap.size) 0 0 Q ws (F0 m 0 ls [])) : MV l y cc nL (none) fr lo D tys av ws ws2 := by
  intro sz
  refine Met.ofW (cc := cc) (maxL := nL) (ret := none) hy rfl ?_
  intro p e s m args below meth c s₁ B hml hv
  obtain ⟨rfl, hsz, hP, hK, hN, hD0⟩ := hv
  have hts := atoms_spec (ws := Cond.code y cc nL (none) :: BIG) B.pre
  have hown : s.vm.findClass y.cls = some m.cls := findClass_of_methodNamed B.named
  have hlocks := B.notSynchronized
  subst hsz
  have hD := hD0.self (sz := s.heap.size)
  have hl := lv_entry av (n := nL) hav
  rw [lg_entry_eq]
  generalize (lg_sl av ++ List.replicate (nL - (lg_sl av).length) Slot.unset).toArray = ls at hl ⊢
  have C : CX p s m av.toArray c cc nL y.cls D tys (va_A ws s.heap.size) := ⟨B.exec, B.bytes, hml, hown, fun w h => hts w (List.mem_cons_of_mem _ h), hK, hN, fun q h => Or.inr h⟩
  refine body p e s m av.toArray below meth c _ C ?_ ls hl s.heap [] hP hD va_S.rf
  intro pc ls w hd ew H locs hP hD hS
  subst ew
  exact W.vret C.1 C.2.1 B.returns (fun t ht hW => ⟨⟨(), rfl, trivial, by rw [ht]; exact hP, va_K.moved hW.alike hK, hD⟩, hS.F ht⟩) hS.2.2 hd

/-- a callee's world within the caller's: what is cut out, what comes back -/
def SubW (ws wc w1 ws2 : va_W) : Prop := ∀ (D : va_G) (A : Nat → Prop) (H : Heap), va_P D vwCl ws H → va_D A ws → va_P D vwCl wc H ∧ va_D A wc ∧ (∀ q, (∃ (k : Nat) (e : va_E), wc[k]? = some (q, e)) → A q) ∧
  ∀ (H1 : Heap), (∀ q, va_A wc H.size q → A q) → va_P D vwCl w1 H1 → va_D (va_A wc H.size) w1 → (∀ q : Nat, q < H.size → ¬ va_A wc H.size q → H1[q]? = H[q]?) → va_P D vwCl ws2 H1 ∧ va_D A ws2
theorem SubW.full (ws ws2 : va_W) : SubW ws ws ws2 ws2 := fun D A H hP hD => ⟨hP, hD, fun q ⟨k, e, h⟩ => hD.2 k (q, e) h, fun H1 hF hP1 hD1 _ => ⟨hP1, hD1.weaken (fun k q _ h => hF q.1 h)⟩⟩
theorem SubW.of {ws wc w1 ws2 wr : va_W} (isC isR pm : List Nat) (hC : isC.map (fun i => ws[i]?) = wc.map some) (hR : isR.map (fun i => ws[i]?) = wr.map some) (hc : va_nd isC = true) (hn : va_nd isR = true) (hdis : ∀ i ∈ isR, i ∉ isC) (hp : pm.map (fun i => (wr ++ w1)[i]?) = ws2.map some) (hpn : va_nd pm = true) : SubW ws wc w1 ws2 := by
  intro D A H hP hD
  have hf : ∀ {is : List Nat} {a b : va_W}, is.map (fun i => a[i]?) = b.map some → is.filterMap (fun i => a[i]?) = b := by
    intro is a b h
    have h1 : (is.map (fun i => a[i]?)).filterMap id = is.filterMap (fun i => a[i]?) := by rw [List.filterMap_map]; rfl
    rw [← h1, h, List.filterMap_map]
    show List.filterMap (fun x => some x) b = b
    exact List.filterMap_some
  refine ⟨hP.sub isC (hf hC), hD.sub isC hc hC, ?_, ?_⟩
  · rintro q ⟨k, e, h⟩
    exact (hD.sub isC hc hC).2 k (q, e) h
  · intro H1 hF hP1 hD1 hk
    obtain ⟨hP2, hD2⟩ := va_join hP hD isC isR hC hR hn hdis hk hF hP1 hD1
    exact ⟨hP2.sub pm (hf hp), hD2.sub pm hpn hp⟩
section SC
variable {p : Program} {l : Launch} {e : Env} {R : Room} {s : State} {m : MethodId} {args : Array Value} {below : List Frame} {meth : Method} {c : Code} {D : va_G} {A : Nat → Prop} {kc ks : Nat} {Q : State → Prop} {ws wc w1 ws2 : va_W} {cc : ByteArray} {nL : Nat} {own : String} {tys : List (ClassId × FieldType)} {pc : Nat} {ls : Array Slot} {rest : List Value}
variable {y : MethodName} {cy : ByteArray} {nY fr lo index n : Nat} {ret : Option FieldType} {CC : String} {b : Nat} {As : List Value}
/-- a call's words: link, instance method, selects, initialized, code; the callee's room within ours -/
def CV (R : Room) (own : String) (index : Nat) (y : MethodName) (cy : ByteArray) (nY : Nat) (ret : Option FieldType) (fr lo n : Nat) : Prop := Cond.methodLink own index y ∈ BIG ∧ Cond.instanceMethod y ∈ BIG ∧ Cond.selects y.cls y y ∈ BIG ∧ Cond.initialized y.cls ∈ BIG ∧ Cond.code y cy nY ret ∈ BIG ∧ (y.cls ≠ "java/lang/invoke/MethodHandle" ∧ y.cls ≠ "java/lang/invoke/VarHandle" ∧ (parseMethodDescriptor y.desc).map (fun d => d.parameters.length) = some n) ∧ fr + 1 ≤ R.frames ∧ 8 + (nY + 11) + lo ≤ R.locals
def CS (R : Room) (own : String) (index : Nat) (y : MethodName) (cy : ByteArray) (nY : Nat) (ret : Option FieldType) (fr lo n : Nat) : Prop := Cond.methodLink own index y ∈ BIG ∧ Cond.static y ∈ BIG ∧ Cond.initialized y.cls ∈ BIG ∧ Cond.code y cy nY ret ∈ BIG ∧ (y.cls ≠ "java/lang/invoke/MethodHandle" ∧ y.cls ≠ "java/lang/invoke/VarHandle" ∧ (parseMethodDescriptor y.desc).map (fun d => d.parameters.length) = some n) ∧ fr + 1 ≤ R.frames ∧ 8 + (nY + 11) + lo ≤ R.locals
theorem bg_pay {s : State} {args : Array Value} {w0 : Cond} (hts : ∀ w ∈ BIG, w.before args s = true) (h0 : w0 ∈ BIG) : ∀ w ∈ w0 :: BIG, ∀ (a' : Array Value) (U : State), s.WarmedH U.vm → w.before a' U = true := by
  have g : GoodIn BIG (w0 :: BIG) := by
    have g : ∀ w ∈ BIG, (w.onTables && w.keeps) = true ∨ ∃ ty, w = .arrayClass ty := fun w h => good_of_word (List.mem_filter.mp h).2
    intro w hw
    rcases List.mem_cons.mp hw with e | e
    · exact ⟨e ▸ h0, e ▸ g w0 h0⟩
    · exact ⟨e, g w e⟩
  exact pay_in hts g
theorem cv_b (hts : ∀ w ∈ BIG, w.before args s = true) (h : CV R own index y cy nY ret fr lo n) : CallW R s args own y.cls index y cy nY ret (Cond.code y cy nY ret :: BIG) (rmO fr lo) 0 0 n := by
  obtain ⟨h1, h2, h3, h4, h5, ⟨h6, h7, h8⟩, h9, h10⟩ := h
  refine ⟨⟨rfl, rfl, h9, h10, bg_pay hts h5, List.mem_cons_self, hts _ h5, hts _ h4, ⟨h6, h7⟩, fun sig q => ?_, hts _ h1⟩, hts _ h2, hts _ h3⟩
  rw [q] at h8
  exact (Option.some.inj h8).symm
theorem cs_b (hts : ∀ w ∈ BIG, w.before args s = true) (h : CS R own index y cy nY ret fr lo n) : CallB R s args own index y cy nY ret (Cond.code y cy nY ret :: BIG) (rmO fr lo) 0 0 n ∧ (Cond.static y).before args s = true := by
  obtain ⟨h1, h2, h4, h5, ⟨h6, h7, h8⟩, h9, h10⟩ := h
  refine ⟨⟨rfl, rfl, h9, h10, bg_pay hts h5, List.mem_cons_self, hts _ h5, hts _ h4, ⟨h6, h7⟩, fun sig q => ?_, hts _ h1⟩, hts _ h2⟩
  rw [q] at h8
  exact (Option.some.inj h8).symm

theorem s_callIV (C : CX p s m args c cc nL own D tys A) {r : Int32} (hM : MI l y cy nY ret fr lo D tys (.ref b :: As) wc w1 r) (hcw : CV R own index y cy nY ret fr lo n) (kr : Nat) {ci : Nat} {q : vw_C} {fs : List Value} (hcl : vwCl[ci]? = some q) (hq : q.1 = y.cls) (hrv : ws[kr]? = some (b, .inr (ci, fs))) (hs : SubW ws wc w1 ws2) (hn : As.length = n) (hsz : ls.size = nL) {st : List Value} (hst : st = As.reverse ++ .ref b :: rest) (hcat : (rest.map fun v => v.category).sum ≤ 8) (hd : decode cc pc = .ok (.invokevirtual index, 3)) (h1 : kc ≤ R.cells) (h2 : ks ≤ R.slots) (k : WG p l e R s m args below meth c D A kc ks Q ws2 (F0 m (pc + 3) ls (.int r :: rest))) : WG p l e R s m args below meth c D A kc ks Q ws (F0 m pc ls st) := by
  intro H locs hP hD hS
  obtain ⟨hPc, hDc, hin, hback⟩ := hs D A H hP hD
  have hFc : ∀ q, va_A wc H.size q → A q := fun q h => by
    rcases h with h | h
    · exact hin q h
    · exact C.2.2.2.2.2.2.2 q (Nat.le_trans hS.1 h)
  subst hst
  refine va_calli (va_runV (As := As) (rest := rest) ⟨C.1, C.2.1, C.2.2.1, C.2.2.2.1, C.2.2.2.2.1⟩ (hM H.size) (cv_b C.2.2.2.2.1 hcw) ⟨pre_blind, by have h9 := va_recv C.2.2.2.2.2.1 hP hcl hrv; rw [hq] at h9; exact h9, fun U hU hW => ⟨rfl, pre_at hU hW hPc C.2.2.2.2.2.1 C.2.2.2.2.2.2.1 hDc⟩⟩ rfl hn hsz rfl (lv_room hcat) hd ⟨h1, h2⟩) hS (fun q _ h => hFc q h) hFc (fun r2 u t H1 locs1 ht hvm hw hB hz1 hk1 hS1 => ?_)
  obtain ⟨hP1, hK1, hD1⟩ := hB
  rw [ht] at hP1
  obtain ⟨hP2, hD2⟩ := hback H1 hFc hP1 hD1 hk1
  subst hw
  exact k H1 locs1 hP2 hD2 hS1
theorem s_callIS (C : CX p s m args c cc nL own D tys A) {r : Int32} (hM : MI l y cy nY ret fr lo D tys As wc w1 r) (hcw : CS R own index y cy nY ret fr lo n) (hs : SubW ws wc w1 ws2) (hn : As.length = n) (hsz : ls.size = nL) {st : List Value} (hst : st = As.reverse ++ rest) (hcat : (rest.map fun v => v.category).sum ≤ 8) (hd : decode cc pc = .ok (.invokestatic index, 3)) (h1 : kc ≤ R.cells) (h2 : ks ≤ R.slots) (k : WG p l e R s m args below meth c D A kc ks Q ws2 (F0 m (pc + 3) ls (.int r :: rest))) : WG p l e R s m args below meth c D A kc ks Q ws (F0 m pc ls st) := by
  intro H locs hP hD hS
  obtain ⟨hPc, hDc, hin, hback⟩ := hs D A H hP hD
  have hFc : ∀ q, va_A wc H.size q → A q := fun q h => by
    rcases h with h | h
    · exact hin q h
    · exact C.2.2.2.2.2.2.2 q (Nat.le_trans hS.1 h)
  subst hst
  refine va_calli (va_runS (As := As) (rest := rest) ⟨C.1, C.2.1, C.2.2.1, C.2.2.2.1, C.2.2.2.2.1⟩ (hM H.size) (cs_b C.2.2.2.2.1 hcw) ⟨pre_blind, fun U hU hW => ⟨rfl, pre_at hU hW hPc C.2.2.2.2.2.1 C.2.2.2.2.2.2.1 hDc⟩⟩ rfl hn hsz rfl (lv_room hcat) hd ⟨h1, h2⟩) hS (fun q _ h => hFc q h) hFc (fun r2 u t H1 locs1 ht hvm hw hB hz1 hk1 hS1 => ?_)
  obtain ⟨hP1, hK1, hD1⟩ := hB
  rw [ht] at hP1
  obtain ⟨hP2, hD2⟩ := hback H1 hFc hP1 hD1 hk1
  subst hw
  exact k H1 locs1 hP2 hD2 hS1
theorem s_callLV (C : CX p s m args c cc nL own D tys A) {r : Int64} (hM : ML l y cy nY ret fr lo D tys (.ref b :: As) wc w1 r) (hcw : CV R own index y cy nY ret fr lo n) (kr : Nat) {ci : Nat} {q : vw_C} {fs : List Value} (hcl : vwCl[ci]? = some q) (hq : q.1 = y.cls) (hrv : ws[kr]? = some (b, .inr (ci, fs))) (hs : SubW ws wc w1 ws2) (hn : As.length = n) (hsz : ls.size = nL) {st : List Value} (hst : st = As.reverse ++ .ref b :: rest) (hcat : (rest.map fun v => v.category).sum ≤ 8) (hd : decode cc pc = .ok (.invokevirtual index, 3)) (h1 : kc ≤ R.cells) (h2 : ks ≤ R.slots) (k : WG p l e R s m args below meth c D A kc ks Q ws2 (F0 m (pc + 3) ls (.long r :: rest))) : WG p l e R s m args below meth c D A kc ks Q ws (F0 m pc ls st) := by
  intro H locs hP hD hS
  obtain ⟨hPc, hDc, hin, hback⟩ := hs D A H hP hD
  have hFc : ∀ q, va_A wc H.size q → A q := fun q h => by
    rcases h with h | h
    · exact hin q h
    · exact C.2.2.2.2.2.2.2 q (Nat.le_trans hS.1 h)
  subst hst
  refine va_calll (va_runV (As := As) (rest := rest) ⟨C.1, C.2.1, C.2.2.1, C.2.2.2.1, C.2.2.2.2.1⟩ (hM H.size) (cv_b C.2.2.2.2.1 hcw) ⟨pre_blind, by have h9 := va_recv C.2.2.2.2.2.1 hP hcl hrv; rw [hq] at h9; exact h9, fun U hU hW => ⟨rfl, pre_at hU hW hPc C.2.2.2.2.2.1 C.2.2.2.2.2.2.1 hDc⟩⟩ rfl hn hsz rfl (lv_room hcat) hd ⟨h1, h2⟩) hS (fun q _ h => hFc q h) hFc (fun r2 u t H1 locs1 ht hvm hw hB hz1 hk1 hS1 => ?_)
  obtain ⟨hP1, hK1, hD1⟩ := hB
  rw [ht] at hP1
  obtain ⟨hP2, hD2⟩ := hback H1 hFc hP1 hD1 hk1
  subst hw
  exact k H1 locs1 hP2 hD2 hS1
theorem s_callLS (C : CX p s m args c cc nL own D tys A) {r : Int64} (hM : ML l y cy nY ret fr lo D tys As wc w1 r) (hcw : CS R own index y cy nY ret fr lo n) (hs : SubW ws wc w1 ws2) (hn : As.length = n) (hsz : ls.size = nL) {st : List Value} (hst : st = As.reverse ++ rest) (hcat : (rest.map fun v => v.category).sum ≤ 8) (hd : decode cc pc = .ok (.invokestatic index, 3)) (h1 : kc ≤ R.cells) (h2 : ks ≤ R.slots) (k : WG p l e R s m args below meth c D A kc ks Q ws2 (F0 m (pc + 3) ls (.long r :: rest))) : WG p l e R s m args below meth c D A kc ks Q ws (F0 m pc ls st) := by
  intro H locs hP hD hS
  obtain ⟨hPc, hDc, hin, hback⟩ := hs D A H hP hD
  have hFc : ∀ q, va_A wc H.size q → A q := fun q h => by
    rcases h with h | h
    · exact hin q h
    · exact C.2.2.2.2.2.2.2 q (Nat.le_trans hS.1 h)
  subst hst
  refine va_calll (va_runS (As := As) (rest := rest) ⟨C.1, C.2.1, C.2.2.1, C.2.2.2.1, C.2.2.2.2.1⟩ (hM H.size) (cs_b C.2.2.2.2.1 hcw) ⟨pre_blind, fun U hU hW => ⟨rfl, pre_at hU hW hPc C.2.2.2.2.2.1 C.2.2.2.2.2.2.1 hDc⟩⟩ rfl hn hsz rfl (lv_room hcat) hd ⟨h1, h2⟩) hS (fun q _ h => hFc q h) hFc (fun r2 u t H1 locs1 ht hvm hw hB hz1 hk1 hS1 => ?_)
  obtain ⟨hP1, hK1, hD1⟩ := hB
  rw [ht] at hP1
  obtain ⟨hP2, hD2⟩ := hback H1 hFc hP1 hD1 hk1
  subst hw
  exact k H1 locs1 hP2 hD2 hS1
theorem s_callVV (C : CX p s m args c cc nL own D tys A) (hM : MV l y cy nY ret fr lo D tys (.ref b :: As) wc w1) (hcw : CV R own index y cy nY ret fr lo n) (kr : Nat) {ci : Nat} {q : vw_C} {fs : List Value} (hcl : vwCl[ci]? = some q) (hq : q.1 = y.cls) (hrv : ws[kr]? = some (b, .inr (ci, fs))) (hs : SubW ws wc w1 ws2) (hn : As.length = n) (hsz : ls.size = nL) {st : List Value} (hst : st = As.reverse ++ .ref b :: rest) (hcat : (rest.map fun v => v.category).sum ≤ 8) (hd : decode cc pc = .ok (.invokevirtual index, 3)) (h1 : kc ≤ R.cells) (h2 : ks ≤ R.slots) (k : WG p l e R s m args below meth c D A kc ks Q ws2 (F0 m (pc + 3) ls rest)) : WG p l e R s m args below meth c D A kc ks Q ws (F0 m pc ls st) := by
  intro H locs hP hD hS
  obtain ⟨hPc, hDc, hin, hback⟩ := hs D A H hP hD
  have hFc : ∀ q, va_A wc H.size q → A q := fun q h => by
    rcases h with h | h
    · exact hin q h
    · exact C.2.2.2.2.2.2.2 q (Nat.le_trans hS.1 h)
  subst hst
  refine va_callv (va_runV (As := As) (rest := rest) ⟨C.1, C.2.1, C.2.2.1, C.2.2.2.1, C.2.2.2.2.1⟩ (hM H.size) (cv_b C.2.2.2.2.1 hcw) ⟨pre_blind, by have h9 := va_recv C.2.2.2.2.2.1 hP hcl hrv; rw [hq] at h9; exact h9, fun U hU hW => ⟨rfl, pre_at hU hW hPc C.2.2.2.2.2.1 C.2.2.2.2.2.2.1 hDc⟩⟩ rfl hn hsz rfl (lv_room hcat) hd ⟨h1, h2⟩) hS (fun q _ h => hFc q h) hFc (fun u t H1 locs1 ht hvm hw hB hz1 hk1 hS1 => ?_)
  obtain ⟨hP1, hK1, hD1⟩ := hB
  rw [ht] at hP1
  obtain ⟨hP2, hD2⟩ := hback H1 hFc hP1 hD1 hk1
  skip
  exact k H1 locs1 hP2 hD2 hS1
theorem s_callVS (C : CX p s m args c cc nL own D tys A) (hM : MV l y cy nY ret fr lo D tys As wc w1) (hcw : CS R own index y cy nY ret fr lo n) (hs : SubW ws wc w1 ws2) (hn : As.length = n) (hsz : ls.size = nL) {st : List Value} (hst : st = As.reverse ++ rest) (hcat : (rest.map fun v => v.category).sum ≤ 8) (hd : decode cc pc = .ok (.invokestatic index, 3)) (h1 : kc ≤ R.cells) (h2 : ks ≤ R.slots) (k : WG p l e R s m args below meth c D A kc ks Q ws2 (F0 m (pc + 3) ls rest)) : WG p l e R s m args below meth c D A kc ks Q ws (F0 m pc ls st) := by
  intro H locs hP hD hS
  obtain ⟨hPc, hDc, hin, hback⟩ := hs D A H hP hD
  have hFc : ∀ q, va_A wc H.size q → A q := fun q h => by
    rcases h with h | h
    · exact hin q h
    · exact C.2.2.2.2.2.2.2 q (Nat.le_trans hS.1 h)
  subst hst
  refine va_callv (va_runS (As := As) (rest := rest) ⟨C.1, C.2.1, C.2.2.1, C.2.2.2.1, C.2.2.2.2.1⟩ (hM H.size) (cs_b C.2.2.2.2.1 hcw) ⟨pre_blind, fun U hU hW => ⟨rfl, pre_at hU hW hPc C.2.2.2.2.2.1 C.2.2.2.2.2.2.1 hDc⟩⟩ rfl hn hsz rfl (lv_room hcat) hd ⟨h1, h2⟩) hS (fun q _ h => hFc q h) hFc (fun u t H1 locs1 ht hvm hw hB hz1 hk1 hS1 => ?_)
  obtain ⟨hP1, hK1, hD1⟩ := hB
  rw [ht] at hP1
  obtain ⟨hP2, hD2⟩ := hback H1 hFc hP1 hD1 hk1
  skip
  exact k H1 locs1 hP2 hD2 hS1
end SC
end
