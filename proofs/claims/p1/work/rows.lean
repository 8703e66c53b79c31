section
-- ===== PART A: goes FIRST, ahead of the names: the tables' words, and 'selects' of the private methods out of them =====
/-- a private method of a class that the tables say can be made, by its rows of tables_1 -/
def lw_okq (q : MethodName × Nat) : Prop := (q.1.cls ≠ "java/lang/invoke/MethodHandle" ∧ q.1.cls ≠ "java/lang/invoke/VarHandle") ∧ Cond.instantiable q.1.cls q.2 ∈ tables_1 ∧ Cond.privateMethod q.1 ∈ tables_1 ∧ Cond.instanceMethod q.1 ∈ tables_1
theorem lw_p0 : lw_okq (⟨"DiskEvidence", "pictureAt", "(I)LDiskEvidence$Picture;"⟩, 20) := ⟨⟨by decide +kernel, by decide +kernel⟩, List.mem_of_getElem? (i := 22) (by decide +kernel), List.mem_of_getElem? (i := 454) (by decide +kernel), List.mem_of_getElem? (i := 455) (by decide +kernel)⟩
theorem lw_p1 : lw_okq (⟨"DiskEvidence$Picture", "mayBeTable", "(I)Z"⟩, 7) := ⟨⟨by decide +kernel, by decide +kernel⟩, List.mem_of_getElem? (i := 376) (by decide +kernel), List.mem_of_getElem? (i := 493) (by decide +kernel), List.mem_of_getElem? (i := 494) (by decide +kernel)⟩
theorem lw_p2 : lw_okq (⟨"DiskEvidence$Picture", "addPart", "(IIII)V"⟩, 7) := ⟨⟨by decide +kernel, by decide +kernel⟩, List.mem_of_getElem? (i := 376) (by decide +kernel), List.mem_of_getElem? (i := 501) (by decide +kernel), List.mem_of_getElem? (i := 502) (by decide +kernel)⟩
theorem lw_p3 : lw_okq (⟨"DiskEvidence$Picture", "haveCommon", "(II)Z"⟩, 7) := ⟨⟨by decide +kernel, by decide +kernel⟩, List.mem_of_getElem? (i := 376) (by decide +kernel), List.mem_of_getElem? (i := 513) (by decide +kernel), List.mem_of_getElem? (i := 514) (by decide +kernel)⟩
theorem lw_p4 : lw_okq (⟨"DiskEvidence", "maybeVolume", "(I)Z"⟩, 20) := ⟨⟨by decide +kernel, by decide +kernel⟩, List.mem_of_getElem? (i := 22) (by decide +kernel), List.mem_of_getElem? (i := 569) (by decide +kernel), List.mem_of_getElem? (i := 570) (by decide +kernel)⟩
theorem lw_p5 : lw_okq (⟨"DiskEvidence", "volumeAt", "(I)LDiskEvidence$Volume;"⟩, 20) := ⟨⟨by decide +kernel, by decide +kernel⟩, List.mem_of_getElem? (i := 22) (by decide +kernel), List.mem_of_getElem? (i := 573) (by decide +kernel), List.mem_of_getElem? (i := 574) (by decide +kernel)⟩
theorem lw_p6 : lw_okq (⟨"DiskEvidence$Maker", "makeCells", "(II)Z"⟩, 16) := ⟨⟨by decide +kernel, by decide +kernel⟩, List.mem_of_getElem? (i := 38) (by decide +kernel), List.mem_of_getElem? (i := 647) (by decide +kernel), List.mem_of_getElem? (i := 648) (by decide +kernel)⟩
theorem lw_p7 : lw_okq (⟨"DiskEvidence$Maker", "makeNodes", "(II)Z"⟩, 16) := ⟨⟨by decide +kernel, by decide +kernel⟩, List.mem_of_getElem? (i := 38) (by decide +kernel), List.mem_of_getElem? (i := 656) (by decide +kernel), List.mem_of_getElem? (i := 657) (by decide +kernel)⟩
theorem lw_p8 : lw_okq (⟨"DiskEvidence$Maker", "putNode", "(III)V"⟩, 16) := ⟨⟨by decide +kernel, by decide +kernel⟩, List.mem_of_getElem? (i := 38) (by decide +kernel), List.mem_of_getElem? (i := 665) (by decide +kernel), List.mem_of_getElem? (i := 666) (by decide +kernel)⟩
theorem lw_p9 : lw_okq (⟨"DiskEvidence$Form", "readCells", "([BI)Z"⟩, 18) := ⟨⟨by decide +kernel, by decide +kernel⟩, List.mem_of_getElem? (i := 44) (by decide +kernel), List.mem_of_getElem? (i := 701) (by decide +kernel), List.mem_of_getElem? (i := 702) (by decide +kernel)⟩
theorem lw_p10 : lw_okq (⟨"DiskEvidence$Form", "readNodes", "([BI)Z"⟩, 18) := ⟨⟨by decide +kernel, by decide +kernel⟩, List.mem_of_getElem? (i := 44) (by decide +kernel), List.mem_of_getElem? (i := 706) (by decide +kernel), List.mem_of_getElem? (i := 707) (by decide +kernel)⟩
theorem lw_p11 : lw_okq (⟨"DiskEvidence$Form", "readHeaders", "([BI)V"⟩, 18) := ⟨⟨by decide +kernel, by decide +kernel⟩, List.mem_of_getElem? (i := 44) (by decide +kernel), List.mem_of_getElem? (i := 725) (by decide +kernel), List.mem_of_getElem? (i := 726) (by decide +kernel)⟩
theorem lw_p12 : lw_okq (⟨"DiskEvidence$Maker", "onTape", "(III)I"⟩, 16) := ⟨⟨by decide +kernel, by decide +kernel⟩, List.mem_of_getElem? (i := 38) (by decide +kernel), List.mem_of_getElem? (i := 737) (by decide +kernel), List.mem_of_getElem? (i := 738) (by decide +kernel)⟩
theorem lw_p13 : lw_okq (⟨"DiskEvidence$Maker", "isPath", "()Z"⟩, 16) := ⟨⟨by decide +kernel, by decide +kernel⟩, List.mem_of_getElem? (i := 38) (by decide +kernel), List.mem_of_getElem? (i := 741) (by decide +kernel), List.mem_of_getElem? (i := 742) (by decide +kernel)⟩
theorem lw_p14 : lw_okq (⟨"DiskEvidence$Maker", "nameEnd", "(I)I"⟩, 16) := ⟨⟨by decide +kernel, by decide +kernel⟩, List.mem_of_getElem? (i := 38) (by decide +kernel), List.mem_of_getElem? (i := 745) (by decide +kernel), List.mem_of_getElem? (i := 746) (by decide +kernel)⟩
theorem lw_p15 : lw_okq (⟨"DiskEvidence$Maker", "isCellsName", "(II)Z"⟩, 16) := ⟨⟨by decide +kernel, by decide +kernel⟩, List.mem_of_getElem? (i := 38) (by decide +kernel), List.mem_of_getElem? (i := 749) (by decide +kernel), List.mem_of_getElem? (i := 750) (by decide +kernel)⟩
def lw_privs_1 : List (MethodName × Nat) := [(⟨"DiskEvidence", "pictureAt", "(I)LDiskEvidence$Picture;"⟩, 20), (⟨"DiskEvidence$Picture", "mayBeTable", "(I)Z"⟩, 7), (⟨"DiskEvidence$Picture", "addPart", "(IIII)V"⟩, 7), (⟨"DiskEvidence$Picture", "haveCommon", "(II)Z"⟩, 7), (⟨"DiskEvidence", "maybeVolume", "(I)Z"⟩, 20), (⟨"DiskEvidence", "volumeAt", "(I)LDiskEvidence$Volume;"⟩, 20), (⟨"DiskEvidence$Maker", "makeCells", "(II)Z"⟩, 16), (⟨"DiskEvidence$Maker", "makeNodes", "(II)Z"⟩, 16), (⟨"DiskEvidence$Maker", "putNode", "(III)V"⟩, 16), (⟨"DiskEvidence$Form", "readCells", "([BI)Z"⟩, 18), (⟨"DiskEvidence$Form", "readNodes", "([BI)Z"⟩, 18), (⟨"DiskEvidence$Form", "readHeaders", "([BI)V"⟩, 18), (⟨"DiskEvidence$Maker", "onTape", "(III)I"⟩, 16), (⟨"DiskEvidence$Maker", "isPath", "()Z"⟩, 16), (⟨"DiskEvidence$Maker", "nameEnd", "(I)I"⟩, 16), (⟨"DiskEvidence$Maker", "isCellsName", "(II)Z"⟩, 16)]
theorem lw_r1 : ∀ q ∈ lw_privs_1, lw_okq q := List.forall_mem_cons.mpr ⟨lw_p0, List.forall_mem_cons.mpr ⟨lw_p1, List.forall_mem_cons.mpr ⟨lw_p2, List.forall_mem_cons.mpr ⟨lw_p3, List.forall_mem_cons.mpr ⟨lw_p4, List.forall_mem_cons.mpr ⟨lw_p5, List.forall_mem_cons.mpr ⟨lw_p6, List.forall_mem_cons.mpr ⟨lw_p7, List.forall_mem_cons.mpr ⟨lw_p8, List.forall_mem_cons.mpr ⟨lw_p9, List.forall_mem_cons.mpr ⟨lw_p10, List.forall_mem_cons.mpr ⟨lw_p11, List.forall_mem_cons.mpr ⟨lw_p12, List.forall_mem_cons.mpr ⟨lw_p13, List.forall_mem_cons.mpr ⟨lw_p14, List.forall_mem_cons.mpr ⟨lw_p15, fun _ h => absurd h List.not_mem_nil⟩⟩⟩⟩⟩⟩⟩⟩⟩⟩⟩⟩⟩⟩⟩⟩
theorem lw_p16 : lw_okq (⟨"DiskEvidence$Maker", "isOtherName", "(II)Z"⟩, 16) := ⟨⟨by decide +kernel, by decide +kernel⟩, List.mem_of_getElem? (i := 38) (by decide +kernel), List.mem_of_getElem? (i := 756) (by decide +kernel), List.mem_of_getElem? (i := 757) (by decide +kernel)⟩
theorem lw_p17 : lw_okq (⟨"DiskEvidence$Maker", "fill", "(II)V"⟩, 16) := ⟨⟨by decide +kernel, by decide +kernel⟩, List.mem_of_getElem? (i := 38) (by decide +kernel), List.mem_of_getElem? (i := 765) (by decide +kernel), List.mem_of_getElem? (i := 766) (by decide +kernel)⟩
theorem lw_p18 : lw_okq (⟨"DiskEvidence$Maker", "findPlace", "()Z"⟩, 16) := ⟨⟨by decide +kernel, by decide +kernel⟩, List.mem_of_getElem? (i := 38) (by decide +kernel), List.mem_of_getElem? (i := 770) (by decide +kernel), List.mem_of_getElem? (i := 771) (by decide +kernel)⟩
theorem lw_p19 : lw_okq (⟨"DiskEvidence$Maker", "enterCells", "(I)V"⟩, 16) := ⟨⟨by decide +kernel, by decide +kernel⟩, List.mem_of_getElem? (i := 38) (by decide +kernel), List.mem_of_getElem? (i := 774) (by decide +kernel), List.mem_of_getElem? (i := 775) (by decide +kernel)⟩
theorem lw_p20 : lw_okq (⟨"DiskEvidence$Maker", "enterNode", "(I)V"⟩, 16) := ⟨⟨by decide +kernel, by decide +kernel⟩, List.mem_of_getElem? (i := 38) (by decide +kernel), List.mem_of_getElem? (i := 793) (by decide +kernel), List.mem_of_getElem? (i := 794) (by decide +kernel)⟩
theorem lw_p21 : lw_okq (⟨"DiskEvidence$Maker", "findRow", "(II)I"⟩, 16) := ⟨⟨by decide +kernel, by decide +kernel⟩, List.mem_of_getElem? (i := 38) (by decide +kernel), List.mem_of_getElem? (i := 817) (by decide +kernel), List.mem_of_getElem? (i := 818) (by decide +kernel)⟩
theorem lw_p22 : lw_okq (⟨"DiskEvidence$Maker", "rowPlace", "(I)I"⟩, 16) := ⟨⟨by decide +kernel, by decide +kernel⟩, List.mem_of_getElem? (i := 38) (by decide +kernel), List.mem_of_getElem? (i := 821) (by decide +kernel), List.mem_of_getElem? (i := 822) (by decide +kernel)⟩
theorem lw_p23 : lw_okq (⟨"DiskEvidence$Maker", "isCellsRow", "(III)Z"⟩, 16) := ⟨⟨by decide +kernel, by decide +kernel⟩, List.mem_of_getElem? (i := 38) (by decide +kernel), List.mem_of_getElem? (i := 825) (by decide +kernel), List.mem_of_getElem? (i := 826) (by decide +kernel)⟩
theorem lw_p24 : lw_okq (⟨"DiskEvidence$Maker", "isNodesRow", "(III)Z"⟩, 16) := ⟨⟨by decide +kernel, by decide +kernel⟩, List.mem_of_getElem? (i := 38) (by decide +kernel), List.mem_of_getElem? (i := 838) (by decide +kernel), List.mem_of_getElem? (i := 839) (by decide +kernel)⟩
theorem lw_p25 : lw_okq (⟨"DiskEvidence$Maker", "isFolderRow", "(I)Z"⟩, 16) := ⟨⟨by decide +kernel, by decide +kernel⟩, List.mem_of_getElem? (i := 38) (by decide +kernel), List.mem_of_getElem? (i := 848) (by decide +kernel), List.mem_of_getElem? (i := 849) (by decide +kernel)⟩
theorem lw_p26 : lw_okq (⟨"DiskEvidence$Maker", "eraseRow", "()I"⟩, 16) := ⟨⟨by decide +kernel, by decide +kernel⟩, List.mem_of_getElem? (i := 38) (by decide +kernel), List.mem_of_getElem? (i := 852) (by decide +kernel), List.mem_of_getElem? (i := 853) (by decide +kernel)⟩
theorem lw_p27 : lw_okq (⟨"DiskEvidence$Maker", "hasLivingRows", "(I)Z"⟩, 16) := ⟨⟨by decide +kernel, by decide +kernel⟩, List.mem_of_getElem? (i := 38) (by decide +kernel), List.mem_of_getElem? (i := 856) (by decide +kernel), List.mem_of_getElem? (i := 857) (by decide +kernel)⟩
theorem lw_p28 : lw_okq (⟨"DiskEvidence$Maker", "dropChain", "(I)V"⟩, 16) := ⟨⟨by decide +kernel, by decide +kernel⟩, List.mem_of_getElem? (i := 38) (by decide +kernel), List.mem_of_getElem? (i := 860) (by decide +kernel), List.mem_of_getElem? (i := 861) (by decide +kernel)⟩
theorem lw_p29 : lw_okq (⟨"DiskEvidence$Maker", "dropBlocks", "(I)V"⟩, 16) := ⟨⟨by decide +kernel, by decide +kernel⟩, List.mem_of_getElem? (i := 38) (by decide +kernel), List.mem_of_getElem? (i := 873) (by decide +kernel), List.mem_of_getElem? (i := 874) (by decide +kernel)⟩
theorem lw_p30 : lw_okq (⟨"DiskEvidence$Maker", "store", "(ZI)I"⟩, 16) := ⟨⟨by decide +kernel, by decide +kernel⟩, List.mem_of_getElem? (i := 38) (by decide +kernel), List.mem_of_getElem? (i := 878) (by decide +kernel), List.mem_of_getElem? (i := 879) (by decide +kernel)⟩
theorem lw_p31 : lw_okq (⟨"DiskEvidence$Maker", "freeRow", "()I"⟩, 16) := ⟨⟨by decide +kernel, by decide +kernel⟩, List.mem_of_getElem? (i := 38) (by decide +kernel), List.mem_of_getElem? (i := 882) (by decide +kernel), List.mem_of_getElem? (i := 883) (by decide +kernel)⟩
def lw_privs_2 : List (MethodName × Nat) := [(⟨"DiskEvidence$Maker", "isOtherName", "(II)Z"⟩, 16), (⟨"DiskEvidence$Maker", "fill", "(II)V"⟩, 16), (⟨"DiskEvidence$Maker", "findPlace", "()Z"⟩, 16), (⟨"DiskEvidence$Maker", "enterCells", "(I)V"⟩, 16), (⟨"DiskEvidence$Maker", "enterNode", "(I)V"⟩, 16), (⟨"DiskEvidence$Maker", "findRow", "(II)I"⟩, 16), (⟨"DiskEvidence$Maker", "rowPlace", "(I)I"⟩, 16), (⟨"DiskEvidence$Maker", "isCellsRow", "(III)Z"⟩, 16), (⟨"DiskEvidence$Maker", "isNodesRow", "(III)Z"⟩, 16), (⟨"DiskEvidence$Maker", "isFolderRow", "(I)Z"⟩, 16), (⟨"DiskEvidence$Maker", "eraseRow", "()I"⟩, 16), (⟨"DiskEvidence$Maker", "hasLivingRows", "(I)Z"⟩, 16), (⟨"DiskEvidence$Maker", "dropChain", "(I)V"⟩, 16), (⟨"DiskEvidence$Maker", "dropBlocks", "(I)V"⟩, 16), (⟨"DiskEvidence$Maker", "store", "(ZI)I"⟩, 16), (⟨"DiskEvidence$Maker", "freeRow", "()I"⟩, 16)]
theorem lw_r2 : ∀ q ∈ lw_privs_2, lw_okq q := List.forall_mem_cons.mpr ⟨lw_p16, List.forall_mem_cons.mpr ⟨lw_p17, List.forall_mem_cons.mpr ⟨lw_p18, List.forall_mem_cons.mpr ⟨lw_p19, List.forall_mem_cons.mpr ⟨lw_p20, List.forall_mem_cons.mpr ⟨lw_p21, List.forall_mem_cons.mpr ⟨lw_p22, List.forall_mem_cons.mpr ⟨lw_p23, List.forall_mem_cons.mpr ⟨lw_p24, List.forall_mem_cons.mpr ⟨lw_p25, List.forall_mem_cons.mpr ⟨lw_p26, List.forall_mem_cons.mpr ⟨lw_p27, List.forall_mem_cons.mpr ⟨lw_p28, List.forall_mem_cons.mpr ⟨lw_p29, List.forall_mem_cons.mpr ⟨lw_p30, List.forall_mem_cons.mpr ⟨lw_p31, fun _ h => absurd h List.not_mem_nil⟩⟩⟩⟩⟩⟩⟩⟩⟩⟩⟩⟩⟩⟩⟩⟩
theorem lw_p32 : lw_okq (⟨"DiskEvidence$Maker", "growCells", "()I"⟩, 16) := ⟨⟨by decide +kernel, by decide +kernel⟩, List.mem_of_getElem? (i := 38) (by decide +kernel), List.mem_of_getElem? (i := 886) (by decide +kernel), List.mem_of_getElem? (i := 887) (by decide +kernel)⟩
theorem lw_p33 : lw_okq (⟨"DiskEvidence$Maker", "takeClusters", "(I)Z"⟩, 16) := ⟨⟨by decide +kernel, by decide +kernel⟩, List.mem_of_getElem? (i := 38) (by decide +kernel), List.mem_of_getElem? (i := 890) (by decide +kernel), List.mem_of_getElem? (i := 891) (by decide +kernel)⟩
theorem lw_p34 : lw_okq (⟨"DiskEvidence$Maker", "growNode", "()I"⟩, 16) := ⟨⟨by decide +kernel, by decide +kernel⟩, List.mem_of_getElem? (i := 38) (by decide +kernel), List.mem_of_getElem? (i := 903) (by decide +kernel), List.mem_of_getElem? (i := 904) (by decide +kernel)⟩
theorem lw_p35 : lw_okq (⟨"DiskEvidence$Maker", "takeBlock", "(I)I"⟩, 16) := ⟨⟨by decide +kernel, by decide +kernel⟩, List.mem_of_getElem? (i := 38) (by decide +kernel), List.mem_of_getElem? (i := 907) (by decide +kernel), List.mem_of_getElem? (i := 908) (by decide +kernel)⟩
theorem lw_p36 : lw_okq (⟨"DiskEvidence$Maker", "takeBit", "(III)I"⟩, 16) := ⟨⟨by decide +kernel, by decide +kernel⟩, List.mem_of_getElem? (i := 38) (by decide +kernel), List.mem_of_getElem? (i := 911) (by decide +kernel), List.mem_of_getElem? (i := 912) (by decide +kernel)⟩
theorem lw_p37 : lw_okq (⟨"DiskEvidence$Maker", "storeCells", "(ZZII)Z"⟩, 16) := ⟨⟨by decide +kernel, by decide +kernel⟩, List.mem_of_getElem? (i := 38) (by decide +kernel), List.mem_of_getElem? (i := 916) (by decide +kernel), List.mem_of_getElem? (i := 917) (by decide +kernel)⟩
theorem lw_p38 : lw_okq (⟨"DiskEvidence$Maker", "putCellsName", "()V"⟩, 16) := ⟨⟨by decide +kernel, by decide +kernel⟩, List.mem_of_getElem? (i := 38) (by decide +kernel), List.mem_of_getElem? (i := 920) (by decide +kernel), List.mem_of_getElem? (i := 921) (by decide +kernel)⟩
theorem lw_p39 : lw_okq (⟨"DiskEvidence$Maker", "cellsMoment", "()I"⟩, 16) := ⟨⟨by decide +kernel, by decide +kernel⟩, List.mem_of_getElem? (i := 38) (by decide +kernel), List.mem_of_getElem? (i := 924) (by decide +kernel), List.mem_of_getElem? (i := 925) (by decide +kernel)⟩
theorem lw_p40 : lw_okq (⟨"DiskEvidence$Maker", "storeNode", "(ZZII)Z"⟩, 16) := ⟨⟨by decide +kernel, by decide +kernel⟩, List.mem_of_getElem? (i := 38) (by decide +kernel), List.mem_of_getElem? (i := 933) (by decide +kernel), List.mem_of_getElem? (i := 934) (by decide +kernel)⟩
theorem lw_p41 : lw_okq (⟨"DiskEvidence$Maker", "writeChanges", "(LDiskEvidence$Volume;)V"⟩, 16) := ⟨⟨by decide +kernel, by decide +kernel⟩, List.mem_of_getElem? (i := 38) (by decide +kernel), List.mem_of_getElem? (i := 937) (by decide +kernel), List.mem_of_getElem? (i := 938) (by decide +kernel)⟩
theorem lw_p42 : lw_okq (⟨"DiskEvidence$Reader", "compareTables", "()V"⟩, 8) := ⟨⟨by decide +kernel, by decide +kernel⟩, List.mem_of_getElem? (i := 1038) (by decide +kernel), List.mem_of_getElem? (i := 1080) (by decide +kernel), List.mem_of_getElem? (i := 1081) (by decide +kernel)⟩
theorem lw_p43 : lw_okq (⟨"DiskEvidence$Reader", "walkCells", "([III)V"⟩, 8) := ⟨⟨by decide +kernel, by decide +kernel⟩, List.mem_of_getElem? (i := 1038) (by decide +kernel), List.mem_of_getElem? (i := 1090) (by decide +kernel), List.mem_of_getElem? (i := 1091) (by decide +kernel)⟩
theorem lw_p44 : lw_okq (⟨"DiskEvidence$Reader", "meetCells", "(III)V"⟩, 8) := ⟨⟨by decide +kernel, by decide +kernel⟩, List.mem_of_getElem? (i := 1038) (by decide +kernel), List.mem_of_getElem? (i := 1095) (by decide +kernel), List.mem_of_getElem? (i := 1096) (by decide +kernel)⟩
theorem lw_p45 : lw_okq (⟨"DiskEvidence$Reader", "cellsItem", "(III)LDiskEvidence$Item;"⟩, 8) := ⟨⟨by decide +kernel, by decide +kernel⟩, List.mem_of_getElem? (i := 1038) (by decide +kernel), List.mem_of_getElem? (i := 1099) (by decide +kernel), List.mem_of_getElem? (i := 1100) (by decide +kernel)⟩
theorem lw_p46 : lw_okq (⟨"DiskEvidence$Reader", "erasedCells", "(III)LDiskEvidence$Item;"⟩, 8) := ⟨⟨by decide +kernel, by decide +kernel⟩, List.mem_of_getElem? (i := 1038) (by decide +kernel), List.mem_of_getElem? (i := 1235) (by decide +kernel), List.mem_of_getElem? (i := 1236) (by decide +kernel)⟩
theorem lw_p47 : lw_okq (⟨"DiskEvidence$Reader", "addErased", "()V"⟩, 8) := ⟨⟨by decide +kernel, by decide +kernel⟩, List.mem_of_getElem? (i := 1038) (by decide +kernel), List.mem_of_getElem? (i := 1245) (by decide +kernel), List.mem_of_getElem? (i := 1246) (by decide +kernel)⟩
def lw_privs_3 : List (MethodName × Nat) := [(⟨"DiskEvidence$Maker", "growCells", "()I"⟩, 16), (⟨"DiskEvidence$Maker", "takeClusters", "(I)Z"⟩, 16), (⟨"DiskEvidence$Maker", "growNode", "()I"⟩, 16), (⟨"DiskEvidence$Maker", "takeBlock", "(I)I"⟩, 16), (⟨"DiskEvidence$Maker", "takeBit", "(III)I"⟩, 16), (⟨"DiskEvidence$Maker", "storeCells", "(ZZII)Z"⟩, 16), (⟨"DiskEvidence$Maker", "putCellsName", "()V"⟩, 16), (⟨"DiskEvidence$Maker", "cellsMoment", "()I"⟩, 16), (⟨"DiskEvidence$Maker", "storeNode", "(ZZII)Z"⟩, 16), (⟨"DiskEvidence$Maker", "writeChanges", "(LDiskEvidence$Volume;)V"⟩, 16), (⟨"DiskEvidence$Reader", "compareTables", "()V"⟩, 8), (⟨"DiskEvidence$Reader", "walkCells", "([III)V"⟩, 8), (⟨"DiskEvidence$Reader", "meetCells", "(III)V"⟩, 8), (⟨"DiskEvidence$Reader", "cellsItem", "(III)LDiskEvidence$Item;"⟩, 8), (⟨"DiskEvidence$Reader", "erasedCells", "(III)LDiskEvidence$Item;"⟩, 8), (⟨"DiskEvidence$Reader", "addErased", "()V"⟩, 8)]
theorem lw_r3 : ∀ q ∈ lw_privs_3, lw_okq q := List.forall_mem_cons.mpr ⟨lw_p32, List.forall_mem_cons.mpr ⟨lw_p33, List.forall_mem_cons.mpr ⟨lw_p34, List.forall_mem_cons.mpr ⟨lw_p35, List.forall_mem_cons.mpr ⟨lw_p36, List.forall_mem_cons.mpr ⟨lw_p37, List.forall_mem_cons.mpr ⟨lw_p38, List.forall_mem_cons.mpr ⟨lw_p39, List.forall_mem_cons.mpr ⟨lw_p40, List.forall_mem_cons.mpr ⟨lw_p41, List.forall_mem_cons.mpr ⟨lw_p42, List.forall_mem_cons.mpr ⟨lw_p43, List.forall_mem_cons.mpr ⟨lw_p44, List.forall_mem_cons.mpr ⟨lw_p45, List.forall_mem_cons.mpr ⟨lw_p46, List.forall_mem_cons.mpr ⟨lw_p47, fun _ h => absurd h List.not_mem_nil⟩⟩⟩⟩⟩⟩⟩⟩⟩⟩⟩⟩⟩⟩⟩⟩
theorem lw_p48 : lw_okq (⟨"DiskEvidence$Reader", "walkNodes", "([IIII)V"⟩, 8) := ⟨⟨by decide +kernel, by decide +kernel⟩, List.mem_of_getElem? (i := 1038) (by decide +kernel), List.mem_of_getElem? (i := 1256) (by decide +kernel), List.mem_of_getElem? (i := 1257) (by decide +kernel)⟩
theorem lw_p49 : lw_okq (⟨"DiskEvidence$Reader", "meetNode", "(IIII)V"⟩, 8) := ⟨⟨by decide +kernel, by decide +kernel⟩, List.mem_of_getElem? (i := 1038) (by decide +kernel), List.mem_of_getElem? (i := 1261) (by decide +kernel), List.mem_of_getElem? (i := 1262) (by decide +kernel)⟩
theorem lw_p50 : lw_okq (⟨"DiskEvidence$Reader", "nodeItem", "(II)LDiskEvidence$Item;"⟩, 8) := ⟨⟨by decide +kernel, by decide +kernel⟩, List.mem_of_getElem? (i := 1038) (by decide +kernel), List.mem_of_getElem? (i := 1265) (by decide +kernel), List.mem_of_getElem? (i := 1266) (by decide +kernel)⟩
theorem lw_p51 : lw_okq (⟨"DiskEvidence$Reader", "ownPlaces", "(LDiskEvidence$Item;II)V"⟩, 8) := ⟨⟨by decide +kernel, by decide +kernel⟩, List.mem_of_getElem? (i := 1038) (by decide +kernel), List.mem_of_getElem? (i := 1270) (by decide +kernel), List.mem_of_getElem? (i := 1271) (by decide +kernel)⟩
theorem lw_p52 : lw_okq (⟨"DiskEvidence$Reader", "ownBlock", "(II)V"⟩, 8) := ⟨⟨by decide +kernel, by decide +kernel⟩, List.mem_of_getElem? (i := 1038) (by decide +kernel), List.mem_of_getElem? (i := 1274) (by decide +kernel), List.mem_of_getElem? (i := 1275) (by decide +kernel)⟩
theorem lw_p53 : lw_okq (⟨"DiskEvidence$Reader", "compareMap", "()V"⟩, 8) := ⟨⟨by decide +kernel, by decide +kernel⟩, List.mem_of_getElem? (i := 1038) (by decide +kernel), List.mem_of_getElem? (i := 1279) (by decide +kernel), List.mem_of_getElem? (i := 1280) (by decide +kernel)⟩
theorem lw_p54 : lw_okq (⟨"DiskEvidence$Reader", "erasedNode", "(I)LDiskEvidence$Item;"⟩, 8) := ⟨⟨by decide +kernel, by decide +kernel⟩, List.mem_of_getElem? (i := 1038) (by decide +kernel), List.mem_of_getElem? (i := 1291) (by decide +kernel), List.mem_of_getElem? (i := 1292) (by decide +kernel)⟩
theorem lw_p55 : lw_okq (⟨"DiskEvidence$Reader", "numbered", "(II)[B"⟩, 8) := ⟨⟨by decide +kernel, by decide +kernel⟩, List.mem_of_getElem? (i := 1038) (by decide +kernel), List.mem_of_getElem? (i := 1295) (by decide +kernel), List.mem_of_getElem? (i := 1296) (by decide +kernel)⟩
theorem lw_p56 : lw_okq (⟨"DiskEvidence$Reader", "isSafe", "(II)Z"⟩, 8) := ⟨⟨by decide +kernel, by decide +kernel⟩, List.mem_of_getElem? (i := 1038) (by decide +kernel), List.mem_of_getElem? (i := 1300) (by decide +kernel), List.mem_of_getElem? (i := 1301) (by decide +kernel)⟩
theorem lw_p57 : lw_okq (⟨"DiskEvidence$Reader", "hasPlace", "(II)Z"⟩, 8) := ⟨⟨by decide +kernel, by decide +kernel⟩, List.mem_of_getElem? (i := 1038) (by decide +kernel), List.mem_of_getElem? (i := 1304) (by decide +kernel), List.mem_of_getElem? (i := 1305) (by decide +kernel)⟩
theorem lw_p58 : lw_okq (⟨"DiskEvidence$Reader", "comesAgain", "(I)Z"⟩, 8) := ⟨⟨by decide +kernel, by decide +kernel⟩, List.mem_of_getElem? (i := 1038) (by decide +kernel), List.mem_of_getElem? (i := 1313) (by decide +kernel), List.mem_of_getElem? (i := 1314) (by decide +kernel)⟩
theorem lw_p59 : lw_okq (⟨"DiskEvidence$Reader", "meetEntry", "(II)V"⟩, 8) := ⟨⟨by decide +kernel, by decide +kernel⟩, List.mem_of_getElem? (i := 1038) (by decide +kernel), List.mem_of_getElem? (i := 1318) (by decide +kernel), List.mem_of_getElem? (i := 1319) (by decide +kernel)⟩
theorem lw_p60 : lw_okq (⟨"DiskEvidence$Opening", "start", "([BII)V"⟩, 10) := ⟨⟨by decide +kernel, by decide +kernel⟩, List.mem_of_getElem? (i := 1332) (by decide +kernel), List.mem_of_getElem? (i := 1393) (by decide +kernel), List.mem_of_getElem? (i := 1394) (by decide +kernel)⟩
theorem lw_p61 : lw_okq (⟨"DiskEvidence$Opening", "parsePieces", "()V"⟩, 10) := ⟨⟨by decide +kernel, by decide +kernel⟩, List.mem_of_getElem? (i := 1332) (by decide +kernel), List.mem_of_getElem? (i := 1397) (by decide +kernel), List.mem_of_getElem? (i := 1398) (by decide +kernel)⟩
theorem lw_p62 : lw_okq (⟨"DiskEvidence$Opening", "pieceEnd", "(I)I"⟩, 10) := ⟨⟨by decide +kernel, by decide +kernel⟩, List.mem_of_getElem? (i := 1332) (by decide +kernel), List.mem_of_getElem? (i := 1401) (by decide +kernel), List.mem_of_getElem? (i := 1402) (by decide +kernel)⟩
theorem lw_p63 : lw_okq (⟨"DiskEvidence$Opening", "at8", "(I)I"⟩, 10) := ⟨⟨by decide +kernel, by decide +kernel⟩, List.mem_of_getElem? (i := 1332) (by decide +kernel), List.mem_of_getElem? (i := 1405) (by decide +kernel), List.mem_of_getElem? (i := 1406) (by decide +kernel)⟩
def lw_privs_4 : List (MethodName × Nat) := [(⟨"DiskEvidence$Reader", "walkNodes", "([IIII)V"⟩, 8), (⟨"DiskEvidence$Reader", "meetNode", "(IIII)V"⟩, 8), (⟨"DiskEvidence$Reader", "nodeItem", "(II)LDiskEvidence$Item;"⟩, 8), (⟨"DiskEvidence$Reader", "ownPlaces", "(LDiskEvidence$Item;II)V"⟩, 8), (⟨"DiskEvidence$Reader", "ownBlock", "(II)V"⟩, 8), (⟨"DiskEvidence$Reader", "compareMap", "()V"⟩, 8), (⟨"DiskEvidence$Reader", "erasedNode", "(I)LDiskEvidence$Item;"⟩, 8), (⟨"DiskEvidence$Reader", "numbered", "(II)[B"⟩, 8), (⟨"DiskEvidence$Reader", "isSafe", "(II)Z"⟩, 8), (⟨"DiskEvidence$Reader", "hasPlace", "(II)Z"⟩, 8), (⟨"DiskEvidence$Reader", "comesAgain", "(I)Z"⟩, 8), (⟨"DiskEvidence$Reader", "meetEntry", "(II)V"⟩, 8), (⟨"DiskEvidence$Opening", "start", "([BII)V"⟩, 10), (⟨"DiskEvidence$Opening", "parsePieces", "()V"⟩, 10), (⟨"DiskEvidence$Opening", "pieceEnd", "(I)I"⟩, 10), (⟨"DiskEvidence$Opening", "at8", "(I)I"⟩, 10)]
theorem lw_r4 : ∀ q ∈ lw_privs_4, lw_okq q := List.forall_mem_cons.mpr ⟨lw_p48, List.forall_mem_cons.mpr ⟨lw_p49, List.forall_mem_cons.mpr ⟨lw_p50, List.forall_mem_cons.mpr ⟨lw_p51, List.forall_mem_cons.mpr ⟨lw_p52, List.forall_mem_cons.mpr ⟨lw_p53, List.forall_mem_cons.mpr ⟨lw_p54, List.forall_mem_cons.mpr ⟨lw_p55, List.forall_mem_cons.mpr ⟨lw_p56, List.forall_mem_cons.mpr ⟨lw_p57, List.forall_mem_cons.mpr ⟨lw_p58, List.forall_mem_cons.mpr ⟨lw_p59, List.forall_mem_cons.mpr ⟨lw_p60, List.forall_mem_cons.mpr ⟨lw_p61, List.forall_mem_cons.mpr ⟨lw_p62, List.forall_mem_cons.mpr ⟨lw_p63, fun _ h => absurd h List.not_mem_nil⟩⟩⟩⟩⟩⟩⟩⟩⟩⟩⟩⟩⟩⟩⟩⟩
theorem lw_p64 : lw_okq (⟨"DiskEvidence$Opening", "highestFirst", "(I)I"⟩, 10) := ⟨⟨by decide +kernel, by decide +kernel⟩, List.mem_of_getElem? (i := 1332) (by decide +kernel), List.mem_of_getElem? (i := 1409) (by decide +kernel), List.mem_of_getElem? (i := 1410) (by decide +kernel)⟩
theorem lw_p65 : lw_okq (⟨"DiskEvidence$Opening", "addPiece", "(II)V"⟩, 10) := ⟨⟨by decide +kernel, by decide +kernel⟩, List.mem_of_getElem? (i := 1332) (by decide +kernel), List.mem_of_getElem? (i := 1413) (by decide +kernel), List.mem_of_getElem? (i := 1414) (by decide +kernel)⟩
theorem lw_p66 : lw_okq (⟨"DiskEvidence$Opening", "addNode", "(IIIII)I"⟩, 10) := ⟨⟨by decide +kernel, by decide +kernel⟩, List.mem_of_getElem? (i := 1332) (by decide +kernel), List.mem_of_getElem? (i := 1417) (by decide +kernel), List.mem_of_getElem? (i := 1418) (by decide +kernel)⟩
theorem lw_p67 : lw_okq (⟨"DiskEvidence$Opening", "parsePack", "()V"⟩, 10) := ⟨⟨by decide +kernel, by decide +kernel⟩, List.mem_of_getElem? (i := 1332) (by decide +kernel), List.mem_of_getElem? (i := 1424) (by decide +kernel), List.mem_of_getElem? (i := 1425) (by decide +kernel)⟩
theorem lw_p68 : lw_okq (⟨"DiskEvidence$Opening", "isMarked", "(III)Z"⟩, 10) := ⟨⟨by decide +kernel, by decide +kernel⟩, List.mem_of_getElem? (i := 1332) (by decide +kernel), List.mem_of_getElem? (i := 1428) (by decide +kernel), List.mem_of_getElem? (i := 1429) (by decide +kernel)⟩
theorem lw_p69 : lw_okq (⟨"DiskEvidence$Opening", "entryEnd", "(I)I"⟩, 10) := ⟨⟨by decide +kernel, by decide +kernel⟩, List.mem_of_getElem? (i := 1332) (by decide +kernel), List.mem_of_getElem? (i := 1432) (by decide +kernel), List.mem_of_getElem? (i := 1433) (by decide +kernel)⟩
theorem lw_p70 : lw_okq (⟨"DiskEvidence$Opening", "at16", "(I)I"⟩, 10) := ⟨⟨by decide +kernel, by decide +kernel⟩, List.mem_of_getElem? (i := 1332) (by decide +kernel), List.mem_of_getElem? (i := 1436) (by decide +kernel), List.mem_of_getElem? (i := 1437) (by decide +kernel)⟩
theorem lw_p71 : lw_okq (⟨"DiskEvidence$Opening", "addEntry", "(I)V"⟩, 10) := ⟨⟨by decide +kernel, by decide +kernel⟩, List.mem_of_getElem? (i := 1332) (by decide +kernel), List.mem_of_getElem? (i := 1440) (by decide +kernel), List.mem_of_getElem? (i := 1441) (by decide +kernel)⟩
theorem lw_p72 : lw_okq (⟨"DiskEvidence$Opening", "packRowEnd", "(II)I"⟩, 10) := ⟨⟨by decide +kernel, by decide +kernel⟩, List.mem_of_getElem? (i := 1332) (by decide +kernel), List.mem_of_getElem? (i := 1444) (by decide +kernel), List.mem_of_getElem? (i := 1445) (by decide +kernel)⟩
theorem lw_p73 : lw_okq (⟨"DiskEvidence", "treeAt", "(I)LDiskEvidence$Tree;"⟩, 20) := ⟨⟨by decide +kernel, by decide +kernel⟩, List.mem_of_getElem? (i := 22) (by decide +kernel), List.mem_of_getElem? (i := 1454) (by decide +kernel), List.mem_of_getElem? (i := 1455) (by decide +kernel)⟩
theorem lw_p74 : lw_okq (⟨"DiskEvidence$Tree", "firstNamed", "(I[BII)I"⟩, 12) := ⟨⟨by decide +kernel, by decide +kernel⟩, List.mem_of_getElem? (i := 953) (by decide +kernel), List.mem_of_getElem? (i := 1492) (by decide +kernel), List.mem_of_getElem? (i := 1493) (by decide +kernel)⟩
theorem lw_p75 : lw_okq (⟨"DiskEvidence$Opening", "parsePages", "()V"⟩, 10) := ⟨⟨by decide +kernel, by decide +kernel⟩, List.mem_of_getElem? (i := 1332) (by decide +kernel), List.mem_of_getElem? (i := 1554) (by decide +kernel), List.mem_of_getElem? (i := 1555) (by decide +kernel)⟩
theorem lw_p76 : lw_okq (⟨"DiskEvidence$Opening", "isPage", "()Z"⟩, 10) := ⟨⟨by decide +kernel, by decide +kernel⟩, List.mem_of_getElem? (i := 1332) (by decide +kernel), List.mem_of_getElem? (i := 1558) (by decide +kernel), List.mem_of_getElem? (i := 1559) (by decide +kernel)⟩
theorem lw_p77 : lw_okq (⟨"DiskEvidence$Opening", "rowEnd", "(I)I"⟩, 10) := ⟨⟨by decide +kernel, by decide +kernel⟩, List.mem_of_getElem? (i := 1332) (by decide +kernel), List.mem_of_getElem? (i := 1562) (by decide +kernel), List.mem_of_getElem? (i := 1563) (by decide +kernel)⟩
theorem lw_p78 : lw_okq (⟨"DiskEvidence$Opening", "fieldEnd", "(I)I"⟩, 10) := ⟨⟨by decide +kernel, by decide +kernel⟩, List.mem_of_getElem? (i := 1332) (by decide +kernel), List.mem_of_getElem? (i := 1566) (by decide +kernel), List.mem_of_getElem? (i := 1567) (by decide +kernel)⟩
theorem lw_p79 : lw_okq (⟨"DiskEvidence$Opening", "addPage", "()V"⟩, 10) := ⟨⟨by decide +kernel, by decide +kernel⟩, List.mem_of_getElem? (i := 1332) (by decide +kernel), List.mem_of_getElem? (i := 1570) (by decide +kernel), List.mem_of_getElem? (i := 1571) (by decide +kernel)⟩
def lw_privs_5 : List (MethodName × Nat) := [(⟨"DiskEvidence$Opening", "highestFirst", "(I)I"⟩, 10), (⟨"DiskEvidence$Opening", "addPiece", "(II)V"⟩, 10), (⟨"DiskEvidence$Opening", "addNode", "(IIIII)I"⟩, 10), (⟨"DiskEvidence$Opening", "parsePack", "()V"⟩, 10), (⟨"DiskEvidence$Opening", "isMarked", "(III)Z"⟩, 10), (⟨"DiskEvidence$Opening", "entryEnd", "(I)I"⟩, 10), (⟨"DiskEvidence$Opening", "at16", "(I)I"⟩, 10), (⟨"DiskEvidence$Opening", "addEntry", "(I)V"⟩, 10), (⟨"DiskEvidence$Opening", "packRowEnd", "(II)I"⟩, 10), (⟨"DiskEvidence", "treeAt", "(I)LDiskEvidence$Tree;"⟩, 20), (⟨"DiskEvidence$Tree", "firstNamed", "(I[BII)I"⟩, 12), (⟨"DiskEvidence$Opening", "parsePages", "()V"⟩, 10), (⟨"DiskEvidence$Opening", "isPage", "()Z"⟩, 10), (⟨"DiskEvidence$Opening", "rowEnd", "(I)I"⟩, 10), (⟨"DiskEvidence$Opening", "fieldEnd", "(I)I"⟩, 10), (⟨"DiskEvidence$Opening", "addPage", "()V"⟩, 10)]
theorem lw_r5 : ∀ q ∈ lw_privs_5, lw_okq q := List.forall_mem_cons.mpr ⟨lw_p64, List.forall_mem_cons.mpr ⟨lw_p65, List.forall_mem_cons.mpr ⟨lw_p66, List.forall_mem_cons.mpr ⟨lw_p67, List.forall_mem_cons.mpr ⟨lw_p68, List.forall_mem_cons.mpr ⟨lw_p69, List.forall_mem_cons.mpr ⟨lw_p70, List.forall_mem_cons.mpr ⟨lw_p71, List.forall_mem_cons.mpr ⟨lw_p72, List.forall_mem_cons.mpr ⟨lw_p73, List.forall_mem_cons.mpr ⟨lw_p74, List.forall_mem_cons.mpr ⟨lw_p75, List.forall_mem_cons.mpr ⟨lw_p76, List.forall_mem_cons.mpr ⟨lw_p77, List.forall_mem_cons.mpr ⟨lw_p78, List.forall_mem_cons.mpr ⟨lw_p79, fun _ h => absurd h List.not_mem_nil⟩⟩⟩⟩⟩⟩⟩⟩⟩⟩⟩⟩⟩⟩⟩⟩
theorem lw_p80 : lw_okq (⟨"DiskEvidence$Opening", "fieldValue", "(I)I"⟩, 10) := ⟨⟨by decide +kernel, by decide +kernel⟩, List.mem_of_getElem? (i := 1332) (by decide +kernel), List.mem_of_getElem? (i := 1577) (by decide +kernel), List.mem_of_getElem? (i := 1578) (by decide +kernel)⟩
theorem lw_p81 : lw_okq (⟨"DiskEvidence", "openingAt", "(I)LDiskEvidence$Opening;"⟩, 20) := ⟨⟨by decide +kernel, by decide +kernel⟩, List.mem_of_getElem? (i := 22) (by decide +kernel), List.mem_of_getElem? (i := 1585) (by decide +kernel), List.mem_of_getElem? (i := 1586) (by decide +kernel)⟩
theorem lw_p82 : lw_okq (⟨"DiskEvidence$Finder", "search", "(LDiskEvidence$Tree;[BZ)V"⟩, 10) := ⟨⟨by decide +kernel, by decide +kernel⟩, List.mem_of_getElem? (i := 190) (by decide +kernel), List.mem_of_getElem? (i := 1622) (by decide +kernel), List.mem_of_getElem? (i := 1623) (by decide +kernel)⟩
theorem lw_p83 : lw_okq (⟨"DiskEvidence$Finder", "matchIn", "([BII)V"⟩, 10) := ⟨⟨by decide +kernel, by decide +kernel⟩, List.mem_of_getElem? (i := 190) (by decide +kernel), List.mem_of_getElem? (i := 1628) (by decide +kernel), List.mem_of_getElem? (i := 1629) (by decide +kernel)⟩
theorem lw_p84 : lw_okq (⟨"DiskEvidence$Finder", "backward", "(I)I"⟩, 10) := ⟨⟨by decide +kernel, by decide +kernel⟩, List.mem_of_getElem? (i := 190) (by decide +kernel), List.mem_of_getElem? (i := 1632) (by decide +kernel), List.mem_of_getElem? (i := 1633) (by decide +kernel)⟩
theorem lw_p85 : lw_okq (⟨"DiskEvidence$Finder", "forward", "(I)I"⟩, 10) := ⟨⟨by decide +kernel, by decide +kernel⟩, List.mem_of_getElem? (i := 190) (by decide +kernel), List.mem_of_getElem? (i := 1637) (by decide +kernel), List.mem_of_getElem? (i := 1638) (by decide +kernel)⟩
theorem lw_p86 : lw_okq (⟨"DiskEvidence$Finder", "addHit", "(III)V"⟩, 10) := ⟨⟨by decide +kernel, by decide +kernel⟩, List.mem_of_getElem? (i := 190) (by decide +kernel), List.mem_of_getElem? (i := 1641) (by decide +kernel), List.mem_of_getElem? (i := 1642) (by decide +kernel)⟩
theorem lw_p87 : lw_okq (⟨"DiskEvidence$Finder", "wordIn", "([BII)V"⟩, 10) := ⟨⟨by decide +kernel, by decide +kernel⟩, List.mem_of_getElem? (i := 190) (by decide +kernel), List.mem_of_getElem? (i := 1646) (by decide +kernel), List.mem_of_getElem? (i := 1647) (by decide +kernel)⟩
theorem lw_p88 : lw_okq (⟨"DiskEvidence$Finder", "readPattern", "()Z"⟩, 10) := ⟨⟨by decide +kernel, by decide +kernel⟩, List.mem_of_getElem? (i := 190) (by decide +kernel), List.mem_of_getElem? (i := 1659) (by decide +kernel), List.mem_of_getElem? (i := 1660) (by decide +kernel)⟩
theorem lw_p89 : lw_okq (⟨"DiskEvidence$Finder", "clearAtoms", "()V"⟩, 10) := ⟨⟨by decide +kernel, by decide +kernel⟩, List.mem_of_getElem? (i := 190) (by decide +kernel), List.mem_of_getElem? (i := 1663) (by decide +kernel), List.mem_of_getElem? (i := 1664) (by decide +kernel)⟩
theorem lw_p90 : lw_okq (⟨"DiskEvidence$Finder", "readAtom", "(I)I"⟩, 10) := ⟨⟨by decide +kernel, by decide +kernel⟩, List.mem_of_getElem? (i := 190) (by decide +kernel), List.mem_of_getElem? (i := 1667) (by decide +kernel), List.mem_of_getElem? (i := 1668) (by decide +kernel)⟩
theorem lw_p91 : lw_okq (⟨"DiskEvidence$Finder", "wrong", "(I)I"⟩, 10) := ⟨⟨by decide +kernel, by decide +kernel⟩, List.mem_of_getElem? (i := 190) (by decide +kernel), List.mem_of_getElem? (i := 1671) (by decide +kernel), List.mem_of_getElem? (i := 1672) (by decide +kernel)⟩
theorem lw_p92 : lw_okq (⟨"DiskEvidence$Finder", "readSet", "(I)I"⟩, 10) := ⟨⟨by decide +kernel, by decide +kernel⟩, List.mem_of_getElem? (i := 190) (by decide +kernel), List.mem_of_getElem? (i := 1675) (by decide +kernel), List.mem_of_getElem? (i := 1676) (by decide +kernel)⟩
theorem lw_p93 : lw_okq (⟨"DiskEvidence$Finder", "meet", "(II)V"⟩, 10) := ⟨⟨by decide +kernel, by decide +kernel⟩, List.mem_of_getElem? (i := 190) (by decide +kernel), List.mem_of_getElem? (i := 1679) (by decide +kernel), List.mem_of_getElem? (i := 1680) (by decide +kernel)⟩
theorem lw_p94 : lw_okq (⟨"DiskEvidence$Query", "readTest", "(I)Z"⟩, 11) := ⟨⟨by decide +kernel, by decide +kernel⟩, List.mem_of_getElem? (i := 230) (by decide +kernel), List.mem_of_getElem? (i := 1696) (by decide +kernel), List.mem_of_getElem? (i := 1697) (by decide +kernel)⟩
theorem lw_p95 : lw_okq (⟨"DiskEvidence$Query", "readAnd", "(I)Z"⟩, 11) := ⟨⟨by decide +kernel, by decide +kernel⟩, List.mem_of_getElem? (i := 230) (by decide +kernel), List.mem_of_getElem? (i := 1700) (by decide +kernel), List.mem_of_getElem? (i := 1701) (by decide +kernel)⟩
def lw_privs_6 : List (MethodName × Nat) := [(⟨"DiskEvidence$Opening", "fieldValue", "(I)I"⟩, 10), (⟨"DiskEvidence", "openingAt", "(I)LDiskEvidence$Opening;"⟩, 20), (⟨"DiskEvidence$Finder", "search", "(LDiskEvidence$Tree;[BZ)V"⟩, 10), (⟨"DiskEvidence$Finder", "matchIn", "([BII)V"⟩, 10), (⟨"DiskEvidence$Finder", "backward", "(I)I"⟩, 10), (⟨"DiskEvidence$Finder", "forward", "(I)I"⟩, 10), (⟨"DiskEvidence$Finder", "addHit", "(III)V"⟩, 10), (⟨"DiskEvidence$Finder", "wordIn", "([BII)V"⟩, 10), (⟨"DiskEvidence$Finder", "readPattern", "()Z"⟩, 10), (⟨"DiskEvidence$Finder", "clearAtoms", "()V"⟩, 10), (⟨"DiskEvidence$Finder", "readAtom", "(I)I"⟩, 10), (⟨"DiskEvidence$Finder", "wrong", "(I)I"⟩, 10), (⟨"DiskEvidence$Finder", "readSet", "(I)I"⟩, 10), (⟨"DiskEvidence$Finder", "meet", "(II)V"⟩, 10), (⟨"DiskEvidence$Query", "readTest", "(I)Z"⟩, 11), (⟨"DiskEvidence$Query", "readAnd", "(I)Z"⟩, 11)]
theorem lw_r6 : ∀ q ∈ lw_privs_6, lw_okq q := List.forall_mem_cons.mpr ⟨lw_p80, List.forall_mem_cons.mpr ⟨lw_p81, List.forall_mem_cons.mpr ⟨lw_p82, List.forall_mem_cons.mpr ⟨lw_p83, List.forall_mem_cons.mpr ⟨lw_p84, List.forall_mem_cons.mpr ⟨lw_p85, List.forall_mem_cons.mpr ⟨lw_p86, List.forall_mem_cons.mpr ⟨lw_p87, List.forall_mem_cons.mpr ⟨lw_p88, List.forall_mem_cons.mpr ⟨lw_p89, List.forall_mem_cons.mpr ⟨lw_p90, List.forall_mem_cons.mpr ⟨lw_p91, List.forall_mem_cons.mpr ⟨lw_p92, List.forall_mem_cons.mpr ⟨lw_p93, List.forall_mem_cons.mpr ⟨lw_p94, List.forall_mem_cons.mpr ⟨lw_p95, fun _ h => absurd h List.not_mem_nil⟩⟩⟩⟩⟩⟩⟩⟩⟩⟩⟩⟩⟩⟩⟩⟩
theorem lw_p96 : lw_okq (⟨"DiskEvidence$Query", "readOne", "(I)Z"⟩, 11) := ⟨⟨by decide +kernel, by decide +kernel⟩, List.mem_of_getElem? (i := 230) (by decide +kernel), List.mem_of_getElem? (i := 1704) (by decide +kernel), List.mem_of_getElem? (i := 1705) (by decide +kernel)⟩
theorem lw_p97 : lw_okq (⟨"DiskEvidence$Query", "skipBlanks", "()V"⟩, 11) := ⟨⟨by decide +kernel, by decide +kernel⟩, List.mem_of_getElem? (i := 230) (by decide +kernel), List.mem_of_getElem? (i := 1708) (by decide +kernel), List.mem_of_getElem? (i := 1709) (by decide +kernel)⟩
theorem lw_p98 : lw_okq (⟨"DiskEvidence$Query", "next", "()I"⟩, 11) := ⟨⟨by decide +kernel, by decide +kernel⟩, List.mem_of_getElem? (i := 230) (by decide +kernel), List.mem_of_getElem? (i := 1712) (by decide +kernel), List.mem_of_getElem? (i := 1713) (by decide +kernel)⟩
theorem lw_p99 : lw_okq (⟨"DiskEvidence$Query", "nextIs", "(I)Z"⟩, 11) := ⟨⟨by decide +kernel, by decide +kernel⟩, List.mem_of_getElem? (i := 230) (by decide +kernel), List.mem_of_getElem? (i := 1716) (by decide +kernel), List.mem_of_getElem? (i := 1717) (by decide +kernel)⟩
theorem lw_p100 : lw_okq (⟨"DiskEvidence$Query", "emit", "(I)V"⟩, 11) := ⟨⟨by decide +kernel, by decide +kernel⟩, List.mem_of_getElem? (i := 230) (by decide +kernel), List.mem_of_getElem? (i := 1720) (by decide +kernel), List.mem_of_getElem? (i := 1721) (by decide +kernel)⟩
theorem lw_p101 : lw_okq (⟨"DiskEvidence$Query", "readWord", "(I)I"⟩, 11) := ⟨⟨by decide +kernel, by decide +kernel⟩, List.mem_of_getElem? (i := 230) (by decide +kernel), List.mem_of_getElem? (i := 1724) (by decide +kernel), List.mem_of_getElem? (i := 1725) (by decide +kernel)⟩
theorem lw_p102 : lw_okq (⟨"DiskEvidence$Query", "readNameTest", "()Z"⟩, 11) := ⟨⟨by decide +kernel, by decide +kernel⟩, List.mem_of_getElem? (i := 230) (by decide +kernel), List.mem_of_getElem? (i := 1769) (by decide +kernel), List.mem_of_getElem? (i := 1770) (by decide +kernel)⟩
theorem lw_p103 : lw_okq (⟨"DiskEvidence$Query", "readFieldTest", "(I)Z"⟩, 11) := ⟨⟨by decide +kernel, by decide +kernel⟩, List.mem_of_getElem? (i := 230) (by decide +kernel), List.mem_of_getElem? (i := 1773) (by decide +kernel), List.mem_of_getElem? (i := 1774) (by decide +kernel)⟩
theorem lw_p104 : lw_okq (⟨"DiskEvidence$Query", "readLetters", "(Ljava/lang/String;)Z"⟩, 11) := ⟨⟨by decide +kernel, by decide +kernel⟩, List.mem_of_getElem? (i := 230) (by decide +kernel), List.mem_of_getElem? (i := 1778) (by decide +kernel), List.mem_of_getElem? (i := 1779) (by decide +kernel)⟩
theorem lw_p105 : lw_okq (⟨"DiskEvidence$Query", "readOrder", "()Z"⟩, 11) := ⟨⟨by decide +kernel, by decide +kernel⟩, List.mem_of_getElem? (i := 230) (by decide +kernel), List.mem_of_getElem? (i := 1790) (by decide +kernel), List.mem_of_getElem? (i := 1791) (by decide +kernel)⟩
theorem lw_p106 : lw_okq (⟨"DiskEvidence$Query", "isTrue", "(LDiskEvidence$Tree;LDiskEvidence$Item;)Z"⟩, 11) := ⟨⟨by decide +kernel, by decide +kernel⟩, List.mem_of_getElem? (i := 230) (by decide +kernel), List.mem_of_getElem? (i := 1794) (by decide +kernel), List.mem_of_getElem? (i := 1795) (by decide +kernel)⟩
theorem lw_p107 : lw_okq (⟨"DiskEvidence$Query", "codeAt", "(I)I"⟩, 11) := ⟨⟨by decide +kernel, by decide +kernel⟩, List.mem_of_getElem? (i := 230) (by decide +kernel), List.mem_of_getElem? (i := 1798) (by decide +kernel), List.mem_of_getElem? (i := 1799) (by decide +kernel)⟩
theorem lw_p108 : lw_okq (⟨"DiskEvidence$Query", "hasLetters", "(LDiskEvidence$Item;II)Z"⟩, 11) := ⟨⟨by decide +kernel, by decide +kernel⟩, List.mem_of_getElem? (i := 230) (by decide +kernel), List.mem_of_getElem? (i := 1803) (by decide +kernel), List.mem_of_getElem? (i := 1804) (by decide +kernel)⟩
theorem lw_p109 : lw_okq (⟨"DiskEvidence$Query", "compares", "(LDiskEvidence$Tree;LDiskEvidence$Item;I)Z"⟩, 11) := ⟨⟨by decide +kernel, by decide +kernel⟩, List.mem_of_getElem? (i := 230) (by decide +kernel), List.mem_of_getElem? (i := 1808) (by decide +kernel), List.mem_of_getElem? (i := 1809) (by decide +kernel)⟩
theorem lw_p110 : lw_okq (⟨"DiskEvidence$Query", "valueOf", "(LDiskEvidence$Tree;LDiskEvidence$Item;I)J"⟩, 11) := ⟨⟨by decide +kernel, by decide +kernel⟩, List.mem_of_getElem? (i := 230) (by decide +kernel), List.mem_of_getElem? (i := 1812) (by decide +kernel), List.mem_of_getElem? (i := 1813) (by decide +kernel)⟩
theorem lw_p111 : lw_okq (⟨"DiskEvidence$Item", "stamp", "(I)J"⟩, 15) := ⟨⟨by decide +kernel, by decide +kernel⟩, List.mem_of_getElem? (i := 1102) (by decide +kernel), List.mem_of_getElem? (i := 1820) (by decide +kernel), List.mem_of_getElem? (i := 1821) (by decide +kernel)⟩
def lw_privs_7 : List (MethodName × Nat) := [(⟨"DiskEvidence$Query", "readOne", "(I)Z"⟩, 11), (⟨"DiskEvidence$Query", "skipBlanks", "()V"⟩, 11), (⟨"DiskEvidence$Query", "next", "()I"⟩, 11), (⟨"DiskEvidence$Query", "nextIs", "(I)Z"⟩, 11), (⟨"DiskEvidence$Query", "emit", "(I)V"⟩, 11), (⟨"DiskEvidence$Query", "readWord", "(I)I"⟩, 11), (⟨"DiskEvidence$Query", "readNameTest", "()Z"⟩, 11), (⟨"DiskEvidence$Query", "readFieldTest", "(I)Z"⟩, 11), (⟨"DiskEvidence$Query", "readLetters", "(Ljava/lang/String;)Z"⟩, 11), (⟨"DiskEvidence$Query", "readOrder", "()Z"⟩, 11), (⟨"DiskEvidence$Query", "isTrue", "(LDiskEvidence$Tree;LDiskEvidence$Item;)Z"⟩, 11), (⟨"DiskEvidence$Query", "codeAt", "(I)I"⟩, 11), (⟨"DiskEvidence$Query", "hasLetters", "(LDiskEvidence$Item;II)Z"⟩, 11), (⟨"DiskEvidence$Query", "compares", "(LDiskEvidence$Tree;LDiskEvidence$Item;I)Z"⟩, 11), (⟨"DiskEvidence$Query", "valueOf", "(LDiskEvidence$Tree;LDiskEvidence$Item;I)J"⟩, 11), (⟨"DiskEvidence$Item", "stamp", "(I)J"⟩, 15)]
theorem lw_r7 : ∀ q ∈ lw_privs_7, lw_okq q := List.forall_mem_cons.mpr ⟨lw_p96, List.forall_mem_cons.mpr ⟨lw_p97, List.forall_mem_cons.mpr ⟨lw_p98, List.forall_mem_cons.mpr ⟨lw_p99, List.forall_mem_cons.mpr ⟨lw_p100, List.forall_mem_cons.mpr ⟨lw_p101, List.forall_mem_cons.mpr ⟨lw_p102, List.forall_mem_cons.mpr ⟨lw_p103, List.forall_mem_cons.mpr ⟨lw_p104, List.forall_mem_cons.mpr ⟨lw_p105, List.forall_mem_cons.mpr ⟨lw_p106, List.forall_mem_cons.mpr ⟨lw_p107, List.forall_mem_cons.mpr ⟨lw_p108, List.forall_mem_cons.mpr ⟨lw_p109, List.forall_mem_cons.mpr ⟨lw_p110, List.forall_mem_cons.mpr ⟨lw_p111, fun _ h => absurd h List.not_mem_nil⟩⟩⟩⟩⟩⟩⟩⟩⟩⟩⟩⟩⟩⟩⟩⟩
theorem lw_p112 : lw_okq (⟨"DiskEvidence$Query", "addRow", "(LDiskEvidence$Tree;I)V"⟩, 11) := ⟨⟨by decide +kernel, by decide +kernel⟩, List.mem_of_getElem? (i := 230) (by decide +kernel), List.mem_of_getElem? (i := 1830) (by decide +kernel), List.mem_of_getElem? (i := 1831) (by decide +kernel)⟩
theorem lw_p113 : lw_okq (⟨"DiskEvidence$TimeLine", "addMoment", "(JI)V"⟩, 5) := ⟨⟨by decide +kernel, by decide +kernel⟩, List.mem_of_getElem? (i := 274) (by decide +kernel), List.mem_of_getElem? (i := 1856) (by decide +kernel), List.mem_of_getElem? (i := 1857) (by decide +kernel)⟩
theorem lw_p114 : lw_okq (⟨"DiskEvidence$TimeLine", "addDoubt", "(III)V"⟩, 5) := ⟨⟨by decide +kernel, by decide +kernel⟩, List.mem_of_getElem? (i := 274) (by decide +kernel), List.mem_of_getElem? (i := 1887) (by decide +kernel), List.mem_of_getElem? (i := 1888) (by decide +kernel)⟩
theorem lw_p115 : lw_okq (⟨"DiskEvidence", "dueLink", "(I)J"⟩, 20) := ⟨⟨by decide +kernel, by decide +kernel⟩, List.mem_of_getElem? (i := 22) (by decide +kernel), List.mem_of_getElem? (i := 1928) (by decide +kernel), List.mem_of_getElem? (i := 1929) (by decide +kernel)⟩
theorem lw_p116 : lw_okq (⟨"DiskEvidenceModel", "begin", "(I)I"⟩, 172) := ⟨⟨by decide +kernel, by decide +kernel⟩, List.mem_of_getElem? (i := 1951) (by decide +kernel), List.mem_of_getElem? (i := 2503) (by decide +kernel), List.mem_of_getElem? (i := 2504) (by decide +kernel)⟩
theorem lw_p117 : lw_okq (⟨"DiskEvidenceModel", "unpack", "()I"⟩, 172) := ⟨⟨by decide +kernel, by decide +kernel⟩, List.mem_of_getElem? (i := 1951) (by decide +kernel), List.mem_of_getElem? (i := 2511) (by decide +kernel), List.mem_of_getElem? (i := 2512) (by decide +kernel)⟩
theorem lw_p118 : lw_okq (⟨"DiskEvidenceModel", "is", "(III)Z"⟩, 172) := ⟨⟨by decide +kernel, by decide +kernel⟩, List.mem_of_getElem? (i := 1951) (by decide +kernel), List.mem_of_getElem? (i := 2515) (by decide +kernel), List.mem_of_getElem? (i := 2516) (by decide +kernel)⟩
theorem lw_p119 : lw_okq (⟨"DiskEvidenceModel", "crcOf", "([III)I"⟩, 172) := ⟨⟨by decide +kernel, by decide +kernel⟩, List.mem_of_getElem? (i := 1951) (by decide +kernel), List.mem_of_getElem? (i := 2522) (by decide +kernel), List.mem_of_getElem? (i := 2523) (by decide +kernel)⟩
theorem lw_p120 : lw_okq (⟨"DiskEvidenceModel", "isPicture", "(I)Z"⟩, 172) := ⟨⟨by decide +kernel, by decide +kernel⟩, List.mem_of_getElem? (i := 1951) (by decide +kernel), List.mem_of_getElem? (i := 2534) (by decide +kernel), List.mem_of_getElem? (i := 2535) (by decide +kernel)⟩
theorem lw_p121 : lw_okq (⟨"DiskEvidenceModel", "isSector", "(II)Z"⟩, 172) := ⟨⟨by decide +kernel, by decide +kernel⟩, List.mem_of_getElem? (i := 1951) (by decide +kernel), List.mem_of_getElem? (i := 2542) (by decide +kernel), List.mem_of_getElem? (i := 2543) (by decide +kernel)⟩
theorem lw_p122 : lw_okq (⟨"DiskEvidenceModel", "change", "(II)V"⟩, 172) := ⟨⟨by decide +kernel, by decide +kernel⟩, List.mem_of_getElem? (i := 1951) (by decide +kernel), List.mem_of_getElem? (i := 2546) (by decide +kernel), List.mem_of_getElem? (i := 2547) (by decide +kernel)⟩
theorem lw_p123 : lw_okq (⟨"DiskEvidenceModel", "isByte", "(II)Z"⟩, 172) := ⟨⟨by decide +kernel, by decide +kernel⟩, List.mem_of_getElem? (i := 1951) (by decide +kernel), List.mem_of_getElem? (i := 2554) (by decide +kernel), List.mem_of_getElem? (i := 2555) (by decide +kernel)⟩
theorem lw_p124 : lw_okq (⟨"DiskEvidenceModel", "read", "(II)I"⟩, 172) := ⟨⟨by decide +kernel, by decide +kernel⟩, List.mem_of_getElem? (i := 1951) (by decide +kernel), List.mem_of_getElem? (i := 2558) (by decide +kernel), List.mem_of_getElem? (i := 2559) (by decide +kernel)⟩
theorem lw_p125 : lw_okq (⟨"DiskEvidenceModel", "findParts", "(I)V"⟩, 172) := ⟨⟨by decide +kernel, by decide +kernel⟩, List.mem_of_getElem? (i := 1951) (by decide +kernel), List.mem_of_getElem? (i := 2576) (by decide +kernel), List.mem_of_getElem? (i := 2577) (by decide +kernel)⟩
theorem lw_p126 : lw_okq (⟨"DiskEvidenceModel", "isTable", "(II)Z"⟩, 172) := ⟨⟨by decide +kernel, by decide +kernel⟩, List.mem_of_getElem? (i := 1951) (by decide +kernel), List.mem_of_getElem? (i := 2580) (by decide +kernel), List.mem_of_getElem? (i := 2581) (by decide +kernel)⟩
theorem lw_p127 : lw_okq (⟨"DiskEvidenceModel", "two", "(II)I"⟩, 172) := ⟨⟨by decide +kernel, by decide +kernel⟩, List.mem_of_getElem? (i := 1951) (by decide +kernel), List.mem_of_getElem? (i := 2584) (by decide +kernel), List.mem_of_getElem? (i := 2585) (by decide +kernel)⟩
def lw_privs_8 : List (MethodName × Nat) := [(⟨"DiskEvidence$Query", "addRow", "(LDiskEvidence$Tree;I)V"⟩, 11), (⟨"DiskEvidence$TimeLine", "addMoment", "(JI)V"⟩, 5), (⟨"DiskEvidence$TimeLine", "addDoubt", "(III)V"⟩, 5), (⟨"DiskEvidence", "dueLink", "(I)J"⟩, 20), (⟨"DiskEvidenceModel", "begin", "(I)I"⟩, 172), (⟨"DiskEvidenceModel", "unpack", "()I"⟩, 172), (⟨"DiskEvidenceModel", "is", "(III)Z"⟩, 172), (⟨"DiskEvidenceModel", "crcOf", "([III)I"⟩, 172), (⟨"DiskEvidenceModel", "isPicture", "(I)Z"⟩, 172), (⟨"DiskEvidenceModel", "isSector", "(II)Z"⟩, 172), (⟨"DiskEvidenceModel", "change", "(II)V"⟩, 172), (⟨"DiskEvidenceModel", "isByte", "(II)Z"⟩, 172), (⟨"DiskEvidenceModel", "read", "(II)I"⟩, 172), (⟨"DiskEvidenceModel", "findParts", "(I)V"⟩, 172), (⟨"DiskEvidenceModel", "isTable", "(II)Z"⟩, 172), (⟨"DiskEvidenceModel", "two", "(II)I"⟩, 172)]
theorem lw_r8 : ∀ q ∈ lw_privs_8, lw_okq q := List.forall_mem_cons.mpr ⟨lw_p112, List.forall_mem_cons.mpr ⟨lw_p113, List.forall_mem_cons.mpr ⟨lw_p114, List.forall_mem_cons.mpr ⟨lw_p115, List.forall_mem_cons.mpr ⟨lw_p116, List.forall_mem_cons.mpr ⟨lw_p117, List.forall_mem_cons.mpr ⟨lw_p118, List.forall_mem_cons.mpr ⟨lw_p119, List.forall_mem_cons.mpr ⟨lw_p120, List.forall_mem_cons.mpr ⟨lw_p121, List.forall_mem_cons.mpr ⟨lw_p122, List.forall_mem_cons.mpr ⟨lw_p123, List.forall_mem_cons.mpr ⟨lw_p124, List.forall_mem_cons.mpr ⟨lw_p125, List.forall_mem_cons.mpr ⟨lw_p126, List.forall_mem_cons.mpr ⟨lw_p127, fun _ h => absurd h List.not_mem_nil⟩⟩⟩⟩⟩⟩⟩⟩⟩⟩⟩⟩⟩⟩⟩⟩
theorem lw_p128 : lw_okq (⟨"DiskEvidenceModel", "isNewTable", "(II)Z"⟩, 172) := ⟨⟨by decide +kernel, by decide +kernel⟩, List.mem_of_getElem? (i := 1951) (by decide +kernel), List.mem_of_getElem? (i := 2588) (by decide +kernel), List.mem_of_getElem? (i := 2589) (by decide +kernel)⟩
theorem lw_p129 : lw_okq (⟨"DiskEvidenceModel", "areJoint", "(II)Z"⟩, 172) := ⟨⟨by decide +kernel, by decide +kernel⟩, List.mem_of_getElem? (i := 1951) (by decide +kernel), List.mem_of_getElem? (i := 2597) (by decide +kernel), List.mem_of_getElem? (i := 2598) (by decide +kernel)⟩
theorem lw_p130 : lw_okq (⟨"DiskEvidenceModel", "newVolume", "(II)I"⟩, 172) := ⟨⟨by decide +kernel, by decide +kernel⟩, List.mem_of_getElem? (i := 1951) (by decide +kernel), List.mem_of_getElem? (i := 2605) (by decide +kernel), List.mem_of_getElem? (i := 2606) (by decide +kernel)⟩
theorem lw_p131 : lw_okq (⟨"DiskEvidenceModel", "isVolume", "(I)Z"⟩, 172) := ⟨⟨by decide +kernel, by decide +kernel⟩, List.mem_of_getElem? (i := 1951) (by decide +kernel), List.mem_of_getElem? (i := 2614) (by decide +kernel), List.mem_of_getElem? (i := 2615) (by decide +kernel)⟩
theorem lw_p132 : lw_okq (⟨"DiskEvidenceModel", "refresh", "()V"⟩, 172) := ⟨⟨by decide +kernel, by decide +kernel⟩, List.mem_of_getElem? (i := 1951) (by decide +kernel), List.mem_of_getElem? (i := 2626) (by decide +kernel), List.mem_of_getElem? (i := 2627) (by decide +kernel)⟩
theorem lw_p133 : lw_okq (⟨"DiskEvidenceModel", "hasChanged", "(II)Z"⟩, 172) := ⟨⟨by decide +kernel, by decide +kernel⟩, List.mem_of_getElem? (i := 1951) (by decide +kernel), List.mem_of_getElem? (i := 2630) (by decide +kernel), List.mem_of_getElem? (i := 2631) (by decide +kernel)⟩
theorem lw_p134 : lw_okq (⟨"DiskEvidenceModel", "locate", "(II)V"⟩, 172) := ⟨⟨by decide +kernel, by decide +kernel⟩, List.mem_of_getElem? (i := 1951) (by decide +kernel), List.mem_of_getElem? (i := 2634) (by decide +kernel), List.mem_of_getElem? (i := 2635) (by decide +kernel)⟩
theorem lw_p135 : lw_okq (⟨"DiskEvidenceModel", "readBlock", "(II)V"⟩, 172) := ⟨⟨by decide +kernel, by decide +kernel⟩, List.mem_of_getElem? (i := 1951) (by decide +kernel), List.mem_of_getElem? (i := 2641) (by decide +kernel), List.mem_of_getElem? (i := 2642) (by decide +kernel)⟩
theorem lw_p136 : lw_okq (⟨"DiskEvidenceModel", "take", "(I)V"⟩, 172) := ⟨⟨by decide +kernel, by decide +kernel⟩, List.mem_of_getElem? (i := 1951) (by decide +kernel), List.mem_of_getElem? (i := 2656) (by decide +kernel), List.mem_of_getElem? (i := 2657) (by decide +kernel)⟩
theorem lw_p137 : lw_okq (⟨"DiskEvidenceModel", "layCells", "()Z"⟩, 172) := ⟨⟨by decide +kernel, by decide +kernel⟩, List.mem_of_getElem? (i := 1951) (by decide +kernel), List.mem_of_getElem? (i := 2660) (by decide +kernel), List.mem_of_getElem? (i := 2661) (by decide +kernel)⟩
theorem lw_p138 : lw_okq (⟨"DiskEvidenceModel", "layForm", "(I)V"⟩, 172) := ⟨⟨by decide +kernel, by decide +kernel⟩, List.mem_of_getElem? (i := 1951) (by decide +kernel), List.mem_of_getElem? (i := 2664) (by decide +kernel), List.mem_of_getElem? (i := 2665) (by decide +kernel)⟩
theorem lw_p139 : lw_okq (⟨"DiskEvidenceModel", "put", "(IIJ)V"⟩, 172) := ⟨⟨by decide +kernel, by decide +kernel⟩, List.mem_of_getElem? (i := 1951) (by decide +kernel), List.mem_of_getElem? (i := 2668) (by decide +kernel), List.mem_of_getElem? (i := 2669) (by decide +kernel)⟩
theorem lw_p140 : lw_okq (⟨"DiskEvidenceModel", "setCell", "(II)V"⟩, 172) := ⟨⟨by decide +kernel, by decide +kernel⟩, List.mem_of_getElem? (i := 1951) (by decide +kernel), List.mem_of_getElem? (i := 2674) (by decide +kernel), List.mem_of_getElem? (i := 2675) (by decide +kernel)⟩
theorem lw_p141 : lw_okq (⟨"DiskEvidenceModel", "setBit", "(IIZ)V"⟩, 172) := ⟨⟨by decide +kernel, by decide +kernel⟩, List.mem_of_getElem? (i := 1951) (by decide +kernel), List.mem_of_getElem? (i := 2679) (by decide +kernel), List.mem_of_getElem? (i := 2680) (by decide +kernel)⟩
theorem lw_p142 : lw_okq (⟨"DiskEvidenceModel", "give", "(IZ)V"⟩, 172) := ⟨⟨by decide +kernel, by decide +kernel⟩, List.mem_of_getElem? (i := 1951) (by decide +kernel), List.mem_of_getElem? (i := 2687) (by decide +kernel), List.mem_of_getElem? (i := 2688) (by decide +kernel)⟩
theorem lw_p143 : lw_okq (⟨"DiskEvidenceModel", "writeBlock", "(II)V"⟩, 172) := ⟨⟨by decide +kernel, by decide +kernel⟩, List.mem_of_getElem? (i := 1951) (by decide +kernel), List.mem_of_getElem? (i := 2691) (by decide +kernel), List.mem_of_getElem? (i := 2692) (by decide +kernel)⟩
def lw_privs_9 : List (MethodName × Nat) := [(⟨"DiskEvidenceModel", "isNewTable", "(II)Z"⟩, 172), (⟨"DiskEvidenceModel", "areJoint", "(II)Z"⟩, 172), (⟨"DiskEvidenceModel", "newVolume", "(II)I"⟩, 172), (⟨"DiskEvidenceModel", "isVolume", "(I)Z"⟩, 172), (⟨"DiskEvidenceModel", "refresh", "()V"⟩, 172), (⟨"DiskEvidenceModel", "hasChanged", "(II)Z"⟩, 172), (⟨"DiskEvidenceModel", "locate", "(II)V"⟩, 172), (⟨"DiskEvidenceModel", "readBlock", "(II)V"⟩, 172), (⟨"DiskEvidenceModel", "take", "(I)V"⟩, 172), (⟨"DiskEvidenceModel", "layCells", "()Z"⟩, 172), (⟨"DiskEvidenceModel", "layForm", "(I)V"⟩, 172), (⟨"DiskEvidenceModel", "put", "(IIJ)V"⟩, 172), (⟨"DiskEvidenceModel", "setCell", "(II)V"⟩, 172), (⟨"DiskEvidenceModel", "setBit", "(IIZ)V"⟩, 172), (⟨"DiskEvidenceModel", "give", "(IZ)V"⟩, 172), (⟨"DiskEvidenceModel", "writeBlock", "(II)V"⟩, 172)]
theorem lw_r9 : ∀ q ∈ lw_privs_9, lw_okq q := List.forall_mem_cons.mpr ⟨lw_p128, List.forall_mem_cons.mpr ⟨lw_p129, List.forall_mem_cons.mpr ⟨lw_p130, List.forall_mem_cons.mpr ⟨lw_p131, List.forall_mem_cons.mpr ⟨lw_p132, List.forall_mem_cons.mpr ⟨lw_p133, List.forall_mem_cons.mpr ⟨lw_p134, List.forall_mem_cons.mpr ⟨lw_p135, List.forall_mem_cons.mpr ⟨lw_p136, List.forall_mem_cons.mpr ⟨lw_p137, List.forall_mem_cons.mpr ⟨lw_p138, List.forall_mem_cons.mpr ⟨lw_p139, List.forall_mem_cons.mpr ⟨lw_p140, List.forall_mem_cons.mpr ⟨lw_p141, List.forall_mem_cons.mpr ⟨lw_p142, List.forall_mem_cons.mpr ⟨lw_p143, fun _ h => absurd h List.not_mem_nil⟩⟩⟩⟩⟩⟩⟩⟩⟩⟩⟩⟩⟩⟩⟩⟩
theorem lw_p144 : lw_okq (⟨"DiskEvidenceModel", "wait", "(II)V"⟩, 172) := ⟨⟨by decide +kernel, by decide +kernel⟩, List.mem_of_getElem? (i := 1951) (by decide +kernel), List.mem_of_getElem? (i := 2695) (by decide +kernel), List.mem_of_getElem? (i := 2696) (by decide +kernel)⟩
theorem lw_p145 : lw_okq (⟨"DiskEvidenceModel", "writeSector", "(II)V"⟩, 172) := ⟨⟨by decide +kernel, by decide +kernel⟩, List.mem_of_getElem? (i := 1951) (by decide +kernel), List.mem_of_getElem? (i := 2699) (by decide +kernel), List.mem_of_getElem? (i := 2700) (by decide +kernel)⟩
theorem lw_p146 : lw_okq (⟨"DiskEvidenceModel", "writeParity", "(II)V"⟩, 172) := ⟨⟨by decide +kernel, by decide +kernel⟩, List.mem_of_getElem? (i := 1951) (by decide +kernel), List.mem_of_getElem? (i := 2703) (by decide +kernel), List.mem_of_getElem? (i := 2704) (by decide +kernel)⟩
theorem lw_p147 : lw_okq (⟨"DiskEvidenceModel", "make", "(IZ)I"⟩, 172) := ⟨⟨by decide +kernel, by decide +kernel⟩, List.mem_of_getElem? (i := 1951) (by decide +kernel), List.mem_of_getElem? (i := 2711) (by decide +kernel), List.mem_of_getElem? (i := 2712) (by decide +kernel)⟩
theorem lw_p148 : lw_okq (⟨"DiskEvidenceModel", "findForm", "()V"⟩, 172) := ⟨⟨by decide +kernel, by decide +kernel⟩, List.mem_of_getElem? (i := 1951) (by decide +kernel), List.mem_of_getElem? (i := 2715) (by decide +kernel), List.mem_of_getElem? (i := 2716) (by decide +kernel)⟩
theorem lw_p149 : lw_okq (⟨"DiskEvidenceModel", "isCells", "()Z"⟩, 172) := ⟨⟨by decide +kernel, by decide +kernel⟩, List.mem_of_getElem? (i := 1951) (by decide +kernel), List.mem_of_getElem? (i := 2719) (by decide +kernel), List.mem_of_getElem? (i := 2720) (by decide +kernel)⟩
theorem lw_p150 : lw_okq (⟨"DiskEvidenceModel", "get", "(II)I"⟩, 172) := ⟨⟨by decide +kernel, by decide +kernel⟩, List.mem_of_getElem? (i := 1951) (by decide +kernel), List.mem_of_getElem? (i := 2723) (by decide +kernel), List.mem_of_getElem? (i := 2724) (by decide +kernel)⟩
theorem lw_p151 : lw_okq (⟨"DiskEvidenceModel", "isNodes", "()Z"⟩, 172) := ⟨⟨by decide +kernel, by decide +kernel⟩, List.mem_of_getElem? (i := 1951) (by decide +kernel), List.mem_of_getElem? (i := 2730) (by decide +kernel), List.mem_of_getElem? (i := 2731) (by decide +kernel)⟩
theorem lw_p152 : lw_okq (⟨"DiskEvidenceModel", "isHeader", "(I)Z"⟩, 172) := ⟨⟨by decide +kernel, by decide +kernel⟩, List.mem_of_getElem? (i := 1951) (by decide +kernel), List.mem_of_getElem? (i := 2734) (by decide +kernel), List.mem_of_getElem? (i := 2735) (by decide +kernel)⟩
theorem lw_p153 : lw_okq (⟨"DiskEvidenceModel", "octal", "(II)J"⟩, 172) := ⟨⟨by decide +kernel, by decide +kernel⟩, List.mem_of_getElem? (i := 1951) (by decide +kernel), List.mem_of_getElem? (i := 2738) (by decide +kernel), List.mem_of_getElem? (i := 2739) (by decide +kernel)⟩
theorem lw_p154 : lw_okq (⟨"DiskEvidenceModel", "headerSum", "(I)I"⟩, 172) := ⟨⟨by decide +kernel, by decide +kernel⟩, List.mem_of_getElem? (i := 1951) (by decide +kernel), List.mem_of_getElem? (i := 2744) (by decide +kernel), List.mem_of_getElem? (i := 2745) (by decide +kernel)⟩
theorem lw_p155 : lw_okq (⟨"DiskEvidenceModel", "isZero", "(I)Z"⟩, 172) := ⟨⟨by decide +kernel, by decide +kernel⟩, List.mem_of_getElem? (i := 1951) (by decide +kernel), List.mem_of_getElem? (i := 2750) (by decide +kernel), List.mem_of_getElem? (i := 2751) (by decide +kernel)⟩
theorem lw_p156 : lw_okq (⟨"DiskEvidenceModel", "walkTape", "()Z"⟩, 172) := ⟨⟨by decide +kernel, by decide +kernel⟩, List.mem_of_getElem? (i := 1951) (by decide +kernel), List.mem_of_getElem? (i := 2754) (by decide +kernel), List.mem_of_getElem? (i := 2755) (by decide +kernel)⟩
theorem lw_p157 : lw_okq (⟨"DiskEvidenceModel", "tapeBlocks", "(I)I"⟩, 172) := ⟨⟨by decide +kernel, by decide +kernel⟩, List.mem_of_getElem? (i := 1951) (by decide +kernel), List.mem_of_getElem? (i := 2758) (by decide +kernel), List.mem_of_getElem? (i := 2759) (by decide +kernel)⟩
theorem lw_p158 : lw_okq (⟨"DiskEvidenceModel", "readPath", "(Z)Z"⟩, 172) := ⟨⟨by decide +kernel, by decide +kernel⟩, List.mem_of_getElem? (i := 1951) (by decide +kernel), List.mem_of_getElem? (i := 2762) (by decide +kernel), List.mem_of_getElem? (i := 2763) (by decide +kernel)⟩
theorem lw_p159 : lw_okq (⟨"DiskEvidenceModel", "isGoodName", "(II)Z"⟩, 172) := ⟨⟨by decide +kernel, by decide +kernel⟩, List.mem_of_getElem? (i := 1951) (by decide +kernel), List.mem_of_getElem? (i := 2766) (by decide +kernel), List.mem_of_getElem? (i := 2767) (by decide +kernel)⟩
def lw_privs_10 : List (MethodName × Nat) := [(⟨"DiskEvidenceModel", "wait", "(II)V"⟩, 172), (⟨"DiskEvidenceModel", "writeSector", "(II)V"⟩, 172), (⟨"DiskEvidenceModel", "writeParity", "(II)V"⟩, 172), (⟨"DiskEvidenceModel", "make", "(IZ)I"⟩, 172), (⟨"DiskEvidenceModel", "findForm", "()V"⟩, 172), (⟨"DiskEvidenceModel", "isCells", "()Z"⟩, 172), (⟨"DiskEvidenceModel", "get", "(II)I"⟩, 172), (⟨"DiskEvidenceModel", "isNodes", "()Z"⟩, 172), (⟨"DiskEvidenceModel", "isHeader", "(I)Z"⟩, 172), (⟨"DiskEvidenceModel", "octal", "(II)J"⟩, 172), (⟨"DiskEvidenceModel", "headerSum", "(I)I"⟩, 172), (⟨"DiskEvidenceModel", "isZero", "(I)Z"⟩, 172), (⟨"DiskEvidenceModel", "walkTape", "()Z"⟩, 172), (⟨"DiskEvidenceModel", "tapeBlocks", "(I)I"⟩, 172), (⟨"DiskEvidenceModel", "readPath", "(Z)Z"⟩, 172), (⟨"DiskEvidenceModel", "isGoodName", "(II)Z"⟩, 172)]
theorem lw_r10 : ∀ q ∈ lw_privs_10, lw_okq q := List.forall_mem_cons.mpr ⟨lw_p144, List.forall_mem_cons.mpr ⟨lw_p145, List.forall_mem_cons.mpr ⟨lw_p146, List.forall_mem_cons.mpr ⟨lw_p147, List.forall_mem_cons.mpr ⟨lw_p148, List.forall_mem_cons.mpr ⟨lw_p149, List.forall_mem_cons.mpr ⟨lw_p150, List.forall_mem_cons.mpr ⟨lw_p151, List.forall_mem_cons.mpr ⟨lw_p152, List.forall_mem_cons.mpr ⟨lw_p153, List.forall_mem_cons.mpr ⟨lw_p154, List.forall_mem_cons.mpr ⟨lw_p155, List.forall_mem_cons.mpr ⟨lw_p156, List.forall_mem_cons.mpr ⟨lw_p157, List.forall_mem_cons.mpr ⟨lw_p158, List.forall_mem_cons.mpr ⟨lw_p159, fun _ h => absurd h List.not_mem_nil⟩⟩⟩⟩⟩⟩⟩⟩⟩⟩⟩⟩⟩⟩⟩⟩
theorem lw_p160 : lw_okq (⟨"DiskEvidenceModel", "isNameByte", "(III)Z"⟩, 172) := ⟨⟨by decide +kernel, by decide +kernel⟩, List.mem_of_getElem? (i := 1951) (by decide +kernel), List.mem_of_getElem? (i := 2770) (by decide +kernel), List.mem_of_getElem? (i := 2771) (by decide +kernel)⟩
theorem lw_p161 : lw_okq (⟨"DiskEvidenceModel", "walkPath", "()Z"⟩, 172) := ⟨⟨by decide +kernel, by decide +kernel⟩, List.mem_of_getElem? (i := 1951) (by decide +kernel), List.mem_of_getElem? (i := 2777) (by decide +kernel), List.mem_of_getElem? (i := 2778) (by decide +kernel)⟩
theorem lw_p162 : lw_okq (⟨"DiskEvidenceModel", "look", "(II)V"⟩, 172) := ⟨⟨by decide +kernel, by decide +kernel⟩, List.mem_of_getElem? (i := 1951) (by decide +kernel), List.mem_of_getElem? (i := 2781) (by decide +kernel), List.mem_of_getElem? (i := 2782) (by decide +kernel)⟩
theorem lw_p163 : lw_okq (⟨"DiskEvidenceModel", "enter", "()V"⟩, 172) := ⟨⟨by decide +kernel, by decide +kernel⟩, List.mem_of_getElem? (i := 1951) (by decide +kernel), List.mem_of_getElem? (i := 2785) (by decide +kernel), List.mem_of_getElem? (i := 2786) (by decide +kernel)⟩
theorem lw_p164 : lw_okq (⟨"DiskEvidenceModel", "follow", "(I)V"⟩, 172) := ⟨⟨by decide +kernel, by decide +kernel⟩, List.mem_of_getElem? (i := 1951) (by decide +kernel), List.mem_of_getElem? (i := 2789) (by decide +kernel), List.mem_of_getElem? (i := 2790) (by decide +kernel)⟩
theorem lw_p165 : lw_okq (⟨"DiskEvidenceModel", "isCluster", "(I)Z"⟩, 172) := ⟨⟨by decide +kernel, by decide +kernel⟩, List.mem_of_getElem? (i := 1951) (by decide +kernel), List.mem_of_getElem? (i := 2793) (by decide +kernel), List.mem_of_getElem? (i := 2794) (by decide +kernel)⟩
theorem lw_p166 : lw_okq (⟨"DiskEvidenceModel", "cell", "(I)I"⟩, 172) := ⟨⟨by decide +kernel, by decide +kernel⟩, List.mem_of_getElem? (i := 1951) (by decide +kernel), List.mem_of_getElem? (i := 2797) (by decide +kernel), List.mem_of_getElem? (i := 2798) (by decide +kernel)⟩
theorem lw_p167 : lw_okq (⟨"DiskEvidenceModel", "isLinked", "(I)Z"⟩, 172) := ⟨⟨by decide +kernel, by decide +kernel⟩, List.mem_of_getElem? (i := 1951) (by decide +kernel), List.mem_of_getElem? (i := 2802) (by decide +kernel), List.mem_of_getElem? (i := 2803) (by decide +kernel)⟩
theorem lw_p168 : lw_okq (⟨"DiskEvidenceModel", "followNode", "(I)V"⟩, 172) := ⟨⟨by decide +kernel, by decide +kernel⟩, List.mem_of_getElem? (i := 1951) (by decide +kernel), List.mem_of_getElem? (i := 2806) (by decide +kernel), List.mem_of_getElem? (i := 2807) (by decide +kernel)⟩
theorem lw_p169 : lw_okq (⟨"DiskEvidenceModel", "placesOf", "(I)I"⟩, 172) := ⟨⟨by decide +kernel, by decide +kernel⟩, List.mem_of_getElem? (i := 1951) (by decide +kernel), List.mem_of_getElem? (i := 2810) (by decide +kernel), List.mem_of_getElem? (i := 2811) (by decide +kernel)⟩
theorem lw_p170 : lw_okq (⟨"DiskEvidenceModel", "placeBlock", "(II)I"⟩, 172) := ⟨⟨by decide +kernel, by decide +kernel⟩, List.mem_of_getElem? (i := 1951) (by decide +kernel), List.mem_of_getElem? (i := 2814) (by decide +kernel), List.mem_of_getElem? (i := 2815) (by decide +kernel)⟩
theorem lw_p171 : lw_okq (⟨"DiskEvidenceModel", "isData", "(I)Z"⟩, 172) := ⟨⟨by decide +kernel, by decide +kernel⟩, List.mem_of_getElem? (i := 1951) (by decide +kernel), List.mem_of_getElem? (i := 2818) (by decide +kernel), List.mem_of_getElem? (i := 2819) (by decide +kernel)⟩
theorem lw_p172 : lw_okq (⟨"DiskEvidenceModel", "rowAt", "(I)I"⟩, 172) := ⟨⟨by decide +kernel, by decide +kernel⟩, List.mem_of_getElem? (i := 1951) (by decide +kernel), List.mem_of_getElem? (i := 2822) (by decide +kernel), List.mem_of_getElem? (i := 2823) (by decide +kernel)⟩
theorem lw_p173 : lw_okq (⟨"DiskEvidenceModel", "clusterBlock", "(I)I"⟩, 172) := ⟨⟨by decide +kernel, by decide +kernel⟩, List.mem_of_getElem? (i := 1951) (by decide +kernel), List.mem_of_getElem? (i := 2826) (by decide +kernel), List.mem_of_getElem? (i := 2827) (by decide +kernel)⟩
theorem lw_p174 : lw_okq (⟨"DiskEvidenceModel", "lives", "(I)Z"⟩, 172) := ⟨⟨by decide +kernel, by decide +kernel⟩, List.mem_of_getElem? (i := 1951) (by decide +kernel), List.mem_of_getElem? (i := 2830) (by decide +kernel), List.mem_of_getElem? (i := 2831) (by decide +kernel)⟩
theorem lw_p175 : lw_okq (⟨"DiskEvidenceModel", "isNode", "(I)Z"⟩, 172) := ⟨⟨by decide +kernel, by decide +kernel⟩, List.mem_of_getElem? (i := 1951) (by decide +kernel), List.mem_of_getElem? (i := 2834) (by decide +kernel), List.mem_of_getElem? (i := 2835) (by decide +kernel)⟩
def lw_privs_11 : List (MethodName × Nat) := [(⟨"DiskEvidenceModel", "isNameByte", "(III)Z"⟩, 172), (⟨"DiskEvidenceModel", "walkPath", "()Z"⟩, 172), (⟨"DiskEvidenceModel", "look", "(II)V"⟩, 172), (⟨"DiskEvidenceModel", "enter", "()V"⟩, 172), (⟨"DiskEvidenceModel", "follow", "(I)V"⟩, 172), (⟨"DiskEvidenceModel", "isCluster", "(I)Z"⟩, 172), (⟨"DiskEvidenceModel", "cell", "(I)I"⟩, 172), (⟨"DiskEvidenceModel", "isLinked", "(I)Z"⟩, 172), (⟨"DiskEvidenceModel", "followNode", "(I)V"⟩, 172), (⟨"DiskEvidenceModel", "placesOf", "(I)I"⟩, 172), (⟨"DiskEvidenceModel", "placeBlock", "(II)I"⟩, 172), (⟨"DiskEvidenceModel", "isData", "(I)Z"⟩, 172), (⟨"DiskEvidenceModel", "rowAt", "(I)I"⟩, 172), (⟨"DiskEvidenceModel", "clusterBlock", "(I)I"⟩, 172), (⟨"DiskEvidenceModel", "lives", "(I)Z"⟩, 172), (⟨"DiskEvidenceModel", "isNode", "(I)Z"⟩, 172)]
theorem lw_r11 : ∀ q ∈ lw_privs_11, lw_okq q := List.forall_mem_cons.mpr ⟨lw_p160, List.forall_mem_cons.mpr ⟨lw_p161, List.forall_mem_cons.mpr ⟨lw_p162, List.forall_mem_cons.mpr ⟨lw_p163, List.forall_mem_cons.mpr ⟨lw_p164, List.forall_mem_cons.mpr ⟨lw_p165, List.forall_mem_cons.mpr ⟨lw_p166, List.forall_mem_cons.mpr ⟨lw_p167, List.forall_mem_cons.mpr ⟨lw_p168, List.forall_mem_cons.mpr ⟨lw_p169, List.forall_mem_cons.mpr ⟨lw_p170, List.forall_mem_cons.mpr ⟨lw_p171, List.forall_mem_cons.mpr ⟨lw_p172, List.forall_mem_cons.mpr ⟨lw_p173, List.forall_mem_cons.mpr ⟨lw_p174, List.forall_mem_cons.mpr ⟨lw_p175, fun _ h => absurd h List.not_mem_nil⟩⟩⟩⟩⟩⟩⟩⟩⟩⟩⟩⟩⟩⟩⟩⟩
theorem lw_p176 : lw_okq (⟨"DiskEvidenceModel", "isNamed", "(III)Z"⟩, 172) := ⟨⟨by decide +kernel, by decide +kernel⟩, List.mem_of_getElem? (i := 1951) (by decide +kernel), List.mem_of_getElem? (i := 2838) (by decide +kernel), List.mem_of_getElem? (i := 2839) (by decide +kernel)⟩
theorem lw_p177 : lw_okq (⟨"DiskEvidenceModel", "rowNameSize", "(I)I"⟩, 172) := ⟨⟨by decide +kernel, by decide +kernel⟩, List.mem_of_getElem? (i := 1951) (by decide +kernel), List.mem_of_getElem? (i := 2842) (by decide +kernel), List.mem_of_getElem? (i := 2843) (by decide +kernel)⟩
theorem lw_p178 : lw_okq (⟨"DiskEvidenceModel", "unblanked", "(II)I"⟩, 172) := ⟨⟨by decide +kernel, by decide +kernel⟩, List.mem_of_getElem? (i := 1951) (by decide +kernel), List.mem_of_getElem? (i := 2846) (by decide +kernel), List.mem_of_getElem? (i := 2847) (by decide +kernel)⟩
theorem lw_p179 : lw_okq (⟨"DiskEvidenceModel", "rowName", "(II)I"⟩, 172) := ⟨⟨by decide +kernel, by decide +kernel⟩, List.mem_of_getElem? (i := 1951) (by decide +kernel), List.mem_of_getElem? (i := 2850) (by decide +kernel), List.mem_of_getElem? (i := 2851) (by decide +kernel)⟩
theorem lw_p180 : lw_okq (⟨"DiskEvidenceModel", "isFolder", "(I)Z"⟩, 172) := ⟨⟨by decide +kernel, by decide +kernel⟩, List.mem_of_getElem? (i := 1951) (by decide +kernel), List.mem_of_getElem? (i := 2854) (by decide +kernel), List.mem_of_getElem? (i := 2855) (by decide +kernel)⟩
theorem lw_p181 : lw_okq (⟨"DiskEvidenceModel", "makeCells", "(IZ)I"⟩, 172) := ⟨⟨by decide +kernel, by decide +kernel⟩, List.mem_of_getElem? (i := 1951) (by decide +kernel), List.mem_of_getElem? (i := 2858) (by decide +kernel), List.mem_of_getElem? (i := 2859) (by decide +kernel)⟩
theorem lw_p182 : lw_okq (⟨"DiskEvidenceModel", "newRow", "()I"⟩, 172) := ⟨⟨by decide +kernel, by decide +kernel⟩, List.mem_of_getElem? (i := 1951) (by decide +kernel), List.mem_of_getElem? (i := 2862) (by decide +kernel), List.mem_of_getElem? (i := 2863) (by decide +kernel)⟩
theorem lw_p183 : lw_okq (⟨"DiskEvidenceModel", "growNode", "()Z"⟩, 172) := ⟨⟨by decide +kernel, by decide +kernel⟩, List.mem_of_getElem? (i := 1951) (by decide +kernel), List.mem_of_getElem? (i := 2866) (by decide +kernel), List.mem_of_getElem? (i := 2867) (by decide +kernel)⟩
theorem lw_p184 : lw_okq (⟨"DiskEvidenceModel", "setPlace", "(II)Z"⟩, 172) := ⟨⟨by decide +kernel, by decide +kernel⟩, List.mem_of_getElem? (i := 1951) (by decide +kernel), List.mem_of_getElem? (i := 2870) (by decide +kernel), List.mem_of_getElem? (i := 2871) (by decide +kernel)⟩
theorem lw_p185 : lw_okq (⟨"DiskEvidenceModel", "freeBlock", "()I"⟩, 172) := ⟨⟨by decide +kernel, by decide +kernel⟩, List.mem_of_getElem? (i := 1951) (by decide +kernel), List.mem_of_getElem? (i := 2874) (by decide +kernel), List.mem_of_getElem? (i := 2875) (by decide +kernel)⟩
theorem lw_p186 : lw_okq (⟨"DiskEvidenceModel", "bit", "(II)Z"⟩, 172) := ⟨⟨by decide +kernel, by decide +kernel⟩, List.mem_of_getElem? (i := 1951) (by decide +kernel), List.mem_of_getElem? (i := 2878) (by decide +kernel), List.mem_of_getElem? (i := 2879) (by decide +kernel)⟩
theorem lw_p187 : lw_okq (⟨"DiskEvidenceModel", "fill", "(II)V"⟩, 172) := ⟨⟨by decide +kernel, by decide +kernel⟩, List.mem_of_getElem? (i := 1951) (by decide +kernel), List.mem_of_getElem? (i := 2882) (by decide +kernel), List.mem_of_getElem? (i := 2883) (by decide +kernel)⟩
theorem lw_p188 : lw_okq (⟨"DiskEvidenceModel", "freeCell", "()I"⟩, 172) := ⟨⟨by decide +kernel, by decide +kernel⟩, List.mem_of_getElem? (i := 1951) (by decide +kernel), List.mem_of_getElem? (i := 2886) (by decide +kernel), List.mem_of_getElem? (i := 2887) (by decide +kernel)⟩
theorem lw_p189 : lw_okq (⟨"DiskEvidenceModel", "freeChain", "(I)V"⟩, 172) := ⟨⟨by decide +kernel, by decide +kernel⟩, List.mem_of_getElem? (i := 1951) (by decide +kernel), List.mem_of_getElem? (i := 2891) (by decide +kernel), List.mem_of_getElem? (i := 2892) (by decide +kernel)⟩
theorem lw_p190 : lw_okq (⟨"DiskEvidenceModel", "writeName", "(I)V"⟩, 172) := ⟨⟨by decide +kernel, by decide +kernel⟩, List.mem_of_getElem? (i := 1951) (by decide +kernel), List.mem_of_getElem? (i := 2895) (by decide +kernel), List.mem_of_getElem? (i := 2896) (by decide +kernel)⟩
theorem lw_p191 : lw_okq (⟨"DiskEvidenceModel", "stamp", "()J"⟩, 172) := ⟨⟨by decide +kernel, by decide +kernel⟩, List.mem_of_getElem? (i := 1951) (by decide +kernel), List.mem_of_getElem? (i := 2899) (by decide +kernel), List.mem_of_getElem? (i := 2900) (by decide +kernel)⟩
def lw_privs_12 : List (MethodName × Nat) := [(⟨"DiskEvidenceModel", "isNamed", "(III)Z"⟩, 172), (⟨"DiskEvidenceModel", "rowNameSize", "(I)I"⟩, 172), (⟨"DiskEvidenceModel", "unblanked", "(II)I"⟩, 172), (⟨"DiskEvidenceModel", "rowName", "(II)I"⟩, 172), (⟨"DiskEvidenceModel", "isFolder", "(I)Z"⟩, 172), (⟨"DiskEvidenceModel", "makeCells", "(IZ)I"⟩, 172), (⟨"DiskEvidenceModel", "newRow", "()I"⟩, 172), (⟨"DiskEvidenceModel", "growNode", "()Z"⟩, 172), (⟨"DiskEvidenceModel", "setPlace", "(II)Z"⟩, 172), (⟨"DiskEvidenceModel", "freeBlock", "()I"⟩, 172), (⟨"DiskEvidenceModel", "bit", "(II)Z"⟩, 172), (⟨"DiskEvidenceModel", "fill", "(II)V"⟩, 172), (⟨"DiskEvidenceModel", "freeCell", "()I"⟩, 172), (⟨"DiskEvidenceModel", "freeChain", "(I)V"⟩, 172), (⟨"DiskEvidenceModel", "writeName", "(I)V"⟩, 172), (⟨"DiskEvidenceModel", "stamp", "()J"⟩, 172)]
theorem lw_r12 : ∀ q ∈ lw_privs_12, lw_okq q := List.forall_mem_cons.mpr ⟨lw_p176, List.forall_mem_cons.mpr ⟨lw_p177, List.forall_mem_cons.mpr ⟨lw_p178, List.forall_mem_cons.mpr ⟨lw_p179, List.forall_mem_cons.mpr ⟨lw_p180, List.forall_mem_cons.mpr ⟨lw_p181, List.forall_mem_cons.mpr ⟨lw_p182, List.forall_mem_cons.mpr ⟨lw_p183, List.forall_mem_cons.mpr ⟨lw_p184, List.forall_mem_cons.mpr ⟨lw_p185, List.forall_mem_cons.mpr ⟨lw_p186, List.forall_mem_cons.mpr ⟨lw_p187, List.forall_mem_cons.mpr ⟨lw_p188, List.forall_mem_cons.mpr ⟨lw_p189, List.forall_mem_cons.mpr ⟨lw_p190, List.forall_mem_cons.mpr ⟨lw_p191, fun _ h => absurd h List.not_mem_nil⟩⟩⟩⟩⟩⟩⟩⟩⟩⟩⟩⟩⟩⟩⟩⟩
theorem lw_p192 : lw_okq (⟨"DiskEvidenceModel", "makeNode", "(IZ)I"⟩, 172) := ⟨⟨by decide +kernel, by decide +kernel⟩, List.mem_of_getElem? (i := 1951) (by decide +kernel), List.mem_of_getElem? (i := 2904) (by decide +kernel), List.mem_of_getElem? (i := 2905) (by decide +kernel)⟩
theorem lw_p193 : lw_okq (⟨"DiskEvidenceModel", "freeNodeNumber", "()I"⟩, 172) := ⟨⟨by decide +kernel, by decide +kernel⟩, List.mem_of_getElem? (i := 1951) (by decide +kernel), List.mem_of_getElem? (i := 2908) (by decide +kernel), List.mem_of_getElem? (i := 2909) (by decide +kernel)⟩
theorem lw_p194 : lw_okq (⟨"DiskEvidenceModel", "freeNode", "(I)V"⟩, 172) := ⟨⟨by decide +kernel, by decide +kernel⟩, List.mem_of_getElem? (i := 1951) (by decide +kernel), List.mem_of_getElem? (i := 2912) (by decide +kernel), List.mem_of_getElem? (i := 2913) (by decide +kernel)⟩
theorem lw_p195 : lw_okq (⟨"DiskEvidenceModel", "makeEntry", "(IZ)I"⟩, 172) := ⟨⟨by decide +kernel, by decide +kernel⟩, List.mem_of_getElem? (i := 1951) (by decide +kernel), List.mem_of_getElem? (i := 2916) (by decide +kernel), List.mem_of_getElem? (i := 2917) (by decide +kernel)⟩
theorem lw_p196 : lw_okq (⟨"DiskEvidenceModel", "putOctal", "(IIJ)V"⟩, 172) := ⟨⟨by decide +kernel, by decide +kernel⟩, List.mem_of_getElem? (i := 1951) (by decide +kernel), List.mem_of_getElem? (i := 2920) (by decide +kernel), List.mem_of_getElem? (i := 2921) (by decide +kernel)⟩
theorem lw_p197 : lw_okq (⟨"DiskEvidenceModel", "remove", "(I)I"⟩, 172) := ⟨⟨by decide +kernel, by decide +kernel⟩, List.mem_of_getElem? (i := 1951) (by decide +kernel), List.mem_of_getElem? (i := 2933) (by decide +kernel), List.mem_of_getElem? (i := 2934) (by decide +kernel)⟩
theorem lw_p198 : lw_okq (⟨"DiskEvidenceModel", "hasRows", "(I)Z"⟩, 172) := ⟨⟨by decide +kernel, by decide +kernel⟩, List.mem_of_getElem? (i := 1951) (by decide +kernel), List.mem_of_getElem? (i := 2937) (by decide +kernel), List.mem_of_getElem? (i := 2938) (by decide +kernel)⟩
theorem lw_p199 : lw_okq (⟨"DiskEvidenceModel", "own", "(II)V"⟩, 172) := ⟨⟨by decide +kernel, by decide +kernel⟩, List.mem_of_getElem? (i := 1951) (by decide +kernel), List.mem_of_getElem? (i := 2945) (by decide +kernel), List.mem_of_getElem? (i := 2946) (by decide +kernel)⟩
theorem lw_p200 : lw_okq (⟨"DiskEvidenceModel", "mountCells", "()V"⟩, 172) := ⟨⟨by decide +kernel, by decide +kernel⟩, List.mem_of_getElem? (i := 1951) (by decide +kernel), List.mem_of_getElem? (i := 2949) (by decide +kernel), List.mem_of_getElem? (i := 2950) (by decide +kernel)⟩
theorem lw_p201 : lw_okq (⟨"DiskEvidenceModel", "addFault", "(III)V"⟩, 172) := ⟨⟨by decide +kernel, by decide +kernel⟩, List.mem_of_getElem? (i := 1951) (by decide +kernel), List.mem_of_getElem? (i := 2953) (by decide +kernel), List.mem_of_getElem? (i := 2954) (by decide +kernel)⟩
theorem lw_p202 : lw_okq (⟨"DiskEvidenceModel", "push", "(II)V"⟩, 172) := ⟨⟨by decide +kernel, by decide +kernel⟩, List.mem_of_getElem? (i := 1951) (by decide +kernel), List.mem_of_getElem? (i := 2957) (by decide +kernel), List.mem_of_getElem? (i := 2958) (by decide +kernel)⟩
theorem lw_p203 : lw_okq (⟨"DiskEvidenceModel", "cellsRow", "(II)I"⟩, 172) := ⟨⟨by decide +kernel, by decide +kernel⟩, List.mem_of_getElem? (i := 1951) (by decide +kernel), List.mem_of_getElem? (i := 2961) (by decide +kernel), List.mem_of_getElem? (i := 2962) (by decide +kernel)⟩
theorem lw_p204 : lw_okq (⟨"DiskEvidenceModel", "addCells", "(II)V"⟩, 172) := ⟨⟨by decide +kernel, by decide +kernel⟩, List.mem_of_getElem? (i := 1951) (by decide +kernel), List.mem_of_getElem? (i := 2965) (by decide +kernel), List.mem_of_getElem? (i := 2966) (by decide +kernel)⟩
theorem lw_p205 : lw_okq (⟨"DiskEvidenceModel", "newFile", "(IIII)I"⟩, 172) := ⟨⟨by decide +kernel, by decide +kernel⟩, List.mem_of_getElem? (i := 1951) (by decide +kernel), List.mem_of_getElem? (i := 2969) (by decide +kernel), List.mem_of_getElem? (i := 2970) (by decide +kernel)⟩
theorem lw_p206 : lw_okq (⟨"DiskEvidenceModel", "filesOf", "(I)I"⟩, 172) := ⟨⟨by decide +kernel, by decide +kernel⟩, List.mem_of_getElem? (i := 1951) (by decide +kernel), List.mem_of_getElem? (i := 2973) (by decide +kernel), List.mem_of_getElem? (i := 2974) (by decide +kernel)⟩
theorem lw_p207 : lw_okq (⟨"DiskEvidenceModel", "nameCells", "(I)V"⟩, 172) := ⟨⟨by decide +kernel, by decide +kernel⟩, List.mem_of_getElem? (i := 1951) (by decide +kernel), List.mem_of_getElem? (i := 2977) (by decide +kernel), List.mem_of_getElem? (i := 2978) (by decide +kernel)⟩
def lw_privs_13 : List (MethodName × Nat) := [(⟨"DiskEvidenceModel", "makeNode", "(IZ)I"⟩, 172), (⟨"DiskEvidenceModel", "freeNodeNumber", "()I"⟩, 172), (⟨"DiskEvidenceModel", "freeNode", "(I)V"⟩, 172), (⟨"DiskEvidenceModel", "makeEntry", "(IZ)I"⟩, 172), (⟨"DiskEvidenceModel", "putOctal", "(IIJ)V"⟩, 172), (⟨"DiskEvidenceModel", "remove", "(I)I"⟩, 172), (⟨"DiskEvidenceModel", "hasRows", "(I)Z"⟩, 172), (⟨"DiskEvidenceModel", "own", "(II)V"⟩, 172), (⟨"DiskEvidenceModel", "mountCells", "()V"⟩, 172), (⟨"DiskEvidenceModel", "addFault", "(III)V"⟩, 172), (⟨"DiskEvidenceModel", "push", "(II)V"⟩, 172), (⟨"DiskEvidenceModel", "cellsRow", "(II)I"⟩, 172), (⟨"DiskEvidenceModel", "addCells", "(II)V"⟩, 172), (⟨"DiskEvidenceModel", "newFile", "(IIII)I"⟩, 172), (⟨"DiskEvidenceModel", "filesOf", "(I)I"⟩, 172), (⟨"DiskEvidenceModel", "nameCells", "(I)V"⟩, 172)]
theorem lw_r13 : ∀ q ∈ lw_privs_13, lw_okq q := List.forall_mem_cons.mpr ⟨lw_p192, List.forall_mem_cons.mpr ⟨lw_p193, List.forall_mem_cons.mpr ⟨lw_p194, List.forall_mem_cons.mpr ⟨lw_p195, List.forall_mem_cons.mpr ⟨lw_p196, List.forall_mem_cons.mpr ⟨lw_p197, List.forall_mem_cons.mpr ⟨lw_p198, List.forall_mem_cons.mpr ⟨lw_p199, List.forall_mem_cons.mpr ⟨lw_p200, List.forall_mem_cons.mpr ⟨lw_p201, List.forall_mem_cons.mpr ⟨lw_p202, List.forall_mem_cons.mpr ⟨lw_p203, List.forall_mem_cons.mpr ⟨lw_p204, List.forall_mem_cons.mpr ⟨lw_p205, List.forall_mem_cons.mpr ⟨lw_p206, List.forall_mem_cons.mpr ⟨lw_p207, fun _ h => absurd h List.not_mem_nil⟩⟩⟩⟩⟩⟩⟩⟩⟩⟩⟩⟩⟩⟩⟩⟩
theorem lw_p208 : lw_okq (⟨"DiskEvidenceModel", "addName", "(I)V"⟩, 172) := ⟨⟨by decide +kernel, by decide +kernel⟩, List.mem_of_getElem? (i := 1951) (by decide +kernel), List.mem_of_getElem? (i := 2981) (by decide +kernel), List.mem_of_getElem? (i := 2982) (by decide +kernel)⟩
theorem lw_p209 : lw_okq (⟨"DiskEvidenceModel", "wide", "(I)J"⟩, 172) := ⟨⟨by decide +kernel, by decide +kernel⟩, List.mem_of_getElem? (i := 1951) (by decide +kernel), List.mem_of_getElem? (i := 2985) (by decide +kernel), List.mem_of_getElem? (i := 2986) (by decide +kernel)⟩
theorem lw_p210 : lw_okq (⟨"DiskEvidenceModel", "isChainOn", "(II)Z"⟩, 172) := ⟨⟨by decide +kernel, by decide +kernel⟩, List.mem_of_getElem? (i := 1951) (by decide +kernel), List.mem_of_getElem? (i := 2989) (by decide +kernel), List.mem_of_getElem? (i := 2990) (by decide +kernel)⟩
theorem lw_p211 : lw_okq (⟨"DiskEvidenceModel", "owner", "(I)I"⟩, 172) := ⟨⟨by decide +kernel, by decide +kernel⟩, List.mem_of_getElem? (i := 1951) (by decide +kernel), List.mem_of_getElem? (i := 2993) (by decide +kernel), List.mem_of_getElem? (i := 2994) (by decide +kernel)⟩
theorem lw_p212 : lw_okq (⟨"DiskEvidenceModel", "addBlock", "(I)V"⟩, 172) := ⟨⟨by decide +kernel, by decide +kernel⟩, List.mem_of_getElem? (i := 1951) (by decide +kernel), List.mem_of_getElem? (i := 2997) (by decide +kernel), List.mem_of_getElem? (i := 2998) (by decide +kernel)⟩
theorem lw_p213 : lw_okq (⟨"DiskEvidenceModel", "loseCells", "(I)V"⟩, 172) := ⟨⟨by decide +kernel, by decide +kernel⟩, List.mem_of_getElem? (i := 1951) (by decide +kernel), List.mem_of_getElem? (i := 3001) (by decide +kernel), List.mem_of_getElem? (i := 3002) (by decide +kernel)⟩
theorem lw_p214 : lw_okq (⟨"DiskEvidenceModel", "mountNodes", "()V"⟩, 172) := ⟨⟨by decide +kernel, by decide +kernel⟩, List.mem_of_getElem? (i := 1951) (by decide +kernel), List.mem_of_getElem? (i := 3005) (by decide +kernel), List.mem_of_getElem? (i := 3006) (by decide +kernel)⟩
theorem lw_p215 : lw_okq (⟨"DiskEvidenceModel", "addNode", "(III)V"⟩, 172) := ⟨⟨by decide +kernel, by decide +kernel⟩, List.mem_of_getElem? (i := 1951) (by decide +kernel), List.mem_of_getElem? (i := 3009) (by decide +kernel), List.mem_of_getElem? (i := 3010) (by decide +kernel)⟩
theorem lw_p216 : lw_okq (⟨"DiskEvidenceModel", "times", "(I)V"⟩, 172) := ⟨⟨by decide +kernel, by decide +kernel⟩, List.mem_of_getElem? (i := 1951) (by decide +kernel), List.mem_of_getElem? (i := 3013) (by decide +kernel), List.mem_of_getElem? (i := 3014) (by decide +kernel)⟩
theorem lw_p217 : lw_okq (⟨"DiskEvidenceModel", "use", "(II)V"⟩, 172) := ⟨⟨by decide +kernel, by decide +kernel⟩, List.mem_of_getElem? (i := 1951) (by decide +kernel), List.mem_of_getElem? (i := 3018) (by decide +kernel), List.mem_of_getElem? (i := 3019) (by decide +kernel)⟩
theorem lw_p218 : lw_okq (⟨"DiskEvidenceModel", "compareMap", "()V"⟩, 172) := ⟨⟨by decide +kernel, by decide +kernel⟩, List.mem_of_getElem? (i := 1951) (by decide +kernel), List.mem_of_getElem? (i := 3022) (by decide +kernel), List.mem_of_getElem? (i := 3023) (by decide +kernel)⟩
theorem lw_p219 : lw_okq (⟨"DiskEvidenceModel", "loseNodes", "()V"⟩, 172) := ⟨⟨by decide +kernel, by decide +kernel⟩, List.mem_of_getElem? (i := 1951) (by decide +kernel), List.mem_of_getElem? (i := 3026) (by decide +kernel), List.mem_of_getElem? (i := 3027) (by decide +kernel)⟩
theorem lw_p220 : lw_okq (⟨"DiskEvidenceModel", "isErased", "(I)Z"⟩, 172) := ⟨⟨by decide +kernel, by decide +kernel⟩, List.mem_of_getElem? (i := 1951) (by decide +kernel), List.mem_of_getElem? (i := 3030) (by decide +kernel), List.mem_of_getElem? (i := 3031) (by decide +kernel)⟩
theorem lw_p221 : lw_okq (⟨"DiskEvidenceModel", "addNumber", "(II)V"⟩, 172) := ⟨⟨by decide +kernel, by decide +kernel⟩, List.mem_of_getElem? (i := 1951) (by decide +kernel), List.mem_of_getElem? (i := 3034) (by decide +kernel), List.mem_of_getElem? (i := 3035) (by decide +kernel)⟩
theorem lw_p222 : lw_okq (⟨"DiskEvidenceModel", "isLast", "(II)Z"⟩, 172) := ⟨⟨by decide +kernel, by decide +kernel⟩, List.mem_of_getElem? (i := 1951) (by decide +kernel), List.mem_of_getElem? (i := 3038) (by decide +kernel), List.mem_of_getElem? (i := 3039) (by decide +kernel)⟩
theorem lw_p223 : lw_okq (⟨"DiskEvidenceModel", "mountTape", "()V"⟩, 172) := ⟨⟨by decide +kernel, by decide +kernel⟩, List.mem_of_getElem? (i := 1951) (by decide +kernel), List.mem_of_getElem? (i := 3042) (by decide +kernel), List.mem_of_getElem? (i := 3043) (by decide +kernel)⟩
def lw_privs_14 : List (MethodName × Nat) := [(⟨"DiskEvidenceModel", "addName", "(I)V"⟩, 172), (⟨"DiskEvidenceModel", "wide", "(I)J"⟩, 172), (⟨"DiskEvidenceModel", "isChainOn", "(II)Z"⟩, 172), (⟨"DiskEvidenceModel", "owner", "(I)I"⟩, 172), (⟨"DiskEvidenceModel", "addBlock", "(I)V"⟩, 172), (⟨"DiskEvidenceModel", "loseCells", "(I)V"⟩, 172), (⟨"DiskEvidenceModel", "mountNodes", "()V"⟩, 172), (⟨"DiskEvidenceModel", "addNode", "(III)V"⟩, 172), (⟨"DiskEvidenceModel", "times", "(I)V"⟩, 172), (⟨"DiskEvidenceModel", "use", "(II)V"⟩, 172), (⟨"DiskEvidenceModel", "compareMap", "()V"⟩, 172), (⟨"DiskEvidenceModel", "loseNodes", "()V"⟩, 172), (⟨"DiskEvidenceModel", "isErased", "(I)Z"⟩, 172), (⟨"DiskEvidenceModel", "addNumber", "(II)V"⟩, 172), (⟨"DiskEvidenceModel", "isLast", "(II)Z"⟩, 172), (⟨"DiskEvidenceModel", "mountTape", "()V"⟩, 172)]
theorem lw_r14 : ∀ q ∈ lw_privs_14, lw_okq q := List.forall_mem_cons.mpr ⟨lw_p208, List.forall_mem_cons.mpr ⟨lw_p209, List.forall_mem_cons.mpr ⟨lw_p210, List.forall_mem_cons.mpr ⟨lw_p211, List.forall_mem_cons.mpr ⟨lw_p212, List.forall_mem_cons.mpr ⟨lw_p213, List.forall_mem_cons.mpr ⟨lw_p214, List.forall_mem_cons.mpr ⟨lw_p215, List.forall_mem_cons.mpr ⟨lw_p216, List.forall_mem_cons.mpr ⟨lw_p217, List.forall_mem_cons.mpr ⟨lw_p218, List.forall_mem_cons.mpr ⟨lw_p219, List.forall_mem_cons.mpr ⟨lw_p220, List.forall_mem_cons.mpr ⟨lw_p221, List.forall_mem_cons.mpr ⟨lw_p222, List.forall_mem_cons.mpr ⟨lw_p223, fun _ h => absurd h List.not_mem_nil⟩⟩⟩⟩⟩⟩⟩⟩⟩⟩⟩⟩⟩⟩⟩⟩
theorem lw_p224 : lw_okq (⟨"DiskEvidenceModel", "comesAgain", "(I)Z"⟩, 172) := ⟨⟨by decide +kernel, by decide +kernel⟩, List.mem_of_getElem? (i := 1951) (by decide +kernel), List.mem_of_getElem? (i := 3046) (by decide +kernel), List.mem_of_getElem? (i := 3047) (by decide +kernel)⟩
theorem lw_p225 : lw_okq (⟨"DiskEvidenceModel", "addEntry", "(II)V"⟩, 172) := ⟨⟨by decide +kernel, by decide +kernel⟩, List.mem_of_getElem? (i := 1951) (by decide +kernel), List.mem_of_getElem? (i := 3050) (by decide +kernel), List.mem_of_getElem? (i := 3051) (by decide +kernel)⟩
theorem lw_p226 : lw_okq (⟨"DiskEvidenceModel", "cutOut", "()V"⟩, 172) := ⟨⟨by decide +kernel, by decide +kernel⟩, List.mem_of_getElem? (i := 1951) (by decide +kernel), List.mem_of_getElem? (i := 3054) (by decide +kernel), List.mem_of_getElem? (i := 3055) (by decide +kernel)⟩
theorem lw_p227 : lw_okq (⟨"DiskEvidenceModel", "wholeAt", "(II)I"⟩, 172) := ⟨⟨by decide +kernel, by decide +kernel⟩, List.mem_of_getElem? (i := 1951) (by decide +kernel), List.mem_of_getElem? (i := 3058) (by decide +kernel), List.mem_of_getElem? (i := 3059) (by decide +kernel)⟩
theorem lw_p228 : lw_okq (⟨"DiskEvidenceModel", "readChunks", "()I"⟩, 172) := ⟨⟨by decide +kernel, by decide +kernel⟩, List.mem_of_getElem? (i := 1951) (by decide +kernel), List.mem_of_getElem? (i := 3062) (by decide +kernel), List.mem_of_getElem? (i := 3063) (by decide +kernel)⟩
theorem lw_p229 : lw_okq (⟨"DiskEvidenceModel", "isPiece", "(I)Z"⟩, 172) := ⟨⟨by decide +kernel, by decide +kernel⟩, List.mem_of_getElem? (i := 1951) (by decide +kernel), List.mem_of_getElem? (i := 3066) (by decide +kernel), List.mem_of_getElem? (i := 3067) (by decide +kernel)⟩
theorem lw_p230 : lw_okq (⟨"DiskEvidenceModel", "isLetter", "(I)Z"⟩, 172) := ⟨⟨by decide +kernel, by decide +kernel⟩, List.mem_of_getElem? (i := 1951) (by decide +kernel), List.mem_of_getElem? (i := 3070) (by decide +kernel), List.mem_of_getElem? (i := 3071) (by decide +kernel)⟩
theorem lw_p231 : lw_okq (⟨"DiskEvidenceModel", "high", "(II)I"⟩, 172) := ⟨⟨by decide +kernel, by decide +kernel⟩, List.mem_of_getElem? (i := 1951) (by decide +kernel), List.mem_of_getElem? (i := 3076) (by decide +kernel), List.mem_of_getElem? (i := 3077) (by decide +kernel)⟩
theorem lw_p232 : lw_okq (⟨"DiskEvidenceModel", "point", "(IIIII)I"⟩, 172) := ⟨⟨by decide +kernel, by decide +kernel⟩, List.mem_of_getElem? (i := 1951) (by decide +kernel), List.mem_of_getElem? (i := 3080) (by decide +kernel), List.mem_of_getElem? (i := 3081) (by decide +kernel)⟩
theorem lw_p233 : lw_okq (⟨"DiskEvidenceModel", "readPack", "()I"⟩, 172) := ⟨⟨by decide +kernel, by decide +kernel⟩, List.mem_of_getElem? (i := 1951) (by decide +kernel), List.mem_of_getElem? (i := 3086) (by decide +kernel), List.mem_of_getElem? (i := 3087) (by decide +kernel)⟩
theorem lw_p234 : lw_okq (⟨"DiskEvidenceModel", "isMark", "(III)Z"⟩, 172) := ⟨⟨by decide +kernel, by decide +kernel⟩, List.mem_of_getElem? (i := 1951) (by decide +kernel), List.mem_of_getElem? (i := 3090) (by decide +kernel), List.mem_of_getElem? (i := 3091) (by decide +kernel)⟩
theorem lw_p235 : lw_okq (⟨"DiskEvidenceModel", "entrySize", "(I)I"⟩, 172) := ⟨⟨by decide +kernel, by decide +kernel⟩, List.mem_of_getElem? (i := 1951) (by decide +kernel), List.mem_of_getElem? (i := 3094) (by decide +kernel), List.mem_of_getElem? (i := 3095) (by decide +kernel)⟩
theorem lw_p236 : lw_okq (⟨"DiskEvidenceModel", "low", "(II)I"⟩, 172) := ⟨⟨by decide +kernel, by decide +kernel⟩, List.mem_of_getElem? (i := 1951) (by decide +kernel), List.mem_of_getElem? (i := 3098) (by decide +kernel), List.mem_of_getElem? (i := 3099) (by decide +kernel)⟩
theorem lw_p237 : lw_okq (⟨"DiskEvidenceModel", "rowSize", "(II)I"⟩, 172) := ⟨⟨by decide +kernel, by decide +kernel⟩, List.mem_of_getElem? (i := 1951) (by decide +kernel), List.mem_of_getElem? (i := 3102) (by decide +kernel), List.mem_of_getElem? (i := 3103) (by decide +kernel)⟩
theorem lw_p238 : lw_okq (⟨"DiskEvidenceModel", "isFile", "(II)Z"⟩, 172) := ⟨⟨by decide +kernel, by decide +kernel⟩, List.mem_of_getElem? (i := 1951) (by decide +kernel), List.mem_of_getElem? (i := 3110) (by decide +kernel), List.mem_of_getElem? (i := 3111) (by decide +kernel)⟩
theorem lw_p239 : lw_okq (⟨"DiskEvidenceModel", "isTree", "(I)Z"⟩, 172) := ⟨⟨by decide +kernel, by decide +kernel⟩, List.mem_of_getElem? (i := 1951) (by decide +kernel), List.mem_of_getElem? (i := 3114) (by decide +kernel), List.mem_of_getElem? (i := 3115) (by decide +kernel)⟩
def lw_privs_15 : List (MethodName × Nat) := [(⟨"DiskEvidenceModel", "comesAgain", "(I)Z"⟩, 172), (⟨"DiskEvidenceModel", "addEntry", "(II)V"⟩, 172), (⟨"DiskEvidenceModel", "cutOut", "()V"⟩, 172), (⟨"DiskEvidenceModel", "wholeAt", "(II)I"⟩, 172), (⟨"DiskEvidenceModel", "readChunks", "()I"⟩, 172), (⟨"DiskEvidenceModel", "isPiece", "(I)Z"⟩, 172), (⟨"DiskEvidenceModel", "isLetter", "(I)Z"⟩, 172), (⟨"DiskEvidenceModel", "high", "(II)I"⟩, 172), (⟨"DiskEvidenceModel", "point", "(IIIII)I"⟩, 172), (⟨"DiskEvidenceModel", "readPack", "()I"⟩, 172), (⟨"DiskEvidenceModel", "isMark", "(III)Z"⟩, 172), (⟨"DiskEvidenceModel", "entrySize", "(I)I"⟩, 172), (⟨"DiskEvidenceModel", "low", "(II)I"⟩, 172), (⟨"DiskEvidenceModel", "rowSize", "(II)I"⟩, 172), (⟨"DiskEvidenceModel", "isFile", "(II)Z"⟩, 172), (⟨"DiskEvidenceModel", "isTree", "(I)Z"⟩, 172)]
theorem lw_r15 : ∀ q ∈ lw_privs_15, lw_okq q := List.forall_mem_cons.mpr ⟨lw_p224, List.forall_mem_cons.mpr ⟨lw_p225, List.forall_mem_cons.mpr ⟨lw_p226, List.forall_mem_cons.mpr ⟨lw_p227, List.forall_mem_cons.mpr ⟨lw_p228, List.forall_mem_cons.mpr ⟨lw_p229, List.forall_mem_cons.mpr ⟨lw_p230, List.forall_mem_cons.mpr ⟨lw_p231, List.forall_mem_cons.mpr ⟨lw_p232, List.forall_mem_cons.mpr ⟨lw_p233, List.forall_mem_cons.mpr ⟨lw_p234, List.forall_mem_cons.mpr ⟨lw_p235, List.forall_mem_cons.mpr ⟨lw_p236, List.forall_mem_cons.mpr ⟨lw_p237, List.forall_mem_cons.mpr ⟨lw_p238, List.forall_mem_cons.mpr ⟨lw_p239, fun _ h => absurd h List.not_mem_nil⟩⟩⟩⟩⟩⟩⟩⟩⟩⟩⟩⟩⟩⟩⟩⟩
theorem lw_p240 : lw_okq (⟨"DiskEvidenceModel", "inBlocks", "(III)I"⟩, 172) := ⟨⟨by decide +kernel, by decide +kernel⟩, List.mem_of_getElem? (i := 1951) (by decide +kernel), List.mem_of_getElem? (i := 3122) (by decide +kernel), List.mem_of_getElem? (i := 3123) (by decide +kernel)⟩
theorem lw_p241 : lw_okq (⟨"DiskEvidenceModel", "readRows", "()V"⟩, 172) := ⟨⟨by decide +kernel, by decide +kernel⟩, List.mem_of_getElem? (i := 1951) (by decide +kernel), List.mem_of_getElem? (i := 3126) (by decide +kernel), List.mem_of_getElem? (i := 3127) (by decide +kernel)⟩
theorem lw_p242 : lw_okq (⟨"DiskEvidenceModel", "isPage", "(I)Z"⟩, 172) := ⟨⟨by decide +kernel, by decide +kernel⟩, List.mem_of_getElem? (i := 1951) (by decide +kernel), List.mem_of_getElem? (i := 3130) (by decide +kernel), List.mem_of_getElem? (i := 3131) (by decide +kernel)⟩
theorem lw_p243 : lw_okq (⟨"DiskEvidenceModel", "rowEnd", "(II)I"⟩, 172) := ⟨⟨by decide +kernel, by decide +kernel⟩, List.mem_of_getElem? (i := 1951) (by decide +kernel), List.mem_of_getElem? (i := 3134) (by decide +kernel), List.mem_of_getElem? (i := 3135) (by decide +kernel)⟩
theorem lw_p244 : lw_okq (⟨"DiskEvidenceModel", "fieldEnd", "(II)I"⟩, 172) := ⟨⟨by decide +kernel, by decide +kernel⟩, List.mem_of_getElem? (i := 1951) (by decide +kernel), List.mem_of_getElem? (i := 3138) (by decide +kernel), List.mem_of_getElem? (i := 3139) (by decide +kernel)⟩
theorem lw_p245 : lw_okq (⟨"DiskEvidenceModel", "addPage", "(I)V"⟩, 172) := ⟨⟨by decide +kernel, by decide +kernel⟩, List.mem_of_getElem? (i := 1951) (by decide +kernel), List.mem_of_getElem? (i := 3142) (by decide +kernel), List.mem_of_getElem? (i := 3143) (by decide +kernel)⟩
theorem lw_p246 : lw_okq (⟨"DiskEvidenceModel", "addFields", "(III)V"⟩, 172) := ⟨⟨by decide +kernel, by decide +kernel⟩, List.mem_of_getElem? (i := 1951) (by decide +kernel), List.mem_of_getElem? (i := 3146) (by decide +kernel), List.mem_of_getElem? (i := 3147) (by decide +kernel)⟩
theorem lw_p247 : lw_okq (⟨"DiskEvidenceModel", "addLeftover", "(III)V"⟩, 172) := ⟨⟨by decide +kernel, by decide +kernel⟩, List.mem_of_getElem? (i := 1951) (by decide +kernel), List.mem_of_getElem? (i := 3150) (by decide +kernel), List.mem_of_getElem? (i := 3151) (by decide +kernel)⟩
theorem lw_p248 : lw_okq (⟨"DiskEvidenceModel", "isPoint", "(II)Z"⟩, 172) := ⟨⟨by decide +kernel, by decide +kernel⟩, List.mem_of_getElem? (i := 1951) (by decide +kernel), List.mem_of_getElem? (i := 3158) (by decide +kernel), List.mem_of_getElem? (i := 3159) (by decide +kernel)⟩
theorem lw_p249 : lw_okq (⟨"DiskEvidenceModel", "isOpen", "(I)Z"⟩, 172) := ⟨⟨by decide +kernel, by decide +kernel⟩, List.mem_of_getElem? (i := 1951) (by decide +kernel), List.mem_of_getElem? (i := 3162) (by decide +kernel), List.mem_of_getElem? (i := 3163) (by decide +kernel)⟩
theorem lw_p250 : lw_okq (⟨"DiskEvidenceModel", "leftOver", "(I)I"⟩, 172) := ⟨⟨by decide +kernel, by decide +kernel⟩, List.mem_of_getElem? (i := 1951) (by decide +kernel), List.mem_of_getElem? (i := 3170) (by decide +kernel), List.mem_of_getElem? (i := 3171) (by decide +kernel)⟩
theorem lw_p251 : lw_okq (⟨"DiskEvidenceModel", "run", "(III)I"⟩, 172) := ⟨⟨by decide +kernel, by decide +kernel⟩, List.mem_of_getElem? (i := 1951) (by decide +kernel), List.mem_of_getElem? (i := 3182) (by decide +kernel), List.mem_of_getElem? (i := 3183) (by decide +kernel)⟩
theorem lw_p252 : lw_okq (⟨"DiskEvidenceModel", "isCalled", "(III)Z"⟩, 172) := ⟨⟨by decide +kernel, by decide +kernel⟩, List.mem_of_getElem? (i := 1951) (by decide +kernel), List.mem_of_getElem? (i := 3202) (by decide +kernel), List.mem_of_getElem? (i := 3203) (by decide +kernel)⟩
theorem lw_p253 : lw_okq (⟨"DiskEvidenceModel", "isSearched", "(II)Z"⟩, 172) := ⟨⟨by decide +kernel, by decide +kernel⟩, List.mem_of_getElem? (i := 1951) (by decide +kernel), List.mem_of_getElem? (i := 3227) (by decide +kernel), List.mem_of_getElem? (i := 3228) (by decide +kernel)⟩
theorem lw_p254 : lw_okq (⟨"DiskEvidenceModel", "lay", "(II)V"⟩, 172) := ⟨⟨by decide +kernel, by decide +kernel⟩, List.mem_of_getElem? (i := 1951) (by decide +kernel), List.mem_of_getElem? (i := 3231) (by decide +kernel), List.mem_of_getElem? (i := 3232) (by decide +kernel)⟩
theorem lw_p255 : lw_okq (⟨"DiskEvidenceModel", "addHit", "(III)V"⟩, 172) := ⟨⟨by decide +kernel, by decide +kernel⟩, List.mem_of_getElem? (i := 1951) (by decide +kernel), List.mem_of_getElem? (i := 3235) (by decide +kernel), List.mem_of_getElem? (i := 3236) (by decide +kernel)⟩
def lw_privs_16 : List (MethodName × Nat) := [(⟨"DiskEvidenceModel", "inBlocks", "(III)I"⟩, 172), (⟨"DiskEvidenceModel", "readRows", "()V"⟩, 172), (⟨"DiskEvidenceModel", "isPage", "(I)Z"⟩, 172), (⟨"DiskEvidenceModel", "rowEnd", "(II)I"⟩, 172), (⟨"DiskEvidenceModel", "fieldEnd", "(II)I"⟩, 172), (⟨"DiskEvidenceModel", "addPage", "(I)V"⟩, 172), (⟨"DiskEvidenceModel", "addFields", "(III)V"⟩, 172), (⟨"DiskEvidenceModel", "addLeftover", "(III)V"⟩, 172), (⟨"DiskEvidenceModel", "isPoint", "(II)Z"⟩, 172), (⟨"DiskEvidenceModel", "isOpen", "(I)Z"⟩, 172), (⟨"DiskEvidenceModel", "leftOver", "(I)I"⟩, 172), (⟨"DiskEvidenceModel", "run", "(III)I"⟩, 172), (⟨"DiskEvidenceModel", "isCalled", "(III)Z"⟩, 172), (⟨"DiskEvidenceModel", "isSearched", "(II)Z"⟩, 172), (⟨"DiskEvidenceModel", "lay", "(II)V"⟩, 172), (⟨"DiskEvidenceModel", "addHit", "(III)V"⟩, 172)]
theorem lw_r16 : ∀ q ∈ lw_privs_16, lw_okq q := List.forall_mem_cons.mpr ⟨lw_p240, List.forall_mem_cons.mpr ⟨lw_p241, List.forall_mem_cons.mpr ⟨lw_p242, List.forall_mem_cons.mpr ⟨lw_p243, List.forall_mem_cons.mpr ⟨lw_p244, List.forall_mem_cons.mpr ⟨lw_p245, List.forall_mem_cons.mpr ⟨lw_p246, List.forall_mem_cons.mpr ⟨lw_p247, List.forall_mem_cons.mpr ⟨lw_p248, List.forall_mem_cons.mpr ⟨lw_p249, List.forall_mem_cons.mpr ⟨lw_p250, List.forall_mem_cons.mpr ⟨lw_p251, List.forall_mem_cons.mpr ⟨lw_p252, List.forall_mem_cons.mpr ⟨lw_p253, List.forall_mem_cons.mpr ⟨lw_p254, List.forall_mem_cons.mpr ⟨lw_p255, fun _ h => absurd h List.not_mem_nil⟩⟩⟩⟩⟩⟩⟩⟩⟩⟩⟩⟩⟩⟩⟩⟩
theorem lw_p256 : lw_okq (⟨"DiskEvidenceModel", "readAtoms", "()I"⟩, 172) := ⟨⟨by decide +kernel, by decide +kernel⟩, List.mem_of_getElem? (i := 1951) (by decide +kernel), List.mem_of_getElem? (i := 3243) (by decide +kernel), List.mem_of_getElem? (i := 3244) (by decide +kernel)⟩
theorem lw_p257 : lw_okq (⟨"DiskEvidenceModel", "readSet", "(I)I"⟩, 172) := ⟨⟨by decide +kernel, by decide +kernel⟩, List.mem_of_getElem? (i := 1951) (by decide +kernel), List.mem_of_getElem? (i := 3247) (by decide +kernel), List.mem_of_getElem? (i := 3248) (by decide +kernel)⟩
theorem lw_p258 : lw_okq (⟨"DiskEvidenceModel", "allow", "(II)V"⟩, 172) := ⟨⟨by decide +kernel, by decide +kernel⟩, List.mem_of_getElem? (i := 1951) (by decide +kernel), List.mem_of_getElem? (i := 3251) (by decide +kernel), List.mem_of_getElem? (i := 3252) (by decide +kernel)⟩
theorem lw_p259 : lw_okq (⟨"DiskEvidenceModel", "longest", "(I)I"⟩, 172) := ⟨⟨by decide +kernel, by decide +kernel⟩, List.mem_of_getElem? (i := 1951) (by decide +kernel), List.mem_of_getElem? (i := 3255) (by decide +kernel), List.mem_of_getElem? (i := 3256) (by decide +kernel)⟩
theorem lw_p260 : lw_okq (⟨"DiskEvidenceModel", "passed", "(I)I"⟩, 172) := ⟨⟨by decide +kernel, by decide +kernel⟩, List.mem_of_getElem? (i := 1951) (by decide +kernel), List.mem_of_getElem? (i := 3259) (by decide +kernel), List.mem_of_getElem? (i := 3260) (by decide +kernel)⟩
theorem lw_p261 : lw_okq (⟨"DiskEvidenceModel", "readQuestion", "()V"⟩, 172) := ⟨⟨by decide +kernel, by decide +kernel⟩, List.mem_of_getElem? (i := 1951) (by decide +kernel), List.mem_of_getElem? (i := 3271) (by decide +kernel), List.mem_of_getElem? (i := 3272) (by decide +kernel)⟩
theorem lw_p262 : lw_okq (⟨"DiskEvidenceModel", "readOne", "()V"⟩, 172) := ⟨⟨by decide +kernel, by decide +kernel⟩, List.mem_of_getElem? (i := 1951) (by decide +kernel), List.mem_of_getElem? (i := 3275) (by decide +kernel), List.mem_of_getElem? (i := 3276) (by decide +kernel)⟩
theorem lw_p263 : lw_okq (⟨"DiskEvidenceModel", "peek", "()I"⟩, 172) := ⟨⟨by decide +kernel, by decide +kernel⟩, List.mem_of_getElem? (i := 1951) (by decide +kernel), List.mem_of_getElem? (i := 3279) (by decide +kernel), List.mem_of_getElem? (i := 3280) (by decide +kernel)⟩
theorem lw_p264 : lw_okq (⟨"DiskEvidenceModel", "blanks", "()V"⟩, 172) := ⟨⟨by decide +kernel, by decide +kernel⟩, List.mem_of_getElem? (i := 1951) (by decide +kernel), List.mem_of_getElem? (i := 3283) (by decide +kernel), List.mem_of_getElem? (i := 3284) (by decide +kernel)⟩
theorem lw_p265 : lw_okq (⟨"DiskEvidenceModel", "openMarks", "()I"⟩, 172) := ⟨⟨by decide +kernel, by decide +kernel⟩, List.mem_of_getElem? (i := 1951) (by decide +kernel), List.mem_of_getElem? (i := 3287) (by decide +kernel), List.mem_of_getElem? (i := 3288) (by decide +kernel)⟩
theorem lw_p266 : lw_okq (⟨"DiskEvidenceModel", "readField", "(I)I"⟩, 172) := ⟨⟨by decide +kernel, by decide +kernel⟩, List.mem_of_getElem? (i := 1951) (by decide +kernel), List.mem_of_getElem? (i := 3291) (by decide +kernel), List.mem_of_getElem? (i := 3292) (by decide +kernel)⟩
theorem lw_p267 : lw_okq (⟨"DiskEvidenceModel", "begins", "(II)Z"⟩, 172) := ⟨⟨by decide +kernel, by decide +kernel⟩, List.mem_of_getElem? (i := 1951) (by decide +kernel), List.mem_of_getElem? (i := 3295) (by decide +kernel), List.mem_of_getElem? (i := 3296) (by decide +kernel)⟩
theorem lw_p268 : lw_okq (⟨"DiskEvidenceModel", "readName", "()V"⟩, 172) := ⟨⟨by decide +kernel, by decide +kernel⟩, List.mem_of_getElem? (i := 1951) (by decide +kernel), List.mem_of_getElem? (i := 3299) (by decide +kernel), List.mem_of_getElem? (i := 3300) (by decide +kernel)⟩
theorem lw_p269 : lw_okq (⟨"DiskEvidenceModel", "readNumber", "()V"⟩, 172) := ⟨⟨by decide +kernel, by decide +kernel⟩, List.mem_of_getElem? (i := 1951) (by decide +kernel), List.mem_of_getElem? (i := 3303) (by decide +kernel), List.mem_of_getElem? (i := 3304) (by decide +kernel)⟩
theorem lw_p270 : lw_okq (⟨"DiskEvidenceModel", "reduce", "(ZZ)V"⟩, 172) := ⟨⟨by decide +kernel, by decide +kernel⟩, List.mem_of_getElem? (i := 1951) (by decide +kernel), List.mem_of_getElem? (i := 3307) (by decide +kernel), List.mem_of_getElem? (i := 3308) (by decide +kernel)⟩
theorem lw_p271 : lw_okq (⟨"DiskEvidenceModel", "isOpenMark", "()Z"⟩, 172) := ⟨⟨by decide +kernel, by decide +kernel⟩, List.mem_of_getElem? (i := 1951) (by decide +kernel), List.mem_of_getElem? (i := 3311) (by decide +kernel), List.mem_of_getElem? (i := 3312) (by decide +kernel)⟩
def lw_privs_17 : List (MethodName × Nat) := [(⟨"DiskEvidenceModel", "readAtoms", "()I"⟩, 172), (⟨"DiskEvidenceModel", "readSet", "(I)I"⟩, 172), (⟨"DiskEvidenceModel", "allow", "(II)V"⟩, 172), (⟨"DiskEvidenceModel", "longest", "(I)I"⟩, 172), (⟨"DiskEvidenceModel", "passed", "(I)I"⟩, 172), (⟨"DiskEvidenceModel", "readQuestion", "()V"⟩, 172), (⟨"DiskEvidenceModel", "readOne", "()V"⟩, 172), (⟨"DiskEvidenceModel", "peek", "()I"⟩, 172), (⟨"DiskEvidenceModel", "blanks", "()V"⟩, 172), (⟨"DiskEvidenceModel", "openMarks", "()I"⟩, 172), (⟨"DiskEvidenceModel", "readField", "(I)I"⟩, 172), (⟨"DiskEvidenceModel", "begins", "(II)Z"⟩, 172), (⟨"DiskEvidenceModel", "readName", "()V"⟩, 172), (⟨"DiskEvidenceModel", "readNumber", "()V"⟩, 172), (⟨"DiskEvidenceModel", "reduce", "(ZZ)V"⟩, 172), (⟨"DiskEvidenceModel", "isOpenMark", "()Z"⟩, 172)]
theorem lw_r17 : ∀ q ∈ lw_privs_17, lw_okq q := List.forall_mem_cons.mpr ⟨lw_p256, List.forall_mem_cons.mpr ⟨lw_p257, List.forall_mem_cons.mpr ⟨lw_p258, List.forall_mem_cons.mpr ⟨lw_p259, List.forall_mem_cons.mpr ⟨lw_p260, List.forall_mem_cons.mpr ⟨lw_p261, List.forall_mem_cons.mpr ⟨lw_p262, List.forall_mem_cons.mpr ⟨lw_p263, List.forall_mem_cons.mpr ⟨lw_p264, List.forall_mem_cons.mpr ⟨lw_p265, List.forall_mem_cons.mpr ⟨lw_p266, List.forall_mem_cons.mpr ⟨lw_p267, List.forall_mem_cons.mpr ⟨lw_p268, List.forall_mem_cons.mpr ⟨lw_p269, List.forall_mem_cons.mpr ⟨lw_p270, List.forall_mem_cons.mpr ⟨lw_p271, fun _ h => absurd h List.not_mem_nil⟩⟩⟩⟩⟩⟩⟩⟩⟩⟩⟩⟩⟩⟩⟩⟩
theorem lw_p272 : lw_okq (⟨"DiskEvidenceModel", "readSort", "()V"⟩, 172) := ⟨⟨by decide +kernel, by decide +kernel⟩, List.mem_of_getElem? (i := 1951) (by decide +kernel), List.mem_of_getElem? (i := 3315) (by decide +kernel), List.mem_of_getElem? (i := 3316) (by decide +kernel)⟩
theorem lw_p273 : lw_okq (⟨"DiskEvidenceModel", "isTrue", "(II)Z"⟩, 172) := ⟨⟨by decide +kernel, by decide +kernel⟩, List.mem_of_getElem? (i := 1951) (by decide +kernel), List.mem_of_getElem? (i := 3319) (by decide +kernel), List.mem_of_getElem? (i := 3320) (by decide +kernel)⟩
theorem lw_p274 : lw_okq (⟨"DiskEvidenceModel", "isAsked", "(III)Z"⟩, 172) := ⟨⟨by decide +kernel, by decide +kernel⟩, List.mem_of_getElem? (i := 1951) (by decide +kernel), List.mem_of_getElem? (i := 3323) (by decide +kernel), List.mem_of_getElem? (i := 3324) (by decide +kernel)⟩
theorem lw_p275 : lw_okq (⟨"DiskEvidenceModel", "hasLetters", "(III)Z"⟩, 172) := ⟨⟨by decide +kernel, by decide +kernel⟩, List.mem_of_getElem? (i := 1951) (by decide +kernel), List.mem_of_getElem? (i := 3327) (by decide +kernel), List.mem_of_getElem? (i := 3328) (by decide +kernel)⟩
theorem lw_p276 : lw_okq (⟨"DiskEvidenceModel", "hasField", "(III)Z"⟩, 172) := ⟨⟨by decide +kernel, by decide +kernel⟩, List.mem_of_getElem? (i := 1951) (by decide +kernel), List.mem_of_getElem? (i := 3331) (by decide +kernel), List.mem_of_getElem? (i := 3332) (by decide +kernel)⟩
theorem lw_p277 : lw_okq (⟨"DiskEvidenceModel", "hasMoment", "(III)Z"⟩, 172) := ⟨⟨by decide +kernel, by decide +kernel⟩, List.mem_of_getElem? (i := 1951) (by decide +kernel), List.mem_of_getElem? (i := 3335) (by decide +kernel), List.mem_of_getElem? (i := 3336) (by decide +kernel)⟩
theorem lw_p278 : lw_okq (⟨"DiskEvidenceModel", "fieldOf", "(III)J"⟩, 172) := ⟨⟨by decide +kernel, by decide +kernel⟩, List.mem_of_getElem? (i := 1951) (by decide +kernel), List.mem_of_getElem? (i := 3340) (by decide +kernel), List.mem_of_getElem? (i := 3341) (by decide +kernel)⟩
theorem lw_p279 : lw_okq (⟨"DiskEvidenceModel", "moment", "(III)J"⟩, 172) := ⟨⟨by decide +kernel, by decide +kernel⟩, List.mem_of_getElem? (i := 1951) (by decide +kernel), List.mem_of_getElem? (i := 3344) (by decide +kernel), List.mem_of_getElem? (i := 3345) (by decide +kernel)⟩
theorem lw_p280 : lw_okq (⟨"DiskEvidenceModel", "grainOf", "(II)I"⟩, 172) := ⟨⟨by decide +kernel, by decide +kernel⟩, List.mem_of_getElem? (i := 1951) (by decide +kernel), List.mem_of_getElem? (i := 3348) (by decide +kernel), List.mem_of_getElem? (i := 3349) (by decide +kernel)⟩
theorem lw_p281 : lw_okq (⟨"DiskEvidenceModel", "comesFirst", "(III)Z"⟩, 172) := ⟨⟨by decide +kernel, by decide +kernel⟩, List.mem_of_getElem? (i := 1951) (by decide +kernel), List.mem_of_getElem? (i := 3352) (by decide +kernel), List.mem_of_getElem? (i := 3353) (by decide +kernel)⟩
theorem lw_p282 : lw_okq (⟨"DiskEvidenceModel", "addMoment", "(JIIII)V"⟩, 172) := ⟨⟨by decide +kernel, by decide +kernel⟩, List.mem_of_getElem? (i := 1951) (by decide +kernel), List.mem_of_getElem? (i := 3364) (by decide +kernel), List.mem_of_getElem? (i := 3365) (by decide +kernel)⟩
theorem lw_p283 : lw_okq (⟨"DiskEvidenceModel", "isBehind", "(IJIII)Z"⟩, 172) := ⟨⟨by decide +kernel, by decide +kernel⟩, List.mem_of_getElem? (i := 1951) (by decide +kernel), List.mem_of_getElem? (i := 3368) (by decide +kernel), List.mem_of_getElem? (i := 3369) (by decide +kernel)⟩
theorem lw_p284 : lw_okq (⟨"DiskEvidenceModel", "addDoubt", "(III)V"⟩, 172) := ⟨⟨by decide +kernel, by decide +kernel⟩, List.mem_of_getElem? (i := 1951) (by decide +kernel), List.mem_of_getElem? (i := 3380) (by decide +kernel), List.mem_of_getElem? (i := 3381) (by decide +kernel)⟩
theorem lw_p285 : lw_okq (⟨"DiskEvidenceModel", "isOwnFile", "(II)Z"⟩, 172) := ⟨⟨by decide +kernel, by decide +kernel⟩, List.mem_of_getElem? (i := 1951) (by decide +kernel), List.mem_of_getElem? (i := 3392) (by decide +kernel), List.mem_of_getElem? (i := 3393) (by decide +kernel)⟩
theorem lw_p286 : lw_okq (⟨"DiskEvidenceModel", "gradeNow", "(II)I"⟩, 172) := ⟨⟨by decide +kernel, by decide +kernel⟩, List.mem_of_getElem? (i := 1951) (by decide +kernel), List.mem_of_getElem? (i := 3396) (by decide +kernel), List.mem_of_getElem? (i := 3397) (by decide +kernel)⟩
theorem lw_p287 : lw_okq (⟨"DiskEvidenceModel", "byteNow", "(III)I"⟩, 172) := ⟨⟨by decide +kernel, by decide +kernel⟩, List.mem_of_getElem? (i := 1951) (by decide +kernel), List.mem_of_getElem? (i := 3408) (by decide +kernel), List.mem_of_getElem? (i := 3409) (by decide +kernel)⟩
def lw_privs_18 : List (MethodName × Nat) := [(⟨"DiskEvidenceModel", "readSort", "()V"⟩, 172), (⟨"DiskEvidenceModel", "isTrue", "(II)Z"⟩, 172), (⟨"DiskEvidenceModel", "isAsked", "(III)Z"⟩, 172), (⟨"DiskEvidenceModel", "hasLetters", "(III)Z"⟩, 172), (⟨"DiskEvidenceModel", "hasField", "(III)Z"⟩, 172), (⟨"DiskEvidenceModel", "hasMoment", "(III)Z"⟩, 172), (⟨"DiskEvidenceModel", "fieldOf", "(III)J"⟩, 172), (⟨"DiskEvidenceModel", "moment", "(III)J"⟩, 172), (⟨"DiskEvidenceModel", "grainOf", "(II)I"⟩, 172), (⟨"DiskEvidenceModel", "comesFirst", "(III)Z"⟩, 172), (⟨"DiskEvidenceModel", "addMoment", "(JIIII)V"⟩, 172), (⟨"DiskEvidenceModel", "isBehind", "(IJIII)Z"⟩, 172), (⟨"DiskEvidenceModel", "addDoubt", "(III)V"⟩, 172), (⟨"DiskEvidenceModel", "isOwnFile", "(II)Z"⟩, 172), (⟨"DiskEvidenceModel", "gradeNow", "(II)I"⟩, 172), (⟨"DiskEvidenceModel", "byteNow", "(III)I"⟩, 172)]
theorem lw_r18 : ∀ q ∈ lw_privs_18, lw_okq q := List.forall_mem_cons.mpr ⟨lw_p272, List.forall_mem_cons.mpr ⟨lw_p273, List.forall_mem_cons.mpr ⟨lw_p274, List.forall_mem_cons.mpr ⟨lw_p275, List.forall_mem_cons.mpr ⟨lw_p276, List.forall_mem_cons.mpr ⟨lw_p277, List.forall_mem_cons.mpr ⟨lw_p278, List.forall_mem_cons.mpr ⟨lw_p279, List.forall_mem_cons.mpr ⟨lw_p280, List.forall_mem_cons.mpr ⟨lw_p281, List.forall_mem_cons.mpr ⟨lw_p282, List.forall_mem_cons.mpr ⟨lw_p283, List.forall_mem_cons.mpr ⟨lw_p284, List.forall_mem_cons.mpr ⟨lw_p285, List.forall_mem_cons.mpr ⟨lw_p286, List.forall_mem_cons.mpr ⟨lw_p287, fun _ h => absurd h List.not_mem_nil⟩⟩⟩⟩⟩⟩⟩⟩⟩⟩⟩⟩⟩⟩⟩⟩
theorem lw_p288 : lw_okq (⟨"DiskEvidenceModel", "linkOf", "(I)J"⟩, 172) := ⟨⟨by decide +kernel, by decide +kernel⟩, List.mem_of_getElem? (i := 1951) (by decide +kernel), List.mem_of_getElem? (i := 3416) (by decide +kernel), List.mem_of_getElem? (i := 3417) (by decide +kernel)⟩
def lw_privs_19 : List (MethodName × Nat) := [(⟨"DiskEvidenceModel", "linkOf", "(I)J"⟩, 172)]
theorem lw_r19 : ∀ q ∈ lw_privs_19, lw_okq q := List.forall_mem_cons.mpr ⟨lw_p288, fun _ h => absurd h List.not_mem_nil⟩
def lw_privs : List (MethodName × Nat) := lw_privs_1 ++ (lw_privs_2 ++ (lw_privs_3 ++ (lw_privs_4 ++ (lw_privs_5 ++ (lw_privs_6 ++ (lw_privs_7 ++ (lw_privs_8 ++ (lw_privs_9 ++ (lw_privs_10 ++ (lw_privs_11 ++ (lw_privs_12 ++ (lw_privs_13 ++ (lw_privs_14 ++ (lw_privs_15 ++ (lw_privs_16 ++ (lw_privs_17 ++ (lw_privs_18 ++ (lw_privs_19))))))))))))))))))
def lw_tbl : List Cond := k2_sels lw_privs ++ tables_1
theorem lw_privs_ok : ∀ q ∈ lw_privs, lw_okq q := by
  show ∀ q ∈ lw_privs_1 ++ (lw_privs_2 ++ (lw_privs_3 ++ (lw_privs_4 ++ (lw_privs_5 ++ (lw_privs_6 ++ (lw_privs_7 ++ (lw_privs_8 ++ (lw_privs_9 ++ (lw_privs_10 ++ (lw_privs_11 ++ (lw_privs_12 ++ (lw_privs_13 ++ (lw_privs_14 ++ (lw_privs_15 ++ (lw_privs_16 ++ (lw_privs_17 ++ (lw_privs_18 ++ (lw_privs_19)))))))))))))))))), lw_okq q
  exact List.forall_mem_append.mpr ⟨lw_r1, List.forall_mem_append.mpr ⟨lw_r2, List.forall_mem_append.mpr ⟨lw_r3, List.forall_mem_append.mpr ⟨lw_r4, List.forall_mem_append.mpr ⟨lw_r5, List.forall_mem_append.mpr ⟨lw_r6, List.forall_mem_append.mpr ⟨lw_r7, List.forall_mem_append.mpr ⟨lw_r8, List.forall_mem_append.mpr ⟨lw_r9, List.forall_mem_append.mpr ⟨lw_r10, List.forall_mem_append.mpr ⟨lw_r11, List.forall_mem_append.mpr ⟨lw_r12, List.forall_mem_append.mpr ⟨lw_r13, List.forall_mem_append.mpr ⟨lw_r14, List.forall_mem_append.mpr ⟨lw_r15, List.forall_mem_append.mpr ⟨lw_r16, List.forall_mem_append.mpr ⟨lw_r17, List.forall_mem_append.mpr ⟨lw_r18, lw_r19⟩⟩⟩⟩⟩⟩⟩⟩⟩⟩⟩⟩⟩⟩⟩⟩⟩⟩
-- ===== end of PART A; then your names; then what follows =====
end
section
theorem goodIn_r {big : List Cond} (ws : List Cond) (ps : List Nat) (hp : ws = ps.filterMap (fun i => big[i]?)) (h : ws.all goodWord = true) : GoodIn big ws := by
  intro w hw
  have h1 := List.all_eq_true.mp h w hw
  rw [hp] at hw
  obtain ⟨i, -, hi⟩ := List.mem_filterMap.mp hw
  have hm : w ∈ big := by first | exact List.mem_of_getElem? hi | exact List.getElem?_mem hi
  exact ⟨hm, good_of_word h1⟩
theorem goodIn_app {big a b : List Cond} (ha : GoodIn big a) (hb : GoodIn big b) : GoodIn big (a ++ b) := fun w h => (List.mem_append.mp h).elim (ha w) (hb w)
def RX0 : String := "DiskEvidence$Finder"
def TX0 : u_T := fun k => match k with
  | 0 => ("DiskEvidence$Finder", "hits", "[I", true)
  | 1 => ("DiskEvidence$Finder", "hitCount", "I", false)
  | 2 => ("DiskEvidence$Finder", "text", "[B", false)
  | 3 => ("DiskEvidence$Finder", "textLength", "I", false)
  | 4 => ("DiskEvidence$Finder", "meets", "[I", true)
  | 5 => ("DiskEvidence$Finder", "atoms", "I", false)
  | 6 => ("DiskEvidence$Finder", "starred", "I", false)
  | 7 => ("DiskEvidence$Finder", "optional", "I", false)
  | 8 => ("DiskEvidence$Finder", "wrongAt", "I", false)
  | _ => ("DiskEvidence$Finder", "hopes", "[I", true)
def RX1 : String := "DiskEvidence$Form"
def TX1 : u_T := fun k => match k with
  | 0 => ("DiskEvidence$Form", "kind", "I", false)
  | 1 => ("DiskEvidence$Form", "n", "I", false)
  | 2 => ("DiskEvidence$Form", "tables", "I", false)
  | 3 => ("DiskEvidence$Form", "tableBlocks", "I", false)
  | 4 => ("DiskEvidence$Form", "rootBlocks", "I", false)
  | 5 => ("DiskEvidence$Form", "zone", "I", false)
  | 6 => ("DiskEvidence$Form", "clusters", "I", false)
  | 7 => ("DiskEvidence$Form", "firstCluster", "I", false)
  | 8 => ("DiskEvidence$Form", "nodes", "I", false)
  | 9 => ("DiskEvidence$Form", "data", "I", false)
  | 10 => ("DiskEvidence$Form", "headers", "[I", true)
  | 11 => ("DiskEvidence$Form", "headerCount", "I", false)
  | 12 => ("DiskEvidence$Form", "tapeEnd", "I", false)
  | 13 => ("DiskEvidence$Form", "tapeFault", "I", false)
  | 14 => ("DiskEvidence$Form", "seen", "[I", true)
  | 15 => ("DiskEvidence$Form", "followed", "I", false)
  | 16 => ("DiskEvidence$Form", "stop", "I", false)
  | _ => ("DiskEvidence$Form", "stopAt", "I", false)
def RX2 : String := "DiskEvidence$Item"
def TX2 : u_T := fun k => match k with
  | 0 => ("DiskEvidence$Item", "sort", "I", true)
  | 1 => ("DiskEvidence$Item", "kind", "I", true)
  | 2 => ("DiskEvidence$Item", "told", "J", true)
  | 3 => ("DiskEvidence$Item", "size", "I", false)
  | 4 => ("DiskEvidence$Item", "grade", "I", false)
  | 5 => ("DiskEvidence$Item", "parent", "I", false)
  | 6 => ("DiskEvidence$Item", "depth", "I", false)
  | 7 => ("DiskEvidence$Item", "faults", "I", false)
  | 8 => ("DiskEvidence$Item", "made", "J", false)
  | 9 => ("DiskEvidence$Item", "altered", "J", false)
  | 10 => ("DiskEvidence$Item", "erased", "J", false)
  | 11 => ("DiskEvidence$Item", "letters", "[B", false)
  | 12 => ("DiskEvidence$Item", "blocks", "[I", false)
  | 13 => ("DiskEvidence$Item", "base", "LDiskEvidence$Item;", false)
  | _ => ("DiskEvidence$Item", "offset", "I", false)
def RX3 : String := "DiskEvidence$Maker"
def TX3 : u_T := fun k => match k with
  | 0 => ("DiskEvidence$Maker", "image", "[B", true)
  | 1 => ("DiskEvidence$Maker", "before", "[B", true)
  | 2 => ("DiskEvidence$Maker", "rooms", "[B", true)
  | 3 => ("DiskEvidence$Maker", "form", "LDiskEvidence$Form;", true)
  | 4 => ("DiskEvidence$Maker", "letters", "[B", true)
  | 5 => ("DiskEvidence$Maker", "text", "[B", false)
  | 6 => ("DiskEvidence$Maker", "pathEnd", "I", false)
  | 7 => ("DiskEvidence$Maker", "contentsAt", "I", false)
  | 8 => ("DiskEvidence$Maker", "moment", "I", false)
  | 9 => ("DiskEvidence$Maker", "inFolder", "I", false)
  | 10 => ("DiskEvidence$Maker", "folderBlocks", "[I", true)
  | 11 => ("DiskEvidence$Maker", "folderCount", "I", false)
  | 12 => ("DiskEvidence$Maker", "folderRows", "I", false)
  | 13 => ("DiskEvidence$Maker", "nameFrom", "I", false)
  | 14 => ("DiskEvidence$Maker", "rowAt", "I", false)
  | _ => ("DiskEvidence$Maker", "taken", "[I", true)
def RX4 : String := "DiskEvidence$Opening"
def TX4 : u_T := fun k => match k with
  | 0 => ("DiskEvidence$Opening", "treeNumber", "I", true)
  | 1 => ("DiskEvidence$Opening", "fileNumber", "I", true)
  | 2 => ("DiskEvidence$Opening", "facts", "[I", true)
  | 3 => ("DiskEvidence$Opening", "nodeCount", "I", false)
  | 4 => ("DiskEvidence$Opening", "source", "[B", false)
  | 5 => ("DiskEvidence$Opening", "begin", "I", false)
  | 6 => ("DiskEvidence$Opening", "length", "I", false)
  | 7 => ("DiskEvidence$Opening", "place", "I", false)
  | 8 => ("DiskEvidence$Opening", "broken", "Z", false)
  | _ => ("DiskEvidence$Opening", "columns", "I", false)
def RX5 : String := "DiskEvidence$Picture"
def TX5 : u_T := fun k => match k with
  | 0 => ("DiskEvidence$Picture", "sectorCount", "I", true)
  | 1 => ("DiskEvidence$Picture", "bytes", "[B", true)
  | 2 => ("DiskEvidence$Picture", "spoilt", "[Z", true)
  | 3 => ("DiskEvidence$Picture", "tables", "[I", true)
  | 4 => ("DiskEvidence$Picture", "tableCount", "I", false)
  | 5 => ("DiskEvidence$Picture", "partFacts", "[I", true)
  | _ => ("DiskEvidence$Picture", "partCount", "I", false)
abbrev wsX50 : List Cond := u_ws RX5 TX5 7
def RX6 : String := "DiskEvidence$Query"
def TX6 : u_T := fun k => match k with
  | 0 => ("DiskEvidence$Query", "rows", "[I", true)
  | 1 => ("DiskEvidence$Query", "rowCount", "I", false)
  | 2 => ("DiskEvidence$Query", "keys", "[J", true)
  | 3 => ("DiskEvidence$Query", "code", "[I", true)
  | 4 => ("DiskEvidence$Query", "codeCount", "I", false)
  | 5 => ("DiskEvidence$Query", "text", "[B", false)
  | 6 => ("DiskEvidence$Query", "textLength", "I", false)
  | 7 => ("DiskEvidence$Query", "place", "I", false)
  | 8 => ("DiskEvidence$Query", "sortField", "I", false)
  | 9 => ("DiskEvidence$Query", "falling", "Z", false)
  | _ => ("DiskEvidence$Query", "has", "Z", false)
def RX7 : String := "DiskEvidence$Reader"
def TX7 : u_T := fun k => match k with
  | 0 => ("DiskEvidence$Reader", "tree", "LDiskEvidence$Tree;", true)
  | 1 => ("DiskEvidence$Reader", "form", "LDiskEvidence$Form;", true)
  | 2 => ("DiskEvidence$Reader", "image", "[B", true)
  | 3 => ("DiskEvidence$Reader", "erased", "[LDiskEvidence$Item;", true)
  | 4 => ("DiskEvidence$Reader", "erasedCount", "I", false)
  | 5 => ("DiskEvidence$Reader", "walked", "[Z", true)
  | 6 => ("DiskEvidence$Reader", "room", "[I", true)
  | _ => ("DiskEvidence$Reader", "letters", "[B", true)
def RX8 : String := "DiskEvidence$TimeLine"
def TX8 : u_T := fun k => match k with
  | 0 => ("DiskEvidence$TimeLine", "moments", "[J", true)
  | 1 => ("DiskEvidence$TimeLine", "marks", "[I", true)
  | 2 => ("DiskEvidence$TimeLine", "momentCount", "I", false)
  | 3 => ("DiskEvidence$TimeLine", "doubtMarks", "[I", true)
  | _ => ("DiskEvidence$TimeLine", "doubtCount", "I", false)
def RX9 : String := "DiskEvidence$Tree"
def TX9 : u_T := fun k => match k with
  | 0 => ("DiskEvidence$Tree", "form", "LDiskEvidence$Form;", true)
  | 1 => ("DiskEvidence$Tree", "image", "[B", true)
  | 2 => ("DiskEvidence$Tree", "volumeNumber", "I", true)
  | 3 => ("DiskEvidence$Tree", "owners", "[I", true)
  | 4 => ("DiskEvidence$Tree", "items", "[LDiskEvidence$Item;", true)
  | 5 => ("DiskEvidence$Tree", "total", "I", false)
  | 6 => ("DiskEvidence$Tree", "living", "I", false)
  | 7 => ("DiskEvidence$Tree", "lost", "I", false)
  | 8 => ("DiskEvidence$Tree", "cut", "I", false)
  | 9 => ("DiskEvidence$Tree", "within", "I", false)
  | 10 => ("DiskEvidence$Tree", "faults", "[I", true)
  | _ => ("DiskEvidence$Tree", "faultCount", "I", false)
def RX10 : String := "DiskEvidence$Volume"
def TX10 : u_T := fun k => match k with
  | 0 => ("DiskEvidence$Volume", "kind", "I", true)
  | 1 => ("DiskEvidence$Volume", "size", "I", true)
  | 2 => ("DiskEvidence$Volume", "begin", "I", true)
  | 3 => ("DiskEvidence$Volume", "pictureNumber", "I", true)
  | 4 => ("DiskEvidence$Volume", "base", "LDiskEvidence$Picture;", true)
  | 5 => ("DiskEvidence$Volume", "first", "LDiskEvidence$Volume;", true)
  | 6 => ("DiskEvidence$Volume", "second", "LDiskEvidence$Volume;", true)
  | _ => ("DiskEvidence$Volume", "third", "LDiskEvidence$Volume;", true)
def RX11 : String := "DiskEvidence"
def TX11 : u_T := fun k => match k with
  | 0 => ("DiskEvidence", "collected", "[B", true)
  | 1 => ("DiskEvidence", "collectedCount", "I", false)
  | 2 => ("DiskEvidence", "now", "I", false)
  | 3 => ("DiskEvidence", "pictures", "[LDiskEvidence$Picture;", true)
  | 4 => ("DiskEvidence", "pictureCount", "I", false)
  | 5 => ("DiskEvidence", "volumes", "[LDiskEvidence$Volume;", true)
  | 6 => ("DiskEvidence", "volumeCount", "I", false)
  | 7 => ("DiskEvidence", "trees", "[LDiskEvidence$Tree;", true)
  | 8 => ("DiskEvidence", "treeCount", "I", false)
  | 9 => ("DiskEvidence", "openings", "[LDiskEvidence$Opening;", true)
  | 10 => ("DiskEvidence", "openingCount", "I", false)
  | 11 => ("DiskEvidence", "claims", "[I", true)
  | 12 => ("DiskEvidence", "claimCount", "I", false)
  | 13 => ("DiskEvidence", "maker", "LDiskEvidence$Maker;", true)
  | 14 => ("DiskEvidence", "finder", "LDiskEvidence$Finder;", true)
  | 15 => ("DiskEvidence", "query", "LDiskEvidence$Query;", true)
  | 16 => ("DiskEvidence", "timeLine", "LDiskEvidence$TimeLine;", true)
  | 17 => ("DiskEvidence", "acts", "[I", true)
  | 18 => ("DiskEvidence", "links", "[J", true)
  | _ => ("DiskEvidence", "actCount", "I", false)
abbrev wsX110 : List Cond := u_ws RX11 TX11 20
abbrev cX11_sectors : ByteArray := prog_1_method_7_code
def yX11_sectors : MethodName := ⟨RX11, "sectors", "(I)I"⟩
abbrev cX11_pictureAt : ByteArray := prog_1_method_55_code
def yX11_pictureAt : MethodName := ⟨RX11, "pictureAt", "(I)LDiskEvidence$Picture;"⟩
abbrev cX11_volumeAt : ByteArray := prog_1_method_56_code
def yX11_volumeAt : MethodName := ⟨RX11, "volumeAt", "(I)LDiskEvidence$Volume;"⟩
abbrev cX11_treeAt : ByteArray := prog_1_method_58_code
def yX11_treeAt : MethodName := ⟨RX11, "treeAt", "(I)LDiskEvidence$Tree;"⟩
abbrev cX11_openingAt : ByteArray := prog_1_method_59_code
def yX11_openingAt : MethodName := ⟨RX11, "openingAt", "(I)LDiskEvidence$Opening;"⟩
def RX12 : String := "DiskEvidenceModel"
def TX12 : u_T := fun k => match k with
  | 0 => ("DiskEvidenceModel", "many", "I", false)
  | 1 => ("DiskEvidenceModel", "bytes", "[I", true)
  | 2 => ("DiskEvidenceModel", "now", "I", false)
  | 3 => ("DiskEvidenceModel", "pictures", "I", false)
  | 4 => ("DiskEvidenceModel", "sectorsOf", "[I", true)
  | 5 => ("DiskEvidenceModel", "data", "[I", true)
  | 6 => ("DiskEvidenceModel", "isSpoilt", "[Z", true)
  | 7 => ("DiskEvidenceModel", "volumes", "I", false)
  | 8 => ("DiskEvidenceModel", "sort", "[I", true)
  | 9 => ("DiskEvidenceModel", "pictureOf", "[I", true)
  | 10 => ("DiskEvidenceModel", "beginOf", "[I", true)
  | 11 => ("DiskEvidenceModel", "blocksOf", "[I", true)
  | 12 => ("DiskEvidenceModel", "members", "[I", true)
  | 13 => ("DiskEvidenceModel", "all", "[I", true)
  | 14 => ("DiskEvidenceModel", "comesSpoilt", "[Z", true)
  | 15 => ("DiskEvidenceModel", "isOld", "Z", false)
  | 16 => ("DiskEvidenceModel", "laid", "I", false)
  | 17 => ("DiskEvidenceModel", "sectorChanged", "[Z", true)
  | 18 => ("DiskEvidenceModel", "blockChanged", "[Z", true)
  | 19 => ("DiskEvidenceModel", "badAt", "I", false)
  | 20 => ("DiskEvidenceModel", "parts", "I", false)
  | 21 => ("DiskEvidenceModel", "partKind", "[I", true)
  | 22 => ("DiskEvidenceModel", "partFirst", "[I", true)
  | 23 => ("DiskEvidenceModel", "partMany", "[I", true)
  | 24 => ("DiskEvidenceModel", "partTable", "[I", true)
  | 25 => ("DiskEvidenceModel", "tables", "[I", true)
  | 26 => ("DiskEvidenceModel", "tablesMany", "I", false)
  | 27 => ("DiskEvidenceModel", "openTable", "[I", true)
  | 28 => ("DiskEvidenceModel", "openRow", "[I", true)
  | 29 => ("DiskEvidenceModel", "member", "I", false)
  | 30 => ("DiskEvidenceModel", "memberBlock", "I", false)
  | 31 => ("DiskEvidenceModel", "waitVolume", "[I", true)
  | 32 => ("DiskEvidenceModel", "waitBlock", "[I", true)
  | 33 => ("DiskEvidenceModel", "waitBytes", "[I", true)
  | 34 => ("DiskEvidenceModel", "waiting", "I", false)
  | 35 => ("DiskEvidenceModel", "one", "[I", true)
  | 36 => ("DiskEvidenceModel", "kept", "[I", true)
  | 37 => ("DiskEvidenceModel", "image", "[I", true)
  | 38 => ("DiskEvidenceModel", "old", "[I", true)
  | 39 => ("DiskEvidenceModel", "imageBlocks", "I", false)
  | 40 => ("DiskEvidenceModel", "form", "I", false)
  | 41 => ("DiskEvidenceModel", "tablesOf", "I", false)
  | 42 => ("DiskEvidenceModel", "tableBlocks", "I", false)
  | 43 => ("DiskEvidenceModel", "rootBlocks", "I", false)
  | 44 => ("DiskEvidenceModel", "zone", "I", false)
  | 45 => ("DiskEvidenceModel", "nodesOf", "I", false)
  | 46 => ("DiskEvidenceModel", "span", "I", false)
  | 47 => ("DiskEvidenceModel", "first", "I", false)
  | 48 => ("DiskEvidenceModel", "clusters", "I", false)
  | 49 => ("DiskEvidenceModel", "names", "I", false)
  | 50 => ("DiskEvidenceModel", "nameFrom", "[I", true)
  | 51 => ("DiskEvidenceModel", "nameTo", "[I", true)
  | 52 => ("DiskEvidenceModel", "pathEnd", "I", false)
  | 53 => ("DiskEvidenceModel", "links", "I", false)
  | 54 => ("DiskEvidenceModel", "link", "[I", true)
  | 55 => ("DiskEvidenceModel", "folderRow", "I", false)
  | 56 => ("DiskEvidenceModel", "folderNode", "I", false)
  | 57 => ("DiskEvidenceModel", "foundRow", "I", false)
  | 58 => ("DiskEvidenceModel", "tapeEnd", "I", false)
  | 59 => ("DiskEvidenceModel", "trees", "I", false)
  | 60 => ("DiskEvidenceModel", "treeForm", "[I", true)
  | 61 => ("DiskEvidenceModel", "treeVolume", "[I", true)
  | 62 => ("DiskEvidenceModel", "treeSpan", "[I", true)
  | 63 => ("DiskEvidenceModel", "treeBlocks", "[I", true)
  | 64 => ("DiskEvidenceModel", "treeZone", "[I", true)
  | 65 => ("DiskEvidenceModel", "treeBytes", "[I", true)
  | 66 => ("DiskEvidenceModel", "ownerOf", "[I", true)
  | 67 => ("DiskEvidenceModel", "living", "[I", true)
  | 68 => ("DiskEvidenceModel", "lost", "[I", true)
  | 69 => ("DiskEvidenceModel", "cut", "[I", true)
  | 70 => ("DiskEvidenceModel", "inside", "[I", true)
  | 71 => ("DiskEvidenceModel", "faults", "[I", true)
  | 72 => ("DiskEvidenceModel", "faultNumber", "[I", true)
  | 73 => ("DiskEvidenceModel", "faultFile", "[I", true)
  | 74 => ("DiskEvidenceModel", "faultBlock", "[I", true)
  | 75 => ("DiskEvidenceModel", "kindOf", "[I", true)
  | 76 => ("DiskEvidenceModel", "endOf", "[I", true)
  | 77 => ("DiskEvidenceModel", "sizeOf", "[J", true)
  | 78 => ("DiskEvidenceModel", "madeOf", "[J", true)
  | 79 => ("DiskEvidenceModel", "alteredOf", "[J", true)
  | 80 => ("DiskEvidenceModel", "erasedOf", "[J", true)
  | 81 => ("DiskEvidenceModel", "gradeOf", "[I", true)
  | 82 => ("DiskEvidenceModel", "parentOf", "[I", true)
  | 83 => ("DiskEvidenceModel", "depthOf", "[I", true)
  | 84 => ("DiskEvidenceModel", "faultsOf", "[I", true)
  | 85 => ("DiskEvidenceModel", "blocksMany", "[I", true)
  | 86 => ("DiskEvidenceModel", "fileBlocks", "[I", true)
  | 87 => ("DiskEvidenceModel", "nameMany", "[I", true)
  | 88 => ("DiskEvidenceModel", "nameBytes", "[I", true)
  | 89 => ("DiskEvidenceModel", "sourceOf", "[I", true)
  | 90 => ("DiskEvidenceModel", "sourceFrom", "[I", true)
  | 91 => ("DiskEvidenceModel", "tree", "I", false)
  | 92 => ("DiskEvidenceModel", "file", "I", false)
  | 93 => ("DiskEvidenceModel", "deep", "I", false)
  | 94 => ("DiskEvidenceModel", "walkFile", "[I", true)
  | 95 => ("DiskEvidenceModel", "walkRow", "[I", true)
  | 96 => ("DiskEvidenceModel", "walkNode", "[I", true)
  | 97 => ("DiskEvidenceModel", "erasedRows", "I", false)
  | 98 => ("DiskEvidenceModel", "erasedRow", "[I", true)
  | 99 => ("DiskEvidenceModel", "erasedParent", "[I", true)
  | 100 => ("DiskEvidenceModel", "erasedDepth", "[I", true)
  | 101 => ("DiskEvidenceModel", "isWalked", "[Z", true)
  | 102 => ("DiskEvidenceModel", "entries", "I", false)
  | 103 => ("DiskEvidenceModel", "entryAt", "[I", true)
  | 104 => ("DiskEvidenceModel", "entryHas", "[I", true)
  | 105 => ("DiskEvidenceModel", "row", "[I", true)
  | 106 => ("DiskEvidenceModel", "rowMany", "I", false)
  | 107 => ("DiskEvidenceModel", "opens", "I", false)
  | 108 => ("DiskEvidenceModel", "open", "I", false)
  | 109 => ("DiskEvidenceModel", "nodeLimit", "I", false)
  | 110 => ("DiskEvidenceModel", "broken", "I", false)
  | 111 => ("DiskEvidenceModel", "openTree", "[I", true)
  | 112 => ("DiskEvidenceModel", "openFile", "[I", true)
  | 113 => ("DiskEvidenceModel", "openSize", "[I", true)
  | 114 => ("DiskEvidenceModel", "points", "[I", true)
  | 115 => ("DiskEvidenceModel", "pointKind", "[I", true)
  | 116 => ("DiskEvidenceModel", "pointFrom", "[I", true)
  | 117 => ("DiskEvidenceModel", "pointTo", "[I", true)
  | 118 => ("DiskEvidenceModel", "pointValue", "[I", true)
  | 119 => ("DiskEvidenceModel", "pointParent", "[I", true)
  | 120 => ("DiskEvidenceModel", "packs", "I", false)
  | 121 => ("DiskEvidenceModel", "packAt", "[I", true)
  | 122 => ("DiskEvidenceModel", "columns", "I", false)
  | 123 => ("DiskEvidenceModel", "isHad", "[Z", true)
  | 124 => ("DiskEvidenceModel", "hits", "I", false)
  | 125 => ("DiskEvidenceModel", "hitFile", "[I", true)
  | 126 => ("DiskEvidenceModel", "hitAt", "[I", true)
  | 127 => ("DiskEvidenceModel", "hitMany", "[I", true)
  | 128 => ("DiskEvidenceModel", "newHits", "I", false)
  | 129 => ("DiskEvidenceModel", "atoms", "I", false)
  | 130 => ("DiskEvidenceModel", "takes", "[Z", true)
  | 131 => ("DiskEvidenceModel", "often", "[I", true)
  | 132 => ("DiskEvidenceModel", "fieldWords", "[C", true)
  | 133 => ("DiskEvidenceModel", "wordFrom", "[I", true)
  | 134 => ("DiskEvidenceModel", "sortWord", "[C", true)
  | 135 => ("DiskEvidenceModel", "place", "I", false)
  | 136 => ("DiskEvidenceModel", "isStuck", "Z", false)
  | 137 => ("DiskEvidenceModel", "opsMany", "I", false)
  | 138 => ("DiskEvidenceModel", "ops", "[I", true)
  | 139 => ("DiskEvidenceModel", "pileMany", "I", false)
  | 140 => ("DiskEvidenceModel", "pile", "[I", true)
  | 141 => ("DiskEvidenceModel", "asked", "I", false)
  | 142 => ("DiskEvidenceModel", "askField", "[I", true)
  | 143 => ("DiskEvidenceModel", "askHow", "[I", true)
  | 144 => ("DiskEvidenceModel", "askFrom", "[I", true)
  | 145 => ("DiskEvidenceModel", "askTo", "[I", true)
  | 146 => ("DiskEvidenceModel", "sortBy", "I", false)
  | 147 => ("DiskEvidenceModel", "falls", "Z", false)
  | 148 => ("DiskEvidenceModel", "truths", "[Z", true)
  | 149 => ("DiskEvidenceModel", "results", "I", false)
  | 150 => ("DiskEvidenceModel", "result", "[I", true)
  | 151 => ("DiskEvidenceModel", "moments", "I", false)
  | 152 => ("DiskEvidenceModel", "momentAt", "[J", true)
  | 153 => ("DiskEvidenceModel", "momentGrain", "[I", true)
  | 154 => ("DiskEvidenceModel", "momentTree", "[I", true)
  | 155 => ("DiskEvidenceModel", "momentFile", "[I", true)
  | 156 => ("DiskEvidenceModel", "momentWhich", "[I", true)
  | 157 => ("DiskEvidenceModel", "doubts", "I", false)
  | 158 => ("DiskEvidenceModel", "doubtTree", "[I", true)
  | 159 => ("DiskEvidenceModel", "doubtFile", "[I", true)
  | 160 => ("DiskEvidenceModel", "doubtWhich", "[I", true)
  | 161 => ("DiskEvidenceModel", "claims", "I", false)
  | 162 => ("DiskEvidenceModel", "claimTree", "[I", true)
  | 163 => ("DiskEvidenceModel", "claimFile", "[I", true)
  | 164 => ("DiskEvidenceModel", "claimKind", "[I", true)
  | 165 => ("DiskEvidenceModel", "claimA", "[I", true)
  | 166 => ("DiskEvidenceModel", "claimGrade", "[I", true)
  | 167 => ("DiskEvidenceModel", "acts", "I", false)
  | 168 => ("DiskEvidenceModel", "actWho", "[I", true)
  | 169 => ("DiskEvidenceModel", "actWhat", "[I", true)
  | 170 => ("DiskEvidenceModel", "actAt", "[I", true)
  | _ => ("DiskEvidenceModel", "actLink", "[J", true)
abbrev wsX120 : List Cond := u_ws RX12 TX12 172
abbrev cX12_in : ByteArray := prog_14_method_2_code
def yX12_in : MethodName := ⟨RX12, "in", "(JJJ)Z"⟩
abbrev cX12_isPicture : ByteArray := prog_14_method_8_code
def yX12_isPicture : MethodName := ⟨RX12, "isPicture", "(I)Z"⟩
abbrev cX12_sectors : ByteArray := prog_14_method_16_code
def yX12_sectors : MethodName := ⟨RX12, "sectors", "(I)I"⟩
abbrev cX12_isVolume : ByteArray := prog_14_method_31_code
def yX12_isVolume : MethodName := ⟨RX12, "isVolume", "(I)Z"⟩
abbrev cX12_isTree : ByteArray := prog_14_method_112_code
def yX12_isTree : MethodName := ⟨RX12, "isTree", "(I)Z"⟩
abbrev cX12_isOpen : ByteArray := prog_14_method_161_code
def yX12_isOpen : MethodName := ⟨RX12, "isOpen", "(I)Z"⟩
def wsX11_pictureAt : List Cond := .code yX11_pictureAt cX11_pictureAt 2 (some (.object "DiskEvidence$Picture")) :: ([.fieldLink RX11 85 "DiskEvidence" "pictureCount" "I", .fieldLink RX11 15 "DiskEvidence" "pictures" "[LDiskEvidence$Picture;"] ++ wsX110)
def wsX11_sectors : List Cond := .code yX11_sectors cX11_sectors 3 (some .int) :: ([.fieldLink RX11 107 "DiskEvidence$Picture" "sectorCount" "I", .methodLink RX11 103 yX11_pictureAt, .instanceMethod yX11_pictureAt, .selects RX11 yX11_pictureAt yX11_pictureAt, .initialized RX11, .code yX11_pictureAt cX11_pictureAt 2 (some (.object "DiskEvidence$Picture")), .fieldLink RX11 85 "DiskEvidence" "pictureCount" "I", .fieldLink RX11 15 "DiskEvidence" "pictures" "[LDiskEvidence$Picture;"] ++ wsX50 ++ wsX110)
def wsX11_volumeAt : List Cond := .code yX11_volumeAt cX11_volumeAt 2 (some (.object "DiskEvidence$Volume")) :: ([.fieldLink RX11 143 "DiskEvidence" "volumeCount" "I", .fieldLink RX11 21 "DiskEvidence" "volumes" "[LDiskEvidence$Volume;"] ++ wsX110)
def wsX11_treeAt : List Cond := .code yX11_treeAt cX11_treeAt 2 (some (.object "DiskEvidence$Tree")) :: ([.fieldLink RX11 188 "DiskEvidence" "treeCount" "I", .fieldLink RX11 27 "DiskEvidence" "trees" "[LDiskEvidence$Tree;"] ++ wsX110)
def wsX11_openingAt : List Cond := .code yX11_openingAt cX11_openingAt 2 (some (.object "DiskEvidence$Opening")) :: ([.fieldLink RX11 290 "DiskEvidence" "openingCount" "I", .fieldLink RX11 33 "DiskEvidence" "openings" "[LDiskEvidence$Opening;"] ++ wsX110)
def wsX12_in : List Cond := .code yX12_in cX12_in 6 (some .boolean) :: ([])
def wsX12_isPicture : List Cond := .code yX12_isPicture cX12_isPicture 2 (some .boolean) :: ([.fieldLink RX12 393 "DiskEvidenceModel" "pictures" "I", .methodLink RX12 372 yX12_in, .static yX12_in, .initialized RX12, .code yX12_in cX12_in 6 (some .boolean)] ++ wsX120)
def wsX12_sectors : List Cond := .code yX12_sectors cX12_sectors 2 (some .int) :: ([.fieldLink RX12 13 "DiskEvidenceModel" "sectorsOf" "[I", .methodLink RX12 396 yX12_isPicture, .instanceMethod yX12_isPicture, .selects RX12 yX12_isPicture yX12_isPicture, .initialized RX12, .code yX12_isPicture cX12_isPicture 2 (some .boolean), .fieldLink RX12 393 "DiskEvidenceModel" "pictures" "I", .methodLink RX12 372 yX12_in, .static yX12_in, .code yX12_in cX12_in 6 (some .boolean)] ++ wsX120)
def wsX12_isVolume : List Cond := .code yX12_isVolume cX12_isVolume 2 (some .boolean) :: ([.fieldLink RX12 466 "DiskEvidenceModel" "volumes" "I", .methodLink RX12 372 yX12_in, .static yX12_in, .initialized RX12, .code yX12_in cX12_in 6 (some .boolean)] ++ wsX120)
def wsX12_isTree : List Cond := .code yX12_isTree cX12_isTree 2 (some .boolean) :: ([.fieldLink RX12 794 "DiskEvidenceModel" "trees" "I", .methodLink RX12 372 yX12_in, .static yX12_in, .initialized RX12, .code yX12_in cX12_in 6 (some .boolean)] ++ wsX120)
def wsX12_isOpen : List Cond := .code yX12_isOpen cX12_isOpen 2 (some .boolean) :: ([.fieldLink RX12 983 "DiskEvidenceModel" "opens" "I", .methodLink RX12 372 yX12_in, .static yX12_in, .initialized RX12, .code yX12_in cX12_in 6 (some .boolean)] ++ wsX120)
set_option maxRecDepth 20000 in
theorem ggX11_sectors_X11_pictureAt : GoodIn wsX11_sectors wsX11_pictureAt := goodIn_r _ [6, 7, 8, 16, 17, 18, 19, 20, 21, 22, 23, 24, 25, 26, 27, 28, 29, 30, 31, 32, 33, 34, 35] (by decide +kernel) (by decide +kernel)
set_option maxRecDepth 20000 in
theorem gX11_sectors_X11_pictureAt : GoodIn wsX11_sectors (wsV RX11 103 RX11 yX11_pictureAt wsX11_pictureAt) := goodIn_app (goodIn_of _ (by decide +kernel)) ggX11_sectors_X11_pictureAt
theorem dX11_sectors_0 : decode cX11_sectors 0 = .ok (.aload_n 0, 1) := by decide +kernel
theorem dX11_sectors_1 : decode cX11_sectors 1 = .ok (.iload_n 1, 1) := by decide +kernel
theorem dX11_sectors_2 : decode cX11_sectors 2 = .ok (.invokevirtual 103, 3) := by decide +kernel
theorem dX11_sectors_5 : decode cX11_sectors 5 = .ok (.astore_n 2, 1) := by decide +kernel
theorem dX11_sectors_6 : decode cX11_sectors 6 = .ok (.aload_n 2, 1) := by decide +kernel
theorem dX11_sectors_7 : decode cX11_sectors 7 = .ok (.ifnonnull 8, 3) := by decide +kernel
theorem dX11_sectors_10 : decode cX11_sectors 10 = .ok (.bipush (-2), 2) := by decide +kernel
theorem dX11_sectors_12 : decode cX11_sectors 12 = .ok (.goto 7, 3) := by decide +kernel
theorem dX11_sectors_19 : decode cX11_sectors 19 = .ok (.ireturn, 1) := by decide +kernel
theorem dX11_pictureAt_0 : decode cX11_pictureAt 0 = .ok (.iload_n 1, 1) := by decide +kernel
theorem dX11_pictureAt_1 : decode cX11_pictureAt 1 = .ok (.ifCond .lt 11, 3) := by decide +kernel
theorem dX11_pictureAt_4 : decode cX11_pictureAt 4 = .ok (.iload_n 1, 1) := by decide +kernel
theorem dX11_pictureAt_5 : decode cX11_pictureAt 5 = .ok (.aload_n 0, 1) := by decide +kernel
theorem dX11_pictureAt_6 : decode cX11_pictureAt 6 = .ok (.getfield 85, 3) := by decide +kernel
theorem dX11_pictureAt_9 : decode cX11_pictureAt 9 = .ok (.if_icmp .lt 7, 3) := by decide +kernel
theorem dX11_pictureAt_12 : decode cX11_pictureAt 12 = .ok (.aconst_null, 1) := by decide +kernel
theorem dX11_pictureAt_13 : decode cX11_pictureAt 13 = .ok (.goto 9, 3) := by decide +kernel
theorem dX11_pictureAt_22 : decode cX11_pictureAt 22 = .ok (.areturn, 1) := by decide +kernel
theorem dX11_volumeAt_0 : decode cX11_volumeAt 0 = .ok (.iload_n 1, 1) := by decide +kernel
theorem dX11_volumeAt_1 : decode cX11_volumeAt 1 = .ok (.ifCond .lt 11, 3) := by decide +kernel
theorem dX11_volumeAt_4 : decode cX11_volumeAt 4 = .ok (.iload_n 1, 1) := by decide +kernel
theorem dX11_volumeAt_5 : decode cX11_volumeAt 5 = .ok (.aload_n 0, 1) := by decide +kernel
theorem dX11_volumeAt_6 : decode cX11_volumeAt 6 = .ok (.getfield 143, 3) := by decide +kernel
theorem dX11_volumeAt_9 : decode cX11_volumeAt 9 = .ok (.if_icmp .lt 7, 3) := by decide +kernel
theorem dX11_volumeAt_12 : decode cX11_volumeAt 12 = .ok (.aconst_null, 1) := by decide +kernel
theorem dX11_volumeAt_13 : decode cX11_volumeAt 13 = .ok (.goto 9, 3) := by decide +kernel
theorem dX11_volumeAt_22 : decode cX11_volumeAt 22 = .ok (.areturn, 1) := by decide +kernel
theorem dX11_treeAt_0 : decode cX11_treeAt 0 = .ok (.iload_n 1, 1) := by decide +kernel
theorem dX11_treeAt_1 : decode cX11_treeAt 1 = .ok (.ifCond .lt 11, 3) := by decide +kernel
theorem dX11_treeAt_4 : decode cX11_treeAt 4 = .ok (.iload_n 1, 1) := by decide +kernel
theorem dX11_treeAt_5 : decode cX11_treeAt 5 = .ok (.aload_n 0, 1) := by decide +kernel
theorem dX11_treeAt_6 : decode cX11_treeAt 6 = .ok (.getfield 188, 3) := by decide +kernel
theorem dX11_treeAt_9 : decode cX11_treeAt 9 = .ok (.if_icmp .lt 7, 3) := by decide +kernel
theorem dX11_treeAt_12 : decode cX11_treeAt 12 = .ok (.aconst_null, 1) := by decide +kernel
theorem dX11_treeAt_13 : decode cX11_treeAt 13 = .ok (.goto 9, 3) := by decide +kernel
theorem dX11_treeAt_22 : decode cX11_treeAt 22 = .ok (.areturn, 1) := by decide +kernel
theorem dX11_openingAt_0 : decode cX11_openingAt 0 = .ok (.iload_n 1, 1) := by decide +kernel
theorem dX11_openingAt_1 : decode cX11_openingAt 1 = .ok (.ifCond .lt 11, 3) := by decide +kernel
theorem dX11_openingAt_4 : decode cX11_openingAt 4 = .ok (.iload_n 1, 1) := by decide +kernel
theorem dX11_openingAt_5 : decode cX11_openingAt 5 = .ok (.aload_n 0, 1) := by decide +kernel
theorem dX11_openingAt_6 : decode cX11_openingAt 6 = .ok (.getfield 290, 3) := by decide +kernel
theorem dX11_openingAt_9 : decode cX11_openingAt 9 = .ok (.if_icmp .lt 7, 3) := by decide +kernel
theorem dX11_openingAt_12 : decode cX11_openingAt 12 = .ok (.aconst_null, 1) := by decide +kernel
theorem dX11_openingAt_13 : decode cX11_openingAt 13 = .ok (.goto 9, 3) := by decide +kernel
theorem dX11_openingAt_22 : decode cX11_openingAt 22 = .ok (.areturn, 1) := by decide +kernel
theorem dX12_in_0 : decode cX12_in 0 = .ok (.lload_n 0, 1) := by decide +kernel
theorem dX12_in_1 : decode cX12_in 1 = .ok (.lload_n 2, 1) := by decide +kernel
theorem dX12_in_2 : decode cX12_in 2 = .ok (.lcmp, 1) := by decide +kernel
theorem dX12_in_3 : decode cX12_in 3 = .ok (.ifCond .lt 14, 3) := by decide +kernel
theorem dX12_in_6 : decode cX12_in 6 = .ok (.lload_n 0, 1) := by decide +kernel
theorem dX12_in_7 : decode cX12_in 7 = .ok (.lload 4, 2) := by decide +kernel
theorem dX12_in_9 : decode cX12_in 9 = .ok (.lcmp, 1) := by decide +kernel
theorem dX12_in_10 : decode cX12_in 10 = .ok (.ifCond .gt 7, 3) := by decide +kernel
theorem dX12_in_13 : decode cX12_in 13 = .ok (.iconst 1, 1) := by decide +kernel
theorem dX12_in_14 : decode cX12_in 14 = .ok (.goto 4, 3) := by decide +kernel
theorem dX12_in_17 : decode cX12_in 17 = .ok (.iconst 0, 1) := by decide +kernel
theorem dX12_in_18 : decode cX12_in 18 = .ok (.ireturn, 1) := by decide +kernel
set_option maxRecDepth 20000 in
theorem ggX12_isPicture_X12_in : GoodIn wsX12_isPicture wsX12_in := goodIn_r _ [5] (by decide +kernel) (by decide +kernel)
set_option maxRecDepth 20000 in
theorem gX12_isPicture_X12_in : GoodIn wsX12_isPicture (va_wsS RX12 372 yX12_in wsX12_in) := goodIn_app (goodIn_of _ (by decide +kernel)) ggX12_isPicture_X12_in
theorem dX12_isPicture_0 : decode cX12_isPicture 0 = .ok (.iload_n 1, 1) := by decide +kernel
theorem dX12_isPicture_1 : decode cX12_isPicture 1 = .ok (.i2l, 1) := by decide +kernel
theorem dX12_isPicture_2 : decode cX12_isPicture 2 = .ok (.lconst 0, 1) := by decide +kernel
theorem dX12_isPicture_3 : decode cX12_isPicture 3 = .ok (.aload_n 0, 1) := by decide +kernel
theorem dX12_isPicture_4 : decode cX12_isPicture 4 = .ok (.getfield 393, 3) := by decide +kernel
theorem dX12_isPicture_7 : decode cX12_isPicture 7 = .ok (.iconst 1, 1) := by decide +kernel
theorem dX12_isPicture_8 : decode cX12_isPicture 8 = .ok (.isub, 1) := by decide +kernel
theorem dX12_isPicture_9 : decode cX12_isPicture 9 = .ok (.i2l, 1) := by decide +kernel
theorem dX12_isPicture_10 : decode cX12_isPicture 10 = .ok (.invokestatic 372, 3) := by decide +kernel
theorem dX12_isPicture_13 : decode cX12_isPicture 13 = .ok (.ireturn, 1) := by decide +kernel
set_option maxRecDepth 20000 in
theorem ggX12_sectors_X12_isPicture : GoodIn wsX12_sectors wsX12_isPicture := goodIn_r _ [6, 7, 8, 9, 5, 10, 11, 12, 13, 14, 15, 16, 17, 18, 19, 20, 21, 22, 23, 24, 25, 26, 27, 28, 29, 30, 31, 32, 33, 34, 35, 36, 37, 38, 39, 40, 41, 42, 43, 44, 45, 46, 47, 48, 49, 50, 51, 52, 53, 54, 55, 56, 57, 58, 59, 60, 61, 62, 63, 64, 65, 66, 67, 68, 69, 70, 71, 72, 73, 74, 75, 76, 77, 78, 79, 80, 81, 82, 83, 84, 85, 86, 87, 88, 89, 90, 91, 92, 93, 94, 95, 96, 97, 98, 99, 100, 101, 102, 103, 104, 105, 106, 107, 108, 109, 110, 111, 112, 113, 114, 115, 116, 117, 118, 119, 120, 121, 122, 123, 124, 125, 126, 127, 128, 129, 130, 131, 132, 133, 134, 135, 136, 137, 138, 139, 140, 141, 142, 143, 144, 145, 146, 147, 148, 149, 150, 151, 152, 153, 154, 155, 156, 157, 158, 159, 160, 161, 162, 163, 164, 165, 166, 167, 168, 169, 170, 171, 172, 173, 174, 175, 176, 177, 178, 179, 180, 181, 182] (by decide +kernel) (by decide +kernel)
set_option maxRecDepth 20000 in
theorem gX12_sectors_X12_isPicture : GoodIn wsX12_sectors (wsV RX12 396 RX12 yX12_isPicture wsX12_isPicture) := goodIn_app (goodIn_of _ (by decide +kernel)) ggX12_sectors_X12_isPicture
theorem dX12_sectors_0 : decode cX12_sectors 0 = .ok (.aload_n 0, 1) := by decide +kernel
theorem dX12_sectors_1 : decode cX12_sectors 1 = .ok (.iload_n 1, 1) := by decide +kernel
theorem dX12_sectors_2 : decode cX12_sectors 2 = .ok (.invokevirtual 396, 3) := by decide +kernel
theorem dX12_sectors_5 : decode cX12_sectors 5 = .ok (.ifCond .eq 12, 3) := by decide +kernel
theorem dX12_sectors_17 : decode cX12_sectors 17 = .ok (.bipush (-2), 2) := by decide +kernel
set_option maxRecDepth 20000 in
theorem ggX12_isVolume_X12_in : GoodIn wsX12_isVolume wsX12_in := goodIn_r _ [5] (by decide +kernel) (by decide +kernel)
set_option maxRecDepth 20000 in
theorem gX12_isVolume_X12_in : GoodIn wsX12_isVolume (va_wsS RX12 372 yX12_in wsX12_in) := goodIn_app (goodIn_of _ (by decide +kernel)) ggX12_isVolume_X12_in
theorem dX12_isVolume_0 : decode cX12_isVolume 0 = .ok (.iload_n 1, 1) := by decide +kernel
theorem dX12_isVolume_1 : decode cX12_isVolume 1 = .ok (.i2l, 1) := by decide +kernel
theorem dX12_isVolume_2 : decode cX12_isVolume 2 = .ok (.lconst 0, 1) := by decide +kernel
theorem dX12_isVolume_3 : decode cX12_isVolume 3 = .ok (.aload_n 0, 1) := by decide +kernel
theorem dX12_isVolume_4 : decode cX12_isVolume 4 = .ok (.getfield 466, 3) := by decide +kernel
theorem dX12_isVolume_7 : decode cX12_isVolume 7 = .ok (.iconst 1, 1) := by decide +kernel
theorem dX12_isVolume_8 : decode cX12_isVolume 8 = .ok (.isub, 1) := by decide +kernel
theorem dX12_isVolume_9 : decode cX12_isVolume 9 = .ok (.i2l, 1) := by decide +kernel
theorem dX12_isVolume_10 : decode cX12_isVolume 10 = .ok (.invokestatic 372, 3) := by decide +kernel
theorem dX12_isVolume_13 : decode cX12_isVolume 13 = .ok (.ireturn, 1) := by decide +kernel
set_option maxRecDepth 20000 in
theorem ggX12_isTree_X12_in : GoodIn wsX12_isTree wsX12_in := goodIn_r _ [5] (by decide +kernel) (by decide +kernel)
set_option maxRecDepth 20000 in
theorem gX12_isTree_X12_in : GoodIn wsX12_isTree (va_wsS RX12 372 yX12_in wsX12_in) := goodIn_app (goodIn_of _ (by decide +kernel)) ggX12_isTree_X12_in
theorem dX12_isTree_0 : decode cX12_isTree 0 = .ok (.iload_n 1, 1) := by decide +kernel
theorem dX12_isTree_1 : decode cX12_isTree 1 = .ok (.i2l, 1) := by decide +kernel
theorem dX12_isTree_2 : decode cX12_isTree 2 = .ok (.lconst 0, 1) := by decide +kernel
theorem dX12_isTree_3 : decode cX12_isTree 3 = .ok (.aload_n 0, 1) := by decide +kernel
theorem dX12_isTree_4 : decode cX12_isTree 4 = .ok (.getfield 794, 3) := by decide +kernel
theorem dX12_isTree_7 : decode cX12_isTree 7 = .ok (.iconst 1, 1) := by decide +kernel
theorem dX12_isTree_8 : decode cX12_isTree 8 = .ok (.isub, 1) := by decide +kernel
theorem dX12_isTree_9 : decode cX12_isTree 9 = .ok (.i2l, 1) := by decide +kernel
theorem dX12_isTree_10 : decode cX12_isTree 10 = .ok (.invokestatic 372, 3) := by decide +kernel
theorem dX12_isTree_13 : decode cX12_isTree 13 = .ok (.ireturn, 1) := by decide +kernel
set_option maxRecDepth 20000 in
theorem ggX12_isOpen_X12_in : GoodIn wsX12_isOpen wsX12_in := goodIn_r _ [5] (by decide +kernel) (by decide +kernel)
set_option maxRecDepth 20000 in
theorem gX12_isOpen_X12_in : GoodIn wsX12_isOpen (va_wsS RX12 372 yX12_in wsX12_in) := goodIn_app (goodIn_of _ (by decide +kernel)) ggX12_isOpen_X12_in
theorem dX12_isOpen_0 : decode cX12_isOpen 0 = .ok (.iload_n 1, 1) := by decide +kernel
theorem dX12_isOpen_1 : decode cX12_isOpen 1 = .ok (.i2l, 1) := by decide +kernel
theorem dX12_isOpen_2 : decode cX12_isOpen 2 = .ok (.lconst 0, 1) := by decide +kernel
theorem dX12_isOpen_3 : decode cX12_isOpen 3 = .ok (.aload_n 0, 1) := by decide +kernel
theorem dX12_isOpen_4 : decode cX12_isOpen 4 = .ok (.getfield 983, 3) := by decide +kernel
theorem dX12_isOpen_7 : decode cX12_isOpen 7 = .ok (.iconst 1, 1) := by decide +kernel
theorem dX12_isOpen_8 : decode cX12_isOpen 8 = .ok (.isub, 1) := by decide +kernel
theorem dX12_isOpen_9 : decode cX12_isOpen 9 = .ok (.i2l, 1) := by decide +kernel
theorem dX12_isOpen_10 : decode cX12_isOpen 10 = .ok (.invokestatic 372, 3) := by decide +kernel
theorem dX12_isOpen_13 : decode cX12_isOpen 13 = .ok (.ireturn, 1) := by decide +kernel
abbrev vwCl : List vw_C := [(RX0, TX0, 10), (RX1, TX1, 18), (RX2, TX2, 15), (RX3, TX3, 16), (RX4, TX4, 10), (RX5, TX5, 7), (RX6, TX6, 11), (RX7, TX7, 8), (RX8, TX8, 5), (RX9, TX9, 12), (RX10, TX10, 8), (RX11, TX11, 20), (RX12, TX12, 172)]
theorem inX11_openingAt_c11 : ∀ w ∈ wsX110, w ∈ wsX11_openingAt := fun w h => List.mem_cons_of_mem _ (List.mem_append_right _ (h))
theorem inX11_pictureAt_c11 : ∀ w ∈ wsX110, w ∈ wsX11_pictureAt := fun w h => List.mem_cons_of_mem _ (List.mem_append_right _ (h))
theorem inX11_treeAt_c11 : ∀ w ∈ wsX110, w ∈ wsX11_treeAt := fun w h => List.mem_cons_of_mem _ (List.mem_append_right _ (h))
theorem inX11_volumeAt_c11 : ∀ w ∈ wsX110, w ∈ wsX11_volumeAt := fun w h => List.mem_cons_of_mem _ (List.mem_append_right _ (h))
theorem inX12_isOpen_c12 : ∀ w ∈ wsX120, w ∈ wsX12_isOpen := fun w h => List.mem_cons_of_mem _ (List.mem_append_right _ (h))
theorem inX12_isPicture_c12 : ∀ w ∈ wsX120, w ∈ wsX12_isPicture := fun w h => List.mem_cons_of_mem _ (List.mem_append_right _ (h))
theorem inX12_isTree_c12 : ∀ w ∈ wsX120, w ∈ wsX12_isTree := fun w h => List.mem_cons_of_mem _ (List.mem_append_right _ (h))
theorem inX12_isVolume_c12 : ∀ w ∈ wsX120, w ∈ wsX12_isVolume := fun w h => List.mem_cons_of_mem _ (List.mem_append_right _ (h))
end
section
theorem nw_P0 {D : va_G} {cl : List vw_C} {H : Heap} : va_P D cl [] H := fun k q h => by simp at h
theorem nw_D0 {A : Nat → Prop} : va_D A [] := ⟨fun i j p q h => by simp at h, fun k q h => by simp at h⟩
theorem nw_ra {s : State} {ty : FieldType} {a b : ClassId} (h1 : va_RA s a ty) (h2 : va_RA s b ty) : a = b := by
  cases ty with
  | object C =>
    obtain ⟨_, _, _, _, _, h1⟩ := h1
    obtain ⟨_, _, _, _, _, h2⟩ := h2
    exact Option.some.inj (h1.symm.trans h2)
  | _ => exact Option.some.inj (h1.symm.trans h2)
theorem nw_last {D : va_G} {cl : List vw_C} {tys : List (ClassId × FieldType)} {s : State} {cA cI : ClassId} {ty : FieldType} {t0 : Nat} (hK : va_K D cl tys s) (ht : tys[t0]? = some (cI, ty)) (hK' : va_K D cl (tys ++ [(cA, ty)]) s) : cA = cI :=
  nw_ra (hK'.2 tys.length (cA, ty) (by simp)).2 (hK.2 t0 (cI, ty) ht).2
section NWA
variable {p : Program} {l : Launch} {e : Env} {R : Room} {s : State} {m : MethodId} {args : Array Value} {below : List Frame} {meth : Method} {c : Code} {H : Heap} {locs : List Loc} {cells slots : Nat} {Q : State → Prop}
variable {D : va_G} {cl : List vw_C} {tys : List (ClassId × FieldType)} {ws : va_W} {A : Nat → Prop} {H0 : Heap} {pc : Nat} {ls : Array Slot} {rest : List Value}
theorem nw_arr {cc : ByteArray} {atype : ArrayType} {ty : FieldType} {n : Int32} {N' : Nat} {a0 : vp_A} (hexec : p.tables.exec = Jvm.exec) (hb : c.code = cc) (harr : (Cond.arrayClass (newarray.typeOf atype)).before args s = true) (hty : newarray.typeOf atype = ty) (hK : va_K D cl tys s) (t0 : Nat) {cI : ClassId} (ht : tys[t0]? = some (cI, ty))
    (hP : va_P D cl ws H) (hD : va_D A ws) (hS : va_S A H0 H locs) (hA : ∀ q, H0.size ≤ q → A q) (ha : ∀ cA : ClassId, vp_cell cA a0 = arrV cA N' (fun _ => defaultValue ty)) (hn : ¬ n < 0) (hN : n.toNatClampNeg = N') (hbytes : N' * componentBytes ty ≤ 536870912) (hcells : cells + 1 ≤ R.cells) (hslots : slots + N' ≤ R.slots) (hdg : decode cc pc = .ok (.newarray atype, 2))
    (kk : ∀ (q : Nat) (H1 : Heap), va_P D cl (ws ++ [(q, .inl (cI, a0))]) H1 → va_D A (ws ++ [(q, .inl (cI, a0))]) → va_S A H0 H1 locs →
      W p l e R s m args below meth c H1 locs (cells + 1) (slots + N') Q (F0 m (pc + 2) ls (.ref q :: rest))) : W p l e R s m args below meth c H locs cells slots Q (F0 m pc ls (.int n :: rest)) := by
  refine va_newa hexec hb harr hty hK hP hD hS hA ha hn hN hbytes hcells hslots hdg (fun q cA H1 hK' hP' hD' hS' => ?_)
  obtain rfl := nw_last hK ht hK'
  exact kk q H1 hP' hD' hS'
theorem nw_arrq {cc : ByteArray} {own C : String} {index : Nat} {n : Int32} {N' : Nat} (hexec : p.tables.exec = Jvm.exec) (hb : c.code = cc) (hown : s.vm.findClass own = some m.cls) (hclink : (Cond.classLink own index C).before args s = true) (hover : va_AO C s) (hK : va_K D cl tys s) (t0 : Nat) {cI : ClassId} (ht : tys[t0]? = some (cI, .object C))
    (hP : va_P D cl ws H) (hD : va_D A ws) (hS : va_S A H0 H locs) (hA : ∀ q, H0.size ≤ q → A q) (hn : ¬ n < 0) (hN : n.toNatClampNeg = N') (hbytes : N' * 4 ≤ 536870912) (hcells : cells + 1 ≤ R.cells) (hslots : slots + N' ≤ R.slots) (hdg : decode cc pc = .ok (.anewarray index, 3))
    (kk : ∀ (q : Nat) (H1 : Heap), va_P D cl (ws ++ [(q, .inl (cI, N', .inr (.inr (.inr (.inr (fun _ => none))))))]) H1 → va_D A (ws ++ [(q, .inl (cI, N', .inr (.inr (.inr (.inr (fun _ => none))))))]) → va_S A H0 H1 locs →
      W p l e R s m args below meth c H1 locs (cells + 1) (slots + N') Q (F0 m (pc + 3) ls (.ref q :: rest))) : W p l e R s m args below meth c H locs cells slots Q (F0 m pc ls (.int n :: rest)) := by
  refine va_newq hexec hb hown hclink hover hK hP hD hS hA hn hN hbytes hcells hslots hdg (fun q cA H1 hK' hP' hD' hS' => ?_)
  obtain rfl := nw_last hK ht hK'
  exact kk q H1 hP' hD' hS'
/-- a loop: the invariant at n gives the run, if that at 0 does and that at d + 1 does by that at d -/
theorem nw_loop (I : Nat → Heap → List Loc → Array Slot → Prop) (n : Nat)
    (h0 : ∀ (H : Heap) (locs : List Loc) (ls : Array Slot), I 0 H locs ls → W p l e R s m args below meth c H locs cells slots Q (F0 m pc ls rest))
    (hs : ∀ d : Nat, (∀ (H : Heap) (locs : List Loc) (ls : Array Slot), I d H locs ls → W p l e R s m args below meth c H locs cells slots Q (F0 m pc ls rest)) → ∀ (H : Heap) (locs : List Loc) (ls : Array Slot), I (d + 1) H locs ls → W p l e R s m args below meth c H locs cells slots Q (F0 m pc ls rest)) :
    ∀ (H : Heap) (locs : List Loc) (ls : Array Slot), I n H locs ls → W p l e R s m args below meth c H locs cells slots Q (F0 m pc ls rest) := by
  induction n with
  | zero => exact h0
  | succ d ih => exact hs d ih
end NWA
theorem sw_cases (hi : Nat) (x : Int32) : (x.toInt < 0 ∨ (hi : Int) < x.toInt) ∨ ∃ j : Nat, j ≤ hi ∧ x = nI j := by
  by_cases h1 : x.toInt < 0
  · exact Or.inl (Or.inl h1)
  · by_cases h2 : (hi : Int) < x.toInt
    · exact Or.inl (Or.inr h2)
    · have hx : ¬ x < 0 := by
        rw [Int32.lt_iff_toInt_lt, Int32.toInt_zero]; exact h1
      obtain ⟨j, hj, rfl⟩ := nI_of hx
      refine Or.inr ⟨j, ?_, rfl⟩
      rw [nI_toInt hj] at h2
      omega
theorem cmp_lt (x y : Int64) : lg_cmp x y < 0 ↔ x < y := by
  unfold lg_cmp
  by_cases h1 : y < x
  · simp only [h1, if_true]
    exact ⟨fun h => absurd h (by decide), fun h => absurd h (Int64.not_lt.mpr (Int64.le_of_lt h1))⟩
  · by_cases h2 : x = y
    · subst h2
      simp only [h1, if_false, if_true]
      exact ⟨fun h => absurd h (by decide), fun h => absurd h (by simp)⟩
    · simp only [h1, h2, if_false]
      exact ⟨fun _ => by
        rcases Int64.lt_or_eq_of_le (Int64.not_lt.mp h1) with h | h
        · exact h
        · exact absurd h h2, fun _ => by decide⟩
theorem cmp_gt (x y : Int64) : 0 < lg_cmp x y ↔ y < x := by
  unfold lg_cmp
  by_cases h1 : y < x
  · simp only [h1, if_true]
    exact ⟨fun _ => trivial, fun _ => by decide⟩
  · by_cases h2 : x = y
    · subst h2
      simp only [h1, if_false, if_true]
      exact ⟨fun h => absurd h (by decide), fun h => absurd h (by simp)⟩
    · simp only [h1, h2, if_false]
      exact ⟨fun h => absurd h (by decide), fun h => absurd h (by simp)⟩
/-- the class's fields as they are at first -/
def fsX (g : Nat → Nat) : List Value := [.ref (g 0), .int 0, .int 0, .ref (g 3), .int 0, .ref (g 5), .int 0, .ref (g 7), .int 0, .ref (g 9), .int 0, .ref (g 11), .int 0, .ref (g 13), .ref (g 14), .ref (g 15), .ref (g 16), .ref (g 17), .ref (g 18), .int 0]
/-- the reference's -/
def fsM (g : Nat → Nat) : List Value := [.int 0, .ref (g 1), .int 0, .int 0, .ref (g 4), .ref (g 5), .ref (g 6), .int 0, .ref (g 8), .ref (g 9), .ref (g 10), .ref (g 11), .ref (g 12), .ref (g 13), .ref (g 14), .int 1, .int 0, .ref (g 17), .ref (g 18), .int 0, .int 0, .ref (g 21), .ref (g 22), .ref (g 23), .ref (g 24), .ref (g 25), .int 0, .ref (g 27), .ref (g 28), .int 0, .int 0, .ref (g 31), .ref (g 32), .ref (g 33), .int 0, .ref (g 35), .ref (g 36), .ref (g 37), .ref (g 38), .int 0, .int 0, .int 0, .int 0, .int 0, .int 0, .int 0, .int 0, .int 0, .int 0, .int 0, .ref (g 50), .ref (g 51), .int 0, .int 0, .ref (g 54), .int 0, .int 0, .int 0, .int 0, .int 0, .ref (g 60), .ref (g 61), .ref (g 62), .ref (g 63), .ref (g 64), .ref (g 65), .ref (g 66), .ref (g 67), .ref (g 68), .ref (g 69), .ref (g 70), .ref (g 71), .ref (g 72), .ref (g 73), .ref (g 74), .ref (g 75), .ref (g 76), .ref (g 77), .ref (g 78), .ref (g 79), .ref (g 80), .ref (g 81), .ref (g 82), .ref (g 83), .ref (g 84), .ref (g 85), .ref (g 86), .ref (g 87), .ref (g 88), .ref (g 89), .ref (g 90), .int 0, .int 0, .int 0, .ref (g 94), .ref (g 95), .ref (g 96), .int 0, .ref (g 98), .ref (g 99), .ref (g 100), .ref (g 101), .int 0, .ref (g 103), .ref (g 104), .ref (g 105), .int 0, .int 0, .int 0, .int 0, .int 0, .ref (g 111), .ref (g 112), .ref (g 113), .ref (g 114), .ref (g 115), .ref (g 116), .ref (g 117), .ref (g 118), .ref (g 119), .int 0, .ref (g 121), .int 0, .ref (g 123), .int 0, .ref (g 125), .ref (g 126), .ref (g 127), .int 0, .int 0, .ref (g 130), .ref (g 131), .ref (g 132), .ref (g 133), .ref (g 134), .int 0, .int 0, .int 0, .ref (g 138), .int 0, .ref (g 140), .int 0, .ref (g 142), .ref (g 143), .ref (g 144), .ref (g 145), .int 0, .int 0, .ref (g 148), .int 0, .ref (g 150), .int 0, .ref (g 152), .ref (g 153), .ref (g 154), .ref (g 155), .ref (g 156), .int 0, .ref (g 158), .ref (g 159), .ref (g 160), .int 0, .ref (g 162), .ref (g 163), .ref (g 164), .ref (g 165), .ref (g 166), .int 0, .ref (g 168), .ref (g 169), .ref (g 170), .ref (g 171)]
end
section
set_option maxHeartbeats 40000000 in
set_option maxRecDepth 100000 in
theorem c_X12_in (l : Launch) (p0 p1 p2 : Int64) : Met l yX12_in wsX12_in ({ frames := 0, cells := 0, slots := 0, locals := 0 }) (va_Pc [.long p0, .long p1, .long p2] (fun U => True)) (vp_Si (fun r : Int32 => (r = 1 ∧ p1 ≤ p0 ∧ p0 ≤ p2) ∨ (r = 0 ∧ ¬ (p1 ≤ p0 ∧ p0 ≤ p2)))) 0 0 (fun _ => False) := by
  refine Met.ofW (cc := cX12_in) (maxL := 6) (ret := (some .boolean)) (by decide) rfl ?_
  intro p e s m args below meth c s₁ B hml hv
  obtain ⟨rfl, -⟩ := hv
  have hx := B.exec
  have hb := B.bytes
  have hr := B.returns
  have hts := atoms_spec (ws := wsX12_in) B.pre
  have hown : s.vm.findClass RX12 = some m.cls := findClass_of_methodNamed B.named
  have hlocks := B.notSynchronized
  have hl := lv_entry ([.long p0, .long p1, .long p2]) (n := 6) (Nat.le_of_ble_eq_true rfl)
  rw [lg_entry_eq]
  generalize (lg_sl ([.long p0, .long p1, .long p2]) ++ List.replicate (6 - (lg_sl ([.long p0, .long p1, .long p2])).length) Slot.unset).toArray = ls at hl ⊢
  have hl : lv_has ls 6 [(0, .long p0), (2, .long p1), (4, .long p2)] := hl
  refine lv_lload_n hx hb dX12_in_0 rfl (lv_at hl 0 rfl) ?_
  refine lv_lload_n hx hb dX12_in_1 rfl (lv_at hl 1 rfl) ?_
  refine W.lcmp hx hb dX12_in_2 ?_
  refine lv_if_lt (tgt := 17) hx hb dX12_in_3 (by decide) (fun c_2 => ?_) (fun c_2 => ?_)
  · refine lv_iconst (v := 0) hx hb dX12_in_17 (by decide) ?_
    exact W.zret (v := 0) hx hb hr rfl (fun t ht hW => ⟨0, rfl, Or.inr ⟨rfl, fun h => absurd ((cmp_lt _ _).mp c_2) (Int64.not_lt.mpr h.1)⟩, ht⟩) (fun _ h => by cases h) dX12_in_18
  · refine lv_lload_n hx hb dX12_in_6 rfl (lv_at hl 0 rfl) ?_
    refine lv_lload hx hb dX12_in_7 (lv_at hl 2 rfl) ?_
    refine W.lcmp hx hb dX12_in_9 ?_
    refine lv_if_gt (tgt := 17) hx hb dX12_in_10 (by decide) (fun c_4 => ?_) (fun c_4 => ?_)
    · refine lv_iconst (v := 0) hx hb dX12_in_17 (by decide) ?_
      exact W.zret (v := 0) hx hb hr rfl (fun t ht hW => ⟨0, rfl, Or.inr ⟨rfl, fun h => absurd ((cmp_gt _ _).mp c_4) (Int64.not_lt.mpr h.2)⟩, ht⟩) (fun _ h => by cases h) dX12_in_18
    · refine lv_iconst (v := 1) hx hb dX12_in_13 (by decide) ?_
      refine lv_goto (tgt := 18) hx hb dX12_in_14 (by decide) ?_
      exact W.zret (v := 1) hx hb hr rfl (fun t ht hW => ⟨1, rfl, Or.inl ⟨rfl, Int64.not_lt.mp (fun h => c_2 ((cmp_lt _ _).mpr h)), Int64.not_lt.mp (fun h => c_4 ((cmp_gt _ _).mpr h))⟩, ht⟩) (fun _ h => by cases h) dX12_in_18
set_option maxHeartbeats 40000000 in
set_option maxRecDepth 100000 in
theorem c_X11_pictureAt (l : Launch) (dC : Nat → ClassId) (dI : Nat → Nat → Nat) (cI cB cZ cJ cC cP cV cT cO : ClassId) (sz : Nat) (h0 : Nat) (g : Nat → Nat)  (p0 : Int32) : Met l yX11_pictureAt wsX11_pictureAt ({ frames := 0, cells := 0, slots := 0, locals := 0 }) (va_Pc [.ref h0, .int p0] (fun U => U.heap.size = sz ∧ va_P (dC, dI) vwCl [(h0, .inr (11, (fsX g)))] U.heap ∧ va_K (dC, dI) vwCl [(cI, .int), (cB, .byte), (cZ, .boolean), (cJ, .long), (cC, .char), (cP, .object "DiskEvidence$Picture"), (cV, .object "DiskEvidence$Volume"), (cT, .object "DiskEvidence$Tree"), (cO, .object "DiskEvidence$Opening")] U ∧ va_D (fun _ => True) [(h0, .inr (11, (fsX g)))])) (va_Sq (fun r : Option Nat => r = none)) 0 0 (fun _ => False) := by
  refine Met.ofW (cc := cX11_pictureAt) (maxL := 2) (ret := (some (.object "DiskEvidence$Picture"))) (by decide) rfl ?_
  intro p e s m args below meth c s₁ B hml hv
  obtain ⟨rfl, hsz, hP, hK, hD0⟩ := hv
  have hx := B.exec
  have hb := B.bytes
  have hr := B.returns
  have hts := atoms_spec (ws := wsX11_pictureAt) B.pre
  have hown : s.vm.findClass RX11 = some m.cls := findClass_of_methodNamed B.named
  have hlocks := B.notSynchronized
  subst hsz
  have hD := hD0.self (sz := s.heap.size)
  generalize hAe : va_A [(h0, .inr (11, (fsX g)))] s.heap.size = A at hD ⊢
  have hA : ∀ q : Nat, s.heap.size ≤ q → A q := fun q h => by rw [← hAe]; exact Or.inr h
  have hS : va_S A s.heap s.heap [] := va_S.rf
  have hl := lv_entry ([.ref h0, .int p0]) (n := 2) (Nat.le_of_ble_eq_true rfl)
  rw [lg_entry_eq]
  generalize (lg_sl ([.ref h0, .int p0]) ++ List.replicate (2 - (lg_sl ([.ref h0, .int p0])).length) Slot.unset).toArray = ls at hl ⊢
  have hl : lv_has ls 2 [(0, .ref h0), (1, .int p0)] := hl
  refine lv_iload_n hx hb dX11_pictureAt_0 rfl (lv_at hl 1 rfl) ?_
  refine lv_if_lt (tgt := 12) hx hb dX11_pictureAt_1 (by decide) (fun c_1 => ?_) (fun c_1 => ?_)
  · refine lv_null hx hb dX11_pictureAt_12 ?_
    refine lv_goto (tgt := 22) hx hb dX11_pictureAt_13 (by decide) ?_
    exact W.aret (v := .null) hx hb hr (Or.inl ⟨"DiskEvidence$Picture", rfl⟩) (Or.inl rfl) (fun t ht hW => ⟨none, rfl, rfl, ht⟩) (fun _ h => by cases h) dX11_pictureAt_22
  · refine lv_iload_n hx hb dX11_pictureAt_4 rfl (lv_at hl 1 rfl) ?_
    refine lv_aload_n hx hb dX11_pictureAt_5 rfl (lv_at hl 0 rfl) ?_
    refine va_get (D := (dC, dI)) (ci := 11) (v := .int 0) (C := RX11) (T := TX11) (N := 20) hx hb hts inX11_pictureAt_c11 hown hK hP 0 rfl rfl 4 (by decide) (hts (.fieldLink RX11 85 "DiskEvidence" "pictureCount" "I") (List.mem_of_getElem? (i := 1) rfl)) (fun _ h9 => h9) rfl dX11_pictureAt_6 ?_
    refine lv_icmp_lt (tgt := 16) hx hb dX11_pictureAt_9 (by decide) (fun c_2 => absurd c_2 c_1) (fun _ => ?_)
    refine lv_null hx hb dX11_pictureAt_12 ?_
    refine lv_goto (tgt := 22) hx hb dX11_pictureAt_13 (by decide) ?_
    exact W.aret (v := .null) hx hb hr (Or.inl ⟨"DiskEvidence$Picture", rfl⟩) (Or.inl rfl) (fun t ht hW => ⟨none, rfl, rfl, ht⟩) (fun _ h => by cases h) dX11_pictureAt_22
set_option maxHeartbeats 40000000 in
set_option maxRecDepth 100000 in
theorem c_X11_volumeAt (l : Launch) (dC : Nat → ClassId) (dI : Nat → Nat → Nat) (cI cB cZ cJ cC cP cV cT cO : ClassId) (sz : Nat) (h0 : Nat) (g : Nat → Nat)  (p0 : Int32) : Met l yX11_volumeAt wsX11_volumeAt ({ frames := 0, cells := 0, slots := 0, locals := 0 }) (va_Pc [.ref h0, .int p0] (fun U => U.heap.size = sz ∧ va_P (dC, dI) vwCl [(h0, .inr (11, (fsX g)))] U.heap ∧ va_K (dC, dI) vwCl [(cI, .int), (cB, .byte), (cZ, .boolean), (cJ, .long), (cC, .char), (cP, .object "DiskEvidence$Picture"), (cV, .object "DiskEvidence$Volume"), (cT, .object "DiskEvidence$Tree"), (cO, .object "DiskEvidence$Opening")] U ∧ va_D (fun _ => True) [(h0, .inr (11, (fsX g)))])) (va_Sq (fun r : Option Nat => r = none)) 0 0 (fun _ => False) := by
  refine Met.ofW (cc := cX11_volumeAt) (maxL := 2) (ret := (some (.object "DiskEvidence$Volume"))) (by decide) rfl ?_
  intro p e s m args below meth c s₁ B hml hv
  obtain ⟨rfl, hsz, hP, hK, hD0⟩ := hv
  have hx := B.exec
  have hb := B.bytes
  have hr := B.returns
  have hts := atoms_spec (ws := wsX11_volumeAt) B.pre
  have hown : s.vm.findClass RX11 = some m.cls := findClass_of_methodNamed B.named
  have hlocks := B.notSynchronized
  subst hsz
  have hD := hD0.self (sz := s.heap.size)
  generalize hAe : va_A [(h0, .inr (11, (fsX g)))] s.heap.size = A at hD ⊢
  have hA : ∀ q : Nat, s.heap.size ≤ q → A q := fun q h => by rw [← hAe]; exact Or.inr h
  have hS : va_S A s.heap s.heap [] := va_S.rf
  have hl := lv_entry ([.ref h0, .int p0]) (n := 2) (Nat.le_of_ble_eq_true rfl)
  rw [lg_entry_eq]
  generalize (lg_sl ([.ref h0, .int p0]) ++ List.replicate (2 - (lg_sl ([.ref h0, .int p0])).length) Slot.unset).toArray = ls at hl ⊢
  have hl : lv_has ls 2 [(0, .ref h0), (1, .int p0)] := hl
  refine lv_iload_n hx hb dX11_volumeAt_0 rfl (lv_at hl 1 rfl) ?_
  refine lv_if_lt (tgt := 12) hx hb dX11_volumeAt_1 (by decide) (fun c_1 => ?_) (fun c_1 => ?_)
  · refine lv_null hx hb dX11_volumeAt_12 ?_
    refine lv_goto (tgt := 22) hx hb dX11_volumeAt_13 (by decide) ?_
    exact W.aret (v := .null) hx hb hr (Or.inl ⟨"DiskEvidence$Volume", rfl⟩) (Or.inl rfl) (fun t ht hW => ⟨none, rfl, rfl, ht⟩) (fun _ h => by cases h) dX11_volumeAt_22
  · refine lv_iload_n hx hb dX11_volumeAt_4 rfl (lv_at hl 1 rfl) ?_
    refine lv_aload_n hx hb dX11_volumeAt_5 rfl (lv_at hl 0 rfl) ?_
    refine va_get (D := (dC, dI)) (ci := 11) (v := .int 0) (C := RX11) (T := TX11) (N := 20) hx hb hts inX11_volumeAt_c11 hown hK hP 0 rfl rfl 6 (by decide) (hts (.fieldLink RX11 143 "DiskEvidence" "volumeCount" "I") (List.mem_of_getElem? (i := 1) rfl)) (fun _ h9 => h9) rfl dX11_volumeAt_6 ?_
    refine lv_icmp_lt (tgt := 16) hx hb dX11_volumeAt_9 (by decide) (fun c_2 => absurd c_2 c_1) (fun _ => ?_)
    refine lv_null hx hb dX11_volumeAt_12 ?_
    refine lv_goto (tgt := 22) hx hb dX11_volumeAt_13 (by decide) ?_
    exact W.aret (v := .null) hx hb hr (Or.inl ⟨"DiskEvidence$Volume", rfl⟩) (Or.inl rfl) (fun t ht hW => ⟨none, rfl, rfl, ht⟩) (fun _ h => by cases h) dX11_volumeAt_22
set_option maxHeartbeats 40000000 in
set_option maxRecDepth 100000 in
theorem c_X11_treeAt (l : Launch) (dC : Nat → ClassId) (dI : Nat → Nat → Nat) (cI cB cZ cJ cC cP cV cT cO : ClassId) (sz : Nat) (h0 : Nat) (g : Nat → Nat)  (p0 : Int32) : Met l yX11_treeAt wsX11_treeAt ({ frames := 0, cells := 0, slots := 0, locals := 0 }) (va_Pc [.ref h0, .int p0] (fun U => U.heap.size = sz ∧ va_P (dC, dI) vwCl [(h0, .inr (11, (fsX g)))] U.heap ∧ va_K (dC, dI) vwCl [(cI, .int), (cB, .byte), (cZ, .boolean), (cJ, .long), (cC, .char), (cP, .object "DiskEvidence$Picture"), (cV, .object "DiskEvidence$Volume"), (cT, .object "DiskEvidence$Tree"), (cO, .object "DiskEvidence$Opening")] U ∧ va_D (fun _ => True) [(h0, .inr (11, (fsX g)))])) (va_Sq (fun r : Option Nat => r = none)) 0 0 (fun _ => False) := by
  refine Met.ofW (cc := cX11_treeAt) (maxL := 2) (ret := (some (.object "DiskEvidence$Tree"))) (by decide) rfl ?_
  intro p e s m args below meth c s₁ B hml hv
  obtain ⟨rfl, hsz, hP, hK, hD0⟩ := hv
  have hx := B.exec
  have hb := B.bytes
  have hr := B.returns
  have hts := atoms_spec (ws := wsX11_treeAt) B.pre
  have hown : s.vm.findClass RX11 = some m.cls := findClass_of_methodNamed B.named
  have hlocks := B.notSynchronized
  subst hsz
  have hD := hD0.self (sz := s.heap.size)
  generalize hAe : va_A [(h0, .inr (11, (fsX g)))] s.heap.size = A at hD ⊢
  have hA : ∀ q : Nat, s.heap.size ≤ q → A q := fun q h => by rw [← hAe]; exact Or.inr h
  have hS : va_S A s.heap s.heap [] := va_S.rf
  have hl := lv_entry ([.ref h0, .int p0]) (n := 2) (Nat.le_of_ble_eq_true rfl)
  rw [lg_entry_eq]
  generalize (lg_sl ([.ref h0, .int p0]) ++ List.replicate (2 - (lg_sl ([.ref h0, .int p0])).length) Slot.unset).toArray = ls at hl ⊢
  have hl : lv_has ls 2 [(0, .ref h0), (1, .int p0)] := hl
  refine lv_iload_n hx hb dX11_treeAt_0 rfl (lv_at hl 1 rfl) ?_
  refine lv_if_lt (tgt := 12) hx hb dX11_treeAt_1 (by decide) (fun c_1 => ?_) (fun c_1 => ?_)
  · refine lv_null hx hb dX11_treeAt_12 ?_
    refine lv_goto (tgt := 22) hx hb dX11_treeAt_13 (by decide) ?_
    exact W.aret (v := .null) hx hb hr (Or.inl ⟨"DiskEvidence$Tree", rfl⟩) (Or.inl rfl) (fun t ht hW => ⟨none, rfl, rfl, ht⟩) (fun _ h => by cases h) dX11_treeAt_22
  · refine lv_iload_n hx hb dX11_treeAt_4 rfl (lv_at hl 1 rfl) ?_
    refine lv_aload_n hx hb dX11_treeAt_5 rfl (lv_at hl 0 rfl) ?_
    refine va_get (D := (dC, dI)) (ci := 11) (v := .int 0) (C := RX11) (T := TX11) (N := 20) hx hb hts inX11_treeAt_c11 hown hK hP 0 rfl rfl 8 (by decide) (hts (.fieldLink RX11 188 "DiskEvidence" "treeCount" "I") (List.mem_of_getElem? (i := 1) rfl)) (fun _ h9 => h9) rfl dX11_treeAt_6 ?_
    refine lv_icmp_lt (tgt := 16) hx hb dX11_treeAt_9 (by decide) (fun c_2 => absurd c_2 c_1) (fun _ => ?_)
    refine lv_null hx hb dX11_treeAt_12 ?_
    refine lv_goto (tgt := 22) hx hb dX11_treeAt_13 (by decide) ?_
    exact W.aret (v := .null) hx hb hr (Or.inl ⟨"DiskEvidence$Tree", rfl⟩) (Or.inl rfl) (fun t ht hW => ⟨none, rfl, rfl, ht⟩) (fun _ h => by cases h) dX11_treeAt_22
set_option maxHeartbeats 40000000 in
set_option maxRecDepth 100000 in
theorem c_X11_openingAt (l : Launch) (dC : Nat → ClassId) (dI : Nat → Nat → Nat) (cI cB cZ cJ cC cP cV cT cO : ClassId) (sz : Nat) (h0 : Nat) (g : Nat → Nat)  (p0 : Int32) : Met l yX11_openingAt wsX11_openingAt ({ frames := 0, cells := 0, slots := 0, locals := 0 }) (va_Pc [.ref h0, .int p0] (fun U => U.heap.size = sz ∧ va_P (dC, dI) vwCl [(h0, .inr (11, (fsX g)))] U.heap ∧ va_K (dC, dI) vwCl [(cI, .int), (cB, .byte), (cZ, .boolean), (cJ, .long), (cC, .char), (cP, .object "DiskEvidence$Picture"), (cV, .object "DiskEvidence$Volume"), (cT, .object "DiskEvidence$Tree"), (cO, .object "DiskEvidence$Opening")] U ∧ va_D (fun _ => True) [(h0, .inr (11, (fsX g)))])) (va_Sq (fun r : Option Nat => r = none)) 0 0 (fun _ => False) := by
  refine Met.ofW (cc := cX11_openingAt) (maxL := 2) (ret := (some (.object "DiskEvidence$Opening"))) (by decide) rfl ?_
  intro p e s m args below meth c s₁ B hml hv
  obtain ⟨rfl, hsz, hP, hK, hD0⟩ := hv
  have hx := B.exec
  have hb := B.bytes
  have hr := B.returns
  have hts := atoms_spec (ws := wsX11_openingAt) B.pre
  have hown : s.vm.findClass RX11 = some m.cls := findClass_of_methodNamed B.named
  have hlocks := B.notSynchronized
  subst hsz
  have hD := hD0.self (sz := s.heap.size)
  generalize hAe : va_A [(h0, .inr (11, (fsX g)))] s.heap.size = A at hD ⊢
  have hA : ∀ q : Nat, s.heap.size ≤ q → A q := fun q h => by rw [← hAe]; exact Or.inr h
  have hS : va_S A s.heap s.heap [] := va_S.rf
  have hl := lv_entry ([.ref h0, .int p0]) (n := 2) (Nat.le_of_ble_eq_true rfl)
  rw [lg_entry_eq]
  generalize (lg_sl ([.ref h0, .int p0]) ++ List.replicate (2 - (lg_sl ([.ref h0, .int p0])).length) Slot.unset).toArray = ls at hl ⊢
  have hl : lv_has ls 2 [(0, .ref h0), (1, .int p0)] := hl
  refine lv_iload_n hx hb dX11_openingAt_0 rfl (lv_at hl 1 rfl) ?_
  refine lv_if_lt (tgt := 12) hx hb dX11_openingAt_1 (by decide) (fun c_1 => ?_) (fun c_1 => ?_)
  · refine lv_null hx hb dX11_openingAt_12 ?_
    refine lv_goto (tgt := 22) hx hb dX11_openingAt_13 (by decide) ?_
    exact W.aret (v := .null) hx hb hr (Or.inl ⟨"DiskEvidence$Opening", rfl⟩) (Or.inl rfl) (fun t ht hW => ⟨none, rfl, rfl, ht⟩) (fun _ h => by cases h) dX11_openingAt_22
  · refine lv_iload_n hx hb dX11_openingAt_4 rfl (lv_at hl 1 rfl) ?_
    refine lv_aload_n hx hb dX11_openingAt_5 rfl (lv_at hl 0 rfl) ?_
    refine va_get (D := (dC, dI)) (ci := 11) (v := .int 0) (C := RX11) (T := TX11) (N := 20) hx hb hts inX11_openingAt_c11 hown hK hP 0 rfl rfl 10 (by decide) (hts (.fieldLink RX11 290 "DiskEvidence" "openingCount" "I") (List.mem_of_getElem? (i := 1) rfl)) (fun _ h9 => h9) rfl dX11_openingAt_6 ?_
    refine lv_icmp_lt (tgt := 16) hx hb dX11_openingAt_9 (by decide) (fun c_2 => absurd c_2 c_1) (fun _ => ?_)
    refine lv_null hx hb dX11_openingAt_12 ?_
    refine lv_goto (tgt := 22) hx hb dX11_openingAt_13 (by decide) ?_
    exact W.aret (v := .null) hx hb hr (Or.inl ⟨"DiskEvidence$Opening", rfl⟩) (Or.inl rfl) (fun t ht hW => ⟨none, rfl, rfl, ht⟩) (fun _ h => by cases h) dX11_openingAt_22
set_option maxHeartbeats 40000000 in
set_option maxRecDepth 100000 in
theorem c_X12_isPicture (l : Launch) (dC : Nat → ClassId) (dI : Nat → Nat → Nat) (cI cB cZ cJ cC cP cV cT cO : ClassId) (sz : Nat) (h0 : Nat) (g : Nat → Nat)  (p0 : Int32) : Met l yX12_isPicture wsX12_isPicture ({ frames := 1, cells := 0, slots := 0, locals := 25 }) (va_Pc [.ref h0, .int p0] (fun U => U.heap.size = sz ∧ va_P (dC, dI) vwCl [(h0, .inr (12, (fsM g)))] U.heap ∧ va_K (dC, dI) vwCl [(cI, .int), (cB, .byte), (cZ, .boolean), (cJ, .long), (cC, .char), (cP, .object "DiskEvidence$Picture"), (cV, .object "DiskEvidence$Volume"), (cT, .object "DiskEvidence$Tree"), (cO, .object "DiskEvidence$Opening")] U ∧ va_D (fun _ => True) [(h0, .inr (12, (fsM g)))])) (vp_Si (fun r : Int32 => r = 0)) 0 0 (fun _ => False) := by
  refine Met.ofW (cc := cX12_isPicture) (maxL := 2) (ret := (some .boolean)) (by decide) rfl ?_
  intro p e s m args below meth c s₁ B hml hv
  obtain ⟨rfl, hsz, hP, hK, hD0⟩ := hv
  have hx := B.exec
  have hb := B.bytes
  have hr := B.returns
  have hts := atoms_spec (ws := wsX12_isPicture) B.pre
  have hown : s.vm.findClass RX12 = some m.cls := findClass_of_methodNamed B.named
  have hlocks := B.notSynchronized
  subst hsz
  have hD := hD0.self (sz := s.heap.size)
  generalize hAe : va_A [(h0, .inr (12, (fsM g)))] s.heap.size = A at hD ⊢
  have hA : ∀ q : Nat, s.heap.size ≤ q → A q := fun q h => by rw [← hAe]; exact Or.inr h
  have hS : va_S A s.heap s.heap [] := va_S.rf
  have hl := lv_entry ([.ref h0, .int p0]) (n := 2) (Nat.le_of_ble_eq_true rfl)
  rw [lg_entry_eq]
  generalize (lg_sl ([.ref h0, .int p0]) ++ List.replicate (2 - (lg_sl ([.ref h0, .int p0])).length) Slot.unset).toArray = ls at hl ⊢
  have hl : lv_has ls 2 [(0, .ref h0), (1, .int p0)] := hl
  refine lv_iload_n hx hb dX12_isPicture_0 rfl (lv_at hl 1 rfl) ?_
  refine lv_i2l hx hb dX12_isPicture_1 rfl ?_
  refine lv_topl (fun f_1 ef_1 => ?_)
  refine lv_lconst (v := 0) hx hb dX12_isPicture_2 (by decide) ?_
  refine lv_aload_n hx hb dX12_isPicture_3 rfl (lv_at hl 0 rfl) ?_
  refine va_get (D := (dC, dI)) (ci := 12) (v := .int 0) (C := RX12) (T := TX12) (N := 172) hx hb hts inX12_isPicture_c12 hown hK hP 0 rfl rfl 3 (by decide) (hts (.fieldLink RX12 393 "DiskEvidenceModel" "pictures" "I") (List.mem_of_getElem? (i := 1) rfl)) (fun _ h9 => h9) rfl dX12_isPicture_4 ?_
  refine lv_iconst (v := 1) hx hb dX12_isPicture_7 (by decide) ?_
  refine lv_isub hx hb dX12_isPicture_8 ?_
  refine lv_topi (fun f_2 ef_2 => ?_)
  obtain rfl : f_2 = (-1 : Int32) := ef_2.trans (by decide)
  refine lv_i2l (v := (-1)) hx hb dX12_isPicture_9 (by decide) ?_
  refine vp_callSi (va_Run.run (va_runS (As := [.long f_1, .long 0, .long (-1)]) (rest := []) ⟨hx, hb, hml, hown, hts⟩ (c_X12_in l f_1 0 (-1)) (va_cwS 3 hts gX12_isPicture_X12_in rfl rfl rfl (by decide +kernel) ⟨Nat.le_of_ble_eq_true rfl, Nat.le_of_ble_eq_true rfl⟩) ⟨fun a U g mk q => q, fun U hU hW => ⟨rfl, trivial⟩⟩ rfl rfl hl.1 rfl (lv_room (Nat.le_of_ble_eq_true rfl)) dX12_isPicture_10 ⟨Nat.le_of_ble_eq_true rfl, Nat.le_of_ble_eq_true rfl⟩)) (fun r_3 hr_3 => ?_)
  rcases hr_3 with ⟨rfl, hlo_4, hhi_4⟩ | ⟨rfl, hno_4⟩
  · exact absurd (Int64.le_trans hlo_4 hhi_4) (by decide)
  · exact W.zret (v := 0) hx hb hr rfl (fun t ht hW => ⟨0, rfl, rfl, ht⟩) (fun _ h => by cases h) dX12_isPicture_13
set_option maxHeartbeats 40000000 in
set_option maxRecDepth 100000 in
theorem c_X12_isVolume (l : Launch) (dC : Nat → ClassId) (dI : Nat → Nat → Nat) (cI cB cZ cJ cC cP cV cT cO : ClassId) (sz : Nat) (h0 : Nat) (g : Nat → Nat)  (p0 : Int32) : Met l yX12_isVolume wsX12_isVolume ({ frames := 1, cells := 0, slots := 0, locals := 25 }) (va_Pc [.ref h0, .int p0] (fun U => U.heap.size = sz ∧ va_P (dC, dI) vwCl [(h0, .inr (12, (fsM g)))] U.heap ∧ va_K (dC, dI) vwCl [(cI, .int), (cB, .byte), (cZ, .boolean), (cJ, .long), (cC, .char), (cP, .object "DiskEvidence$Picture"), (cV, .object "DiskEvidence$Volume"), (cT, .object "DiskEvidence$Tree"), (cO, .object "DiskEvidence$Opening")] U ∧ va_D (fun _ => True) [(h0, .inr (12, (fsM g)))])) (vp_Si (fun r : Int32 => r = 0)) 0 0 (fun _ => False) := by
  refine Met.ofW (cc := cX12_isVolume) (maxL := 2) (ret := (some .boolean)) (by decide) rfl ?_
  intro p e s m args below meth c s₁ B hml hv
  obtain ⟨rfl, hsz, hP, hK, hD0⟩ := hv
  have hx := B.exec
  have hb := B.bytes
  have hr := B.returns
  have hts := atoms_spec (ws := wsX12_isVolume) B.pre
  have hown : s.vm.findClass RX12 = some m.cls := findClass_of_methodNamed B.named
  have hlocks := B.notSynchronized
  subst hsz
  have hD := hD0.self (sz := s.heap.size)
  generalize hAe : va_A [(h0, .inr (12, (fsM g)))] s.heap.size = A at hD ⊢
  have hA : ∀ q : Nat, s.heap.size ≤ q → A q := fun q h => by rw [← hAe]; exact Or.inr h
  have hS : va_S A s.heap s.heap [] := va_S.rf
  have hl := lv_entry ([.ref h0, .int p0]) (n := 2) (Nat.le_of_ble_eq_true rfl)
  rw [lg_entry_eq]
  generalize (lg_sl ([.ref h0, .int p0]) ++ List.replicate (2 - (lg_sl ([.ref h0, .int p0])).length) Slot.unset).toArray = ls at hl ⊢
  have hl : lv_has ls 2 [(0, .ref h0), (1, .int p0)] := hl
  refine lv_iload_n hx hb dX12_isVolume_0 rfl (lv_at hl 1 rfl) ?_
  refine lv_i2l hx hb dX12_isVolume_1 rfl ?_
  refine lv_topl (fun f_1 ef_1 => ?_)
  refine lv_lconst (v := 0) hx hb dX12_isVolume_2 (by decide) ?_
  refine lv_aload_n hx hb dX12_isVolume_3 rfl (lv_at hl 0 rfl) ?_
  refine va_get (D := (dC, dI)) (ci := 12) (v := .int 0) (C := RX12) (T := TX12) (N := 172) hx hb hts inX12_isVolume_c12 hown hK hP 0 rfl rfl 7 (by decide) (hts (.fieldLink RX12 466 "DiskEvidenceModel" "volumes" "I") (List.mem_of_getElem? (i := 1) rfl)) (fun _ h9 => h9) rfl dX12_isVolume_4 ?_
  refine lv_iconst (v := 1) hx hb dX12_isVolume_7 (by decide) ?_
  refine lv_isub hx hb dX12_isVolume_8 ?_
  refine lv_topi (fun f_2 ef_2 => ?_)
  obtain rfl : f_2 = (-1 : Int32) := ef_2.trans (by decide)
  refine lv_i2l (v := (-1)) hx hb dX12_isVolume_9 (by decide) ?_
  refine vp_callSi (va_Run.run (va_runS (As := [.long f_1, .long 0, .long (-1)]) (rest := []) ⟨hx, hb, hml, hown, hts⟩ (c_X12_in l f_1 0 (-1)) (va_cwS 3 hts gX12_isVolume_X12_in rfl rfl rfl (by decide +kernel) ⟨Nat.le_of_ble_eq_true rfl, Nat.le_of_ble_eq_true rfl⟩) ⟨fun a U g mk q => q, fun U hU hW => ⟨rfl, trivial⟩⟩ rfl rfl hl.1 rfl (lv_room (Nat.le_of_ble_eq_true rfl)) dX12_isVolume_10 ⟨Nat.le_of_ble_eq_true rfl, Nat.le_of_ble_eq_true rfl⟩)) (fun r_3 hr_3 => ?_)
  rcases hr_3 with ⟨rfl, hlo_4, hhi_4⟩ | ⟨rfl, hno_4⟩
  · exact absurd (Int64.le_trans hlo_4 hhi_4) (by decide)
  · exact W.zret (v := 0) hx hb hr rfl (fun t ht hW => ⟨0, rfl, rfl, ht⟩) (fun _ h => by cases h) dX12_isVolume_13
set_option maxHeartbeats 40000000 in
set_option maxRecDepth 100000 in
theorem c_X12_isTree (l : Launch) (dC : Nat → ClassId) (dI : Nat → Nat → Nat) (cI cB cZ cJ cC cP cV cT cO : ClassId) (sz : Nat) (h0 : Nat) (g : Nat → Nat)  (p0 : Int32) : Met l yX12_isTree wsX12_isTree ({ frames := 1, cells := 0, slots := 0, locals := 25 }) (va_Pc [.ref h0, .int p0] (fun U => U.heap.size = sz ∧ va_P (dC, dI) vwCl [(h0, .inr (12, (fsM g)))] U.heap ∧ va_K (dC, dI) vwCl [(cI, .int), (cB, .byte), (cZ, .boolean), (cJ, .long), (cC, .char), (cP, .object "DiskEvidence$Picture"), (cV, .object "DiskEvidence$Volume"), (cT, .object "DiskEvidence$Tree"), (cO, .object "DiskEvidence$Opening")] U ∧ va_D (fun _ => True) [(h0, .inr (12, (fsM g)))])) (vp_Si (fun r : Int32 => r = 0)) 0 0 (fun _ => False) := by
  refine Met.ofW (cc := cX12_isTree) (maxL := 2) (ret := (some .boolean)) (by decide) rfl ?_
  intro p e s m args below meth c s₁ B hml hv
  obtain ⟨rfl, hsz, hP, hK, hD0⟩ := hv
  have hx := B.exec
  have hb := B.bytes
  have hr := B.returns
  have hts := atoms_spec (ws := wsX12_isTree) B.pre
  have hown : s.vm.findClass RX12 = some m.cls := findClass_of_methodNamed B.named
  have hlocks := B.notSynchronized
  subst hsz
  have hD := hD0.self (sz := s.heap.size)
  generalize hAe : va_A [(h0, .inr (12, (fsM g)))] s.heap.size = A at hD ⊢
  have hA : ∀ q : Nat, s.heap.size ≤ q → A q := fun q h => by rw [← hAe]; exact Or.inr h
  have hS : va_S A s.heap s.heap [] := va_S.rf
  have hl := lv_entry ([.ref h0, .int p0]) (n := 2) (Nat.le_of_ble_eq_true rfl)
  rw [lg_entry_eq]
  generalize (lg_sl ([.ref h0, .int p0]) ++ List.replicate (2 - (lg_sl ([.ref h0, .int p0])).length) Slot.unset).toArray = ls at hl ⊢
  have hl : lv_has ls 2 [(0, .ref h0), (1, .int p0)] := hl
  refine lv_iload_n hx hb dX12_isTree_0 rfl (lv_at hl 1 rfl) ?_
  refine lv_i2l hx hb dX12_isTree_1 rfl ?_
  refine lv_topl (fun f_1 ef_1 => ?_)
  refine lv_lconst (v := 0) hx hb dX12_isTree_2 (by decide) ?_
  refine lv_aload_n hx hb dX12_isTree_3 rfl (lv_at hl 0 rfl) ?_
  refine va_get (D := (dC, dI)) (ci := 12) (v := .int 0) (C := RX12) (T := TX12) (N := 172) hx hb hts inX12_isTree_c12 hown hK hP 0 rfl rfl 59 (by decide) (hts (.fieldLink RX12 794 "DiskEvidenceModel" "trees" "I") (List.mem_of_getElem? (i := 1) rfl)) (fun _ h9 => h9) rfl dX12_isTree_4 ?_
  refine lv_iconst (v := 1) hx hb dX12_isTree_7 (by decide) ?_
  refine lv_isub hx hb dX12_isTree_8 ?_
  refine lv_topi (fun f_2 ef_2 => ?_)
  obtain rfl : f_2 = (-1 : Int32) := ef_2.trans (by decide)
  refine lv_i2l (v := (-1)) hx hb dX12_isTree_9 (by decide) ?_
  refine vp_callSi (va_Run.run (va_runS (As := [.long f_1, .long 0, .long (-1)]) (rest := []) ⟨hx, hb, hml, hown, hts⟩ (c_X12_in l f_1 0 (-1)) (va_cwS 3 hts gX12_isTree_X12_in rfl rfl rfl (by decide +kernel) ⟨Nat.le_of_ble_eq_true rfl, Nat.le_of_ble_eq_true rfl⟩) ⟨fun a U g mk q => q, fun U hU hW => ⟨rfl, trivial⟩⟩ rfl rfl hl.1 rfl (lv_room (Nat.le_of_ble_eq_true rfl)) dX12_isTree_10 ⟨Nat.le_of_ble_eq_true rfl, Nat.le_of_ble_eq_true rfl⟩)) (fun r_3 hr_3 => ?_)
  rcases hr_3 with ⟨rfl, hlo_4, hhi_4⟩ | ⟨rfl, hno_4⟩
  · exact absurd (Int64.le_trans hlo_4 hhi_4) (by decide)
  · exact W.zret (v := 0) hx hb hr rfl (fun t ht hW => ⟨0, rfl, rfl, ht⟩) (fun _ h => by cases h) dX12_isTree_13
set_option maxHeartbeats 40000000 in
set_option maxRecDepth 100000 in
theorem c_X12_isOpen (l : Launch) (dC : Nat → ClassId) (dI : Nat → Nat → Nat) (cI cB cZ cJ cC cP cV cT cO : ClassId) (sz : Nat) (h0 : Nat) (g : Nat → Nat)  (p0 : Int32) : Met l yX12_isOpen wsX12_isOpen ({ frames := 1, cells := 0, slots := 0, locals := 25 }) (va_Pc [.ref h0, .int p0] (fun U => U.heap.size = sz ∧ va_P (dC, dI) vwCl [(h0, .inr (12, (fsM g)))] U.heap ∧ va_K (dC, dI) vwCl [(cI, .int), (cB, .byte), (cZ, .boolean), (cJ, .long), (cC, .char), (cP, .object "DiskEvidence$Picture"), (cV, .object "DiskEvidence$Volume"), (cT, .object "DiskEvidence$Tree"), (cO, .object "DiskEvidence$Opening")] U ∧ va_D (fun _ => True) [(h0, .inr (12, (fsM g)))])) (vp_Si (fun r : Int32 => r = 0)) 0 0 (fun _ => False) := by
  refine Met.ofW (cc := cX12_isOpen) (maxL := 2) (ret := (some .boolean)) (by decide) rfl ?_
  intro p e s m args below meth c s₁ B hml hv
  obtain ⟨rfl, hsz, hP, hK, hD0⟩ := hv
  have hx := B.exec
  have hb := B.bytes
  have hr := B.returns
  have hts := atoms_spec (ws := wsX12_isOpen) B.pre
  have hown : s.vm.findClass RX12 = some m.cls := findClass_of_methodNamed B.named
  have hlocks := B.notSynchronized
  subst hsz
  have hD := hD0.self (sz := s.heap.size)
  generalize hAe : va_A [(h0, .inr (12, (fsM g)))] s.heap.size = A at hD ⊢
  have hA : ∀ q : Nat, s.heap.size ≤ q → A q := fun q h => by rw [← hAe]; exact Or.inr h
  have hS : va_S A s.heap s.heap [] := va_S.rf
  have hl := lv_entry ([.ref h0, .int p0]) (n := 2) (Nat.le_of_ble_eq_true rfl)
  rw [lg_entry_eq]
  generalize (lg_sl ([.ref h0, .int p0]) ++ List.replicate (2 - (lg_sl ([.ref h0, .int p0])).length) Slot.unset).toArray = ls at hl ⊢
  have hl : lv_has ls 2 [(0, .ref h0), (1, .int p0)] := hl
  refine lv_iload_n hx hb dX12_isOpen_0 rfl (lv_at hl 1 rfl) ?_
  refine lv_i2l hx hb dX12_isOpen_1 rfl ?_
  refine lv_topl (fun f_1 ef_1 => ?_)
  refine lv_lconst (v := 0) hx hb dX12_isOpen_2 (by decide) ?_
  refine lv_aload_n hx hb dX12_isOpen_3 rfl (lv_at hl 0 rfl) ?_
  refine va_get (D := (dC, dI)) (ci := 12) (v := .int 0) (C := RX12) (T := TX12) (N := 172) hx hb hts inX12_isOpen_c12 hown hK hP 0 rfl rfl 107 (by decide) (hts (.fieldLink RX12 983 "DiskEvidenceModel" "opens" "I") (List.mem_of_getElem? (i := 1) rfl)) (fun _ h9 => h9) rfl dX12_isOpen_4 ?_
  refine lv_iconst (v := 1) hx hb dX12_isOpen_7 (by decide) ?_
  refine lv_isub hx hb dX12_isOpen_8 ?_
  refine lv_topi (fun f_2 ef_2 => ?_)
  obtain rfl : f_2 = (-1 : Int32) := ef_2.trans (by decide)
  refine lv_i2l (v := (-1)) hx hb dX12_isOpen_9 (by decide) ?_
  refine vp_callSi (va_Run.run (va_runS (As := [.long f_1, .long 0, .long (-1)]) (rest := []) ⟨hx, hb, hml, hown, hts⟩ (c_X12_in l f_1 0 (-1)) (va_cwS 3 hts gX12_isOpen_X12_in rfl rfl rfl (by decide +kernel) ⟨Nat.le_of_ble_eq_true rfl, Nat.le_of_ble_eq_true rfl⟩) ⟨fun a U g mk q => q, fun U hU hW => ⟨rfl, trivial⟩⟩ rfl rfl hl.1 rfl (lv_room (Nat.le_of_ble_eq_true rfl)) dX12_isOpen_10 ⟨Nat.le_of_ble_eq_true rfl, Nat.le_of_ble_eq_true rfl⟩)) (fun r_3 hr_3 => ?_)
  rcases hr_3 with ⟨rfl, hlo_4, hhi_4⟩ | ⟨rfl, hno_4⟩
  · exact absurd (Int64.le_trans hlo_4 hhi_4) (by decide)
  · exact W.zret (v := 0) hx hb hr rfl (fun t ht hW => ⟨0, rfl, rfl, ht⟩) (fun _ h => by cases h) dX12_isOpen_13
set_option maxHeartbeats 40000000 in
set_option maxRecDepth 100000 in
theorem c_X11_sectors (l : Launch) (dC : Nat → ClassId) (dI : Nat → Nat → Nat) (cI cB cZ cJ cC cP cV cT cO : ClassId) (sz : Nat) (h0 : Nat) (g : Nat → Nat)  (p0 : Int32) : Met l yX11_sectors wsX11_sectors ({ frames := 1, cells := 0, slots := 0, locals := 21 }) (va_Pc [.ref h0, .int p0] (fun U => U.heap.size = sz ∧ va_P (dC, dI) vwCl [(h0, .inr (11, (fsX g)))] U.heap ∧ va_K (dC, dI) vwCl [(cI, .int), (cB, .byte), (cZ, .boolean), (cJ, .long), (cC, .char), (cP, .object "DiskEvidence$Picture"), (cV, .object "DiskEvidence$Volume"), (cT, .object "DiskEvidence$Tree"), (cO, .object "DiskEvidence$Opening")] U ∧ va_D (fun _ => True) [(h0, .inr (11, (fsX g)))])) (vp_Si (fun r : Int32 => r = (-2))) 0 0 (fun _ => False) := by
  refine Met.ofW (cc := cX11_sectors) (maxL := 3) (ret := (some .int)) (by decide) rfl ?_
  intro p e s m args below meth c s₁ B hml hv
  obtain ⟨rfl, hsz, hP, hK, hD0⟩ := hv
  have hx := B.exec
  have hb := B.bytes
  have hr := B.returns
  have hts := atoms_spec (ws := wsX11_sectors) B.pre
  have hown : s.vm.findClass RX11 = some m.cls := findClass_of_methodNamed B.named
  have hlocks := B.notSynchronized
  subst hsz
  have hD := hD0.self (sz := s.heap.size)
  generalize hAe : va_A [(h0, .inr (11, (fsX g)))] s.heap.size = A at hD ⊢
  have hA : ∀ q : Nat, s.heap.size ≤ q → A q := fun q h => by rw [← hAe]; exact Or.inr h
  have hS : va_S A s.heap s.heap [] := va_S.rf
  have hl := lv_entry ([.ref h0, .int p0]) (n := 3) (Nat.le_of_ble_eq_true rfl)
  rw [lg_entry_eq]
  generalize (lg_sl ([.ref h0, .int p0]) ++ List.replicate (3 - (lg_sl ([.ref h0, .int p0])).length) Slot.unset).toArray = ls at hl ⊢
  have hl : lv_has ls 3 [(0, .ref h0), (1, .int p0)] := hl
  refine lv_aload_n hx hb dX11_sectors_0 rfl (lv_at hl 0 rfl) ?_
  refine lv_iload_n hx hb dX11_sectors_1 rfl (lv_at hl 1 rfl) ?_
  have hPc := hP.sub (ws' := [(h0, .inr (11, (fsX g)))]) [0] rfl
  have hDc := hD.sub (ws' := [(h0, .inr (11, (fsX g)))]) [0] (by decide) rfl
  have hKc := hK
  refine va_csq (va_Run.run (va_runV (As := [.int p0]) (rest := []) ⟨hx, hb, hml, hown, hts⟩ (c_X11_pictureAt l dC dI cI cB cZ cJ cC cP cV cT cO s.heap.size h0 g p0) (cwV 1 hts gX11_sectors_X11_pictureAt rfl rfl rfl (by decide +kernel) ⟨Nat.le_of_ble_eq_true rfl, Nat.le_of_ble_eq_true rfl⟩) ⟨fun a U g mk q => by obtain ⟨q0, q1, qP, qK, qD⟩ := q; exact ⟨q0, q1, qP, va_K.moved (u := U) (U := U.calling g mk a) (Vm.Alike.refl U.vm) qK, qD⟩, va_recv hKc hPc (ci := 11) (q0 := 0) rfl rfl, fun U hU hW => ⟨rfl, by rw [hU], by rw [hU]; exact hPc, va_K.moved hW.alike hKc, hDc.weaken (fun _ _ _ _ => trivial)⟩⟩ rfl rfl hl.1 rfl (lv_room (Nat.le_of_ble_eq_true rfl)) dX11_sectors_2 ⟨Nat.le_of_ble_eq_true rfl, Nat.le_of_ble_eq_true rfl⟩)) (fun r_1 hr_1 => ?_)
  obtain rfl : r_1 = none := hr_1
  refine W.eq (g2 := F0 m 5 ls ([.null])) rfl ?_
  refine lv_astore_nN (lv' := [(2, .null), (0, .ref h0), (1, .int p0)]) hx hb dX11_sectors_5 rfl hl (by decide) rfl (fun ls hl => ?_)
  refine lv_aload_nN hx hb dX11_sectors_6 rfl (lv_at hl 0 rfl) ?_
  refine lv_ifnonnullN hx hb dX11_sectors_7 ?_
  refine lv_bipush (v := (-2)) hx hb dX11_sectors_10 (by decide) ?_
  refine lv_goto (tgt := 19) hx hb dX11_sectors_12 (by decide) ?_
  exact W.iret (v := (-2)) hx hb hr (fun t ht hW => ⟨(-2), rfl, rfl, ht⟩) (fun _ h => by cases h) dX11_sectors_19
set_option maxHeartbeats 40000000 in
set_option maxRecDepth 100000 in
theorem c_X12_sectors (l : Launch) (dC : Nat → ClassId) (dI : Nat → Nat → Nat) (cI cB cZ cJ cC cP cV cT cO : ClassId) (sz : Nat) (h0 : Nat) (g : Nat → Nat)  (p0 : Int32) : Met l yX12_sectors wsX12_sectors ({ frames := 2, cells := 0, slots := 0, locals := 46 }) (va_Pc [.ref h0, .int p0] (fun U => U.heap.size = sz ∧ va_P (dC, dI) vwCl [(h0, .inr (12, (fsM g)))] U.heap ∧ va_K (dC, dI) vwCl [(cI, .int), (cB, .byte), (cZ, .boolean), (cJ, .long), (cC, .char), (cP, .object "DiskEvidence$Picture"), (cV, .object "DiskEvidence$Volume"), (cT, .object "DiskEvidence$Tree"), (cO, .object "DiskEvidence$Opening")] U ∧ va_D (fun _ => True) [(h0, .inr (12, (fsM g)))])) (vp_Si (fun r : Int32 => r = (-2))) 0 0 (fun _ => False) := by
  refine Met.ofW (cc := cX12_sectors) (maxL := 2) (ret := (some .int)) (by decide) rfl ?_
  intro p e s m args below meth c s₁ B hml hv
  obtain ⟨rfl, hsz, hP, hK, hD0⟩ := hv
  have hx := B.exec
  have hb := B.bytes
  have hr := B.returns
  have hts := atoms_spec (ws := wsX12_sectors) B.pre
  have hown : s.vm.findClass RX12 = some m.cls := findClass_of_methodNamed B.named
  have hlocks := B.notSynchronized
  subst hsz
  have hD := hD0.self (sz := s.heap.size)
  generalize hAe : va_A [(h0, .inr (12, (fsM g)))] s.heap.size = A at hD ⊢
  have hA : ∀ q : Nat, s.heap.size ≤ q → A q := fun q h => by rw [← hAe]; exact Or.inr h
  have hS : va_S A s.heap s.heap [] := va_S.rf
  have hl := lv_entry ([.ref h0, .int p0]) (n := 2) (Nat.le_of_ble_eq_true rfl)
  rw [lg_entry_eq]
  generalize (lg_sl ([.ref h0, .int p0]) ++ List.replicate (2 - (lg_sl ([.ref h0, .int p0])).length) Slot.unset).toArray = ls at hl ⊢
  have hl : lv_has ls 2 [(0, .ref h0), (1, .int p0)] := hl
  refine lv_aload_n hx hb dX12_sectors_0 rfl (lv_at hl 0 rfl) ?_
  refine lv_iload_n hx hb dX12_sectors_1 rfl (lv_at hl 1 rfl) ?_
  have hPc := hP.sub (ws' := [(h0, .inr (12, (fsM g)))]) [0] rfl
  have hDc := hD.sub (ws' := [(h0, .inr (12, (fsM g)))]) [0] (by decide) rfl
  have hKc := hK
  refine vp_callSi (va_Run.run (va_runV (As := [.int p0]) (rest := []) ⟨hx, hb, hml, hown, hts⟩ (c_X12_isPicture l dC dI cI cB cZ cJ cC cP cV cT cO s.heap.size h0 g p0) (cwV 1 hts gX12_sectors_X12_isPicture rfl rfl rfl (by decide +kernel) ⟨Nat.le_of_ble_eq_true rfl, Nat.le_of_ble_eq_true rfl⟩) ⟨fun a U g mk q => by obtain ⟨q0, q1, qP, qK, qD⟩ := q; exact ⟨q0, q1, qP, va_K.moved (u := U) (U := U.calling g mk a) (Vm.Alike.refl U.vm) qK, qD⟩, va_recv hKc hPc (ci := 12) (q0 := 0) rfl rfl, fun U hU hW => ⟨rfl, by rw [hU], by rw [hU]; exact hPc, va_K.moved hW.alike hKc, hDc.weaken (fun _ _ _ _ => trivial)⟩⟩ rfl rfl hl.1 rfl (lv_room (Nat.le_of_ble_eq_true rfl)) dX12_sectors_2 ⟨Nat.le_of_ble_eq_true rfl, Nat.le_of_ble_eq_true rfl⟩)) (fun r_1 hr_1 => ?_)
  obtain rfl : r_1 = 0 := hr_1
  refine lv_if_eq (tgt := 17) hx hb dX12_sectors_5 (by decide) (fun _ => ?_) (fun c_2 => absurd (by decide) c_2)
  refine lv_bipush (v := (-2)) hx hb dX12_sectors_17 (by decide) ?_
  exact W.iret (v := (-2)) hx hb hr (fun t ht hW => ⟨(-2), rfl, rfl, ht⟩) (fun _ h => by cases h) dX12_sectors_19
end
