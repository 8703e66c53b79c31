theorem goodIn_r {big : List Cond} (ws : List Cond) (ps : List Nat) (hp : ws = ps.filterMap (fun i => big[i]?)) (h : ws.all goodWord = true) : GoodIn big ws := by
  intro w hw
  have h1 := List.all_eq_true.mp h w hw
  rw [hp] at hw
  obtain ⟨i, -, hi⟩ := List.mem_filterMap.mp hw
  have hm : w ∈ big := by first | exact List.mem_of_getElem? hi | exact List.getElem?_mem hi
  exact ⟨hm, good_of_word h1⟩
theorem goodIn_app {big a b : List Cond} (ha : GoodIn big a) (hb : GoodIn big b) : GoodIn big (a ++ b) := fun w h => (List.mem_append.mp h).elim (ha w) (hb w)
def RX0 : String := "DiskEvidence$Finder"
def TX0 : u_T := fun k => match k with
  | 0 => ("DiskEvidence$Finder", "hits", "[I", true)
  | 1 => ("DiskEvidence$Finder", "hitCount", "I", false)
  | 2 => ("DiskEvidence$Finder", "text", "[B", false)
  | 3 => ("DiskEvidence$Finder", "textLength", "I", false)
  | 4 => ("DiskEvidence$Finder", "meets", "[I", true)
  | 5 => ("DiskEvidence$Finder", "atoms", "I", false)
  | 6 => ("DiskEvidence$Finder", "starred", "I", false)
  | 7 => ("DiskEvidence$Finder", "optional", "I", false)
  | 8 => ("DiskEvidence$Finder", "wrongAt", "I", false)
  | _ => ("DiskEvidence$Finder", "hopes", "[I", true)
abbrev wsX00 : List Cond := u_ws RX0 TX0 10
abbrev cX0_findWord : ByteArray := prog_2_method_2_code
def yX0_findWord : MethodName := ⟨RX0, "findWord", "(LDiskEvidence$Tree;[BI[B)I"⟩
abbrev cX0_findPattern : ByteArray := prog_2_method_3_code
def yX0_findPattern : MethodName := ⟨RX0, "findPattern", "(LDiskEvidence$Tree;[BI[B)I"⟩
abbrev cX0_search : ByteArray := prog_2_method_4_code
def yX0_search : MethodName := ⟨RX0, "search", "(LDiskEvidence$Tree;[BZ)V"⟩
abbrev cX0_addHit : ByteArray := prog_2_method_5_code
def yX0_addHit : MethodName := ⟨RX0, "addHit", "(III)V"⟩
abbrev cX0_wordIn : ByteArray := prog_2_method_6_code
def yX0_wordIn : MethodName := ⟨RX0, "wordIn", "([BII)V"⟩
abbrev cX0_readPattern : ByteArray := prog_2_method_7_code
def yX0_readPattern : MethodName := ⟨RX0, "readPattern", "()Z"⟩
abbrev cX0_clearAtoms : ByteArray := prog_2_method_8_code
def yX0_clearAtoms : MethodName := ⟨RX0, "clearAtoms", "()V"⟩
abbrev cX0_meet : ByteArray := prog_2_method_9_code
def yX0_meet : MethodName := ⟨RX0, "meet", "(II)V"⟩
abbrev cX0_wrong : ByteArray := prog_2_method_10_code
def yX0_wrong : MethodName := ⟨RX0, "wrong", "(I)I"⟩
abbrev cX0_readAtom : ByteArray := prog_2_method_11_code
def yX0_readAtom : MethodName := ⟨RX0, "readAtom", "(I)I"⟩
abbrev cX0_readSet : ByteArray := prog_2_method_12_code
def yX0_readSet : MethodName := ⟨RX0, "readSet", "(I)I"⟩
abbrev cX0_matchIn : ByteArray := prog_2_method_13_code
def yX0_matchIn : MethodName := ⟨RX0, "matchIn", "([BII)V"⟩
abbrev cX0_forward : ByteArray := prog_2_method_14_code
def yX0_forward : MethodName := ⟨RX0, "forward", "(I)I"⟩
abbrev cX0_backward : ByteArray := prog_2_method_15_code
def yX0_backward : MethodName := ⟨RX0, "backward", "(I)I"⟩
def RX1 : String := "DiskEvidence$Form"
def TX1 : u_T := fun k => match k with
  | 0 => ("DiskEvidence$Form", "kind", "I", false)
  | 1 => ("DiskEvidence$Form", "n", "I", false)
  | 2 => ("DiskEvidence$Form", "tables", "I", false)
  | 3 => ("DiskEvidence$Form", "tableBlocks", "I", false)
  | 4 => ("DiskEvidence$Form", "rootBlocks", "I", false)
  | 5 => ("DiskEvidence$Form", "zone", "I", false)
  | 6 => ("DiskEvidence$Form", "clusters", "I", false)
  | 7 => ("DiskEvidence$Form", "firstCluster", "I", false)
  | 8 => ("DiskEvidence$Form", "nodes", "I", false)
  | 9 => ("DiskEvidence$Form", "data", "I", false)
  | 10 => ("DiskEvidence$Form", "headers", "[I", true)
  | 11 => ("DiskEvidence$Form", "headerCount", "I", false)
  | 12 => ("DiskEvidence$Form", "tapeEnd", "I", false)
  | 13 => ("DiskEvidence$Form", "tapeFault", "I", false)
  | 14 => ("DiskEvidence$Form", "seen", "[I", true)
  | 15 => ("DiskEvidence$Form", "followed", "I", false)
  | 16 => ("DiskEvidence$Form", "stop", "I", false)
  | _ => ("DiskEvidence$Form", "stopAt", "I", false)
abbrev wsX10 : List Cond := u_ws RX1 TX1 18
abbrev cX1_init : ByteArray := prog_3_method_1_code
def yX1_init : MethodName := ⟨RX1, "<init>", "()V"⟩
abbrev cX1_readFrom : ByteArray := prog_3_method_2_code
def yX1_readFrom : MethodName := ⟨RX1, "readFrom", "([BI)V"⟩
abbrev cX1_readCells : ByteArray := prog_3_method_3_code
def yX1_readCells : MethodName := ⟨RX1, "readCells", "([BI)Z"⟩
abbrev cX1_readNodes : ByteArray := prog_3_method_4_code
def yX1_readNodes : MethodName := ⟨RX1, "readNodes", "([BI)Z"⟩
abbrev cX1_rootBlock : ByteArray := prog_3_method_5_code
def yX1_rootBlock : MethodName := ⟨RX1, "rootBlock", "()I"⟩
abbrev cX1_isCluster : ByteArray := prog_3_method_6_code
def yX1_isCluster : MethodName := ⟨RX1, "isCluster", "(I)Z"⟩
abbrev cX1_clusterBlock : ByteArray := prog_3_method_7_code
def yX1_clusterBlock : MethodName := ⟨RX1, "clusterBlock", "(I)I"⟩
abbrev cX1_clusterOf : ByteArray := prog_3_method_8_code
def yX1_clusterOf : MethodName := ⟨RX1, "clusterOf", "(I)I"⟩
abbrev cX1_cell : ByteArray := prog_3_method_9_code
def yX1_cell : MethodName := ⟨RX1, "cell", "([BI)I"⟩
abbrev cX1_putCell : ByteArray := prog_3_method_10_code
def yX1_putCell : MethodName := ⟨RX1, "putCell", "([BII)V"⟩
abbrev cX1_follow : ByteArray := prog_3_method_11_code
def yX1_follow : MethodName := ⟨RX1, "follow", "([BI[I[I)I"⟩
abbrev cX1_cellsName : ByteArray := prog_3_method_12_code
def yX1_cellsName : MethodName := ⟨RX1, "cellsName", "([BI[B)I"⟩
abbrev cX1_nodeAt : ByteArray := prog_3_method_13_code
def yX1_nodeAt : MethodName := ⟨RX1, "nodeAt", "(I)I"⟩
abbrev cX1_isNode : ByteArray := prog_3_method_14_code
def yX1_isNode : MethodName := ⟨RX1, "isNode", "([BI)Z"⟩
abbrev cX1_isErased : ByteArray := prog_3_method_15_code
def yX1_isErased : MethodName := ⟨RX1, "isErased", "([BI)Z"⟩
abbrev cX1_isData : ByteArray := prog_3_method_16_code
def yX1_isData : MethodName := ⟨RX1, "isData", "(I)Z"⟩
abbrev cX1_placesFor : ByteArray := prog_3_method_17_code
def yX1_placesFor : MethodName := ⟨RX1, "placesFor", "(I)I"⟩
abbrev cX1_placeAt : ByteArray := prog_3_method_18_code
def yX1_placeAt : MethodName := ⟨RX1, "placeAt", "([BII)I"⟩
abbrev cX1_placesOf : ByteArray := prog_3_method_19_code
def yX1_placesOf : MethodName := ⟨RX1, "placesOf", "([BI[I)I"⟩
abbrev cX1_hasBit : ByteArray := prog_3_method_20_code
def yX1_hasBit : MethodName := ⟨RX1, "hasBit", "([BII)Z"⟩
abbrev cX1_putBit : ByteArray := prog_3_method_21_code
def yX1_putBit : MethodName := ⟨RX1, "putBit", "([BIIZ)V"⟩
abbrev cX1_isHeader : ByteArray := prog_3_method_22_code
def yX1_isHeader : MethodName := ⟨RX1, "isHeader", "([BI)Z"⟩
abbrev cX1_octal : ByteArray := prog_3_method_23_code
def yX1_octal : MethodName := ⟨RX1, "octal", "([BII)J"⟩
abbrev cX1_putOctal : ByteArray := prog_3_method_24_code
def yX1_putOctal : MethodName := ⟨RX1, "putOctal", "([BIII)V"⟩
abbrev cX1_sumOf : ByteArray := prog_3_method_25_code
def yX1_sumOf : MethodName := ⟨RX1, "sumOf", "([BI)I"⟩
abbrev cX1_tapeBlocks : ByteArray := prog_3_method_26_code
def yX1_tapeBlocks : MethodName := ⟨RX1, "tapeBlocks", "([BI)I"⟩
abbrev cX1_readHeaders : ByteArray := prog_3_method_27_code
def yX1_readHeaders : MethodName := ⟨RX1, "readHeaders", "([BI)V"⟩
def RX2 : String := "DiskEvidence$Item"
def TX2 : u_T := fun k => match k with
  | 0 => ("DiskEvidence$Item", "sort", "I", true)
  | 1 => ("DiskEvidence$Item", "kind", "I", true)
  | 2 => ("DiskEvidence$Item", "told", "J", true)
  | 3 => ("DiskEvidence$Item", "size", "I", false)
  | 4 => ("DiskEvidence$Item", "grade", "I", false)
  | 5 => ("DiskEvidence$Item", "parent", "I", false)
  | 6 => ("DiskEvidence$Item", "depth", "I", false)
  | 7 => ("DiskEvidence$Item", "faults", "I", false)
  | 8 => ("DiskEvidence$Item", "made", "J", false)
  | 9 => ("DiskEvidence$Item", "altered", "J", false)
  | 10 => ("DiskEvidence$Item", "erased", "J", false)
  | 11 => ("DiskEvidence$Item", "letters", "[B", false)
  | 12 => ("DiskEvidence$Item", "blocks", "[I", false)
  | 13 => ("DiskEvidence$Item", "base", "LDiskEvidence$Item;", false)
  | _ => ("DiskEvidence$Item", "offset", "I", false)
abbrev wsX20 : List Cond := u_ws RX2 TX2 15
abbrev cX2_init : ByteArray := prog_4_method_1_code
def yX2_init : MethodName := ⟨RX2, "<init>", "(IIJ)V"⟩
abbrev cX2_isFolder : ByteArray := prog_4_method_2_code
def yX2_isFolder : MethodName := ⟨RX2, "isFolder", "()Z"⟩
abbrev cX2_blockAt : ByteArray := prog_4_method_3_code
def yX2_blockAt : MethodName := ⟨RX2, "blockAt", "(I)I"⟩
abbrev cX2_fact : ByteArray := prog_4_method_4_code
def yX2_fact : MethodName := ⟨RX2, "fact", "(I)J"⟩
abbrev cX2_endIn : ByteArray := prog_4_method_5_code
def yX2_endIn : MethodName := ⟨RX2, "endIn", "(I)V"⟩
abbrev cX2_stamp : ByteArray := prog_4_method_6_code
def yX2_stamp : MethodName := ⟨RX2, "stamp", "(I)J"⟩
abbrev cX2_hasMoment : ByteArray := prog_4_method_7_code
def yX2_hasMoment : MethodName := ⟨RX2, "hasMoment", "(I)Z"⟩
abbrev cX2_moment : ByteArray := prog_4_method_8_code
def yX2_moment : MethodName := ⟨RX2, "moment", "(II)J"⟩
abbrev cX2_grain : ByteArray := prog_4_method_9_code
def yX2_grain : MethodName := ⟨RX2, "grain", "()I"⟩
abbrev cX2_isNamed : ByteArray := prog_4_method_10_code
def yX2_isNamed : MethodName := ⟨RX2, "isNamed", "([BII)Z"⟩
def RX3 : String := "DiskEvidence$Maker"
def TX3 : u_T := fun k => match k with
  | 0 => ("DiskEvidence$Maker", "image", "[B", true)
  | 1 => ("DiskEvidence$Maker", "before", "[B", true)
  | 2 => ("DiskEvidence$Maker", "rooms", "[B", true)
  | 3 => ("DiskEvidence$Maker", "form", "LDiskEvidence$Form;", true)
  | 4 => ("DiskEvidence$Maker", "letters", "[B", true)
  | 5 => ("DiskEvidence$Maker", "text", "[B", false)
  | 6 => ("DiskEvidence$Maker", "pathEnd", "I", false)
  | 7 => ("DiskEvidence$Maker", "contentsAt", "I", false)
  | 8 => ("DiskEvidence$Maker", "moment", "I", false)
  | 9 => ("DiskEvidence$Maker", "inFolder", "I", false)
  | 10 => ("DiskEvidence$Maker", "folderBlocks", "[I", true)
  | 11 => ("DiskEvidence$Maker", "folderCount", "I", false)
  | 12 => ("DiskEvidence$Maker", "folderRows", "I", false)
  | 13 => ("DiskEvidence$Maker", "nameFrom", "I", false)
  | 14 => ("DiskEvidence$Maker", "rowAt", "I", false)
  | _ => ("DiskEvidence$Maker", "taken", "[I", true)
abbrev wsX30 : List Cond := u_ws RX3 TX3 16
abbrev cX3_look : ByteArray := prog_5_method_2_code
def yX3_look : MethodName := ⟨RX3, "look", "(LDiskEvidence$Volume;)V"⟩
abbrev cX3_carryOut : ByteArray := prog_5_method_3_code
def yX3_carryOut : MethodName := ⟨RX3, "carryOut", "(LDiskEvidence$Volume;I[BII)I"⟩
abbrev cX3_writeChanges : ByteArray := prog_5_method_4_code
def yX3_writeChanges : MethodName := ⟨RX3, "writeChanges", "(LDiskEvidence$Volume;)V"⟩
abbrev cX3_mayFormat : ByteArray := prog_5_method_5_code
def yX3_mayFormat : MethodName := ⟨RX3, "mayFormat", "(II)Z"⟩
abbrev cX3_makeForm : ByteArray := prog_5_method_6_code
def yX3_makeForm : MethodName := ⟨RX3, "makeForm", "(LDiskEvidence$Volume;III)I"⟩
abbrev cX3_makeCells : ByteArray := prog_5_method_7_code
def yX3_makeCells : MethodName := ⟨RX3, "makeCells", "(II)Z"⟩
abbrev cX3_makeNodes : ByteArray := prog_5_method_8_code
def yX3_makeNodes : MethodName := ⟨RX3, "makeNodes", "(II)Z"⟩
abbrev cX3_nameEnd : ByteArray := prog_5_method_9_code
def yX3_nameEnd : MethodName := ⟨RX3, "nameEnd", "(I)I"⟩
abbrev cX3_isPath : ByteArray := prog_5_method_10_code
def yX3_isPath : MethodName := ⟨RX3, "isPath", "()Z"⟩
abbrev cX3_isOtherName : ByteArray := prog_5_method_11_code
def yX3_isOtherName : MethodName := ⟨RX3, "isOtherName", "(II)Z"⟩
abbrev cX3_isCellsName : ByteArray := prog_5_method_12_code
def yX3_isCellsName : MethodName := ⟨RX3, "isCellsName", "(II)Z"⟩
abbrev cX3_isCellsLetter : ByteArray := prog_5_method_13_code
def yX3_isCellsLetter : MethodName := ⟨RX3, "isCellsLetter", "(I)Z"⟩
abbrev cX3_findPlace : ByteArray := prog_5_method_14_code
def yX3_findPlace : MethodName := ⟨RX3, "findPlace", "()Z"⟩
abbrev cX3_enterCells : ByteArray := prog_5_method_15_code
def yX3_enterCells : MethodName := ⟨RX3, "enterCells", "(I)V"⟩
abbrev cX3_enterNode : ByteArray := prog_5_method_16_code
def yX3_enterNode : MethodName := ⟨RX3, "enterNode", "(I)V"⟩
abbrev cX3_rowPlace : ByteArray := prog_5_method_17_code
def yX3_rowPlace : MethodName := ⟨RX3, "rowPlace", "(I)I"⟩
abbrev cX3_findRow : ByteArray := prog_5_method_18_code
def yX3_findRow : MethodName := ⟨RX3, "findRow", "(II)I"⟩
abbrev cX3_isCellsRow : ByteArray := prog_5_method_19_code
def yX3_isCellsRow : MethodName := ⟨RX3, "isCellsRow", "(III)Z"⟩
abbrev cX3_isNodesRow : ByteArray := prog_5_method_20_code
def yX3_isNodesRow : MethodName := ⟨RX3, "isNodesRow", "(III)Z"⟩
abbrev cX3_isFolderRow : ByteArray := prog_5_method_21_code
def yX3_isFolderRow : MethodName := ⟨RX3, "isFolderRow", "(I)Z"⟩
abbrev cX3_freeRow : ByteArray := prog_5_method_22_code
def yX3_freeRow : MethodName := ⟨RX3, "freeRow", "()I"⟩
abbrev cX3_store : ByteArray := prog_5_method_23_code
def yX3_store : MethodName := ⟨RX3, "store", "(ZI)I"⟩
abbrev cX3_storeCells : ByteArray := prog_5_method_24_code
def yX3_storeCells : MethodName := ⟨RX3, "storeCells", "(ZZII)Z"⟩
abbrev cX3_cellsMoment : ByteArray := prog_5_method_25_code
def yX3_cellsMoment : MethodName := ⟨RX3, "cellsMoment", "()I"⟩
abbrev cX3_putCellsName : ByteArray := prog_5_method_26_code
def yX3_putCellsName : MethodName := ⟨RX3, "putCellsName", "()V"⟩
abbrev cX3_dropChain : ByteArray := prog_5_method_27_code
def yX3_dropChain : MethodName := ⟨RX3, "dropChain", "(I)V"⟩
abbrev cX3_takeClusters : ByteArray := prog_5_method_28_code
def yX3_takeClusters : MethodName := ⟨RX3, "takeClusters", "(I)Z"⟩
abbrev cX3_fill : ByteArray := prog_5_method_29_code
def yX3_fill : MethodName := ⟨RX3, "fill", "(II)V"⟩
abbrev cX3_growCells : ByteArray := prog_5_method_30_code
def yX3_growCells : MethodName := ⟨RX3, "growCells", "()I"⟩
abbrev cX3_growNode : ByteArray := prog_5_method_31_code
def yX3_growNode : MethodName := ⟨RX3, "growNode", "()I"⟩
abbrev cX3_storeNode : ByteArray := prog_5_method_32_code
def yX3_storeNode : MethodName := ⟨RX3, "storeNode", "(ZZII)Z"⟩
abbrev cX3_putNode : ByteArray := prog_5_method_33_code
def yX3_putNode : MethodName := ⟨RX3, "putNode", "(III)V"⟩
abbrev cX3_takeBlock : ByteArray := prog_5_method_34_code
def yX3_takeBlock : MethodName := ⟨RX3, "takeBlock", "(I)I"⟩
abbrev cX3_takeBit : ByteArray := prog_5_method_35_code
def yX3_takeBit : MethodName := ⟨RX3, "takeBit", "(III)I"⟩
abbrev cX3_dropBlocks : ByteArray := prog_5_method_36_code
def yX3_dropBlocks : MethodName := ⟨RX3, "dropBlocks", "(I)V"⟩
abbrev cX3_eraseRow : ByteArray := prog_5_method_37_code
def yX3_eraseRow : MethodName := ⟨RX3, "eraseRow", "()I"⟩
abbrev cX3_hasLivingRows : ByteArray := prog_5_method_38_code
def yX3_hasLivingRows : MethodName := ⟨RX3, "hasLivingRows", "(I)Z"⟩
abbrev cX3_onTape : ByteArray := prog_5_method_39_code
def yX3_onTape : MethodName := ⟨RX3, "onTape", "(III)I"⟩
def RX4 : String := "DiskEvidence$Opening"
def TX4 : u_T := fun k => match k with
  | 0 => ("DiskEvidence$Opening", "treeNumber", "I", true)
  | 1 => ("DiskEvidence$Opening", "fileNumber", "I", true)
  | 2 => ("DiskEvidence$Opening", "facts", "[I", true)
  | 3 => ("DiskEvidence$Opening", "nodeCount", "I", false)
  | 4 => ("DiskEvidence$Opening", "source", "[B", false)
  | 5 => ("DiskEvidence$Opening", "begin", "I", false)
  | 6 => ("DiskEvidence$Opening", "length", "I", false)
  | 7 => ("DiskEvidence$Opening", "place", "I", false)
  | 8 => ("DiskEvidence$Opening", "broken", "Z", false)
  | _ => ("DiskEvidence$Opening", "columns", "I", false)
abbrev wsX40 : List Cond := u_ws RX4 TX4 10
abbrev cX4_init : ByteArray := prog_6_method_1_code
def yX4_init : MethodName := ⟨RX4, "<init>", "(III)V"⟩
abbrev cX4_formatOf : ByteArray := prog_6_method_2_code
def yX4_formatOf : MethodName := ⟨RX4, "formatOf", "([BII)I"⟩
abbrev cX4_wholeSize : ByteArray := prog_6_method_3_code
def yX4_wholeSize : MethodName := ⟨RX4, "wholeSize", "([BII)I"⟩
abbrev cX4_parse : ByteArray := prog_6_method_4_code
def yX4_parse : MethodName := ⟨RX4, "parse", "([BIII)V"⟩
abbrev cX4_start : ByteArray := prog_6_method_5_code
def yX4_start : MethodName := ⟨RX4, "start", "([BII)V"⟩
abbrev cX4_nodeFact : ByteArray := prog_6_method_6_code
def yX4_nodeFact : MethodName := ⟨RX4, "nodeFact", "(II)I"⟩
abbrev cX4_leftOver : ByteArray := prog_6_method_7_code
def yX4_leftOver : MethodName := ⟨RX4, "leftOver", "()I"⟩
abbrev cX4_addNode : ByteArray := prog_6_method_8_code
def yX4_addNode : MethodName := ⟨RX4, "addNode", "(IIIII)I"⟩
abbrev cX4_at8 : ByteArray := prog_6_method_9_code
def yX4_at8 : MethodName := ⟨RX4, "at8", "(I)I"⟩
abbrev cX4_at16 : ByteArray := prog_6_method_10_code
def yX4_at16 : MethodName := ⟨RX4, "at16", "(I)I"⟩
abbrev cX4_highestFirst : ByteArray := prog_6_method_11_code
def yX4_highestFirst : MethodName := ⟨RX4, "highestFirst", "(I)I"⟩
abbrev cX4_parsePieces : ByteArray := prog_6_method_12_code
def yX4_parsePieces : MethodName := ⟨RX4, "parsePieces", "()V"⟩
abbrev cX4_pieceEnd : ByteArray := prog_6_method_13_code
def yX4_pieceEnd : MethodName := ⟨RX4, "pieceEnd", "(I)I"⟩
abbrev cX4_addPiece : ByteArray := prog_6_method_14_code
def yX4_addPiece : MethodName := ⟨RX4, "addPiece", "(II)V"⟩
abbrev cX4_parsePack : ByteArray := prog_6_method_15_code
def yX4_parsePack : MethodName := ⟨RX4, "parsePack", "()V"⟩
abbrev cX4_isMarked : ByteArray := prog_6_method_16_code
def yX4_isMarked : MethodName := ⟨RX4, "isMarked", "(III)Z"⟩
abbrev cX4_entryEnd : ByteArray := prog_6_method_17_code
def yX4_entryEnd : MethodName := ⟨RX4, "entryEnd", "(I)I"⟩
abbrev cX4_addEntry : ByteArray := prog_6_method_18_code
def yX4_addEntry : MethodName := ⟨RX4, "addEntry", "(I)V"⟩
abbrev cX4_packRowEnd : ByteArray := prog_6_method_19_code
def yX4_packRowEnd : MethodName := ⟨RX4, "packRowEnd", "(II)I"⟩
abbrev cX4_parsePages : ByteArray := prog_6_method_20_code
def yX4_parsePages : MethodName := ⟨RX4, "parsePages", "()V"⟩
abbrev cX4_isPage : ByteArray := prog_6_method_21_code
def yX4_isPage : MethodName := ⟨RX4, "isPage", "()Z"⟩
abbrev cX4_fieldEnd : ByteArray := prog_6_method_22_code
def yX4_fieldEnd : MethodName := ⟨RX4, "fieldEnd", "(I)I"⟩
abbrev cX4_rowEnd : ByteArray := prog_6_method_23_code
def yX4_rowEnd : MethodName := ⟨RX4, "rowEnd", "(I)I"⟩
abbrev cX4_addPage : ByteArray := prog_6_method_24_code
def yX4_addPage : MethodName := ⟨RX4, "addPage", "()V"⟩
abbrev cX4_bitsOf : ByteArray := prog_6_method_25_code
def yX4_bitsOf : MethodName := ⟨RX4, "bitsOf", "(II)J"⟩
abbrev cX4_fieldValue : ByteArray := prog_6_method_26_code
def yX4_fieldValue : MethodName := ⟨RX4, "fieldValue", "(I)I"⟩
def RX5 : String := "DiskEvidence$Picture"
def TX5 : u_T := fun k => match k with
  | 0 => ("DiskEvidence$Picture", "sectorCount", "I", true)
  | 1 => ("DiskEvidence$Picture", "bytes", "[B", true)
  | 2 => ("DiskEvidence$Picture", "spoilt", "[Z", true)
  | 3 => ("DiskEvidence$Picture", "tables", "[I", true)
  | 4 => ("DiskEvidence$Picture", "tableCount", "I", false)
  | 5 => ("DiskEvidence$Picture", "partFacts", "[I", true)
  | _ => ("DiskEvidence$Picture", "partCount", "I", false)
def tyX5 : Nat → FieldType := fun k => match k with
  | 0 => .int
  | 1 => .array .byte
  | 2 => .array .boolean
  | 3 => .array .int
  | 4 => .int
  | 5 => .array .int
  | _ => .int
abbrev wsX50 : List Cond := u_ws RX5 TX5 7
theorem nmX5 : ∀ a, a < 7 → ∀ b, b < 7 → a ≠ b → (TX5 a).2.1 ≠ (TX5 b).2.1 := by decide +kernel
theorem tyX5_ok : ∀ k, k < 7 → parseFieldDescriptor (TX5 k).2.2.1 = some (tyX5 k) := by decide +kernel
abbrev cX5_init : ByteArray := prog_7_method_1_code
def yX5_init : MethodName := ⟨RX5, "<init>", "(I)V"⟩
abbrev cX5_hasByte : ByteArray := prog_7_method_2_code
def yX5_hasByte : MethodName := ⟨RX5, "hasByte", "(I)Z"⟩
abbrev cX5_isLost : ByteArray := prog_7_method_3_code
def yX5_isLost : MethodName := ⟨RX5, "isLost", "(I)Z"⟩
abbrev cX5_readByte : ByteArray := prog_7_method_4_code
def yX5_readByte : MethodName := ⟨RX5, "readByte", "(I)I"⟩
abbrev cX5_writeByte : ByteArray := prog_7_method_5_code
def yX5_writeByte : MethodName := ⟨RX5, "writeByte", "(II)V"⟩
abbrev cX5_xorSector : ByteArray := prog_7_method_6_code
def yX5_xorSector : MethodName := ⟨RX5, "xorSector", "(I[BI)V"⟩
abbrev cX5_copySector : ByteArray := prog_7_method_7_code
def yX5_copySector : MethodName := ⟨RX5, "copySector", "(I[BI)V"⟩
abbrev cX5_storeSector : ByteArray := prog_7_method_8_code
def yX5_storeSector : MethodName := ⟨RX5, "storeSector", "(I[BI)V"⟩
abbrev cX5_listParts : ByteArray := prog_7_method_9_code
def yX5_listParts : MethodName := ⟨RX5, "listParts", "()I"⟩
abbrev cX5_mayBeTable : ByteArray := prog_7_method_10_code
def yX5_mayBeTable : MethodName := ⟨RX5, "mayBeTable", "(I)Z"⟩
abbrev cX5_readTable : ByteArray := prog_7_method_11_code
def yX5_readTable : MethodName := ⟨RX5, "readTable", "(LDiskEvidence$Picture;II)V"⟩
abbrev cX5_addPart : ByteArray := prog_7_method_12_code
def yX5_addPart : MethodName := ⟨RX5, "addPart", "(IIII)V"⟩
abbrev cX5_partFact : ByteArray := prog_7_method_13_code
def yX5_partFact : MethodName := ⟨RX5, "partFact", "(II)I"⟩
abbrev cX5_haveCommon : ByteArray := prog_7_method_14_code
def yX5_haveCommon : MethodName := ⟨RX5, "haveCommon", "(II)Z"⟩
def RX6 : String := "DiskEvidence$Query"
def TX6 : u_T := fun k => match k with
  | 0 => ("DiskEvidence$Query", "rows", "[I", true)
  | 1 => ("DiskEvidence$Query", "rowCount", "I", false)
  | 2 => ("DiskEvidence$Query", "keys", "[J", true)
  | 3 => ("DiskEvidence$Query", "code", "[I", true)
  | 4 => ("DiskEvidence$Query", "codeCount", "I", false)
  | 5 => ("DiskEvidence$Query", "text", "[B", false)
  | 6 => ("DiskEvidence$Query", "textLength", "I", false)
  | 7 => ("DiskEvidence$Query", "place", "I", false)
  | 8 => ("DiskEvidence$Query", "sortField", "I", false)
  | 9 => ("DiskEvidence$Query", "falling", "Z", false)
  | _ => ("DiskEvidence$Query", "has", "Z", false)
abbrev wsX60 : List Cond := u_ws RX6 TX6 11
abbrev cX6_ask : ByteArray := prog_8_method_2_code
def yX6_ask : MethodName := ⟨RX6, "ask", "(LDiskEvidence$Tree;[BI)I"⟩
abbrev cX6_readOrder : ByteArray := prog_8_method_3_code
def yX6_readOrder : MethodName := ⟨RX6, "readOrder", "()Z"⟩
abbrev cX6_next : ByteArray := prog_8_method_4_code
def yX6_next : MethodName := ⟨RX6, "next", "()I"⟩
abbrev cX6_skipBlanks : ByteArray := prog_8_method_5_code
def yX6_skipBlanks : MethodName := ⟨RX6, "skipBlanks", "()V"⟩
abbrev cX6_nextIs : ByteArray := prog_8_method_6_code
def yX6_nextIs : MethodName := ⟨RX6, "nextIs", "(I)Z"⟩
abbrev cX6_readLetters : ByteArray := prog_8_method_7_code
def yX6_readLetters : MethodName := ⟨RX6, "readLetters", "(Ljava/lang/String;)Z"⟩
abbrev cX6_readWord : ByteArray := prog_8_method_8_code
def yX6_readWord : MethodName := ⟨RX6, "readWord", "(I)I"⟩
abbrev cX6_readTest : ByteArray := prog_8_method_9_code
def yX6_readTest : MethodName := ⟨RX6, "readTest", "(I)Z"⟩
abbrev cX6_readAnd : ByteArray := prog_8_method_10_code
def yX6_readAnd : MethodName := ⟨RX6, "readAnd", "(I)Z"⟩
abbrev cX6_readOne : ByteArray := prog_8_method_11_code
def yX6_readOne : MethodName := ⟨RX6, "readOne", "(I)Z"⟩
abbrev cX6_readFieldTest : ByteArray := prog_8_method_12_code
def yX6_readFieldTest : MethodName := ⟨RX6, "readFieldTest", "(I)Z"⟩
abbrev cX6_readNameTest : ByteArray := prog_8_method_13_code
def yX6_readNameTest : MethodName := ⟨RX6, "readNameTest", "()Z"⟩
abbrev cX6_emit : ByteArray := prog_8_method_14_code
def yX6_emit : MethodName := ⟨RX6, "emit", "(I)V"⟩
abbrev cX6_codeAt : ByteArray := prog_8_method_15_code
def yX6_codeAt : MethodName := ⟨RX6, "codeAt", "(I)I"⟩
abbrev cX6_isTrue : ByteArray := prog_8_method_16_code
def yX6_isTrue : MethodName := ⟨RX6, "isTrue", "(LDiskEvidence$Tree;LDiskEvidence$Item;)Z"⟩
abbrev cX6_hasLetters : ByteArray := prog_8_method_17_code
def yX6_hasLetters : MethodName := ⟨RX6, "hasLetters", "(LDiskEvidence$Item;II)Z"⟩
abbrev cX6_compares : ByteArray := prog_8_method_18_code
def yX6_compares : MethodName := ⟨RX6, "compares", "(LDiskEvidence$Tree;LDiskEvidence$Item;I)Z"⟩
abbrev cX6_valueOf : ByteArray := prog_8_method_19_code
def yX6_valueOf : MethodName := ⟨RX6, "valueOf", "(LDiskEvidence$Tree;LDiskEvidence$Item;I)J"⟩
abbrev cX6_addRow : ByteArray := prog_8_method_20_code
def yX6_addRow : MethodName := ⟨RX6, "addRow", "(LDiskEvidence$Tree;I)V"⟩
def RX7 : String := "DiskEvidence$Reader"
def TX7 : u_T := fun k => match k with
  | 0 => ("DiskEvidence$Reader", "tree", "LDiskEvidence$Tree;", true)
  | 1 => ("DiskEvidence$Reader", "form", "LDiskEvidence$Form;", true)
  | 2 => ("DiskEvidence$Reader", "image", "[B", true)
  | 3 => ("DiskEvidence$Reader", "erased", "[LDiskEvidence$Item;", true)
  | 4 => ("DiskEvidence$Reader", "erasedCount", "I", false)
  | 5 => ("DiskEvidence$Reader", "walked", "[Z", true)
  | 6 => ("DiskEvidence$Reader", "room", "[I", true)
  | _ => ("DiskEvidence$Reader", "letters", "[B", true)
abbrev wsX70 : List Cond := u_ws RX7 TX7 8
abbrev cX7_init : ByteArray := prog_9_method_1_code
def yX7_init : MethodName := ⟨RX7, "<init>", "(LDiskEvidence$Tree;)V"⟩
abbrev cX7_firstOf : ByteArray := prog_9_method_2_code
def yX7_firstOf : MethodName := ⟨RX7, "firstOf", "([II)[I"⟩
abbrev cX7_bytesOf : ByteArray := prog_9_method_3_code
def yX7_bytesOf : MethodName := ⟨RX7, "bytesOf", "([BII)[B"⟩
abbrev cX7_addErased : ByteArray := prog_9_method_4_code
def yX7_addErased : MethodName := ⟨RX7, "addErased", "()V"⟩
abbrev cX7_readCells : ByteArray := prog_9_method_5_code
def yX7_readCells : MethodName := ⟨RX7, "readCells", "()V"⟩
abbrev cX7_compareTables : ByteArray := prog_9_method_6_code
def yX7_compareTables : MethodName := ⟨RX7, "compareTables", "()V"⟩
abbrev cX7_walkCells : ByteArray := prog_9_method_7_code
def yX7_walkCells : MethodName := ⟨RX7, "walkCells", "([III)V"⟩
abbrev cX7_cellsItem : ByteArray := prog_9_method_8_code
def yX7_cellsItem : MethodName := ⟨RX7, "cellsItem", "(III)LDiskEvidence$Item;"⟩
abbrev cX7_meetCells : ByteArray := prog_9_method_9_code
def yX7_meetCells : MethodName := ⟨RX7, "meetCells", "(III)V"⟩
abbrev cX7_erasedCells : ByteArray := prog_9_method_10_code
def yX7_erasedCells : MethodName := ⟨RX7, "erasedCells", "(III)LDiskEvidence$Item;"⟩
abbrev cX7_readNodes : ByteArray := prog_9_method_11_code
def yX7_readNodes : MethodName := ⟨RX7, "readNodes", "()V"⟩
abbrev cX7_walkNodes : ByteArray := prog_9_method_12_code
def yX7_walkNodes : MethodName := ⟨RX7, "walkNodes", "([IIII)V"⟩
abbrev cX7_nodeItem : ByteArray := prog_9_method_13_code
def yX7_nodeItem : MethodName := ⟨RX7, "nodeItem", "(II)LDiskEvidence$Item;"⟩
abbrev cX7_meetNode : ByteArray := prog_9_method_14_code
def yX7_meetNode : MethodName := ⟨RX7, "meetNode", "(IIII)V"⟩
abbrev cX7_ownPlaces : ByteArray := prog_9_method_15_code
def yX7_ownPlaces : MethodName := ⟨RX7, "ownPlaces", "(LDiskEvidence$Item;II)V"⟩
abbrev cX7_ownBlock : ByteArray := prog_9_method_16_code
def yX7_ownBlock : MethodName := ⟨RX7, "ownBlock", "(II)V"⟩
abbrev cX7_compareMap : ByteArray := prog_9_method_17_code
def yX7_compareMap : MethodName := ⟨RX7, "compareMap", "()V"⟩
abbrev cX7_erasedNode : ByteArray := prog_9_method_18_code
def yX7_erasedNode : MethodName := ⟨RX7, "erasedNode", "(I)LDiskEvidence$Item;"⟩
abbrev cX7_isSafe : ByteArray := prog_9_method_19_code
def yX7_isSafe : MethodName := ⟨RX7, "isSafe", "(II)Z"⟩
abbrev cX7_hasPlace : ByteArray := prog_9_method_20_code
def yX7_hasPlace : MethodName := ⟨RX7, "hasPlace", "(II)Z"⟩
abbrev cX7_numbered : ByteArray := prog_9_method_21_code
def yX7_numbered : MethodName := ⟨RX7, "numbered", "(II)[B"⟩
abbrev cX7_readTape : ByteArray := prog_9_method_22_code
def yX7_readTape : MethodName := ⟨RX7, "readTape", "()V"⟩
abbrev cX7_comesAgain : ByteArray := prog_9_method_23_code
def yX7_comesAgain : MethodName := ⟨RX7, "comesAgain", "(I)Z"⟩
abbrev cX7_meetEntry : ByteArray := prog_9_method_24_code
def yX7_meetEntry : MethodName := ⟨RX7, "meetEntry", "(II)V"⟩
abbrev cX7_blocksFrom : ByteArray := prog_9_method_25_code
def yX7_blocksFrom : MethodName := ⟨RX7, "blocksFrom", "(II)[I"⟩
abbrev cX7_cutOut : ByteArray := prog_9_method_26_code
def yX7_cutOut : MethodName := ⟨RX7, "cutOut", "()V"⟩
def RX8 : String := "DiskEvidence$TimeLine"
def TX8 : u_T := fun k => match k with
  | 0 => ("DiskEvidence$TimeLine", "moments", "[J", true)
  | 1 => ("DiskEvidence$TimeLine", "marks", "[I", true)
  | 2 => ("DiskEvidence$TimeLine", "momentCount", "I", false)
  | 3 => ("DiskEvidence$TimeLine", "doubtMarks", "[I", true)
  | _ => ("DiskEvidence$TimeLine", "doubtCount", "I", false)
def tyX8 : Nat → FieldType := fun k => match k with
  | 0 => .array .long
  | 1 => .array .int
  | 2 => .int
  | 3 => .array .int
  | _ => .int
abbrev wsX80 : List Cond := u_ws RX8 TX8 5
theorem nmX8 : ∀ a, a < 5 → ∀ b, b < 5 → a ≠ b → (TX8 a).2.1 ≠ (TX8 b).2.1 := by decide +kernel
theorem tyX8_ok : ∀ k, k < 5 → parseFieldDescriptor (TX8 k).2.2.1 = some (tyX8 k) := by decide +kernel
abbrev cX8_markOf : ByteArray := prog_10_method_2_code
def yX8_markOf : MethodName := ⟨RX8, "markOf", "(IIII)I"⟩
abbrev cX8_addMoment : ByteArray := prog_10_method_3_code
def yX8_addMoment : MethodName := ⟨RX8, "addMoment", "(JI)V"⟩
abbrev cX8_addMoments : ByteArray := prog_10_method_4_code
def yX8_addMoments : MethodName := ⟨RX8, "addMoments", "(LDiskEvidence$Tree;II)V"⟩
abbrev cX8_addNodes : ByteArray := prog_10_method_5_code
def yX8_addNodes : MethodName := ⟨RX8, "addNodes", "(LDiskEvidence$Opening;II)V"⟩
abbrev cX8_sortMoments : ByteArray := prog_10_method_6_code
def yX8_sortMoments : MethodName := ⟨RX8, "sortMoments", "()V"⟩
abbrev cX8_momentFact : ByteArray := prog_10_method_7_code
def yX8_momentFact : MethodName := ⟨RX8, "momentFact", "(II)J"⟩
abbrev cX8_addDoubt : ByteArray := prog_10_method_8_code
def yX8_addDoubt : MethodName := ⟨RX8, "addDoubt", "(III)V"⟩
abbrev cX8_addDoubts : ByteArray := prog_10_method_9_code
def yX8_addDoubts : MethodName := ⟨RX8, "addDoubts", "(LDiskEvidence$Tree;II)V"⟩
abbrev cX8_doubtFact : ByteArray := prog_10_method_10_code
def yX8_doubtFact : MethodName := ⟨RX8, "doubtFact", "(II)I"⟩
def RX9 : String := "DiskEvidence$Tree"
def TX9 : u_T := fun k => match k with
  | 0 => ("DiskEvidence$Tree", "form", "LDiskEvidence$Form;", true)
  | 1 => ("DiskEvidence$Tree", "image", "[B", true)
  | 2 => ("DiskEvidence$Tree", "volumeNumber", "I", true)
  | 3 => ("DiskEvidence$Tree", "owners", "[I", true)
  | 4 => ("DiskEvidence$Tree", "items", "[LDiskEvidence$Item;", true)
  | 5 => ("DiskEvidence$Tree", "total", "I", false)
  | 6 => ("DiskEvidence$Tree", "living", "I", false)
  | 7 => ("DiskEvidence$Tree", "lost", "I", false)
  | 8 => ("DiskEvidence$Tree", "cut", "I", false)
  | 9 => ("DiskEvidence$Tree", "within", "I", false)
  | 10 => ("DiskEvidence$Tree", "faults", "[I", true)
  | _ => ("DiskEvidence$Tree", "faultCount", "I", false)
abbrev wsX90 : List Cond := u_ws RX9 TX9 12
abbrev cX9_init : ByteArray := prog_11_method_1_code
def yX9_init : MethodName := ⟨RX9, "<init>", "([BII)V"⟩
abbrev cX9_fact : ByteArray := prog_11_method_2_code
def yX9_fact : MethodName := ⟨RX9, "fact", "(I)I"⟩
abbrev cX9_add : ByteArray := prog_11_method_3_code
def yX9_add : MethodName := ⟨RX9, "add", "(LDiskEvidence$Item;)I"⟩
abbrev cX9_addFault : ByteArray := prog_11_method_4_code
def yX9_addFault : MethodName := ⟨RX9, "addFault", "(III)V"⟩
abbrev cX9_ownerOf : ByteArray := prog_11_method_5_code
def yX9_ownerOf : MethodName := ⟨RX9, "ownerOf", "(I)I"⟩
abbrev cX9_own : ByteArray := prog_11_method_6_code
def yX9_own : MethodName := ⟨RX9, "own", "(II)V"⟩
abbrev cX9_freeRuns : ByteArray := prog_11_method_7_code
def yX9_freeRuns : MethodName := ⟨RX9, "freeRuns", "()I"⟩
abbrev cX9_freeRun : ByteArray := prog_11_method_8_code
def yX9_freeRun : MethodName := ⟨RX9, "freeRun", "(I)I"⟩
abbrev cX9_runEnd : ByteArray := prog_11_method_9_code
def yX9_runEnd : MethodName := ⟨RX9, "runEnd", "(I)I"⟩
abbrev cX9_byteOf : ByteArray := prog_11_method_10_code
def yX9_byteOf : MethodName := ⟨RX9, "byteOf", "(LDiskEvidence$Item;I)I"⟩
abbrev cX9_copyBytes : ByteArray := prog_11_method_11_code
def yX9_copyBytes : MethodName := ⟨RX9, "copyBytes", "(LDiskEvidence$Item;[BI)I"⟩
abbrev cX9_findLiving : ByteArray := prog_11_method_12_code
def yX9_findLiving : MethodName := ⟨RX9, "findLiving", "([BI)I"⟩
abbrev cX9_firstNamed : ByteArray := prog_11_method_13_code
def yX9_firstNamed : MethodName := ⟨RX9, "firstNamed", "(I[BII)I"⟩
abbrev cX9_takeInside : ByteArray := prog_11_method_14_code
def yX9_takeInside : MethodName := ⟨RX9, "takeInside", "(LDiskEvidence$Opening;I)I"⟩
def RX10 : String := "DiskEvidence$Volume"
def TX10 : u_T := fun k => match k with
  | 0 => ("DiskEvidence$Volume", "kind", "I", true)
  | 1 => ("DiskEvidence$Volume", "size", "I", true)
  | 2 => ("DiskEvidence$Volume", "begin", "I", true)
  | 3 => ("DiskEvidence$Volume", "pictureNumber", "I", true)
  | 4 => ("DiskEvidence$Volume", "base", "LDiskEvidence$Picture;", true)
  | 5 => ("DiskEvidence$Volume", "first", "LDiskEvidence$Volume;", true)
  | 6 => ("DiskEvidence$Volume", "second", "LDiskEvidence$Volume;", true)
  | _ => ("DiskEvidence$Volume", "third", "LDiskEvidence$Volume;", true)
abbrev wsX100 : List Cond := u_ws RX10 TX10 8
abbrev cX10_init : ByteArray := prog_12_method_1_code
def yX10_init : MethodName := ⟨RX10, "<init>", "(LDiskEvidence$Picture;III)V"⟩
abbrev cX10_init_ : ByteArray := prog_12_method_2_code
def yX10_init_ : MethodName := ⟨RX10, "<init>", "(ILDiskEvidence$Volume;LDiskEvidence$Volume;LDiskEvidence$Volume;)V"⟩
abbrev cX10_member : ByteArray := prog_12_method_3_code
def yX10_member : MethodName := ⟨RX10, "member", "(I)LDiskEvidence$Volume;"⟩
abbrev cX10_home : ByteArray := prog_12_method_4_code
def yX10_home : MethodName := ⟨RX10, "home", "(I)LDiskEvidence$Volume;"⟩
abbrev cX10_homeBlock : ByteArray := prog_12_method_5_code
def yX10_homeBlock : MethodName := ⟨RX10, "homeBlock", "(I)I"⟩
def RX11 : String := "DiskEvidence"
def TX11 : u_T := fun k => match k with
  | 0 => ("DiskEvidence", "collected", "[B", true)
  | 1 => ("DiskEvidence", "collectedCount", "I", false)
  | 2 => ("DiskEvidence", "now", "I", false)
  | 3 => ("DiskEvidence", "pictures", "[LDiskEvidence$Picture;", true)
  | 4 => ("DiskEvidence", "pictureCount", "I", false)
  | 5 => ("DiskEvidence", "volumes", "[LDiskEvidence$Volume;", true)
  | 6 => ("DiskEvidence", "volumeCount", "I", false)
  | 7 => ("DiskEvidence", "trees", "[LDiskEvidence$Tree;", true)
  | 8 => ("DiskEvidence", "treeCount", "I", false)
  | 9 => ("DiskEvidence", "openings", "[LDiskEvidence$Opening;", true)
  | 10 => ("DiskEvidence", "openingCount", "I", false)
  | 11 => ("DiskEvidence", "claims", "[I", true)
  | 12 => ("DiskEvidence", "claimCount", "I", false)
  | 13 => ("DiskEvidence", "maker", "LDiskEvidence$Maker;", true)
  | 14 => ("DiskEvidence", "finder", "LDiskEvidence$Finder;", true)
  | 15 => ("DiskEvidence", "query", "LDiskEvidence$Query;", true)
  | 16 => ("DiskEvidence", "timeLine", "LDiskEvidence$TimeLine;", true)
  | 17 => ("DiskEvidence", "acts", "[I", true)
  | 18 => ("DiskEvidence", "links", "[J", true)
  | _ => ("DiskEvidence", "actCount", "I", false)
def tyX11 : Nat → FieldType := fun k => match k with
  | 0 => .array .byte
  | 1 => .int
  | 2 => .int
  | 3 => .array (.object "DiskEvidence$Picture")
  | 4 => .int
  | 5 => .array (.object "DiskEvidence$Volume")
  | 6 => .int
  | 7 => .array (.object "DiskEvidence$Tree")
  | 8 => .int
  | 9 => .array (.object "DiskEvidence$Opening")
  | 10 => .int
  | 11 => .array .int
  | 12 => .int
  | 13 => .object "DiskEvidence$Maker"
  | 14 => .object "DiskEvidence$Finder"
  | 15 => .object "DiskEvidence$Query"
  | 16 => .object "DiskEvidence$TimeLine"
  | 17 => .array .int
  | 18 => .array .long
  | _ => .int
abbrev wsX110 : List Cond := u_ws RX11 TX11 20
theorem nmX11 : ∀ a, a < 20 → ∀ b, b < 20 → a ≠ b → (TX11 a).2.1 ≠ (TX11 b).2.1 := by decide +kernel
theorem tyX11_ok : ∀ k, k < 20 → parseFieldDescriptor (TX11 k).2.2.1 = some (tyX11 k) := by decide +kernel
abbrev cX11_collect : ByteArray := prog_1_method_2_code
def yX11_collect : MethodName := ⟨RX11, "collect", "(JI)I"⟩
abbrev cX11_forget : ByteArray := prog_1_method_3_code
def yX11_forget : MethodName := ⟨RX11, "forget", "()I"⟩
abbrev cX11_tick : ByteArray := prog_1_method_4_code
def yX11_tick : MethodName := ⟨RX11, "tick", "(I)I"⟩
abbrev cX11_blank : ByteArray := prog_1_method_5_code
def yX11_blank : MethodName := ⟨RX11, "blank", "(I)I"⟩
abbrev cX11_picture : ByteArray := prog_1_method_6_code
def yX11_picture : MethodName := ⟨RX11, "picture", "()I"⟩
abbrev cX11_sectors : ByteArray := prog_1_method_7_code
def yX11_sectors : MethodName := ⟨RX11, "sectors", "(I)I"⟩
abbrev cX11_spoil : ByteArray := prog_1_method_8_code
def yX11_spoil : MethodName := ⟨RX11, "spoil", "(IIZ)I"⟩
abbrev cX11_byteAt : ByteArray := prog_1_method_9_code
def yX11_byteAt : MethodName := ⟨RX11, "byteAt", "(II)I"⟩
abbrev cX11_poke : ByteArray := prog_1_method_10_code
def yX11_poke : MethodName := ⟨RX11, "poke", "(III)I"⟩
abbrev cX11_crc : ByteArray := prog_1_method_11_code
def yX11_crc : MethodName := ⟨RX11, "crc", "(III)J"⟩
abbrev cX11_parts : ByteArray := prog_1_method_12_code
def yX11_parts : MethodName := ⟨RX11, "parts", "(I)I"⟩
abbrev cX11_part : ByteArray := prog_1_method_13_code
def yX11_part : MethodName := ⟨RX11, "part", "(III)I"⟩
abbrev cX11_volume : ByteArray := prog_1_method_14_code
def yX11_volume : MethodName := ⟨RX11, "volume", "(III)I"⟩
abbrev cX11_join : ByteArray := prog_1_method_15_code
def yX11_join : MethodName := ⟨RX11, "join", "(IIII)I"⟩
abbrev cX11_blocks : ByteArray := prog_1_method_16_code
def yX11_blocks : MethodName := ⟨RX11, "blocks", "(I)I"⟩
abbrev cX11_volumeByte : ByteArray := prog_1_method_17_code
def yX11_volumeByte : MethodName := ⟨RX11, "volumeByte", "(II)I"⟩
abbrev cX11_where : ByteArray := prog_1_method_18_code
def yX11_where : MethodName := ⟨RX11, "where", "(II)I"⟩
abbrev cX11_format : ByteArray := prog_1_method_19_code
def yX11_format : MethodName := ⟨RX11, "format", "(III)I"⟩
abbrev cX11_save : ByteArray := prog_1_method_20_code
def yX11_save : MethodName := ⟨RX11, "save", "(I)I"⟩
abbrev cX11_folder : ByteArray := prog_1_method_21_code
def yX11_folder : MethodName := ⟨RX11, "folder", "(I)I"⟩
abbrev cX11_erase : ByteArray := prog_1_method_22_code
def yX11_erase : MethodName := ⟨RX11, "erase", "(I)I"⟩
abbrev cX11_mount : ByteArray := prog_1_method_23_code
def yX11_mount : MethodName := ⟨RX11, "mount", "(I)I"⟩
abbrev cX11_tree : ByteArray := prog_1_method_24_code
def yX11_tree : MethodName := ⟨RX11, "tree", "(II)I"⟩
abbrev cX11_fault : ByteArray := prog_1_method_25_code
def yX11_fault : MethodName := ⟨RX11, "fault", "(III)I"⟩
abbrev cX11_owner : ByteArray := prog_1_method_26_code
def yX11_owner : MethodName := ⟨RX11, "owner", "(II)I"⟩
abbrev cX11_free : ByteArray := prog_1_method_27_code
def yX11_free : MethodName := ⟨RX11, "free", "(III)I"⟩
abbrev cX11_find : ByteArray := prog_1_method_28_code
def yX11_find : MethodName := ⟨RX11, "find", "(I)I"⟩
abbrev cX11_name : ByteArray := prog_1_method_29_code
def yX11_name : MethodName := ⟨RX11, "name", "(III)I"⟩
abbrev cX11_field : ByteArray := prog_1_method_30_code
def yX11_field : MethodName := ⟨RX11, "field", "(III)J"⟩
abbrev cX11_block : ByteArray := prog_1_method_31_code
def yX11_block : MethodName := ⟨RX11, "block", "(III)I"⟩
abbrev cX11_content : ByteArray := prog_1_method_32_code
def yX11_content : MethodName := ⟨RX11, "content", "(III)I"⟩
abbrev cX11_slack : ByteArray := prog_1_method_33_code
def yX11_slack : MethodName := ⟨RX11, "slack", "(III)I"⟩
abbrev cX11_open : ByteArray := prog_1_method_34_code
def yX11_open : MethodName := ⟨RX11, "open", "(II)I"⟩
abbrev cX11_node : ByteArray := prog_1_method_35_code
def yX11_node : MethodName := ⟨RX11, "node", "(III)I"⟩
abbrev cX11_opened : ByteArray := prog_1_method_36_code
def yX11_opened : MethodName := ⟨RX11, "opened", "(II)I"⟩
abbrev cX11_inside : ByteArray := prog_1_method_37_code
def yX11_inside : MethodName := ⟨RX11, "inside", "(II)I"⟩
abbrev cX11_word : ByteArray := prog_1_method_38_code
def yX11_word : MethodName := ⟨RX11, "word", "(I)I"⟩
abbrev cX11_pattern : ByteArray := prog_1_method_39_code
def yX11_pattern : MethodName := ⟨RX11, "pattern", "(I)I"⟩
abbrev cX11_hit : ByteArray := prog_1_method_40_code
def yX11_hit : MethodName := ⟨RX11, "hit", "(II)I"⟩
abbrev cX11_question : ByteArray := prog_1_method_41_code
def yX11_question : MethodName := ⟨RX11, "question", "(I)I"⟩
abbrev cX11_row : ByteArray := prog_1_method_42_code
def yX11_row : MethodName := ⟨RX11, "row", "(I)I"⟩
abbrev cX11_line : ByteArray := prog_1_method_43_code
def yX11_line : MethodName := ⟨RX11, "line", "()I"⟩
abbrev cX11_time : ByteArray := prog_1_method_44_code
def yX11_time : MethodName := ⟨RX11, "time", "(II)J"⟩
abbrev cX11_doubts : ByteArray := prog_1_method_45_code
def yX11_doubts : MethodName := ⟨RX11, "doubts", "()I"⟩
abbrev cX11_doubt : ByteArray := prog_1_method_46_code
def yX11_doubt : MethodName := ⟨RX11, "doubt", "(II)I"⟩
abbrev cX11_claim : ByteArray := prog_1_method_47_code
def yX11_claim : MethodName := ⟨RX11, "claim", "(IIII)I"⟩
abbrev cX11_claimed : ByteArray := prog_1_method_48_code
def yX11_claimed : MethodName := ⟨RX11, "claimed", "(II)I"⟩
abbrev cX11_check : ByteArray := prog_1_method_49_code
def yX11_check : MethodName := ⟨RX11, "check", "(I)I"⟩
abbrev cX11_act : ByteArray := prog_1_method_50_code
def yX11_act : MethodName := ⟨RX11, "act", "(II)I"⟩
abbrev cX11_link : ByteArray := prog_1_method_51_code
def yX11_link : MethodName := ⟨RX11, "link", "(I)J"⟩
abbrev cX11_alter : ByteArray := prog_1_method_52_code
def yX11_alter : MethodName := ⟨RX11, "alter", "(III)I"⟩
abbrev cX11_chain : ByteArray := prog_1_method_53_code
def yX11_chain : MethodName := ⟨RX11, "chain", "()I"⟩
abbrev cX11_count : ByteArray := prog_1_method_54_code
def yX11_count : MethodName := ⟨RX11, "count", "(I)I"⟩
abbrev cX11_pictureAt : ByteArray := prog_1_method_55_code
def yX11_pictureAt : MethodName := ⟨RX11, "pictureAt", "(I)LDiskEvidence$Picture;"⟩
abbrev cX11_volumeAt : ByteArray := prog_1_method_56_code
def yX11_volumeAt : MethodName := ⟨RX11, "volumeAt", "(I)LDiskEvidence$Volume;"⟩
abbrev cX11_maybeVolume : ByteArray := prog_1_method_57_code
def yX11_maybeVolume : MethodName := ⟨RX11, "maybeVolume", "(I)Z"⟩
abbrev cX11_treeAt : ByteArray := prog_1_method_58_code
def yX11_treeAt : MethodName := ⟨RX11, "treeAt", "(I)LDiskEvidence$Tree;"⟩
abbrev cX11_openingAt : ByteArray := prog_1_method_59_code
def yX11_openingAt : MethodName := ⟨RX11, "openingAt", "(I)LDiskEvidence$Opening;"⟩
abbrev cX11_itemIn : ByteArray := prog_1_method_60_code
def yX11_itemIn : MethodName := ⟨RX11, "itemIn", "(LDiskEvidence$Tree;I)LDiskEvidence$Item;"⟩
abbrev cX11_dueLink : ByteArray := prog_1_method_61_code
def yX11_dueLink : MethodName := ⟨RX11, "dueLink", "(I)J"⟩
abbrev cX11_gradeNow : ByteArray := prog_1_method_62_code
def yX11_gradeNow : MethodName := ⟨RX11, "gradeNow", "(LDiskEvidence$Volume;LDiskEvidence$Item;)I"⟩
abbrev cX11_readNow : ByteArray := prog_1_method_63_code
def yX11_readNow : MethodName := ⟨RX11, "readNow", "(LDiskEvidence$Volume;LDiskEvidence$Item;[B)V"⟩
abbrev cX11_u8 : ByteArray := prog_1_method_64_code
def yX11_u8 : MethodName := ⟨RX11, "u8", "([BI)I"⟩
abbrev cX11_u16 : ByteArray := prog_1_method_65_code
def yX11_u16 : MethodName := ⟨RX11, "u16", "([BI)I"⟩
abbrev cX11_u32 : ByteArray := prog_1_method_66_code
def yX11_u32 : MethodName := ⟨RX11, "u32", "([BI)I"⟩
abbrev cX11_unsigned : ByteArray := prog_1_method_67_code
def yX11_unsigned : MethodName := ⟨RX11, "unsigned", "(I)J"⟩
abbrev cX11_put8 : ByteArray := prog_1_method_68_code
def yX11_put8 : MethodName := ⟨RX11, "put8", "([BII)V"⟩
abbrev cX11_put16 : ByteArray := prog_1_method_69_code
def yX11_put16 : MethodName := ⟨RX11, "put16", "([BII)V"⟩
abbrev cX11_put32 : ByteArray := prog_1_method_70_code
def yX11_put32 : MethodName := ⟨RX11, "put32", "([BII)V"⟩
abbrev cX11_clear : ByteArray := prog_1_method_71_code
def yX11_clear : MethodName := ⟨RX11, "clear", "([BII)V"⟩
abbrev cX11_sameBytes : ByteArray := prog_1_method_72_code
def yX11_sameBytes : MethodName := ⟨RX11, "sameBytes", "([BI[BII)Z"⟩
abbrev cX11_isZero : ByteArray := prog_1_method_73_code
def yX11_isZero : MethodName := ⟨RX11, "isZero", "([BII)Z"⟩
abbrev cX11_lengthWithout : ByteArray := prog_1_method_74_code
def yX11_lengthWithout : MethodName := ⟨RX11, "lengthWithout", "([BIII)I"⟩
abbrev cX11_blocksFor : ByteArray := prog_1_method_75_code
def yX11_blocksFor : MethodName := ⟨RX11, "blocksFor", "(I)I"⟩
abbrev cX11_crcStep : ByteArray := prog_1_method_76_code
def yX11_crcStep : MethodName := ⟨RX11, "crcStep", "(II)I"⟩
abbrev cX11_crcOf : ByteArray := prog_1_method_77_code
def yX11_crcOf : MethodName := ⟨RX11, "crcOf", "([BII)I"⟩
abbrev cX11_packedFault : ByteArray := prog_1_method_78_code
def yX11_packedFault : MethodName := ⟨RX11, "packedFault", "([BI)I"⟩
abbrev cX11_packedSize : ByteArray := prog_1_method_79_code
def yX11_packedSize : MethodName := ⟨RX11, "packedSize", "(I)I"⟩
abbrev cX11_unpacked : ByteArray := prog_1_method_80_code
def yX11_unpacked : MethodName := ⟨RX11, "unpacked", "([B)LDiskEvidence$Picture;"⟩
abbrev cX11_readBlock : ByteArray := prog_1_method_81_code
def yX11_readBlock : MethodName := ⟨RX11, "readBlock", "(LDiskEvidence$Volume;I[BI)V"⟩
abbrev cX11_xorBlock : ByteArray := prog_1_method_82_code
def yX11_xorBlock : MethodName := ⟨RX11, "xorBlock", "(LDiskEvidence$Volume;I[BII)V"⟩
abbrev cX11_writeBlock : ByteArray := prog_1_method_83_code
def yX11_writeBlock : MethodName := ⟨RX11, "writeBlock", "(LDiskEvidence$Volume;I[BI[BI)V"⟩
abbrev cX11_writeParity : ByteArray := prog_1_method_84_code
def yX11_writeParity : MethodName := ⟨RX11, "writeParity", "(LDiskEvidence$Volume;I[BI[BI)V"⟩
abbrev cX11_placeOfBlock : ByteArray := prog_1_method_85_code
def yX11_placeOfBlock : MethodName := ⟨RX11, "placeOfBlock", "(LDiskEvidence$Volume;II)I"⟩
abbrev cX11_isSpoilt : ByteArray := prog_1_method_86_code
def yX11_isSpoilt : MethodName := ⟨RX11, "isSpoilt", "(LDiskEvidence$Volume;II)Z"⟩
def RX12 : String := "DiskEvidenceModel"
def TX12 : u_T := fun k => match k with
  | 0 => ("DiskEvidenceModel", "many", "I", false)
  | 1 => ("DiskEvidenceModel", "bytes", "[I", true)
  | 2 => ("DiskEvidenceModel", "now", "I", false)
  | 3 => ("DiskEvidenceModel", "pictures", "I", false)
  | 4 => ("DiskEvidenceModel", "sectorsOf", "[I", true)
  | 5 => ("DiskEvidenceModel", "data", "[I", true)
  | 6 => ("DiskEvidenceModel", "isSpoilt", "[Z", true)
  | 7 => ("DiskEvidenceModel", "volumes", "I", false)
  | 8 => ("DiskEvidenceModel", "sort", "[I", true)
  | 9 => ("DiskEvidenceModel", "pictureOf", "[I", true)
  | 10 => ("DiskEvidenceModel", "beginOf", "[I", true)
  | 11 => ("DiskEvidenceModel", "blocksOf", "[I", true)
  | 12 => ("DiskEvidenceModel", "members", "[I", true)
  | 13 => ("DiskEvidenceModel", "all", "[I", true)
  | 14 => ("DiskEvidenceModel", "comesSpoilt", "[Z", true)
  | 15 => ("DiskEvidenceModel", "isOld", "Z", false)
  | 16 => ("DiskEvidenceModel", "laid", "I", false)
  | 17 => ("DiskEvidenceModel", "sectorChanged", "[Z", true)
  | 18 => ("DiskEvidenceModel", "blockChanged", "[Z", true)
  | 19 => ("DiskEvidenceModel", "badAt", "I", false)
  | 20 => ("DiskEvidenceModel", "parts", "I", false)
  | 21 => ("DiskEvidenceModel", "partKind", "[I", true)
  | 22 => ("DiskEvidenceModel", "partFirst", "[I", true)
  | 23 => ("DiskEvidenceModel", "partMany", "[I", true)
  | 24 => ("DiskEvidenceModel", "partTable", "[I", true)
  | 25 => ("DiskEvidenceModel", "tables", "[I", true)
  | 26 => ("DiskEvidenceModel", "tablesMany", "I", false)
  | 27 => ("DiskEvidenceModel", "openTable", "[I", true)
  | 28 => ("DiskEvidenceModel", "openRow", "[I", true)
  | 29 => ("DiskEvidenceModel", "member", "I", false)
  | 30 => ("DiskEvidenceModel", "memberBlock", "I", false)
  | 31 => ("DiskEvidenceModel", "waitVolume", "[I", true)
  | 32 => ("DiskEvidenceModel", "waitBlock", "[I", true)
  | 33 => ("DiskEvidenceModel", "waitBytes", "[I", true)
  | 34 => ("DiskEvidenceModel", "waiting", "I", false)
  | 35 => ("DiskEvidenceModel", "one", "[I", true)
  | 36 => ("DiskEvidenceModel", "kept", "[I", true)
  | 37 => ("DiskEvidenceModel", "image", "[I", true)
  | 38 => ("DiskEvidenceModel", "old", "[I", true)
  | 39 => ("DiskEvidenceModel", "imageBlocks", "I", false)
  | 40 => ("DiskEvidenceModel", "form", "I", false)
  | 41 => ("DiskEvidenceModel", "tablesOf", "I", false)
  | 42 => ("DiskEvidenceModel", "tableBlocks", "I", false)
  | 43 => ("DiskEvidenceModel", "rootBlocks", "I", false)
  | 44 => ("DiskEvidenceModel", "zone", "I", false)
  | 45 => ("DiskEvidenceModel", "nodesOf", "I", false)
  | 46 => ("DiskEvidenceModel", "span", "I", false)
  | 47 => ("DiskEvidenceModel", "first", "I", false)
  | 48 => ("DiskEvidenceModel", "clusters", "I", false)
  | 49 => ("DiskEvidenceModel", "names", "I", false)
  | 50 => ("DiskEvidenceModel", "nameFrom", "[I", true)
  | 51 => ("DiskEvidenceModel", "nameTo", "[I", true)
  | 52 => ("DiskEvidenceModel", "pathEnd", "I", false)
  | 53 => ("DiskEvidenceModel", "links", "I", false)
  | 54 => ("DiskEvidenceModel", "link", "[I", true)
  | 55 => ("DiskEvidenceModel", "folderRow", "I", false)
  | 56 => ("DiskEvidenceModel", "folderNode", "I", false)
  | 57 => ("DiskEvidenceModel", "foundRow", "I", false)
  | 58 => ("DiskEvidenceModel", "tapeEnd", "I", false)
  | 59 => ("DiskEvidenceModel", "trees", "I", false)
  | 60 => ("DiskEvidenceModel", "treeForm", "[I", true)
  | 61 => ("DiskEvidenceModel", "treeVolume", "[I", true)
  | 62 => ("DiskEvidenceModel", "treeSpan", "[I", true)
  | 63 => ("DiskEvidenceModel", "treeBlocks", "[I", true)
  | 64 => ("DiskEvidenceModel", "treeZone", "[I", true)
  | 65 => ("DiskEvidenceModel", "treeBytes", "[I", true)
  | 66 => ("DiskEvidenceModel", "ownerOf", "[I", true)
  | 67 => ("DiskEvidenceModel", "living", "[I", true)
  | 68 => ("DiskEvidenceModel", "lost", "[I", true)
  | 69 => ("DiskEvidenceModel", "cut", "[I", true)
  | 70 => ("DiskEvidenceModel", "inside", "[I", true)
  | 71 => ("DiskEvidenceModel", "faults", "[I", true)
  | 72 => ("DiskEvidenceModel", "faultNumber", "[I", true)
  | 73 => ("DiskEvidenceModel", "faultFile", "[I", true)
  | 74 => ("DiskEvidenceModel", "faultBlock", "[I", true)
  | 75 => ("DiskEvidenceModel", "kindOf", "[I", true)
  | 76 => ("DiskEvidenceModel", "endOf", "[I", true)
  | 77 => ("DiskEvidenceModel", "sizeOf", "[J", true)
  | 78 => ("DiskEvidenceModel", "madeOf", "[J", true)
  | 79 => ("DiskEvidenceModel", "alteredOf", "[J", true)
  | 80 => ("DiskEvidenceModel", "erasedOf", "[J", true)
  | 81 => ("DiskEvidenceModel", "gradeOf", "[I", true)
  | 82 => ("DiskEvidenceModel", "parentOf", "[I", true)
  | 83 => ("DiskEvidenceModel", "depthOf", "[I", true)
  | 84 => ("DiskEvidenceModel", "faultsOf", "[I", true)
  | 85 => ("DiskEvidenceModel", "blocksMany", "[I", true)
  | 86 => ("DiskEvidenceModel", "fileBlocks", "[I", true)
  | 87 => ("DiskEvidenceModel", "nameMany", "[I", true)
  | 88 => ("DiskEvidenceModel", "nameBytes", "[I", true)
  | 89 => ("DiskEvidenceModel", "sourceOf", "[I", true)
  | 90 => ("DiskEvidenceModel", "sourceFrom", "[I", true)
  | 91 => ("DiskEvidenceModel", "tree", "I", false)
  | 92 => ("DiskEvidenceModel", "file", "I", false)
  | 93 => ("DiskEvidenceModel", "deep", "I", false)
  | 94 => ("DiskEvidenceModel", "walkFile", "[I", true)
  | 95 => ("DiskEvidenceModel", "walkRow", "[I", true)
  | 96 => ("DiskEvidenceModel", "walkNode", "[I", true)
  | 97 => ("DiskEvidenceModel", "erasedRows", "I", false)
  | 98 => ("DiskEvidenceModel", "erasedRow", "[I", true)
  | 99 => ("DiskEvidenceModel", "erasedParent", "[I", true)
  | 100 => ("DiskEvidenceModel", "erasedDepth", "[I", true)
  | 101 => ("DiskEvidenceModel", "isWalked", "[Z", true)
  | 102 => ("DiskEvidenceModel", "entries", "I", false)
  | 103 => ("DiskEvidenceModel", "entryAt", "[I", true)
  | 104 => ("DiskEvidenceModel", "entryHas", "[I", true)
  | 105 => ("DiskEvidenceModel", "row", "[I", true)
  | 106 => ("DiskEvidenceModel", "rowMany", "I", false)
  | 107 => ("DiskEvidenceModel", "opens", "I", false)
  | 108 => ("DiskEvidenceModel", "open", "I", false)
  | 109 => ("DiskEvidenceModel", "nodeLimit", "I", false)
  | 110 => ("DiskEvidenceModel", "broken", "I", false)
  | 111 => ("DiskEvidenceModel", "openTree", "[I", true)
  | 112 => ("DiskEvidenceModel", "openFile", "[I", true)
  | 113 => ("DiskEvidenceModel", "openSize", "[I", true)
  | 114 => ("DiskEvidenceModel", "points", "[I", true)
  | 115 => ("DiskEvidenceModel", "pointKind", "[I", true)
  | 116 => ("DiskEvidenceModel", "pointFrom", "[I", true)
  | 117 => ("DiskEvidenceModel", "pointTo", "[I", true)
  | 118 => ("DiskEvidenceModel", "pointValue", "[I", true)
  | 119 => ("DiskEvidenceModel", "pointParent", "[I", true)
  | 120 => ("DiskEvidenceModel", "packs", "I", false)
  | 121 => ("DiskEvidenceModel", "packAt", "[I", true)
  | 122 => ("DiskEvidenceModel", "columns", "I", false)
  | 123 => ("DiskEvidenceModel", "isHad", "[Z", true)
  | 124 => ("DiskEvidenceModel", "hits", "I", false)
  | 125 => ("DiskEvidenceModel", "hitFile", "[I", true)
  | 126 => ("DiskEvidenceModel", "hitAt", "[I", true)
  | 127 => ("DiskEvidenceModel", "hitMany", "[I", true)
  | 128 => ("DiskEvidenceModel", "newHits", "I", false)
  | 129 => ("DiskEvidenceModel", "atoms", "I", false)
  | 130 => ("DiskEvidenceModel", "takes", "[Z", true)
  | 131 => ("DiskEvidenceModel", "often", "[I", true)
  | 132 => ("DiskEvidenceModel", "fieldWords", "[C", true)
  | 133 => ("DiskEvidenceModel", "wordFrom", "[I", true)
  | 134 => ("DiskEvidenceModel", "sortWord", "[C", true)
  | 135 => ("DiskEvidenceModel", "place", "I", false)
  | 136 => ("DiskEvidenceModel", "isStuck", "Z", false)
  | 137 => ("DiskEvidenceModel", "opsMany", "I", false)
  | 138 => ("DiskEvidenceModel", "ops", "[I", true)
  | 139 => ("DiskEvidenceModel", "pileMany", "I", false)
  | 140 => ("DiskEvidenceModel", "pile", "[I", true)
  | 141 => ("DiskEvidenceModel", "asked", "I", false)
  | 142 => ("DiskEvidenceModel", "askField", "[I", true)
  | 143 => ("DiskEvidenceModel", "askHow", "[I", true)
  | 144 => ("DiskEvidenceModel", "askFrom", "[I", true)
  | 145 => ("DiskEvidenceModel", "askTo", "[I", true)
  | 146 => ("DiskEvidenceModel", "sortBy", "I", false)
  | 147 => ("DiskEvidenceModel", "falls", "Z", false)
  | 148 => ("DiskEvidenceModel", "truths", "[Z", true)
  | 149 => ("DiskEvidenceModel", "results", "I", false)
  | 150 => ("DiskEvidenceModel", "result", "[I", true)
  | 151 => ("DiskEvidenceModel", "moments", "I", false)
  | 152 => ("DiskEvidenceModel", "momentAt", "[J", true)
  | 153 => ("DiskEvidenceModel", "momentGrain", "[I", true)
  | 154 => ("DiskEvidenceModel", "momentTree", "[I", true)
  | 155 => ("DiskEvidenceModel", "momentFile", "[I", true)
  | 156 => ("DiskEvidenceModel", "momentWhich", "[I", true)
  | 157 => ("DiskEvidenceModel", "doubts", "I", false)
  | 158 => ("DiskEvidenceModel", "doubtTree", "[I", true)
  | 159 => ("DiskEvidenceModel", "doubtFile", "[I", true)
  | 160 => ("DiskEvidenceModel", "doubtWhich", "[I", true)
  | 161 => ("DiskEvidenceModel", "claims", "I", false)
  | 162 => ("DiskEvidenceModel", "claimTree", "[I", true)
  | 163 => ("DiskEvidenceModel", "claimFile", "[I", true)
  | 164 => ("DiskEvidenceModel", "claimKind", "[I", true)
  | 165 => ("DiskEvidenceModel", "claimA", "[I", true)
  | 166 => ("DiskEvidenceModel", "claimGrade", "[I", true)
  | 167 => ("DiskEvidenceModel", "acts", "I", false)
  | 168 => ("DiskEvidenceModel", "actWho", "[I", true)
  | 169 => ("DiskEvidenceModel", "actWhat", "[I", true)
  | 170 => ("DiskEvidenceModel", "actAt", "[I", true)
  | _ => ("DiskEvidenceModel", "actLink", "[J", true)
def tyX12 : Nat → FieldType := fun k => match k with
  | 0 => .int
  | 1 => .array .int
  | 2 => .int
  | 3 => .int
  | 4 => .array .int
  | 5 => .array .int
  | 6 => .array .boolean
  | 7 => .int
  | 8 => .array .int
  | 9 => .array .int
  | 10 => .array .int
  | 11 => .array .int
  | 12 => .array .int
  | 13 => .array .int
  | 14 => .array .boolean
  | 15 => .boolean
  | 16 => .int
  | 17 => .array .boolean
  | 18 => .array .boolean
  | 19 => .int
  | 20 => .int
  | 21 => .array .int
  | 22 => .array .int
  | 23 => .array .int
  | 24 => .array .int
  | 25 => .array .int
  | 26 => .int
  | 27 => .array .int
  | 28 => .array .int
  | 29 => .int
  | 30 => .int
  | 31 => .array .int
  | 32 => .array .int
  | 33 => .array .int
  | 34 => .int
  | 35 => .array .int
  | 36 => .array .int
  | 37 => .array .int
  | 38 => .array .int
  | 39 => .int
  | 40 => .int
  | 41 => .int
  | 42 => .int
  | 43 => .int
  | 44 => .int
  | 45 => .int
  | 46 => .int
  | 47 => .int
  | 48 => .int
  | 49 => .int
  | 50 => .array .int
  | 51 => .array .int
  | 52 => .int
  | 53 => .int
  | 54 => .array .int
  | 55 => .int
  | 56 => .int
  | 57 => .int
  | 58 => .int
  | 59 => .int
  | 60 => .array .int
  | 61 => .array .int
  | 62 => .array .int
  | 63 => .array .int
  | 64 => .array .int
  | 65 => .array .int
  | 66 => .array .int
  | 67 => .array .int
  | 68 => .array .int
  | 69 => .array .int
  | 70 => .array .int
  | 71 => .array .int
  | 72 => .array .int
  | 73 => .array .int
  | 74 => .array .int
  | 75 => .array .int
  | 76 => .array .int
  | 77 => .array .long
  | 78 => .array .long
  | 79 => .array .long
  | 80 => .array .long
  | 81 => .array .int
  | 82 => .array .int
  | 83 => .array .int
  | 84 => .array .int
  | 85 => .array .int
  | 86 => .array .int
  | 87 => .array .int
  | 88 => .array .int
  | 89 => .array .int
  | 90 => .array .int
  | 91 => .int
  | 92 => .int
  | 93 => .int
  | 94 => .array .int
  | 95 => .array .int
  | 96 => .array .int
  | 97 => .int
  | 98 => .array .int
  | 99 => .array .int
  | 100 => .array .int
  | 101 => .array .boolean
  | 102 => .int
  | 103 => .array .int
  | 104 => .array .int
  | 105 => .array .int
  | 106 => .int
  | 107 => .int
  | 108 => .int
  | 109 => .int
  | 110 => .int
  | 111 => .array .int
  | 112 => .array .int
  | 113 => .array .int
  | 114 => .array .int
  | 115 => .array .int
  | 116 => .array .int
  | 117 => .array .int
  | 118 => .array .int
  | 119 => .array .int
  | 120 => .int
  | 121 => .array .int
  | 122 => .int
  | 123 => .array .boolean
  | 124 => .int
  | 125 => .array .int
  | 126 => .array .int
  | 127 => .array .int
  | 128 => .int
  | 129 => .int
  | 130 => .array .boolean
  | 131 => .array .int
  | 132 => .array .char
  | 133 => .array .int
  | 134 => .array .char
  | 135 => .int
  | 136 => .boolean
  | 137 => .int
  | 138 => .array .int
  | 139 => .int
  | 140 => .array .int
  | 141 => .int
  | 142 => .array .int
  | 143 => .array .int
  | 144 => .array .int
  | 145 => .array .int
  | 146 => .int
  | 147 => .boolean
  | 148 => .array .boolean
  | 149 => .int
  | 150 => .array .int
  | 151 => .int
  | 152 => .array .long
  | 153 => .array .int
  | 154 => .array .int
  | 155 => .array .int
  | 156 => .array .int
  | 157 => .int
  | 158 => .array .int
  | 159 => .array .int
  | 160 => .array .int
  | 161 => .int
  | 162 => .array .int
  | 163 => .array .int
  | 164 => .array .int
  | 165 => .array .int
  | 166 => .array .int
  | 167 => .int
  | 168 => .array .int
  | 169 => .array .int
  | 170 => .array .int
  | _ => .array .long
abbrev wsX120 : List Cond := u_ws RX12 TX12 172
theorem nmX12 : ∀ a, a < 172 → ∀ b, b < 172 → a ≠ b → (TX12 a).2.1 ≠ (TX12 b).2.1 := by decide +kernel
theorem tyX12_ok : ∀ k, k < 172 → parseFieldDescriptor (TX12 k).2.2.1 = some (tyX12 k) := by decide +kernel
abbrev cX12_in : ByteArray := prog_14_method_2_code
def yX12_in : MethodName := ⟨RX12, "in", "(JJJ)Z"⟩
abbrev cX12_collect : ByteArray := prog_14_method_3_code
def yX12_collect : MethodName := ⟨RX12, "collect", "(JI)I"⟩
abbrev cX12_forget : ByteArray := prog_14_method_4_code
def yX12_forget : MethodName := ⟨RX12, "forget", "()I"⟩
abbrev cX12_tick : ByteArray := prog_14_method_5_code
def yX12_tick : MethodName := ⟨RX12, "tick", "(I)I"⟩
abbrev cX12_mixed : ByteArray := prog_14_method_6_code
def yX12_mixed : MethodName := ⟨RX12, "mixed", "(II)I"⟩
abbrev cX12_crcOf : ByteArray := prog_14_method_7_code
def yX12_crcOf : MethodName := ⟨RX12, "crcOf", "([III)I"⟩
abbrev cX12_isPicture : ByteArray := prog_14_method_8_code
def yX12_isPicture : MethodName := ⟨RX12, "isPicture", "(I)Z"⟩
abbrev cX12_isSector : ByteArray := prog_14_method_9_code
def yX12_isSector : MethodName := ⟨RX12, "isSector", "(II)Z"⟩
abbrev cX12_blank : ByteArray := prog_14_method_10_code
def yX12_blank : MethodName := ⟨RX12, "blank", "(I)I"⟩
abbrev cX12_begin : ByteArray := prog_14_method_11_code
def yX12_begin : MethodName := ⟨RX12, "begin", "(I)I"⟩
abbrev cX12_number : ByteArray := prog_14_method_12_code
def yX12_number : MethodName := ⟨RX12, "number", "([III)I"⟩
abbrev cX12_is : ByteArray := prog_14_method_13_code
def yX12_is : MethodName := ⟨RX12, "is", "(III)Z"⟩
abbrev cX12_picture : ByteArray := prog_14_method_14_code
def yX12_picture : MethodName := ⟨RX12, "picture", "()I"⟩
abbrev cX12_unpack : ByteArray := prog_14_method_15_code
def yX12_unpack : MethodName := ⟨RX12, "unpack", "()I"⟩
abbrev cX12_sectors : ByteArray := prog_14_method_16_code
def yX12_sectors : MethodName := ⟨RX12, "sectors", "(I)I"⟩
abbrev cX12_spoil : ByteArray := prog_14_method_17_code
def yX12_spoil : MethodName := ⟨RX12, "spoil", "(IIZ)I"⟩
abbrev cX12_change : ByteArray := prog_14_method_18_code
def yX12_change : MethodName := ⟨RX12, "change", "(II)V"⟩
abbrev cX12_read : ByteArray := prog_14_method_19_code
def yX12_read : MethodName := ⟨RX12, "read", "(II)I"⟩
abbrev cX12_isByte : ByteArray := prog_14_method_20_code
def yX12_isByte : MethodName := ⟨RX12, "isByte", "(II)Z"⟩
abbrev cX12_byteAt : ByteArray := prog_14_method_21_code
def yX12_byteAt : MethodName := ⟨RX12, "byteAt", "(II)I"⟩
abbrev cX12_poke : ByteArray := prog_14_method_22_code
def yX12_poke : MethodName := ⟨RX12, "poke", "(III)I"⟩
abbrev cX12_crc : ByteArray := prog_14_method_23_code
def yX12_crc : MethodName := ⟨RX12, "crc", "(III)J"⟩
abbrev cX12_two : ByteArray := prog_14_method_24_code
def yX12_two : MethodName := ⟨RX12, "two", "(II)I"⟩
abbrev cX12_isTable : ByteArray := prog_14_method_25_code
def yX12_isTable : MethodName := ⟨RX12, "isTable", "(II)Z"⟩
abbrev cX12_isNewTable : ByteArray := prog_14_method_26_code
def yX12_isNewTable : MethodName := ⟨RX12, "isNewTable", "(II)Z"⟩
abbrev cX12_findParts : ByteArray := prog_14_method_27_code
def yX12_findParts : MethodName := ⟨RX12, "findParts", "(I)V"⟩
abbrev cX12_parts : ByteArray := prog_14_method_28_code
def yX12_parts : MethodName := ⟨RX12, "parts", "(I)I"⟩
abbrev cX12_areJoint : ByteArray := prog_14_method_29_code
def yX12_areJoint : MethodName := ⟨RX12, "areJoint", "(II)Z"⟩
abbrev cX12_part : ByteArray := prog_14_method_30_code
def yX12_part : MethodName := ⟨RX12, "part", "(III)I"⟩
abbrev cX12_isVolume : ByteArray := prog_14_method_31_code
def yX12_isVolume : MethodName := ⟨RX12, "isVolume", "(I)Z"⟩
abbrev cX12_newVolume : ByteArray := prog_14_method_32_code
def yX12_newVolume : MethodName := ⟨RX12, "newVolume", "(II)I"⟩
abbrev cX12_volume : ByteArray := prog_14_method_33_code
def yX12_volume : MethodName := ⟨RX12, "volume", "(III)I"⟩
abbrev cX12_join : ByteArray := prog_14_method_34_code
def yX12_join : MethodName := ⟨RX12, "join", "(IIII)I"⟩
abbrev cX12_locate : ByteArray := prog_14_method_35_code
def yX12_locate : MethodName := ⟨RX12, "locate", "(II)V"⟩
abbrev cX12_other : ByteArray := prog_14_method_36_code
def yX12_other : MethodName := ⟨RX12, "other", "(II)I"⟩
abbrev cX12_refresh : ByteArray := prog_14_method_37_code
def yX12_refresh : MethodName := ⟨RX12, "refresh", "()V"⟩
abbrev cX12_hasChanged : ByteArray := prog_14_method_38_code
def yX12_hasChanged : MethodName := ⟨RX12, "hasChanged", "(II)Z"⟩
abbrev cX12_readBlock : ByteArray := prog_14_method_39_code
def yX12_readBlock : MethodName := ⟨RX12, "readBlock", "(II)V"⟩
abbrev cX12_blocks : ByteArray := prog_14_method_40_code
def yX12_blocks : MethodName := ⟨RX12, "blocks", "(I)I"⟩
abbrev cX12_volumeByte : ByteArray := prog_14_method_41_code
def yX12_volumeByte : MethodName := ⟨RX12, "volumeByte", "(II)I"⟩
abbrev cX12_where : ByteArray := prog_14_method_42_code
def yX12_where : MethodName := ⟨RX12, "where", "(II)I"⟩
abbrev cX12_wait : ByteArray := prog_14_method_43_code
def yX12_wait : MethodName := ⟨RX12, "wait", "(II)V"⟩
abbrev cX12_writeBlock : ByteArray := prog_14_method_44_code
def yX12_writeBlock : MethodName := ⟨RX12, "writeBlock", "(II)V"⟩
abbrev cX12_writeSector : ByteArray := prog_14_method_45_code
def yX12_writeSector : MethodName := ⟨RX12, "writeSector", "(II)V"⟩
abbrev cX12_writeParity : ByteArray := prog_14_method_46_code
def yX12_writeParity : MethodName := ⟨RX12, "writeParity", "(II)V"⟩
abbrev cX12_take : ByteArray := prog_14_method_47_code
def yX12_take : MethodName := ⟨RX12, "take", "(I)V"⟩
abbrev cX12_give : ByteArray := prog_14_method_48_code
def yX12_give : MethodName := ⟨RX12, "give", "(IZ)V"⟩
abbrev cX12_put : ByteArray := prog_14_method_49_code
def yX12_put : MethodName := ⟨RX12, "put", "(IIJ)V"⟩
abbrev cX12_get : ByteArray := prog_14_method_50_code
def yX12_get : MethodName := ⟨RX12, "get", "(II)I"⟩
abbrev cX12_isCells : ByteArray := prog_14_method_51_code
def yX12_isCells : MethodName := ⟨RX12, "isCells", "()Z"⟩
abbrev cX12_layCells : ByteArray := prog_14_method_52_code
def yX12_layCells : MethodName := ⟨RX12, "layCells", "()Z"⟩
abbrev cX12_isNodes : ByteArray := prog_14_method_53_code
def yX12_isNodes : MethodName := ⟨RX12, "isNodes", "()Z"⟩
abbrev cX12_nodeAt : ByteArray := prog_14_method_54_code
def yX12_nodeAt : MethodName := ⟨RX12, "nodeAt", "(I)I"⟩
abbrev cX12_isZero : ByteArray := prog_14_method_55_code
def yX12_isZero : MethodName := ⟨RX12, "isZero", "(I)Z"⟩
abbrev cX12_octal : ByteArray := prog_14_method_56_code
def yX12_octal : MethodName := ⟨RX12, "octal", "(II)J"⟩
abbrev cX12_headerSum : ByteArray := prog_14_method_57_code
def yX12_headerSum : MethodName := ⟨RX12, "headerSum", "(I)I"⟩
abbrev cX12_isHeader : ByteArray := prog_14_method_58_code
def yX12_isHeader : MethodName := ⟨RX12, "isHeader", "(I)Z"⟩
abbrev cX12_findForm : ByteArray := prog_14_method_59_code
def yX12_findForm : MethodName := ⟨RX12, "findForm", "()V"⟩
abbrev cX12_format : ByteArray := prog_14_method_60_code
def yX12_format : MethodName := ⟨RX12, "format", "(III)I"⟩
abbrev cX12_layForm : ByteArray := prog_14_method_61_code
def yX12_layForm : MethodName := ⟨RX12, "layForm", "(I)V"⟩
abbrev cX12_setCell : ByteArray := prog_14_method_62_code
def yX12_setCell : MethodName := ⟨RX12, "setCell", "(II)V"⟩
abbrev cX12_cell : ByteArray := prog_14_method_63_code
def yX12_cell : MethodName := ⟨RX12, "cell", "(I)I"⟩
abbrev cX12_setBit : ByteArray := prog_14_method_64_code
def yX12_setBit : MethodName := ⟨RX12, "setBit", "(IIZ)V"⟩
abbrev cX12_bit : ByteArray := prog_14_method_65_code
def yX12_bit : MethodName := ⟨RX12, "bit", "(II)Z"⟩
abbrev cX12_isNameByte : ByteArray := prog_14_method_66_code
def yX12_isNameByte : MethodName := ⟨RX12, "isNameByte", "(III)Z"⟩
abbrev cX12_isGoodName : ByteArray := prog_14_method_67_code
def yX12_isGoodName : MethodName := ⟨RX12, "isGoodName", "(II)Z"⟩
abbrev cX12_readPath : ByteArray := prog_14_method_68_code
def yX12_readPath : MethodName := ⟨RX12, "readPath", "(Z)Z"⟩
abbrev cX12_follow : ByteArray := prog_14_method_69_code
def yX12_follow : MethodName := ⟨RX12, "follow", "(I)V"⟩
abbrev cX12_isCluster : ByteArray := prog_14_method_70_code
def yX12_isCluster : MethodName := ⟨RX12, "isCluster", "(I)Z"⟩
abbrev cX12_isLinked : ByteArray := prog_14_method_71_code
def yX12_isLinked : MethodName := ⟨RX12, "isLinked", "(I)Z"⟩
abbrev cX12_clusterBlock : ByteArray := prog_14_method_72_code
def yX12_clusterBlock : MethodName := ⟨RX12, "clusterBlock", "(I)I"⟩
abbrev cX12_isData : ByteArray := prog_14_method_73_code
def yX12_isData : MethodName := ⟨RX12, "isData", "(I)Z"⟩
abbrev cX12_placesOf : ByteArray := prog_14_method_74_code
def yX12_placesOf : MethodName := ⟨RX12, "placesOf", "(I)I"⟩
abbrev cX12_placeBlock : ByteArray := prog_14_method_75_code
def yX12_placeBlock : MethodName := ⟨RX12, "placeBlock", "(II)I"⟩
abbrev cX12_followNode : ByteArray := prog_14_method_76_code
def yX12_followNode : MethodName := ⟨RX12, "followNode", "(I)V"⟩
abbrev cX12_rowAt : ByteArray := prog_14_method_77_code
def yX12_rowAt : MethodName := ⟨RX12, "rowAt", "(I)I"⟩
abbrev cX12_enter : ByteArray := prog_14_method_78_code
def yX12_enter : MethodName := ⟨RX12, "enter", "()V"⟩
abbrev cX12_unblanked : ByteArray := prog_14_method_79_code
def yX12_unblanked : MethodName := ⟨RX12, "unblanked", "(II)I"⟩
abbrev cX12_rowNameSize : ByteArray := prog_14_method_80_code
def yX12_rowNameSize : MethodName := ⟨RX12, "rowNameSize", "(I)I"⟩
abbrev cX12_rowName : ByteArray := prog_14_method_81_code
def yX12_rowName : MethodName := ⟨RX12, "rowName", "(II)I"⟩
abbrev cX12_isNamed : ByteArray := prog_14_method_82_code
def yX12_isNamed : MethodName := ⟨RX12, "isNamed", "(III)Z"⟩
abbrev cX12_isNode : ByteArray := prog_14_method_83_code
def yX12_isNode : MethodName := ⟨RX12, "isNode", "(I)Z"⟩
abbrev cX12_lives : ByteArray := prog_14_method_84_code
def yX12_lives : MethodName := ⟨RX12, "lives", "(I)Z"⟩
abbrev cX12_isFolder : ByteArray := prog_14_method_85_code
def yX12_isFolder : MethodName := ⟨RX12, "isFolder", "(I)Z"⟩
abbrev cX12_look : ByteArray := prog_14_method_86_code
def yX12_look : MethodName := ⟨RX12, "look", "(II)V"⟩
abbrev cX12_walkPath : ByteArray := prog_14_method_87_code
def yX12_walkPath : MethodName := ⟨RX12, "walkPath", "()Z"⟩
abbrev cX12_stamp : ByteArray := prog_14_method_88_code
def yX12_stamp : MethodName := ⟨RX12, "stamp", "()J"⟩
abbrev cX12_freeCell : ByteArray := prog_14_method_89_code
def yX12_freeCell : MethodName := ⟨RX12, "freeCell", "()I"⟩
abbrev cX12_freeBlock : ByteArray := prog_14_method_90_code
def yX12_freeBlock : MethodName := ⟨RX12, "freeBlock", "()I"⟩
abbrev cX12_fill : ByteArray := prog_14_method_91_code
def yX12_fill : MethodName := ⟨RX12, "fill", "(II)V"⟩
abbrev cX12_newRow : ByteArray := prog_14_method_92_code
def yX12_newRow : MethodName := ⟨RX12, "newRow", "()I"⟩
abbrev cX12_growNode : ByteArray := prog_14_method_93_code
def yX12_growNode : MethodName := ⟨RX12, "growNode", "()Z"⟩
abbrev cX12_setPlace : ByteArray := prog_14_method_94_code
def yX12_setPlace : MethodName := ⟨RX12, "setPlace", "(II)Z"⟩
abbrev cX12_freeChain : ByteArray := prog_14_method_95_code
def yX12_freeChain : MethodName := ⟨RX12, "freeChain", "(I)V"⟩
abbrev cX12_freeNode : ByteArray := prog_14_method_96_code
def yX12_freeNode : MethodName := ⟨RX12, "freeNode", "(I)V"⟩
abbrev cX12_writeName : ByteArray := prog_14_method_97_code
def yX12_writeName : MethodName := ⟨RX12, "writeName", "(I)V"⟩
abbrev cX12_makeCells : ByteArray := prog_14_method_98_code
def yX12_makeCells : MethodName := ⟨RX12, "makeCells", "(IZ)I"⟩
abbrev cX12_makeNode : ByteArray := prog_14_method_99_code
def yX12_makeNode : MethodName := ⟨RX12, "makeNode", "(IZ)I"⟩
abbrev cX12_freeNodeNumber : ByteArray := prog_14_method_100_code
def yX12_freeNodeNumber : MethodName := ⟨RX12, "freeNodeNumber", "()I"⟩
abbrev cX12_walkTape : ByteArray := prog_14_method_101_code
def yX12_walkTape : MethodName := ⟨RX12, "walkTape", "()Z"⟩
abbrev cX12_tapeBlocks : ByteArray := prog_14_method_102_code
def yX12_tapeBlocks : MethodName := ⟨RX12, "tapeBlocks", "(I)I"⟩
abbrev cX12_putOctal : ByteArray := prog_14_method_103_code
def yX12_putOctal : MethodName := ⟨RX12, "putOctal", "(IIJ)V"⟩
abbrev cX12_makeEntry : ByteArray := prog_14_method_104_code
def yX12_makeEntry : MethodName := ⟨RX12, "makeEntry", "(IZ)I"⟩
abbrev cX12_make : ByteArray := prog_14_method_105_code
def yX12_make : MethodName := ⟨RX12, "make", "(IZ)I"⟩
abbrev cX12_save : ByteArray := prog_14_method_106_code
def yX12_save : MethodName := ⟨RX12, "save", "(I)I"⟩
abbrev cX12_folder : ByteArray := prog_14_method_107_code
def yX12_folder : MethodName := ⟨RX12, "folder", "(I)I"⟩
abbrev cX12_hasRows : ByteArray := prog_14_method_108_code
def yX12_hasRows : MethodName := ⟨RX12, "hasRows", "(I)Z"⟩
abbrev cX12_erase : ByteArray := prog_14_method_109_code
def yX12_erase : MethodName := ⟨RX12, "erase", "(I)I"⟩
abbrev cX12_remove : ByteArray := prog_14_method_110_code
def yX12_remove : MethodName := ⟨RX12, "remove", "(I)I"⟩
abbrev cX12_filesOf : ByteArray := prog_14_method_111_code
def yX12_filesOf : MethodName := ⟨RX12, "filesOf", "(I)I"⟩
abbrev cX12_isTree : ByteArray := prog_14_method_112_code
def yX12_isTree : MethodName := ⟨RX12, "isTree", "(I)Z"⟩
abbrev cX12_isFile : ByteArray := prog_14_method_113_code
def yX12_isFile : MethodName := ⟨RX12, "isFile", "(II)Z"⟩
abbrev cX12_addFault : ByteArray := prog_14_method_114_code
def yX12_addFault : MethodName := ⟨RX12, "addFault", "(III)V"⟩
abbrev cX12_owner : ByteArray := prog_14_method_115_code
def yX12_owner : MethodName := ⟨RX12, "owner", "(I)I"⟩
abbrev cX12_own : ByteArray := prog_14_method_116_code
def yX12_own : MethodName := ⟨RX12, "own", "(II)V"⟩
abbrev cX12_newFile : ByteArray := prog_14_method_117_code
def yX12_newFile : MethodName := ⟨RX12, "newFile", "(IIII)I"⟩
abbrev cX12_addName : ByteArray := prog_14_method_118_code
def yX12_addName : MethodName := ⟨RX12, "addName", "(I)V"⟩
abbrev cX12_addNumber : ByteArray := prog_14_method_119_code
def yX12_addNumber : MethodName := ⟨RX12, "addNumber", "(II)V"⟩
abbrev cX12_addBlock : ByteArray := prog_14_method_120_code
def yX12_addBlock : MethodName := ⟨RX12, "addBlock", "(I)V"⟩
abbrev cX12_wide : ByteArray := prog_14_method_121_code
def yX12_wide : MethodName := ⟨RX12, "wide", "(I)J"⟩
abbrev cX12_mount : ByteArray := prog_14_method_122_code
def yX12_mount : MethodName := ⟨RX12, "mount", "(I)I"⟩
abbrev cX12_push : ByteArray := prog_14_method_123_code
def yX12_push : MethodName := ⟨RX12, "push", "(II)V"⟩
abbrev cX12_mountCells : ByteArray := prog_14_method_124_code
def yX12_mountCells : MethodName := ⟨RX12, "mountCells", "()V"⟩
abbrev cX12_cellsRow : ByteArray := prog_14_method_125_code
def yX12_cellsRow : MethodName := ⟨RX12, "cellsRow", "(II)I"⟩
abbrev cX12_nameCells : ByteArray := prog_14_method_126_code
def yX12_nameCells : MethodName := ⟨RX12, "nameCells", "(I)V"⟩
abbrev cX12_addCells : ByteArray := prog_14_method_127_code
def yX12_addCells : MethodName := ⟨RX12, "addCells", "(II)V"⟩
abbrev cX12_isChainOn : ByteArray := prog_14_method_128_code
def yX12_isChainOn : MethodName := ⟨RX12, "isChainOn", "(II)Z"⟩
abbrev cX12_loseCells : ByteArray := prog_14_method_129_code
def yX12_loseCells : MethodName := ⟨RX12, "loseCells", "(I)V"⟩
abbrev cX12_mountNodes : ByteArray := prog_14_method_130_code
def yX12_mountNodes : MethodName := ⟨RX12, "mountNodes", "()V"⟩
abbrev cX12_times : ByteArray := prog_14_method_131_code
def yX12_times : MethodName := ⟨RX12, "times", "(I)V"⟩
abbrev cX12_use : ByteArray := prog_14_method_132_code
def yX12_use : MethodName := ⟨RX12, "use", "(II)V"⟩
abbrev cX12_addNode : ByteArray := prog_14_method_133_code
def yX12_addNode : MethodName := ⟨RX12, "addNode", "(III)V"⟩
abbrev cX12_compareMap : ByteArray := prog_14_method_134_code
def yX12_compareMap : MethodName := ⟨RX12, "compareMap", "()V"⟩
abbrev cX12_isErased : ByteArray := prog_14_method_135_code
def yX12_isErased : MethodName := ⟨RX12, "isErased", "(I)Z"⟩
abbrev cX12_isLast : ByteArray := prog_14_method_136_code
def yX12_isLast : MethodName := ⟨RX12, "isLast", "(II)Z"⟩
abbrev cX12_loseNodes : ByteArray := prog_14_method_137_code
def yX12_loseNodes : MethodName := ⟨RX12, "loseNodes", "()V"⟩
abbrev cX12_mountTape : ByteArray := prog_14_method_138_code
def yX12_mountTape : MethodName := ⟨RX12, "mountTape", "()V"⟩
abbrev cX12_comesAgain : ByteArray := prog_14_method_139_code
def yX12_comesAgain : MethodName := ⟨RX12, "comesAgain", "(I)Z"⟩
abbrev cX12_addEntry : ByteArray := prog_14_method_140_code
def yX12_addEntry : MethodName := ⟨RX12, "addEntry", "(II)V"⟩
abbrev cX12_cutOut : ByteArray := prog_14_method_141_code
def yX12_cutOut : MethodName := ⟨RX12, "cutOut", "()V"⟩
abbrev cX12_wholeAt : ByteArray := prog_14_method_142_code
def yX12_wholeAt : MethodName := ⟨RX12, "wholeAt", "(II)I"⟩
abbrev cX12_point : ByteArray := prog_14_method_143_code
def yX12_point : MethodName := ⟨RX12, "point", "(IIIII)I"⟩
abbrev cX12_isLetter : ByteArray := prog_14_method_144_code
def yX12_isLetter : MethodName := ⟨RX12, "isLetter", "(I)Z"⟩
abbrev cX12_high : ByteArray := prog_14_method_145_code
def yX12_high : MethodName := ⟨RX12, "high", "(II)I"⟩
abbrev cX12_isPiece : ByteArray := prog_14_method_146_code
def yX12_isPiece : MethodName := ⟨RX12, "isPiece", "(I)Z"⟩
abbrev cX12_readChunks : ByteArray := prog_14_method_147_code
def yX12_readChunks : MethodName := ⟨RX12, "readChunks", "()I"⟩
abbrev cX12_low : ByteArray := prog_14_method_148_code
def yX12_low : MethodName := ⟨RX12, "low", "(II)I"⟩
abbrev cX12_isMark : ByteArray := prog_14_method_149_code
def yX12_isMark : MethodName := ⟨RX12, "isMark", "(III)Z"⟩
abbrev cX12_entrySize : ByteArray := prog_14_method_150_code
def yX12_entrySize : MethodName := ⟨RX12, "entrySize", "(I)I"⟩
abbrev cX12_rowSize : ByteArray := prog_14_method_151_code
def yX12_rowSize : MethodName := ⟨RX12, "rowSize", "(II)I"⟩
abbrev cX12_readPack : ByteArray := prog_14_method_152_code
def yX12_readPack : MethodName := ⟨RX12, "readPack", "()I"⟩
abbrev cX12_fieldEnd : ByteArray := prog_14_method_153_code
def yX12_fieldEnd : MethodName := ⟨RX12, "fieldEnd", "(II)I"⟩
abbrev cX12_rowEnd : ByteArray := prog_14_method_154_code
def yX12_rowEnd : MethodName := ⟨RX12, "rowEnd", "(II)I"⟩
abbrev cX12_isPage : ByteArray := prog_14_method_155_code
def yX12_isPage : MethodName := ⟨RX12, "isPage", "(I)Z"⟩
abbrev cX12_addPage : ByteArray := prog_14_method_156_code
def yX12_addPage : MethodName := ⟨RX12, "addPage", "(I)V"⟩
abbrev cX12_addFields : ByteArray := prog_14_method_157_code
def yX12_addFields : MethodName := ⟨RX12, "addFields", "(III)V"⟩
abbrev cX12_addLeftover : ByteArray := prog_14_method_158_code
def yX12_addLeftover : MethodName := ⟨RX12, "addLeftover", "(III)V"⟩
abbrev cX12_readRows : ByteArray := prog_14_method_159_code
def yX12_readRows : MethodName := ⟨RX12, "readRows", "()V"⟩
abbrev cX12_open : ByteArray := prog_14_method_160_code
def yX12_open : MethodName := ⟨RX12, "open", "(II)I"⟩
abbrev cX12_isOpen : ByteArray := prog_14_method_161_code
def yX12_isOpen : MethodName := ⟨RX12, "isOpen", "(I)Z"⟩
abbrev cX12_isPoint : ByteArray := prog_14_method_162_code
def yX12_isPoint : MethodName := ⟨RX12, "isPoint", "(II)Z"⟩
abbrev cX12_node : ByteArray := prog_14_method_163_code
def yX12_node : MethodName := ⟨RX12, "node", "(III)I"⟩
abbrev cX12_leftOver : ByteArray := prog_14_method_164_code
def yX12_leftOver : MethodName := ⟨RX12, "leftOver", "(I)I"⟩
abbrev cX12_opened : ByteArray := prog_14_method_165_code
def yX12_opened : MethodName := ⟨RX12, "opened", "(II)I"⟩
abbrev cX12_inside : ByteArray := prog_14_method_166_code
def yX12_inside : MethodName := ⟨RX12, "inside", "(II)I"⟩
abbrev cX12_tree : ByteArray := prog_14_method_167_code
def yX12_tree : MethodName := ⟨RX12, "tree", "(II)I"⟩
abbrev cX12_run : ByteArray := prog_14_method_168_code
def yX12_run : MethodName := ⟨RX12, "run", "(III)I"⟩
abbrev cX12_free : ByteArray := prog_14_method_169_code
def yX12_free : MethodName := ⟨RX12, "free", "(III)I"⟩
abbrev cX12_fault : ByteArray := prog_14_method_170_code
def yX12_fault : MethodName := ⟨RX12, "fault", "(III)I"⟩
abbrev cX12_owner_ : ByteArray := prog_14_method_171_code
def yX12_owner_ : MethodName := ⟨RX12, "owner", "(II)I"⟩
abbrev cX12_isCalled : ByteArray := prog_14_method_172_code
def yX12_isCalled : MethodName := ⟨RX12, "isCalled", "(III)Z"⟩
abbrev cX12_find : ByteArray := prog_14_method_173_code
def yX12_find : MethodName := ⟨RX12, "find", "(I)I"⟩
abbrev cX12_name : ByteArray := prog_14_method_174_code
def yX12_name : MethodName := ⟨RX12, "name", "(III)I"⟩
abbrev cX12_field : ByteArray := prog_14_method_175_code
def yX12_field : MethodName := ⟨RX12, "field", "(III)J"⟩
abbrev cX12_block : ByteArray := prog_14_method_176_code
def yX12_block : MethodName := ⟨RX12, "block", "(III)I"⟩
abbrev cX12_inBlocks : ByteArray := prog_14_method_177_code
def yX12_inBlocks : MethodName := ⟨RX12, "inBlocks", "(III)I"⟩
abbrev cX12_content : ByteArray := prog_14_method_178_code
def yX12_content : MethodName := ⟨RX12, "content", "(III)I"⟩
abbrev cX12_slack : ByteArray := prog_14_method_179_code
def yX12_slack : MethodName := ⟨RX12, "slack", "(III)I"⟩
abbrev cX12_addHit : ByteArray := prog_14_method_180_code
def yX12_addHit : MethodName := ⟨RX12, "addHit", "(III)V"⟩
abbrev cX12_lay : ByteArray := prog_14_method_181_code
def yX12_lay : MethodName := ⟨RX12, "lay", "(II)V"⟩
abbrev cX12_isSearched : ByteArray := prog_14_method_182_code
def yX12_isSearched : MethodName := ⟨RX12, "isSearched", "(II)Z"⟩
abbrev cX12_word : ByteArray := prog_14_method_183_code
def yX12_word : MethodName := ⟨RX12, "word", "(I)I"⟩
abbrev cX12_allow : ByteArray := prog_14_method_184_code
def yX12_allow : MethodName := ⟨RX12, "allow", "(II)V"⟩
abbrev cX12_readAtoms : ByteArray := prog_14_method_185_code
def yX12_readAtoms : MethodName := ⟨RX12, "readAtoms", "()I"⟩
abbrev cX12_readSet : ByteArray := prog_14_method_186_code
def yX12_readSet : MethodName := ⟨RX12, "readSet", "(I)I"⟩
abbrev cX12_passed : ByteArray := prog_14_method_187_code
def yX12_passed : MethodName := ⟨RX12, "passed", "(I)I"⟩
abbrev cX12_longest : ByteArray := prog_14_method_188_code
def yX12_longest : MethodName := ⟨RX12, "longest", "(I)I"⟩
abbrev cX12_pattern : ByteArray := prog_14_method_189_code
def yX12_pattern : MethodName := ⟨RX12, "pattern", "(I)I"⟩
abbrev cX12_hit : ByteArray := prog_14_method_190_code
def yX12_hit : MethodName := ⟨RX12, "hit", "(II)I"⟩
abbrev cX12_grainOf : ByteArray := prog_14_method_191_code
def yX12_grainOf : MethodName := ⟨RX12, "grainOf", "(II)I"⟩
abbrev cX12_hasMoment : ByteArray := prog_14_method_192_code
def yX12_hasMoment : MethodName := ⟨RX12, "hasMoment", "(III)Z"⟩
abbrev cX12_moment : ByteArray := prog_14_method_193_code
def yX12_moment : MethodName := ⟨RX12, "moment", "(III)J"⟩
abbrev cX12_blanks : ByteArray := prog_14_method_194_code
def yX12_blanks : MethodName := ⟨RX12, "blanks", "()V"⟩
abbrev cX12_peek : ByteArray := prog_14_method_195_code
def yX12_peek : MethodName := ⟨RX12, "peek", "()I"⟩
abbrev cX12_begins : ByteArray := prog_14_method_196_code
def yX12_begins : MethodName := ⟨RX12, "begins", "(II)Z"⟩
abbrev cX12_readField : ByteArray := prog_14_method_197_code
def yX12_readField : MethodName := ⟨RX12, "readField", "(I)I"⟩
abbrev cX12_readName : ByteArray := prog_14_method_198_code
def yX12_readName : MethodName := ⟨RX12, "readName", "()V"⟩
abbrev cX12_readNumber : ByteArray := prog_14_method_199_code
def yX12_readNumber : MethodName := ⟨RX12, "readNumber", "()V"⟩
abbrev cX12_openMarks : ByteArray := prog_14_method_200_code
def yX12_openMarks : MethodName := ⟨RX12, "openMarks", "()I"⟩
abbrev cX12_reduce : ByteArray := prog_14_method_201_code
def yX12_reduce : MethodName := ⟨RX12, "reduce", "(ZZ)V"⟩
abbrev cX12_readOne : ByteArray := prog_14_method_202_code
def yX12_readOne : MethodName := ⟨RX12, "readOne", "()V"⟩
abbrev cX12_isOpenMark : ByteArray := prog_14_method_203_code
def yX12_isOpenMark : MethodName := ⟨RX12, "isOpenMark", "()Z"⟩
abbrev cX12_readQuestion : ByteArray := prog_14_method_204_code
def yX12_readQuestion : MethodName := ⟨RX12, "readQuestion", "()V"⟩
abbrev cX12_readSort : ByteArray := prog_14_method_205_code
def yX12_readSort : MethodName := ⟨RX12, "readSort", "()V"⟩
abbrev cX12_hasField : ByteArray := prog_14_method_206_code
def yX12_hasField : MethodName := ⟨RX12, "hasField", "(III)Z"⟩
abbrev cX12_fieldOf : ByteArray := prog_14_method_207_code
def yX12_fieldOf : MethodName := ⟨RX12, "fieldOf", "(III)J"⟩
abbrev cX12_hasLetters : ByteArray := prog_14_method_208_code
def yX12_hasLetters : MethodName := ⟨RX12, "hasLetters", "(III)Z"⟩
abbrev cX12_isAsked : ByteArray := prog_14_method_209_code
def yX12_isAsked : MethodName := ⟨RX12, "isAsked", "(III)Z"⟩
abbrev cX12_isTrue : ByteArray := prog_14_method_210_code
def yX12_isTrue : MethodName := ⟨RX12, "isTrue", "(II)Z"⟩
abbrev cX12_comesFirst : ByteArray := prog_14_method_211_code
def yX12_comesFirst : MethodName := ⟨RX12, "comesFirst", "(III)Z"⟩
abbrev cX12_question : ByteArray := prog_14_method_212_code
def yX12_question : MethodName := ⟨RX12, "question", "(I)I"⟩
abbrev cX12_row : ByteArray := prog_14_method_213_code
def yX12_row : MethodName := ⟨RX12, "row", "(I)I"⟩
abbrev cX12_addMoment : ByteArray := prog_14_method_214_code
def yX12_addMoment : MethodName := ⟨RX12, "addMoment", "(JIIII)V"⟩
abbrev cX12_isBehind : ByteArray := prog_14_method_215_code
def yX12_isBehind : MethodName := ⟨RX12, "isBehind", "(IJIII)Z"⟩
abbrev cX12_line : ByteArray := prog_14_method_216_code
def yX12_line : MethodName := ⟨RX12, "line", "()I"⟩
abbrev cX12_time : ByteArray := prog_14_method_217_code
def yX12_time : MethodName := ⟨RX12, "time", "(II)J"⟩
abbrev cX12_addDoubt : ByteArray := prog_14_method_218_code
def yX12_addDoubt : MethodName := ⟨RX12, "addDoubt", "(III)V"⟩
abbrev cX12_doubts : ByteArray := prog_14_method_219_code
def yX12_doubts : MethodName := ⟨RX12, "doubts", "()I"⟩
abbrev cX12_doubt : ByteArray := prog_14_method_220_code
def yX12_doubt : MethodName := ⟨RX12, "doubt", "(II)I"⟩
abbrev cX12_isOwnFile : ByteArray := prog_14_method_221_code
def yX12_isOwnFile : MethodName := ⟨RX12, "isOwnFile", "(II)Z"⟩
abbrev cX12_gradeNow : ByteArray := prog_14_method_222_code
def yX12_gradeNow : MethodName := ⟨RX12, "gradeNow", "(II)I"⟩
abbrev cX12_claim : ByteArray := prog_14_method_223_code
def yX12_claim : MethodName := ⟨RX12, "claim", "(IIII)I"⟩
abbrev cX12_claimed : ByteArray := prog_14_method_224_code
def yX12_claimed : MethodName := ⟨RX12, "claimed", "(II)I"⟩
abbrev cX12_byteNow : ByteArray := prog_14_method_225_code
def yX12_byteNow : MethodName := ⟨RX12, "byteNow", "(III)I"⟩
abbrev cX12_check : ByteArray := prog_14_method_226_code
def yX12_check : MethodName := ⟨RX12, "check", "(I)I"⟩
abbrev cX12_linkOf : ByteArray := prog_14_method_227_code
def yX12_linkOf : MethodName := ⟨RX12, "linkOf", "(I)J"⟩
abbrev cX12_act : ByteArray := prog_14_method_228_code
def yX12_act : MethodName := ⟨RX12, "act", "(II)I"⟩
abbrev cX12_link : ByteArray := prog_14_method_229_code
def yX12_link : MethodName := ⟨RX12, "link", "(I)J"⟩
abbrev cX12_alter : ByteArray := prog_14_method_230_code
def yX12_alter : MethodName := ⟨RX12, "alter", "(III)I"⟩
abbrev cX12_chain : ByteArray := prog_14_method_231_code
def yX12_chain : MethodName := ⟨RX12, "chain", "()I"⟩
abbrev cX12_count : ByteArray := prog_14_method_232_code
def yX12_count : MethodName := ⟨RX12, "count", "(I)I"⟩
def RJ0 : String := "java/lang/String"
abbrev cJ0_length_8abf5 : ByteArray := prog_17_method_54_code
def yJ0_length_8abf5 : MethodName := ⟨RJ0, "length", "()I"⟩
abbrev cJ0_charAt_5068e : ByteArray := prog_17_method_56_code
def yJ0_charAt_5068e : MethodName := ⟨RJ0, "charAt", "(I)C"⟩
abbrev cJ0_coder_7d493 : ByteArray := prog_17_method_152_code
def yJ0_coder_7d493 : MethodName := ⟨RJ0, "coder", "()B"⟩
abbrev cJ0_isLatin1_aae02 : ByteArray := prog_17_method_154_code
def yJ0_isLatin1_aae02 : MethodName := ⟨RJ0, "isLatin1", "()Z"⟩
abbrev cJ0_checkIndex_df160 : ByteArray := prog_17_method_155_code
def yJ0_checkIndex_df160 : MethodName := ⟨RJ0, "checkIndex", "(II)V"⟩
def RJ1 : String := "java/lang/StringLatin1"
abbrev cJ1_charAt_3b067 : ByteArray := prog_18_method_2_code
def yJ1_charAt_3b067 : MethodName := ⟨RJ1, "charAt", "([BI)C"⟩
def RJ2 : String := "java/lang/StringUTF16"
abbrev cJ2_getChar_3b067 : ByteArray := prog_19_method_5_code
def yJ2_getChar_3b067 : MethodName := ⟨RJ2, "getChar", "([BI)C"⟩
abbrev cJ2_length_9d52b : ByteArray := prog_19_method_6_code
def yJ2_length_9d52b : MethodName := ⟨RJ2, "length", "([B)I"⟩
abbrev cJ2_charAt_3b067 : ByteArray := prog_19_method_83_code
def yJ2_charAt_3b067 : MethodName := ⟨RJ2, "charAt", "([BI)C"⟩
abbrev cJ2_checkIndex_2214a : ByteArray := prog_19_method_91_code
def yJ2_checkIndex_2214a : MethodName := ⟨RJ2, "checkIndex", "(I[B)V"⟩
def RJ7 : String := "java/util/Arrays"
abbrev cJ7_rangeCheck_23922 : ByteArray := prog_21_method_30_code
def yJ7_rangeCheck_23922 : MethodName := ⟨RJ7, "rangeCheck", "(III)V"⟩
abbrev cJ7_fill_eb02e : ByteArray := prog_21_method_110_code
def yJ7_fill_eb02e : MethodName := ⟨RJ7, "fill", "([BIIB)V"⟩
abbrev cJ7_copyOf_9075b : ByteArray := prog_21_method_121_code
def yJ7_copyOf_9075b : MethodName := ⟨RJ7, "copyOf", "([BI)[B"⟩
abbrev cJ7_copyOf_59c91 : ByteArray := prog_21_method_123_code
def yJ7_copyOf_59c91 : MethodName := ⟨RJ7, "copyOf", "([II)[I"⟩
abbrev cJ7_checkLength_df160 : ByteArray := prog_21_method_131_code
def yJ7_checkLength_df160 : MethodName := ⟨RJ7, "checkLength", "(II)V"⟩
abbrev cJ7_copyOfRange_39247 : ByteArray := prog_21_method_132_code
def yJ7_copyOfRange_39247 : MethodName := ⟨RJ7, "copyOfRange", "([BII)[B"⟩
abbrev cJ7_copyOfRangeByte_39247 : ByteArray := prog_21_method_133_code
def yJ7_copyOfRangeByte_39247 : MethodName := ⟨RJ7, "copyOfRangeByte", "([BII)[B"⟩
def RJ3 : String := "jdk/internal/util/Preconditions"
abbrev cJ3_checkIndex_8e157 : ByteArray := prog_22_method_11_code
def yJ3_checkIndex_8e157 : MethodName := ⟨RJ3, "checkIndex", "(IILjava/util/function/BiFunction;)I"⟩
def wsX5_init : List Cond := .code yX5_init cX5_init 2 none :: ([.methodLink RX5 3 objectInit, .instanceMethod objectInit, .code objectInit ⟨#[0xb1]⟩ 1 none, .arrayClass .int, .fieldLink RX5 11 "DiskEvidence$Picture" "tables" "[I", .fieldLink RX5 15 "DiskEvidence$Picture" "partFacts" "[I", .fieldLink RX5 18 "DiskEvidence$Picture" "sectorCount" "I", .arrayClass .byte, .fieldLink RX5 22 "DiskEvidence$Picture" "bytes" "[B", .arrayClass .boolean, .fieldLink RX5 26 "DiskEvidence$Picture" "spoilt" "[Z"] ++ wsX50)
def wsX8_sortMoments : List Cond := .code yX8_sortMoments cX8_sortMoments 6 none :: ([.fieldLink RX8 22 "DiskEvidence$TimeLine" "momentCount" "I", .fieldLink RX8 11 "DiskEvidence$TimeLine" "moments" "[J", .fieldLink RX8 15 "DiskEvidence$TimeLine" "marks" "[I"] ++ wsX80)
def wsX11_collect : List Cond := .code yX11_collect cX11_collect 5 (some .int) :: ([.fieldLink RX11 76 "DiskEvidence" "collectedCount" "I", .fieldLink RX11 9 "DiskEvidence" "collected" "[B"] ++ wsX110)
def wsX11_forget : List Cond := .code yX11_forget cX11_forget 2 (some .int) :: ([.fieldLink RX11 76 "DiskEvidence" "collectedCount" "I"] ++ wsX110)
def wsX11_tick : List Cond := .code yX11_tick cX11_tick 2 (some .int) :: ([.constant RX11 80 (1000000000), .constant RX11 81 (2000000000), .fieldLink RX11 82 "DiskEvidence" "now" "I"] ++ wsX110)
def wsX11_blank : List Cond := .code yX11_blank cX11_blank 2 (some .int) :: ([.fieldLink RX11 85 "DiskEvidence" "pictureCount" "I", .fieldLink RX11 15 "DiskEvidence" "pictures" "[LDiskEvidence$Picture;", .classLink RX11 13 RX5, .instantiable RX5 7, .initialized RX5, .methodLink RX11 88 yX5_init, .instanceMethod yX5_init, .code yX5_init cX5_init 2 none, .methodLink RX5 3 objectInit, .instanceMethod objectInit, .code objectInit ⟨#[0xb1]⟩ 1 none, .arrayClass .int, .fieldLink RX5 11 "DiskEvidence$Picture" "tables" "[I", .fieldLink RX5 15 "DiskEvidence$Picture" "partFacts" "[I", .fieldLink RX5 18 "DiskEvidence$Picture" "sectorCount" "I", .arrayClass .byte, .fieldLink RX5 22 "DiskEvidence$Picture" "bytes" "[B", .arrayClass .boolean, .fieldLink RX5 26 "DiskEvidence$Picture" "spoilt" "[Z"] ++ wsX110 ++ wsX50)
def wsX11_packedFault : List Cond := .code yX11_packedFault cX11_packedFault 6 (some .int) :: ([.methodLink RX11 455 yX11_u16, .static yX11_u16, .initialized RX11, .code yX11_u16 cX11_u16 2 (some .int), .methodLink RX11 169 yX11_u8, .static yX11_u8, .code yX11_u8 cX11_u8 2 (some .int), .methodLink RX11 458 yX11_packedSize, .static yX11_packedSize, .code yX11_packedSize cX11_packedSize 1 (some .int), .methodLink RX11 461 yX11_u32, .static yX11_u32, .code yX11_u32 cX11_u32 2 (some .int), .methodLink RX11 406 yX11_crcOf, .static yX11_crcOf, .code yX11_crcOf cX11_crcOf 5 (some .int), .methodLink RX11 131 yX11_crcStep, .static yX11_crcStep, .code yX11_crcStep cX11_crcStep 3 (some .int), .fieldLink RX11 452 "DiskEvidence" "CRC_STEPS" "[I"])
def wsX11_picture_r1 : List Cond := [Cond.fieldLink RX11 85 "DiskEvidence" "pictureCount" "I", Cond.fieldLink RX11 9 "DiskEvidence" "collected" "[B", Cond.fieldLink RX11 15 "DiskEvidence" "pictures" "[LDiskEvidence$Picture;", Cond.methodLink RX11 91 yX11_forget, Cond.instanceMethod yX11_forget, Cond.selects RX11 yX11_forget yX11_forget, Cond.initialized RX11, Cond.code yX11_forget cX11_forget 2 (some .int), Cond.fieldLink RX11 76 "DiskEvidence" "collectedCount" "I", Cond.methodLink RX11 95 yX11_packedFault, Cond.static yX11_packedFault, Cond.code yX11_packedFault cX11_packedFault 6 (some .int), Cond.methodLink RX11 455 yX11_u16, Cond.static yX11_u16, Cond.code yX11_u16 cX11_u16 2 (some .int), Cond.methodLink RX11 169 yX11_u8, Cond.static yX11_u8, Cond.code yX11_u8 cX11_u8 2 (some .int), Cond.methodLink RX11 458 yX11_packedSize, Cond.static yX11_packedSize, Cond.code yX11_packedSize cX11_packedSize 1 (some .int), Cond.methodLink RX11 461 yX11_u32, Cond.static yX11_u32, Cond.code yX11_u32 cX11_u32 2 (some .int)]
def wsX11_picture_r2 : List Cond := [Cond.methodLink RX11 406 yX11_crcOf, Cond.static yX11_crcOf, Cond.code yX11_crcOf cX11_crcOf 5 (some .int), Cond.methodLink RX11 131 yX11_crcStep, Cond.static yX11_crcStep, Cond.code yX11_crcStep cX11_crcStep 3 (some .int), Cond.fieldLink RX11 452 "DiskEvidence" "CRC_STEPS" "[I", Cond.methodLink RX11 99 yX11_unpacked, Cond.static yX11_unpacked, Cond.code yX11_unpacked cX11_unpacked 6 (some (.object "DiskEvidence$Picture")), Cond.classLink RX11 13 RX5, Cond.instantiable RX5 7, Cond.initialized RX5, Cond.fieldLink RX11 107 "DiskEvidence$Picture" "sectorCount" "I", Cond.fieldLink RX11 110 "DiskEvidence$Picture" "spoilt" "[Z", Cond.methodLink RX11 88 yX5_init, Cond.instanceMethod yX5_init, Cond.code yX5_init cX5_init 2 none, Cond.methodLink RX5 3 objectInit, Cond.instanceMethod objectInit, Cond.code objectInit ⟨#[0xb1]⟩ 1 none, Cond.arrayClass .int, Cond.fieldLink RX5 11 "DiskEvidence$Picture" "tables" "[I", Cond.fieldLink RX5 15 "DiskEvidence$Picture" "partFacts" "[I"]
def wsX11_picture_r3 : List Cond := [Cond.fieldLink RX5 18 "DiskEvidence$Picture" "sectorCount" "I", Cond.arrayClass .byte, Cond.fieldLink RX5 22 "DiskEvidence$Picture" "bytes" "[B", Cond.arrayClass .boolean, Cond.fieldLink RX5 26 "DiskEvidence$Picture" "spoilt" "[Z", Cond.methodLink RX11 122 yX5_writeByte, Cond.instanceMethod yX5_writeByte, Cond.selects RX5 yX5_writeByte yX5_writeByte, Cond.code yX5_writeByte cX5_writeByte 3 none, Cond.methodLink RX5 30 yX5_isLost, Cond.instanceMethod yX5_isLost, Cond.selects RX5 yX5_isLost yX5_isLost, Cond.code yX5_isLost cX5_isLost 2 (some .boolean), Cond.static yX11_put8, Cond.code yX11_put8 cX11_put8 3 none]
def wsX11_picture : List Cond := .code yX11_picture cX11_picture 3 (some .int) :: ((wsX11_picture_r1 ++ (wsX11_picture_r2 ++ wsX11_picture_r3)) ++ wsX110 ++ wsX50)
def wsX11_pictureAt : List Cond := .code yX11_pictureAt cX11_pictureAt 2 (some (.object "DiskEvidence$Picture")) :: ([.fieldLink RX11 85 "DiskEvidence" "pictureCount" "I", .fieldLink RX11 15 "DiskEvidence" "pictures" "[LDiskEvidence$Picture;"] ++ wsX110)
def wsX11_sectors : List Cond := .code yX11_sectors cX11_sectors 3 (some .int) :: ([.fieldLink RX11 107 "DiskEvidence$Picture" "sectorCount" "I", .methodLink RX11 103 yX11_pictureAt, .instanceMethod yX11_pictureAt, .selects RX11 yX11_pictureAt yX11_pictureAt, .initialized RX11, .code yX11_pictureAt cX11_pictureAt 2 (some (.object "DiskEvidence$Picture")), .fieldLink RX11 85 "DiskEvidence" "pictureCount" "I", .fieldLink RX11 15 "DiskEvidence" "pictures" "[LDiskEvidence$Picture;"] ++ wsX50 ++ wsX110)
def wsX11_spoil : List Cond := .code yX11_spoil cX11_spoil 6 (some .int) :: ([.fieldLink RX11 107 "DiskEvidence$Picture" "sectorCount" "I", .fieldLink RX11 110 "DiskEvidence$Picture" "spoilt" "[Z", .methodLink RX11 103 yX11_pictureAt, .instanceMethod yX11_pictureAt, .selects RX11 yX11_pictureAt yX11_pictureAt, .initialized RX11, .code yX11_pictureAt cX11_pictureAt 2 (some (.object "DiskEvidence$Picture")), .fieldLink RX11 85 "DiskEvidence" "pictureCount" "I", .fieldLink RX11 15 "DiskEvidence" "pictures" "[LDiskEvidence$Picture;"] ++ wsX50 ++ wsX110)
def wsX11_byteAt_r1 : List Cond := [Cond.methodLink RX11 103 yX11_pictureAt, Cond.instanceMethod yX11_pictureAt, Cond.selects RX11 yX11_pictureAt yX11_pictureAt, Cond.initialized RX11, Cond.code yX11_pictureAt cX11_pictureAt 2 (some (.object "DiskEvidence$Picture")), Cond.fieldLink RX11 85 "DiskEvidence" "pictureCount" "I", Cond.fieldLink RX11 15 "DiskEvidence" "pictures" "[LDiskEvidence$Picture;", Cond.methodLink RX11 114 yX5_hasByte, Cond.instanceMethod yX5_hasByte, Cond.selects RX5 yX5_hasByte yX5_hasByte, Cond.initialized RX5, Cond.code yX5_hasByte cX5_hasByte 2 (some .boolean), Cond.fieldLink RX5 22 "DiskEvidence$Picture" "bytes" "[B", Cond.methodLink RX11 118 yX5_readByte, Cond.instanceMethod yX5_readByte, Cond.selects RX5 yX5_readByte yX5_readByte, Cond.code yX5_readByte cX5_readByte 2 (some .int), Cond.methodLink RX5 30 yX5_isLost, Cond.instanceMethod yX5_isLost, Cond.selects RX5 yX5_isLost yX5_isLost, Cond.code yX5_isLost cX5_isLost 2 (some .boolean), Cond.fieldLink RX5 18 "DiskEvidence$Picture" "sectorCount" "I", Cond.fieldLink RX5 26 "DiskEvidence$Picture" "spoilt" "[Z", Cond.static yX11_u8]
def wsX11_byteAt_r2 : List Cond := [Cond.code yX11_u8 cX11_u8 2 (some .int)]
def wsX11_byteAt : List Cond := .code yX11_byteAt cX11_byteAt 4 (some .int) :: ((wsX11_byteAt_r1 ++ wsX11_byteAt_r2) ++ wsX110 ++ wsX50)
def wsX11_poke_r1 : List Cond := [Cond.methodLink RX11 103 yX11_pictureAt, Cond.instanceMethod yX11_pictureAt, Cond.selects RX11 yX11_pictureAt yX11_pictureAt, Cond.initialized RX11, Cond.code yX11_pictureAt cX11_pictureAt 2 (some (.object "DiskEvidence$Picture")), Cond.fieldLink RX11 85 "DiskEvidence" "pictureCount" "I", Cond.fieldLink RX11 15 "DiskEvidence" "pictures" "[LDiskEvidence$Picture;", Cond.methodLink RX11 114 yX5_hasByte, Cond.instanceMethod yX5_hasByte, Cond.selects RX5 yX5_hasByte yX5_hasByte, Cond.initialized RX5, Cond.code yX5_hasByte cX5_hasByte 2 (some .boolean), Cond.fieldLink RX5 22 "DiskEvidence$Picture" "bytes" "[B", Cond.methodLink RX11 118 yX5_readByte, Cond.instanceMethod yX5_readByte, Cond.selects RX5 yX5_readByte yX5_readByte, Cond.code yX5_readByte cX5_readByte 2 (some .int), Cond.methodLink RX5 30 yX5_isLost, Cond.instanceMethod yX5_isLost, Cond.selects RX5 yX5_isLost yX5_isLost, Cond.code yX5_isLost cX5_isLost 2 (some .boolean), Cond.fieldLink RX5 18 "DiskEvidence$Picture" "sectorCount" "I", Cond.fieldLink RX5 26 "DiskEvidence$Picture" "spoilt" "[Z", Cond.static yX11_u8]
def wsX11_poke_r2 : List Cond := [Cond.code yX11_u8 cX11_u8 2 (some .int), Cond.methodLink RX11 122 yX5_writeByte, Cond.instanceMethod yX5_writeByte, Cond.selects RX5 yX5_writeByte yX5_writeByte, Cond.code yX5_writeByte cX5_writeByte 3 none, Cond.static yX11_put8, Cond.code yX11_put8 cX11_put8 3 none]
def wsX11_poke : List Cond := .code yX11_poke cX11_poke 6 (some .int) :: ((wsX11_poke_r1 ++ wsX11_poke_r2) ++ wsX110 ++ wsX50)
def wsX11_crc_r1 : List Cond := [Cond.fieldLink RX11 126 "DiskEvidence$Picture" "bytes" "[B", Cond.constantLong RX11 129 (-2), Cond.constantLong RX11 135 (4294967295), Cond.methodLink RX11 103 yX11_pictureAt, Cond.instanceMethod yX11_pictureAt, Cond.selects RX11 yX11_pictureAt yX11_pictureAt, Cond.initialized RX11, Cond.code yX11_pictureAt cX11_pictureAt 2 (some (.object "DiskEvidence$Picture")), Cond.fieldLink RX11 85 "DiskEvidence" "pictureCount" "I", Cond.fieldLink RX11 15 "DiskEvidence" "pictures" "[LDiskEvidence$Picture;", Cond.methodLink RX11 118 yX5_readByte, Cond.instanceMethod yX5_readByte, Cond.selects RX5 yX5_readByte yX5_readByte, Cond.initialized RX5, Cond.code yX5_readByte cX5_readByte 2 (some .int), Cond.fieldLink RX5 22 "DiskEvidence$Picture" "bytes" "[B", Cond.methodLink RX5 30 yX5_isLost, Cond.instanceMethod yX5_isLost, Cond.selects RX5 yX5_isLost yX5_isLost, Cond.code yX5_isLost cX5_isLost 2 (some .boolean), Cond.fieldLink RX5 18 "DiskEvidence$Picture" "sectorCount" "I", Cond.fieldLink RX5 26 "DiskEvidence$Picture" "spoilt" "[Z", Cond.static yX11_u8, Cond.code yX11_u8 cX11_u8 2 (some .int)]
def wsX11_crc_r2 : List Cond := [Cond.methodLink RX11 131 yX11_crcStep, Cond.static yX11_crcStep, Cond.code yX11_crcStep cX11_crcStep 3 (some .int), Cond.fieldLink RX11 452 "DiskEvidence" "CRC_STEPS" "[I"]
def wsX11_crc : List Cond := .code yX11_crc cX11_crc 7 (some .long) :: ((wsX11_crc_r1 ++ wsX11_crc_r2) ++ wsX50 ++ wsX110)
def wsX11_parts_r1 : List Cond := [Cond.methodLink RX11 103 yX11_pictureAt, Cond.instanceMethod yX11_pictureAt, Cond.selects RX11 yX11_pictureAt yX11_pictureAt, Cond.initialized RX11, Cond.code yX11_pictureAt cX11_pictureAt 2 (some (.object "DiskEvidence$Picture")), Cond.fieldLink RX11 85 "DiskEvidence" "pictureCount" "I", Cond.fieldLink RX11 15 "DiskEvidence" "pictures" "[LDiskEvidence$Picture;", Cond.methodLink RX11 137 yX5_listParts, Cond.instanceMethod yX5_listParts, Cond.selects RX5 yX5_listParts yX5_listParts, Cond.initialized RX5, Cond.code yX5_listParts cX5_listParts 1 (some .int), Cond.fieldLink RX5 48 "DiskEvidence$Picture" "tableCount" "I", Cond.fieldLink RX5 51 "DiskEvidence$Picture" "partCount" "I", Cond.methodLink RX5 54 yX5_mayBeTable, Cond.instanceMethod yX5_mayBeTable, Cond.selects RX5 yX5_mayBeTable yX5_mayBeTable, Cond.code yX5_mayBeTable cX5_mayBeTable 3 (some .boolean), Cond.fieldLink RX5 18 "DiskEvidence$Picture" "sectorCount" "I", Cond.fieldLink RX5 11 "DiskEvidence$Picture" "tables" "[I", Cond.methodLink RX5 61 yX5_readByte, Cond.instanceMethod yX5_readByte, Cond.selects RX5 yX5_readByte yX5_readByte, Cond.code yX5_readByte cX5_readByte 2 (some .int)]
def wsX11_parts_r2 : List Cond := [Cond.fieldLink RX5 22 "DiskEvidence$Picture" "bytes" "[B", Cond.methodLink RX5 30 yX5_isLost, Cond.instanceMethod yX5_isLost, Cond.selects RX5 yX5_isLost yX5_isLost, Cond.code yX5_isLost cX5_isLost 2 (some .boolean), Cond.fieldLink RX5 26 "DiskEvidence$Picture" "spoilt" "[Z", Cond.static yX11_u8, Cond.code yX11_u8 cX11_u8 2 (some .int), Cond.methodLink RX5 57 yX5_readTable, Cond.static yX5_readTable, Cond.code yX5_readTable cX5_readTable 7 none, Cond.methodLink RX5 65 yX5_addPart, Cond.instanceMethod yX5_addPart, Cond.selects RX5 yX5_addPart yX5_addPart, Cond.code yX5_addPart cX5_addPart 6 none, Cond.fieldLink RX5 15 "DiskEvidence$Picture" "partFacts" "[I"]
def wsX11_parts : List Cond := .code yX11_parts cX11_parts 3 (some .int) :: ((wsX11_parts_r1 ++ wsX11_parts_r2) ++ wsX110 ++ wsX50)
def wsX11_part_r1 : List Cond := [Cond.methodLink RX11 103 yX11_pictureAt, Cond.instanceMethod yX11_pictureAt, Cond.selects RX11 yX11_pictureAt yX11_pictureAt, Cond.initialized RX11, Cond.code yX11_pictureAt cX11_pictureAt 2 (some (.object "DiskEvidence$Picture")), Cond.fieldLink RX11 85 "DiskEvidence" "pictureCount" "I", Cond.fieldLink RX11 15 "DiskEvidence" "pictures" "[LDiskEvidence$Picture;", Cond.methodLink RX11 137 yX5_listParts, Cond.instanceMethod yX5_listParts, Cond.selects RX5 yX5_listParts yX5_listParts, Cond.initialized RX5, Cond.code yX5_listParts cX5_listParts 1 (some .int), Cond.fieldLink RX5 48 "DiskEvidence$Picture" "tableCount" "I", Cond.fieldLink RX5 51 "DiskEvidence$Picture" "partCount" "I", Cond.methodLink RX5 54 yX5_mayBeTable, Cond.instanceMethod yX5_mayBeTable, Cond.selects RX5 yX5_mayBeTable yX5_mayBeTable, Cond.code yX5_mayBeTable cX5_mayBeTable 3 (some .boolean), Cond.fieldLink RX5 18 "DiskEvidence$Picture" "sectorCount" "I", Cond.fieldLink RX5 11 "DiskEvidence$Picture" "tables" "[I", Cond.methodLink RX5 61 yX5_readByte, Cond.instanceMethod yX5_readByte, Cond.selects RX5 yX5_readByte yX5_readByte, Cond.code yX5_readByte cX5_readByte 2 (some .int)]
def wsX11_part_r2 : List Cond := [Cond.fieldLink RX5 22 "DiskEvidence$Picture" "bytes" "[B", Cond.methodLink RX5 30 yX5_isLost, Cond.instanceMethod yX5_isLost, Cond.selects RX5 yX5_isLost yX5_isLost, Cond.code yX5_isLost cX5_isLost 2 (some .boolean), Cond.fieldLink RX5 26 "DiskEvidence$Picture" "spoilt" "[Z", Cond.static yX11_u8, Cond.code yX11_u8 cX11_u8 2 (some .int), Cond.methodLink RX5 57 yX5_readTable, Cond.static yX5_readTable, Cond.code yX5_readTable cX5_readTable 7 none, Cond.methodLink RX5 65 yX5_addPart, Cond.instanceMethod yX5_addPart, Cond.selects RX5 yX5_addPart yX5_addPart, Cond.code yX5_addPart cX5_addPart 6 none, Cond.fieldLink RX5 15 "DiskEvidence$Picture" "partFacts" "[I", Cond.methodLink RX11 140 yX5_partFact, Cond.instanceMethod yX5_partFact, Cond.selects RX5 yX5_partFact yX5_partFact, Cond.code yX5_partFact cX5_partFact 5 (some .int), Cond.methodLink RX5 69 yX5_haveCommon, Cond.instanceMethod yX5_haveCommon, Cond.selects RX5 yX5_haveCommon yX5_haveCommon, Cond.code yX5_haveCommon cX5_haveCommon 5 (some .boolean)]
def wsX11_part_r3 : List Cond := [Cond.methodLink RX5 73 Lib.Math.max.name, Cond.static Lib.Math.max.name, Cond.initialized "java/lang/Math", Cond.code Lib.Math.max.name Lib.Math.max.code 2 (some .int), Cond.methodLink RX5 79 Lib.Math.min.name, Cond.static Lib.Math.min.name, Cond.code Lib.Math.min.name Lib.Math.min.code 2 (some .int)]
def wsX11_part : List Cond := .code yX11_part cX11_part 5 (some .int) :: ((wsX11_part_r1 ++ (wsX11_part_r2 ++ wsX11_part_r3)) ++ wsX110 ++ wsX50)
def wsX11_volume_r1 : List Cond := [Cond.fieldLink RX11 107 "DiskEvidence$Picture" "sectorCount" "I", Cond.fieldLink RX11 143 "DiskEvidence" "volumeCount" "I", Cond.fieldLink RX11 21 "DiskEvidence" "volumes" "[LDiskEvidence$Volume;", Cond.classLink RX11 19 RX10, Cond.instantiable RX10 8, Cond.initialized RX10, Cond.methodLink RX11 103 yX11_pictureAt, Cond.instanceMethod yX11_pictureAt, Cond.selects RX11 yX11_pictureAt yX11_pictureAt, Cond.initialized RX11, Cond.code yX11_pictureAt cX11_pictureAt 2 (some (.object "DiskEvidence$Picture")), Cond.fieldLink RX11 85 "DiskEvidence" "pictureCount" "I", Cond.fieldLink RX11 15 "DiskEvidence" "pictures" "[LDiskEvidence$Picture;", Cond.methodLink RX11 146 yX10_init, Cond.instanceMethod yX10_init, Cond.code yX10_init cX10_init 5 none, Cond.methodLink RX10 3 objectInit, Cond.instanceMethod objectInit, Cond.code objectInit ⟨#[0xb1]⟩ 1 none, Cond.fieldLink RX10 9 "DiskEvidence$Volume" "kind" "I", Cond.fieldLink RX10 15 "DiskEvidence$Volume" "size" "I", Cond.fieldLink RX10 18 "DiskEvidence$Volume" "begin" "I", Cond.fieldLink RX10 21 "DiskEvidence$Volume" "pictureNumber" "I", Cond.fieldLink RX10 24 "DiskEvidence$Volume" "base" "LDiskEvidence$Picture;"]
def wsX11_volume_r2 : List Cond := [Cond.fieldLink RX10 28 "DiskEvidence$Volume" "first" "LDiskEvidence$Volume;", Cond.fieldLink RX10 32 "DiskEvidence$Volume" "second" "LDiskEvidence$Volume;", Cond.fieldLink RX10 35 "DiskEvidence$Volume" "third" "LDiskEvidence$Volume;"]
def wsX11_volume : List Cond := .code yX11_volume cX11_volume 5 (some .int) :: ((wsX11_volume_r1 ++ wsX11_volume_r2) ++ wsX50 ++ wsX110 ++ wsX100)
def wsX11_maybeVolume : List Cond := .code yX11_maybeVolume cX11_maybeVolume 2 (some .boolean) :: ([.fieldLink RX11 143 "DiskEvidence" "volumeCount" "I"] ++ wsX110)
def wsX11_volumeAt : List Cond := .code yX11_volumeAt cX11_volumeAt 2 (some (.object "DiskEvidence$Volume")) :: ([.fieldLink RX11 143 "DiskEvidence" "volumeCount" "I", .fieldLink RX11 21 "DiskEvidence" "volumes" "[LDiskEvidence$Volume;"] ++ wsX110)
def wsX11_join_r1 : List Cond := [Cond.classLink RX11 19 RX10, Cond.instantiable RX10 8, Cond.initialized RX10, Cond.fieldLink RX11 143 "DiskEvidence" "volumeCount" "I", Cond.fieldLink RX11 159 "DiskEvidence$Volume" "size" "I", Cond.fieldLink RX11 21 "DiskEvidence" "volumes" "[LDiskEvidence$Volume;", Cond.methodLink RX11 149 yX11_maybeVolume, Cond.instanceMethod yX11_maybeVolume, Cond.selects RX11 yX11_maybeVolume yX11_maybeVolume, Cond.initialized RX11, Cond.code yX11_maybeVolume cX11_maybeVolume 2 (some .boolean), Cond.methodLink RX11 152 yX11_volumeAt, Cond.instanceMethod yX11_volumeAt, Cond.selects RX11 yX11_volumeAt yX11_volumeAt, Cond.code yX11_volumeAt cX11_volumeAt 2 (some (.object "DiskEvidence$Volume")), Cond.methodLink RX11 156 yX10_init_, Cond.instanceMethod yX10_init_, Cond.code yX10_init_ cX10_init_ 9 none, Cond.methodLink RX10 3 objectInit, Cond.instanceMethod objectInit, Cond.code objectInit ⟨#[0xb1]⟩ 1 none, Cond.fieldLink RX10 9 "DiskEvidence$Volume" "kind" "I", Cond.fieldLink RX10 18 "DiskEvidence$Volume" "begin" "I", Cond.fieldLink RX10 21 "DiskEvidence$Volume" "pictureNumber" "I"]
def wsX11_join_r2 : List Cond := [Cond.fieldLink RX10 24 "DiskEvidence$Volume" "base" "LDiskEvidence$Picture;", Cond.fieldLink RX10 28 "DiskEvidence$Volume" "first" "LDiskEvidence$Volume;", Cond.fieldLink RX10 32 "DiskEvidence$Volume" "second" "LDiskEvidence$Volume;", Cond.fieldLink RX10 35 "DiskEvidence$Volume" "third" "LDiskEvidence$Volume;", Cond.fieldLink RX10 15 "DiskEvidence$Volume" "size" "I", Cond.methodLink RX10 38 Lib.Math.min.name, Cond.static Lib.Math.min.name, Cond.initialized "java/lang/Math", Cond.code Lib.Math.min.name Lib.Math.min.code 2 (some .int)]
def wsX11_join : List Cond := .code yX11_join cX11_join 10 (some .int) :: ((wsX11_join_r1 ++ wsX11_join_r2) ++ wsX100 ++ wsX110)
def wsX11_blocks : List Cond := .code yX11_blocks cX11_blocks 3 (some .int) :: ([.fieldLink RX11 159 "DiskEvidence$Volume" "size" "I", .methodLink RX11 152 yX11_volumeAt, .instanceMethod yX11_volumeAt, .selects RX11 yX11_volumeAt yX11_volumeAt, .initialized RX11, .code yX11_volumeAt cX11_volumeAt 2 (some (.object "DiskEvidence$Volume")), .fieldLink RX11 143 "DiskEvidence" "volumeCount" "I", .fieldLink RX11 21 "DiskEvidence" "volumes" "[LDiskEvidence$Volume;"] ++ wsX100 ++ wsX110)
def wsX11_volumeByte_r1 : List Cond := [Cond.fieldLink RX11 159 "DiskEvidence$Volume" "size" "I", Cond.fieldLink RX11 44 "DiskEvidence" "maker" "LDiskEvidence$Maker;", Cond.fieldLink RX11 162 "DiskEvidence$Maker" "rooms" "[B", Cond.methodLink RX11 152 yX11_volumeAt, Cond.instanceMethod yX11_volumeAt, Cond.selects RX11 yX11_volumeAt yX11_volumeAt, Cond.initialized RX11, Cond.code yX11_volumeAt cX11_volumeAt 2 (some (.object "DiskEvidence$Volume")), Cond.fieldLink RX11 143 "DiskEvidence" "volumeCount" "I", Cond.fieldLink RX11 21 "DiskEvidence" "volumes" "[LDiskEvidence$Volume;", Cond.methodLink RX11 165 yX11_readBlock, Cond.static yX11_readBlock, Cond.code yX11_readBlock cX11_readBlock 8 none, Cond.fieldLink RX11 464 "DiskEvidence$Volume" "base" "LDiskEvidence$Picture;", Cond.fieldLink RX11 468 "DiskEvidence$Volume" "begin" "I", Cond.methodLink RX11 442 yX11_clear, Cond.static yX11_clear, Cond.code yX11_clear cX11_clear 3 none, Cond.methodLink RX11 448 yJ7_fill_eb02e, Cond.static yJ7_fill_eb02e, Cond.initialized RJ7, Cond.code yJ7_fill_eb02e cJ7_fill_eb02e 5 none, Cond.methodLink RJ7 13 yJ7_rangeCheck_23922, Cond.static yJ7_rangeCheck_23922]
def wsX11_volumeByte_r2 : List Cond := [Cond.code yJ7_rangeCheck_23922 cJ7_rangeCheck_23922 3 none, Cond.methodLink RX11 471 yX5_copySector, Cond.instanceMethod yX5_copySector, Cond.selects RX5 yX5_copySector yX5_copySector, Cond.initialized RX5, Cond.code yX5_copySector cX5_copySector 4 none, Cond.fieldLink RX5 18 "DiskEvidence$Picture" "sectorCount" "I", Cond.fieldLink RX5 26 "DiskEvidence$Picture" "spoilt" "[Z", Cond.fieldLink RX5 22 "DiskEvidence$Picture" "bytes" "[B", Cond.methodLink RX5 42 arraycopyName, Cond.native arraycopyName, Cond.static arraycopyName, Cond.initialized "java/lang/System", Cond.methodLink RX11 475 yX10_home, Cond.instanceMethod yX10_home, Cond.selects RX10 yX10_home yX10_home, Cond.initialized RX10, Cond.code yX10_home cX10_home 5 (some (.object "DiskEvidence$Volume")), Cond.fieldLink RX10 9 "DiskEvidence$Volume" "kind" "I", Cond.fieldLink RX10 35 "DiskEvidence$Volume" "third" "LDiskEvidence$Volume;", Cond.fieldLink RX10 28 "DiskEvidence$Volume" "first" "LDiskEvidence$Volume;", Cond.fieldLink RX10 15 "DiskEvidence$Volume" "size" "I", Cond.fieldLink RX10 32 "DiskEvidence$Volume" "second" "LDiskEvidence$Volume;", Cond.methodLink RX11 478 yX10_homeBlock]
def wsX11_volumeByte_r3 : List Cond := [Cond.instanceMethod yX10_homeBlock, Cond.selects RX10 yX10_homeBlock yX10_homeBlock, Cond.code yX10_homeBlock cX10_homeBlock 2 (some .int), Cond.methodLink RX11 481 yX11_xorBlock, Cond.static yX11_xorBlock, Cond.code yX11_xorBlock cX11_xorBlock 7 none, Cond.methodLink RX11 485 yX5_xorSector, Cond.instanceMethod yX5_xorSector, Cond.selects RX5 yX5_xorSector yX5_xorSector, Cond.code yX5_xorSector cX5_xorSector 5 none, Cond.methodLink RX11 488 yX10_member, Cond.instanceMethod yX10_member, Cond.selects RX10 yX10_member yX10_member, Cond.code yX10_member cX10_member 2 (some (.object "DiskEvidence$Volume")), Cond.methodLink RX11 169 yX11_u8, Cond.static yX11_u8, Cond.code yX11_u8 cX11_u8 2 (some .int)]
def wsX11_volumeByte : List Cond := .code yX11_volumeByte cX11_volumeByte 4 (some .int) :: ((wsX11_volumeByte_r1 ++ (wsX11_volumeByte_r2 ++ wsX11_volumeByte_r3)) ++ wsX100 ++ wsX110 ++ wsX30 ++ wsX50)
def wsX11_where_r1 : List Cond := [Cond.fieldLink RX11 159 "DiskEvidence$Volume" "size" "I", Cond.methodLink RX11 152 yX11_volumeAt, Cond.instanceMethod yX11_volumeAt, Cond.selects RX11 yX11_volumeAt yX11_volumeAt, Cond.initialized RX11, Cond.code yX11_volumeAt cX11_volumeAt 2 (some (.object "DiskEvidence$Volume")), Cond.fieldLink RX11 143 "DiskEvidence" "volumeCount" "I", Cond.fieldLink RX11 21 "DiskEvidence" "volumes" "[LDiskEvidence$Volume;", Cond.methodLink RX11 172 yX11_placeOfBlock, Cond.static yX11_placeOfBlock, Cond.code yX11_placeOfBlock cX11_placeOfBlock 3 (some .int), Cond.fieldLink RX11 464 "DiskEvidence$Volume" "base" "LDiskEvidence$Picture;", Cond.fieldLink RX11 509 "DiskEvidence$Volume" "pictureNumber" "I", Cond.fieldLink RX11 468 "DiskEvidence$Volume" "begin" "I", Cond.methodLink RX11 475 yX10_home, Cond.instanceMethod yX10_home, Cond.selects RX10 yX10_home yX10_home, Cond.initialized RX10, Cond.code yX10_home cX10_home 5 (some (.object "DiskEvidence$Volume")), Cond.fieldLink RX10 9 "DiskEvidence$Volume" "kind" "I", Cond.fieldLink RX10 35 "DiskEvidence$Volume" "third" "LDiskEvidence$Volume;", Cond.fieldLink RX10 28 "DiskEvidence$Volume" "first" "LDiskEvidence$Volume;", Cond.fieldLink RX10 15 "DiskEvidence$Volume" "size" "I", Cond.fieldLink RX10 32 "DiskEvidence$Volume" "second" "LDiskEvidence$Volume;"]
def wsX11_where_r2 : List Cond := [Cond.methodLink RX11 478 yX10_homeBlock, Cond.instanceMethod yX10_homeBlock, Cond.selects RX10 yX10_homeBlock yX10_homeBlock, Cond.code yX10_homeBlock cX10_homeBlock 2 (some .int)]
def wsX11_where : List Cond := .code yX11_where cX11_where 4 (some .int) :: ((wsX11_where_r1 ++ wsX11_where_r2) ++ wsX100 ++ wsX110)
def wsX11_format_r1 : List Cond := [Cond.fieldLink RX11 44 "DiskEvidence" "maker" "LDiskEvidence$Maker;", Cond.fieldLink RX11 82 "DiskEvidence" "now" "I", Cond.methodLink RX11 152 yX11_volumeAt, Cond.instanceMethod yX11_volumeAt, Cond.selects RX11 yX11_volumeAt yX11_volumeAt, Cond.initialized RX11, Cond.code yX11_volumeAt cX11_volumeAt 2 (some (.object "DiskEvidence$Volume")), Cond.fieldLink RX11 143 "DiskEvidence" "volumeCount" "I", Cond.fieldLink RX11 21 "DiskEvidence" "volumes" "[LDiskEvidence$Volume;", Cond.methodLink RX11 176 yX3_mayFormat, Cond.instanceMethod yX3_mayFormat, Cond.selects RX3 yX3_mayFormat yX3_mayFormat, Cond.initialized RX3, Cond.code yX3_mayFormat cX3_mayFormat 3 (some .boolean), Cond.methodLink RX11 180 yX3_makeForm, Cond.instanceMethod yX3_makeForm, Cond.selects RX3 yX3_makeForm yX3_makeForm, Cond.code yX3_makeForm cX3_makeForm 7 (some .int), Cond.fieldLink RX3 9 "DiskEvidence$Maker" "image" "[B", Cond.fieldLink RX3 68 "DiskEvidence$Maker" "moment" "I", Cond.fieldLink RX3 44 "DiskEvidence$Volume" "size" "I", Cond.fieldLink RX3 18 "DiskEvidence$Maker" "rooms" "[B", Cond.static yX11_clear, Cond.code yX11_clear cX11_clear 3 none]
def wsX11_format_r2 : List Cond := [Cond.methodLink RX11 448 yJ7_fill_eb02e, Cond.static yJ7_fill_eb02e, Cond.initialized RJ7, Cond.code yJ7_fill_eb02e cJ7_fill_eb02e 5 none, Cond.methodLink RJ7 13 yJ7_rangeCheck_23922, Cond.static yJ7_rangeCheck_23922, Cond.code yJ7_rangeCheck_23922 cJ7_rangeCheck_23922 3 none, Cond.methodLink RX3 117 yX3_makeCells, Cond.instanceMethod yX3_makeCells, Cond.selects RX3 yX3_makeCells yX3_makeCells, Cond.code yX3_makeCells cX3_makeCells 7 (some .boolean), Cond.constant RX3 130 (65528), Cond.static yX11_put8, Cond.code yX11_put8 cX11_put8 3 none, Cond.static yX11_put16, Cond.code yX11_put16 cX11_put16 3 none, Cond.methodLink RX3 121 yX3_makeNodes, Cond.instanceMethod yX3_makeNodes, Cond.selects RX3 yX3_makeNodes yX3_makeNodes, Cond.code yX3_makeNodes cX3_makeNodes 5 (some .boolean), Cond.methodLink RX3 131 yX1_putBit, Cond.static yX1_putBit, Cond.initialized RX1, Cond.code yX1_putBit cX1_putBit 6 none]
def wsX11_format_r3 : List Cond := [Cond.static yX11_u8, Cond.code yX11_u8 cX11_u8 2 (some .int), Cond.methodLink RX3 135 yX3_putNode, Cond.instanceMethod yX3_putNode, Cond.selects RX3 yX3_putNode yX3_putNode, Cond.code yX3_putNode cX3_putNode 4 none, Cond.static yX11_put32, Cond.code yX11_put32 cX11_put32 3 none, Cond.methodLink RX11 445 yX11_put16, Cond.static yX11_writeBlock, Cond.code yX11_writeBlock cX11_writeBlock 6 none, Cond.fieldLink RX11 159 "DiskEvidence$Volume" "size" "I", Cond.fieldLink RX11 464 "DiskEvidence$Volume" "base" "LDiskEvidence$Picture;", Cond.fieldLink RX11 468 "DiskEvidence$Volume" "begin" "I", Cond.fieldLink RX11 494 "DiskEvidence$Volume" "kind" "I", Cond.fieldLink RX11 495 "DiskEvidence$Volume" "first" "LDiskEvidence$Volume;", Cond.fieldLink RX11 503 "DiskEvidence$Volume" "second" "LDiskEvidence$Volume;", Cond.methodLink RX11 491 yX5_storeSector, Cond.instanceMethod yX5_storeSector, Cond.selects RX5 yX5_storeSector yX5_storeSector, Cond.initialized RX5, Cond.code yX5_storeSector cX5_storeSector 4 none, Cond.fieldLink RX5 18 "DiskEvidence$Picture" "sectorCount" "I", Cond.fieldLink RX5 26 "DiskEvidence$Picture" "spoilt" "[Z"]
def wsX11_format_r4 : List Cond := [Cond.fieldLink RX5 22 "DiskEvidence$Picture" "bytes" "[B", Cond.methodLink RX5 42 arraycopyName, Cond.native arraycopyName, Cond.static arraycopyName, Cond.initialized "java/lang/System", Cond.methodLink RX11 499 yX11_writeBlock, Cond.methodLink RX11 506 yX11_writeParity, Cond.static yX11_writeParity, Cond.methodLink RX11 475 yX10_home, Cond.instanceMethod yX10_home, Cond.selects RX10 yX10_home yX10_home, Cond.initialized RX10, Cond.code yX10_home cX10_home 5 (some (.object "DiskEvidence$Volume")), Cond.fieldLink RX10 9 "DiskEvidence$Volume" "kind" "I", Cond.fieldLink RX10 35 "DiskEvidence$Volume" "third" "LDiskEvidence$Volume;", Cond.fieldLink RX10 28 "DiskEvidence$Volume" "first" "LDiskEvidence$Volume;", Cond.fieldLink RX10 15 "DiskEvidence$Volume" "size" "I", Cond.fieldLink RX10 32 "DiskEvidence$Volume" "second" "LDiskEvidence$Volume;", Cond.methodLink RX11 478 yX10_homeBlock, Cond.instanceMethod yX10_homeBlock, Cond.selects RX10 yX10_homeBlock yX10_homeBlock, Cond.code yX10_homeBlock cX10_homeBlock 2 (some .int), Cond.code yX11_writeParity cX11_writeParity 8 none, Cond.methodLink RX11 442 yX11_clear]
def wsX11_format_r5 : List Cond := [Cond.methodLink RX11 481 yX11_xorBlock, Cond.static yX11_xorBlock, Cond.code yX11_xorBlock cX11_xorBlock 7 none, Cond.methodLink RX11 485 yX5_xorSector, Cond.instanceMethod yX5_xorSector, Cond.selects RX5 yX5_xorSector yX5_xorSector, Cond.code yX5_xorSector cX5_xorSector 5 none, Cond.methodLink RX11 488 yX10_member, Cond.instanceMethod yX10_member, Cond.selects RX10 yX10_member yX10_member, Cond.code yX10_member cX10_member 2 (some (.object "DiskEvidence$Volume"))]
def wsX11_format : List Cond := .code yX11_format cX11_format 5 (some .int) :: ((wsX11_format_r1 ++ (wsX11_format_r2 ++ (wsX11_format_r3 ++ (wsX11_format_r4 ++ wsX11_format_r5)))) ++ wsX110 ++ wsX30 ++ wsX100 ++ wsX50)
def wsX11_save_r1 : List Cond := [Cond.fieldLink RX11 44 "DiskEvidence" "maker" "LDiskEvidence$Maker;", Cond.fieldLink RX11 9 "DiskEvidence" "collected" "[B", Cond.fieldLink RX11 82 "DiskEvidence" "now" "I", Cond.methodLink RX11 152 yX11_volumeAt, Cond.instanceMethod yX11_volumeAt, Cond.selects RX11 yX11_volumeAt yX11_volumeAt, Cond.initialized RX11, Cond.code yX11_volumeAt cX11_volumeAt 2 (some (.object "DiskEvidence$Volume")), Cond.fieldLink RX11 143 "DiskEvidence" "volumeCount" "I", Cond.fieldLink RX11 21 "DiskEvidence" "volumes" "[LDiskEvidence$Volume;", Cond.methodLink RX11 91 yX11_forget, Cond.instanceMethod yX11_forget, Cond.selects RX11 yX11_forget yX11_forget, Cond.code yX11_forget cX11_forget 2 (some .int), Cond.fieldLink RX11 76 "DiskEvidence" "collectedCount" "I", Cond.methodLink RX11 184 yX3_carryOut, Cond.instanceMethod yX3_carryOut, Cond.selects RX3 yX3_carryOut yX3_carryOut, Cond.initialized RX3, Cond.code yX3_carryOut cX3_carryOut 7 (some .int), Cond.fieldLink RX3 9 "DiskEvidence$Maker" "image" "[B", Cond.fieldLink RX3 15 "DiskEvidence$Maker" "before" "[B", Cond.methodLink RX3 62 arraycopyName, Cond.native arraycopyName]
def wsX11_save_r2 : List Cond := [Cond.static arraycopyName, Cond.initialized "java/lang/System", Cond.fieldLink RX3 34 "DiskEvidence$Maker" "text" "[B", Cond.fieldLink RX3 68 "DiskEvidence$Maker" "moment" "I", Cond.fieldLink RX3 71 "DiskEvidence$Maker" "pathEnd" "I", Cond.methodLink RX3 74 Lib.Math.min.name, Cond.static Lib.Math.min.name, Cond.initialized "java/lang/Math", Cond.code Lib.Math.min.name Lib.Math.min.code 2 (some .int), Cond.fieldLink RX3 80 "DiskEvidence$Maker" "contentsAt" "I", Cond.fieldLink RX3 24 "DiskEvidence$Maker" "form" "LDiskEvidence$Form;", Cond.fieldLink RX3 83 "DiskEvidence$Form" "kind" "I", Cond.fieldLink RX3 44 "DiskEvidence$Volume" "size" "I", Cond.methodLink RX3 58 yX3_look, Cond.instanceMethod yX3_look, Cond.selects RX3 yX3_look yX3_look, Cond.code yX3_look cX3_look 3 none, Cond.static yX11_readBlock, Cond.code yX11_readBlock cX11_readBlock 8 none, Cond.fieldLink RX11 464 "DiskEvidence$Volume" "base" "LDiskEvidence$Picture;", Cond.fieldLink RX11 468 "DiskEvidence$Volume" "begin" "I", Cond.methodLink RX11 442 yX11_clear, Cond.static yX11_clear, Cond.code yX11_clear cX11_clear 3 none]
def wsX11_save_r3 : List Cond := [Cond.methodLink RX11 448 yJ7_fill_eb02e, Cond.static yJ7_fill_eb02e, Cond.initialized RJ7, Cond.code yJ7_fill_eb02e cJ7_fill_eb02e 5 none, Cond.methodLink RJ7 13 yJ7_rangeCheck_23922, Cond.static yJ7_rangeCheck_23922, Cond.code yJ7_rangeCheck_23922 cJ7_rangeCheck_23922 3 none, Cond.methodLink RX11 471 yX5_copySector, Cond.instanceMethod yX5_copySector, Cond.selects RX5 yX5_copySector yX5_copySector, Cond.initialized RX5, Cond.code yX5_copySector cX5_copySector 4 none, Cond.fieldLink RX5 18 "DiskEvidence$Picture" "sectorCount" "I", Cond.fieldLink RX5 26 "DiskEvidence$Picture" "spoilt" "[Z", Cond.fieldLink RX5 22 "DiskEvidence$Picture" "bytes" "[B", Cond.methodLink RX5 42 arraycopyName, Cond.methodLink RX11 475 yX10_home, Cond.instanceMethod yX10_home, Cond.selects RX10 yX10_home yX10_home, Cond.initialized RX10, Cond.code yX10_home cX10_home 5 (some (.object "DiskEvidence$Volume")), Cond.fieldLink RX10 9 "DiskEvidence$Volume" "kind" "I", Cond.fieldLink RX10 35 "DiskEvidence$Volume" "third" "LDiskEvidence$Volume;", Cond.fieldLink RX10 28 "DiskEvidence$Volume" "first" "LDiskEvidence$Volume;"]
def wsX11_save_r4 : List Cond := [Cond.fieldLink RX10 15 "DiskEvidence$Volume" "size" "I", Cond.fieldLink RX10 32 "DiskEvidence$Volume" "second" "LDiskEvidence$Volume;", Cond.methodLink RX11 478 yX10_homeBlock, Cond.instanceMethod yX10_homeBlock, Cond.selects RX10 yX10_homeBlock yX10_homeBlock, Cond.code yX10_homeBlock cX10_homeBlock 2 (some .int), Cond.methodLink RX11 481 yX11_xorBlock, Cond.static yX11_xorBlock, Cond.code yX11_xorBlock cX11_xorBlock 7 none, Cond.fieldLink RX11 159 "DiskEvidence$Volume" "size" "I", Cond.methodLink RX11 485 yX5_xorSector, Cond.instanceMethod yX5_xorSector, Cond.selects RX5 yX5_xorSector yX5_xorSector, Cond.code yX5_xorSector cX5_xorSector 5 none, Cond.methodLink RX11 488 yX10_member, Cond.instanceMethod yX10_member, Cond.selects RX10 yX10_member yX10_member, Cond.code yX10_member cX10_member 2 (some (.object "DiskEvidence$Volume")), Cond.methodLink RX3 54 yX1_readFrom, Cond.instanceMethod yX1_readFrom, Cond.selects RX1 yX1_readFrom yX1_readFrom, Cond.initialized RX1, Cond.code yX1_readFrom cX1_readFrom 3 none, Cond.fieldLink RX1 18 "DiskEvidence$Form" "kind" "I"]
def wsX11_save_r5 : List Cond := [Cond.fieldLink RX1 36 "DiskEvidence$Form" "n" "I", Cond.methodLink RX1 22 yX1_readCells, Cond.instanceMethod yX1_readCells, Cond.selects RX1 yX1_readCells yX1_readCells, Cond.code yX1_readCells cX1_readCells 3 (some .boolean), Cond.fieldLink RX1 47 "DiskEvidence$Form" "tables" "I", Cond.fieldLink RX1 50 "DiskEvidence$Form" "tableBlocks" "I", Cond.fieldLink RX1 56 "DiskEvidence$Form" "rootBlocks" "I", Cond.fieldLink RX1 59 "DiskEvidence$Form" "zone" "I", Cond.fieldLink RX1 62 "DiskEvidence$Form" "firstCluster" "I", Cond.fieldLink RX1 65 "DiskEvidence$Form" "clusters" "I", Cond.static yX11_u8, Cond.code yX11_u8 cX11_u8 2 (some .int), Cond.static yX11_u16, Cond.code yX11_u16 cX11_u16 2 (some .int), Cond.methodLink RX1 26 yX1_readNodes, Cond.instanceMethod yX1_readNodes, Cond.selects RX1 yX1_readNodes yX1_readNodes, Cond.code yX1_readNodes cX1_readNodes 3 (some .boolean), Cond.fieldLink RX1 68 "DiskEvidence$Form" "nodes" "I", Cond.fieldLink RX1 71 "DiskEvidence$Form" "data" "I", Cond.static yX11_isZero, Cond.code yX11_isZero cX11_isZero 4 (some .boolean), Cond.methodLink RX11 169 yX11_u8]
def wsX11_save_r6 : List Cond := [Cond.methodLink RX1 33 yX1_isHeader, Cond.static yX1_isHeader, Cond.code yX1_isHeader cX1_isHeader 4 (some .boolean), Cond.methodLink RX1 123 yX1_octal, Cond.static yX1_octal, Cond.code yX1_octal cX1_octal 7 (some .long), Cond.constantLong RX1 130 (-1), Cond.constantLong RX1 132 (8), Cond.constantLong RX1 134 (48), Cond.methodLink RX1 127 yX1_sumOf, Cond.static yX1_sumOf, Cond.code yX1_sumOf cX1_sumOf 4 (some .int), Cond.methodLink RX1 39 yX1_readHeaders, Cond.instanceMethod yX1_readHeaders, Cond.selects RX1 yX1_readHeaders yX1_readHeaders, Cond.code yX1_readHeaders cX1_readHeaders 4 none, Cond.fieldLink RX1 139 "DiskEvidence$Form" "headerCount" "I", Cond.fieldLink RX1 142 "DiskEvidence$Form" "tapeFault" "I", Cond.fieldLink RX1 145 "DiskEvidence$Form" "tapeEnd" "I", Cond.fieldLink RX1 9 "DiskEvidence$Form" "headers" "[I", Cond.methodLink RX1 148 yX1_tapeBlocks, Cond.static yX1_tapeBlocks, Cond.code yX1_tapeBlocks cX1_tapeBlocks 3 (some .int), Cond.static yX11_blocksFor]
def wsX11_save_r7 : List Cond := [Cond.code yX11_blocksFor cX11_blocksFor 1 (some .int), Cond.methodLink RX3 86 yX3_onTape, Cond.instanceMethod yX3_onTape, Cond.selects RX3 yX3_onTape yX3_onTape, Cond.code yX3_onTape cX3_onTape 7 (some .int), Cond.fieldLink RX3 323 "DiskEvidence$Form" "tapeFault" "I", Cond.fieldLink RX3 326 "DiskEvidence$Form" "tapeEnd" "I", Cond.fieldLink RX3 41 "DiskEvidence$Maker" "taken" "[I", Cond.methodLink RX3 156 yX3_isPath, Cond.instanceMethod yX3_isPath, Cond.selects RX3 yX3_isPath yX3_isPath, Cond.code yX3_isPath cX3_isPath 4 (some .boolean), Cond.methodLink RX3 142 yX3_nameEnd, Cond.instanceMethod yX3_nameEnd, Cond.selects RX3 yX3_nameEnd yX3_nameEnd, Cond.code yX3_nameEnd cX3_nameEnd 3 (some .int), Cond.methodLink RX3 146 yX3_isCellsName, Cond.instanceMethod yX3_isCellsName, Cond.selects RX3 yX3_isCellsName yX3_isCellsName, Cond.code yX3_isCellsName cX3_isCellsName 5 (some .boolean), Cond.methodLink RX3 152 yX3_isCellsLetter, Cond.static yX3_isCellsLetter, Cond.code yX3_isCellsLetter cX3_isCellsLetter 1 (some .boolean), Cond.methodLink RX3 149 yX3_isOtherName]
def wsX11_save_r8 : List Cond := [Cond.instanceMethod yX3_isOtherName, Cond.selects RX3 yX3_isOtherName yX3_isOtherName, Cond.code yX3_isOtherName cX3_isOtherName 4 (some .boolean), Cond.static yX11_put8, Cond.code yX11_put8 cX11_put8 3 none, Cond.methodLink RX3 329 yX1_putOctal, Cond.static yX1_putOctal, Cond.code yX1_putOctal cX1_putOctal 6 none, Cond.methodLink RX3 333 yX1_sumOf, Cond.methodLink RX3 258 yX3_fill, Cond.instanceMethod yX3_fill, Cond.selects RX3 yX3_fill yX3_fill, Cond.code yX3_fill cX3_fill 5 none, Cond.methodLink RX3 90 yX3_findPlace, Cond.instanceMethod yX3_findPlace, Cond.selects RX3 yX3_findPlace yX3_findPlace, Cond.code yX3_findPlace cX3_findPlace 3 (some .boolean), Cond.fieldLink RX3 166 "DiskEvidence$Maker" "nameFrom" "I", Cond.fieldLink RX3 172 "DiskEvidence$Maker" "rowAt" "I", Cond.methodLink RX3 159 yX3_enterCells, Cond.instanceMethod yX3_enterCells, Cond.selects RX3 yX3_enterCells yX3_enterCells, Cond.code yX3_enterCells cX3_enterCells 3 none, Cond.fieldLink RX3 182 "DiskEvidence$Maker" "inFolder" "I"]
def wsX11_save_r9 : List Cond := [Cond.fieldLink RX3 185 "DiskEvidence$Form" "rootBlocks" "I", Cond.fieldLink RX3 37 "DiskEvidence$Maker" "folderBlocks" "[I", Cond.fieldLink RX3 192 "DiskEvidence$Maker" "folderCount" "I", Cond.fieldLink RX3 198 "DiskEvidence$Maker" "folderRows" "I", Cond.methodLink RX3 188 yX1_follow, Cond.instanceMethod yX1_follow, Cond.selects RX1 yX1_follow yX1_follow, Cond.code yX1_follow cX1_follow 10 (some .int), Cond.fieldLink RX1 78 "DiskEvidence$Form" "stop" "I", Cond.fieldLink RX1 81 "DiskEvidence$Form" "followed" "I", Cond.fieldLink RX1 84 "DiskEvidence$Form" "stopAt" "I", Cond.fieldLink RX1 15 "DiskEvidence$Form" "seen" "[I", Cond.constant RX1 91 (65527), Cond.constant RX1 92 (65528), Cond.methodLink RX1 87 yX1_isCluster, Cond.instanceMethod yX1_isCluster, Cond.selects RX1 yX1_isCluster yX1_isCluster, Cond.code yX1_isCluster cX1_isCluster 2 (some .boolean), Cond.methodLink RX3 195 yX1_rootBlock, Cond.instanceMethod yX1_rootBlock, Cond.selects RX1 yX1_rootBlock yX1_rootBlock, Cond.code yX1_rootBlock cX1_rootBlock 1 (some .int), Cond.methodLink RX3 163 yX3_enterNode, Cond.instanceMethod yX3_enterNode]
def wsX11_save_r10 : List Cond := [Cond.selects RX3 yX3_enterNode yX3_enterNode, Cond.code yX3_enterNode cX3_enterNode 3 none, Cond.methodLink RX3 201 yX1_nodeAt, Cond.instanceMethod yX1_nodeAt, Cond.selects RX1 yX1_nodeAt yX1_nodeAt, Cond.code yX1_nodeAt cX1_nodeAt 2 (some .int), Cond.methodLink RX3 204 yX1_placesOf, Cond.instanceMethod yX1_placesOf, Cond.selects RX1 yX1_placesOf yX1_placesOf, Cond.code yX1_placesOf cX1_placesOf 7 (some .int), Cond.methodLink RX1 107 Lib.Math.min.name, Cond.methodLink RX1 113 yX1_placesFor, Cond.static yX1_placesFor, Cond.code yX1_placesFor cX1_placesFor 1 (some .int), Cond.methodLink RX1 116 yX1_placeAt, Cond.instanceMethod yX1_placeAt, Cond.selects RX1 yX1_placeAt yX1_placeAt, Cond.code yX1_placeAt cX1_placeAt 5 (some .int), Cond.methodLink RX1 120 yX1_isData, Cond.instanceMethod yX1_isData, Cond.selects RX1 yX1_isData yX1_isData, Cond.code yX1_isData cX1_isData 2 (some .boolean), Cond.methodLink RX3 169 yX3_findRow, Cond.instanceMethod yX3_findRow]
def wsX11_save_r11 : List Cond := [Cond.selects RX3 yX3_findRow yX3_findRow, Cond.code yX3_findRow cX3_findRow 5 (some .int), Cond.methodLink RX3 208 yX3_rowPlace, Cond.instanceMethod yX3_rowPlace, Cond.selects RX3 yX3_rowPlace yX3_rowPlace, Cond.code yX3_rowPlace cX3_rowPlace 4 (some .int), Cond.methodLink RX3 214 yX3_isCellsRow, Cond.instanceMethod yX3_isCellsRow, Cond.selects RX3 yX3_isCellsRow yX3_isCellsRow, Cond.code yX3_isCellsRow cX3_isCellsRow 5 (some .boolean), Cond.fieldLink RX3 28 "DiskEvidence$Maker" "letters" "[B", Cond.methodLink RX3 221 yX1_cellsName, Cond.static yX1_cellsName, Cond.code yX1_cellsName cX1_cellsName 6 (some .int), Cond.static yX11_lengthWithout, Cond.code yX11_lengthWithout cX11_lengthWithout 5 (some .int), Cond.static yX11_sameBytes, Cond.code yX11_sameBytes cX11_sameBytes 6 (some .boolean), Cond.methodLink RX3 218 yX3_isNodesRow, Cond.instanceMethod yX3_isNodesRow, Cond.selects RX3 yX3_isNodesRow yX3_isNodesRow, Cond.code yX3_isNodesRow cX3_isNodesRow 5 (some .boolean), Cond.methodLink RX3 225 yX1_isNode, Cond.instanceMethod yX1_isNode]
def wsX11_save_r12 : List Cond := [Cond.selects RX1 yX1_isNode yX1_isNode, Cond.code yX1_isNode cX1_isNode 4 (some .boolean), Cond.methodLink RX1 100 yX1_nodeAt, Cond.methodLink RX3 175 yX3_isFolderRow, Cond.instanceMethod yX3_isFolderRow, Cond.selects RX3 yX3_isFolderRow yX3_isFolderRow, Cond.code yX3_isFolderRow cX3_isFolderRow 2 (some .boolean), Cond.methodLink RX3 94 yX3_eraseRow, Cond.instanceMethod yX3_eraseRow, Cond.selects RX3 yX3_eraseRow yX3_eraseRow, Cond.code yX3_eraseRow cX3_eraseRow 4 (some .int), Cond.methodLink RX3 320 yX3_hasLivingRows, Cond.instanceMethod yX3_hasLivingRows, Cond.selects RX3 yX3_hasLivingRows yX3_hasLivingRows, Cond.code yX3_hasLivingRows cX3_hasLivingRows 5 (some .boolean), Cond.methodLink RX3 252 yX3_dropChain, Cond.instanceMethod yX3_dropChain, Cond.selects RX3 yX3_dropChain yX3_dropChain, Cond.code yX3_dropChain cX3_dropChain 4 none, Cond.methodLink RX3 268 yX1_clusterOf, Cond.instanceMethod yX1_clusterOf, Cond.selects RX1 yX1_clusterOf yX1_clusterOf, Cond.code yX1_clusterOf cX1_clusterOf 2 (some .int), Cond.methodLink RX3 282 yX1_putCell]
def wsX11_save_r13 : List Cond := [Cond.instanceMethod yX1_putCell, Cond.selects RX1 yX1_putCell yX1_putCell, Cond.code yX1_putCell cX1_putCell 5 none, Cond.static yX11_put16, Cond.code yX11_put16 cX11_put16 3 none, Cond.methodLink RX3 311 yX3_dropBlocks, Cond.instanceMethod yX3_dropBlocks, Cond.selects RX3 yX3_dropBlocks yX3_dropBlocks, Cond.code yX3_dropBlocks cX3_dropBlocks 4 none, Cond.methodLink RX3 131 yX1_putBit, Cond.static yX1_putBit, Cond.code yX1_putBit cX1_putBit 6 none, Cond.methodLink RX3 295 yX1_isData, Cond.static yX11_put32, Cond.code yX11_put32 cX11_put32 3 none, Cond.methodLink RX11 445 yX11_put16, Cond.methodLink RX3 98 yX3_store, Cond.instanceMethod yX3_store, Cond.selects RX3 yX3_store yX3_store, Cond.code yX3_store cX3_store 6 (some .int), Cond.methodLink RX3 236 yX3_freeRow, Cond.instanceMethod yX3_freeRow, Cond.selects RX3 yX3_freeRow yX3_freeRow, Cond.code yX3_freeRow cX3_freeRow 4 (some .int)]
def wsX11_save_r14 : List Cond := [Cond.methodLink RX3 239 yX3_growCells, Cond.instanceMethod yX3_growCells, Cond.selects RX3 yX3_growCells yX3_growCells, Cond.code yX3_growCells cX3_growCells 2 (some .int), Cond.methodLink RX3 255 yX3_takeClusters, Cond.instanceMethod yX3_takeClusters, Cond.selects RX3 yX3_takeClusters yX3_takeClusters, Cond.code yX3_takeClusters cX3_takeClusters 4 (some .boolean), Cond.fieldLink RX3 285 "DiskEvidence$Form" "clusters" "I", Cond.constant RX3 294 (65535), Cond.methodLink RX3 288 yX1_cell, Cond.instanceMethod yX1_cell, Cond.selects RX1 yX1_cell yX1_cell, Cond.code yX1_cell cX1_cell 3 (some .int), Cond.methodLink RX3 291 yX1_clusterBlock, Cond.instanceMethod yX1_clusterBlock, Cond.selects RX1 yX1_clusterBlock yX1_clusterBlock, Cond.code yX1_clusterBlock cX1_clusterBlock 2 (some .int), Cond.methodLink RX3 242 yX3_growNode, Cond.instanceMethod yX3_growNode, Cond.selects RX3 yX3_growNode yX3_growNode, Cond.code yX3_growNode cX3_growNode 4 (some .int), Cond.methodLink RX3 298 yX3_takeBlock, Cond.instanceMethod yX3_takeBlock]
def wsX11_save_r15 : List Cond := [Cond.selects RX3 yX3_takeBlock yX3_takeBlock, Cond.code yX3_takeBlock cX3_takeBlock 3 (some .int), Cond.fieldLink RX3 314 "DiskEvidence$Form" "data" "I", Cond.fieldLink RX3 317 "DiskEvidence$Form" "n" "I", Cond.methodLink RX3 308 yX3_takeBit, Cond.instanceMethod yX3_takeBit, Cond.selects RX3 yX3_takeBit yX3_takeBit, Cond.code yX3_takeBit cX3_takeBit 7 (some .int), Cond.methodLink RX3 301 yX1_placeAt, Cond.methodLink RX3 245 yX3_storeCells, Cond.instanceMethod yX3_storeCells, Cond.selects RX3 yX3_storeCells yX3_storeCells, Cond.code yX3_storeCells cX3_storeCells 5 (some .boolean), Cond.methodLink RX3 262 yX3_putCellsName, Cond.instanceMethod yX3_putCellsName, Cond.selects RX3 yX3_putCellsName yX3_putCellsName, Cond.code yX3_putCellsName cX3_putCellsName 3 none, Cond.methodLink RX3 265 yX3_cellsMoment, Cond.instanceMethod yX3_cellsMoment, Cond.selects RX3 yX3_cellsMoment yX3_cellsMoment, Cond.code yX3_cellsMoment cX3_cellsMoment 1 (some .int), Cond.constantLong RX3 271 (900), Cond.fieldLink RX3 273 "DiskEvidence$Form" "zone" "I", Cond.methodLink RX3 276 Lib.MathLoose.max_long.x]
def wsX11_save_r16 : List Cond := [Cond.static Lib.MathLoose.max_long.x, Cond.code Lib.MathLoose.max_long.x Lib.MathLoose.max_long.code 4 (some .long), Cond.constantLong RX3 280 (2), Cond.methodLink RX3 249 yX3_storeNode, Cond.instanceMethod yX3_storeNode, Cond.selects RX3 yX3_storeNode yX3_storeNode, Cond.code yX3_storeNode cX3_storeNode 8 (some .boolean), Cond.fieldLink RX3 305 "DiskEvidence$Form" "nodes" "I", Cond.methodLink RX3 135 yX3_putNode, Cond.instanceMethod yX3_putNode, Cond.selects RX3 yX3_putNode yX3_putNode, Cond.code yX3_putNode cX3_putNode 4 none, Cond.methodLink RX3 102 yX3_writeChanges, Cond.instanceMethod yX3_writeChanges, Cond.selects RX3 yX3_writeChanges yX3_writeChanges, Cond.code yX3_writeChanges cX3_writeChanges 3 none, Cond.fieldLink RX3 18 "DiskEvidence$Maker" "rooms" "[B", Cond.static yX11_writeBlock, Cond.code yX11_writeBlock cX11_writeBlock 6 none, Cond.fieldLink RX11 494 "DiskEvidence$Volume" "kind" "I", Cond.fieldLink RX11 495 "DiskEvidence$Volume" "first" "LDiskEvidence$Volume;", Cond.fieldLink RX11 503 "DiskEvidence$Volume" "second" "LDiskEvidence$Volume;", Cond.methodLink RX11 491 yX5_storeSector, Cond.instanceMethod yX5_storeSector]
def wsX11_save_r17 : List Cond := [Cond.selects RX5 yX5_storeSector yX5_storeSector, Cond.code yX5_storeSector cX5_storeSector 4 none, Cond.methodLink RX11 499 yX11_writeBlock, Cond.methodLink RX11 506 yX11_writeParity, Cond.static yX11_writeParity, Cond.code yX11_writeParity cX11_writeParity 8 none]
def wsX11_save : List Cond := .code yX11_save cX11_save 3 (some .int) :: ((wsX11_save_r1 ++ (wsX11_save_r2 ++ (wsX11_save_r3 ++ (wsX11_save_r4 ++ (wsX11_save_r5 ++ (wsX11_save_r6 ++ (wsX11_save_r7 ++ (wsX11_save_r8 ++ (wsX11_save_r9 ++ (wsX11_save_r10 ++ (wsX11_save_r11 ++ (wsX11_save_r12 ++ (wsX11_save_r13 ++ (wsX11_save_r14 ++ (wsX11_save_r15 ++ (wsX11_save_r16 ++ wsX11_save_r17)))))))))))))))) ++ wsX110 ++ wsX30 ++ wsX10 ++ wsX100 ++ wsX50)
def wsX11_folder_r1 : List Cond := [Cond.fieldLink RX11 44 "DiskEvidence" "maker" "LDiskEvidence$Maker;", Cond.fieldLink RX11 9 "DiskEvidence" "collected" "[B", Cond.fieldLink RX11 82 "DiskEvidence" "now" "I", Cond.methodLink RX11 152 yX11_volumeAt, Cond.instanceMethod yX11_volumeAt, Cond.selects RX11 yX11_volumeAt yX11_volumeAt, Cond.initialized RX11, Cond.code yX11_volumeAt cX11_volumeAt 2 (some (.object "DiskEvidence$Volume")), Cond.fieldLink RX11 143 "DiskEvidence" "volumeCount" "I", Cond.fieldLink RX11 21 "DiskEvidence" "volumes" "[LDiskEvidence$Volume;", Cond.methodLink RX11 91 yX11_forget, Cond.instanceMethod yX11_forget, Cond.selects RX11 yX11_forget yX11_forget, Cond.code yX11_forget cX11_forget 2 (some .int), Cond.fieldLink RX11 76 "DiskEvidence" "collectedCount" "I", Cond.methodLink RX11 184 yX3_carryOut, Cond.instanceMethod yX3_carryOut, Cond.selects RX3 yX3_carryOut yX3_carryOut, Cond.initialized RX3, Cond.code yX3_carryOut cX3_carryOut 7 (some .int), Cond.fieldLink RX3 9 "DiskEvidence$Maker" "image" "[B", Cond.fieldLink RX3 15 "DiskEvidence$Maker" "before" "[B", Cond.methodLink RX3 62 arraycopyName, Cond.native arraycopyName]
def wsX11_folder_r2 : List Cond := [Cond.static arraycopyName, Cond.initialized "java/lang/System", Cond.fieldLink RX3 34 "DiskEvidence$Maker" "text" "[B", Cond.fieldLink RX3 68 "DiskEvidence$Maker" "moment" "I", Cond.fieldLink RX3 71 "DiskEvidence$Maker" "pathEnd" "I", Cond.methodLink RX3 74 Lib.Math.min.name, Cond.static Lib.Math.min.name, Cond.initialized "java/lang/Math", Cond.code Lib.Math.min.name Lib.Math.min.code 2 (some .int), Cond.fieldLink RX3 80 "DiskEvidence$Maker" "contentsAt" "I", Cond.fieldLink RX3 24 "DiskEvidence$Maker" "form" "LDiskEvidence$Form;", Cond.fieldLink RX3 83 "DiskEvidence$Form" "kind" "I", Cond.fieldLink RX3 44 "DiskEvidence$Volume" "size" "I", Cond.methodLink RX3 58 yX3_look, Cond.instanceMethod yX3_look, Cond.selects RX3 yX3_look yX3_look, Cond.code yX3_look cX3_look 3 none, Cond.static yX11_readBlock, Cond.code yX11_readBlock cX11_readBlock 8 none, Cond.fieldLink RX11 464 "DiskEvidence$Volume" "base" "LDiskEvidence$Picture;", Cond.fieldLink RX11 468 "DiskEvidence$Volume" "begin" "I", Cond.methodLink RX11 442 yX11_clear, Cond.static yX11_clear, Cond.code yX11_clear cX11_clear 3 none]
def wsX11_folder_r3 : List Cond := [Cond.methodLink RX11 448 yJ7_fill_eb02e, Cond.static yJ7_fill_eb02e, Cond.initialized RJ7, Cond.code yJ7_fill_eb02e cJ7_fill_eb02e 5 none, Cond.methodLink RJ7 13 yJ7_rangeCheck_23922, Cond.static yJ7_rangeCheck_23922, Cond.code yJ7_rangeCheck_23922 cJ7_rangeCheck_23922 3 none, Cond.methodLink RX11 471 yX5_copySector, Cond.instanceMethod yX5_copySector, Cond.selects RX5 yX5_copySector yX5_copySector, Cond.initialized RX5, Cond.code yX5_copySector cX5_copySector 4 none, Cond.fieldLink RX5 18 "DiskEvidence$Picture" "sectorCount" "I", Cond.fieldLink RX5 26 "DiskEvidence$Picture" "spoilt" "[Z", Cond.fieldLink RX5 22 "DiskEvidence$Picture" "bytes" "[B", Cond.methodLink RX5 42 arraycopyName, Cond.methodLink RX11 475 yX10_home, Cond.instanceMethod yX10_home, Cond.selects RX10 yX10_home yX10_home, Cond.initialized RX10, Cond.code yX10_home cX10_home 5 (some (.object "DiskEvidence$Volume")), Cond.fieldLink RX10 9 "DiskEvidence$Volume" "kind" "I", Cond.fieldLink RX10 35 "DiskEvidence$Volume" "third" "LDiskEvidence$Volume;", Cond.fieldLink RX10 28 "DiskEvidence$Volume" "first" "LDiskEvidence$Volume;"]
def wsX11_folder_r4 : List Cond := [Cond.fieldLink RX10 15 "DiskEvidence$Volume" "size" "I", Cond.fieldLink RX10 32 "DiskEvidence$Volume" "second" "LDiskEvidence$Volume;", Cond.methodLink RX11 478 yX10_homeBlock, Cond.instanceMethod yX10_homeBlock, Cond.selects RX10 yX10_homeBlock yX10_homeBlock, Cond.code yX10_homeBlock cX10_homeBlock 2 (some .int), Cond.methodLink RX11 481 yX11_xorBlock, Cond.static yX11_xorBlock, Cond.code yX11_xorBlock cX11_xorBlock 7 none, Cond.fieldLink RX11 159 "DiskEvidence$Volume" "size" "I", Cond.methodLink RX11 485 yX5_xorSector, Cond.instanceMethod yX5_xorSector, Cond.selects RX5 yX5_xorSector yX5_xorSector, Cond.code yX5_xorSector cX5_xorSector 5 none, Cond.methodLink RX11 488 yX10_member, Cond.instanceMethod yX10_member, Cond.selects RX10 yX10_member yX10_member, Cond.code yX10_member cX10_member 2 (some (.object "DiskEvidence$Volume")), Cond.methodLink RX3 54 yX1_readFrom, Cond.instanceMethod yX1_readFrom, Cond.selects RX1 yX1_readFrom yX1_readFrom, Cond.initialized RX1, Cond.code yX1_readFrom cX1_readFrom 3 none, Cond.fieldLink RX1 18 "DiskEvidence$Form" "kind" "I"]
def wsX11_folder_r5 : List Cond := [Cond.fieldLink RX1 36 "DiskEvidence$Form" "n" "I", Cond.methodLink RX1 22 yX1_readCells, Cond.instanceMethod yX1_readCells, Cond.selects RX1 yX1_readCells yX1_readCells, Cond.code yX1_readCells cX1_readCells 3 (some .boolean), Cond.fieldLink RX1 47 "DiskEvidence$Form" "tables" "I", Cond.fieldLink RX1 50 "DiskEvidence$Form" "tableBlocks" "I", Cond.fieldLink RX1 56 "DiskEvidence$Form" "rootBlocks" "I", Cond.fieldLink RX1 59 "DiskEvidence$Form" "zone" "I", Cond.fieldLink RX1 62 "DiskEvidence$Form" "firstCluster" "I", Cond.fieldLink RX1 65 "DiskEvidence$Form" "clusters" "I", Cond.static yX11_u8, Cond.code yX11_u8 cX11_u8 2 (some .int), Cond.static yX11_u16, Cond.code yX11_u16 cX11_u16 2 (some .int), Cond.methodLink RX1 26 yX1_readNodes, Cond.instanceMethod yX1_readNodes, Cond.selects RX1 yX1_readNodes yX1_readNodes, Cond.code yX1_readNodes cX1_readNodes 3 (some .boolean), Cond.fieldLink RX1 68 "DiskEvidence$Form" "nodes" "I", Cond.fieldLink RX1 71 "DiskEvidence$Form" "data" "I", Cond.static yX11_isZero, Cond.code yX11_isZero cX11_isZero 4 (some .boolean), Cond.methodLink RX11 169 yX11_u8]
def wsX11_folder_r6 : List Cond := [Cond.methodLink RX1 33 yX1_isHeader, Cond.static yX1_isHeader, Cond.code yX1_isHeader cX1_isHeader 4 (some .boolean), Cond.methodLink RX1 123 yX1_octal, Cond.static yX1_octal, Cond.code yX1_octal cX1_octal 7 (some .long), Cond.constantLong RX1 130 (-1), Cond.constantLong RX1 132 (8), Cond.constantLong RX1 134 (48), Cond.methodLink RX1 127 yX1_sumOf, Cond.static yX1_sumOf, Cond.code yX1_sumOf cX1_sumOf 4 (some .int), Cond.methodLink RX1 39 yX1_readHeaders, Cond.instanceMethod yX1_readHeaders, Cond.selects RX1 yX1_readHeaders yX1_readHeaders, Cond.code yX1_readHeaders cX1_readHeaders 4 none, Cond.fieldLink RX1 139 "DiskEvidence$Form" "headerCount" "I", Cond.fieldLink RX1 142 "DiskEvidence$Form" "tapeFault" "I", Cond.fieldLink RX1 145 "DiskEvidence$Form" "tapeEnd" "I", Cond.fieldLink RX1 9 "DiskEvidence$Form" "headers" "[I", Cond.methodLink RX1 148 yX1_tapeBlocks, Cond.static yX1_tapeBlocks, Cond.code yX1_tapeBlocks cX1_tapeBlocks 3 (some .int), Cond.static yX11_blocksFor]
def wsX11_folder_r7 : List Cond := [Cond.code yX11_blocksFor cX11_blocksFor 1 (some .int), Cond.methodLink RX3 86 yX3_onTape, Cond.instanceMethod yX3_onTape, Cond.selects RX3 yX3_onTape yX3_onTape, Cond.code yX3_onTape cX3_onTape 7 (some .int), Cond.fieldLink RX3 323 "DiskEvidence$Form" "tapeFault" "I", Cond.fieldLink RX3 326 "DiskEvidence$Form" "tapeEnd" "I", Cond.fieldLink RX3 41 "DiskEvidence$Maker" "taken" "[I", Cond.methodLink RX3 156 yX3_isPath, Cond.instanceMethod yX3_isPath, Cond.selects RX3 yX3_isPath yX3_isPath, Cond.code yX3_isPath cX3_isPath 4 (some .boolean), Cond.methodLink RX3 142 yX3_nameEnd, Cond.instanceMethod yX3_nameEnd, Cond.selects RX3 yX3_nameEnd yX3_nameEnd, Cond.code yX3_nameEnd cX3_nameEnd 3 (some .int), Cond.methodLink RX3 146 yX3_isCellsName, Cond.instanceMethod yX3_isCellsName, Cond.selects RX3 yX3_isCellsName yX3_isCellsName, Cond.code yX3_isCellsName cX3_isCellsName 5 (some .boolean), Cond.methodLink RX3 152 yX3_isCellsLetter, Cond.static yX3_isCellsLetter, Cond.code yX3_isCellsLetter cX3_isCellsLetter 1 (some .boolean), Cond.methodLink RX3 149 yX3_isOtherName]
def wsX11_folder_r8 : List Cond := [Cond.instanceMethod yX3_isOtherName, Cond.selects RX3 yX3_isOtherName yX3_isOtherName, Cond.code yX3_isOtherName cX3_isOtherName 4 (some .boolean), Cond.static yX11_put8, Cond.code yX11_put8 cX11_put8 3 none, Cond.methodLink RX3 329 yX1_putOctal, Cond.static yX1_putOctal, Cond.code yX1_putOctal cX1_putOctal 6 none, Cond.methodLink RX3 333 yX1_sumOf, Cond.methodLink RX3 258 yX3_fill, Cond.instanceMethod yX3_fill, Cond.selects RX3 yX3_fill yX3_fill, Cond.code yX3_fill cX3_fill 5 none, Cond.methodLink RX3 90 yX3_findPlace, Cond.instanceMethod yX3_findPlace, Cond.selects RX3 yX3_findPlace yX3_findPlace, Cond.code yX3_findPlace cX3_findPlace 3 (some .boolean), Cond.fieldLink RX3 166 "DiskEvidence$Maker" "nameFrom" "I", Cond.fieldLink RX3 172 "DiskEvidence$Maker" "rowAt" "I", Cond.methodLink RX3 159 yX3_enterCells, Cond.instanceMethod yX3_enterCells, Cond.selects RX3 yX3_enterCells yX3_enterCells, Cond.code yX3_enterCells cX3_enterCells 3 none, Cond.fieldLink RX3 182 "DiskEvidence$Maker" "inFolder" "I"]
def wsX11_folder_r9 : List Cond := [Cond.fieldLink RX3 185 "DiskEvidence$Form" "rootBlocks" "I", Cond.fieldLink RX3 37 "DiskEvidence$Maker" "folderBlocks" "[I", Cond.fieldLink RX3 192 "DiskEvidence$Maker" "folderCount" "I", Cond.fieldLink RX3 198 "DiskEvidence$Maker" "folderRows" "I", Cond.methodLink RX3 188 yX1_follow, Cond.instanceMethod yX1_follow, Cond.selects RX1 yX1_follow yX1_follow, Cond.code yX1_follow cX1_follow 10 (some .int), Cond.fieldLink RX1 78 "DiskEvidence$Form" "stop" "I", Cond.fieldLink RX1 81 "DiskEvidence$Form" "followed" "I", Cond.fieldLink RX1 84 "DiskEvidence$Form" "stopAt" "I", Cond.fieldLink RX1 15 "DiskEvidence$Form" "seen" "[I", Cond.constant RX1 91 (65527), Cond.constant RX1 92 (65528), Cond.methodLink RX1 87 yX1_isCluster, Cond.instanceMethod yX1_isCluster, Cond.selects RX1 yX1_isCluster yX1_isCluster, Cond.code yX1_isCluster cX1_isCluster 2 (some .boolean), Cond.methodLink RX3 195 yX1_rootBlock, Cond.instanceMethod yX1_rootBlock, Cond.selects RX1 yX1_rootBlock yX1_rootBlock, Cond.code yX1_rootBlock cX1_rootBlock 1 (some .int), Cond.methodLink RX3 163 yX3_enterNode, Cond.instanceMethod yX3_enterNode]
def wsX11_folder_r10 : List Cond := [Cond.selects RX3 yX3_enterNode yX3_enterNode, Cond.code yX3_enterNode cX3_enterNode 3 none, Cond.methodLink RX3 201 yX1_nodeAt, Cond.instanceMethod yX1_nodeAt, Cond.selects RX1 yX1_nodeAt yX1_nodeAt, Cond.code yX1_nodeAt cX1_nodeAt 2 (some .int), Cond.methodLink RX3 204 yX1_placesOf, Cond.instanceMethod yX1_placesOf, Cond.selects RX1 yX1_placesOf yX1_placesOf, Cond.code yX1_placesOf cX1_placesOf 7 (some .int), Cond.methodLink RX1 107 Lib.Math.min.name, Cond.methodLink RX1 113 yX1_placesFor, Cond.static yX1_placesFor, Cond.code yX1_placesFor cX1_placesFor 1 (some .int), Cond.methodLink RX1 116 yX1_placeAt, Cond.instanceMethod yX1_placeAt, Cond.selects RX1 yX1_placeAt yX1_placeAt, Cond.code yX1_placeAt cX1_placeAt 5 (some .int), Cond.methodLink RX1 120 yX1_isData, Cond.instanceMethod yX1_isData, Cond.selects RX1 yX1_isData yX1_isData, Cond.code yX1_isData cX1_isData 2 (some .boolean), Cond.methodLink RX3 169 yX3_findRow, Cond.instanceMethod yX3_findRow]
def wsX11_folder_r11 : List Cond := [Cond.selects RX3 yX3_findRow yX3_findRow, Cond.code yX3_findRow cX3_findRow 5 (some .int), Cond.methodLink RX3 208 yX3_rowPlace, Cond.instanceMethod yX3_rowPlace, Cond.selects RX3 yX3_rowPlace yX3_rowPlace, Cond.code yX3_rowPlace cX3_rowPlace 4 (some .int), Cond.methodLink RX3 214 yX3_isCellsRow, Cond.instanceMethod yX3_isCellsRow, Cond.selects RX3 yX3_isCellsRow yX3_isCellsRow, Cond.code yX3_isCellsRow cX3_isCellsRow 5 (some .boolean), Cond.fieldLink RX3 28 "DiskEvidence$Maker" "letters" "[B", Cond.methodLink RX3 221 yX1_cellsName, Cond.static yX1_cellsName, Cond.code yX1_cellsName cX1_cellsName 6 (some .int), Cond.static yX11_lengthWithout, Cond.code yX11_lengthWithout cX11_lengthWithout 5 (some .int), Cond.static yX11_sameBytes, Cond.code yX11_sameBytes cX11_sameBytes 6 (some .boolean), Cond.methodLink RX3 218 yX3_isNodesRow, Cond.instanceMethod yX3_isNodesRow, Cond.selects RX3 yX3_isNodesRow yX3_isNodesRow, Cond.code yX3_isNodesRow cX3_isNodesRow 5 (some .boolean), Cond.methodLink RX3 225 yX1_isNode, Cond.instanceMethod yX1_isNode]
def wsX11_folder_r12 : List Cond := [Cond.selects RX1 yX1_isNode yX1_isNode, Cond.code yX1_isNode cX1_isNode 4 (some .boolean), Cond.methodLink RX1 100 yX1_nodeAt, Cond.methodLink RX3 175 yX3_isFolderRow, Cond.instanceMethod yX3_isFolderRow, Cond.selects RX3 yX3_isFolderRow yX3_isFolderRow, Cond.code yX3_isFolderRow cX3_isFolderRow 2 (some .boolean), Cond.methodLink RX3 94 yX3_eraseRow, Cond.instanceMethod yX3_eraseRow, Cond.selects RX3 yX3_eraseRow yX3_eraseRow, Cond.code yX3_eraseRow cX3_eraseRow 4 (some .int), Cond.methodLink RX3 320 yX3_hasLivingRows, Cond.instanceMethod yX3_hasLivingRows, Cond.selects RX3 yX3_hasLivingRows yX3_hasLivingRows, Cond.code yX3_hasLivingRows cX3_hasLivingRows 5 (some .boolean), Cond.methodLink RX3 252 yX3_dropChain, Cond.instanceMethod yX3_dropChain, Cond.selects RX3 yX3_dropChain yX3_dropChain, Cond.code yX3_dropChain cX3_dropChain 4 none, Cond.methodLink RX3 268 yX1_clusterOf, Cond.instanceMethod yX1_clusterOf, Cond.selects RX1 yX1_clusterOf yX1_clusterOf, Cond.code yX1_clusterOf cX1_clusterOf 2 (some .int), Cond.methodLink RX3 282 yX1_putCell]
def wsX11_folder_r13 : List Cond := [Cond.instanceMethod yX1_putCell, Cond.selects RX1 yX1_putCell yX1_putCell, Cond.code yX1_putCell cX1_putCell 5 none, Cond.static yX11_put16, Cond.code yX11_put16 cX11_put16 3 none, Cond.methodLink RX3 311 yX3_dropBlocks, Cond.instanceMethod yX3_dropBlocks, Cond.selects RX3 yX3_dropBlocks yX3_dropBlocks, Cond.code yX3_dropBlocks cX3_dropBlocks 4 none, Cond.methodLink RX3 131 yX1_putBit, Cond.static yX1_putBit, Cond.code yX1_putBit cX1_putBit 6 none, Cond.methodLink RX3 295 yX1_isData, Cond.static yX11_put32, Cond.code yX11_put32 cX11_put32 3 none, Cond.methodLink RX11 445 yX11_put16, Cond.methodLink RX3 98 yX3_store, Cond.instanceMethod yX3_store, Cond.selects RX3 yX3_store yX3_store, Cond.code yX3_store cX3_store 6 (some .int), Cond.methodLink RX3 236 yX3_freeRow, Cond.instanceMethod yX3_freeRow, Cond.selects RX3 yX3_freeRow yX3_freeRow, Cond.code yX3_freeRow cX3_freeRow 4 (some .int)]
def wsX11_folder_r14 : List Cond := [Cond.methodLink RX3 239 yX3_growCells, Cond.instanceMethod yX3_growCells, Cond.selects RX3 yX3_growCells yX3_growCells, Cond.code yX3_growCells cX3_growCells 2 (some .int), Cond.methodLink RX3 255 yX3_takeClusters, Cond.instanceMethod yX3_takeClusters, Cond.selects RX3 yX3_takeClusters yX3_takeClusters, Cond.code yX3_takeClusters cX3_takeClusters 4 (some .boolean), Cond.fieldLink RX3 285 "DiskEvidence$Form" "clusters" "I", Cond.constant RX3 294 (65535), Cond.methodLink RX3 288 yX1_cell, Cond.instanceMethod yX1_cell, Cond.selects RX1 yX1_cell yX1_cell, Cond.code yX1_cell cX1_cell 3 (some .int), Cond.methodLink RX3 291 yX1_clusterBlock, Cond.instanceMethod yX1_clusterBlock, Cond.selects RX1 yX1_clusterBlock yX1_clusterBlock, Cond.code yX1_clusterBlock cX1_clusterBlock 2 (some .int), Cond.methodLink RX3 242 yX3_growNode, Cond.instanceMethod yX3_growNode, Cond.selects RX3 yX3_growNode yX3_growNode, Cond.code yX3_growNode cX3_growNode 4 (some .int), Cond.methodLink RX3 298 yX3_takeBlock, Cond.instanceMethod yX3_takeBlock]
def wsX11_folder_r15 : List Cond := [Cond.selects RX3 yX3_takeBlock yX3_takeBlock, Cond.code yX3_takeBlock cX3_takeBlock 3 (some .int), Cond.fieldLink RX3 314 "DiskEvidence$Form" "data" "I", Cond.fieldLink RX3 317 "DiskEvidence$Form" "n" "I", Cond.methodLink RX3 308 yX3_takeBit, Cond.instanceMethod yX3_takeBit, Cond.selects RX3 yX3_takeBit yX3_takeBit, Cond.code yX3_takeBit cX3_takeBit 7 (some .int), Cond.methodLink RX3 301 yX1_placeAt, Cond.methodLink RX3 245 yX3_storeCells, Cond.instanceMethod yX3_storeCells, Cond.selects RX3 yX3_storeCells yX3_storeCells, Cond.code yX3_storeCells cX3_storeCells 5 (some .boolean), Cond.methodLink RX3 262 yX3_putCellsName, Cond.instanceMethod yX3_putCellsName, Cond.selects RX3 yX3_putCellsName yX3_putCellsName, Cond.code yX3_putCellsName cX3_putCellsName 3 none, Cond.methodLink RX3 265 yX3_cellsMoment, Cond.instanceMethod yX3_cellsMoment, Cond.selects RX3 yX3_cellsMoment yX3_cellsMoment, Cond.code yX3_cellsMoment cX3_cellsMoment 1 (some .int), Cond.constantLong RX3 271 (900), Cond.fieldLink RX3 273 "DiskEvidence$Form" "zone" "I", Cond.methodLink RX3 276 Lib.MathLoose.max_long.x]
def wsX11_folder_r16 : List Cond := [Cond.static Lib.MathLoose.max_long.x, Cond.code Lib.MathLoose.max_long.x Lib.MathLoose.max_long.code 4 (some .long), Cond.constantLong RX3 280 (2), Cond.methodLink RX3 249 yX3_storeNode, Cond.instanceMethod yX3_storeNode, Cond.selects RX3 yX3_storeNode yX3_storeNode, Cond.code yX3_storeNode cX3_storeNode 8 (some .boolean), Cond.fieldLink RX3 305 "DiskEvidence$Form" "nodes" "I", Cond.methodLink RX3 135 yX3_putNode, Cond.instanceMethod yX3_putNode, Cond.selects RX3 yX3_putNode yX3_putNode, Cond.code yX3_putNode cX3_putNode 4 none, Cond.methodLink RX3 102 yX3_writeChanges, Cond.instanceMethod yX3_writeChanges, Cond.selects RX3 yX3_writeChanges yX3_writeChanges, Cond.code yX3_writeChanges cX3_writeChanges 3 none, Cond.fieldLink RX3 18 "DiskEvidence$Maker" "rooms" "[B", Cond.static yX11_writeBlock, Cond.code yX11_writeBlock cX11_writeBlock 6 none, Cond.fieldLink RX11 494 "DiskEvidence$Volume" "kind" "I", Cond.fieldLink RX11 495 "DiskEvidence$Volume" "first" "LDiskEvidence$Volume;", Cond.fieldLink RX11 503 "DiskEvidence$Volume" "second" "LDiskEvidence$Volume;", Cond.methodLink RX11 491 yX5_storeSector, Cond.instanceMethod yX5_storeSector]
def wsX11_folder_r17 : List Cond := [Cond.selects RX5 yX5_storeSector yX5_storeSector, Cond.code yX5_storeSector cX5_storeSector 4 none, Cond.methodLink RX11 499 yX11_writeBlock, Cond.methodLink RX11 506 yX11_writeParity, Cond.static yX11_writeParity, Cond.code yX11_writeParity cX11_writeParity 8 none]
def wsX11_folder : List Cond := .code yX11_folder cX11_folder 3 (some .int) :: ((wsX11_folder_r1 ++ (wsX11_folder_r2 ++ (wsX11_folder_r3 ++ (wsX11_folder_r4 ++ (wsX11_folder_r5 ++ (wsX11_folder_r6 ++ (wsX11_folder_r7 ++ (wsX11_folder_r8 ++ (wsX11_folder_r9 ++ (wsX11_folder_r10 ++ (wsX11_folder_r11 ++ (wsX11_folder_r12 ++ (wsX11_folder_r13 ++ (wsX11_folder_r14 ++ (wsX11_folder_r15 ++ (wsX11_folder_r16 ++ wsX11_folder_r17)))))))))))))))) ++ wsX110 ++ wsX30 ++ wsX10 ++ wsX100 ++ wsX50)
def wsX11_erase_r1 : List Cond := [Cond.fieldLink RX11 44 "DiskEvidence" "maker" "LDiskEvidence$Maker;", Cond.fieldLink RX11 9 "DiskEvidence" "collected" "[B", Cond.fieldLink RX11 82 "DiskEvidence" "now" "I", Cond.methodLink RX11 152 yX11_volumeAt, Cond.instanceMethod yX11_volumeAt, Cond.selects RX11 yX11_volumeAt yX11_volumeAt, Cond.initialized RX11, Cond.code yX11_volumeAt cX11_volumeAt 2 (some (.object "DiskEvidence$Volume")), Cond.fieldLink RX11 143 "DiskEvidence" "volumeCount" "I", Cond.fieldLink RX11 21 "DiskEvidence" "volumes" "[LDiskEvidence$Volume;", Cond.methodLink RX11 91 yX11_forget, Cond.instanceMethod yX11_forget, Cond.selects RX11 yX11_forget yX11_forget, Cond.code yX11_forget cX11_forget 2 (some .int), Cond.fieldLink RX11 76 "DiskEvidence" "collectedCount" "I", Cond.methodLink RX11 184 yX3_carryOut, Cond.instanceMethod yX3_carryOut, Cond.selects RX3 yX3_carryOut yX3_carryOut, Cond.initialized RX3, Cond.code yX3_carryOut cX3_carryOut 7 (some .int), Cond.fieldLink RX3 9 "DiskEvidence$Maker" "image" "[B", Cond.fieldLink RX3 15 "DiskEvidence$Maker" "before" "[B", Cond.methodLink RX3 62 arraycopyName, Cond.native arraycopyName]
def wsX11_erase_r2 : List Cond := [Cond.static arraycopyName, Cond.initialized "java/lang/System", Cond.fieldLink RX3 34 "DiskEvidence$Maker" "text" "[B", Cond.fieldLink RX3 68 "DiskEvidence$Maker" "moment" "I", Cond.fieldLink RX3 71 "DiskEvidence$Maker" "pathEnd" "I", Cond.methodLink RX3 74 Lib.Math.min.name, Cond.static Lib.Math.min.name, Cond.initialized "java/lang/Math", Cond.code Lib.Math.min.name Lib.Math.min.code 2 (some .int), Cond.fieldLink RX3 80 "DiskEvidence$Maker" "contentsAt" "I", Cond.fieldLink RX3 24 "DiskEvidence$Maker" "form" "LDiskEvidence$Form;", Cond.fieldLink RX3 83 "DiskEvidence$Form" "kind" "I", Cond.fieldLink RX3 44 "DiskEvidence$Volume" "size" "I", Cond.methodLink RX3 58 yX3_look, Cond.instanceMethod yX3_look, Cond.selects RX3 yX3_look yX3_look, Cond.code yX3_look cX3_look 3 none, Cond.static yX11_readBlock, Cond.code yX11_readBlock cX11_readBlock 8 none, Cond.fieldLink RX11 464 "DiskEvidence$Volume" "base" "LDiskEvidence$Picture;", Cond.fieldLink RX11 468 "DiskEvidence$Volume" "begin" "I", Cond.methodLink RX11 442 yX11_clear, Cond.static yX11_clear, Cond.code yX11_clear cX11_clear 3 none]
def wsX11_erase_r3 : List Cond := [Cond.methodLink RX11 448 yJ7_fill_eb02e, Cond.static yJ7_fill_eb02e, Cond.initialized RJ7, Cond.code yJ7_fill_eb02e cJ7_fill_eb02e 5 none, Cond.methodLink RJ7 13 yJ7_rangeCheck_23922, Cond.static yJ7_rangeCheck_23922, Cond.code yJ7_rangeCheck_23922 cJ7_rangeCheck_23922 3 none, Cond.methodLink RX11 471 yX5_copySector, Cond.instanceMethod yX5_copySector, Cond.selects RX5 yX5_copySector yX5_copySector, Cond.initialized RX5, Cond.code yX5_copySector cX5_copySector 4 none, Cond.fieldLink RX5 18 "DiskEvidence$Picture" "sectorCount" "I", Cond.fieldLink RX5 26 "DiskEvidence$Picture" "spoilt" "[Z", Cond.fieldLink RX5 22 "DiskEvidence$Picture" "bytes" "[B", Cond.methodLink RX5 42 arraycopyName, Cond.methodLink RX11 475 yX10_home, Cond.instanceMethod yX10_home, Cond.selects RX10 yX10_home yX10_home, Cond.initialized RX10, Cond.code yX10_home cX10_home 5 (some (.object "DiskEvidence$Volume")), Cond.fieldLink RX10 9 "DiskEvidence$Volume" "kind" "I", Cond.fieldLink RX10 35 "DiskEvidence$Volume" "third" "LDiskEvidence$Volume;", Cond.fieldLink RX10 28 "DiskEvidence$Volume" "first" "LDiskEvidence$Volume;"]
def wsX11_erase_r4 : List Cond := [Cond.fieldLink RX10 15 "DiskEvidence$Volume" "size" "I", Cond.fieldLink RX10 32 "DiskEvidence$Volume" "second" "LDiskEvidence$Volume;", Cond.methodLink RX11 478 yX10_homeBlock, Cond.instanceMethod yX10_homeBlock, Cond.selects RX10 yX10_homeBlock yX10_homeBlock, Cond.code yX10_homeBlock cX10_homeBlock 2 (some .int), Cond.methodLink RX11 481 yX11_xorBlock, Cond.static yX11_xorBlock, Cond.code yX11_xorBlock cX11_xorBlock 7 none, Cond.fieldLink RX11 159 "DiskEvidence$Volume" "size" "I", Cond.methodLink RX11 485 yX5_xorSector, Cond.instanceMethod yX5_xorSector, Cond.selects RX5 yX5_xorSector yX5_xorSector, Cond.code yX5_xorSector cX5_xorSector 5 none, Cond.methodLink RX11 488 yX10_member, Cond.instanceMethod yX10_member, Cond.selects RX10 yX10_member yX10_member, Cond.code yX10_member cX10_member 2 (some (.object "DiskEvidence$Volume")), Cond.methodLink RX3 54 yX1_readFrom, Cond.instanceMethod yX1_readFrom, Cond.selects RX1 yX1_readFrom yX1_readFrom, Cond.initialized RX1, Cond.code yX1_readFrom cX1_readFrom 3 none, Cond.fieldLink RX1 18 "DiskEvidence$Form" "kind" "I"]
def wsX11_erase_r5 : List Cond := [Cond.fieldLink RX1 36 "DiskEvidence$Form" "n" "I", Cond.methodLink RX1 22 yX1_readCells, Cond.instanceMethod yX1_readCells, Cond.selects RX1 yX1_readCells yX1_readCells, Cond.code yX1_readCells cX1_readCells 3 (some .boolean), Cond.fieldLink RX1 47 "DiskEvidence$Form" "tables" "I", Cond.fieldLink RX1 50 "DiskEvidence$Form" "tableBlocks" "I", Cond.fieldLink RX1 56 "DiskEvidence$Form" "rootBlocks" "I", Cond.fieldLink RX1 59 "DiskEvidence$Form" "zone" "I", Cond.fieldLink RX1 62 "DiskEvidence$Form" "firstCluster" "I", Cond.fieldLink RX1 65 "DiskEvidence$Form" "clusters" "I", Cond.static yX11_u8, Cond.code yX11_u8 cX11_u8 2 (some .int), Cond.static yX11_u16, Cond.code yX11_u16 cX11_u16 2 (some .int), Cond.methodLink RX1 26 yX1_readNodes, Cond.instanceMethod yX1_readNodes, Cond.selects RX1 yX1_readNodes yX1_readNodes, Cond.code yX1_readNodes cX1_readNodes 3 (some .boolean), Cond.fieldLink RX1 68 "DiskEvidence$Form" "nodes" "I", Cond.fieldLink RX1 71 "DiskEvidence$Form" "data" "I", Cond.static yX11_isZero, Cond.code yX11_isZero cX11_isZero 4 (some .boolean), Cond.methodLink RX11 169 yX11_u8]
def wsX11_erase_r6 : List Cond := [Cond.methodLink RX1 33 yX1_isHeader, Cond.static yX1_isHeader, Cond.code yX1_isHeader cX1_isHeader 4 (some .boolean), Cond.methodLink RX1 123 yX1_octal, Cond.static yX1_octal, Cond.code yX1_octal cX1_octal 7 (some .long), Cond.constantLong RX1 130 (-1), Cond.constantLong RX1 132 (8), Cond.constantLong RX1 134 (48), Cond.methodLink RX1 127 yX1_sumOf, Cond.static yX1_sumOf, Cond.code yX1_sumOf cX1_sumOf 4 (some .int), Cond.methodLink RX1 39 yX1_readHeaders, Cond.instanceMethod yX1_readHeaders, Cond.selects RX1 yX1_readHeaders yX1_readHeaders, Cond.code yX1_readHeaders cX1_readHeaders 4 none, Cond.fieldLink RX1 139 "DiskEvidence$Form" "headerCount" "I", Cond.fieldLink RX1 142 "DiskEvidence$Form" "tapeFault" "I", Cond.fieldLink RX1 145 "DiskEvidence$Form" "tapeEnd" "I", Cond.fieldLink RX1 9 "DiskEvidence$Form" "headers" "[I", Cond.methodLink RX1 148 yX1_tapeBlocks, Cond.static yX1_tapeBlocks, Cond.code yX1_tapeBlocks cX1_tapeBlocks 3 (some .int), Cond.static yX11_blocksFor]
def wsX11_erase_r7 : List Cond := [Cond.code yX11_blocksFor cX11_blocksFor 1 (some .int), Cond.methodLink RX3 86 yX3_onTape, Cond.instanceMethod yX3_onTape, Cond.selects RX3 yX3_onTape yX3_onTape, Cond.code yX3_onTape cX3_onTape 7 (some .int), Cond.fieldLink RX3 323 "DiskEvidence$Form" "tapeFault" "I", Cond.fieldLink RX3 326 "DiskEvidence$Form" "tapeEnd" "I", Cond.fieldLink RX3 41 "DiskEvidence$Maker" "taken" "[I", Cond.methodLink RX3 156 yX3_isPath, Cond.instanceMethod yX3_isPath, Cond.selects RX3 yX3_isPath yX3_isPath, Cond.code yX3_isPath cX3_isPath 4 (some .boolean), Cond.methodLink RX3 142 yX3_nameEnd, Cond.instanceMethod yX3_nameEnd, Cond.selects RX3 yX3_nameEnd yX3_nameEnd, Cond.code yX3_nameEnd cX3_nameEnd 3 (some .int), Cond.methodLink RX3 146 yX3_isCellsName, Cond.instanceMethod yX3_isCellsName, Cond.selects RX3 yX3_isCellsName yX3_isCellsName, Cond.code yX3_isCellsName cX3_isCellsName 5 (some .boolean), Cond.methodLink RX3 152 yX3_isCellsLetter, Cond.static yX3_isCellsLetter, Cond.code yX3_isCellsLetter cX3_isCellsLetter 1 (some .boolean), Cond.methodLink RX3 149 yX3_isOtherName]
def wsX11_erase_r8 : List Cond := [Cond.instanceMethod yX3_isOtherName, Cond.selects RX3 yX3_isOtherName yX3_isOtherName, Cond.code yX3_isOtherName cX3_isOtherName 4 (some .boolean), Cond.static yX11_put8, Cond.code yX11_put8 cX11_put8 3 none, Cond.methodLink RX3 329 yX1_putOctal, Cond.static yX1_putOctal, Cond.code yX1_putOctal cX1_putOctal 6 none, Cond.methodLink RX3 333 yX1_sumOf, Cond.methodLink RX3 258 yX3_fill, Cond.instanceMethod yX3_fill, Cond.selects RX3 yX3_fill yX3_fill, Cond.code yX3_fill cX3_fill 5 none, Cond.methodLink RX3 90 yX3_findPlace, Cond.instanceMethod yX3_findPlace, Cond.selects RX3 yX3_findPlace yX3_findPlace, Cond.code yX3_findPlace cX3_findPlace 3 (some .boolean), Cond.fieldLink RX3 166 "DiskEvidence$Maker" "nameFrom" "I", Cond.fieldLink RX3 172 "DiskEvidence$Maker" "rowAt" "I", Cond.methodLink RX3 159 yX3_enterCells, Cond.instanceMethod yX3_enterCells, Cond.selects RX3 yX3_enterCells yX3_enterCells, Cond.code yX3_enterCells cX3_enterCells 3 none, Cond.fieldLink RX3 182 "DiskEvidence$Maker" "inFolder" "I"]
def wsX11_erase_r9 : List Cond := [Cond.fieldLink RX3 185 "DiskEvidence$Form" "rootBlocks" "I", Cond.fieldLink RX3 37 "DiskEvidence$Maker" "folderBlocks" "[I", Cond.fieldLink RX3 192 "DiskEvidence$Maker" "folderCount" "I", Cond.fieldLink RX3 198 "DiskEvidence$Maker" "folderRows" "I", Cond.methodLink RX3 188 yX1_follow, Cond.instanceMethod yX1_follow, Cond.selects RX1 yX1_follow yX1_follow, Cond.code yX1_follow cX1_follow 10 (some .int), Cond.fieldLink RX1 78 "DiskEvidence$Form" "stop" "I", Cond.fieldLink RX1 81 "DiskEvidence$Form" "followed" "I", Cond.fieldLink RX1 84 "DiskEvidence$Form" "stopAt" "I", Cond.fieldLink RX1 15 "DiskEvidence$Form" "seen" "[I", Cond.constant RX1 91 (65527), Cond.constant RX1 92 (65528), Cond.methodLink RX1 87 yX1_isCluster, Cond.instanceMethod yX1_isCluster, Cond.selects RX1 yX1_isCluster yX1_isCluster, Cond.code yX1_isCluster cX1_isCluster 2 (some .boolean), Cond.methodLink RX3 195 yX1_rootBlock, Cond.instanceMethod yX1_rootBlock, Cond.selects RX1 yX1_rootBlock yX1_rootBlock, Cond.code yX1_rootBlock cX1_rootBlock 1 (some .int), Cond.methodLink RX3 163 yX3_enterNode, Cond.instanceMethod yX3_enterNode]
def wsX11_erase_r10 : List Cond := [Cond.selects RX3 yX3_enterNode yX3_enterNode, Cond.code yX3_enterNode cX3_enterNode 3 none, Cond.methodLink RX3 201 yX1_nodeAt, Cond.instanceMethod yX1_nodeAt, Cond.selects RX1 yX1_nodeAt yX1_nodeAt, Cond.code yX1_nodeAt cX1_nodeAt 2 (some .int), Cond.methodLink RX3 204 yX1_placesOf, Cond.instanceMethod yX1_placesOf, Cond.selects RX1 yX1_placesOf yX1_placesOf, Cond.code yX1_placesOf cX1_placesOf 7 (some .int), Cond.methodLink RX1 107 Lib.Math.min.name, Cond.methodLink RX1 113 yX1_placesFor, Cond.static yX1_placesFor, Cond.code yX1_placesFor cX1_placesFor 1 (some .int), Cond.methodLink RX1 116 yX1_placeAt, Cond.instanceMethod yX1_placeAt, Cond.selects RX1 yX1_placeAt yX1_placeAt, Cond.code yX1_placeAt cX1_placeAt 5 (some .int), Cond.methodLink RX1 120 yX1_isData, Cond.instanceMethod yX1_isData, Cond.selects RX1 yX1_isData yX1_isData, Cond.code yX1_isData cX1_isData 2 (some .boolean), Cond.methodLink RX3 169 yX3_findRow, Cond.instanceMethod yX3_findRow]
def wsX11_erase_r11 : List Cond := [Cond.selects RX3 yX3_findRow yX3_findRow, Cond.code yX3_findRow cX3_findRow 5 (some .int), Cond.methodLink RX3 208 yX3_rowPlace, Cond.instanceMethod yX3_rowPlace, Cond.selects RX3 yX3_rowPlace yX3_rowPlace, Cond.code yX3_rowPlace cX3_rowPlace 4 (some .int), Cond.methodLink RX3 214 yX3_isCellsRow, Cond.instanceMethod yX3_isCellsRow, Cond.selects RX3 yX3_isCellsRow yX3_isCellsRow, Cond.code yX3_isCellsRow cX3_isCellsRow 5 (some .boolean), Cond.fieldLink RX3 28 "DiskEvidence$Maker" "letters" "[B", Cond.methodLink RX3 221 yX1_cellsName, Cond.static yX1_cellsName, Cond.code yX1_cellsName cX1_cellsName 6 (some .int), Cond.static yX11_lengthWithout, Cond.code yX11_lengthWithout cX11_lengthWithout 5 (some .int), Cond.static yX11_sameBytes, Cond.code yX11_sameBytes cX11_sameBytes 6 (some .boolean), Cond.methodLink RX3 218 yX3_isNodesRow, Cond.instanceMethod yX3_isNodesRow, Cond.selects RX3 yX3_isNodesRow yX3_isNodesRow, Cond.code yX3_isNodesRow cX3_isNodesRow 5 (some .boolean), Cond.methodLink RX3 225 yX1_isNode, Cond.instanceMethod yX1_isNode]
def wsX11_erase_r12 : List Cond := [Cond.selects RX1 yX1_isNode yX1_isNode, Cond.code yX1_isNode cX1_isNode 4 (some .boolean), Cond.methodLink RX1 100 yX1_nodeAt, Cond.methodLink RX3 175 yX3_isFolderRow, Cond.instanceMethod yX3_isFolderRow, Cond.selects RX3 yX3_isFolderRow yX3_isFolderRow, Cond.code yX3_isFolderRow cX3_isFolderRow 2 (some .boolean), Cond.methodLink RX3 94 yX3_eraseRow, Cond.instanceMethod yX3_eraseRow, Cond.selects RX3 yX3_eraseRow yX3_eraseRow, Cond.code yX3_eraseRow cX3_eraseRow 4 (some .int), Cond.methodLink RX3 320 yX3_hasLivingRows, Cond.instanceMethod yX3_hasLivingRows, Cond.selects RX3 yX3_hasLivingRows yX3_hasLivingRows, Cond.code yX3_hasLivingRows cX3_hasLivingRows 5 (some .boolean), Cond.methodLink RX3 252 yX3_dropChain, Cond.instanceMethod yX3_dropChain, Cond.selects RX3 yX3_dropChain yX3_dropChain, Cond.code yX3_dropChain cX3_dropChain 4 none, Cond.methodLink RX3 268 yX1_clusterOf, Cond.instanceMethod yX1_clusterOf, Cond.selects RX1 yX1_clusterOf yX1_clusterOf, Cond.code yX1_clusterOf cX1_clusterOf 2 (some .int), Cond.methodLink RX3 282 yX1_putCell]
def wsX11_erase_r13 : List Cond := [Cond.instanceMethod yX1_putCell, Cond.selects RX1 yX1_putCell yX1_putCell, Cond.code yX1_putCell cX1_putCell 5 none, Cond.static yX11_put16, Cond.code yX11_put16 cX11_put16 3 none, Cond.methodLink RX3 311 yX3_dropBlocks, Cond.instanceMethod yX3_dropBlocks, Cond.selects RX3 yX3_dropBlocks yX3_dropBlocks, Cond.code yX3_dropBlocks cX3_dropBlocks 4 none, Cond.methodLink RX3 131 yX1_putBit, Cond.static yX1_putBit, Cond.code yX1_putBit cX1_putBit 6 none, Cond.methodLink RX3 295 yX1_isData, Cond.static yX11_put32, Cond.code yX11_put32 cX11_put32 3 none, Cond.methodLink RX11 445 yX11_put16, Cond.methodLink RX3 98 yX3_store, Cond.instanceMethod yX3_store, Cond.selects RX3 yX3_store yX3_store, Cond.code yX3_store cX3_store 6 (some .int), Cond.methodLink RX3 236 yX3_freeRow, Cond.instanceMethod yX3_freeRow, Cond.selects RX3 yX3_freeRow yX3_freeRow, Cond.code yX3_freeRow cX3_freeRow 4 (some .int)]
def wsX11_erase_r14 : List Cond := [Cond.methodLink RX3 239 yX3_growCells, Cond.instanceMethod yX3_growCells, Cond.selects RX3 yX3_growCells yX3_growCells, Cond.code yX3_growCells cX3_growCells 2 (some .int), Cond.methodLink RX3 255 yX3_takeClusters, Cond.instanceMethod yX3_takeClusters, Cond.selects RX3 yX3_takeClusters yX3_takeClusters, Cond.code yX3_takeClusters cX3_takeClusters 4 (some .boolean), Cond.fieldLink RX3 285 "DiskEvidence$Form" "clusters" "I", Cond.constant RX3 294 (65535), Cond.methodLink RX3 288 yX1_cell, Cond.instanceMethod yX1_cell, Cond.selects RX1 yX1_cell yX1_cell, Cond.code yX1_cell cX1_cell 3 (some .int), Cond.methodLink RX3 291 yX1_clusterBlock, Cond.instanceMethod yX1_clusterBlock, Cond.selects RX1 yX1_clusterBlock yX1_clusterBlock, Cond.code yX1_clusterBlock cX1_clusterBlock 2 (some .int), Cond.methodLink RX3 242 yX3_growNode, Cond.instanceMethod yX3_growNode, Cond.selects RX3 yX3_growNode yX3_growNode, Cond.code yX3_growNode cX3_growNode 4 (some .int), Cond.methodLink RX3 298 yX3_takeBlock, Cond.instanceMethod yX3_takeBlock]
def wsX11_erase_r15 : List Cond := [Cond.selects RX3 yX3_takeBlock yX3_takeBlock, Cond.code yX3_takeBlock cX3_takeBlock 3 (some .int), Cond.fieldLink RX3 314 "DiskEvidence$Form" "data" "I", Cond.fieldLink RX3 317 "DiskEvidence$Form" "n" "I", Cond.methodLink RX3 308 yX3_takeBit, Cond.instanceMethod yX3_takeBit, Cond.selects RX3 yX3_takeBit yX3_takeBit, Cond.code yX3_takeBit cX3_takeBit 7 (some .int), Cond.methodLink RX3 301 yX1_placeAt, Cond.methodLink RX3 245 yX3_storeCells, Cond.instanceMethod yX3_storeCells, Cond.selects RX3 yX3_storeCells yX3_storeCells, Cond.code yX3_storeCells cX3_storeCells 5 (some .boolean), Cond.methodLink RX3 262 yX3_putCellsName, Cond.instanceMethod yX3_putCellsName, Cond.selects RX3 yX3_putCellsName yX3_putCellsName, Cond.code yX3_putCellsName cX3_putCellsName 3 none, Cond.methodLink RX3 265 yX3_cellsMoment, Cond.instanceMethod yX3_cellsMoment, Cond.selects RX3 yX3_cellsMoment yX3_cellsMoment, Cond.code yX3_cellsMoment cX3_cellsMoment 1 (some .int), Cond.constantLong RX3 271 (900), Cond.fieldLink RX3 273 "DiskEvidence$Form" "zone" "I", Cond.methodLink RX3 276 Lib.MathLoose.max_long.x]
def wsX11_erase_r16 : List Cond := [Cond.static Lib.MathLoose.max_long.x, Cond.code Lib.MathLoose.max_long.x Lib.MathLoose.max_long.code 4 (some .long), Cond.constantLong RX3 280 (2), Cond.methodLink RX3 249 yX3_storeNode, Cond.instanceMethod yX3_storeNode, Cond.selects RX3 yX3_storeNode yX3_storeNode, Cond.code yX3_storeNode cX3_storeNode 8 (some .boolean), Cond.fieldLink RX3 305 "DiskEvidence$Form" "nodes" "I", Cond.methodLink RX3 135 yX3_putNode, Cond.instanceMethod yX3_putNode, Cond.selects RX3 yX3_putNode yX3_putNode, Cond.code yX3_putNode cX3_putNode 4 none, Cond.methodLink RX3 102 yX3_writeChanges, Cond.instanceMethod yX3_writeChanges, Cond.selects RX3 yX3_writeChanges yX3_writeChanges, Cond.code yX3_writeChanges cX3_writeChanges 3 none, Cond.fieldLink RX3 18 "DiskEvidence$Maker" "rooms" "[B", Cond.static yX11_writeBlock, Cond.code yX11_writeBlock cX11_writeBlock 6 none, Cond.fieldLink RX11 494 "DiskEvidence$Volume" "kind" "I", Cond.fieldLink RX11 495 "DiskEvidence$Volume" "first" "LDiskEvidence$Volume;", Cond.fieldLink RX11 503 "DiskEvidence$Volume" "second" "LDiskEvidence$Volume;", Cond.methodLink RX11 491 yX5_storeSector, Cond.instanceMethod yX5_storeSector]
def wsX11_erase_r17 : List Cond := [Cond.selects RX5 yX5_storeSector yX5_storeSector, Cond.code yX5_storeSector cX5_storeSector 4 none, Cond.methodLink RX11 499 yX11_writeBlock, Cond.methodLink RX11 506 yX11_writeParity, Cond.static yX11_writeParity, Cond.code yX11_writeParity cX11_writeParity 8 none]
def wsX11_erase : List Cond := .code yX11_erase cX11_erase 3 (some .int) :: ((wsX11_erase_r1 ++ (wsX11_erase_r2 ++ (wsX11_erase_r3 ++ (wsX11_erase_r4 ++ (wsX11_erase_r5 ++ (wsX11_erase_r6 ++ (wsX11_erase_r7 ++ (wsX11_erase_r8 ++ (wsX11_erase_r9 ++ (wsX11_erase_r10 ++ (wsX11_erase_r11 ++ (wsX11_erase_r12 ++ (wsX11_erase_r13 ++ (wsX11_erase_r14 ++ (wsX11_erase_r15 ++ (wsX11_erase_r16 ++ wsX11_erase_r17)))))))))))))))) ++ wsX110 ++ wsX30 ++ wsX10 ++ wsX100 ++ wsX50)
def wsX11_mount_r1 : List Cond := [Cond.fieldLink RX11 188 "DiskEvidence" "treeCount" "I", Cond.fieldLink RX11 44 "DiskEvidence" "maker" "LDiskEvidence$Maker;", Cond.fieldLink RX11 195 "DiskEvidence$Maker" "form" "LDiskEvidence$Form;", Cond.fieldLink RX11 199 "DiskEvidence$Form" "kind" "I", Cond.classLink RX11 25 RX9, Cond.instantiable RX9 12, Cond.initialized RX9, Cond.fieldLink RX11 204 "DiskEvidence$Maker" "image" "[B", Cond.fieldLink RX11 159 "DiskEvidence$Volume" "size" "I", Cond.classLink RX11 216 RX7, Cond.instantiable RX7 8, Cond.initialized RX7, Cond.fieldLink RX11 221 "DiskEvidence$Tree" "form" "LDiskEvidence$Form;", Cond.fieldLink RX11 222 "DiskEvidence$Tree" "image" "[B", Cond.fieldLink RX11 27 "DiskEvidence" "trees" "[LDiskEvidence$Tree;", Cond.methodLink RX11 152 yX11_volumeAt, Cond.instanceMethod yX11_volumeAt, Cond.selects RX11 yX11_volumeAt yX11_volumeAt, Cond.initialized RX11, Cond.code yX11_volumeAt cX11_volumeAt 2 (some (.object "DiskEvidence$Volume")), Cond.fieldLink RX11 143 "DiskEvidence" "volumeCount" "I", Cond.fieldLink RX11 21 "DiskEvidence" "volumes" "[LDiskEvidence$Volume;", Cond.methodLink RX11 191 yX3_look, Cond.instanceMethod yX3_look]
def wsX11_mount_r2 : List Cond := [Cond.selects RX3 yX3_look yX3_look, Cond.initialized RX3, Cond.code yX3_look cX3_look 3 none, Cond.fieldLink RX3 44 "DiskEvidence$Volume" "size" "I", Cond.fieldLink RX3 9 "DiskEvidence$Maker" "image" "[B", Cond.fieldLink RX3 24 "DiskEvidence$Maker" "form" "LDiskEvidence$Form;", Cond.static yX11_readBlock, Cond.code yX11_readBlock cX11_readBlock 8 none, Cond.fieldLink RX11 464 "DiskEvidence$Volume" "base" "LDiskEvidence$Picture;", Cond.fieldLink RX11 468 "DiskEvidence$Volume" "begin" "I", Cond.methodLink RX11 442 yX11_clear, Cond.static yX11_clear, Cond.code yX11_clear cX11_clear 3 none, Cond.methodLink RX11 448 yJ7_fill_eb02e, Cond.static yJ7_fill_eb02e, Cond.initialized RJ7, Cond.code yJ7_fill_eb02e cJ7_fill_eb02e 5 none, Cond.methodLink RJ7 13 yJ7_rangeCheck_23922, Cond.static yJ7_rangeCheck_23922, Cond.code yJ7_rangeCheck_23922 cJ7_rangeCheck_23922 3 none, Cond.methodLink RX11 471 yX5_copySector, Cond.instanceMethod yX5_copySector, Cond.selects RX5 yX5_copySector yX5_copySector, Cond.initialized RX5]
def wsX11_mount_r3 : List Cond := [Cond.code yX5_copySector cX5_copySector 4 none, Cond.fieldLink RX5 18 "DiskEvidence$Picture" "sectorCount" "I", Cond.fieldLink RX5 26 "DiskEvidence$Picture" "spoilt" "[Z", Cond.fieldLink RX5 22 "DiskEvidence$Picture" "bytes" "[B", Cond.methodLink RX5 42 arraycopyName, Cond.native arraycopyName, Cond.static arraycopyName, Cond.initialized "java/lang/System", Cond.methodLink RX11 475 yX10_home, Cond.instanceMethod yX10_home, Cond.selects RX10 yX10_home yX10_home, Cond.initialized RX10, Cond.code yX10_home cX10_home 5 (some (.object "DiskEvidence$Volume")), Cond.fieldLink RX10 9 "DiskEvidence$Volume" "kind" "I", Cond.fieldLink RX10 35 "DiskEvidence$Volume" "third" "LDiskEvidence$Volume;", Cond.fieldLink RX10 28 "DiskEvidence$Volume" "first" "LDiskEvidence$Volume;", Cond.fieldLink RX10 15 "DiskEvidence$Volume" "size" "I", Cond.fieldLink RX10 32 "DiskEvidence$Volume" "second" "LDiskEvidence$Volume;", Cond.methodLink RX11 478 yX10_homeBlock, Cond.instanceMethod yX10_homeBlock, Cond.selects RX10 yX10_homeBlock yX10_homeBlock, Cond.code yX10_homeBlock cX10_homeBlock 2 (some .int), Cond.methodLink RX11 481 yX11_xorBlock, Cond.static yX11_xorBlock]
def wsX11_mount_r4 : List Cond := [Cond.code yX11_xorBlock cX11_xorBlock 7 none, Cond.methodLink RX11 485 yX5_xorSector, Cond.instanceMethod yX5_xorSector, Cond.selects RX5 yX5_xorSector yX5_xorSector, Cond.code yX5_xorSector cX5_xorSector 5 none, Cond.methodLink RX11 488 yX10_member, Cond.instanceMethod yX10_member, Cond.selects RX10 yX10_member yX10_member, Cond.code yX10_member cX10_member 2 (some (.object "DiskEvidence$Volume")), Cond.methodLink RX3 54 yX1_readFrom, Cond.instanceMethod yX1_readFrom, Cond.selects RX1 yX1_readFrom yX1_readFrom, Cond.initialized RX1, Cond.code yX1_readFrom cX1_readFrom 3 none, Cond.fieldLink RX1 18 "DiskEvidence$Form" "kind" "I", Cond.fieldLink RX1 36 "DiskEvidence$Form" "n" "I", Cond.methodLink RX1 22 yX1_readCells, Cond.instanceMethod yX1_readCells, Cond.selects RX1 yX1_readCells yX1_readCells, Cond.code yX1_readCells cX1_readCells 3 (some .boolean), Cond.fieldLink RX1 47 "DiskEvidence$Form" "tables" "I", Cond.fieldLink RX1 50 "DiskEvidence$Form" "tableBlocks" "I", Cond.fieldLink RX1 56 "DiskEvidence$Form" "rootBlocks" "I", Cond.fieldLink RX1 59 "DiskEvidence$Form" "zone" "I"]
def wsX11_mount_r5 : List Cond := [Cond.fieldLink RX1 62 "DiskEvidence$Form" "firstCluster" "I", Cond.fieldLink RX1 65 "DiskEvidence$Form" "clusters" "I", Cond.static yX11_u8, Cond.code yX11_u8 cX11_u8 2 (some .int), Cond.static yX11_u16, Cond.code yX11_u16 cX11_u16 2 (some .int), Cond.methodLink RX1 26 yX1_readNodes, Cond.instanceMethod yX1_readNodes, Cond.selects RX1 yX1_readNodes yX1_readNodes, Cond.code yX1_readNodes cX1_readNodes 3 (some .boolean), Cond.fieldLink RX1 68 "DiskEvidence$Form" "nodes" "I", Cond.fieldLink RX1 71 "DiskEvidence$Form" "data" "I", Cond.static yX11_isZero, Cond.code yX11_isZero cX11_isZero 4 (some .boolean), Cond.methodLink RX11 169 yX11_u8, Cond.methodLink RX1 33 yX1_isHeader, Cond.static yX1_isHeader, Cond.code yX1_isHeader cX1_isHeader 4 (some .boolean), Cond.methodLink RX1 123 yX1_octal, Cond.static yX1_octal, Cond.code yX1_octal cX1_octal 7 (some .long), Cond.constantLong RX1 130 (-1), Cond.constantLong RX1 132 (8), Cond.constantLong RX1 134 (48)]
def wsX11_mount_r6 : List Cond := [Cond.methodLink RX1 127 yX1_sumOf, Cond.static yX1_sumOf, Cond.code yX1_sumOf cX1_sumOf 4 (some .int), Cond.methodLink RX1 39 yX1_readHeaders, Cond.instanceMethod yX1_readHeaders, Cond.selects RX1 yX1_readHeaders yX1_readHeaders, Cond.code yX1_readHeaders cX1_readHeaders 4 none, Cond.fieldLink RX1 139 "DiskEvidence$Form" "headerCount" "I", Cond.fieldLink RX1 142 "DiskEvidence$Form" "tapeFault" "I", Cond.fieldLink RX1 145 "DiskEvidence$Form" "tapeEnd" "I", Cond.fieldLink RX1 9 "DiskEvidence$Form" "headers" "[I", Cond.methodLink RX1 148 yX1_tapeBlocks, Cond.static yX1_tapeBlocks, Cond.code yX1_tapeBlocks cX1_tapeBlocks 3 (some .int), Cond.static yX11_blocksFor, Cond.code yX11_blocksFor cX11_blocksFor 1 (some .int), Cond.methodLink RX11 207 yJ7_copyOf_9075b, Cond.static yJ7_copyOf_9075b, Cond.code yJ7_copyOf_9075b cJ7_copyOf_9075b 3 (some (.array .byte)), Cond.methodLink RJ7 310 ⟨"[B", "clone", "()Ljava/lang/Object;"⟩, Cond.sameMethod "[B" "java/lang/Object" "clone" "()Ljava/lang/Object;", Cond.native ⟨"java/lang/Object", "clone", "()Ljava/lang/Object;"⟩, Cond.instanceMethod ⟨"java/lang/Object", "clone", "()Ljava/lang/Object;"⟩, Cond.selects "[B" ⟨"[B", "clone", "()Ljava/lang/Object;"⟩ ⟨"java/lang/Object", "clone", "()Ljava/lang/Object;"⟩]
def wsX11_mount_r7 : List Cond := [Cond.classLink RJ7 311 "[B", Cond.arrayClass .byte, Cond.methodLink RJ7 304 Lib.Math.min.name, Cond.static Lib.Math.min.name, Cond.initialized "java/lang/Math", Cond.code Lib.Math.min.name Lib.Math.min.code 2 (some .int), Cond.methodLink RJ7 150 arraycopyName, Cond.methodLink RX11 213 yX9_init, Cond.instanceMethod yX9_init, Cond.code yX9_init cX9_init 4 none, Cond.methodLink RX9 3 objectInit, Cond.instanceMethod objectInit, Cond.code objectInit ⟨#[0xb1]⟩ 1 none, Cond.classLink RX9 9 RX1, Cond.instantiable RX1 18, Cond.fieldLink RX9 12 "DiskEvidence$Tree" "form" "LDiskEvidence$Form;", Cond.classLink RX9 18 RX2, Cond.fieldLink RX9 20 "DiskEvidence$Tree" "items" "[LDiskEvidence$Item;", Cond.arrayClass .int, Cond.fieldLink RX9 24 "DiskEvidence$Tree" "faults" "[I", Cond.fieldLink RX9 28 "DiskEvidence$Tree" "image" "[B", Cond.fieldLink RX9 32 "DiskEvidence$Tree" "volumeNumber" "I", Cond.fieldLink RX9 36 "DiskEvidence$Tree" "owners" "[I", Cond.instanceMethod yX1_init]
def wsX11_mount_r8 : List Cond := [Cond.code yX1_init cX1_init 1 none, Cond.methodLink RX1 3 objectInit, Cond.fieldLink RX1 15 "DiskEvidence$Form" "seen" "[I", Cond.methodLink RX11 218 yX7_init, Cond.instanceMethod yX7_init, Cond.code yX7_init cX7_init 2 none, Cond.methodLink RX7 3 objectInit, Cond.classLink RX7 9 RX2, Cond.fieldLink RX7 11 "DiskEvidence$Reader" "erased" "[LDiskEvidence$Item;", Cond.arrayClass .boolean, Cond.fieldLink RX7 17 "DiskEvidence$Reader" "walked" "[Z", Cond.fieldLink RX7 21 "DiskEvidence$Reader" "room" "[I", Cond.fieldLink RX7 25 "DiskEvidence$Reader" "letters" "[B", Cond.fieldLink RX7 29 "DiskEvidence$Reader" "tree" "LDiskEvidence$Tree;", Cond.fieldLink RX7 33 "DiskEvidence$Tree" "form" "LDiskEvidence$Form;", Cond.fieldLink RX7 39 "DiskEvidence$Reader" "form" "LDiskEvidence$Form;", Cond.fieldLink RX7 40 "DiskEvidence$Tree" "image" "[B", Cond.fieldLink RX7 43 "DiskEvidence$Reader" "image" "[B", Cond.methodLink RX11 223 yX1_readFrom, Cond.methodLink RX11 227 yX7_readCells, Cond.instanceMethod yX7_readCells, Cond.selects RX7 yX7_readCells yX7_readCells, Cond.code yX7_readCells cX7_readCells 5 none, Cond.fieldLink RX7 77 "DiskEvidence$Form" "firstCluster" "I"]
def wsX11_mount_r9 : List Cond := [Cond.fieldLink RX7 87 "DiskEvidence$Form" "rootBlocks" "I", Cond.fieldLink RX7 94 "DiskEvidence$Form" "clusters" "I", Cond.fieldLink RX7 108 "DiskEvidence$Tree" "total" "I", Cond.fieldLink RX7 111 "DiskEvidence$Tree" "living" "I", Cond.methodLink RX7 71 yX1_rootBlock, Cond.instanceMethod yX1_rootBlock, Cond.selects RX1 yX1_rootBlock yX1_rootBlock, Cond.code yX1_rootBlock cX1_rootBlock 1 (some .int), Cond.methodLink RX7 80 yX9_own, Cond.instanceMethod yX9_own, Cond.selects RX9 yX9_own yX9_own, Cond.code yX9_own cX9_own 3 none, Cond.methodLink RX7 84 yX7_compareTables, Cond.instanceMethod yX7_compareTables, Cond.selects RX7 yX7_compareTables yX7_compareTables, Cond.code yX7_compareTables cX7_compareTables 3 none, Cond.fieldLink RX7 117 "DiskEvidence$Form" "tableBlocks" "I", Cond.fieldLink RX7 120 "DiskEvidence$Form" "tables" "I", Cond.methodLink RX7 104 yX1_cell, Cond.instanceMethod yX1_cell, Cond.selects RX1 yX1_cell yX1_cell, Cond.code yX1_cell cX1_cell 3 (some .int), Cond.methodLink RX7 126 yX9_addFault, Cond.instanceMethod yX9_addFault]
def wsX11_mount_r10 : List Cond := [Cond.selects RX9 yX9_addFault yX9_addFault, Cond.code yX9_addFault cX9_addFault 4 none, Cond.fieldLink RX9 64 "DiskEvidence$Tree" "total" "I", Cond.fieldLink RX9 67 "DiskEvidence$Item" "faults" "I", Cond.fieldLink RX9 51 "DiskEvidence$Tree" "faultCount" "I", Cond.methodLink RX7 90 yX7_walkCells, Cond.instanceMethod yX7_walkCells, Cond.selects RX7 yX7_walkCells yX7_walkCells, Cond.code yX7_walkCells cX7_walkCells 7 none, Cond.fieldLink RX7 60 "DiskEvidence$Reader" "erasedCount" "I", Cond.methodLink RX7 133 yX7_meetCells, Cond.instanceMethod yX7_meetCells, Cond.selects RX7 yX7_meetCells yX7_meetCells, Cond.methodLink RX7 136 yX7_erasedCells, Cond.instanceMethod yX7_erasedCells, Cond.selects RX7 yX7_erasedCells yX7_erasedCells, Cond.code yX7_erasedCells cX7_erasedCells 10 (some (.object "DiskEvidence$Item")), Cond.fieldLink RX7 164 "DiskEvidence$Item" "letters" "[B", Cond.fieldLink RX7 204 "DiskEvidence$Item" "told" "J", Cond.constantLong RX7 213 (64), Cond.fieldLink RX7 187 "DiskEvidence$Item" "blocks" "[I", Cond.fieldLink RX7 174 "DiskEvidence$Item" "grade" "I", Cond.methodLink RX7 171 yX7_cellsItem, Cond.instanceMethod yX7_cellsItem]
def wsX11_mount_r11 : List Cond := [Cond.selects RX7 yX7_cellsItem yX7_cellsItem, Cond.code yX7_cellsItem cX7_cellsItem 6 (some (.object "DiskEvidence$Item")), Cond.instantiable RX2 15, Cond.initialized RX2, Cond.fieldLink RX7 150 "DiskEvidence$Item" "made" "J", Cond.fieldLink RX7 154 "DiskEvidence$Item" "altered" "J", Cond.fieldLink RX7 165 "DiskEvidence$Item" "parent" "I", Cond.fieldLink RX7 168 "DiskEvidence$Item" "depth" "I", Cond.static yX11_u32, Cond.code yX11_u32 cX11_u32 2 (some .int), Cond.static yX11_unsigned, Cond.code yX11_unsigned cX11_unsigned 1 (some .long), Cond.constantLong RX11 135 (4294967295), Cond.methodLink RX7 147 yX2_init, Cond.instanceMethod yX2_init, Cond.code yX2_init cX2_init 5 none, Cond.methodLink RX2 3 objectInit, Cond.fieldLink RX2 9 "DiskEvidence$Item" "parent" "I", Cond.constantLong RX2 15 (-1), Cond.fieldLink RX2 17 "DiskEvidence$Item" "made" "J", Cond.fieldLink RX2 21 "DiskEvidence$Item" "altered" "J", Cond.fieldLink RX2 24 "DiskEvidence$Item" "erased" "J", Cond.fieldLink RX2 31 "DiskEvidence$Item" "letters" "[B", Cond.fieldLink RX2 38 "DiskEvidence$Item" "blocks" "[I"]
def wsX11_mount_r12 : List Cond := [Cond.fieldLink RX2 41 "DiskEvidence$Item" "sort" "I", Cond.fieldLink RX2 44 "DiskEvidence$Item" "kind" "I", Cond.fieldLink RX2 47 "DiskEvidence$Item" "told" "J", Cond.methodLink RX7 157 yX1_cellsName, Cond.static yX1_cellsName, Cond.code yX1_cellsName cX1_cellsName 6 (some .int), Cond.static yX11_lengthWithout, Cond.code yX11_lengthWithout cX11_lengthWithout 5 (some .int), Cond.static yX11_put8, Cond.code yX11_put8 cX11_put8 3 none, Cond.methodLink RX7 161 yX7_bytesOf, Cond.static yX7_bytesOf, Cond.code yX7_bytesOf cX7_bytesOf 3 (some (.array .byte)), Cond.methodLink RX7 56 yJ7_copyOfRange_39247, Cond.static yJ7_copyOfRange_39247, Cond.code yJ7_copyOfRange_39247 cJ7_copyOfRange_39247 3 (some (.array .byte)), Cond.methodLink RJ7 339 yJ7_copyOfRangeByte_39247, Cond.static yJ7_copyOfRangeByte_39247, Cond.code yJ7_copyOfRangeByte_39247 cJ7_copyOfRangeByte_39247 5 (some (.array .byte)), Cond.methodLink RJ7 343 yJ7_checkLength_df160, Cond.static yJ7_checkLength_df160, Cond.code yJ7_checkLength_df160 cJ7_checkLength_df160 2 none, Cond.methodLink RX7 215 yX1_isCluster, Cond.instanceMethod yX1_isCluster]
def wsX11_mount_r13 : List Cond := [Cond.selects RX1 yX1_isCluster yX1_isCluster, Cond.code yX1_isCluster cX1_isCluster 2 (some .boolean), Cond.methodLink RX7 97 yX1_clusterBlock, Cond.instanceMethod yX1_clusterBlock, Cond.selects RX1 yX1_clusterBlock yX1_clusterBlock, Cond.code yX1_clusterBlock cX1_clusterBlock 2 (some .int), Cond.methodLink RX7 184 yX7_firstOf, Cond.static yX7_firstOf, Cond.code yX7_firstOf cX7_firstOf 2 (some (.array .int)), Cond.methodLink RX7 47 yJ7_copyOf_59c91, Cond.static yJ7_copyOf_59c91, Cond.code yJ7_copyOf_59c91 cJ7_copyOf_59c91 3 (some (.array .int)), Cond.methodLink RJ7 316 ⟨"[I", "clone", "()Ljava/lang/Object;"⟩, Cond.sameMethod "[I" "java/lang/Object" "clone" "()Ljava/lang/Object;", Cond.selects "[I" ⟨"[I", "clone", "()Ljava/lang/Object;"⟩ ⟨"java/lang/Object", "clone", "()Ljava/lang/Object;"⟩, Cond.classLink RJ7 317 "[I", Cond.methodLink RX7 200 yX2_endIn, Cond.instanceMethod yX2_endIn, Cond.selects RX2 yX2_endIn yX2_endIn, Cond.code yX2_endIn cX2_endIn 2 none, Cond.fieldLink RX2 50 "DiskEvidence$Item" "size" "I", Cond.code yX7_meetCells cX7_meetCells 7 none, Cond.fieldLink RX7 177 "DiskEvidence$Tree" "owners" "[I", Cond.fieldLink RX7 190 "DiskEvidence$Form" "stop" "I"]
def wsX11_mount_r14 : List Cond := [Cond.fieldLink RX7 193 "DiskEvidence$Form" "stopAt" "I", Cond.fieldLink RX7 207 "DiskEvidence$Item" "size" "I", Cond.methodLink RX7 64 yX9_add, Cond.instanceMethod yX9_add, Cond.selects RX9 yX9_add yX9_add, Cond.code yX9_add cX9_add 2 (some .int), Cond.methodLink RX7 180 yX1_follow, Cond.instanceMethod yX1_follow, Cond.selects RX1 yX1_follow yX1_follow, Cond.code yX1_follow cX1_follow 10 (some .int), Cond.fieldLink RX1 78 "DiskEvidence$Form" "stop" "I", Cond.fieldLink RX1 81 "DiskEvidence$Form" "followed" "I", Cond.fieldLink RX1 84 "DiskEvidence$Form" "stopAt" "I", Cond.constant RX1 91 (65527), Cond.constant RX1 92 (65528), Cond.methodLink RX1 87 yX1_isCluster, Cond.methodLink RX7 196 yX2_isFolder, Cond.instanceMethod yX2_isFolder, Cond.selects RX2 yX2_isFolder yX2_isFolder, Cond.code yX2_isFolder cX2_isFolder 1 (some .boolean), Cond.methodLink RX7 210 yX2_blockAt, Cond.instanceMethod yX2_blockAt, Cond.selects RX2 yX2_blockAt yX2_blockAt, Cond.code yX2_blockAt cX2_blockAt 2 (some .int)]
def wsX11_mount_r15 : List Cond := [Cond.methodLink RX7 101 yX9_ownerOf, Cond.instanceMethod yX9_ownerOf, Cond.selects RX9 yX9_ownerOf yX9_ownerOf, Cond.code yX9_ownerOf cX9_ownerOf 2 (some .int), Cond.methodLink RX7 114 yX7_addErased, Cond.instanceMethod yX7_addErased, Cond.selects RX7 yX7_addErased yX7_addErased, Cond.code yX7_addErased cX7_addErased 2 none, Cond.fieldLink RX7 68 "DiskEvidence$Tree" "lost" "I", Cond.methodLink RX11 230 yX7_readNodes, Cond.instanceMethod yX7_readNodes, Cond.selects RX7 yX7_readNodes yX7_readNodes, Cond.code yX7_readNodes cX7_readNodes 5 none, Cond.fieldLink RX7 219 "DiskEvidence$Form" "data" "I", Cond.fieldLink RX7 239 "DiskEvidence$Form" "nodes" "I", Cond.methodLink RX7 222 yX1_nodeAt, Cond.instanceMethod yX1_nodeAt, Cond.selects RX1 yX1_nodeAt yX1_nodeAt, Cond.code yX1_nodeAt cX1_nodeAt 2 (some .int), Cond.methodLink RX7 225 yX1_placesOf, Cond.instanceMethod yX1_placesOf, Cond.selects RX1 yX1_placesOf yX1_placesOf, Cond.code yX1_placesOf cX1_placesOf 7 (some .int), Cond.methodLink RX1 107 Lib.Math.min.name]
def wsX11_mount_r16 : List Cond := [Cond.methodLink RX1 113 yX1_placesFor, Cond.static yX1_placesFor, Cond.code yX1_placesFor cX1_placesFor 1 (some .int), Cond.methodLink RX1 116 yX1_placeAt, Cond.instanceMethod yX1_placeAt, Cond.selects RX1 yX1_placeAt yX1_placeAt, Cond.code yX1_placeAt cX1_placeAt 5 (some .int), Cond.methodLink RX1 120 yX1_isData, Cond.instanceMethod yX1_isData, Cond.selects RX1 yX1_isData yX1_isData, Cond.code yX1_isData cX1_isData 2 (some .boolean), Cond.methodLink RX7 229 yX1_isData, Cond.methodLink RX7 232 yX7_walkNodes, Cond.instanceMethod yX7_walkNodes, Cond.selects RX7 yX7_walkNodes yX7_walkNodes, Cond.code yX7_walkNodes cX7_walkNodes 8 none, Cond.methodLink RX7 250 yX1_isNode, Cond.instanceMethod yX1_isNode, Cond.selects RX1 yX1_isNode yX1_isNode, Cond.code yX1_isNode cX1_isNode 4 (some .boolean), Cond.methodLink RX1 100 yX1_nodeAt, Cond.methodLink RX7 253 yX7_meetNode, Cond.instanceMethod yX7_meetNode, Cond.selects RX7 yX7_meetNode yX7_meetNode]
def wsX11_mount_r17 : List Cond := [Cond.code yX7_meetNode cX7_meetNode 8 none, Cond.methodLink RX7 259 yX7_nodeItem, Cond.instanceMethod yX7_nodeItem, Cond.selects RX7 yX7_nodeItem yX7_nodeItem, Cond.code yX7_nodeItem cX7_nodeItem 4 (some (.object "DiskEvidence$Item")), Cond.fieldLink RX7 257 "DiskEvidence$Item" "erased" "J", Cond.methodLink RX7 267 yX7_ownPlaces, Cond.instanceMethod yX7_ownPlaces, Cond.selects RX7 yX7_ownPlaces yX7_ownPlaces, Cond.code yX7_ownPlaces cX7_ownPlaces 6 none, Cond.methodLink RX7 271 yX7_ownBlock, Cond.instanceMethod yX7_ownBlock, Cond.selects RX7 yX7_ownBlock yX7_ownBlock, Cond.code yX7_ownBlock cX7_ownBlock 4 none, Cond.methodLink RX7 274 yX1_placeAt, Cond.methodLink RX7 236 yX7_compareMap, Cond.instanceMethod yX7_compareMap, Cond.selects RX7 yX7_compareMap yX7_compareMap, Cond.code yX7_compareMap cX7_compareMap 4 none, Cond.fieldLink RX7 278 "DiskEvidence$Form" "n" "I", Cond.methodLink RX7 281 yX1_hasBit, Cond.static yX1_hasBit, Cond.code yX1_hasBit cX1_hasBit 3 (some .boolean), Cond.methodLink RX7 242 yX1_isErased]
def wsX11_mount_r18 : List Cond := [Cond.instanceMethod yX1_isErased, Cond.selects RX1 yX1_isErased yX1_isErased, Cond.code yX1_isErased cX1_isErased 3 (some .boolean), Cond.methodLink RX7 246 yX7_erasedNode, Cond.instanceMethod yX7_erasedNode, Cond.selects RX7 yX7_erasedNode yX7_erasedNode, Cond.code yX7_erasedNode cX7_erasedNode 5 (some (.object "DiskEvidence$Item")), Cond.methodLink RX7 285 yX7_numbered, Cond.instanceMethod yX7_numbered, Cond.selects RX7 yX7_numbered yX7_numbered, Cond.code yX7_numbered cX7_numbered 5 (some (.array .byte)), Cond.methodLink RX7 289 yX7_isSafe, Cond.instanceMethod yX7_isSafe, Cond.selects RX7 yX7_isSafe yX7_isSafe, Cond.code yX7_isSafe cX7_isSafe 8 (some .boolean), Cond.methodLink RX7 293 yX7_hasPlace, Cond.instanceMethod yX7_hasPlace, Cond.selects RX7 yX7_hasPlace yX7_hasPlace, Cond.code yX7_hasPlace cX7_hasPlace 6 (some .boolean), Cond.methodLink RX7 296 yX1_placesFor, Cond.methodLink RX11 233 yX7_readTape, Cond.instanceMethod yX7_readTape, Cond.selects RX7 yX7_readTape yX7_readTape, Cond.code yX7_readTape cX7_readTape 2 none]
def wsX11_mount_r19 : List Cond := [Cond.fieldLink RX7 303 "DiskEvidence$Form" "headerCount" "I", Cond.fieldLink RX7 306 "DiskEvidence$Form" "headers" "[I", Cond.fieldLink RX7 315 "DiskEvidence$Form" "tapeFault" "I", Cond.fieldLink RX7 318 "DiskEvidence$Form" "tapeEnd" "I", Cond.methodLink RX7 309 yX7_comesAgain, Cond.instanceMethod yX7_comesAgain, Cond.selects RX7 yX7_comesAgain yX7_comesAgain, Cond.code yX7_comesAgain cX7_comesAgain 4 (some .boolean), Cond.static yX11_sameBytes, Cond.code yX11_sameBytes cX11_sameBytes 6 (some .boolean), Cond.methodLink RX7 312 yX7_meetEntry, Cond.instanceMethod yX7_meetEntry, Cond.selects RX7 yX7_meetEntry yX7_meetEntry, Cond.code yX7_meetEntry cX7_meetEntry 8 none, Cond.methodLink RX7 332 Lib.Math.min.name, Cond.methodLink RX7 325 yX1_octal, Cond.methodLink RX7 329 yX1_tapeBlocks, Cond.methodLink RX7 338 yX7_blocksFrom, Cond.static yX7_blocksFrom, Cond.code yX7_blocksFrom cX7_blocksFrom 4 (some (.array .int)), Cond.methodLink RX11 236 yX7_cutOut, Cond.instanceMethod yX7_cutOut, Cond.selects RX7 yX7_cutOut yX7_cutOut, Cond.code yX7_cutOut cX7_cutOut 6 none]
def wsX11_mount_r20 : List Cond := [Cond.classLink RX7 342 RX4, Cond.instantiable RX4 10, Cond.initialized RX4, Cond.fieldLink RX7 346 "DiskEvidence$Tree" "cut" "I", Cond.methodLink RX7 344 yX4_init, Cond.instanceMethod yX4_init, Cond.code yX4_init cX4_init 4 none, Cond.methodLink RX4 3 objectInit, Cond.fieldLink RX4 13 "DiskEvidence$Opening" "source" "[B", Cond.fieldLink RX4 18 "DiskEvidence$Opening" "treeNumber" "I", Cond.fieldLink RX4 22 "DiskEvidence$Opening" "fileNumber" "I", Cond.methodLink RX4 25 Lib.Math.max.name, Cond.static Lib.Math.max.name, Cond.code Lib.Math.max.name Lib.Math.max.code 2 (some .int), Cond.fieldLink RX4 31 "DiskEvidence$Opening" "facts" "[I", Cond.methodLink RX7 349 yX9_runEnd, Cond.instanceMethod yX9_runEnd, Cond.selects RX9 yX9_runEnd yX9_runEnd, Cond.code yX9_runEnd cX9_runEnd 3 (some .int), Cond.methodLink RX9 69 Lib.Math.max.name, Cond.methodLink RX7 352 yX4_wholeSize, Cond.instanceMethod yX4_wholeSize, Cond.selects RX4 yX4_wholeSize yX4_wholeSize, Cond.code yX4_wholeSize cX4_wholeSize 5 (some .int)]
def wsX11_mount_r21 : List Cond := [Cond.fieldLink RX4 57 "DiskEvidence$Opening" "broken" "Z", Cond.fieldLink RX4 61 "DiskEvidence$Opening" "place" "I", Cond.methodLink RX4 43 yX4_formatOf, Cond.static yX4_formatOf, Cond.code yX4_formatOf cX4_formatOf 3 (some .int), Cond.constant RX4 39 (172508041), Cond.methodLink RX4 47 yX4_start, Cond.instanceMethod yX4_start, Cond.selects RX4 yX4_start yX4_start, Cond.code yX4_start cX4_start 4 none, Cond.fieldLink RX4 77 "DiskEvidence$Opening" "begin" "I", Cond.fieldLink RX4 64 "DiskEvidence$Opening" "length" "I", Cond.fieldLink RX4 74 "DiskEvidence$Opening" "nodeCount" "I", Cond.methodLink RX4 51 yX4_parsePieces, Cond.instanceMethod yX4_parsePieces, Cond.selects RX4 yX4_parsePieces yX4_parsePieces, Cond.code yX4_parsePieces cX4_parsePieces 4 none, Cond.constant RX4 97 (1229278788), Cond.methodLink RX4 87 yX4_pieceEnd, Cond.instanceMethod yX4_pieceEnd, Cond.selects RX4 yX4_pieceEnd yX4_pieceEnd, Cond.code yX4_pieceEnd cX4_pieceEnd 4 (some .int), Cond.methodLink RX4 83 yX4_at8, Cond.instanceMethod yX4_at8]
def wsX11_mount_r22 : List Cond := [Cond.selects RX4 yX4_at8 yX4_at8, Cond.code yX4_at8 cX4_at8 3 (some .int), Cond.methodLink RX4 90 yX4_highestFirst, Cond.instanceMethod yX4_highestFirst, Cond.selects RX4 yX4_highestFirst yX4_highestFirst, Cond.code yX4_highestFirst cX4_highestFirst 2 (some .int), Cond.methodLink RX4 93 yX4_addPiece, Cond.instanceMethod yX4_addPiece, Cond.selects RX4 yX4_addPiece yX4_addPiece, Cond.code yX4_addPiece cX4_addPiece 6 none, Cond.constant RX4 98 (1950960965), Cond.methodLink RX4 67 yX4_addNode, Cond.instanceMethod yX4_addNode, Cond.selects RX4 yX4_addNode yX4_addNode, Cond.code yX4_addNode cX4_addNode 7 (some .int), Cond.static yX11_crcOf, Cond.code yX11_crcOf cX11_crcOf 5 (some .int), Cond.methodLink RX11 131 yX11_crcStep, Cond.static yX11_crcStep, Cond.code yX11_crcStep cX11_crcStep 3 (some .int), Cond.fieldLink RX11 452 "DiskEvidence" "CRC_STEPS" "[I", Cond.methodLink RX4 54 yX4_parsePack, Cond.instanceMethod yX4_parsePack, Cond.selects RX4 yX4_parsePack yX4_parsePack]
def wsX11_mount_r23 : List Cond := [Cond.code yX4_parsePack cX4_parsePack 6 none, Cond.methodLink RX4 102 yX4_isMarked, Cond.instanceMethod yX4_isMarked, Cond.selects RX4 yX4_isMarked yX4_isMarked, Cond.code yX4_isMarked cX4_isMarked 4 (some .boolean), Cond.methodLink RX4 106 yX4_entryEnd, Cond.instanceMethod yX4_entryEnd, Cond.selects RX4 yX4_entryEnd yX4_entryEnd, Cond.code yX4_entryEnd cX4_entryEnd 5 (some .int), Cond.methodLink RX4 116 yX4_at16, Cond.instanceMethod yX4_at16, Cond.selects RX4 yX4_at16 yX4_at16, Cond.code yX4_at16 cX4_at16 2 (some .int), Cond.methodLink RX4 109 yX4_addEntry, Cond.instanceMethod yX4_addEntry, Cond.selects RX4 yX4_addEntry yX4_addEntry, Cond.code yX4_addEntry cX4_addEntry 6 none, Cond.methodLink RX4 113 yX4_packRowEnd, Cond.instanceMethod yX4_packRowEnd, Cond.selects RX4 yX4_packRowEnd yX4_packRowEnd, Cond.code yX4_packRowEnd cX4_packRowEnd 5 (some .int)]
def wsX11_mount : List Cond := .code yX11_mount cX11_mount 5 (some .int) :: ((wsX11_mount_r1 ++ (wsX11_mount_r2 ++ (wsX11_mount_r3 ++ (wsX11_mount_r4 ++ (wsX11_mount_r5 ++ (wsX11_mount_r6 ++ (wsX11_mount_r7 ++ (wsX11_mount_r8 ++ (wsX11_mount_r9 ++ (wsX11_mount_r10 ++ (wsX11_mount_r11 ++ (wsX11_mount_r12 ++ (wsX11_mount_r13 ++ (wsX11_mount_r14 ++ (wsX11_mount_r15 ++ (wsX11_mount_r16 ++ (wsX11_mount_r17 ++ (wsX11_mount_r18 ++ (wsX11_mount_r19 ++ (wsX11_mount_r20 ++ (wsX11_mount_r21 ++ (wsX11_mount_r22 ++ wsX11_mount_r23)))))))))))))))))))))) ++ wsX110 ++ wsX30 ++ wsX10 ++ wsX90 ++ wsX100 ++ wsX70 ++ wsX50 ++ wsX20 ++ wsX40)
def wsX11_treeAt : List Cond := .code yX11_treeAt cX11_treeAt 2 (some (.object "DiskEvidence$Tree")) :: ([.fieldLink RX11 188 "DiskEvidence" "treeCount" "I", .fieldLink RX11 27 "DiskEvidence" "trees" "[LDiskEvidence$Tree;"] ++ wsX110)
def wsX11_tree_r1 : List Cond := [Cond.methodLink RX11 239 yX11_treeAt, Cond.instanceMethod yX11_treeAt, Cond.selects RX11 yX11_treeAt yX11_treeAt, Cond.initialized RX11, Cond.code yX11_treeAt cX11_treeAt 2 (some (.object "DiskEvidence$Tree")), Cond.fieldLink RX11 188 "DiskEvidence" "treeCount" "I", Cond.fieldLink RX11 27 "DiskEvidence" "trees" "[LDiskEvidence$Tree;", Cond.methodLink RX11 243 yX9_fact, Cond.instanceMethod yX9_fact, Cond.selects RX9 yX9_fact yX9_fact, Cond.initialized RX9, Cond.code yX9_fact cX9_fact 2 (some .int), Cond.fieldLink RX9 12 "DiskEvidence$Tree" "form" "LDiskEvidence$Form;", Cond.fieldLink RX9 39 "DiskEvidence$Form" "kind" "I", Cond.fieldLink RX9 42 "DiskEvidence$Tree" "living" "I", Cond.fieldLink RX9 45 "DiskEvidence$Tree" "lost" "I", Cond.fieldLink RX9 48 "DiskEvidence$Tree" "cut" "I", Cond.fieldLink RX9 51 "DiskEvidence$Tree" "faultCount" "I", Cond.fieldLink RX9 54 "DiskEvidence$Form" "n" "I", Cond.fieldLink RX9 32 "DiskEvidence$Tree" "volumeNumber" "I", Cond.fieldLink RX9 57 "DiskEvidence$Tree" "within" "I", Cond.methodLink RX9 60 yX9_freeRuns, Cond.instanceMethod yX9_freeRuns, Cond.selects RX9 yX9_freeRuns yX9_freeRuns]
def wsX11_tree_r2 : List Cond := [Cond.code yX9_freeRuns cX9_freeRuns 3 (some .int), Cond.fieldLink RX9 36 "DiskEvidence$Tree" "owners" "[I"]
def wsX11_tree : List Cond := .code yX11_tree cX11_tree 4 (some .int) :: ((wsX11_tree_r1 ++ wsX11_tree_r2) ++ wsX110 ++ wsX90 ++ wsX10)
def wsX11_fault : List Cond := .code yX11_fault cX11_fault 5 (some .int) :: ([.fieldLink RX11 246 "DiskEvidence$Tree" "faultCount" "I", .fieldLink RX11 249 "DiskEvidence$Tree" "faults" "[I", .methodLink RX11 239 yX11_treeAt, .instanceMethod yX11_treeAt, .selects RX11 yX11_treeAt yX11_treeAt, .initialized RX11, .code yX11_treeAt cX11_treeAt 2 (some (.object "DiskEvidence$Tree")), .fieldLink RX11 188 "DiskEvidence" "treeCount" "I", .fieldLink RX11 27 "DiskEvidence" "trees" "[LDiskEvidence$Tree;"] ++ wsX90 ++ wsX110)
def wsX11_owner : List Cond := .code yX11_owner cX11_owner 4 (some .int) :: ([.fieldLink RX11 252 "DiskEvidence$Tree" "owners" "[I", .methodLink RX11 239 yX11_treeAt, .instanceMethod yX11_treeAt, .selects RX11 yX11_treeAt yX11_treeAt, .initialized RX11, .code yX11_treeAt cX11_treeAt 2 (some (.object "DiskEvidence$Tree")), .fieldLink RX11 188 "DiskEvidence" "treeCount" "I", .fieldLink RX11 27 "DiskEvidence" "trees" "[LDiskEvidence$Tree;"] ++ wsX90 ++ wsX110)
def wsX11_free_r1 : List Cond := [Cond.methodLink RX11 239 yX11_treeAt, Cond.instanceMethod yX11_treeAt, Cond.selects RX11 yX11_treeAt yX11_treeAt, Cond.initialized RX11, Cond.code yX11_treeAt cX11_treeAt 2 (some (.object "DiskEvidence$Tree")), Cond.fieldLink RX11 188 "DiskEvidence" "treeCount" "I", Cond.fieldLink RX11 27 "DiskEvidence" "trees" "[LDiskEvidence$Tree;", Cond.methodLink RX11 255 yX9_freeRuns, Cond.instanceMethod yX9_freeRuns, Cond.selects RX9 yX9_freeRuns yX9_freeRuns, Cond.initialized RX9, Cond.code yX9_freeRuns cX9_freeRuns 3 (some .int), Cond.fieldLink RX9 36 "DiskEvidence$Tree" "owners" "[I", Cond.methodLink RX11 258 yX9_freeRun, Cond.instanceMethod yX9_freeRun, Cond.selects RX9 yX9_freeRun yX9_freeRun, Cond.code yX9_freeRun cX9_freeRun 4 (some .int), Cond.methodLink RX11 261 yX9_runEnd, Cond.instanceMethod yX9_runEnd, Cond.selects RX9 yX9_runEnd yX9_runEnd, Cond.code yX9_runEnd cX9_runEnd 3 (some .int), Cond.methodLink RX9 69 Lib.Math.max.name, Cond.static Lib.Math.max.name, Cond.initialized "java/lang/Math"]
def wsX11_free_r2 : List Cond := [Cond.code Lib.Math.max.name Lib.Math.max.code 2 (some .int)]
def wsX11_free : List Cond := .code yX11_free cX11_free 6 (some .int) :: ((wsX11_free_r1 ++ wsX11_free_r2) ++ wsX110 ++ wsX90)
def wsX11_find_r1 : List Cond := [Cond.fieldLink RX11 9 "DiskEvidence" "collected" "[B", Cond.methodLink RX11 239 yX11_treeAt, Cond.instanceMethod yX11_treeAt, Cond.selects RX11 yX11_treeAt yX11_treeAt, Cond.initialized RX11, Cond.code yX11_treeAt cX11_treeAt 2 (some (.object "DiskEvidence$Tree")), Cond.fieldLink RX11 188 "DiskEvidence" "treeCount" "I", Cond.fieldLink RX11 27 "DiskEvidence" "trees" "[LDiskEvidence$Tree;", Cond.methodLink RX11 91 yX11_forget, Cond.instanceMethod yX11_forget, Cond.selects RX11 yX11_forget yX11_forget, Cond.code yX11_forget cX11_forget 2 (some .int), Cond.fieldLink RX11 76 "DiskEvidence" "collectedCount" "I", Cond.methodLink RX11 264 yX9_findLiving, Cond.instanceMethod yX9_findLiving, Cond.selects RX9 yX9_findLiving yX9_findLiving, Cond.initialized RX9, Cond.code yX9_findLiving cX9_findLiving 6 (some .int), Cond.fieldLink RX9 12 "DiskEvidence$Tree" "form" "LDiskEvidence$Form;", Cond.fieldLink RX9 39 "DiskEvidence$Form" "kind" "I", Cond.methodLink RX9 110 yX9_firstNamed, Cond.instanceMethod yX9_firstNamed, Cond.selects RX9 yX9_firstNamed yX9_firstNamed, Cond.code yX9_firstNamed cX9_firstNamed 6 (some .int)]
def wsX11_find_r2 : List Cond := [Cond.fieldLink RX9 42 "DiskEvidence$Tree" "living" "I", Cond.fieldLink RX9 20 "DiskEvidence$Tree" "items" "[LDiskEvidence$Item;", Cond.fieldLink RX9 114 "DiskEvidence$Item" "parent" "I", Cond.methodLink RX9 117 yX2_isNamed, Cond.instanceMethod yX2_isNamed, Cond.selects RX2 yX2_isNamed yX2_isNamed, Cond.initialized RX2, Cond.code yX2_isNamed cX2_isNamed 4 (some .boolean), Cond.fieldLink RX2 31 "DiskEvidence$Item" "letters" "[B", Cond.static yX11_sameBytes, Cond.code yX11_sameBytes cX11_sameBytes 6 (some .boolean)]
def wsX11_find : List Cond := .code yX11_find cX11_find 3 (some .int) :: ((wsX11_find_r1 ++ wsX11_find_r2) ++ wsX110 ++ wsX90 ++ wsX10 ++ wsX20)
def wsX11_itemIn : List Cond := .code yX11_itemIn cX11_itemIn 2 (some (.object "DiskEvidence$Item")) :: ([.fieldLink RX11 357 "DiskEvidence$Tree" "total" "I", .fieldLink RX11 422 "DiskEvidence$Tree" "items" "[LDiskEvidence$Item;"] ++ wsX90)
def wsX11_name : List Cond := .code yX11_name cX11_name 5 (some .int) :: ([.fieldLink RX11 271 "DiskEvidence$Item" "letters" "[B", .methodLink RX11 239 yX11_treeAt, .instanceMethod yX11_treeAt, .selects RX11 yX11_treeAt yX11_treeAt, .initialized RX11, .code yX11_treeAt cX11_treeAt 2 (some (.object "DiskEvidence$Tree")), .fieldLink RX11 188 "DiskEvidence" "treeCount" "I", .fieldLink RX11 27 "DiskEvidence" "trees" "[LDiskEvidence$Tree;", .methodLink RX11 267 yX11_itemIn, .static yX11_itemIn, .code yX11_itemIn cX11_itemIn 2 (some (.object "DiskEvidence$Item")), .fieldLink RX11 357 "DiskEvidence$Tree" "total" "I", .fieldLink RX11 422 "DiskEvidence$Tree" "items" "[LDiskEvidence$Item;"] ++ wsX20 ++ wsX110 ++ wsX90)
def wsX11_field_r1 : List Cond := [Cond.constantLong RX11 129 (-2), Cond.methodLink RX11 239 yX11_treeAt, Cond.instanceMethod yX11_treeAt, Cond.selects RX11 yX11_treeAt yX11_treeAt, Cond.initialized RX11, Cond.code yX11_treeAt cX11_treeAt 2 (some (.object "DiskEvidence$Tree")), Cond.fieldLink RX11 188 "DiskEvidence" "treeCount" "I", Cond.fieldLink RX11 27 "DiskEvidence" "trees" "[LDiskEvidence$Tree;", Cond.methodLink RX11 267 yX11_itemIn, Cond.static yX11_itemIn, Cond.code yX11_itemIn cX11_itemIn 2 (some (.object "DiskEvidence$Item")), Cond.fieldLink RX11 357 "DiskEvidence$Tree" "total" "I", Cond.fieldLink RX11 422 "DiskEvidence$Tree" "items" "[LDiskEvidence$Item;", Cond.methodLink RX11 276 yX2_fact, Cond.instanceMethod yX2_fact, Cond.selects RX2 yX2_fact yX2_fact, Cond.initialized RX2, Cond.code yX2_fact cX2_fact 2 (some .long), Cond.fieldLink RX2 44 "DiskEvidence$Item" "kind" "I", Cond.fieldLink RX2 50 "DiskEvidence$Item" "size" "I", Cond.fieldLink RX2 17 "DiskEvidence$Item" "made" "J", Cond.fieldLink RX2 21 "DiskEvidence$Item" "altered" "J", Cond.fieldLink RX2 24 "DiskEvidence$Item" "erased" "J", Cond.fieldLink RX2 53 "DiskEvidence$Item" "grade" "I"]
def wsX11_field_r2 : List Cond := [Cond.fieldLink RX2 9 "DiskEvidence$Item" "parent" "I", Cond.fieldLink RX2 38 "DiskEvidence$Item" "blocks" "[I", Cond.fieldLink RX2 56 "DiskEvidence$Item" "depth" "I", Cond.fieldLink RX2 59 "DiskEvidence$Item" "faults" "I", Cond.fieldLink RX2 47 "DiskEvidence$Item" "told" "J", Cond.constantLong RX2 62 (-2)]
def wsX11_field : List Cond := .code yX11_field cX11_field 5 (some .long) :: ((wsX11_field_r1 ++ wsX11_field_r2) ++ wsX110 ++ wsX90 ++ wsX20)
def wsX11_block : List Cond := .code yX11_block cX11_block 5 (some .int) :: ([.methodLink RX11 239 yX11_treeAt, .instanceMethod yX11_treeAt, .selects RX11 yX11_treeAt yX11_treeAt, .initialized RX11, .code yX11_treeAt cX11_treeAt 2 (some (.object "DiskEvidence$Tree")), .fieldLink RX11 188 "DiskEvidence" "treeCount" "I", .fieldLink RX11 27 "DiskEvidence" "trees" "[LDiskEvidence$Tree;", .methodLink RX11 267 yX11_itemIn, .static yX11_itemIn, .code yX11_itemIn cX11_itemIn 2 (some (.object "DiskEvidence$Item")), .fieldLink RX11 357 "DiskEvidence$Tree" "total" "I", .fieldLink RX11 422 "DiskEvidence$Tree" "items" "[LDiskEvidence$Item;", .methodLink RX11 279 yX2_blockAt, .instanceMethod yX2_blockAt, .selects RX2 yX2_blockAt yX2_blockAt, .initialized RX2, .code yX2_blockAt cX2_blockAt 2 (some .int), .fieldLink RX2 38 "DiskEvidence$Item" "blocks" "[I"] ++ wsX110 ++ wsX90 ++ wsX20)
def wsX11_content_r1 : List Cond := [Cond.fieldLink RX11 282 "DiskEvidence$Item" "size" "I", Cond.methodLink RX11 239 yX11_treeAt, Cond.instanceMethod yX11_treeAt, Cond.selects RX11 yX11_treeAt yX11_treeAt, Cond.initialized RX11, Cond.code yX11_treeAt cX11_treeAt 2 (some (.object "DiskEvidence$Tree")), Cond.fieldLink RX11 188 "DiskEvidence" "treeCount" "I", Cond.fieldLink RX11 27 "DiskEvidence" "trees" "[LDiskEvidence$Tree;", Cond.methodLink RX11 267 yX11_itemIn, Cond.static yX11_itemIn, Cond.code yX11_itemIn cX11_itemIn 2 (some (.object "DiskEvidence$Item")), Cond.fieldLink RX11 357 "DiskEvidence$Tree" "total" "I", Cond.fieldLink RX11 422 "DiskEvidence$Tree" "items" "[LDiskEvidence$Item;", Cond.methodLink RX11 283 yX9_byteOf, Cond.instanceMethod yX9_byteOf, Cond.selects RX9 yX9_byteOf yX9_byteOf, Cond.initialized RX9, Cond.code yX9_byteOf cX9_byteOf 6 (some .int), Cond.fieldLink RX9 75 "DiskEvidence$Item" "base" "LDiskEvidence$Item;", Cond.fieldLink RX9 79 "DiskEvidence$Item" "offset" "I", Cond.fieldLink RX9 28 "DiskEvidence$Tree" "image" "[B", Cond.methodLink RX9 82 yX2_blockAt, Cond.instanceMethod yX2_blockAt, Cond.selects RX2 yX2_blockAt yX2_blockAt]
def wsX11_content_r2 : List Cond := [Cond.initialized RX2, Cond.code yX2_blockAt cX2_blockAt 2 (some .int), Cond.fieldLink RX2 38 "DiskEvidence$Item" "blocks" "[I", Cond.static yX11_u8, Cond.code yX11_u8 cX11_u8 2 (some .int)]
def wsX11_content : List Cond := .code yX11_content cX11_content 6 (some .int) :: ((wsX11_content_r1 ++ wsX11_content_r2) ++ wsX20 ++ wsX110 ++ wsX90)
def wsX11_slack_r1 : List Cond := [Cond.fieldLink RX11 287 "DiskEvidence$Item" "blocks" "[I", Cond.fieldLink RX11 282 "DiskEvidence$Item" "size" "I", Cond.methodLink RX11 239 yX11_treeAt, Cond.instanceMethod yX11_treeAt, Cond.selects RX11 yX11_treeAt yX11_treeAt, Cond.initialized RX11, Cond.code yX11_treeAt cX11_treeAt 2 (some (.object "DiskEvidence$Tree")), Cond.fieldLink RX11 188 "DiskEvidence" "treeCount" "I", Cond.fieldLink RX11 27 "DiskEvidence" "trees" "[LDiskEvidence$Tree;", Cond.methodLink RX11 267 yX11_itemIn, Cond.static yX11_itemIn, Cond.code yX11_itemIn cX11_itemIn 2 (some (.object "DiskEvidence$Item")), Cond.fieldLink RX11 357 "DiskEvidence$Tree" "total" "I", Cond.fieldLink RX11 422 "DiskEvidence$Tree" "items" "[LDiskEvidence$Item;", Cond.methodLink RX11 283 yX9_byteOf, Cond.instanceMethod yX9_byteOf, Cond.selects RX9 yX9_byteOf yX9_byteOf, Cond.initialized RX9, Cond.code yX9_byteOf cX9_byteOf 6 (some .int), Cond.fieldLink RX9 75 "DiskEvidence$Item" "base" "LDiskEvidence$Item;", Cond.fieldLink RX9 79 "DiskEvidence$Item" "offset" "I", Cond.fieldLink RX9 28 "DiskEvidence$Tree" "image" "[B", Cond.methodLink RX9 82 yX2_blockAt, Cond.instanceMethod yX2_blockAt]
def wsX11_slack_r2 : List Cond := [Cond.selects RX2 yX2_blockAt yX2_blockAt, Cond.initialized RX2, Cond.code yX2_blockAt cX2_blockAt 2 (some .int), Cond.fieldLink RX2 38 "DiskEvidence$Item" "blocks" "[I", Cond.static yX11_u8, Cond.code yX11_u8 cX11_u8 2 (some .int)]
def wsX11_slack : List Cond := .code yX11_slack cX11_slack 6 (some .int) :: ((wsX11_slack_r1 ++ wsX11_slack_r2) ++ wsX20 ++ wsX110 ++ wsX90)
def wsX11_open_r1 : List Cond := [Cond.fieldLink RX11 290 "DiskEvidence" "openingCount" "I", Cond.fieldLink RX11 44 "DiskEvidence" "maker" "LDiskEvidence$Maker;", Cond.fieldLink RX11 204 "DiskEvidence$Maker" "image" "[B", Cond.classLink RX11 31 RX4, Cond.instantiable RX4 10, Cond.initialized RX4, Cond.fieldLink RX11 33 "DiskEvidence" "openings" "[LDiskEvidence$Opening;", Cond.methodLink RX11 239 yX11_treeAt, Cond.instanceMethod yX11_treeAt, Cond.selects RX11 yX11_treeAt yX11_treeAt, Cond.initialized RX11, Cond.code yX11_treeAt cX11_treeAt 2 (some (.object "DiskEvidence$Tree")), Cond.fieldLink RX11 188 "DiskEvidence" "treeCount" "I", Cond.fieldLink RX11 27 "DiskEvidence" "trees" "[LDiskEvidence$Tree;", Cond.methodLink RX11 267 yX11_itemIn, Cond.static yX11_itemIn, Cond.code yX11_itemIn cX11_itemIn 2 (some (.object "DiskEvidence$Item")), Cond.fieldLink RX11 357 "DiskEvidence$Tree" "total" "I", Cond.fieldLink RX11 422 "DiskEvidence$Tree" "items" "[LDiskEvidence$Item;", Cond.methodLink RX11 293 yX9_copyBytes, Cond.instanceMethod yX9_copyBytes, Cond.selects RX9 yX9_copyBytes yX9_copyBytes, Cond.initialized RX9, Cond.code yX9_copyBytes cX9_copyBytes 8 (some .int)]
def wsX11_open_r2 : List Cond := [Cond.fieldLink RX9 90 "DiskEvidence$Item" "size" "I", Cond.methodLink RX9 93 Lib.Math.min.name, Cond.static Lib.Math.min.name, Cond.initialized "java/lang/Math", Cond.code Lib.Math.min.name Lib.Math.min.code 2 (some .int), Cond.fieldLink RX9 75 "DiskEvidence$Item" "base" "LDiskEvidence$Item;", Cond.fieldLink RX9 28 "DiskEvidence$Tree" "image" "[B", Cond.methodLink RX9 104 arraycopyName, Cond.native arraycopyName, Cond.static arraycopyName, Cond.initialized "java/lang/System", Cond.methodLink RX9 96 yX9_byteOf, Cond.instanceMethod yX9_byteOf, Cond.selects RX9 yX9_byteOf yX9_byteOf, Cond.code yX9_byteOf cX9_byteOf 6 (some .int), Cond.fieldLink RX9 79 "DiskEvidence$Item" "offset" "I", Cond.methodLink RX9 82 yX2_blockAt, Cond.instanceMethod yX2_blockAt, Cond.selects RX2 yX2_blockAt yX2_blockAt, Cond.initialized RX2, Cond.code yX2_blockAt cX2_blockAt 2 (some .int), Cond.fieldLink RX2 38 "DiskEvidence$Item" "blocks" "[I", Cond.static yX11_u8, Cond.code yX11_u8 cX11_u8 2 (some .int)]
def wsX11_open_r3 : List Cond := [Cond.static yX11_clear, Cond.code yX11_clear cX11_clear 3 none, Cond.methodLink RX11 448 yJ7_fill_eb02e, Cond.static yJ7_fill_eb02e, Cond.initialized RJ7, Cond.code yJ7_fill_eb02e cJ7_fill_eb02e 5 none, Cond.methodLink RJ7 13 yJ7_rangeCheck_23922, Cond.static yJ7_rangeCheck_23922, Cond.code yJ7_rangeCheck_23922 cJ7_rangeCheck_23922 3 none, Cond.methodLink RX11 297 yX4_formatOf, Cond.static yX4_formatOf, Cond.code yX4_formatOf cX4_formatOf 3 (some .int), Cond.constant RX4 39 (172508041), Cond.static yX11_u32, Cond.code yX11_u32 cX11_u32 2 (some .int), Cond.methodLink RX11 301 yX4_init, Cond.instanceMethod yX4_init, Cond.code yX4_init cX4_init 4 none, Cond.methodLink RX4 3 objectInit, Cond.instanceMethod objectInit, Cond.code objectInit ⟨#[0xb1]⟩ 1 none, Cond.fieldLink RX4 13 "DiskEvidence$Opening" "source" "[B", Cond.fieldLink RX4 18 "DiskEvidence$Opening" "treeNumber" "I", Cond.fieldLink RX4 22 "DiskEvidence$Opening" "fileNumber" "I"]
def wsX11_open_r4 : List Cond := [Cond.methodLink RX4 25 Lib.Math.max.name, Cond.static Lib.Math.max.name, Cond.code Lib.Math.max.name Lib.Math.max.code 2 (some .int), Cond.arrayClass .int, Cond.fieldLink RX4 31 "DiskEvidence$Opening" "facts" "[I", Cond.methodLink RX11 304 yX4_parse, Cond.instanceMethod yX4_parse, Cond.selects RX4 yX4_parse yX4_parse, Cond.code yX4_parse cX4_parse 5 none, Cond.fieldLink RX4 64 "DiskEvidence$Opening" "length" "I", Cond.fieldLink RX4 57 "DiskEvidence$Opening" "broken" "Z", Cond.fieldLink RX4 74 "DiskEvidence$Opening" "nodeCount" "I", Cond.fieldLink RX4 61 "DiskEvidence$Opening" "place" "I", Cond.methodLink RX4 47 yX4_start, Cond.instanceMethod yX4_start, Cond.selects RX4 yX4_start yX4_start, Cond.code yX4_start cX4_start 4 none, Cond.fieldLink RX4 77 "DiskEvidence$Opening" "begin" "I", Cond.methodLink RX4 67 yX4_addNode, Cond.instanceMethod yX4_addNode, Cond.selects RX4 yX4_addNode yX4_addNode, Cond.code yX4_addNode cX4_addNode 7 (some .int), Cond.methodLink RX4 51 yX4_parsePieces, Cond.instanceMethod yX4_parsePieces]
def wsX11_open_r5 : List Cond := [Cond.selects RX4 yX4_parsePieces yX4_parsePieces, Cond.code yX4_parsePieces cX4_parsePieces 4 none, Cond.constant RX4 97 (1229278788), Cond.methodLink RX4 87 yX4_pieceEnd, Cond.instanceMethod yX4_pieceEnd, Cond.selects RX4 yX4_pieceEnd yX4_pieceEnd, Cond.code yX4_pieceEnd cX4_pieceEnd 4 (some .int), Cond.methodLink RX4 83 yX4_at8, Cond.instanceMethod yX4_at8, Cond.selects RX4 yX4_at8 yX4_at8, Cond.code yX4_at8 cX4_at8 3 (some .int), Cond.methodLink RX4 90 yX4_highestFirst, Cond.instanceMethod yX4_highestFirst, Cond.selects RX4 yX4_highestFirst yX4_highestFirst, Cond.code yX4_highestFirst cX4_highestFirst 2 (some .int), Cond.methodLink RX4 93 yX4_addPiece, Cond.instanceMethod yX4_addPiece, Cond.selects RX4 yX4_addPiece yX4_addPiece, Cond.code yX4_addPiece cX4_addPiece 6 none, Cond.constant RX4 98 (1950960965), Cond.static yX11_crcOf, Cond.code yX11_crcOf cX11_crcOf 5 (some .int), Cond.methodLink RX11 169 yX11_u8, Cond.methodLink RX11 131 yX11_crcStep]
def wsX11_open_r6 : List Cond := [Cond.static yX11_crcStep, Cond.code yX11_crcStep cX11_crcStep 3 (some .int), Cond.fieldLink RX11 452 "DiskEvidence" "CRC_STEPS" "[I", Cond.methodLink RX4 54 yX4_parsePack, Cond.instanceMethod yX4_parsePack, Cond.selects RX4 yX4_parsePack yX4_parsePack, Cond.code yX4_parsePack cX4_parsePack 6 none, Cond.methodLink RX4 102 yX4_isMarked, Cond.instanceMethod yX4_isMarked, Cond.selects RX4 yX4_isMarked yX4_isMarked, Cond.code yX4_isMarked cX4_isMarked 4 (some .boolean), Cond.methodLink RX4 106 yX4_entryEnd, Cond.instanceMethod yX4_entryEnd, Cond.selects RX4 yX4_entryEnd yX4_entryEnd, Cond.code yX4_entryEnd cX4_entryEnd 5 (some .int), Cond.methodLink RX4 116 yX4_at16, Cond.instanceMethod yX4_at16, Cond.selects RX4 yX4_at16 yX4_at16, Cond.code yX4_at16 cX4_at16 2 (some .int), Cond.methodLink RX4 109 yX4_addEntry, Cond.instanceMethod yX4_addEntry, Cond.selects RX4 yX4_addEntry yX4_addEntry, Cond.code yX4_addEntry cX4_addEntry 6 none, Cond.methodLink RX4 113 yX4_packRowEnd]
def wsX11_open_r7 : List Cond := [Cond.instanceMethod yX4_packRowEnd, Cond.selects RX4 yX4_packRowEnd yX4_packRowEnd, Cond.code yX4_packRowEnd cX4_packRowEnd 5 (some .int), Cond.static yX11_sameBytes, Cond.code yX11_sameBytes cX11_sameBytes 6 (some .boolean), Cond.methodLink RX4 71 yX4_parsePages, Cond.instanceMethod yX4_parsePages, Cond.selects RX4 yX4_parsePages yX4_parsePages, Cond.code yX4_parsePages cX4_parsePages 1 none, Cond.fieldLink RX4 123 "DiskEvidence$Opening" "columns" "I", Cond.methodLink RX4 126 yX4_isPage, Cond.instanceMethod yX4_isPage, Cond.selects RX4 yX4_isPage yX4_isPage, Cond.code yX4_isPage cX4_isPage 4 (some .boolean), Cond.methodLink RX4 133 yX4_rowEnd, Cond.instanceMethod yX4_rowEnd, Cond.selects RX4 yX4_rowEnd yX4_rowEnd, Cond.code yX4_rowEnd cX4_rowEnd 4 (some .int), Cond.methodLink RX4 136 yX4_fieldEnd, Cond.instanceMethod yX4_fieldEnd, Cond.selects RX4 yX4_fieldEnd yX4_fieldEnd, Cond.code yX4_fieldEnd cX4_fieldEnd 3 (some .int), Cond.methodLink RX4 130 yX4_addPage, Cond.instanceMethod yX4_addPage]
def wsX11_open_r8 : List Cond := [Cond.selects RX4 yX4_addPage yX4_addPage, Cond.code yX4_addPage cX4_addPage 11 none, Cond.methodLink RX4 139 yX4_bitsOf, Cond.static yX4_bitsOf, Cond.code yX4_bitsOf cX4_bitsOf 2 (some .long), Cond.methodLink RX4 143 yX4_fieldValue, Cond.instanceMethod yX4_fieldValue, Cond.selects RX4 yX4_fieldValue yX4_fieldValue, Cond.code yX4_fieldValue cX4_fieldValue 3 (some .int)]
def wsX11_open : List Cond := .code yX11_open cX11_open 9 (some .int) :: ((wsX11_open_r1 ++ (wsX11_open_r2 ++ (wsX11_open_r3 ++ (wsX11_open_r4 ++ (wsX11_open_r5 ++ (wsX11_open_r6 ++ (wsX11_open_r7 ++ wsX11_open_r8))))))) ++ wsX110 ++ wsX30 ++ wsX40 ++ wsX90 ++ wsX20)
def wsX11_openingAt : List Cond := .code yX11_openingAt cX11_openingAt 2 (some (.object "DiskEvidence$Opening")) :: ([.fieldLink RX11 290 "DiskEvidence" "openingCount" "I", .fieldLink RX11 33 "DiskEvidence" "openings" "[LDiskEvidence$Opening;"] ++ wsX110)
def wsX11_node : List Cond := .code yX11_node cX11_node 5 (some .int) :: ([.fieldLink RX11 312 "DiskEvidence$Opening" "nodeCount" "I", .methodLink RX11 308 yX11_openingAt, .instanceMethod yX11_openingAt, .selects RX11 yX11_openingAt yX11_openingAt, .initialized RX11, .code yX11_openingAt cX11_openingAt 2 (some (.object "DiskEvidence$Opening")), .fieldLink RX11 290 "DiskEvidence" "openingCount" "I", .fieldLink RX11 33 "DiskEvidence" "openings" "[LDiskEvidence$Opening;", .methodLink RX11 315 yX4_nodeFact, .instanceMethod yX4_nodeFact, .selects RX4 yX4_nodeFact yX4_nodeFact, .initialized RX4, .code yX4_nodeFact cX4_nodeFact 4 (some .int), .fieldLink RX4 31 "DiskEvidence$Opening" "facts" "[I"] ++ wsX40 ++ wsX110)
def wsX11_opened : List Cond := .code yX11_opened cX11_opened 4 (some .int) :: ([.fieldLink RX11 312 "DiskEvidence$Opening" "nodeCount" "I", .fieldLink RX11 321 "DiskEvidence$Opening" "treeNumber" "I", .fieldLink RX11 324 "DiskEvidence$Opening" "fileNumber" "I", .methodLink RX11 308 yX11_openingAt, .instanceMethod yX11_openingAt, .selects RX11 yX11_openingAt yX11_openingAt, .initialized RX11, .code yX11_openingAt cX11_openingAt 2 (some (.object "DiskEvidence$Opening")), .fieldLink RX11 290 "DiskEvidence" "openingCount" "I", .fieldLink RX11 33 "DiskEvidence" "openings" "[LDiskEvidence$Opening;", .methodLink RX11 318 yX4_leftOver, .instanceMethod yX4_leftOver, .selects RX4 yX4_leftOver yX4_leftOver, .initialized RX4, .code yX4_leftOver cX4_leftOver 3 (some .int), .fieldLink RX4 74 "DiskEvidence$Opening" "nodeCount" "I", .methodLink RX4 80 yX4_nodeFact, .instanceMethod yX4_nodeFact, .selects RX4 yX4_nodeFact yX4_nodeFact, .code yX4_nodeFact cX4_nodeFact 4 (some .int), .fieldLink RX4 31 "DiskEvidence$Opening" "facts" "[I"] ++ wsX40 ++ wsX110)
def wsX11_inside_r1 : List Cond := [Cond.fieldLink RX11 312 "DiskEvidence$Opening" "nodeCount" "I", Cond.fieldLink RX11 321 "DiskEvidence$Opening" "treeNumber" "I", Cond.methodLink RX11 308 yX11_openingAt, Cond.instanceMethod yX11_openingAt, Cond.selects RX11 yX11_openingAt yX11_openingAt, Cond.initialized RX11, Cond.code yX11_openingAt cX11_openingAt 2 (some (.object "DiskEvidence$Opening")), Cond.fieldLink RX11 290 "DiskEvidence" "openingCount" "I", Cond.fieldLink RX11 33 "DiskEvidence" "openings" "[LDiskEvidence$Opening;", Cond.methodLink RX11 315 yX4_nodeFact, Cond.instanceMethod yX4_nodeFact, Cond.selects RX4 yX4_nodeFact yX4_nodeFact, Cond.initialized RX4, Cond.code yX4_nodeFact cX4_nodeFact 4 (some .int), Cond.fieldLink RX4 31 "DiskEvidence$Opening" "facts" "[I", Cond.methodLink RX11 239 yX11_treeAt, Cond.instanceMethod yX11_treeAt, Cond.selects RX11 yX11_treeAt yX11_treeAt, Cond.code yX11_treeAt cX11_treeAt 2 (some (.object "DiskEvidence$Tree")), Cond.fieldLink RX11 188 "DiskEvidence" "treeCount" "I", Cond.fieldLink RX11 27 "DiskEvidence" "trees" "[LDiskEvidence$Tree;", Cond.methodLink RX11 327 yX9_takeInside, Cond.instanceMethod yX9_takeInside, Cond.selects RX9 yX9_takeInside yX9_takeInside]
def wsX11_inside_r2 : List Cond := [Cond.initialized RX9, Cond.code yX9_takeInside cX9_takeInside 9 (some .int), Cond.fieldLink RX9 121 "DiskEvidence$Opening" "fileNumber" "I", Cond.fieldLink RX9 64 "DiskEvidence$Tree" "total" "I", Cond.fieldLink RX9 20 "DiskEvidence$Tree" "items" "[LDiskEvidence$Item;", Cond.fieldLink RX9 42 "DiskEvidence$Tree" "living" "I", Cond.fieldLink RX9 45 "DiskEvidence$Tree" "lost" "I", Cond.fieldLink RX9 48 "DiskEvidence$Tree" "cut" "I", Cond.fieldLink RX9 114 "DiskEvidence$Item" "parent" "I", Cond.fieldLink RX9 79 "DiskEvidence$Item" "offset" "I", Cond.fieldLink RX9 57 "DiskEvidence$Tree" "within" "I", Cond.classLink RX9 18 RX2, Cond.instantiable RX2 15, Cond.initialized RX2, Cond.fieldLink RX9 90 "DiskEvidence$Item" "size" "I", Cond.fieldLink RX9 75 "DiskEvidence$Item" "base" "LDiskEvidence$Item;", Cond.fieldLink RX9 136 "DiskEvidence$Item" "altered" "J", Cond.fieldLink RX9 140 "DiskEvidence$Item" "grade" "I", Cond.fieldLink RX9 143 "DiskEvidence$Item" "depth" "I", Cond.methodLink RX9 69 Lib.Math.max.name, Cond.static Lib.Math.max.name, Cond.initialized "java/lang/Math", Cond.code Lib.Math.max.name Lib.Math.max.code 2 (some .int), Cond.arrayClass .byte]
def wsX11_inside_r3 : List Cond := [Cond.fieldLink RX9 146 "DiskEvidence$Item" "letters" "[B", Cond.methodLink RX9 126 yX4_nodeFact, Cond.methodLink RX9 129 yX2_init, Cond.instanceMethod yX2_init, Cond.code yX2_init cX2_init 5 none, Cond.methodLink RX2 3 objectInit, Cond.instanceMethod objectInit, Cond.code objectInit ⟨#[0xb1]⟩ 1 none, Cond.fieldLink RX2 9 "DiskEvidence$Item" "parent" "I", Cond.constantLong RX2 15 (-1), Cond.fieldLink RX2 17 "DiskEvidence$Item" "made" "J", Cond.fieldLink RX2 21 "DiskEvidence$Item" "altered" "J", Cond.fieldLink RX2 24 "DiskEvidence$Item" "erased" "J", Cond.fieldLink RX2 31 "DiskEvidence$Item" "letters" "[B", Cond.fieldLink RX2 38 "DiskEvidence$Item" "blocks" "[I", Cond.fieldLink RX2 41 "DiskEvidence$Item" "sort" "I", Cond.fieldLink RX2 44 "DiskEvidence$Item" "kind" "I", Cond.fieldLink RX2 47 "DiskEvidence$Item" "told" "J", Cond.static yX11_unsigned, Cond.code yX11_unsigned cX11_unsigned 1 (some .long), Cond.constantLong RX11 135 (4294967295), Cond.methodLink RX9 96 yX9_byteOf, Cond.instanceMethod yX9_byteOf, Cond.selects RX9 yX9_byteOf yX9_byteOf]
def wsX11_inside_r4 : List Cond := [Cond.code yX9_byteOf cX9_byteOf 6 (some .int), Cond.fieldLink RX9 28 "DiskEvidence$Tree" "image" "[B", Cond.methodLink RX9 82 yX2_blockAt, Cond.instanceMethod yX2_blockAt, Cond.selects RX2 yX2_blockAt yX2_blockAt, Cond.code yX2_blockAt cX2_blockAt 2 (some .int), Cond.static yX11_u8, Cond.code yX11_u8 cX11_u8 2 (some .int), Cond.methodLink RX9 149 yX9_add, Cond.instanceMethod yX9_add, Cond.selects RX9 yX9_add yX9_add, Cond.code yX9_add cX9_add 2 (some .int)]
def wsX11_inside : List Cond := .code yX11_inside cX11_inside 5 (some .int) :: ((wsX11_inside_r1 ++ (wsX11_inside_r2 ++ (wsX11_inside_r3 ++ wsX11_inside_r4))) ++ wsX40 ++ wsX110 ++ wsX90 ++ wsX20)
def wsX11_word_r1 : List Cond := [Cond.fieldLink RX11 51 "DiskEvidence" "finder" "LDiskEvidence$Finder;", Cond.fieldLink RX11 9 "DiskEvidence" "collected" "[B", Cond.fieldLink RX11 44 "DiskEvidence" "maker" "LDiskEvidence$Maker;", Cond.fieldLink RX11 204 "DiskEvidence$Maker" "image" "[B", Cond.methodLink RX11 239 yX11_treeAt, Cond.instanceMethod yX11_treeAt, Cond.selects RX11 yX11_treeAt yX11_treeAt, Cond.initialized RX11, Cond.code yX11_treeAt cX11_treeAt 2 (some (.object "DiskEvidence$Tree")), Cond.fieldLink RX11 188 "DiskEvidence" "treeCount" "I", Cond.fieldLink RX11 27 "DiskEvidence" "trees" "[LDiskEvidence$Tree;", Cond.methodLink RX11 91 yX11_forget, Cond.instanceMethod yX11_forget, Cond.selects RX11 yX11_forget yX11_forget, Cond.code yX11_forget cX11_forget 2 (some .int), Cond.fieldLink RX11 76 "DiskEvidence" "collectedCount" "I", Cond.methodLink RX11 331 yX0_findWord, Cond.instanceMethod yX0_findWord, Cond.selects RX0 yX0_findWord yX0_findWord, Cond.initialized RX0, Cond.code yX0_findWord cX0_findWord 5 (some .int), Cond.fieldLink RX0 19 "DiskEvidence$Finder" "text" "[B", Cond.fieldLink RX0 28 "DiskEvidence$Finder" "textLength" "I", Cond.fieldLink RX0 36 "DiskEvidence$Finder" "hitCount" "I"]
def wsX11_word_r2 : List Cond := [Cond.methodLink RX0 32 yX0_search, Cond.instanceMethod yX0_search, Cond.selects RX0 yX0_search yX0_search, Cond.code yX0_search cX0_search 7 none, Cond.fieldLink RX0 46 "DiskEvidence$Tree" "living" "I", Cond.fieldLink RX0 51 "DiskEvidence$Tree" "lost" "I", Cond.fieldLink RX0 54 "DiskEvidence$Tree" "cut" "I", Cond.fieldLink RX0 57 "DiskEvidence$Tree" "items" "[LDiskEvidence$Item;", Cond.fieldLink RX0 77 "DiskEvidence$Tree" "image" "[B", Cond.methodLink RX0 61 yX2_isFolder, Cond.instanceMethod yX2_isFolder, Cond.selects RX2 yX2_isFolder yX2_isFolder, Cond.initialized RX2, Cond.code yX2_isFolder cX2_isFolder 1 (some .boolean), Cond.fieldLink RX2 44 "DiskEvidence$Item" "kind" "I", Cond.methodLink RX0 66 yX9_copyBytes, Cond.instanceMethod yX9_copyBytes, Cond.selects RX9 yX9_copyBytes yX9_copyBytes, Cond.initialized RX9, Cond.code yX9_copyBytes cX9_copyBytes 8 (some .int), Cond.fieldLink RX9 90 "DiskEvidence$Item" "size" "I", Cond.methodLink RX9 93 Lib.Math.min.name, Cond.static Lib.Math.min.name, Cond.initialized "java/lang/Math"]
def wsX11_word_r3 : List Cond := [Cond.code Lib.Math.min.name Lib.Math.min.code 2 (some .int), Cond.fieldLink RX9 75 "DiskEvidence$Item" "base" "LDiskEvidence$Item;", Cond.fieldLink RX9 28 "DiskEvidence$Tree" "image" "[B", Cond.methodLink RX9 104 arraycopyName, Cond.native arraycopyName, Cond.static arraycopyName, Cond.initialized "java/lang/System", Cond.methodLink RX9 96 yX9_byteOf, Cond.instanceMethod yX9_byteOf, Cond.selects RX9 yX9_byteOf yX9_byteOf, Cond.code yX9_byteOf cX9_byteOf 6 (some .int), Cond.fieldLink RX9 79 "DiskEvidence$Item" "offset" "I", Cond.methodLink RX9 82 yX2_blockAt, Cond.instanceMethod yX2_blockAt, Cond.selects RX2 yX2_blockAt yX2_blockAt, Cond.code yX2_blockAt cX2_blockAt 2 (some .int), Cond.fieldLink RX2 38 "DiskEvidence$Item" "blocks" "[I", Cond.static yX11_u8, Cond.code yX11_u8 cX11_u8 2 (some .int), Cond.static yX11_clear, Cond.code yX11_clear cX11_clear 3 none, Cond.methodLink RX11 448 yJ7_fill_eb02e, Cond.static yJ7_fill_eb02e, Cond.initialized RJ7]
def wsX11_word_r4 : List Cond := [Cond.code yJ7_fill_eb02e cJ7_fill_eb02e 5 none, Cond.methodLink RJ7 13 yJ7_rangeCheck_23922, Cond.static yJ7_rangeCheck_23922, Cond.code yJ7_rangeCheck_23922 cJ7_rangeCheck_23922 3 none, Cond.methodLink RX0 70 yX0_matchIn, Cond.instanceMethod yX0_matchIn, Cond.selects RX0 yX0_matchIn yX0_matchIn, Cond.code yX0_matchIn cX0_matchIn 10 none, Cond.fieldLink RX0 25 "DiskEvidence$Finder" "hopes" "[I", Cond.fieldLink RX0 95 "DiskEvidence$Finder" "atoms" "I", Cond.fieldLink RX0 22 "DiskEvidence$Finder" "meets" "[I", Cond.fieldLink RX0 102 "DiskEvidence$Finder" "starred" "I", Cond.methodLink RX0 108 Lib.Math.max.name, Cond.static Lib.Math.max.name, Cond.code Lib.Math.max.name Lib.Math.max.code 2 (some .int), Cond.methodLink RX0 124 yX0_backward, Cond.instanceMethod yX0_backward, Cond.selects RX0 yX0_backward yX0_backward, Cond.code yX0_backward cX0_backward 4 (some .int), Cond.fieldLink RX0 105 "DiskEvidence$Finder" "optional" "I", Cond.methodLink RX0 127 yX0_forward, Cond.instanceMethod yX0_forward, Cond.selects RX0 yX0_forward yX0_forward, Cond.code yX0_forward cX0_forward 4 (some .int)]
def wsX11_word_r5 : List Cond := [Cond.methodLink RX0 88 yX0_addHit, Cond.instanceMethod yX0_addHit, Cond.selects RX0 yX0_addHit yX0_addHit, Cond.code yX0_addHit cX0_addHit 4 none, Cond.fieldLink RX0 11 "DiskEvidence$Finder" "hits" "[I", Cond.methodLink RX0 74 yX0_wordIn, Cond.instanceMethod yX0_wordIn, Cond.selects RX0 yX0_wordIn yX0_wordIn, Cond.code yX0_wordIn cX0_wordIn 6 none, Cond.static yX11_sameBytes, Cond.code yX11_sameBytes cX11_sameBytes 6 (some .boolean)]
def wsX11_word : List Cond := .code yX11_word cX11_word 3 (some .int) :: ((wsX11_word_r1 ++ (wsX11_word_r2 ++ (wsX11_word_r3 ++ (wsX11_word_r4 ++ wsX11_word_r5)))) ++ wsX110 ++ wsX30 ++ wsX00 ++ wsX90 ++ wsX20)
def wsX11_pattern_r1 : List Cond := [Cond.fieldLink RX11 51 "DiskEvidence" "finder" "LDiskEvidence$Finder;", Cond.fieldLink RX11 9 "DiskEvidence" "collected" "[B", Cond.fieldLink RX11 44 "DiskEvidence" "maker" "LDiskEvidence$Maker;", Cond.fieldLink RX11 204 "DiskEvidence$Maker" "image" "[B", Cond.methodLink RX11 239 yX11_treeAt, Cond.instanceMethod yX11_treeAt, Cond.selects RX11 yX11_treeAt yX11_treeAt, Cond.initialized RX11, Cond.code yX11_treeAt cX11_treeAt 2 (some (.object "DiskEvidence$Tree")), Cond.fieldLink RX11 188 "DiskEvidence" "treeCount" "I", Cond.fieldLink RX11 27 "DiskEvidence" "trees" "[LDiskEvidence$Tree;", Cond.methodLink RX11 91 yX11_forget, Cond.instanceMethod yX11_forget, Cond.selects RX11 yX11_forget yX11_forget, Cond.code yX11_forget cX11_forget 2 (some .int), Cond.fieldLink RX11 76 "DiskEvidence" "collectedCount" "I", Cond.methodLink RX11 335 yX0_findPattern, Cond.instanceMethod yX0_findPattern, Cond.selects RX0 yX0_findPattern yX0_findPattern, Cond.initialized RX0, Cond.code yX0_findPattern cX0_findPattern 5 (some .int), Cond.fieldLink RX0 19 "DiskEvidence$Finder" "text" "[B", Cond.fieldLink RX0 28 "DiskEvidence$Finder" "textLength" "I", Cond.fieldLink RX0 43 "DiskEvidence$Finder" "wrongAt" "I"]
def wsX11_pattern_r2 : List Cond := [Cond.fieldLink RX0 36 "DiskEvidence$Finder" "hitCount" "I", Cond.methodLink RX0 39 yX0_readPattern, Cond.instanceMethod yX0_readPattern, Cond.selects RX0 yX0_readPattern yX0_readPattern, Cond.code yX0_readPattern cX0_readPattern 3 (some .boolean), Cond.fieldLink RX0 95 "DiskEvidence$Finder" "atoms" "I", Cond.fieldLink RX0 102 "DiskEvidence$Finder" "starred" "I", Cond.fieldLink RX0 105 "DiskEvidence$Finder" "optional" "I", Cond.methodLink RX0 92 yX0_clearAtoms, Cond.instanceMethod yX0_clearAtoms, Cond.selects RX0 yX0_clearAtoms yX0_clearAtoms, Cond.code yX0_clearAtoms cX0_clearAtoms 2 none, Cond.fieldLink RX0 22 "DiskEvidence$Finder" "meets" "[I", Cond.methodLink RX0 98 yX0_readAtom, Cond.instanceMethod yX0_readAtom, Cond.selects RX0 yX0_readAtom yX0_readAtom, Cond.code yX0_readAtom cX0_readAtom 4 (some .int), Cond.static yX11_u8, Cond.code yX11_u8 cX11_u8 2 (some .int), Cond.methodLink RX0 114 yX0_wrong, Cond.instanceMethod yX0_wrong, Cond.selects RX0 yX0_wrong yX0_wrong, Cond.code yX0_wrong cX0_wrong 2 (some .int), Cond.methodLink RX0 117 yX0_readSet]
def wsX11_pattern_r3 : List Cond := [Cond.instanceMethod yX0_readSet, Cond.selects RX0 yX0_readSet yX0_readSet, Cond.code yX0_readSet cX0_readSet 6 (some .int), Cond.methodLink RX0 120 yX0_meet, Cond.instanceMethod yX0_meet, Cond.selects RX0 yX0_meet yX0_meet, Cond.code yX0_meet cX0_meet 4 none, Cond.methodLink RX0 108 Lib.Math.max.name, Cond.static Lib.Math.max.name, Cond.initialized "java/lang/Math", Cond.code Lib.Math.max.name Lib.Math.max.code 2 (some .int), Cond.methodLink RX0 32 yX0_search, Cond.instanceMethod yX0_search, Cond.selects RX0 yX0_search yX0_search, Cond.code yX0_search cX0_search 7 none, Cond.fieldLink RX0 46 "DiskEvidence$Tree" "living" "I", Cond.fieldLink RX0 51 "DiskEvidence$Tree" "lost" "I", Cond.fieldLink RX0 54 "DiskEvidence$Tree" "cut" "I", Cond.fieldLink RX0 57 "DiskEvidence$Tree" "items" "[LDiskEvidence$Item;", Cond.fieldLink RX0 77 "DiskEvidence$Tree" "image" "[B", Cond.methodLink RX0 61 yX2_isFolder, Cond.instanceMethod yX2_isFolder, Cond.selects RX2 yX2_isFolder yX2_isFolder, Cond.initialized RX2]
def wsX11_pattern_r4 : List Cond := [Cond.code yX2_isFolder cX2_isFolder 1 (some .boolean), Cond.fieldLink RX2 44 "DiskEvidence$Item" "kind" "I", Cond.methodLink RX0 66 yX9_copyBytes, Cond.instanceMethod yX9_copyBytes, Cond.selects RX9 yX9_copyBytes yX9_copyBytes, Cond.initialized RX9, Cond.code yX9_copyBytes cX9_copyBytes 8 (some .int), Cond.fieldLink RX9 90 "DiskEvidence$Item" "size" "I", Cond.methodLink RX9 93 Lib.Math.min.name, Cond.static Lib.Math.min.name, Cond.code Lib.Math.min.name Lib.Math.min.code 2 (some .int), Cond.fieldLink RX9 75 "DiskEvidence$Item" "base" "LDiskEvidence$Item;", Cond.fieldLink RX9 28 "DiskEvidence$Tree" "image" "[B", Cond.methodLink RX9 104 arraycopyName, Cond.native arraycopyName, Cond.static arraycopyName, Cond.initialized "java/lang/System", Cond.methodLink RX9 96 yX9_byteOf, Cond.instanceMethod yX9_byteOf, Cond.selects RX9 yX9_byteOf yX9_byteOf, Cond.code yX9_byteOf cX9_byteOf 6 (some .int), Cond.fieldLink RX9 79 "DiskEvidence$Item" "offset" "I", Cond.methodLink RX9 82 yX2_blockAt, Cond.instanceMethod yX2_blockAt]
def wsX11_pattern_r5 : List Cond := [Cond.selects RX2 yX2_blockAt yX2_blockAt, Cond.code yX2_blockAt cX2_blockAt 2 (some .int), Cond.fieldLink RX2 38 "DiskEvidence$Item" "blocks" "[I", Cond.static yX11_clear, Cond.code yX11_clear cX11_clear 3 none, Cond.methodLink RX11 448 yJ7_fill_eb02e, Cond.static yJ7_fill_eb02e, Cond.initialized RJ7, Cond.code yJ7_fill_eb02e cJ7_fill_eb02e 5 none, Cond.methodLink RJ7 13 yJ7_rangeCheck_23922, Cond.static yJ7_rangeCheck_23922, Cond.code yJ7_rangeCheck_23922 cJ7_rangeCheck_23922 3 none, Cond.methodLink RX0 70 yX0_matchIn, Cond.instanceMethod yX0_matchIn, Cond.selects RX0 yX0_matchIn yX0_matchIn, Cond.code yX0_matchIn cX0_matchIn 10 none, Cond.fieldLink RX0 25 "DiskEvidence$Finder" "hopes" "[I", Cond.methodLink RX0 124 yX0_backward, Cond.instanceMethod yX0_backward, Cond.selects RX0 yX0_backward yX0_backward, Cond.code yX0_backward cX0_backward 4 (some .int), Cond.methodLink RX0 127 yX0_forward, Cond.instanceMethod yX0_forward, Cond.selects RX0 yX0_forward yX0_forward]
def wsX11_pattern_r6 : List Cond := [Cond.code yX0_forward cX0_forward 4 (some .int), Cond.methodLink RX0 88 yX0_addHit, Cond.instanceMethod yX0_addHit, Cond.selects RX0 yX0_addHit yX0_addHit, Cond.code yX0_addHit cX0_addHit 4 none, Cond.fieldLink RX0 11 "DiskEvidence$Finder" "hits" "[I", Cond.methodLink RX0 74 yX0_wordIn, Cond.instanceMethod yX0_wordIn, Cond.selects RX0 yX0_wordIn yX0_wordIn, Cond.code yX0_wordIn cX0_wordIn 6 none, Cond.static yX11_sameBytes, Cond.code yX11_sameBytes cX11_sameBytes 6 (some .boolean)]
def wsX11_pattern : List Cond := .code yX11_pattern cX11_pattern 3 (some .int) :: ((wsX11_pattern_r1 ++ (wsX11_pattern_r2 ++ (wsX11_pattern_r3 ++ (wsX11_pattern_r4 ++ (wsX11_pattern_r5 ++ wsX11_pattern_r6))))) ++ wsX110 ++ wsX30 ++ wsX00 ++ wsX90 ++ wsX20)
def wsX11_hit : List Cond := .code yX11_hit cX11_hit 3 (some .int) :: ([.fieldLink RX11 51 "DiskEvidence" "finder" "LDiskEvidence$Finder;", .fieldLink RX11 338 "DiskEvidence$Finder" "hitCount" "I", .fieldLink RX11 341 "DiskEvidence$Finder" "hits" "[I"] ++ wsX110 ++ wsX00)
def wsX11_question_r1 : List Cond := [Cond.fieldLink RX11 58 "DiskEvidence" "query" "LDiskEvidence$Query;", Cond.fieldLink RX11 9 "DiskEvidence" "collected" "[B", Cond.methodLink RX11 239 yX11_treeAt, Cond.instanceMethod yX11_treeAt, Cond.selects RX11 yX11_treeAt yX11_treeAt, Cond.initialized RX11, Cond.code yX11_treeAt cX11_treeAt 2 (some (.object "DiskEvidence$Tree")), Cond.fieldLink RX11 188 "DiskEvidence" "treeCount" "I", Cond.fieldLink RX11 27 "DiskEvidence" "trees" "[LDiskEvidence$Tree;", Cond.methodLink RX11 91 yX11_forget, Cond.instanceMethod yX11_forget, Cond.selects RX11 yX11_forget yX11_forget, Cond.code yX11_forget cX11_forget 2 (some .int), Cond.fieldLink RX11 76 "DiskEvidence" "collectedCount" "I", Cond.methodLink RX11 344 yX6_ask, Cond.instanceMethod yX6_ask, Cond.selects RX6 yX6_ask yX6_ask, Cond.initialized RX6, Cond.code yX6_ask cX6_ask 6 (some .int), Cond.fieldLink RX6 26 "DiskEvidence$Query" "text" "[B", Cond.methodLink RX6 29 Lib.Math.min.name, Cond.static Lib.Math.min.name, Cond.initialized "java/lang/Math", Cond.code Lib.Math.min.name Lib.Math.min.code 2 (some .int)]
def wsX11_question_r2 : List Cond := [Cond.fieldLink RX6 35 "DiskEvidence$Query" "textLength" "I", Cond.fieldLink RX6 39 "DiskEvidence$Query" "place" "I", Cond.fieldLink RX6 42 "DiskEvidence$Query" "codeCount" "I", Cond.fieldLink RX6 45 "DiskEvidence$Query" "sortField" "I", Cond.fieldLink RX6 48 "DiskEvidence$Query" "falling" "Z", Cond.fieldLink RX6 66 "DiskEvidence$Query" "rowCount" "I", Cond.fieldLink RX6 69 "DiskEvidence$Tree" "total" "I", Cond.fieldLink RX6 74 "DiskEvidence$Tree" "items" "[LDiskEvidence$Item;", Cond.methodLink RX6 52 yX6_readTest, Cond.instanceMethod yX6_readTest, Cond.selects RX6 yX6_readTest yX6_readTest, Cond.code yX6_readTest cX6_readTest 3 (some .boolean), Cond.methodLink RX6 111 yX6_readAnd, Cond.instanceMethod yX6_readAnd, Cond.selects RX6 yX6_readAnd yX6_readAnd, Cond.methodLink RX6 86 yX6_nextIs, Cond.instanceMethod yX6_nextIs, Cond.selects RX6 yX6_nextIs yX6_nextIs, Cond.code yX6_nextIs cX6_nextIs 2 (some .boolean), Cond.methodLink RX6 114 yX6_emit, Cond.instanceMethod yX6_emit, Cond.selects RX6 yX6_emit yX6_emit, Cond.code yX6_emit cX6_emit 2 none, Cond.fieldLink RX6 19 "DiskEvidence$Query" "code" "[I"]
def wsX11_question_r3 : List Cond := [Cond.code yX6_readAnd cX6_readAnd 3 (some .boolean), Cond.methodLink RX6 118 yX6_readOne, Cond.instanceMethod yX6_readOne, Cond.selects RX6 yX6_readOne yX6_readOne, Cond.code yX6_readOne cX6_readOne 4 (some .boolean), Cond.methodLink RX6 89 yX6_skipBlanks, Cond.instanceMethod yX6_skipBlanks, Cond.selects RX6 yX6_skipBlanks yX6_skipBlanks, Cond.code yX6_skipBlanks cX6_skipBlanks 1 none, Cond.methodLink RX6 102 yX6_next, Cond.instanceMethod yX6_next, Cond.selects RX6 yX6_next yX6_next, Cond.code yX6_next cX6_next 1 (some .int), Cond.methodLink RX6 92 yX6_readWord, Cond.instanceMethod yX6_readWord, Cond.selects RX6 yX6_readWord yX6_readWord, Cond.code yX6_readWord cX6_readWord 7 (some .int), Cond.methodLink RX6 105 yJ0_charAt_5068e, Cond.instanceMethod yJ0_charAt_5068e, Cond.selects RJ0 yJ0_charAt_5068e yJ0_charAt_5068e, Cond.initialized RJ0, Cond.code yJ0_charAt_5068e cJ0_charAt_5068e 2 (some .char), Cond.fieldLink RJ0 9 "java/lang/String" "value" "[B", Cond.methodLink RJ0 492 yJ0_isLatin1_aae02]
def wsX11_question_r4 : List Cond := [Cond.instanceMethod yJ0_isLatin1_aae02, Cond.selects RJ0 yJ0_isLatin1_aae02 yJ0_isLatin1_aae02, Cond.code yJ0_isLatin1_aae02 cJ0_isLatin1_aae02 1 (some .boolean), Cond.fieldLink RJ0 38 "java/lang/String" "COMPACT_STRINGS" "Z", Cond.fieldLink RJ0 15 "java/lang/String" "coder" "B", Cond.methodLink RJ0 495 yJ1_charAt_3b067, Cond.static yJ1_charAt_3b067, Cond.initialized RJ1, Cond.code yJ1_charAt_3b067 cJ1_charAt_3b067 2 (some .char), Cond.methodLink RJ1 9 yJ0_checkIndex_df160, Cond.static yJ0_checkIndex_df160, Cond.code yJ0_checkIndex_df160 cJ0_checkIndex_df160 2 none, Cond.fieldLink RJ0 1053 "jdk/internal/util/Preconditions" "SIOOBE_FORMATTER" "Ljava/util/function/BiFunction;", Cond.methodLink RJ0 1059 yJ3_checkIndex_8e157, Cond.static yJ3_checkIndex_8e157, Cond.initialized RJ3, Cond.code yJ3_checkIndex_8e157 cJ3_checkIndex_8e157 3 (some .int), Cond.methodLink RJ0 498 yJ2_charAt_3b067, Cond.static yJ2_charAt_3b067, Cond.initialized RJ2, Cond.code yJ2_charAt_3b067 cJ2_charAt_3b067 2 (some .char), Cond.methodLink RJ2 67 yJ2_checkIndex_2214a, Cond.static yJ2_checkIndex_2214a, Cond.code yJ2_checkIndex_2214a cJ2_checkIndex_2214a 2 none]
def wsX11_question_r5 : List Cond := [Cond.methodLink RJ2 48 yJ2_length_9d52b, Cond.static yJ2_length_9d52b, Cond.code yJ2_length_9d52b cJ2_length_9d52b 1 (some .int), Cond.methodLink RJ2 414 yJ0_checkIndex_df160, Cond.methodLink RJ2 71 yJ2_getChar_3b067, Cond.static yJ2_getChar_3b067, Cond.code yJ2_getChar_3b067 cJ2_getChar_3b067 2 (some .char), Cond.fieldLink RJ2 44 "java/lang/StringUTF16" "$assertionsDisabled" "Z", Cond.fieldLink RJ2 59 "java/lang/StringUTF16" "HI_BYTE_SHIFT" "I", Cond.fieldLink RJ2 63 "java/lang/StringUTF16" "LO_BYTE_SHIFT" "I", Cond.methodLink RX6 121 yX6_readNameTest, Cond.instanceMethod yX6_readNameTest, Cond.selects RX6 yX6_readNameTest yX6_readNameTest, Cond.code yX6_readNameTest cX6_readNameTest 2 (some .boolean), Cond.methodLink RX6 124 yX6_readFieldTest, Cond.instanceMethod yX6_readFieldTest, Cond.selects RX6 yX6_readFieldTest yX6_readFieldTest, Cond.code yX6_readFieldTest cX6_readFieldTest 5 (some .boolean), Cond.methodLink RX6 58 yX6_readLetters, Cond.instanceMethod yX6_readLetters, Cond.selects RX6 yX6_readLetters yX6_readLetters, Cond.code yX6_readLetters cX6_readLetters 3 (some .boolean), Cond.methodLink RX6 96 yJ0_length_8abf5, Cond.instanceMethod yJ0_length_8abf5]
def wsX11_question_r6 : List Cond := [Cond.selects RJ0 yJ0_length_8abf5 yJ0_length_8abf5, Cond.code yJ0_length_8abf5 cJ0_length_8abf5 1 (some .int), Cond.methodLink RJ0 335 yJ0_coder_7d493, Cond.instanceMethod yJ0_coder_7d493, Cond.selects RJ0 yJ0_coder_7d493 yJ0_coder_7d493, Cond.code yJ0_coder_7d493 cJ0_coder_7d493 1 (some .byte), Cond.methodLink RX6 62 yX6_readOrder, Cond.instanceMethod yX6_readOrder, Cond.selects RX6 yX6_readOrder yX6_readOrder, Cond.code yX6_readOrder cX6_readOrder 1 (some .boolean), Cond.methodLink RX6 78 yX6_isTrue, Cond.instanceMethod yX6_isTrue, Cond.selects RX6 yX6_isTrue yX6_isTrue, Cond.code yX6_isTrue cX6_isTrue 9 (some .boolean), Cond.constantLong RX6 130 (-2), Cond.methodLink RX6 127 yX6_codeAt, Cond.instanceMethod yX6_codeAt, Cond.selects RX6 yX6_codeAt yX6_codeAt, Cond.code yX6_codeAt cX6_codeAt 2 (some .int), Cond.methodLink RX6 132 yX6_hasLetters, Cond.instanceMethod yX6_hasLetters, Cond.selects RX6 yX6_hasLetters yX6_hasLetters, Cond.code yX6_hasLetters cX6_hasLetters 6 (some .boolean), Cond.fieldLink RX6 140 "DiskEvidence$Item" "letters" "[B"]
def wsX11_question_r7 : List Cond := [Cond.static yX11_sameBytes, Cond.code yX11_sameBytes cX11_sameBytes 6 (some .boolean), Cond.methodLink RX6 136 yX6_compares, Cond.instanceMethod yX6_compares, Cond.selects RX6 yX6_compares yX6_compares, Cond.code yX6_compares cX6_compares 8 (some .boolean), Cond.fieldLink RX6 153 "DiskEvidence$Query" "has" "Z", Cond.methodLink RX6 149 yX6_valueOf, Cond.instanceMethod yX6_valueOf, Cond.selects RX6 yX6_valueOf yX6_valueOf, Cond.code yX6_valueOf cX6_valueOf 4 (some .long), Cond.fieldLink RX6 156 "DiskEvidence$Item" "kind" "I", Cond.fieldLink RX6 159 "DiskEvidence$Item" "size" "I", Cond.fieldLink RX6 165 "DiskEvidence$Tree" "form" "LDiskEvidence$Form;", Cond.fieldLink RX6 169 "DiskEvidence$Form" "zone" "I", Cond.fieldLink RX6 178 "DiskEvidence$Item" "grade" "I", Cond.fieldLink RX6 184 "DiskEvidence$Item" "blocks" "[I", Cond.fieldLink RX6 187 "DiskEvidence$Item" "faults" "I", Cond.fieldLink RX6 190 "DiskEvidence$Item" "depth" "I", Cond.methodLink RX6 162 yX2_hasMoment, Cond.instanceMethod yX2_hasMoment, Cond.selects RX2 yX2_hasMoment yX2_hasMoment, Cond.initialized RX2, Cond.code yX2_hasMoment cX2_hasMoment 2 (some .boolean)]
def wsX11_question_r8 : List Cond := [Cond.methodLink RX2 64 yX2_stamp, Cond.instanceMethod yX2_stamp, Cond.selects RX2 yX2_stamp yX2_stamp, Cond.code yX2_stamp cX2_stamp 2 (some .long), Cond.fieldLink RX2 17 "DiskEvidence$Item" "made" "J", Cond.fieldLink RX2 21 "DiskEvidence$Item" "altered" "J", Cond.fieldLink RX2 24 "DiskEvidence$Item" "erased" "J", Cond.methodLink RX6 174 yX2_moment, Cond.instanceMethod yX2_moment, Cond.selects RX2 yX2_moment yX2_moment, Cond.code yX2_moment cX2_moment 3 (some .long), Cond.fieldLink RX2 41 "DiskEvidence$Item" "sort" "I", Cond.constantLong RX2 68 (2), Cond.methodLink RX6 181 yX2_blockAt, Cond.instanceMethod yX2_blockAt, Cond.selects RX2 yX2_blockAt yX2_blockAt, Cond.code yX2_blockAt cX2_blockAt 2 (some .int), Cond.fieldLink RX2 38 "DiskEvidence$Item" "blocks" "[I", Cond.methodLink RX6 82 yX6_addRow, Cond.instanceMethod yX6_addRow, Cond.selects RX6 yX6_addRow yX6_addRow, Cond.code yX6_addRow cX6_addRow 6 none, Cond.fieldLink RX6 9 "DiskEvidence$Query" "rows" "[I", Cond.constantLong RX6 193 (9223372036854775807)]
def wsX11_question_r9 : List Cond := [Cond.fieldLink RX6 15 "DiskEvidence$Query" "keys" "[J"]
def wsX11_question : List Cond := .code yX11_question cX11_question 3 (some .int) :: ((wsX11_question_r1 ++ (wsX11_question_r2 ++ (wsX11_question_r3 ++ (wsX11_question_r4 ++ (wsX11_question_r5 ++ (wsX11_question_r6 ++ (wsX11_question_r7 ++ (wsX11_question_r8 ++ wsX11_question_r9)))))))) ++ wsX110 ++ wsX60 ++ wsX90 ++ wsX20 ++ wsX10)
def wsX11_row : List Cond := .code yX11_row cX11_row 2 (some .int) :: ([.fieldLink RX11 58 "DiskEvidence" "query" "LDiskEvidence$Query;", .fieldLink RX11 348 "DiskEvidence$Query" "rowCount" "I", .fieldLink RX11 351 "DiskEvidence$Query" "rows" "[I"] ++ wsX110 ++ wsX60)
def wsX11_line_r1 : List Cond := [Cond.fieldLink RX11 65 "DiskEvidence" "timeLine" "LDiskEvidence$TimeLine;", Cond.fieldLink RX11 354 "DiskEvidence$TimeLine" "momentCount" "I", Cond.fieldLink RX11 188 "DiskEvidence" "treeCount" "I", Cond.fieldLink RX11 27 "DiskEvidence" "trees" "[LDiskEvidence$Tree;", Cond.fieldLink RX11 357 "DiskEvidence$Tree" "total" "I", Cond.fieldLink RX11 290 "DiskEvidence" "openingCount" "I", Cond.fieldLink RX11 33 "DiskEvidence" "openings" "[LDiskEvidence$Opening;", Cond.methodLink RX11 360 yX8_addMoments, Cond.instanceMethod yX8_addMoments, Cond.selects RX8 yX8_addMoments yX8_addMoments, Cond.initialized RX8, Cond.code yX8_addMoments cX8_addMoments 6 none, Cond.fieldLink RX8 26 "DiskEvidence$Tree" "total" "I", Cond.fieldLink RX8 31 "DiskEvidence$Tree" "items" "[LDiskEvidence$Item;", Cond.fieldLink RX8 41 "DiskEvidence$Tree" "form" "LDiskEvidence$Form;", Cond.fieldLink RX8 45 "DiskEvidence$Form" "zone" "I", Cond.methodLink RX8 35 yX2_hasMoment, Cond.instanceMethod yX2_hasMoment, Cond.selects RX2 yX2_hasMoment yX2_hasMoment, Cond.initialized RX2, Cond.code yX2_hasMoment cX2_hasMoment 2 (some .boolean), Cond.methodLink RX2 64 yX2_stamp, Cond.instanceMethod yX2_stamp, Cond.selects RX2 yX2_stamp yX2_stamp]
def wsX11_line_r2 : List Cond := [Cond.code yX2_stamp cX2_stamp 2 (some .long), Cond.fieldLink RX2 17 "DiskEvidence$Item" "made" "J", Cond.fieldLink RX2 21 "DiskEvidence$Item" "altered" "J", Cond.fieldLink RX2 24 "DiskEvidence$Item" "erased" "J", Cond.methodLink RX8 50 yX2_moment, Cond.instanceMethod yX2_moment, Cond.selects RX2 yX2_moment yX2_moment, Cond.code yX2_moment cX2_moment 3 (some .long), Cond.fieldLink RX2 41 "DiskEvidence$Item" "sort" "I", Cond.constantLong RX2 68 (2), Cond.methodLink RX8 54 yX2_grain, Cond.instanceMethod yX2_grain, Cond.selects RX2 yX2_grain yX2_grain, Cond.code yX2_grain cX2_grain 1 (some .int), Cond.methodLink RX8 58 yX8_markOf, Cond.static yX8_markOf, Cond.code yX8_markOf cX8_markOf 4 (some .int), Cond.methodLink RX8 62 yX8_addMoment, Cond.instanceMethod yX8_addMoment, Cond.selects RX8 yX8_addMoment yX8_addMoment, Cond.code yX8_addMoment cX8_addMoment 4 none, Cond.fieldLink RX8 22 "DiskEvidence$TimeLine" "momentCount" "I", Cond.fieldLink RX8 11 "DiskEvidence$TimeLine" "moments" "[J", Cond.fieldLink RX8 15 "DiskEvidence$TimeLine" "marks" "[I"]
def wsX11_line_r3 : List Cond := [Cond.methodLink RX11 364 yX8_addNodes, Cond.instanceMethod yX8_addNodes, Cond.selects RX8 yX8_addNodes yX8_addNodes, Cond.code yX8_addNodes cX8_addNodes 5 none, Cond.fieldLink RX8 66 "DiskEvidence$Opening" "treeNumber" "I", Cond.fieldLink RX8 71 "DiskEvidence$Opening" "fileNumber" "I", Cond.fieldLink RX8 74 "DiskEvidence$Opening" "nodeCount" "I", Cond.methodLink RX8 77 yX4_nodeFact, Cond.instanceMethod yX4_nodeFact, Cond.selects RX4 yX4_nodeFact yX4_nodeFact, Cond.initialized RX4, Cond.code yX4_nodeFact cX4_nodeFact 4 (some .int), Cond.fieldLink RX4 31 "DiskEvidence$Opening" "facts" "[I", Cond.static yX11_unsigned, Cond.initialized RX11, Cond.code yX11_unsigned cX11_unsigned 1 (some .long), Cond.constantLong RX11 135 (4294967295), Cond.methodLink RX11 368 yX8_sortMoments, Cond.instanceMethod yX8_sortMoments, Cond.selects RX8 yX8_sortMoments yX8_sortMoments, Cond.code yX8_sortMoments cX8_sortMoments 6 none]
def wsX11_line : List Cond := .code yX11_line cX11_line 5 (some .int) :: ((wsX11_line_r1 ++ (wsX11_line_r2 ++ wsX11_line_r3)) ++ wsX110 ++ wsX80 ++ wsX90 ++ wsX10 ++ wsX20 ++ wsX40)
def wsX11_time : List Cond := .code yX11_time cX11_time 3 (some .long) :: ([.fieldLink RX11 65 "DiskEvidence" "timeLine" "LDiskEvidence$TimeLine;", .fieldLink RX11 354 "DiskEvidence$TimeLine" "momentCount" "I", .constantLong RX11 129 (-2), .methodLink RX11 371 yX8_momentFact, .instanceMethod yX8_momentFact, .selects RX8 yX8_momentFact yX8_momentFact, .initialized RX8, .code yX8_momentFact cX8_momentFact 3 (some .long), .constantLong RX8 85 (-2), .fieldLink RX8 11 "DiskEvidence$TimeLine" "moments" "[J", .fieldLink RX8 15 "DiskEvidence$TimeLine" "marks" "[I"] ++ wsX110 ++ wsX80)
def wsX11_doubts_r1 : List Cond := [Cond.fieldLink RX11 65 "DiskEvidence" "timeLine" "LDiskEvidence$TimeLine;", Cond.fieldLink RX11 375 "DiskEvidence$TimeLine" "doubtCount" "I", Cond.fieldLink RX11 188 "DiskEvidence" "treeCount" "I", Cond.fieldLink RX11 27 "DiskEvidence" "trees" "[LDiskEvidence$Tree;", Cond.fieldLink RX11 82 "DiskEvidence" "now" "I", Cond.methodLink RX11 378 yX8_addDoubts, Cond.instanceMethod yX8_addDoubts, Cond.selects RX8 yX8_addDoubts yX8_addDoubts, Cond.initialized RX8, Cond.code yX8_addDoubts cX8_addDoubts 12 none, Cond.fieldLink RX8 26 "DiskEvidence$Tree" "total" "I", Cond.fieldLink RX8 31 "DiskEvidence$Tree" "items" "[LDiskEvidence$Item;", Cond.fieldLink RX8 41 "DiskEvidence$Tree" "form" "LDiskEvidence$Form;", Cond.fieldLink RX8 45 "DiskEvidence$Form" "zone" "I", Cond.methodLink RX8 50 yX2_moment, Cond.instanceMethod yX2_moment, Cond.selects RX2 yX2_moment yX2_moment, Cond.initialized RX2, Cond.code yX2_moment cX2_moment 3 (some .long), Cond.fieldLink RX2 41 "DiskEvidence$Item" "sort" "I", Cond.constantLong RX2 68 (2), Cond.methodLink RX2 64 yX2_stamp, Cond.instanceMethod yX2_stamp, Cond.selects RX2 yX2_stamp yX2_stamp]
def wsX11_doubts_r2 : List Cond := [Cond.code yX2_stamp cX2_stamp 2 (some .long), Cond.fieldLink RX2 17 "DiskEvidence$Item" "made" "J", Cond.fieldLink RX2 21 "DiskEvidence$Item" "altered" "J", Cond.fieldLink RX2 24 "DiskEvidence$Item" "erased" "J", Cond.methodLink RX8 35 yX2_hasMoment, Cond.instanceMethod yX2_hasMoment, Cond.selects RX2 yX2_hasMoment yX2_hasMoment, Cond.code yX2_hasMoment cX2_hasMoment 2 (some .boolean), Cond.methodLink RX8 54 yX2_grain, Cond.instanceMethod yX2_grain, Cond.selects RX2 yX2_grain yX2_grain, Cond.code yX2_grain cX2_grain 1 (some .int), Cond.methodLink RX8 90 yX8_addDoubt, Cond.instanceMethod yX8_addDoubt, Cond.selects RX8 yX8_addDoubt yX8_addDoubt, Cond.code yX8_addDoubt cX8_addDoubt 4 none, Cond.fieldLink RX8 87 "DiskEvidence$TimeLine" "doubtCount" "I", Cond.fieldLink RX8 19 "DiskEvidence$TimeLine" "doubtMarks" "[I", Cond.methodLink RX8 58 yX8_markOf, Cond.static yX8_markOf, Cond.code yX8_markOf cX8_markOf 4 (some .int)]
def wsX11_doubts : List Cond := .code yX11_doubts cX11_doubts 2 (some .int) :: ((wsX11_doubts_r1 ++ wsX11_doubts_r2) ++ wsX110 ++ wsX80 ++ wsX90 ++ wsX10 ++ wsX20)
def wsX11_doubt : List Cond := .code yX11_doubt cX11_doubt 3 (some .int) :: ([.fieldLink RX11 65 "DiskEvidence" "timeLine" "LDiskEvidence$TimeLine;", .fieldLink RX11 375 "DiskEvidence$TimeLine" "doubtCount" "I", .methodLink RX11 381 yX8_doubtFact, .instanceMethod yX8_doubtFact, .selects RX8 yX8_doubtFact yX8_doubtFact, .initialized RX8, .code yX8_doubtFact cX8_doubtFact 3 (some .int), .fieldLink RX8 19 "DiskEvidence$TimeLine" "doubtMarks" "[I"] ++ wsX110 ++ wsX80)
def wsX11_claim_r1 : List Cond := [Cond.fieldLink RX11 384 "DiskEvidence$Item" "sort" "I", Cond.fieldLink RX11 387 "DiskEvidence" "claimCount" "I", Cond.fieldLink RX11 390 "DiskEvidence$Tree" "volumeNumber" "I", Cond.fieldLink RX11 37 "DiskEvidence" "claims" "[I", Cond.methodLink RX11 397 Lib.Math.min.name, Cond.static Lib.Math.min.name, Cond.initialized "java/lang/Math", Cond.code Lib.Math.min.name Lib.Math.min.code 2 (some .int), Cond.methodLink RX11 239 yX11_treeAt, Cond.instanceMethod yX11_treeAt, Cond.selects RX11 yX11_treeAt yX11_treeAt, Cond.initialized RX11, Cond.code yX11_treeAt cX11_treeAt 2 (some (.object "DiskEvidence$Tree")), Cond.fieldLink RX11 188 "DiskEvidence" "treeCount" "I", Cond.fieldLink RX11 27 "DiskEvidence" "trees" "[LDiskEvidence$Tree;", Cond.methodLink RX11 267 yX11_itemIn, Cond.static yX11_itemIn, Cond.code yX11_itemIn cX11_itemIn 2 (some (.object "DiskEvidence$Item")), Cond.fieldLink RX11 357 "DiskEvidence$Tree" "total" "I", Cond.fieldLink RX11 422 "DiskEvidence$Tree" "items" "[LDiskEvidence$Item;", Cond.methodLink RX11 152 yX11_volumeAt, Cond.instanceMethod yX11_volumeAt, Cond.selects RX11 yX11_volumeAt yX11_volumeAt, Cond.code yX11_volumeAt cX11_volumeAt 2 (some (.object "DiskEvidence$Volume"))]
def wsX11_claim_r2 : List Cond := [Cond.fieldLink RX11 143 "DiskEvidence" "volumeCount" "I", Cond.fieldLink RX11 21 "DiskEvidence" "volumes" "[LDiskEvidence$Volume;", Cond.methodLink RX11 393 yX11_gradeNow, Cond.static yX11_gradeNow, Cond.code yX11_gradeNow cX11_gradeNow 3 (some .int), Cond.fieldLink RX11 287 "DiskEvidence$Item" "blocks" "[I", Cond.fieldLink RX11 436 "DiskEvidence$Item" "grade" "I", Cond.methodLink RX11 439 Lib.Math.max.name, Cond.static Lib.Math.max.name, Cond.code Lib.Math.max.name Lib.Math.max.code 2 (some .int), Cond.methodLink RX11 432 yX11_isSpoilt, Cond.static yX11_isSpoilt, Cond.code yX11_isSpoilt cX11_isSpoilt 5 (some .boolean), Cond.fieldLink RX11 464 "DiskEvidence$Volume" "base" "LDiskEvidence$Picture;", Cond.fieldLink RX11 468 "DiskEvidence$Volume" "begin" "I", Cond.methodLink RX11 512 yX5_isLost, Cond.instanceMethod yX5_isLost, Cond.selects RX5 yX5_isLost yX5_isLost, Cond.initialized RX5, Cond.code yX5_isLost cX5_isLost 2 (some .boolean), Cond.fieldLink RX5 18 "DiskEvidence$Picture" "sectorCount" "I", Cond.fieldLink RX5 26 "DiskEvidence$Picture" "spoilt" "[Z", Cond.methodLink RX11 475 yX10_home, Cond.instanceMethod yX10_home]
def wsX11_claim_r3 : List Cond := [Cond.selects RX10 yX10_home yX10_home, Cond.initialized RX10, Cond.code yX10_home cX10_home 5 (some (.object "DiskEvidence$Volume")), Cond.fieldLink RX10 9 "DiskEvidence$Volume" "kind" "I", Cond.fieldLink RX10 35 "DiskEvidence$Volume" "third" "LDiskEvidence$Volume;", Cond.fieldLink RX10 28 "DiskEvidence$Volume" "first" "LDiskEvidence$Volume;", Cond.fieldLink RX10 15 "DiskEvidence$Volume" "size" "I", Cond.fieldLink RX10 32 "DiskEvidence$Volume" "second" "LDiskEvidence$Volume;", Cond.methodLink RX11 478 yX10_homeBlock, Cond.instanceMethod yX10_homeBlock, Cond.selects RX10 yX10_homeBlock yX10_homeBlock, Cond.code yX10_homeBlock cX10_homeBlock 2 (some .int), Cond.methodLink RX11 488 yX10_member, Cond.instanceMethod yX10_member, Cond.selects RX10 yX10_member yX10_member, Cond.code yX10_member cX10_member 2 (some (.object "DiskEvidence$Volume"))]
def wsX11_claim : List Cond := .code yX11_claim cX11_claim 10 (some .int) :: ((wsX11_claim_r1 ++ (wsX11_claim_r2 ++ wsX11_claim_r3)) ++ wsX20 ++ wsX110 ++ wsX90 ++ wsX100 ++ wsX50)
def wsX11_claimed : List Cond := .code yX11_claimed cX11_claimed 3 (some .int) :: ([.fieldLink RX11 387 "DiskEvidence" "claimCount" "I", .fieldLink RX11 37 "DiskEvidence" "claims" "[I"] ++ wsX110)
def wsX11_check_r1 : List Cond := [Cond.fieldLink RX11 387 "DiskEvidence" "claimCount" "I", Cond.fieldLink RX11 37 "DiskEvidence" "claims" "[I", Cond.fieldLink RX11 44 "DiskEvidence" "maker" "LDiskEvidence$Maker;", Cond.fieldLink RX11 204 "DiskEvidence$Maker" "image" "[B", Cond.fieldLink RX11 282 "DiskEvidence$Item" "size" "I", Cond.fieldLink RX11 409 "DiskEvidence$Maker" "before" "[B", Cond.methodLink RX11 239 yX11_treeAt, Cond.instanceMethod yX11_treeAt, Cond.selects RX11 yX11_treeAt yX11_treeAt, Cond.initialized RX11, Cond.code yX11_treeAt cX11_treeAt 2 (some (.object "DiskEvidence$Tree")), Cond.fieldLink RX11 188 "DiskEvidence" "treeCount" "I", Cond.fieldLink RX11 27 "DiskEvidence" "trees" "[LDiskEvidence$Tree;", Cond.methodLink RX11 152 yX11_volumeAt, Cond.instanceMethod yX11_volumeAt, Cond.selects RX11 yX11_volumeAt yX11_volumeAt, Cond.code yX11_volumeAt cX11_volumeAt 2 (some (.object "DiskEvidence$Volume")), Cond.fieldLink RX11 143 "DiskEvidence" "volumeCount" "I", Cond.fieldLink RX11 21 "DiskEvidence" "volumes" "[LDiskEvidence$Volume;", Cond.methodLink RX11 267 yX11_itemIn, Cond.static yX11_itemIn, Cond.code yX11_itemIn cX11_itemIn 2 (some (.object "DiskEvidence$Item")), Cond.fieldLink RX11 357 "DiskEvidence$Tree" "total" "I", Cond.fieldLink RX11 422 "DiskEvidence$Tree" "items" "[LDiskEvidence$Item;"]
def wsX11_check_r2 : List Cond := [Cond.methodLink RX11 402 yX11_readNow, Cond.static yX11_readNow, Cond.code yX11_readNow cX11_readNow 4 none, Cond.fieldLink RX11 287 "DiskEvidence$Item" "blocks" "[I", Cond.methodLink RX11 165 yX11_readBlock, Cond.static yX11_readBlock, Cond.code yX11_readBlock cX11_readBlock 8 none, Cond.fieldLink RX11 464 "DiskEvidence$Volume" "base" "LDiskEvidence$Picture;", Cond.fieldLink RX11 468 "DiskEvidence$Volume" "begin" "I", Cond.methodLink RX11 442 yX11_clear, Cond.static yX11_clear, Cond.code yX11_clear cX11_clear 3 none, Cond.methodLink RX11 448 yJ7_fill_eb02e, Cond.static yJ7_fill_eb02e, Cond.initialized RJ7, Cond.code yJ7_fill_eb02e cJ7_fill_eb02e 5 none, Cond.methodLink RJ7 13 yJ7_rangeCheck_23922, Cond.static yJ7_rangeCheck_23922, Cond.code yJ7_rangeCheck_23922 cJ7_rangeCheck_23922 3 none, Cond.methodLink RX11 471 yX5_copySector, Cond.instanceMethod yX5_copySector, Cond.selects RX5 yX5_copySector yX5_copySector, Cond.initialized RX5, Cond.code yX5_copySector cX5_copySector 4 none]
def wsX11_check_r3 : List Cond := [Cond.fieldLink RX5 18 "DiskEvidence$Picture" "sectorCount" "I", Cond.fieldLink RX5 26 "DiskEvidence$Picture" "spoilt" "[Z", Cond.fieldLink RX5 22 "DiskEvidence$Picture" "bytes" "[B", Cond.methodLink RX5 42 arraycopyName, Cond.native arraycopyName, Cond.static arraycopyName, Cond.initialized "java/lang/System", Cond.methodLink RX11 475 yX10_home, Cond.instanceMethod yX10_home, Cond.selects RX10 yX10_home yX10_home, Cond.initialized RX10, Cond.code yX10_home cX10_home 5 (some (.object "DiskEvidence$Volume")), Cond.fieldLink RX10 9 "DiskEvidence$Volume" "kind" "I", Cond.fieldLink RX10 35 "DiskEvidence$Volume" "third" "LDiskEvidence$Volume;", Cond.fieldLink RX10 28 "DiskEvidence$Volume" "first" "LDiskEvidence$Volume;", Cond.fieldLink RX10 15 "DiskEvidence$Volume" "size" "I", Cond.fieldLink RX10 32 "DiskEvidence$Volume" "second" "LDiskEvidence$Volume;", Cond.methodLink RX11 478 yX10_homeBlock, Cond.instanceMethod yX10_homeBlock, Cond.selects RX10 yX10_homeBlock yX10_homeBlock, Cond.code yX10_homeBlock cX10_homeBlock 2 (some .int), Cond.methodLink RX11 481 yX11_xorBlock, Cond.static yX11_xorBlock, Cond.code yX11_xorBlock cX11_xorBlock 7 none]
def wsX11_check_r4 : List Cond := [Cond.fieldLink RX11 159 "DiskEvidence$Volume" "size" "I", Cond.methodLink RX11 485 yX5_xorSector, Cond.instanceMethod yX5_xorSector, Cond.selects RX5 yX5_xorSector yX5_xorSector, Cond.code yX5_xorSector cX5_xorSector 5 none, Cond.methodLink RX11 488 yX10_member, Cond.instanceMethod yX10_member, Cond.selects RX10 yX10_member yX10_member, Cond.code yX10_member cX10_member 2 (some (.object "DiskEvidence$Volume")), Cond.methodLink RX11 406 yX11_crcOf, Cond.static yX11_crcOf, Cond.code yX11_crcOf cX11_crcOf 5 (some .int), Cond.methodLink RX11 169 yX11_u8, Cond.static yX11_u8, Cond.code yX11_u8 cX11_u8 2 (some .int), Cond.methodLink RX11 131 yX11_crcStep, Cond.static yX11_crcStep, Cond.code yX11_crcStep cX11_crcStep 3 (some .int), Cond.fieldLink RX11 452 "DiskEvidence" "CRC_STEPS" "[I", Cond.methodLink RX11 412 yX11_sameBytes, Cond.static yX11_sameBytes, Cond.code yX11_sameBytes cX11_sameBytes 6 (some .boolean)]
def wsX11_check : List Cond := .code yX11_check cX11_check 8 (some .int) :: ((wsX11_check_r1 ++ (wsX11_check_r2 ++ (wsX11_check_r3 ++ wsX11_check_r4))) ++ wsX110 ++ wsX30 ++ wsX20 ++ wsX90 ++ wsX100 ++ wsX50)
def wsX11_dueLink : List Cond := .code yX11_dueLink cX11_dueLink 4 (some .long) :: ([.fieldLink RX11 72 "DiskEvidence" "links" "[J", .constantLong RX11 426 (-7046029254386353131), .fieldLink RX11 69 "DiskEvidence" "acts" "[I", .constantLong RX11 428 (-4658895280553007687), .constantLong RX11 430 (-7723592293110705685)] ++ wsX110)
def wsX11_act : List Cond := .code yX11_act cX11_act 4 (some .int) :: ([.fieldLink RX11 416 "DiskEvidence" "actCount" "I", .fieldLink RX11 69 "DiskEvidence" "acts" "[I", .fieldLink RX11 82 "DiskEvidence" "now" "I", .fieldLink RX11 72 "DiskEvidence" "links" "[J", .methodLink RX11 419 yX11_dueLink, .instanceMethod yX11_dueLink, .selects RX11 yX11_dueLink yX11_dueLink, .initialized RX11, .code yX11_dueLink cX11_dueLink 4 (some .long), .constantLong RX11 426 (-7046029254386353131), .constantLong RX11 428 (-4658895280553007687), .constantLong RX11 430 (-7723592293110705685)] ++ wsX110)
def wsX11_link : List Cond := .code yX11_link cX11_link 2 (some .long) :: ([.fieldLink RX11 416 "DiskEvidence" "actCount" "I", .fieldLink RX11 72 "DiskEvidence" "links" "[J"] ++ wsX110)
def wsX11_alter : List Cond := .code yX11_alter cX11_alter 5 (some .int) :: ([.fieldLink RX11 416 "DiskEvidence" "actCount" "I", .fieldLink RX11 69 "DiskEvidence" "acts" "[I"] ++ wsX110)
def wsX11_chain : List Cond := .code yX11_chain cX11_chain 2 (some .int) :: ([.fieldLink RX11 416 "DiskEvidence" "actCount" "I", .fieldLink RX11 72 "DiskEvidence" "links" "[J", .methodLink RX11 419 yX11_dueLink, .instanceMethod yX11_dueLink, .selects RX11 yX11_dueLink yX11_dueLink, .initialized RX11, .code yX11_dueLink cX11_dueLink 4 (some .long), .constantLong RX11 426 (-7046029254386353131), .fieldLink RX11 69 "DiskEvidence" "acts" "[I", .constantLong RX11 428 (-4658895280553007687), .constantLong RX11 430 (-7723592293110705685)] ++ wsX110)
def wsX11_count : List Cond := .code yX11_count cX11_count 2 (some .int) :: ([.fieldLink RX11 76 "DiskEvidence" "collectedCount" "I", .fieldLink RX11 85 "DiskEvidence" "pictureCount" "I", .fieldLink RX11 143 "DiskEvidence" "volumeCount" "I", .fieldLink RX11 188 "DiskEvidence" "treeCount" "I", .fieldLink RX11 290 "DiskEvidence" "openingCount" "I", .fieldLink RX11 51 "DiskEvidence" "finder" "LDiskEvidence$Finder;", .fieldLink RX11 338 "DiskEvidence$Finder" "hitCount" "I", .fieldLink RX11 58 "DiskEvidence" "query" "LDiskEvidence$Query;", .fieldLink RX11 348 "DiskEvidence$Query" "rowCount" "I", .fieldLink RX11 387 "DiskEvidence" "claimCount" "I", .fieldLink RX11 416 "DiskEvidence" "actCount" "I", .fieldLink RX11 82 "DiskEvidence" "now" "I"] ++ wsX110 ++ wsX00 ++ wsX60)
def wsX12_in : List Cond := .code yX12_in cX12_in 6 (some .boolean) :: ([])
def wsX12_collect : List Cond := .code yX12_collect cX12_collect 5 (some .int) :: ([.constantLong RX12 370 (8), .fieldLink RX12 376 "DiskEvidenceModel" "many" "I", .fieldLink RX12 7 "DiskEvidenceModel" "bytes" "[I", .constantLong RX12 379 (255), .methodLink RX12 372 yX12_in, .static yX12_in, .initialized RX12, .code yX12_in cX12_in 6 (some .boolean)] ++ wsX120)
def wsX12_forget : List Cond := .code yX12_forget cX12_forget 2 (some .int) :: ([.fieldLink RX12 376 "DiskEvidenceModel" "many" "I"] ++ wsX120)
def wsX12_tick : List Cond := .code yX12_tick cX12_tick 2 (some .int) :: ([.constantLong RX12 381 (1000000000), .fieldLink RX12 383 "DiskEvidenceModel" "now" "I", .constantLong RX12 386 (2000000000), .methodLink RX12 372 yX12_in, .static yX12_in, .initialized RX12, .code yX12_in cX12_in 6 (some .boolean)] ++ wsX120)
def wsX12_isPicture : List Cond := .code yX12_isPicture cX12_isPicture 2 (some .boolean) :: ([.fieldLink RX12 393 "DiskEvidenceModel" "pictures" "I", .methodLink RX12 372 yX12_in, .static yX12_in, .initialized RX12, .code yX12_in cX12_in 6 (some .boolean)] ++ wsX120)
def wsX12_isSector : List Cond := .code yX12_isSector cX12_isSector 3 (some .boolean) :: ([.fieldLink RX12 13 "DiskEvidenceModel" "sectorsOf" "[I", .methodLink RX12 396 yX12_isPicture, .instanceMethod yX12_isPicture, .selects RX12 yX12_isPicture yX12_isPicture, .initialized RX12, .code yX12_isPicture cX12_isPicture 2 (some .boolean), .fieldLink RX12 393 "DiskEvidenceModel" "pictures" "I", .methodLink RX12 372 yX12_in, .static yX12_in, .code yX12_in cX12_in 6 (some .boolean)] ++ wsX120)
def wsX12_begin : List Cond := .code yX12_begin cX12_begin 4 (some .int) :: ([.fieldLink RX12 393 "DiskEvidenceModel" "pictures" "I", .fieldLink RX12 13 "DiskEvidenceModel" "sectorsOf" "[I", .fieldLink RX12 17 "DiskEvidenceModel" "data" "[I", .fieldLink RX12 20 "DiskEvidenceModel" "isSpoilt" "[Z"] ++ wsX120)
def wsX12_blank : List Cond := .code yX12_blank cX12_blank 2 (some .int) :: ([.constantLong RX12 400 (128), .fieldLink RX12 393 "DiskEvidenceModel" "pictures" "I", .methodLink RX12 372 yX12_in, .static yX12_in, .initialized RX12, .code yX12_in cX12_in 6 (some .boolean), .methodLink RX12 402 yX12_begin, .instanceMethod yX12_begin, .selects RX12 yX12_begin yX12_begin, .code yX12_begin cX12_begin 4 (some .int), .fieldLink RX12 13 "DiskEvidenceModel" "sectorsOf" "[I", .fieldLink RX12 17 "DiskEvidenceModel" "data" "[I", .fieldLink RX12 20 "DiskEvidenceModel" "isSpoilt" "[Z"] ++ wsX120)
def wsX12_is : List Cond := .code yX12_is cX12_is 4 (some .boolean) :: ([.fieldLink RX12 376 "DiskEvidenceModel" "many" "I", .fieldLink RX12 406 "DiskEvidenceModel" "badAt" "I", .fieldLink RX12 7 "DiskEvidenceModel" "bytes" "[I", .methodLink RX12 372 yX12_in, .static yX12_in, .initialized RX12, .code yX12_in cX12_in 6 (some .boolean)] ++ wsX120)
def wsX12_unpack_r1 : List Cond := [Cond.fieldLink RX12 406 "DiskEvidenceModel" "badAt" "I", Cond.fieldLink RX12 7 "DiskEvidenceModel" "bytes" "[I", Cond.constantLong RX12 400 (128), Cond.fieldLink RX12 376 "DiskEvidenceModel" "many" "I", Cond.fieldLink RX12 17 "DiskEvidenceModel" "data" "[I", Cond.fieldLink RX12 20 "DiskEvidenceModel" "isSpoilt" "[Z", Cond.methodLink RX12 413 yX12_is, Cond.instanceMethod yX12_is, Cond.selects RX12 yX12_is yX12_is, Cond.initialized RX12, Cond.code yX12_is cX12_is 4 (some .boolean), Cond.methodLink RX12 372 yX12_in, Cond.static yX12_in, Cond.code yX12_in cX12_in 6 (some .boolean), Cond.methodLink RX12 417 yX12_number, Cond.static yX12_number, Cond.code yX12_number cX12_number 5 (some .int), Cond.methodLink RX12 421 yX12_crcOf, Cond.instanceMethod yX12_crcOf, Cond.selects RX12 yX12_crcOf yX12_crcOf, Cond.code yX12_crcOf cX12_crcOf 6 (some .int), Cond.methodLink RX12 389 yX12_mixed, Cond.static yX12_mixed, Cond.code yX12_mixed cX12_mixed 4 (some .int)]
def wsX12_unpack_r2 : List Cond := [Cond.constant RX12 388 (-306674912), Cond.methodLink RX12 402 yX12_begin, Cond.instanceMethod yX12_begin, Cond.selects RX12 yX12_begin yX12_begin, Cond.code yX12_begin cX12_begin 4 (some .int), Cond.fieldLink RX12 393 "DiskEvidenceModel" "pictures" "I", Cond.fieldLink RX12 13 "DiskEvidenceModel" "sectorsOf" "[I"]
def wsX12_unpack : List Cond := .code yX12_unpack cX12_unpack 7 (some .int) :: ((wsX12_unpack_r1 ++ wsX12_unpack_r2) ++ wsX120)
def wsX12_picture_r1 : List Cond := [Cond.fieldLink RX12 393 "DiskEvidenceModel" "pictures" "I", Cond.fieldLink RX12 376 "DiskEvidenceModel" "many" "I", Cond.methodLink RX12 409 yX12_unpack, Cond.instanceMethod yX12_unpack, Cond.selects RX12 yX12_unpack yX12_unpack, Cond.initialized RX12, Cond.code yX12_unpack cX12_unpack 7 (some .int), Cond.fieldLink RX12 406 "DiskEvidenceModel" "badAt" "I", Cond.fieldLink RX12 7 "DiskEvidenceModel" "bytes" "[I", Cond.constantLong RX12 400 (128), Cond.fieldLink RX12 17 "DiskEvidenceModel" "data" "[I", Cond.fieldLink RX12 20 "DiskEvidenceModel" "isSpoilt" "[Z", Cond.methodLink RX12 413 yX12_is, Cond.instanceMethod yX12_is, Cond.selects RX12 yX12_is yX12_is, Cond.code yX12_is cX12_is 4 (some .boolean), Cond.methodLink RX12 372 yX12_in, Cond.static yX12_in, Cond.code yX12_in cX12_in 6 (some .boolean), Cond.methodLink RX12 417 yX12_number, Cond.static yX12_number, Cond.code yX12_number cX12_number 5 (some .int), Cond.methodLink RX12 421 yX12_crcOf, Cond.instanceMethod yX12_crcOf]
def wsX12_picture_r2 : List Cond := [Cond.selects RX12 yX12_crcOf yX12_crcOf, Cond.code yX12_crcOf cX12_crcOf 6 (some .int), Cond.methodLink RX12 389 yX12_mixed, Cond.static yX12_mixed, Cond.code yX12_mixed cX12_mixed 4 (some .int), Cond.constant RX12 388 (-306674912), Cond.methodLink RX12 402 yX12_begin, Cond.instanceMethod yX12_begin, Cond.selects RX12 yX12_begin yX12_begin, Cond.code yX12_begin cX12_begin 4 (some .int), Cond.fieldLink RX12 13 "DiskEvidenceModel" "sectorsOf" "[I"]
def wsX12_picture : List Cond := .code yX12_picture cX12_picture 2 (some .int) :: ((wsX12_picture_r1 ++ wsX12_picture_r2) ++ wsX120)
def wsX12_sectors : List Cond := .code yX12_sectors cX12_sectors 2 (some .int) :: ([.fieldLink RX12 13 "DiskEvidenceModel" "sectorsOf" "[I", .methodLink RX12 396 yX12_isPicture, .instanceMethod yX12_isPicture, .selects RX12 yX12_isPicture yX12_isPicture, .initialized RX12, .code yX12_isPicture cX12_isPicture 2 (some .boolean), .fieldLink RX12 393 "DiskEvidenceModel" "pictures" "I", .methodLink RX12 372 yX12_in, .static yX12_in, .code yX12_in cX12_in 6 (some .boolean)] ++ wsX120)
def wsX12_spoil : List Cond := .code yX12_spoil cX12_spoil 5 (some .int) :: ([.fieldLink RX12 20 "DiskEvidenceModel" "isSpoilt" "[Z", .methodLink RX12 424 yX12_isSector, .instanceMethod yX12_isSector, .selects RX12 yX12_isSector yX12_isSector, .initialized RX12, .code yX12_isSector cX12_isSector 3 (some .boolean), .fieldLink RX12 13 "DiskEvidenceModel" "sectorsOf" "[I", .methodLink RX12 396 yX12_isPicture, .instanceMethod yX12_isPicture, .selects RX12 yX12_isPicture yX12_isPicture, .code yX12_isPicture cX12_isPicture 2 (some .boolean), .fieldLink RX12 393 "DiskEvidenceModel" "pictures" "I", .methodLink RX12 372 yX12_in, .static yX12_in, .code yX12_in cX12_in 6 (some .boolean), .methodLink RX12 428 yX12_change, .instanceMethod yX12_change, .selects RX12 yX12_change yX12_change, .code yX12_change cX12_change 3 none, .fieldLink RX12 50 "DiskEvidenceModel" "sectorChanged" "[Z", .fieldLink RX12 46 "DiskEvidenceModel" "isOld" "Z"] ++ wsX120)
def wsX12_isByte : List Cond := .code yX12_isByte cX12_isByte 3 (some .boolean) :: ([.fieldLink RX12 13 "DiskEvidenceModel" "sectorsOf" "[I", .methodLink RX12 396 yX12_isPicture, .instanceMethod yX12_isPicture, .selects RX12 yX12_isPicture yX12_isPicture, .initialized RX12, .code yX12_isPicture cX12_isPicture 2 (some .boolean), .fieldLink RX12 393 "DiskEvidenceModel" "pictures" "I", .methodLink RX12 372 yX12_in, .static yX12_in, .code yX12_in cX12_in 6 (some .boolean)] ++ wsX120)
def wsX12_byteAt : List Cond := .code yX12_byteAt cX12_byteAt 3 (some .int) :: ([.methodLink RX12 432 yX12_isByte, .instanceMethod yX12_isByte, .selects RX12 yX12_isByte yX12_isByte, .initialized RX12, .code yX12_isByte cX12_isByte 3 (some .boolean), .fieldLink RX12 13 "DiskEvidenceModel" "sectorsOf" "[I", .methodLink RX12 396 yX12_isPicture, .instanceMethod yX12_isPicture, .selects RX12 yX12_isPicture yX12_isPicture, .code yX12_isPicture cX12_isPicture 2 (some .boolean), .fieldLink RX12 393 "DiskEvidenceModel" "pictures" "I", .methodLink RX12 372 yX12_in, .static yX12_in, .code yX12_in cX12_in 6 (some .boolean), .methodLink RX12 435 yX12_read, .instanceMethod yX12_read, .selects RX12 yX12_read yX12_read, .code yX12_read cX12_read 3 (some .int), .fieldLink RX12 20 "DiskEvidenceModel" "isSpoilt" "[Z", .fieldLink RX12 17 "DiskEvidenceModel" "data" "[I"] ++ wsX120)
def wsX12_poke_r1 : List Cond := [Cond.constantLong RX12 379 (255), Cond.fieldLink RX12 20 "DiskEvidenceModel" "isSpoilt" "[Z", Cond.fieldLink RX12 17 "DiskEvidenceModel" "data" "[I", Cond.methodLink RX12 432 yX12_isByte, Cond.instanceMethod yX12_isByte, Cond.selects RX12 yX12_isByte yX12_isByte, Cond.initialized RX12, Cond.code yX12_isByte cX12_isByte 3 (some .boolean), Cond.fieldLink RX12 13 "DiskEvidenceModel" "sectorsOf" "[I", Cond.methodLink RX12 396 yX12_isPicture, Cond.instanceMethod yX12_isPicture, Cond.selects RX12 yX12_isPicture yX12_isPicture, Cond.code yX12_isPicture cX12_isPicture 2 (some .boolean), Cond.fieldLink RX12 393 "DiskEvidenceModel" "pictures" "I", Cond.methodLink RX12 372 yX12_in, Cond.static yX12_in, Cond.code yX12_in cX12_in 6 (some .boolean), Cond.methodLink RX12 435 yX12_read, Cond.instanceMethod yX12_read, Cond.selects RX12 yX12_read yX12_read, Cond.code yX12_read cX12_read 3 (some .int), Cond.methodLink RX12 428 yX12_change, Cond.instanceMethod yX12_change, Cond.selects RX12 yX12_change yX12_change]
def wsX12_poke_r2 : List Cond := [Cond.code yX12_change cX12_change 3 none, Cond.fieldLink RX12 50 "DiskEvidenceModel" "sectorChanged" "[Z", Cond.fieldLink RX12 46 "DiskEvidenceModel" "isOld" "Z"]
def wsX12_poke : List Cond := .code yX12_poke cX12_poke 5 (some .int) :: ((wsX12_poke_r1 ++ wsX12_poke_r2) ++ wsX120)
def wsX12_crc : List Cond := .code yX12_crc cX12_crc 6 (some .long) :: ([.fieldLink RX12 13 "DiskEvidenceModel" "sectorsOf" "[I", .constantLong RX12 438 (-2), .constantLong RX12 440 (4294967295), .methodLink RX12 396 yX12_isPicture, .instanceMethod yX12_isPicture, .selects RX12 yX12_isPicture yX12_isPicture, .initialized RX12, .code yX12_isPicture cX12_isPicture 2 (some .boolean), .fieldLink RX12 393 "DiskEvidenceModel" "pictures" "I", .methodLink RX12 372 yX12_in, .static yX12_in, .code yX12_in cX12_in 6 (some .boolean), .methodLink RX12 435 yX12_read, .instanceMethod yX12_read, .selects RX12 yX12_read yX12_read, .code yX12_read cX12_read 3 (some .int), .fieldLink RX12 20 "DiskEvidenceModel" "isSpoilt" "[Z", .fieldLink RX12 17 "DiskEvidenceModel" "data" "[I", .methodLink RX12 389 yX12_mixed, .static yX12_mixed, .code yX12_mixed cX12_mixed 4 (some .int), .constant RX12 388 (-306674912)] ++ wsX120)
def wsX12_parts_r1 : List Cond := [Cond.fieldLink RX12 448 "DiskEvidenceModel" "parts" "I", Cond.methodLink RX12 396 yX12_isPicture, Cond.instanceMethod yX12_isPicture, Cond.selects RX12 yX12_isPicture yX12_isPicture, Cond.initialized RX12, Cond.code yX12_isPicture cX12_isPicture 2 (some .boolean), Cond.fieldLink RX12 393 "DiskEvidenceModel" "pictures" "I", Cond.methodLink RX12 372 yX12_in, Cond.static yX12_in, Cond.code yX12_in cX12_in 6 (some .boolean), Cond.methodLink RX12 457 yX12_findParts, Cond.instanceMethod yX12_findParts, Cond.selects RX12 yX12_findParts yX12_findParts, Cond.code yX12_findParts cX12_findParts 7 none, Cond.fieldLink RX12 442 "DiskEvidenceModel" "tablesMany" "I", Cond.fieldLink RX12 68 "DiskEvidenceModel" "tables" "[I", Cond.fieldLink RX12 71 "DiskEvidenceModel" "openTable" "[I", Cond.fieldLink RX12 74 "DiskEvidenceModel" "openRow" "[I", Cond.fieldLink RX12 56 "DiskEvidenceModel" "partKind" "[I", Cond.fieldLink RX12 59 "DiskEvidenceModel" "partFirst" "[I", Cond.fieldLink RX12 62 "DiskEvidenceModel" "partMany" "[I", Cond.fieldLink RX12 65 "DiskEvidenceModel" "partTable" "[I", Cond.methodLink RX12 445 yX12_isTable, Cond.instanceMethod yX12_isTable]
def wsX12_parts_r2 : List Cond := [Cond.selects RX12 yX12_isTable yX12_isTable, Cond.code yX12_isTable cX12_isTable 3 (some .boolean), Cond.fieldLink RX12 13 "DiskEvidenceModel" "sectorsOf" "[I", Cond.methodLink RX12 435 yX12_read, Cond.instanceMethod yX12_read, Cond.selects RX12 yX12_read yX12_read, Cond.code yX12_read cX12_read 3 (some .int), Cond.fieldLink RX12 20 "DiskEvidenceModel" "isSpoilt" "[Z", Cond.fieldLink RX12 17 "DiskEvidenceModel" "data" "[I", Cond.methodLink RX12 451 yX12_two, Cond.instanceMethod yX12_two, Cond.selects RX12 yX12_two yX12_two, Cond.code yX12_two cX12_two 3 (some .int), Cond.methodLink RX12 454 yX12_isNewTable, Cond.instanceMethod yX12_isNewTable, Cond.selects RX12 yX12_isNewTable yX12_isNewTable, Cond.code yX12_isNewTable cX12_isNewTable 5 (some .boolean)]
def wsX12_parts : List Cond := .code yX12_parts cX12_parts 2 (some .int) :: ((wsX12_parts_r1 ++ wsX12_parts_r2) ++ wsX120)
def wsX12_part_r1 : List Cond := [Cond.fieldLink RX12 448 "DiskEvidenceModel" "parts" "I", Cond.constantLong RX12 461 (5), Cond.fieldLink RX12 56 "DiskEvidenceModel" "partKind" "[I", Cond.fieldLink RX12 59 "DiskEvidenceModel" "partFirst" "[I", Cond.fieldLink RX12 62 "DiskEvidenceModel" "partMany" "[I", Cond.fieldLink RX12 65 "DiskEvidenceModel" "partTable" "[I", Cond.fieldLink RX12 13 "DiskEvidenceModel" "sectorsOf" "[I", Cond.methodLink RX12 396 yX12_isPicture, Cond.instanceMethod yX12_isPicture, Cond.selects RX12 yX12_isPicture yX12_isPicture, Cond.initialized RX12, Cond.code yX12_isPicture cX12_isPicture 2 (some .boolean), Cond.fieldLink RX12 393 "DiskEvidenceModel" "pictures" "I", Cond.methodLink RX12 372 yX12_in, Cond.static yX12_in, Cond.code yX12_in cX12_in 6 (some .boolean), Cond.methodLink RX12 457 yX12_findParts, Cond.instanceMethod yX12_findParts, Cond.selects RX12 yX12_findParts yX12_findParts, Cond.code yX12_findParts cX12_findParts 7 none, Cond.fieldLink RX12 442 "DiskEvidenceModel" "tablesMany" "I", Cond.fieldLink RX12 68 "DiskEvidenceModel" "tables" "[I", Cond.fieldLink RX12 71 "DiskEvidenceModel" "openTable" "[I", Cond.fieldLink RX12 74 "DiskEvidenceModel" "openRow" "[I"]
def wsX12_part_r2 : List Cond := [Cond.methodLink RX12 445 yX12_isTable, Cond.instanceMethod yX12_isTable, Cond.selects RX12 yX12_isTable yX12_isTable, Cond.code yX12_isTable cX12_isTable 3 (some .boolean), Cond.methodLink RX12 435 yX12_read, Cond.instanceMethod yX12_read, Cond.selects RX12 yX12_read yX12_read, Cond.code yX12_read cX12_read 3 (some .int), Cond.fieldLink RX12 20 "DiskEvidenceModel" "isSpoilt" "[Z", Cond.fieldLink RX12 17 "DiskEvidenceModel" "data" "[I", Cond.methodLink RX12 451 yX12_two, Cond.instanceMethod yX12_two, Cond.selects RX12 yX12_two yX12_two, Cond.code yX12_two cX12_two 3 (some .int), Cond.methodLink RX12 454 yX12_isNewTable, Cond.instanceMethod yX12_isNewTable, Cond.selects RX12 yX12_isNewTable yX12_isNewTable, Cond.code yX12_isNewTable cX12_isNewTable 5 (some .boolean), Cond.methodLink RX12 463 yX12_areJoint, Cond.instanceMethod yX12_areJoint, Cond.selects RX12 yX12_areJoint yX12_areJoint, Cond.code yX12_areJoint cX12_areJoint 4 (some .boolean)]
def wsX12_part : List Cond := .code yX12_part cX12_part 5 (some .int) :: ((wsX12_part_r1 ++ wsX12_part_r2) ++ wsX120)
def wsX12_isVolume : List Cond := .code yX12_isVolume cX12_isVolume 2 (some .boolean) :: ([.fieldLink RX12 466 "DiskEvidenceModel" "volumes" "I", .methodLink RX12 372 yX12_in, .static yX12_in, .initialized RX12, .code yX12_in cX12_in 6 (some .boolean)] ++ wsX120)
def wsX12_volume : List Cond := .code yX12_volume cX12_volume 4 (some .int) :: ([.fieldLink RX12 13 "DiskEvidenceModel" "sectorsOf" "[I", .fieldLink RX12 466 "DiskEvidenceModel" "volumes" "I", .fieldLink RX12 27 "DiskEvidenceModel" "pictureOf" "[I", .fieldLink RX12 30 "DiskEvidenceModel" "beginOf" "[I", .methodLink RX12 396 yX12_isPicture, .instanceMethod yX12_isPicture, .selects RX12 yX12_isPicture yX12_isPicture, .initialized RX12, .code yX12_isPicture cX12_isPicture 2 (some .boolean), .fieldLink RX12 393 "DiskEvidenceModel" "pictures" "I", .methodLink RX12 372 yX12_in, .static yX12_in, .code yX12_in cX12_in 6 (some .boolean), .methodLink RX12 469 yX12_newVolume, .instanceMethod yX12_newVolume, .selects RX12 yX12_newVolume yX12_newVolume, .code yX12_newVolume cX12_newVolume 3 (some .int), .fieldLink RX12 24 "DiskEvidenceModel" "sort" "[I", .fieldLink RX12 33 "DiskEvidenceModel" "blocksOf" "[I", .fieldLink RX12 46 "DiskEvidenceModel" "isOld" "Z"] ++ wsX120)
def wsX12_join : List Cond := .code yX12_join cX12_join 14 (some .int) :: ([.constantLong RX12 472 (4), .fieldLink RX12 33 "DiskEvidenceModel" "blocksOf" "[I", .fieldLink RX12 466 "DiskEvidenceModel" "volumes" "I", .fieldLink RX12 36 "DiskEvidenceModel" "members" "[I", .methodLink RX12 372 yX12_in, .static yX12_in, .initialized RX12, .code yX12_in cX12_in 6 (some .boolean), .methodLink RX12 474 yX12_isVolume, .instanceMethod yX12_isVolume, .selects RX12 yX12_isVolume yX12_isVolume, .code yX12_isVolume cX12_isVolume 2 (some .boolean), .methodLink RX12 469 yX12_newVolume, .instanceMethod yX12_newVolume, .selects RX12 yX12_newVolume yX12_newVolume, .code yX12_newVolume cX12_newVolume 3 (some .int), .fieldLink RX12 24 "DiskEvidenceModel" "sort" "[I", .fieldLink RX12 46 "DiskEvidenceModel" "isOld" "Z"] ++ wsX120)
def wsX12_blocks : List Cond := .code yX12_blocks cX12_blocks 2 (some .int) :: ([.fieldLink RX12 33 "DiskEvidenceModel" "blocksOf" "[I", .methodLink RX12 474 yX12_isVolume, .instanceMethod yX12_isVolume, .selects RX12 yX12_isVolume yX12_isVolume, .initialized RX12, .code yX12_isVolume cX12_isVolume 2 (some .boolean), .fieldLink RX12 466 "DiskEvidenceModel" "volumes" "I", .methodLink RX12 372 yX12_in, .static yX12_in, .code yX12_in cX12_in 6 (some .boolean)] ++ wsX120)
def wsX12_volumeByte_r1 : List Cond := [Cond.fieldLink RX12 33 "DiskEvidenceModel" "blocksOf" "[I", Cond.fieldLink RX12 40 "DiskEvidenceModel" "all" "[I", Cond.methodLink RX12 474 yX12_isVolume, Cond.instanceMethod yX12_isVolume, Cond.selects RX12 yX12_isVolume yX12_isVolume, Cond.initialized RX12, Cond.code yX12_isVolume cX12_isVolume 2 (some .boolean), Cond.fieldLink RX12 466 "DiskEvidenceModel" "volumes" "I", Cond.methodLink RX12 372 yX12_in, Cond.static yX12_in, Cond.code yX12_in cX12_in 6 (some .boolean), Cond.methodLink RX12 498 yX12_refresh, Cond.instanceMethod yX12_refresh, Cond.selects RX12 yX12_refresh yX12_refresh, Cond.code yX12_refresh cX12_refresh 4 none, Cond.fieldLink RX12 46 "DiskEvidenceModel" "isOld" "Z", Cond.fieldLink RX12 486 "DiskEvidenceModel" "laid" "I", Cond.fieldLink RX12 53 "DiskEvidenceModel" "blockChanged" "[Z", Cond.fieldLink RX12 50 "DiskEvidenceModel" "sectorChanged" "[Z", Cond.methodLink RX12 489 yX12_hasChanged, Cond.instanceMethod yX12_hasChanged, Cond.selects RX12 yX12_hasChanged yX12_hasChanged, Cond.code yX12_hasChanged cX12_hasChanged 6 (some .boolean), Cond.fieldLink RX12 24 "DiskEvidenceModel" "sort" "[I"]
def wsX12_volumeByte_r2 : List Cond := [Cond.fieldLink RX12 27 "DiskEvidenceModel" "pictureOf" "[I", Cond.fieldLink RX12 30 "DiskEvidenceModel" "beginOf" "[I", Cond.fieldLink RX12 477 "DiskEvidenceModel" "member" "I", Cond.fieldLink RX12 480 "DiskEvidenceModel" "memberBlock" "I", Cond.fieldLink RX12 36 "DiskEvidenceModel" "members" "[I", Cond.methodLink RX12 495 yX12_locate, Cond.instanceMethod yX12_locate, Cond.selects RX12 yX12_locate yX12_locate, Cond.code yX12_locate cX12_locate 5 none, Cond.methodLink RX12 483 yX12_other, Cond.static yX12_other, Cond.code yX12_other cX12_other 2 (some .int), Cond.methodLink RX12 492 yX12_readBlock, Cond.instanceMethod yX12_readBlock, Cond.selects RX12 yX12_readBlock yX12_readBlock, Cond.code yX12_readBlock cX12_readBlock 7 none, Cond.fieldLink RX12 43 "DiskEvidenceModel" "comesSpoilt" "[Z", Cond.fieldLink RX12 20 "DiskEvidenceModel" "isSpoilt" "[Z", Cond.methodLink RX12 435 yX12_read, Cond.instanceMethod yX12_read, Cond.selects RX12 yX12_read yX12_read, Cond.code yX12_read cX12_read 3 (some .int), Cond.fieldLink RX12 17 "DiskEvidenceModel" "data" "[I"]
def wsX12_volumeByte : List Cond := .code yX12_volumeByte cX12_volumeByte 3 (some .int) :: ((wsX12_volumeByte_r1 ++ wsX12_volumeByte_r2) ++ wsX120)
def wsX12_where : List Cond := .code yX12_where cX12_where 5 (some .int) :: ([.fieldLink RX12 33 "DiskEvidenceModel" "blocksOf" "[I", .fieldLink RX12 24 "DiskEvidenceModel" "sort" "[I", .fieldLink RX12 477 "DiskEvidenceModel" "member" "I", .fieldLink RX12 480 "DiskEvidenceModel" "memberBlock" "I", .fieldLink RX12 27 "DiskEvidenceModel" "pictureOf" "[I", .fieldLink RX12 30 "DiskEvidenceModel" "beginOf" "[I", .methodLink RX12 474 yX12_isVolume, .instanceMethod yX12_isVolume, .selects RX12 yX12_isVolume yX12_isVolume, .initialized RX12, .code yX12_isVolume cX12_isVolume 2 (some .boolean), .fieldLink RX12 466 "DiskEvidenceModel" "volumes" "I", .methodLink RX12 372 yX12_in, .static yX12_in, .code yX12_in cX12_in 6 (some .boolean), .methodLink RX12 495 yX12_locate, .instanceMethod yX12_locate, .selects RX12 yX12_locate yX12_locate, .code yX12_locate cX12_locate 5 none, .fieldLink RX12 36 "DiskEvidenceModel" "members" "[I", .methodLink RX12 483 yX12_other, .static yX12_other, .code yX12_other cX12_other 2 (some .int)] ++ wsX120)
def wsX12_format_r1 : List Cond := [Cond.constantLong RX12 591 (3), Cond.constantLong RX12 593 (775), Cond.constantLong RX12 595 (32), Cond.fieldLink RX12 513 "DiskEvidenceModel" "imageBlocks" "I", Cond.fieldLink RX12 528 "DiskEvidenceModel" "span" "I", Cond.fieldLink RX12 519 "DiskEvidenceModel" "tablesOf" "I", Cond.fieldLink RX12 531 "DiskEvidenceModel" "rootBlocks" "I", Cond.fieldLink RX12 534 "DiskEvidenceModel" "zone" "I", Cond.fieldLink RX12 522 "DiskEvidenceModel" "tableBlocks" "I", Cond.fieldLink RX12 550 "DiskEvidenceModel" "clusters" "I", Cond.fieldLink RX12 553 "DiskEvidenceModel" "nodesOf" "I", Cond.fieldLink RX12 547 "DiskEvidenceModel" "first" "I", Cond.fieldLink RX12 92 "DiskEvidenceModel" "image" "[I", Cond.methodLink RX12 474 yX12_isVolume, Cond.instanceMethod yX12_isVolume, Cond.selects RX12 yX12_isVolume yX12_isVolume, Cond.initialized RX12, Cond.code yX12_isVolume cX12_isVolume 2 (some .boolean), Cond.fieldLink RX12 466 "DiskEvidenceModel" "volumes" "I", Cond.methodLink RX12 372 yX12_in, Cond.static yX12_in, Cond.code yX12_in cX12_in 6 (some .boolean), Cond.methodLink RX12 597 yX12_take, Cond.instanceMethod yX12_take]
def wsX12_format_r2 : List Cond := [Cond.selects RX12 yX12_take yX12_take, Cond.code yX12_take cX12_take 3 none, Cond.fieldLink RX12 33 "DiskEvidenceModel" "blocksOf" "[I", Cond.fieldLink RX12 40 "DiskEvidenceModel" "all" "[I", Cond.fieldLink RX12 95 "DiskEvidenceModel" "old" "[I", Cond.methodLink RX12 498 yX12_refresh, Cond.instanceMethod yX12_refresh, Cond.selects RX12 yX12_refresh yX12_refresh, Cond.code yX12_refresh cX12_refresh 4 none, Cond.fieldLink RX12 46 "DiskEvidenceModel" "isOld" "Z", Cond.fieldLink RX12 486 "DiskEvidenceModel" "laid" "I", Cond.fieldLink RX12 53 "DiskEvidenceModel" "blockChanged" "[Z", Cond.fieldLink RX12 50 "DiskEvidenceModel" "sectorChanged" "[Z", Cond.methodLink RX12 489 yX12_hasChanged, Cond.instanceMethod yX12_hasChanged, Cond.selects RX12 yX12_hasChanged yX12_hasChanged, Cond.code yX12_hasChanged cX12_hasChanged 6 (some .boolean), Cond.fieldLink RX12 24 "DiskEvidenceModel" "sort" "[I", Cond.fieldLink RX12 27 "DiskEvidenceModel" "pictureOf" "[I", Cond.fieldLink RX12 30 "DiskEvidenceModel" "beginOf" "[I", Cond.fieldLink RX12 477 "DiskEvidenceModel" "member" "I", Cond.fieldLink RX12 480 "DiskEvidenceModel" "memberBlock" "I", Cond.fieldLink RX12 36 "DiskEvidenceModel" "members" "[I", Cond.methodLink RX12 495 yX12_locate]
def wsX12_format_r3 : List Cond := [Cond.instanceMethod yX12_locate, Cond.selects RX12 yX12_locate yX12_locate, Cond.code yX12_locate cX12_locate 5 none, Cond.methodLink RX12 483 yX12_other, Cond.static yX12_other, Cond.code yX12_other cX12_other 2 (some .int), Cond.methodLink RX12 492 yX12_readBlock, Cond.instanceMethod yX12_readBlock, Cond.selects RX12 yX12_readBlock yX12_readBlock, Cond.code yX12_readBlock cX12_readBlock 7 none, Cond.fieldLink RX12 43 "DiskEvidenceModel" "comesSpoilt" "[Z", Cond.fieldLink RX12 20 "DiskEvidenceModel" "isSpoilt" "[Z", Cond.methodLink RX12 435 yX12_read, Cond.instanceMethod yX12_read, Cond.selects RX12 yX12_read yX12_read, Cond.code yX12_read cX12_read 3 (some .int), Cond.fieldLink RX12 17 "DiskEvidenceModel" "data" "[I", Cond.methodLink RX12 543 yX12_layCells, Cond.instanceMethod yX12_layCells, Cond.selects RX12 yX12_layCells yX12_layCells, Cond.code yX12_layCells cX12_layCells 1 (some .boolean), Cond.methodLink RX12 600 yX12_layForm, Cond.instanceMethod yX12_layForm, Cond.selects RX12 yX12_layForm yX12_layForm]
def wsX12_format_r4 : List Cond := [Cond.code yX12_layForm cX12_layForm 3 none, Cond.constantLong RX12 611 (43605), Cond.constant RX12 613 (65528), Cond.constantLong RX12 617 (30515), Cond.constantLong RX12 556 (64), Cond.fieldLink RX12 383 "DiskEvidenceModel" "now" "I", Cond.methodLink RX12 607 yX12_put, Cond.instanceMethod yX12_put, Cond.selects RX12 yX12_put yX12_put, Cond.code yX12_put cX12_put 6 none, Cond.constantLong RX12 379 (255), Cond.methodLink RX12 614 yX12_setCell, Cond.instanceMethod yX12_setCell, Cond.selects RX12 yX12_setCell yX12_setCell, Cond.code yX12_setCell cX12_setCell 4 none, Cond.methodLink RX12 619 yX12_setBit, Cond.instanceMethod yX12_setBit, Cond.selects RX12 yX12_setBit yX12_setBit, Cond.code yX12_setBit cX12_setBit 5 none, Cond.methodLink RX12 558 yX12_nodeAt, Cond.static yX12_nodeAt, Cond.code yX12_nodeAt cX12_nodeAt 1 (some .int), Cond.methodLink RX12 603 yX12_give, Cond.instanceMethod yX12_give]
def wsX12_format_r5 : List Cond := [Cond.selects RX12 yX12_give yX12_give, Cond.code yX12_give cX12_give 6 none, Cond.methodLink RX12 516 yX12_writeBlock, Cond.instanceMethod yX12_writeBlock, Cond.selects RX12 yX12_writeBlock yX12_writeBlock, Cond.code yX12_writeBlock cX12_writeBlock 6 none, Cond.fieldLink RX12 501 "DiskEvidenceModel" "waiting" "I", Cond.fieldLink RX12 86 "DiskEvidenceModel" "one" "[I", Cond.fieldLink RX12 77 "DiskEvidenceModel" "waitVolume" "[I", Cond.fieldLink RX12 80 "DiskEvidenceModel" "waitBlock" "[I", Cond.fieldLink RX12 83 "DiskEvidenceModel" "waitBytes" "[I", Cond.methodLink RX12 504 yX12_wait, Cond.instanceMethod yX12_wait, Cond.selects RX12 yX12_wait yX12_wait, Cond.code yX12_wait cX12_wait 4 none, Cond.methodLink RX12 507 yX12_writeSector, Cond.instanceMethod yX12_writeSector, Cond.selects RX12 yX12_writeSector yX12_writeSector, Cond.code yX12_writeSector cX12_writeSector 4 none, Cond.methodLink RX12 428 yX12_change, Cond.instanceMethod yX12_change, Cond.selects RX12 yX12_change yX12_change, Cond.code yX12_change cX12_change 3 none, Cond.methodLink RX12 510 yX12_writeParity]
def wsX12_format_r6 : List Cond := [Cond.instanceMethod yX12_writeParity, Cond.selects RX12 yX12_writeParity yX12_writeParity, Cond.code yX12_writeParity cX12_writeParity 7 none, Cond.fieldLink RX12 89 "DiskEvidenceModel" "kept" "[I"]
def wsX12_format : List Cond := .code yX12_format cX12_format 6 (some .int) :: ((wsX12_format_r1 ++ (wsX12_format_r2 ++ (wsX12_format_r3 ++ (wsX12_format_r4 ++ (wsX12_format_r5 ++ wsX12_format_r6))))) ++ wsX120)
def wsX12_save_r1 : List Cond := [Cond.fieldLink RX12 376 "DiskEvidenceModel" "many" "I", Cond.methodLink RX12 474 yX12_isVolume, Cond.instanceMethod yX12_isVolume, Cond.selects RX12 yX12_isVolume yX12_isVolume, Cond.initialized RX12, Cond.code yX12_isVolume cX12_isVolume 2 (some .boolean), Cond.fieldLink RX12 466 "DiskEvidenceModel" "volumes" "I", Cond.methodLink RX12 372 yX12_in, Cond.static yX12_in, Cond.code yX12_in cX12_in 6 (some .boolean), Cond.methodLink RX12 785 yX12_make, Cond.instanceMethod yX12_make, Cond.selects RX12 yX12_make yX12_make, Cond.code yX12_make cX12_make 5 (some .int), Cond.fieldLink RX12 579 "DiskEvidenceModel" "form" "I", Cond.fieldLink RX12 693 "DiskEvidenceModel" "foundRow" "I", Cond.fieldLink RX12 632 "DiskEvidenceModel" "pathEnd" "I", Cond.methodLink RX12 597 yX12_take, Cond.instanceMethod yX12_take, Cond.selects RX12 yX12_take yX12_take, Cond.code yX12_take cX12_take 3 none, Cond.fieldLink RX12 33 "DiskEvidenceModel" "blocksOf" "[I", Cond.fieldLink RX12 513 "DiskEvidenceModel" "imageBlocks" "I", Cond.fieldLink RX12 92 "DiskEvidenceModel" "image" "[I"]
def wsX12_save_r2 : List Cond := [Cond.fieldLink RX12 40 "DiskEvidenceModel" "all" "[I", Cond.fieldLink RX12 95 "DiskEvidenceModel" "old" "[I", Cond.methodLink RX12 498 yX12_refresh, Cond.instanceMethod yX12_refresh, Cond.selects RX12 yX12_refresh yX12_refresh, Cond.code yX12_refresh cX12_refresh 4 none, Cond.fieldLink RX12 46 "DiskEvidenceModel" "isOld" "Z", Cond.fieldLink RX12 486 "DiskEvidenceModel" "laid" "I", Cond.fieldLink RX12 53 "DiskEvidenceModel" "blockChanged" "[Z", Cond.fieldLink RX12 50 "DiskEvidenceModel" "sectorChanged" "[Z", Cond.methodLink RX12 489 yX12_hasChanged, Cond.instanceMethod yX12_hasChanged, Cond.selects RX12 yX12_hasChanged yX12_hasChanged, Cond.code yX12_hasChanged cX12_hasChanged 6 (some .boolean), Cond.fieldLink RX12 24 "DiskEvidenceModel" "sort" "[I", Cond.fieldLink RX12 27 "DiskEvidenceModel" "pictureOf" "[I", Cond.fieldLink RX12 30 "DiskEvidenceModel" "beginOf" "[I", Cond.fieldLink RX12 477 "DiskEvidenceModel" "member" "I", Cond.fieldLink RX12 480 "DiskEvidenceModel" "memberBlock" "I", Cond.fieldLink RX12 36 "DiskEvidenceModel" "members" "[I", Cond.methodLink RX12 495 yX12_locate, Cond.instanceMethod yX12_locate, Cond.selects RX12 yX12_locate yX12_locate, Cond.code yX12_locate cX12_locate 5 none]
def wsX12_save_r3 : List Cond := [Cond.methodLink RX12 483 yX12_other, Cond.static yX12_other, Cond.code yX12_other cX12_other 2 (some .int), Cond.methodLink RX12 492 yX12_readBlock, Cond.instanceMethod yX12_readBlock, Cond.selects RX12 yX12_readBlock yX12_readBlock, Cond.code yX12_readBlock cX12_readBlock 7 none, Cond.fieldLink RX12 43 "DiskEvidenceModel" "comesSpoilt" "[Z", Cond.fieldLink RX12 20 "DiskEvidenceModel" "isSpoilt" "[Z", Cond.methodLink RX12 435 yX12_read, Cond.instanceMethod yX12_read, Cond.selects RX12 yX12_read yX12_read, Cond.code yX12_read cX12_read 3 (some .int), Cond.fieldLink RX12 17 "DiskEvidenceModel" "data" "[I", Cond.methodLink RX12 762 yX12_findForm, Cond.instanceMethod yX12_findForm, Cond.selects RX12 yX12_findForm yX12_findForm, Cond.code yX12_findForm cX12_findForm 1 none, Cond.fieldLink RX12 528 "DiskEvidenceModel" "span" "I", Cond.methodLink RX12 576 yX12_isCells, Cond.instanceMethod yX12_isCells, Cond.selects RX12 yX12_isCells yX12_isCells, Cond.code yX12_isCells cX12_isCells 1 (some .boolean), Cond.fieldLink RX12 519 "DiskEvidenceModel" "tablesOf" "I"]
def wsX12_save_r4 : List Cond := [Cond.fieldLink RX12 522 "DiskEvidenceModel" "tableBlocks" "I", Cond.fieldLink RX12 531 "DiskEvidenceModel" "rootBlocks" "I", Cond.fieldLink RX12 534 "DiskEvidenceModel" "zone" "I", Cond.constantLong RX12 537 (2), Cond.constantLong RX12 539 (-48), Cond.constantLong RX12 541 (48), Cond.methodLink RX12 525 yX12_get, Cond.instanceMethod yX12_get, Cond.selects RX12 yX12_get yX12_get, Cond.code yX12_get cX12_get 3 (some .int), Cond.methodLink RX12 417 yX12_number, Cond.static yX12_number, Cond.code yX12_number cX12_number 5 (some .int), Cond.methodLink RX12 543 yX12_layCells, Cond.instanceMethod yX12_layCells, Cond.selects RX12 yX12_layCells yX12_layCells, Cond.code yX12_layCells cX12_layCells 1 (some .boolean), Cond.fieldLink RX12 547 "DiskEvidenceModel" "first" "I", Cond.fieldLink RX12 550 "DiskEvidenceModel" "clusters" "I", Cond.methodLink RX12 582 yX12_isNodes, Cond.instanceMethod yX12_isNodes, Cond.selects RX12 yX12_isNodes yX12_isNodes, Cond.code yX12_isNodes cX12_isNodes 1 (some .boolean), Cond.fieldLink RX12 553 "DiskEvidenceModel" "nodesOf" "I"]
def wsX12_save_r5 : List Cond := [Cond.constantLong RX12 556 (64), Cond.methodLink RX12 558 yX12_nodeAt, Cond.static yX12_nodeAt, Cond.code yX12_nodeAt cX12_nodeAt 1 (some .int), Cond.methodLink RX12 585 yX12_isHeader, Cond.instanceMethod yX12_isHeader, Cond.selects RX12 yX12_isHeader yX12_isHeader, Cond.code yX12_isHeader cX12_isHeader 5 (some .boolean), Cond.methodLink RX12 569 yX12_octal, Cond.instanceMethod yX12_octal, Cond.selects RX12 yX12_octal yX12_octal, Cond.code yX12_octal cX12_octal 6 (some .long), Cond.constantLong RX12 561 (55), Cond.constantLong RX12 563 (-1), Cond.constantLong RX12 370 (8), Cond.methodLink RX12 573 yX12_headerSum, Cond.instanceMethod yX12_headerSum, Cond.selects RX12 yX12_headerSum yX12_headerSum, Cond.code yX12_headerSum cX12_headerSum 4 (some .int), Cond.constantLong RX12 565 (44), Cond.constantLong RX12 567 (50), Cond.methodLink RX12 588 yX12_isZero, Cond.instanceMethod yX12_isZero, Cond.selects RX12 yX12_isZero yX12_isZero]
def wsX12_save_r6 : List Cond := [Cond.code yX12_isZero cX12_isZero 3 (some .boolean), Cond.methodLink RX12 765 yX12_walkTape, Cond.instanceMethod yX12_walkTape, Cond.selects RX12 yX12_walkTape yX12_walkTape, Cond.code yX12_walkTape cX12_walkTape 2 (some .boolean), Cond.fieldLink RX12 754 "DiskEvidenceModel" "tapeEnd" "I", Cond.methodLink RX12 751 yX12_tapeBlocks, Cond.instanceMethod yX12_tapeBlocks, Cond.selects RX12 yX12_tapeBlocks yX12_tapeBlocks, Cond.code yX12_tapeBlocks cX12_tapeBlocks 2 (some .int), Cond.methodLink RX12 768 yX12_readPath, Cond.instanceMethod yX12_readPath, Cond.selects RX12 yX12_readPath yX12_readPath, Cond.code yX12_readPath cX12_readPath 5 (some .boolean), Cond.fieldLink RX12 7 "DiskEvidenceModel" "bytes" "[I", Cond.fieldLink RX12 635 "DiskEvidenceModel" "names" "I", Cond.fieldLink RX12 98 "DiskEvidenceModel" "nameFrom" "[I", Cond.fieldLink RX12 101 "DiskEvidenceModel" "nameTo" "[I", Cond.methodLink RX12 638 yX12_isGoodName, Cond.instanceMethod yX12_isGoodName, Cond.selects RX12 yX12_isGoodName yX12_isGoodName, Cond.code yX12_isGoodName cX12_isGoodName 7 (some .boolean), Cond.methodLink RX12 629 yX12_isNameByte, Cond.instanceMethod yX12_isNameByte]
def wsX12_save_r7 : List Cond := [Cond.selects RX12 yX12_isNameByte yX12_isNameByte, Cond.code yX12_isNameByte cX12_isNameByte 5 (some .boolean), Cond.constantLong RX12 623 (65), Cond.constantLong RX12 625 (90), Cond.constantLong RX12 627 (57), Cond.methodLink RX12 772 yX12_walkPath, Cond.instanceMethod yX12_walkPath, Cond.selects RX12 yX12_walkPath yX12_walkPath, Cond.code yX12_walkPath cX12_walkPath 2 (some .boolean), Cond.fieldLink RX12 663 "DiskEvidenceModel" "folderRow" "I", Cond.fieldLink RX12 669 "DiskEvidenceModel" "folderNode" "I", Cond.methodLink RX12 705 yX12_look, Cond.instanceMethod yX12_look, Cond.selects RX12 yX12_look yX12_look, Cond.code yX12_look cX12_look 6 none, Cond.methodLink RX12 690 yX12_enter, Cond.instanceMethod yX12_enter, Cond.selects RX12 yX12_enter yX12_enter, Cond.code yX12_enter cX12_enter 1 none, Cond.methodLink RX12 672 yX12_follow, Cond.instanceMethod yX12_follow, Cond.selects RX12 yX12_follow yX12_follow, Cond.code yX12_follow cX12_follow 4 none, Cond.fieldLink RX12 641 "DiskEvidenceModel" "links" "I"]
def wsX12_save_r8 : List Cond := [Cond.constant RX12 650 (65527), Cond.fieldLink RX12 104 "DiskEvidenceModel" "link" "[I", Cond.constant RX12 613 (65528), Cond.methodLink RX12 644 yX12_isCluster, Cond.instanceMethod yX12_isCluster, Cond.selects RX12 yX12_isCluster yX12_isCluster, Cond.code yX12_isCluster cX12_isCluster 2 (some .boolean), Cond.methodLink RX12 647 yX12_cell, Cond.instanceMethod yX12_cell, Cond.selects RX12 yX12_cell yX12_cell, Cond.code yX12_cell cX12_cell 2 (some .int), Cond.methodLink RX12 651 yX12_isLinked, Cond.instanceMethod yX12_isLinked, Cond.selects RX12 yX12_isLinked yX12_isLinked, Cond.code yX12_isLinked cX12_isLinked 3 (some .boolean), Cond.methodLink RX12 675 yX12_followNode, Cond.instanceMethod yX12_followNode, Cond.selects RX12 yX12_followNode yX12_followNode, Cond.code yX12_followNode cX12_followNode 3 none, Cond.methodLink RX12 657 yX12_placesOf, Cond.instanceMethod yX12_placesOf, Cond.selects RX12 yX12_placesOf yX12_placesOf, Cond.code yX12_placesOf cX12_placesOf 3 (some .int), Cond.methodLink RX12 660 yX12_placeBlock]
def wsX12_save_r9 : List Cond := [Cond.instanceMethod yX12_placeBlock, Cond.selects RX12 yX12_placeBlock yX12_placeBlock, Cond.code yX12_placeBlock cX12_placeBlock 6 (some .int), Cond.methodLink RX12 654 yX12_isData, Cond.instanceMethod yX12_isData, Cond.selects RX12 yX12_isData yX12_isData, Cond.code yX12_isData cX12_isData 2 (some .boolean), Cond.methodLink RX12 696 yX12_rowAt, Cond.instanceMethod yX12_rowAt, Cond.selects RX12 yX12_rowAt yX12_rowAt, Cond.code yX12_rowAt cX12_rowAt 3 (some .int), Cond.methodLink RX12 666 yX12_clusterBlock, Cond.instanceMethod yX12_clusterBlock, Cond.selects RX12 yX12_clusterBlock yX12_clusterBlock, Cond.code yX12_clusterBlock cX12_clusterBlock 2 (some .int), Cond.methodLink RX12 699 yX12_lives, Cond.instanceMethod yX12_lives, Cond.selects RX12 yX12_lives yX12_lives, Cond.code yX12_lives cX12_lives 2 (some .boolean), Cond.methodLink RX12 687 yX12_isNode, Cond.instanceMethod yX12_isNode, Cond.selects RX12 yX12_isNode yX12_isNode, Cond.code yX12_isNode cX12_isNode 2 (some .boolean), Cond.methodLink RX12 702 yX12_isNamed]
def wsX12_save_r10 : List Cond := [Cond.instanceMethod yX12_isNamed, Cond.selects RX12 yX12_isNamed yX12_isNamed, Cond.code yX12_isNamed cX12_isNamed 5 (some .boolean), Cond.methodLink RX12 681 yX12_rowNameSize, Cond.instanceMethod yX12_rowNameSize, Cond.selects RX12 yX12_rowNameSize yX12_rowNameSize, Cond.code yX12_rowNameSize cX12_rowNameSize 3 (some .int), Cond.methodLink RX12 678 yX12_unblanked, Cond.instanceMethod yX12_unblanked, Cond.selects RX12 yX12_unblanked yX12_unblanked, Cond.code yX12_unblanked cX12_unblanked 4 (some .int), Cond.methodLink RX12 684 yX12_rowName, Cond.instanceMethod yX12_rowName, Cond.selects RX12 yX12_rowName yX12_rowName, Cond.code yX12_rowName cX12_rowName 4 (some .int), Cond.methodLink RX12 708 yX12_isFolder, Cond.instanceMethod yX12_isFolder, Cond.selects RX12 yX12_isFolder yX12_isFolder, Cond.code yX12_isFolder cX12_isFolder 2 (some .boolean), Cond.methodLink RX12 775 yX12_makeCells, Cond.instanceMethod yX12_makeCells, Cond.selects RX12 yX12_makeCells yX12_makeCells, Cond.code yX12_makeCells cX12_makeCells 11 (some .int), Cond.constant RX12 722 (65535)]
def wsX12_save_r11 : List Cond := [Cond.methodLink RX12 732 yX12_newRow, Cond.instanceMethod yX12_newRow, Cond.selects RX12 yX12_newRow yX12_newRow, Cond.code yX12_newRow cX12_newRow 3 (some .int), Cond.methodLink RX12 716 yX12_growNode, Cond.instanceMethod yX12_growNode, Cond.selects RX12 yX12_growNode yX12_growNode, Cond.code yX12_growNode cX12_growNode 2 (some .boolean), Cond.methodLink RX12 726 yX12_setPlace, Cond.instanceMethod yX12_setPlace, Cond.selects RX12 yX12_setPlace yX12_setPlace, Cond.code yX12_setPlace cX12_setPlace 5 (some .boolean), Cond.methodLink RX12 729 yX12_freeBlock, Cond.instanceMethod yX12_freeBlock, Cond.selects RX12 yX12_freeBlock yX12_freeBlock, Cond.code yX12_freeBlock cX12_freeBlock 2 (some .int), Cond.methodLink RX12 713 yX12_bit, Cond.instanceMethod yX12_bit, Cond.selects RX12 yX12_bit yX12_bit, Cond.code yX12_bit cX12_bit 3 (some .boolean), Cond.methodLink RX12 619 yX12_setBit, Cond.instanceMethod yX12_setBit, Cond.selects RX12 yX12_setBit yX12_setBit, Cond.code yX12_setBit cX12_setBit 5 none]
def wsX12_save_r12 : List Cond := [Cond.methodLink RX12 723 yX12_fill, Cond.instanceMethod yX12_fill, Cond.selects RX12 yX12_fill yX12_fill, Cond.code yX12_fill cX12_fill 4 none, Cond.methodLink RX12 607 yX12_put, Cond.instanceMethod yX12_put, Cond.selects RX12 yX12_put yX12_put, Cond.code yX12_put cX12_put 6 none, Cond.constantLong RX12 379 (255), Cond.methodLink RX12 719 yX12_freeCell, Cond.instanceMethod yX12_freeCell, Cond.selects RX12 yX12_freeCell yX12_freeCell, Cond.code yX12_freeCell cX12_freeCell 2 (some .int), Cond.methodLink RX12 614 yX12_setCell, Cond.instanceMethod yX12_setCell, Cond.selects RX12 yX12_setCell yX12_setCell, Cond.code yX12_setCell cX12_setCell 4 none, Cond.methodLink RX12 735 yX12_freeChain, Cond.instanceMethod yX12_freeChain, Cond.selects RX12 yX12_freeChain yX12_freeChain, Cond.code yX12_freeChain cX12_freeChain 3 none, Cond.methodLink RX12 738 yX12_writeName, Cond.instanceMethod yX12_writeName, Cond.selects RX12 yX12_writeName yX12_writeName]
def wsX12_save_r13 : List Cond := [Cond.code yX12_writeName cX12_writeName 4 none, Cond.methodLink RX12 741 yX12_stamp, Cond.instanceMethod yX12_stamp, Cond.selects RX12 yX12_stamp yX12_stamp, Cond.code yX12_stamp cX12_stamp 3 (some .long), Cond.fieldLink RX12 383 "DiskEvidenceModel" "now" "I", Cond.constantLong RX12 711 (900), Cond.methodLink RX12 779 yX12_makeNode, Cond.instanceMethod yX12_makeNode, Cond.selects RX12 yX12_makeNode yX12_makeNode, Cond.code yX12_makeNode cX12_makeNode 11 (some .int), Cond.methodLink RX12 745 yX12_freeNodeNumber, Cond.instanceMethod yX12_freeNodeNumber, Cond.selects RX12 yX12_freeNodeNumber yX12_freeNodeNumber, Cond.code yX12_freeNodeNumber cX12_freeNodeNumber 2 (some .int), Cond.methodLink RX12 748 yX12_freeNode, Cond.instanceMethod yX12_freeNode, Cond.selects RX12 yX12_freeNode yX12_freeNode, Cond.code yX12_freeNode cX12_freeNode 4 none, Cond.methodLink RX12 782 yX12_makeEntry, Cond.instanceMethod yX12_makeEntry, Cond.selects RX12 yX12_makeEntry yX12_makeEntry, Cond.code yX12_makeEntry cX12_makeEntry 7 (some .int), Cond.methodLink RX12 759 yX12_putOctal]
def wsX12_save_r14 : List Cond := [Cond.instanceMethod yX12_putOctal, Cond.selects RX12 yX12_putOctal yX12_putOctal, Cond.code yX12_putOctal cX12_putOctal 8 none, Cond.constantLong RX12 757 (7), Cond.methodLink RX12 603 yX12_give, Cond.instanceMethod yX12_give, Cond.selects RX12 yX12_give yX12_give, Cond.code yX12_give cX12_give 6 none, Cond.methodLink RX12 516 yX12_writeBlock, Cond.instanceMethod yX12_writeBlock, Cond.selects RX12 yX12_writeBlock yX12_writeBlock, Cond.code yX12_writeBlock cX12_writeBlock 6 none, Cond.fieldLink RX12 501 "DiskEvidenceModel" "waiting" "I", Cond.fieldLink RX12 86 "DiskEvidenceModel" "one" "[I", Cond.fieldLink RX12 77 "DiskEvidenceModel" "waitVolume" "[I", Cond.fieldLink RX12 80 "DiskEvidenceModel" "waitBlock" "[I", Cond.fieldLink RX12 83 "DiskEvidenceModel" "waitBytes" "[I", Cond.methodLink RX12 504 yX12_wait, Cond.instanceMethod yX12_wait, Cond.selects RX12 yX12_wait yX12_wait, Cond.code yX12_wait cX12_wait 4 none, Cond.methodLink RX12 507 yX12_writeSector, Cond.instanceMethod yX12_writeSector, Cond.selects RX12 yX12_writeSector yX12_writeSector]
def wsX12_save_r15 : List Cond := [Cond.code yX12_writeSector cX12_writeSector 4 none, Cond.methodLink RX12 428 yX12_change, Cond.instanceMethod yX12_change, Cond.selects RX12 yX12_change yX12_change, Cond.code yX12_change cX12_change 3 none, Cond.methodLink RX12 510 yX12_writeParity, Cond.instanceMethod yX12_writeParity, Cond.selects RX12 yX12_writeParity yX12_writeParity, Cond.code yX12_writeParity cX12_writeParity 7 none, Cond.fieldLink RX12 89 "DiskEvidenceModel" "kept" "[I"]
def wsX12_save : List Cond := .code yX12_save cX12_save 3 (some .int) :: ((wsX12_save_r1 ++ (wsX12_save_r2 ++ (wsX12_save_r3 ++ (wsX12_save_r4 ++ (wsX12_save_r5 ++ (wsX12_save_r6 ++ (wsX12_save_r7 ++ (wsX12_save_r8 ++ (wsX12_save_r9 ++ (wsX12_save_r10 ++ (wsX12_save_r11 ++ (wsX12_save_r12 ++ (wsX12_save_r13 ++ (wsX12_save_r14 ++ wsX12_save_r15)))))))))))))) ++ wsX120)
def wsX12_folder_r1 : List Cond := [Cond.fieldLink RX12 376 "DiskEvidenceModel" "many" "I", Cond.methodLink RX12 474 yX12_isVolume, Cond.instanceMethod yX12_isVolume, Cond.selects RX12 yX12_isVolume yX12_isVolume, Cond.initialized RX12, Cond.code yX12_isVolume cX12_isVolume 2 (some .boolean), Cond.fieldLink RX12 466 "DiskEvidenceModel" "volumes" "I", Cond.methodLink RX12 372 yX12_in, Cond.static yX12_in, Cond.code yX12_in cX12_in 6 (some .boolean), Cond.methodLink RX12 785 yX12_make, Cond.instanceMethod yX12_make, Cond.selects RX12 yX12_make yX12_make, Cond.code yX12_make cX12_make 5 (some .int), Cond.fieldLink RX12 579 "DiskEvidenceModel" "form" "I", Cond.fieldLink RX12 693 "DiskEvidenceModel" "foundRow" "I", Cond.fieldLink RX12 632 "DiskEvidenceModel" "pathEnd" "I", Cond.methodLink RX12 597 yX12_take, Cond.instanceMethod yX12_take, Cond.selects RX12 yX12_take yX12_take, Cond.code yX12_take cX12_take 3 none, Cond.fieldLink RX12 33 "DiskEvidenceModel" "blocksOf" "[I", Cond.fieldLink RX12 513 "DiskEvidenceModel" "imageBlocks" "I", Cond.fieldLink RX12 92 "DiskEvidenceModel" "image" "[I"]
def wsX12_folder_r2 : List Cond := [Cond.fieldLink RX12 40 "DiskEvidenceModel" "all" "[I", Cond.fieldLink RX12 95 "DiskEvidenceModel" "old" "[I", Cond.methodLink RX12 498 yX12_refresh, Cond.instanceMethod yX12_refresh, Cond.selects RX12 yX12_refresh yX12_refresh, Cond.code yX12_refresh cX12_refresh 4 none, Cond.fieldLink RX12 46 "DiskEvidenceModel" "isOld" "Z", Cond.fieldLink RX12 486 "DiskEvidenceModel" "laid" "I", Cond.fieldLink RX12 53 "DiskEvidenceModel" "blockChanged" "[Z", Cond.fieldLink RX12 50 "DiskEvidenceModel" "sectorChanged" "[Z", Cond.methodLink RX12 489 yX12_hasChanged, Cond.instanceMethod yX12_hasChanged, Cond.selects RX12 yX12_hasChanged yX12_hasChanged, Cond.code yX12_hasChanged cX12_hasChanged 6 (some .boolean), Cond.fieldLink RX12 24 "DiskEvidenceModel" "sort" "[I", Cond.fieldLink RX12 27 "DiskEvidenceModel" "pictureOf" "[I", Cond.fieldLink RX12 30 "DiskEvidenceModel" "beginOf" "[I", Cond.fieldLink RX12 477 "DiskEvidenceModel" "member" "I", Cond.fieldLink RX12 480 "DiskEvidenceModel" "memberBlock" "I", Cond.fieldLink RX12 36 "DiskEvidenceModel" "members" "[I", Cond.methodLink RX12 495 yX12_locate, Cond.instanceMethod yX12_locate, Cond.selects RX12 yX12_locate yX12_locate, Cond.code yX12_locate cX12_locate 5 none]
def wsX12_folder_r3 : List Cond := [Cond.methodLink RX12 483 yX12_other, Cond.static yX12_other, Cond.code yX12_other cX12_other 2 (some .int), Cond.methodLink RX12 492 yX12_readBlock, Cond.instanceMethod yX12_readBlock, Cond.selects RX12 yX12_readBlock yX12_readBlock, Cond.code yX12_readBlock cX12_readBlock 7 none, Cond.fieldLink RX12 43 "DiskEvidenceModel" "comesSpoilt" "[Z", Cond.fieldLink RX12 20 "DiskEvidenceModel" "isSpoilt" "[Z", Cond.methodLink RX12 435 yX12_read, Cond.instanceMethod yX12_read, Cond.selects RX12 yX12_read yX12_read, Cond.code yX12_read cX12_read 3 (some .int), Cond.fieldLink RX12 17 "DiskEvidenceModel" "data" "[I", Cond.methodLink RX12 762 yX12_findForm, Cond.instanceMethod yX12_findForm, Cond.selects RX12 yX12_findForm yX12_findForm, Cond.code yX12_findForm cX12_findForm 1 none, Cond.fieldLink RX12 528 "DiskEvidenceModel" "span" "I", Cond.methodLink RX12 576 yX12_isCells, Cond.instanceMethod yX12_isCells, Cond.selects RX12 yX12_isCells yX12_isCells, Cond.code yX12_isCells cX12_isCells 1 (some .boolean), Cond.fieldLink RX12 519 "DiskEvidenceModel" "tablesOf" "I"]
def wsX12_folder_r4 : List Cond := [Cond.fieldLink RX12 522 "DiskEvidenceModel" "tableBlocks" "I", Cond.fieldLink RX12 531 "DiskEvidenceModel" "rootBlocks" "I", Cond.fieldLink RX12 534 "DiskEvidenceModel" "zone" "I", Cond.constantLong RX12 537 (2), Cond.constantLong RX12 539 (-48), Cond.constantLong RX12 541 (48), Cond.methodLink RX12 525 yX12_get, Cond.instanceMethod yX12_get, Cond.selects RX12 yX12_get yX12_get, Cond.code yX12_get cX12_get 3 (some .int), Cond.methodLink RX12 417 yX12_number, Cond.static yX12_number, Cond.code yX12_number cX12_number 5 (some .int), Cond.methodLink RX12 543 yX12_layCells, Cond.instanceMethod yX12_layCells, Cond.selects RX12 yX12_layCells yX12_layCells, Cond.code yX12_layCells cX12_layCells 1 (some .boolean), Cond.fieldLink RX12 547 "DiskEvidenceModel" "first" "I", Cond.fieldLink RX12 550 "DiskEvidenceModel" "clusters" "I", Cond.methodLink RX12 582 yX12_isNodes, Cond.instanceMethod yX12_isNodes, Cond.selects RX12 yX12_isNodes yX12_isNodes, Cond.code yX12_isNodes cX12_isNodes 1 (some .boolean), Cond.fieldLink RX12 553 "DiskEvidenceModel" "nodesOf" "I"]
def wsX12_folder_r5 : List Cond := [Cond.constantLong RX12 556 (64), Cond.methodLink RX12 558 yX12_nodeAt, Cond.static yX12_nodeAt, Cond.code yX12_nodeAt cX12_nodeAt 1 (some .int), Cond.methodLink RX12 585 yX12_isHeader, Cond.instanceMethod yX12_isHeader, Cond.selects RX12 yX12_isHeader yX12_isHeader, Cond.code yX12_isHeader cX12_isHeader 5 (some .boolean), Cond.methodLink RX12 569 yX12_octal, Cond.instanceMethod yX12_octal, Cond.selects RX12 yX12_octal yX12_octal, Cond.code yX12_octal cX12_octal 6 (some .long), Cond.constantLong RX12 561 (55), Cond.constantLong RX12 563 (-1), Cond.constantLong RX12 370 (8), Cond.methodLink RX12 573 yX12_headerSum, Cond.instanceMethod yX12_headerSum, Cond.selects RX12 yX12_headerSum yX12_headerSum, Cond.code yX12_headerSum cX12_headerSum 4 (some .int), Cond.constantLong RX12 565 (44), Cond.constantLong RX12 567 (50), Cond.methodLink RX12 588 yX12_isZero, Cond.instanceMethod yX12_isZero, Cond.selects RX12 yX12_isZero yX12_isZero]
def wsX12_folder_r6 : List Cond := [Cond.code yX12_isZero cX12_isZero 3 (some .boolean), Cond.methodLink RX12 765 yX12_walkTape, Cond.instanceMethod yX12_walkTape, Cond.selects RX12 yX12_walkTape yX12_walkTape, Cond.code yX12_walkTape cX12_walkTape 2 (some .boolean), Cond.fieldLink RX12 754 "DiskEvidenceModel" "tapeEnd" "I", Cond.methodLink RX12 751 yX12_tapeBlocks, Cond.instanceMethod yX12_tapeBlocks, Cond.selects RX12 yX12_tapeBlocks yX12_tapeBlocks, Cond.code yX12_tapeBlocks cX12_tapeBlocks 2 (some .int), Cond.methodLink RX12 768 yX12_readPath, Cond.instanceMethod yX12_readPath, Cond.selects RX12 yX12_readPath yX12_readPath, Cond.code yX12_readPath cX12_readPath 5 (some .boolean), Cond.fieldLink RX12 7 "DiskEvidenceModel" "bytes" "[I", Cond.fieldLink RX12 635 "DiskEvidenceModel" "names" "I", Cond.fieldLink RX12 98 "DiskEvidenceModel" "nameFrom" "[I", Cond.fieldLink RX12 101 "DiskEvidenceModel" "nameTo" "[I", Cond.methodLink RX12 638 yX12_isGoodName, Cond.instanceMethod yX12_isGoodName, Cond.selects RX12 yX12_isGoodName yX12_isGoodName, Cond.code yX12_isGoodName cX12_isGoodName 7 (some .boolean), Cond.methodLink RX12 629 yX12_isNameByte, Cond.instanceMethod yX12_isNameByte]
def wsX12_folder_r7 : List Cond := [Cond.selects RX12 yX12_isNameByte yX12_isNameByte, Cond.code yX12_isNameByte cX12_isNameByte 5 (some .boolean), Cond.constantLong RX12 623 (65), Cond.constantLong RX12 625 (90), Cond.constantLong RX12 627 (57), Cond.methodLink RX12 772 yX12_walkPath, Cond.instanceMethod yX12_walkPath, Cond.selects RX12 yX12_walkPath yX12_walkPath, Cond.code yX12_walkPath cX12_walkPath 2 (some .boolean), Cond.fieldLink RX12 663 "DiskEvidenceModel" "folderRow" "I", Cond.fieldLink RX12 669 "DiskEvidenceModel" "folderNode" "I", Cond.methodLink RX12 705 yX12_look, Cond.instanceMethod yX12_look, Cond.selects RX12 yX12_look yX12_look, Cond.code yX12_look cX12_look 6 none, Cond.methodLink RX12 690 yX12_enter, Cond.instanceMethod yX12_enter, Cond.selects RX12 yX12_enter yX12_enter, Cond.code yX12_enter cX12_enter 1 none, Cond.methodLink RX12 672 yX12_follow, Cond.instanceMethod yX12_follow, Cond.selects RX12 yX12_follow yX12_follow, Cond.code yX12_follow cX12_follow 4 none, Cond.fieldLink RX12 641 "DiskEvidenceModel" "links" "I"]
def wsX12_folder_r8 : List Cond := [Cond.constant RX12 650 (65527), Cond.fieldLink RX12 104 "DiskEvidenceModel" "link" "[I", Cond.constant RX12 613 (65528), Cond.methodLink RX12 644 yX12_isCluster, Cond.instanceMethod yX12_isCluster, Cond.selects RX12 yX12_isCluster yX12_isCluster, Cond.code yX12_isCluster cX12_isCluster 2 (some .boolean), Cond.methodLink RX12 647 yX12_cell, Cond.instanceMethod yX12_cell, Cond.selects RX12 yX12_cell yX12_cell, Cond.code yX12_cell cX12_cell 2 (some .int), Cond.methodLink RX12 651 yX12_isLinked, Cond.instanceMethod yX12_isLinked, Cond.selects RX12 yX12_isLinked yX12_isLinked, Cond.code yX12_isLinked cX12_isLinked 3 (some .boolean), Cond.methodLink RX12 675 yX12_followNode, Cond.instanceMethod yX12_followNode, Cond.selects RX12 yX12_followNode yX12_followNode, Cond.code yX12_followNode cX12_followNode 3 none, Cond.methodLink RX12 657 yX12_placesOf, Cond.instanceMethod yX12_placesOf, Cond.selects RX12 yX12_placesOf yX12_placesOf, Cond.code yX12_placesOf cX12_placesOf 3 (some .int), Cond.methodLink RX12 660 yX12_placeBlock]
def wsX12_folder_r9 : List Cond := [Cond.instanceMethod yX12_placeBlock, Cond.selects RX12 yX12_placeBlock yX12_placeBlock, Cond.code yX12_placeBlock cX12_placeBlock 6 (some .int), Cond.methodLink RX12 654 yX12_isData, Cond.instanceMethod yX12_isData, Cond.selects RX12 yX12_isData yX12_isData, Cond.code yX12_isData cX12_isData 2 (some .boolean), Cond.methodLink RX12 696 yX12_rowAt, Cond.instanceMethod yX12_rowAt, Cond.selects RX12 yX12_rowAt yX12_rowAt, Cond.code yX12_rowAt cX12_rowAt 3 (some .int), Cond.methodLink RX12 666 yX12_clusterBlock, Cond.instanceMethod yX12_clusterBlock, Cond.selects RX12 yX12_clusterBlock yX12_clusterBlock, Cond.code yX12_clusterBlock cX12_clusterBlock 2 (some .int), Cond.methodLink RX12 699 yX12_lives, Cond.instanceMethod yX12_lives, Cond.selects RX12 yX12_lives yX12_lives, Cond.code yX12_lives cX12_lives 2 (some .boolean), Cond.methodLink RX12 687 yX12_isNode, Cond.instanceMethod yX12_isNode, Cond.selects RX12 yX12_isNode yX12_isNode, Cond.code yX12_isNode cX12_isNode 2 (some .boolean), Cond.methodLink RX12 702 yX12_isNamed]
def wsX12_folder_r10 : List Cond := [Cond.instanceMethod yX12_isNamed, Cond.selects RX12 yX12_isNamed yX12_isNamed, Cond.code yX12_isNamed cX12_isNamed 5 (some .boolean), Cond.methodLink RX12 681 yX12_rowNameSize, Cond.instanceMethod yX12_rowNameSize, Cond.selects RX12 yX12_rowNameSize yX12_rowNameSize, Cond.code yX12_rowNameSize cX12_rowNameSize 3 (some .int), Cond.methodLink RX12 678 yX12_unblanked, Cond.instanceMethod yX12_unblanked, Cond.selects RX12 yX12_unblanked yX12_unblanked, Cond.code yX12_unblanked cX12_unblanked 4 (some .int), Cond.methodLink RX12 684 yX12_rowName, Cond.instanceMethod yX12_rowName, Cond.selects RX12 yX12_rowName yX12_rowName, Cond.code yX12_rowName cX12_rowName 4 (some .int), Cond.methodLink RX12 708 yX12_isFolder, Cond.instanceMethod yX12_isFolder, Cond.selects RX12 yX12_isFolder yX12_isFolder, Cond.code yX12_isFolder cX12_isFolder 2 (some .boolean), Cond.methodLink RX12 775 yX12_makeCells, Cond.instanceMethod yX12_makeCells, Cond.selects RX12 yX12_makeCells yX12_makeCells, Cond.code yX12_makeCells cX12_makeCells 11 (some .int), Cond.constant RX12 722 (65535)]
def wsX12_folder_r11 : List Cond := [Cond.methodLink RX12 732 yX12_newRow, Cond.instanceMethod yX12_newRow, Cond.selects RX12 yX12_newRow yX12_newRow, Cond.code yX12_newRow cX12_newRow 3 (some .int), Cond.methodLink RX12 716 yX12_growNode, Cond.instanceMethod yX12_growNode, Cond.selects RX12 yX12_growNode yX12_growNode, Cond.code yX12_growNode cX12_growNode 2 (some .boolean), Cond.methodLink RX12 726 yX12_setPlace, Cond.instanceMethod yX12_setPlace, Cond.selects RX12 yX12_setPlace yX12_setPlace, Cond.code yX12_setPlace cX12_setPlace 5 (some .boolean), Cond.methodLink RX12 729 yX12_freeBlock, Cond.instanceMethod yX12_freeBlock, Cond.selects RX12 yX12_freeBlock yX12_freeBlock, Cond.code yX12_freeBlock cX12_freeBlock 2 (some .int), Cond.methodLink RX12 713 yX12_bit, Cond.instanceMethod yX12_bit, Cond.selects RX12 yX12_bit yX12_bit, Cond.code yX12_bit cX12_bit 3 (some .boolean), Cond.methodLink RX12 619 yX12_setBit, Cond.instanceMethod yX12_setBit, Cond.selects RX12 yX12_setBit yX12_setBit, Cond.code yX12_setBit cX12_setBit 5 none]
def wsX12_folder_r12 : List Cond := [Cond.methodLink RX12 723 yX12_fill, Cond.instanceMethod yX12_fill, Cond.selects RX12 yX12_fill yX12_fill, Cond.code yX12_fill cX12_fill 4 none, Cond.methodLink RX12 607 yX12_put, Cond.instanceMethod yX12_put, Cond.selects RX12 yX12_put yX12_put, Cond.code yX12_put cX12_put 6 none, Cond.constantLong RX12 379 (255), Cond.methodLink RX12 719 yX12_freeCell, Cond.instanceMethod yX12_freeCell, Cond.selects RX12 yX12_freeCell yX12_freeCell, Cond.code yX12_freeCell cX12_freeCell 2 (some .int), Cond.methodLink RX12 614 yX12_setCell, Cond.instanceMethod yX12_setCell, Cond.selects RX12 yX12_setCell yX12_setCell, Cond.code yX12_setCell cX12_setCell 4 none, Cond.methodLink RX12 735 yX12_freeChain, Cond.instanceMethod yX12_freeChain, Cond.selects RX12 yX12_freeChain yX12_freeChain, Cond.code yX12_freeChain cX12_freeChain 3 none, Cond.methodLink RX12 738 yX12_writeName, Cond.instanceMethod yX12_writeName, Cond.selects RX12 yX12_writeName yX12_writeName]
def wsX12_folder_r13 : List Cond := [Cond.code yX12_writeName cX12_writeName 4 none, Cond.methodLink RX12 741 yX12_stamp, Cond.instanceMethod yX12_stamp, Cond.selects RX12 yX12_stamp yX12_stamp, Cond.code yX12_stamp cX12_stamp 3 (some .long), Cond.fieldLink RX12 383 "DiskEvidenceModel" "now" "I", Cond.constantLong RX12 711 (900), Cond.methodLink RX12 779 yX12_makeNode, Cond.instanceMethod yX12_makeNode, Cond.selects RX12 yX12_makeNode yX12_makeNode, Cond.code yX12_makeNode cX12_makeNode 11 (some .int), Cond.methodLink RX12 745 yX12_freeNodeNumber, Cond.instanceMethod yX12_freeNodeNumber, Cond.selects RX12 yX12_freeNodeNumber yX12_freeNodeNumber, Cond.code yX12_freeNodeNumber cX12_freeNodeNumber 2 (some .int), Cond.methodLink RX12 748 yX12_freeNode, Cond.instanceMethod yX12_freeNode, Cond.selects RX12 yX12_freeNode yX12_freeNode, Cond.code yX12_freeNode cX12_freeNode 4 none, Cond.methodLink RX12 782 yX12_makeEntry, Cond.instanceMethod yX12_makeEntry, Cond.selects RX12 yX12_makeEntry yX12_makeEntry, Cond.code yX12_makeEntry cX12_makeEntry 7 (some .int), Cond.methodLink RX12 759 yX12_putOctal]
def wsX12_folder_r14 : List Cond := [Cond.instanceMethod yX12_putOctal, Cond.selects RX12 yX12_putOctal yX12_putOctal, Cond.code yX12_putOctal cX12_putOctal 8 none, Cond.constantLong RX12 757 (7), Cond.methodLink RX12 603 yX12_give, Cond.instanceMethod yX12_give, Cond.selects RX12 yX12_give yX12_give, Cond.code yX12_give cX12_give 6 none, Cond.methodLink RX12 516 yX12_writeBlock, Cond.instanceMethod yX12_writeBlock, Cond.selects RX12 yX12_writeBlock yX12_writeBlock, Cond.code yX12_writeBlock cX12_writeBlock 6 none, Cond.fieldLink RX12 501 "DiskEvidenceModel" "waiting" "I", Cond.fieldLink RX12 86 "DiskEvidenceModel" "one" "[I", Cond.fieldLink RX12 77 "DiskEvidenceModel" "waitVolume" "[I", Cond.fieldLink RX12 80 "DiskEvidenceModel" "waitBlock" "[I", Cond.fieldLink RX12 83 "DiskEvidenceModel" "waitBytes" "[I", Cond.methodLink RX12 504 yX12_wait, Cond.instanceMethod yX12_wait, Cond.selects RX12 yX12_wait yX12_wait, Cond.code yX12_wait cX12_wait 4 none, Cond.methodLink RX12 507 yX12_writeSector, Cond.instanceMethod yX12_writeSector, Cond.selects RX12 yX12_writeSector yX12_writeSector]
def wsX12_folder_r15 : List Cond := [Cond.code yX12_writeSector cX12_writeSector 4 none, Cond.methodLink RX12 428 yX12_change, Cond.instanceMethod yX12_change, Cond.selects RX12 yX12_change yX12_change, Cond.code yX12_change cX12_change 3 none, Cond.methodLink RX12 510 yX12_writeParity, Cond.instanceMethod yX12_writeParity, Cond.selects RX12 yX12_writeParity yX12_writeParity, Cond.code yX12_writeParity cX12_writeParity 7 none, Cond.fieldLink RX12 89 "DiskEvidenceModel" "kept" "[I"]
def wsX12_folder : List Cond := .code yX12_folder cX12_folder 3 (some .int) :: ((wsX12_folder_r1 ++ (wsX12_folder_r2 ++ (wsX12_folder_r3 ++ (wsX12_folder_r4 ++ (wsX12_folder_r5 ++ (wsX12_folder_r6 ++ (wsX12_folder_r7 ++ (wsX12_folder_r8 ++ (wsX12_folder_r9 ++ (wsX12_folder_r10 ++ (wsX12_folder_r11 ++ (wsX12_folder_r12 ++ (wsX12_folder_r13 ++ (wsX12_folder_r14 ++ wsX12_folder_r15)))))))))))))) ++ wsX120)
def wsX12_erase_r1 : List Cond := [Cond.fieldLink RX12 376 "DiskEvidenceModel" "many" "I", Cond.methodLink RX12 474 yX12_isVolume, Cond.instanceMethod yX12_isVolume, Cond.selects RX12 yX12_isVolume yX12_isVolume, Cond.initialized RX12, Cond.code yX12_isVolume cX12_isVolume 2 (some .boolean), Cond.fieldLink RX12 466 "DiskEvidenceModel" "volumes" "I", Cond.methodLink RX12 372 yX12_in, Cond.static yX12_in, Cond.code yX12_in cX12_in 6 (some .boolean), Cond.methodLink RX12 788 yX12_remove, Cond.instanceMethod yX12_remove, Cond.selects RX12 yX12_remove yX12_remove, Cond.code yX12_remove cX12_remove 5 (some .int), Cond.fieldLink RX12 579 "DiskEvidenceModel" "form" "I", Cond.fieldLink RX12 693 "DiskEvidenceModel" "foundRow" "I", Cond.fieldLink RX12 92 "DiskEvidenceModel" "image" "[I", Cond.fieldLink RX12 383 "DiskEvidenceModel" "now" "I", Cond.methodLink RX12 597 yX12_take, Cond.instanceMethod yX12_take, Cond.selects RX12 yX12_take yX12_take, Cond.code yX12_take cX12_take 3 none, Cond.fieldLink RX12 33 "DiskEvidenceModel" "blocksOf" "[I", Cond.fieldLink RX12 513 "DiskEvidenceModel" "imageBlocks" "I"]
def wsX12_erase_r2 : List Cond := [Cond.fieldLink RX12 40 "DiskEvidenceModel" "all" "[I", Cond.fieldLink RX12 95 "DiskEvidenceModel" "old" "[I", Cond.methodLink RX12 498 yX12_refresh, Cond.instanceMethod yX12_refresh, Cond.selects RX12 yX12_refresh yX12_refresh, Cond.code yX12_refresh cX12_refresh 4 none, Cond.fieldLink RX12 46 "DiskEvidenceModel" "isOld" "Z", Cond.fieldLink RX12 486 "DiskEvidenceModel" "laid" "I", Cond.fieldLink RX12 53 "DiskEvidenceModel" "blockChanged" "[Z", Cond.fieldLink RX12 50 "DiskEvidenceModel" "sectorChanged" "[Z", Cond.methodLink RX12 489 yX12_hasChanged, Cond.instanceMethod yX12_hasChanged, Cond.selects RX12 yX12_hasChanged yX12_hasChanged, Cond.code yX12_hasChanged cX12_hasChanged 6 (some .boolean), Cond.fieldLink RX12 24 "DiskEvidenceModel" "sort" "[I", Cond.fieldLink RX12 27 "DiskEvidenceModel" "pictureOf" "[I", Cond.fieldLink RX12 30 "DiskEvidenceModel" "beginOf" "[I", Cond.fieldLink RX12 477 "DiskEvidenceModel" "member" "I", Cond.fieldLink RX12 480 "DiskEvidenceModel" "memberBlock" "I", Cond.fieldLink RX12 36 "DiskEvidenceModel" "members" "[I", Cond.methodLink RX12 495 yX12_locate, Cond.instanceMethod yX12_locate, Cond.selects RX12 yX12_locate yX12_locate, Cond.code yX12_locate cX12_locate 5 none]
def wsX12_erase_r3 : List Cond := [Cond.methodLink RX12 483 yX12_other, Cond.static yX12_other, Cond.code yX12_other cX12_other 2 (some .int), Cond.methodLink RX12 492 yX12_readBlock, Cond.instanceMethod yX12_readBlock, Cond.selects RX12 yX12_readBlock yX12_readBlock, Cond.code yX12_readBlock cX12_readBlock 7 none, Cond.fieldLink RX12 43 "DiskEvidenceModel" "comesSpoilt" "[Z", Cond.fieldLink RX12 20 "DiskEvidenceModel" "isSpoilt" "[Z", Cond.methodLink RX12 435 yX12_read, Cond.instanceMethod yX12_read, Cond.selects RX12 yX12_read yX12_read, Cond.code yX12_read cX12_read 3 (some .int), Cond.fieldLink RX12 17 "DiskEvidenceModel" "data" "[I", Cond.methodLink RX12 762 yX12_findForm, Cond.instanceMethod yX12_findForm, Cond.selects RX12 yX12_findForm yX12_findForm, Cond.code yX12_findForm cX12_findForm 1 none, Cond.fieldLink RX12 528 "DiskEvidenceModel" "span" "I", Cond.methodLink RX12 576 yX12_isCells, Cond.instanceMethod yX12_isCells, Cond.selects RX12 yX12_isCells yX12_isCells, Cond.code yX12_isCells cX12_isCells 1 (some .boolean), Cond.fieldLink RX12 519 "DiskEvidenceModel" "tablesOf" "I"]
def wsX12_erase_r4 : List Cond := [Cond.fieldLink RX12 522 "DiskEvidenceModel" "tableBlocks" "I", Cond.fieldLink RX12 531 "DiskEvidenceModel" "rootBlocks" "I", Cond.fieldLink RX12 534 "DiskEvidenceModel" "zone" "I", Cond.constantLong RX12 537 (2), Cond.constantLong RX12 539 (-48), Cond.constantLong RX12 541 (48), Cond.methodLink RX12 525 yX12_get, Cond.instanceMethod yX12_get, Cond.selects RX12 yX12_get yX12_get, Cond.code yX12_get cX12_get 3 (some .int), Cond.methodLink RX12 417 yX12_number, Cond.static yX12_number, Cond.code yX12_number cX12_number 5 (some .int), Cond.methodLink RX12 543 yX12_layCells, Cond.instanceMethod yX12_layCells, Cond.selects RX12 yX12_layCells yX12_layCells, Cond.code yX12_layCells cX12_layCells 1 (some .boolean), Cond.fieldLink RX12 547 "DiskEvidenceModel" "first" "I", Cond.fieldLink RX12 550 "DiskEvidenceModel" "clusters" "I", Cond.methodLink RX12 582 yX12_isNodes, Cond.instanceMethod yX12_isNodes, Cond.selects RX12 yX12_isNodes yX12_isNodes, Cond.code yX12_isNodes cX12_isNodes 1 (some .boolean), Cond.fieldLink RX12 553 "DiskEvidenceModel" "nodesOf" "I"]
def wsX12_erase_r5 : List Cond := [Cond.constantLong RX12 556 (64), Cond.methodLink RX12 558 yX12_nodeAt, Cond.static yX12_nodeAt, Cond.code yX12_nodeAt cX12_nodeAt 1 (some .int), Cond.methodLink RX12 585 yX12_isHeader, Cond.instanceMethod yX12_isHeader, Cond.selects RX12 yX12_isHeader yX12_isHeader, Cond.code yX12_isHeader cX12_isHeader 5 (some .boolean), Cond.methodLink RX12 569 yX12_octal, Cond.instanceMethod yX12_octal, Cond.selects RX12 yX12_octal yX12_octal, Cond.code yX12_octal cX12_octal 6 (some .long), Cond.constantLong RX12 561 (55), Cond.constantLong RX12 563 (-1), Cond.constantLong RX12 370 (8), Cond.methodLink RX12 573 yX12_headerSum, Cond.instanceMethod yX12_headerSum, Cond.selects RX12 yX12_headerSum yX12_headerSum, Cond.code yX12_headerSum cX12_headerSum 4 (some .int), Cond.constantLong RX12 565 (44), Cond.constantLong RX12 567 (50), Cond.methodLink RX12 588 yX12_isZero, Cond.instanceMethod yX12_isZero, Cond.selects RX12 yX12_isZero yX12_isZero]
def wsX12_erase_r6 : List Cond := [Cond.code yX12_isZero cX12_isZero 3 (some .boolean), Cond.methodLink RX12 768 yX12_readPath, Cond.instanceMethod yX12_readPath, Cond.selects RX12 yX12_readPath yX12_readPath, Cond.code yX12_readPath cX12_readPath 5 (some .boolean), Cond.fieldLink RX12 632 "DiskEvidenceModel" "pathEnd" "I", Cond.fieldLink RX12 7 "DiskEvidenceModel" "bytes" "[I", Cond.fieldLink RX12 635 "DiskEvidenceModel" "names" "I", Cond.fieldLink RX12 98 "DiskEvidenceModel" "nameFrom" "[I", Cond.fieldLink RX12 101 "DiskEvidenceModel" "nameTo" "[I", Cond.methodLink RX12 638 yX12_isGoodName, Cond.instanceMethod yX12_isGoodName, Cond.selects RX12 yX12_isGoodName yX12_isGoodName, Cond.code yX12_isGoodName cX12_isGoodName 7 (some .boolean), Cond.methodLink RX12 629 yX12_isNameByte, Cond.instanceMethod yX12_isNameByte, Cond.selects RX12 yX12_isNameByte yX12_isNameByte, Cond.code yX12_isNameByte cX12_isNameByte 5 (some .boolean), Cond.constantLong RX12 623 (65), Cond.constantLong RX12 625 (90), Cond.constantLong RX12 627 (57), Cond.methodLink RX12 772 yX12_walkPath, Cond.instanceMethod yX12_walkPath, Cond.selects RX12 yX12_walkPath yX12_walkPath]
def wsX12_erase_r7 : List Cond := [Cond.code yX12_walkPath cX12_walkPath 2 (some .boolean), Cond.fieldLink RX12 663 "DiskEvidenceModel" "folderRow" "I", Cond.fieldLink RX12 669 "DiskEvidenceModel" "folderNode" "I", Cond.methodLink RX12 705 yX12_look, Cond.instanceMethod yX12_look, Cond.selects RX12 yX12_look yX12_look, Cond.code yX12_look cX12_look 6 none, Cond.methodLink RX12 690 yX12_enter, Cond.instanceMethod yX12_enter, Cond.selects RX12 yX12_enter yX12_enter, Cond.code yX12_enter cX12_enter 1 none, Cond.methodLink RX12 672 yX12_follow, Cond.instanceMethod yX12_follow, Cond.selects RX12 yX12_follow yX12_follow, Cond.code yX12_follow cX12_follow 4 none, Cond.fieldLink RX12 641 "DiskEvidenceModel" "links" "I", Cond.constant RX12 650 (65527), Cond.fieldLink RX12 104 "DiskEvidenceModel" "link" "[I", Cond.constant RX12 613 (65528), Cond.methodLink RX12 644 yX12_isCluster, Cond.instanceMethod yX12_isCluster, Cond.selects RX12 yX12_isCluster yX12_isCluster, Cond.code yX12_isCluster cX12_isCluster 2 (some .boolean), Cond.methodLink RX12 647 yX12_cell]
def wsX12_erase_r8 : List Cond := [Cond.instanceMethod yX12_cell, Cond.selects RX12 yX12_cell yX12_cell, Cond.code yX12_cell cX12_cell 2 (some .int), Cond.methodLink RX12 651 yX12_isLinked, Cond.instanceMethod yX12_isLinked, Cond.selects RX12 yX12_isLinked yX12_isLinked, Cond.code yX12_isLinked cX12_isLinked 3 (some .boolean), Cond.methodLink RX12 675 yX12_followNode, Cond.instanceMethod yX12_followNode, Cond.selects RX12 yX12_followNode yX12_followNode, Cond.code yX12_followNode cX12_followNode 3 none, Cond.methodLink RX12 657 yX12_placesOf, Cond.instanceMethod yX12_placesOf, Cond.selects RX12 yX12_placesOf yX12_placesOf, Cond.code yX12_placesOf cX12_placesOf 3 (some .int), Cond.methodLink RX12 660 yX12_placeBlock, Cond.instanceMethod yX12_placeBlock, Cond.selects RX12 yX12_placeBlock yX12_placeBlock, Cond.code yX12_placeBlock cX12_placeBlock 6 (some .int), Cond.methodLink RX12 654 yX12_isData, Cond.instanceMethod yX12_isData, Cond.selects RX12 yX12_isData yX12_isData, Cond.code yX12_isData cX12_isData 2 (some .boolean), Cond.methodLink RX12 696 yX12_rowAt]
def wsX12_erase_r9 : List Cond := [Cond.instanceMethod yX12_rowAt, Cond.selects RX12 yX12_rowAt yX12_rowAt, Cond.code yX12_rowAt cX12_rowAt 3 (some .int), Cond.methodLink RX12 666 yX12_clusterBlock, Cond.instanceMethod yX12_clusterBlock, Cond.selects RX12 yX12_clusterBlock yX12_clusterBlock, Cond.code yX12_clusterBlock cX12_clusterBlock 2 (some .int), Cond.methodLink RX12 699 yX12_lives, Cond.instanceMethod yX12_lives, Cond.selects RX12 yX12_lives yX12_lives, Cond.code yX12_lives cX12_lives 2 (some .boolean), Cond.methodLink RX12 687 yX12_isNode, Cond.instanceMethod yX12_isNode, Cond.selects RX12 yX12_isNode yX12_isNode, Cond.code yX12_isNode cX12_isNode 2 (some .boolean), Cond.methodLink RX12 702 yX12_isNamed, Cond.instanceMethod yX12_isNamed, Cond.selects RX12 yX12_isNamed yX12_isNamed, Cond.code yX12_isNamed cX12_isNamed 5 (some .boolean), Cond.methodLink RX12 681 yX12_rowNameSize, Cond.instanceMethod yX12_rowNameSize, Cond.selects RX12 yX12_rowNameSize yX12_rowNameSize, Cond.code yX12_rowNameSize cX12_rowNameSize 3 (some .int), Cond.methodLink RX12 678 yX12_unblanked]
def wsX12_erase_r10 : List Cond := [Cond.instanceMethod yX12_unblanked, Cond.selects RX12 yX12_unblanked yX12_unblanked, Cond.code yX12_unblanked cX12_unblanked 4 (some .int), Cond.methodLink RX12 684 yX12_rowName, Cond.instanceMethod yX12_rowName, Cond.selects RX12 yX12_rowName yX12_rowName, Cond.code yX12_rowName cX12_rowName 4 (some .int), Cond.methodLink RX12 708 yX12_isFolder, Cond.instanceMethod yX12_isFolder, Cond.selects RX12 yX12_isFolder yX12_isFolder, Cond.code yX12_isFolder cX12_isFolder 2 (some .boolean), Cond.methodLink RX12 791 yX12_hasRows, Cond.instanceMethod yX12_hasRows, Cond.selects RX12 yX12_hasRows yX12_hasRows, Cond.code yX12_hasRows cX12_hasRows 4 (some .boolean), Cond.methodLink RX12 735 yX12_freeChain, Cond.instanceMethod yX12_freeChain, Cond.selects RX12 yX12_freeChain yX12_freeChain, Cond.code yX12_freeChain cX12_freeChain 3 none, Cond.methodLink RX12 614 yX12_setCell, Cond.instanceMethod yX12_setCell, Cond.selects RX12 yX12_setCell yX12_setCell, Cond.code yX12_setCell cX12_setCell 4 none, Cond.methodLink RX12 607 yX12_put]
def wsX12_erase_r11 : List Cond := [Cond.instanceMethod yX12_put, Cond.selects RX12 yX12_put yX12_put, Cond.code yX12_put cX12_put 6 none, Cond.constantLong RX12 379 (255), Cond.methodLink RX12 748 yX12_freeNode, Cond.instanceMethod yX12_freeNode, Cond.selects RX12 yX12_freeNode yX12_freeNode, Cond.code yX12_freeNode cX12_freeNode 4 none, Cond.methodLink RX12 619 yX12_setBit, Cond.instanceMethod yX12_setBit, Cond.selects RX12 yX12_setBit yX12_setBit, Cond.code yX12_setBit cX12_setBit 5 none, Cond.methodLink RX12 603 yX12_give, Cond.instanceMethod yX12_give, Cond.selects RX12 yX12_give yX12_give, Cond.code yX12_give cX12_give 6 none, Cond.methodLink RX12 516 yX12_writeBlock, Cond.instanceMethod yX12_writeBlock, Cond.selects RX12 yX12_writeBlock yX12_writeBlock, Cond.code yX12_writeBlock cX12_writeBlock 6 none, Cond.fieldLink RX12 501 "DiskEvidenceModel" "waiting" "I", Cond.fieldLink RX12 86 "DiskEvidenceModel" "one" "[I", Cond.fieldLink RX12 77 "DiskEvidenceModel" "waitVolume" "[I", Cond.fieldLink RX12 80 "DiskEvidenceModel" "waitBlock" "[I"]
def wsX12_erase_r12 : List Cond := [Cond.fieldLink RX12 83 "DiskEvidenceModel" "waitBytes" "[I", Cond.methodLink RX12 504 yX12_wait, Cond.instanceMethod yX12_wait, Cond.selects RX12 yX12_wait yX12_wait, Cond.code yX12_wait cX12_wait 4 none, Cond.methodLink RX12 507 yX12_writeSector, Cond.instanceMethod yX12_writeSector, Cond.selects RX12 yX12_writeSector yX12_writeSector, Cond.code yX12_writeSector cX12_writeSector 4 none, Cond.methodLink RX12 428 yX12_change, Cond.instanceMethod yX12_change, Cond.selects RX12 yX12_change yX12_change, Cond.code yX12_change cX12_change 3 none, Cond.methodLink RX12 510 yX12_writeParity, Cond.instanceMethod yX12_writeParity, Cond.selects RX12 yX12_writeParity yX12_writeParity, Cond.code yX12_writeParity cX12_writeParity 7 none, Cond.fieldLink RX12 89 "DiskEvidenceModel" "kept" "[I"]
def wsX12_erase : List Cond := .code yX12_erase cX12_erase 3 (some .int) :: ((wsX12_erase_r1 ++ (wsX12_erase_r2 ++ (wsX12_erase_r3 ++ (wsX12_erase_r4 ++ (wsX12_erase_r5 ++ (wsX12_erase_r6 ++ (wsX12_erase_r7 ++ (wsX12_erase_r8 ++ (wsX12_erase_r9 ++ (wsX12_erase_r10 ++ (wsX12_erase_r11 ++ wsX12_erase_r12))))))))))) ++ wsX120)
def wsX12_isTree : List Cond := .code yX12_isTree cX12_isTree 2 (some .boolean) :: ([.fieldLink RX12 794 "DiskEvidenceModel" "trees" "I", .methodLink RX12 372 yX12_in, .static yX12_in, .initialized RX12, .code yX12_in cX12_in 6 (some .boolean)] ++ wsX120)
def wsX12_isFile : List Cond := .code yX12_isFile cX12_isFile 3 (some .boolean) :: ([.methodLink RX12 797 yX12_isTree, .instanceMethod yX12_isTree, .selects RX12 yX12_isTree yX12_isTree, .initialized RX12, .code yX12_isTree cX12_isTree 2 (some .boolean), .fieldLink RX12 794 "DiskEvidenceModel" "trees" "I", .methodLink RX12 372 yX12_in, .static yX12_in, .code yX12_in cX12_in 6 (some .boolean), .methodLink RX12 800 yX12_filesOf, .instanceMethod yX12_filesOf, .selects RX12 yX12_filesOf yX12_filesOf, .code yX12_filesOf cX12_filesOf 2 (some .int), .fieldLink RX12 129 "DiskEvidenceModel" "living" "[I", .fieldLink RX12 132 "DiskEvidenceModel" "lost" "[I", .fieldLink RX12 135 "DiskEvidenceModel" "cut" "[I", .fieldLink RX12 138 "DiskEvidenceModel" "inside" "[I"] ++ wsX120)
def wsX12_mount_r1 : List Cond := [Cond.fieldLink RX12 794 "DiskEvidenceModel" "trees" "I", Cond.fieldLink RX12 579 "DiskEvidenceModel" "form" "I", Cond.fieldLink RX12 803 "DiskEvidenceModel" "tree" "I", Cond.fieldLink RX12 107 "DiskEvidenceModel" "treeForm" "[I", Cond.fieldLink RX12 110 "DiskEvidenceModel" "treeVolume" "[I", Cond.fieldLink RX12 113 "DiskEvidenceModel" "treeSpan" "[I", Cond.fieldLink RX12 528 "DiskEvidenceModel" "span" "I", Cond.fieldLink RX12 116 "DiskEvidenceModel" "treeBlocks" "[I", Cond.fieldLink RX12 513 "DiskEvidenceModel" "imageBlocks" "I", Cond.fieldLink RX12 119 "DiskEvidenceModel" "treeZone" "[I", Cond.fieldLink RX12 534 "DiskEvidenceModel" "zone" "I", Cond.fieldLink RX12 129 "DiskEvidenceModel" "living" "[I", Cond.fieldLink RX12 132 "DiskEvidenceModel" "lost" "[I", Cond.fieldLink RX12 135 "DiskEvidenceModel" "cut" "[I", Cond.fieldLink RX12 138 "DiskEvidenceModel" "inside" "[I", Cond.fieldLink RX12 141 "DiskEvidenceModel" "faults" "[I", Cond.fieldLink RX12 812 "DiskEvidenceModel" "erasedRows" "I", Cond.fieldLink RX12 123 "DiskEvidenceModel" "treeBytes" "[I", Cond.fieldLink RX12 92 "DiskEvidenceModel" "image" "[I", Cond.methodLink RX12 474 yX12_isVolume, Cond.instanceMethod yX12_isVolume, Cond.selects RX12 yX12_isVolume yX12_isVolume, Cond.initialized RX12, Cond.code yX12_isVolume cX12_isVolume 2 (some .boolean)]
def wsX12_mount_r2 : List Cond := [Cond.fieldLink RX12 466 "DiskEvidenceModel" "volumes" "I", Cond.methodLink RX12 372 yX12_in, Cond.static yX12_in, Cond.code yX12_in cX12_in 6 (some .boolean), Cond.methodLink RX12 597 yX12_take, Cond.instanceMethod yX12_take, Cond.selects RX12 yX12_take yX12_take, Cond.code yX12_take cX12_take 3 none, Cond.fieldLink RX12 33 "DiskEvidenceModel" "blocksOf" "[I", Cond.fieldLink RX12 40 "DiskEvidenceModel" "all" "[I", Cond.fieldLink RX12 95 "DiskEvidenceModel" "old" "[I", Cond.methodLink RX12 498 yX12_refresh, Cond.instanceMethod yX12_refresh, Cond.selects RX12 yX12_refresh yX12_refresh, Cond.code yX12_refresh cX12_refresh 4 none, Cond.fieldLink RX12 46 "DiskEvidenceModel" "isOld" "Z", Cond.fieldLink RX12 486 "DiskEvidenceModel" "laid" "I", Cond.fieldLink RX12 53 "DiskEvidenceModel" "blockChanged" "[Z", Cond.fieldLink RX12 50 "DiskEvidenceModel" "sectorChanged" "[Z", Cond.methodLink RX12 489 yX12_hasChanged, Cond.instanceMethod yX12_hasChanged, Cond.selects RX12 yX12_hasChanged yX12_hasChanged, Cond.code yX12_hasChanged cX12_hasChanged 6 (some .boolean), Cond.fieldLink RX12 24 "DiskEvidenceModel" "sort" "[I"]
def wsX12_mount_r3 : List Cond := [Cond.fieldLink RX12 27 "DiskEvidenceModel" "pictureOf" "[I", Cond.fieldLink RX12 30 "DiskEvidenceModel" "beginOf" "[I", Cond.fieldLink RX12 477 "DiskEvidenceModel" "member" "I", Cond.fieldLink RX12 480 "DiskEvidenceModel" "memberBlock" "I", Cond.fieldLink RX12 36 "DiskEvidenceModel" "members" "[I", Cond.methodLink RX12 495 yX12_locate, Cond.instanceMethod yX12_locate, Cond.selects RX12 yX12_locate yX12_locate, Cond.code yX12_locate cX12_locate 5 none, Cond.methodLink RX12 483 yX12_other, Cond.static yX12_other, Cond.code yX12_other cX12_other 2 (some .int), Cond.methodLink RX12 492 yX12_readBlock, Cond.instanceMethod yX12_readBlock, Cond.selects RX12 yX12_readBlock yX12_readBlock, Cond.code yX12_readBlock cX12_readBlock 7 none, Cond.fieldLink RX12 43 "DiskEvidenceModel" "comesSpoilt" "[Z", Cond.fieldLink RX12 20 "DiskEvidenceModel" "isSpoilt" "[Z", Cond.methodLink RX12 435 yX12_read, Cond.instanceMethod yX12_read, Cond.selects RX12 yX12_read yX12_read, Cond.code yX12_read cX12_read 3 (some .int), Cond.fieldLink RX12 17 "DiskEvidenceModel" "data" "[I", Cond.methodLink RX12 762 yX12_findForm]
def wsX12_mount_r4 : List Cond := [Cond.instanceMethod yX12_findForm, Cond.selects RX12 yX12_findForm yX12_findForm, Cond.code yX12_findForm cX12_findForm 1 none, Cond.methodLink RX12 576 yX12_isCells, Cond.instanceMethod yX12_isCells, Cond.selects RX12 yX12_isCells yX12_isCells, Cond.code yX12_isCells cX12_isCells 1 (some .boolean), Cond.fieldLink RX12 519 "DiskEvidenceModel" "tablesOf" "I", Cond.fieldLink RX12 522 "DiskEvidenceModel" "tableBlocks" "I", Cond.fieldLink RX12 531 "DiskEvidenceModel" "rootBlocks" "I", Cond.constantLong RX12 537 (2), Cond.constantLong RX12 539 (-48), Cond.constantLong RX12 541 (48), Cond.methodLink RX12 525 yX12_get, Cond.instanceMethod yX12_get, Cond.selects RX12 yX12_get yX12_get, Cond.code yX12_get cX12_get 3 (some .int), Cond.methodLink RX12 417 yX12_number, Cond.static yX12_number, Cond.code yX12_number cX12_number 5 (some .int), Cond.methodLink RX12 543 yX12_layCells, Cond.instanceMethod yX12_layCells, Cond.selects RX12 yX12_layCells yX12_layCells, Cond.code yX12_layCells cX12_layCells 1 (some .boolean)]
def wsX12_mount_r5 : List Cond := [Cond.fieldLink RX12 547 "DiskEvidenceModel" "first" "I", Cond.fieldLink RX12 550 "DiskEvidenceModel" "clusters" "I", Cond.methodLink RX12 582 yX12_isNodes, Cond.instanceMethod yX12_isNodes, Cond.selects RX12 yX12_isNodes yX12_isNodes, Cond.code yX12_isNodes cX12_isNodes 1 (some .boolean), Cond.fieldLink RX12 553 "DiskEvidenceModel" "nodesOf" "I", Cond.constantLong RX12 556 (64), Cond.methodLink RX12 558 yX12_nodeAt, Cond.static yX12_nodeAt, Cond.code yX12_nodeAt cX12_nodeAt 1 (some .int), Cond.methodLink RX12 585 yX12_isHeader, Cond.instanceMethod yX12_isHeader, Cond.selects RX12 yX12_isHeader yX12_isHeader, Cond.code yX12_isHeader cX12_isHeader 5 (some .boolean), Cond.methodLink RX12 569 yX12_octal, Cond.instanceMethod yX12_octal, Cond.selects RX12 yX12_octal yX12_octal, Cond.code yX12_octal cX12_octal 6 (some .long), Cond.constantLong RX12 561 (55), Cond.constantLong RX12 563 (-1), Cond.constantLong RX12 370 (8), Cond.methodLink RX12 573 yX12_headerSum, Cond.instanceMethod yX12_headerSum]
def wsX12_mount_r6 : List Cond := [Cond.selects RX12 yX12_headerSum yX12_headerSum, Cond.code yX12_headerSum cX12_headerSum 4 (some .int), Cond.constantLong RX12 565 (44), Cond.constantLong RX12 567 (50), Cond.methodLink RX12 588 yX12_isZero, Cond.instanceMethod yX12_isZero, Cond.selects RX12 yX12_isZero yX12_isZero, Cond.code yX12_isZero cX12_isZero 3 (some .boolean), Cond.methodLink RX12 815 yX12_own, Cond.instanceMethod yX12_own, Cond.selects RX12 yX12_own yX12_own, Cond.code yX12_own cX12_own 3 none, Cond.fieldLink RX12 126 "DiskEvidenceModel" "ownerOf" "[I", Cond.methodLink RX12 818 yX12_mountCells, Cond.instanceMethod yX12_mountCells, Cond.selects RX12 yX12_mountCells yX12_mountCells, Cond.code yX12_mountCells cX12_mountCells 3 none, Cond.fieldLink RX12 830 "DiskEvidenceModel" "deep" "I", Cond.fieldLink RX12 203 "DiskEvidenceModel" "walkFile" "[I", Cond.fieldLink RX12 206 "DiskEvidenceModel" "walkRow" "[I", Cond.fieldLink RX12 212 "DiskEvidenceModel" "erasedRow" "[I", Cond.fieldLink RX12 215 "DiskEvidenceModel" "erasedParent" "[I", Cond.fieldLink RX12 218 "DiskEvidenceModel" "erasedDepth" "[I", Cond.methodLink RX12 647 yX12_cell]
def wsX12_mount_r7 : List Cond := [Cond.instanceMethod yX12_cell, Cond.selects RX12 yX12_cell yX12_cell, Cond.code yX12_cell cX12_cell 2 (some .int), Cond.methodLink RX12 833 yX12_addFault, Cond.instanceMethod yX12_addFault, Cond.selects RX12 yX12_addFault yX12_addFault, Cond.code yX12_addFault cX12_addFault 5 none, Cond.fieldLink RX12 181 "DiskEvidenceModel" "faultsOf" "[I", Cond.fieldLink RX12 144 "DiskEvidenceModel" "faultNumber" "[I", Cond.fieldLink RX12 147 "DiskEvidenceModel" "faultFile" "[I", Cond.fieldLink RX12 150 "DiskEvidenceModel" "faultBlock" "[I", Cond.methodLink RX12 837 yX12_push, Cond.instanceMethod yX12_push, Cond.selects RX12 yX12_push yX12_push, Cond.code yX12_push cX12_push 3 none, Cond.fieldLink RX12 209 "DiskEvidenceModel" "walkNode" "[I", Cond.methodLink RX12 840 yX12_cellsRow, Cond.instanceMethod yX12_cellsRow, Cond.selects RX12 yX12_cellsRow yX12_cellsRow, Cond.code yX12_cellsRow cX12_cellsRow 4 (some .int), Cond.fieldLink RX12 184 "DiskEvidenceModel" "blocksMany" "[I", Cond.fieldLink RX12 188 "DiskEvidenceModel" "fileBlocks" "[I", Cond.methodLink RX12 843 yX12_addCells, Cond.instanceMethod yX12_addCells]
def wsX12_mount_r8 : List Cond := [Cond.selects RX12 yX12_addCells yX12_addCells, Cond.code yX12_addCells cX12_addCells 10 none, Cond.constant RX12 613 (65528), Cond.fieldLink RX12 806 "DiskEvidenceModel" "file" "I", Cond.fieldLink RX12 156 "DiskEvidenceModel" "endOf" "[I", Cond.fieldLink RX12 159 "DiskEvidenceModel" "sizeOf" "[J", Cond.methodLink RX12 856 yX12_newFile, Cond.instanceMethod yX12_newFile, Cond.selects RX12 yX12_newFile yX12_newFile, Cond.code yX12_newFile cX12_newFile 6 (some .int), Cond.fieldLink RX12 153 "DiskEvidenceModel" "kindOf" "[I", Cond.fieldLink RX12 163 "DiskEvidenceModel" "madeOf" "[J", Cond.fieldLink RX12 166 "DiskEvidenceModel" "alteredOf" "[J", Cond.fieldLink RX12 169 "DiskEvidenceModel" "erasedOf" "[J", Cond.fieldLink RX12 172 "DiskEvidenceModel" "gradeOf" "[I", Cond.fieldLink RX12 175 "DiskEvidenceModel" "parentOf" "[I", Cond.fieldLink RX12 178 "DiskEvidenceModel" "depthOf" "[I", Cond.fieldLink RX12 191 "DiskEvidenceModel" "nameMany" "[I", Cond.fieldLink RX12 197 "DiskEvidenceModel" "sourceOf" "[I", Cond.fieldLink RX12 200 "DiskEvidenceModel" "sourceFrom" "[I", Cond.methodLink RX12 800 yX12_filesOf, Cond.instanceMethod yX12_filesOf, Cond.selects RX12 yX12_filesOf yX12_filesOf, Cond.code yX12_filesOf cX12_filesOf 2 (some .int)]
def wsX12_mount_r9 : List Cond := [Cond.methodLink RX12 860 yX12_nameCells, Cond.instanceMethod yX12_nameCells, Cond.selects RX12 yX12_nameCells yX12_nameCells, Cond.code yX12_nameCells cX12_nameCells 4 none, Cond.methodLink RX12 681 yX12_rowNameSize, Cond.instanceMethod yX12_rowNameSize, Cond.selects RX12 yX12_rowNameSize yX12_rowNameSize, Cond.code yX12_rowNameSize cX12_rowNameSize 3 (some .int), Cond.methodLink RX12 678 yX12_unblanked, Cond.instanceMethod yX12_unblanked, Cond.selects RX12 yX12_unblanked yX12_unblanked, Cond.code yX12_unblanked cX12_unblanked 4 (some .int), Cond.methodLink RX12 684 yX12_rowName, Cond.instanceMethod yX12_rowName, Cond.selects RX12 yX12_rowName yX12_rowName, Cond.code yX12_rowName cX12_rowName 4 (some .int), Cond.methodLink RX12 809 yX12_addName, Cond.instanceMethod yX12_addName, Cond.selects RX12 yX12_addName yX12_addName, Cond.code yX12_addName cX12_addName 2 none, Cond.fieldLink RX12 194 "DiskEvidenceModel" "nameBytes" "[I", Cond.methodLink RX12 852 yX12_wide, Cond.instanceMethod yX12_wide, Cond.selects RX12 yX12_wide yX12_wide]
def wsX12_mount_r10 : List Cond := [Cond.code yX12_wide cX12_wide 2 (some .long), Cond.constantLong RX12 440 (4294967295), Cond.methodLink RX12 863 yX12_isChainOn, Cond.instanceMethod yX12_isChainOn, Cond.selects RX12 yX12_isChainOn yX12_isChainOn, Cond.code yX12_isChainOn cX12_isChainOn 5 (some .boolean), Cond.constant RX12 650 (65527), Cond.methodLink RX12 644 yX12_isCluster, Cond.instanceMethod yX12_isCluster, Cond.selects RX12 yX12_isCluster yX12_isCluster, Cond.code yX12_isCluster cX12_isCluster 2 (some .boolean), Cond.methodLink RX12 666 yX12_clusterBlock, Cond.instanceMethod yX12_clusterBlock, Cond.selects RX12 yX12_clusterBlock yX12_clusterBlock, Cond.code yX12_clusterBlock cX12_clusterBlock 2 (some .int), Cond.methodLink RX12 846 yX12_owner, Cond.instanceMethod yX12_owner, Cond.selects RX12 yX12_owner yX12_owner, Cond.code yX12_owner cX12_owner 2 (some .int), Cond.methodLink RX12 866 yX12_addBlock, Cond.instanceMethod yX12_addBlock, Cond.selects RX12 yX12_addBlock yX12_addBlock, Cond.code yX12_addBlock cX12_addBlock 2 none, Cond.methodLink RX12 849 yX12_loseCells]
def wsX12_mount_r11 : List Cond := [Cond.instanceMethod yX12_loseCells, Cond.selects RX12 yX12_loseCells yX12_loseCells, Cond.code yX12_loseCells cX12_loseCells 10 none, Cond.methodLink RX12 821 yX12_mountNodes, Cond.instanceMethod yX12_mountNodes, Cond.selects RX12 yX12_mountNodes yX12_mountNodes, Cond.code yX12_mountNodes cX12_mountNodes 7 none, Cond.fieldLink RX12 221 "DiskEvidenceModel" "isWalked" "[Z", Cond.fieldLink RX12 641 "DiskEvidenceModel" "links" "I", Cond.fieldLink RX12 104 "DiskEvidenceModel" "link" "[I", Cond.methodLink RX12 675 yX12_followNode, Cond.instanceMethod yX12_followNode, Cond.selects RX12 yX12_followNode yX12_followNode, Cond.code yX12_followNode cX12_followNode 3 none, Cond.methodLink RX12 657 yX12_placesOf, Cond.instanceMethod yX12_placesOf, Cond.selects RX12 yX12_placesOf yX12_placesOf, Cond.code yX12_placesOf cX12_placesOf 3 (some .int), Cond.methodLink RX12 660 yX12_placeBlock, Cond.instanceMethod yX12_placeBlock, Cond.selects RX12 yX12_placeBlock yX12_placeBlock, Cond.code yX12_placeBlock cX12_placeBlock 6 (some .int), Cond.methodLink RX12 654 yX12_isData, Cond.instanceMethod yX12_isData]
def wsX12_mount_r12 : List Cond := [Cond.selects RX12 yX12_isData yX12_isData, Cond.code yX12_isData cX12_isData 2 (some .boolean), Cond.methodLink RX12 687 yX12_isNode, Cond.instanceMethod yX12_isNode, Cond.selects RX12 yX12_isNode yX12_isNode, Cond.code yX12_isNode cX12_isNode 2 (some .boolean), Cond.methodLink RX12 869 yX12_addNode, Cond.instanceMethod yX12_addNode, Cond.selects RX12 yX12_addNode yX12_addNode, Cond.code yX12_addNode cX12_addNode 14 none, Cond.constantLong RX12 878 (2496), Cond.methodLink RX12 880 yX12_times, Cond.instanceMethod yX12_times, Cond.selects RX12 yX12_times yX12_times, Cond.code yX12_times cX12_times 3 none, Cond.methodLink RX12 883 yX12_use, Cond.instanceMethod yX12_use, Cond.selects RX12 yX12_use yX12_use, Cond.code yX12_use cX12_use 4 none, Cond.methodLink RX12 872 yX12_compareMap, Cond.instanceMethod yX12_compareMap, Cond.selects RX12 yX12_compareMap yX12_compareMap, Cond.code yX12_compareMap cX12_compareMap 3 none, Cond.methodLink RX12 713 yX12_bit]
def wsX12_mount_r13 : List Cond := [Cond.instanceMethod yX12_bit, Cond.selects RX12 yX12_bit yX12_bit, Cond.code yX12_bit cX12_bit 3 (some .boolean), Cond.methodLink RX12 875 yX12_loseNodes, Cond.instanceMethod yX12_loseNodes, Cond.selects RX12 yX12_loseNodes yX12_loseNodes, Cond.code yX12_loseNodes cX12_loseNodes 9 none, Cond.methodLink RX12 886 yX12_isErased, Cond.instanceMethod yX12_isErased, Cond.selects RX12 yX12_isErased yX12_isErased, Cond.code yX12_isErased cX12_isErased 2 (some .boolean), Cond.methodLink RX12 889 yX12_addNumber, Cond.instanceMethod yX12_addNumber, Cond.selects RX12 yX12_addNumber yX12_addNumber, Cond.code yX12_addNumber cX12_addNumber 4 none, Cond.methodLink RX12 892 yX12_isLast, Cond.instanceMethod yX12_isLast, Cond.selects RX12 yX12_isLast yX12_isLast, Cond.code yX12_isLast cX12_isLast 10 (some .boolean), Cond.methodLink RX12 824 yX12_mountTape, Cond.instanceMethod yX12_mountTape, Cond.selects RX12 yX12_mountTape yX12_mountTape, Cond.code yX12_mountTape cX12_mountTape 3 none, Cond.fieldLink RX12 895 "DiskEvidenceModel" "entries" "I"]
def wsX12_mount_r14 : List Cond := [Cond.fieldLink RX12 224 "DiskEvidenceModel" "entryAt" "[I", Cond.fieldLink RX12 227 "DiskEvidenceModel" "entryHas" "[I", Cond.methodLink RX12 751 yX12_tapeBlocks, Cond.instanceMethod yX12_tapeBlocks, Cond.selects RX12 yX12_tapeBlocks yX12_tapeBlocks, Cond.code yX12_tapeBlocks cX12_tapeBlocks 2 (some .int), Cond.methodLink RX12 898 yX12_comesAgain, Cond.instanceMethod yX12_comesAgain, Cond.selects RX12 yX12_comesAgain yX12_comesAgain, Cond.code yX12_comesAgain cX12_comesAgain 7 (some .boolean), Cond.methodLink RX12 901 yX12_addEntry, Cond.instanceMethod yX12_addEntry, Cond.selects RX12 yX12_addEntry yX12_addEntry, Cond.code yX12_addEntry cX12_addEntry 8 none, Cond.methodLink RX12 827 yX12_cutOut, Cond.instanceMethod yX12_cutOut, Cond.selects RX12 yX12_cutOut yX12_cutOut, Cond.code yX12_cutOut cX12_cutOut 7 none, Cond.methodLink RX12 904 yX12_wholeAt, Cond.instanceMethod yX12_wholeAt, Cond.selects RX12 yX12_wholeAt yX12_wholeAt, Cond.code yX12_wholeAt cX12_wholeAt 4 (some .int), Cond.fieldLink RX12 907 "DiskEvidenceModel" "rowMany" "I", Cond.fieldLink RX12 230 "DiskEvidenceModel" "row" "[I"]
def wsX12_mount_r15 : List Cond := [Cond.fieldLink RX12 910 "DiskEvidenceModel" "nodeLimit" "I", Cond.fieldLink RX12 913 "DiskEvidenceModel" "open" "I", Cond.fieldLink RX12 922 "DiskEvidenceModel" "broken" "I", Cond.methodLink RX12 916 yX12_readChunks, Cond.instanceMethod yX12_readChunks, Cond.selects RX12 yX12_readChunks yX12_readChunks, Cond.code yX12_readChunks cX12_readChunks 6 (some .int), Cond.constant RX12 942 (1950960965), Cond.constant RX12 943 (1229278788), Cond.methodLink RX12 935 yX12_isPiece, Cond.instanceMethod yX12_isPiece, Cond.selects RX12 yX12_isPiece yX12_isPiece, Cond.code yX12_isPiece cX12_isPiece 3 (some .boolean), Cond.methodLink RX12 929 yX12_isLetter, Cond.instanceMethod yX12_isLetter, Cond.selects RX12 yX12_isLetter yX12_isLetter, Cond.code yX12_isLetter cX12_isLetter 2 (some .boolean), Cond.constantLong RX12 623 (65), Cond.constantLong RX12 625 (90), Cond.constantLong RX12 925 (97), Cond.constantLong RX12 927 (122), Cond.methodLink RX12 932 yX12_high, Cond.instanceMethod yX12_high, Cond.selects RX12 yX12_high yX12_high]
def wsX12_mount_r16 : List Cond := [Cond.code yX12_high cX12_high 5 (some .int), Cond.methodLink RX12 938 yX12_point, Cond.instanceMethod yX12_point, Cond.selects RX12 yX12_point yX12_point, Cond.code yX12_point cX12_point 7 (some .int), Cond.fieldLink RX12 242 "DiskEvidenceModel" "points" "[I", Cond.fieldLink RX12 245 "DiskEvidenceModel" "pointKind" "[I", Cond.fieldLink RX12 248 "DiskEvidenceModel" "pointFrom" "[I", Cond.fieldLink RX12 251 "DiskEvidenceModel" "pointTo" "[I", Cond.fieldLink RX12 254 "DiskEvidenceModel" "pointValue" "[I", Cond.fieldLink RX12 257 "DiskEvidenceModel" "pointParent" "[I", Cond.methodLink RX12 421 yX12_crcOf, Cond.instanceMethod yX12_crcOf, Cond.selects RX12 yX12_crcOf yX12_crcOf, Cond.code yX12_crcOf cX12_crcOf 6 (some .int), Cond.methodLink RX12 389 yX12_mixed, Cond.static yX12_mixed, Cond.code yX12_mixed cX12_mixed 4 (some .int), Cond.constant RX12 388 (-306674912), Cond.methodLink RX12 919 yX12_readPack, Cond.instanceMethod yX12_readPack, Cond.selects RX12 yX12_readPack yX12_readPack, Cond.code yX12_readPack cX12_readPack 6 (some .int), Cond.fieldLink RX12 950 "DiskEvidenceModel" "packs" "I"]
def wsX12_mount_r17 : List Cond := [Cond.fieldLink RX12 260 "DiskEvidenceModel" "packAt" "[I", Cond.methodLink RX12 944 yX12_isMark, Cond.instanceMethod yX12_isMark, Cond.selects RX12 yX12_isMark yX12_isMark, Cond.code yX12_isMark cX12_isMark 4 (some .boolean), Cond.methodLink RX12 953 yX12_entrySize, Cond.instanceMethod yX12_entrySize, Cond.selects RX12 yX12_entrySize yX12_entrySize, Cond.code yX12_entrySize cX12_entrySize 4 (some .int), Cond.constantLong RX12 595 (32), Cond.methodLink RX12 947 yX12_low, Cond.instanceMethod yX12_low, Cond.selects RX12 yX12_low yX12_low, Cond.code yX12_low cX12_low 3 (some .int), Cond.methodLink RX12 956 yX12_rowSize, Cond.instanceMethod yX12_rowSize, Cond.selects RX12 yX12_rowSize yX12_rowSize, Cond.code yX12_rowSize cX12_rowSize 5 (some .int)]
def wsX12_mount : List Cond := .code yX12_mount cX12_mount 3 (some .int) :: ((wsX12_mount_r1 ++ (wsX12_mount_r2 ++ (wsX12_mount_r3 ++ (wsX12_mount_r4 ++ (wsX12_mount_r5 ++ (wsX12_mount_r6 ++ (wsX12_mount_r7 ++ (wsX12_mount_r8 ++ (wsX12_mount_r9 ++ (wsX12_mount_r10 ++ (wsX12_mount_r11 ++ (wsX12_mount_r12 ++ (wsX12_mount_r13 ++ (wsX12_mount_r14 ++ (wsX12_mount_r15 ++ (wsX12_mount_r16 ++ wsX12_mount_r17)))))))))))))))) ++ wsX120)
def wsX12_content_r1 : List Cond := [Cond.fieldLink RX12 156 "DiskEvidenceModel" "endOf" "[I", Cond.fieldLink RX12 197 "DiskEvidenceModel" "sourceOf" "[I", Cond.fieldLink RX12 200 "DiskEvidenceModel" "sourceFrom" "[I", Cond.methodLink RX12 980 yX12_isFile, Cond.instanceMethod yX12_isFile, Cond.selects RX12 yX12_isFile yX12_isFile, Cond.initialized RX12, Cond.code yX12_isFile cX12_isFile 3 (some .boolean), Cond.methodLink RX12 797 yX12_isTree, Cond.instanceMethod yX12_isTree, Cond.selects RX12 yX12_isTree yX12_isTree, Cond.code yX12_isTree cX12_isTree 2 (some .boolean), Cond.fieldLink RX12 794 "DiskEvidenceModel" "trees" "I", Cond.methodLink RX12 372 yX12_in, Cond.static yX12_in, Cond.code yX12_in cX12_in 6 (some .boolean), Cond.methodLink RX12 800 yX12_filesOf, Cond.instanceMethod yX12_filesOf, Cond.selects RX12 yX12_filesOf yX12_filesOf, Cond.code yX12_filesOf cX12_filesOf 2 (some .int), Cond.fieldLink RX12 129 "DiskEvidenceModel" "living" "[I", Cond.fieldLink RX12 132 "DiskEvidenceModel" "lost" "[I", Cond.fieldLink RX12 135 "DiskEvidenceModel" "cut" "[I", Cond.fieldLink RX12 138 "DiskEvidenceModel" "inside" "[I"]
def wsX12_content_r2 : List Cond := [Cond.methodLink RX12 1008 yX12_inBlocks, Cond.instanceMethod yX12_inBlocks, Cond.selects RX12 yX12_inBlocks yX12_inBlocks, Cond.code yX12_inBlocks cX12_inBlocks 5 (some .int), Cond.fieldLink RX12 188 "DiskEvidenceModel" "fileBlocks" "[I", Cond.fieldLink RX12 123 "DiskEvidenceModel" "treeBytes" "[I"]
def wsX12_content : List Cond := .code yX12_content cX12_content 6 (some .int) :: ((wsX12_content_r1 ++ wsX12_content_r2) ++ wsX120)
def wsX12_open_r1 : List Cond := [Cond.fieldLink RX12 983 "DiskEvidenceModel" "opens" "I", Cond.fieldLink RX12 156 "DiskEvidenceModel" "endOf" "[I", Cond.fieldLink RX12 907 "DiskEvidenceModel" "rowMany" "I", Cond.fieldLink RX12 230 "DiskEvidenceModel" "row" "[I", Cond.constantLong RX12 472 (4), Cond.fieldLink RX12 913 "DiskEvidenceModel" "open" "I", Cond.fieldLink RX12 233 "DiskEvidenceModel" "openTree" "[I", Cond.fieldLink RX12 236 "DiskEvidenceModel" "openFile" "[I", Cond.fieldLink RX12 239 "DiskEvidenceModel" "openSize" "[I", Cond.fieldLink RX12 242 "DiskEvidenceModel" "points" "[I", Cond.fieldLink RX12 910 "DiskEvidenceModel" "nodeLimit" "I", Cond.fieldLink RX12 254 "DiskEvidenceModel" "pointValue" "[I", Cond.fieldLink RX12 922 "DiskEvidenceModel" "broken" "I", Cond.methodLink RX12 980 yX12_isFile, Cond.instanceMethod yX12_isFile, Cond.selects RX12 yX12_isFile yX12_isFile, Cond.initialized RX12, Cond.code yX12_isFile cX12_isFile 3 (some .boolean), Cond.methodLink RX12 797 yX12_isTree, Cond.instanceMethod yX12_isTree, Cond.selects RX12 yX12_isTree yX12_isTree, Cond.code yX12_isTree cX12_isTree 2 (some .boolean), Cond.fieldLink RX12 794 "DiskEvidenceModel" "trees" "I", Cond.methodLink RX12 372 yX12_in]
def wsX12_open_r2 : List Cond := [Cond.static yX12_in, Cond.code yX12_in cX12_in 6 (some .boolean), Cond.methodLink RX12 800 yX12_filesOf, Cond.instanceMethod yX12_filesOf, Cond.selects RX12 yX12_filesOf yX12_filesOf, Cond.code yX12_filesOf cX12_filesOf 2 (some .int), Cond.fieldLink RX12 129 "DiskEvidenceModel" "living" "[I", Cond.fieldLink RX12 132 "DiskEvidenceModel" "lost" "[I", Cond.fieldLink RX12 135 "DiskEvidenceModel" "cut" "[I", Cond.fieldLink RX12 138 "DiskEvidenceModel" "inside" "[I", Cond.methodLink RX12 986 yX12_content, Cond.instanceMethod yX12_content, Cond.selects RX12 yX12_content yX12_content, Cond.code yX12_content cX12_content 6 (some .int), Cond.fieldLink RX12 197 "DiskEvidenceModel" "sourceOf" "[I", Cond.fieldLink RX12 200 "DiskEvidenceModel" "sourceFrom" "[I", Cond.methodLink RX12 1008 yX12_inBlocks, Cond.instanceMethod yX12_inBlocks, Cond.selects RX12 yX12_inBlocks yX12_inBlocks, Cond.code yX12_inBlocks cX12_inBlocks 5 (some .int), Cond.fieldLink RX12 188 "DiskEvidenceModel" "fileBlocks" "[I", Cond.fieldLink RX12 123 "DiskEvidenceModel" "treeBytes" "[I", Cond.methodLink RX12 938 yX12_point, Cond.instanceMethod yX12_point]
def wsX12_open_r3 : List Cond := [Cond.selects RX12 yX12_point yX12_point, Cond.code yX12_point cX12_point 7 (some .int), Cond.fieldLink RX12 245 "DiskEvidenceModel" "pointKind" "[I", Cond.fieldLink RX12 248 "DiskEvidenceModel" "pointFrom" "[I", Cond.fieldLink RX12 251 "DiskEvidenceModel" "pointTo" "[I", Cond.fieldLink RX12 257 "DiskEvidenceModel" "pointParent" "[I", Cond.methodLink RX12 990 yX12_readRows, Cond.instanceMethod yX12_readRows, Cond.selects RX12 yX12_readRows yX12_readRows, Cond.code yX12_readRows cX12_readRows 2 none, Cond.fieldLink RX12 959 "DiskEvidenceModel" "columns" "I", Cond.methodLink RX12 974 yX12_isPage, Cond.instanceMethod yX12_isPage, Cond.selects RX12 yX12_isPage yX12_isPage, Cond.code yX12_isPage cX12_isPage 6 (some .boolean), Cond.methodLink RX12 965 yX12_rowEnd, Cond.instanceMethod yX12_rowEnd, Cond.selects RX12 yX12_rowEnd yX12_rowEnd, Cond.code yX12_rowEnd cX12_rowEnd 5 (some .int), Cond.methodLink RX12 962 yX12_fieldEnd, Cond.instanceMethod yX12_fieldEnd, Cond.selects RX12 yX12_fieldEnd yX12_fieldEnd, Cond.code yX12_fieldEnd cX12_fieldEnd 5 (some .int), Cond.methodLink RX12 977 yX12_addPage]
def wsX12_open_r4 : List Cond := [Cond.instanceMethod yX12_addPage, Cond.selects RX12 yX12_addPage yX12_addPage, Cond.code yX12_addPage cX12_addPage 9 none, Cond.fieldLink RX12 263 "DiskEvidenceModel" "isHad" "[Z", Cond.methodLink RX12 968 yX12_addFields, Cond.instanceMethod yX12_addFields, Cond.selects RX12 yX12_addFields yX12_addFields, Cond.code yX12_addFields cX12_addFields 10 none, Cond.methodLink RX12 947 yX12_low, Cond.instanceMethod yX12_low, Cond.selects RX12 yX12_low yX12_low, Cond.code yX12_low cX12_low 3 (some .int), Cond.methodLink RX12 417 yX12_number, Cond.static yX12_number, Cond.code yX12_number cX12_number 5 (some .int), Cond.methodLink RX12 971 yX12_addLeftover, Cond.instanceMethod yX12_addLeftover, Cond.selects RX12 yX12_addLeftover yX12_addLeftover, Cond.code yX12_addLeftover cX12_addLeftover 8 none, Cond.methodLink RX12 916 yX12_readChunks, Cond.instanceMethod yX12_readChunks, Cond.selects RX12 yX12_readChunks yX12_readChunks, Cond.code yX12_readChunks cX12_readChunks 6 (some .int), Cond.constant RX12 942 (1950960965)]
def wsX12_open_r5 : List Cond := [Cond.constant RX12 943 (1229278788), Cond.methodLink RX12 935 yX12_isPiece, Cond.instanceMethod yX12_isPiece, Cond.selects RX12 yX12_isPiece yX12_isPiece, Cond.code yX12_isPiece cX12_isPiece 3 (some .boolean), Cond.methodLink RX12 929 yX12_isLetter, Cond.instanceMethod yX12_isLetter, Cond.selects RX12 yX12_isLetter yX12_isLetter, Cond.code yX12_isLetter cX12_isLetter 2 (some .boolean), Cond.constantLong RX12 623 (65), Cond.constantLong RX12 625 (90), Cond.constantLong RX12 925 (97), Cond.constantLong RX12 927 (122), Cond.methodLink RX12 932 yX12_high, Cond.instanceMethod yX12_high, Cond.selects RX12 yX12_high yX12_high, Cond.code yX12_high cX12_high 5 (some .int), Cond.methodLink RX12 421 yX12_crcOf, Cond.instanceMethod yX12_crcOf, Cond.selects RX12 yX12_crcOf yX12_crcOf, Cond.code yX12_crcOf cX12_crcOf 6 (some .int), Cond.methodLink RX12 389 yX12_mixed, Cond.static yX12_mixed, Cond.code yX12_mixed cX12_mixed 4 (some .int)]
def wsX12_open_r6 : List Cond := [Cond.constant RX12 388 (-306674912), Cond.methodLink RX12 919 yX12_readPack, Cond.instanceMethod yX12_readPack, Cond.selects RX12 yX12_readPack yX12_readPack, Cond.code yX12_readPack cX12_readPack 6 (some .int), Cond.fieldLink RX12 950 "DiskEvidenceModel" "packs" "I", Cond.fieldLink RX12 260 "DiskEvidenceModel" "packAt" "[I", Cond.methodLink RX12 944 yX12_isMark, Cond.instanceMethod yX12_isMark, Cond.selects RX12 yX12_isMark yX12_isMark, Cond.code yX12_isMark cX12_isMark 4 (some .boolean), Cond.methodLink RX12 953 yX12_entrySize, Cond.instanceMethod yX12_entrySize, Cond.selects RX12 yX12_entrySize yX12_entrySize, Cond.code yX12_entrySize cX12_entrySize 4 (some .int), Cond.constantLong RX12 595 (32), Cond.methodLink RX12 956 yX12_rowSize, Cond.instanceMethod yX12_rowSize, Cond.selects RX12 yX12_rowSize yX12_rowSize, Cond.code yX12_rowSize cX12_rowSize 5 (some .int)]
def wsX12_open : List Cond := .code yX12_open cX12_open 8 (some .int) :: ((wsX12_open_r1 ++ (wsX12_open_r2 ++ (wsX12_open_r3 ++ (wsX12_open_r4 ++ (wsX12_open_r5 ++ wsX12_open_r6))))) ++ wsX120)
def wsX12_isOpen : List Cond := .code yX12_isOpen cX12_isOpen 2 (some .boolean) :: ([.fieldLink RX12 983 "DiskEvidenceModel" "opens" "I", .methodLink RX12 372 yX12_in, .static yX12_in, .initialized RX12, .code yX12_in cX12_in 6 (some .boolean)] ++ wsX120)
def wsX12_isPoint : List Cond := .code yX12_isPoint cX12_isPoint 3 (some .boolean) :: ([.fieldLink RX12 242 "DiskEvidenceModel" "points" "[I", .methodLink RX12 993 yX12_isOpen, .instanceMethod yX12_isOpen, .selects RX12 yX12_isOpen yX12_isOpen, .initialized RX12, .code yX12_isOpen cX12_isOpen 2 (some .boolean), .fieldLink RX12 983 "DiskEvidenceModel" "opens" "I", .methodLink RX12 372 yX12_in, .static yX12_in, .code yX12_in cX12_in 6 (some .boolean)] ++ wsX120)
def wsX12_node : List Cond := .code yX12_node cX12_node 5 (some .int) :: ([.fieldLink RX12 245 "DiskEvidenceModel" "pointKind" "[I", .fieldLink RX12 248 "DiskEvidenceModel" "pointFrom" "[I", .fieldLink RX12 251 "DiskEvidenceModel" "pointTo" "[I", .fieldLink RX12 254 "DiskEvidenceModel" "pointValue" "[I", .fieldLink RX12 257 "DiskEvidenceModel" "pointParent" "[I", .methodLink RX12 996 yX12_isPoint, .instanceMethod yX12_isPoint, .selects RX12 yX12_isPoint yX12_isPoint, .initialized RX12, .code yX12_isPoint cX12_isPoint 3 (some .boolean), .fieldLink RX12 242 "DiskEvidenceModel" "points" "[I", .methodLink RX12 993 yX12_isOpen, .instanceMethod yX12_isOpen, .selects RX12 yX12_isOpen yX12_isOpen, .code yX12_isOpen cX12_isOpen 2 (some .boolean), .fieldLink RX12 983 "DiskEvidenceModel" "opens" "I", .methodLink RX12 372 yX12_in, .static yX12_in, .code yX12_in cX12_in 6 (some .boolean)] ++ wsX120)
def wsX12_opened : List Cond := .code yX12_opened cX12_opened 3 (some .int) :: ([.fieldLink RX12 242 "DiskEvidenceModel" "points" "[I", .fieldLink RX12 233 "DiskEvidenceModel" "openTree" "[I", .fieldLink RX12 236 "DiskEvidenceModel" "openFile" "[I", .methodLink RX12 993 yX12_isOpen, .instanceMethod yX12_isOpen, .selects RX12 yX12_isOpen yX12_isOpen, .initialized RX12, .code yX12_isOpen cX12_isOpen 2 (some .boolean), .fieldLink RX12 983 "DiskEvidenceModel" "opens" "I", .methodLink RX12 372 yX12_in, .static yX12_in, .code yX12_in cX12_in 6 (some .boolean), .methodLink RX12 999 yX12_leftOver, .instanceMethod yX12_leftOver, .selects RX12 yX12_leftOver yX12_leftOver, .code yX12_leftOver cX12_leftOver 6 (some .int), .fieldLink RX12 239 "DiskEvidenceModel" "openSize" "[I", .fieldLink RX12 248 "DiskEvidenceModel" "pointFrom" "[I", .fieldLink RX12 251 "DiskEvidenceModel" "pointTo" "[I"] ++ wsX120)
def wsX12_inside_r1 : List Cond := [Cond.fieldLink RX12 245 "DiskEvidenceModel" "pointKind" "[I", Cond.fieldLink RX12 233 "DiskEvidenceModel" "openTree" "[I", Cond.fieldLink RX12 236 "DiskEvidenceModel" "openFile" "[I", Cond.fieldLink RX12 251 "DiskEvidenceModel" "pointTo" "[I", Cond.fieldLink RX12 248 "DiskEvidenceModel" "pointFrom" "[I", Cond.fieldLink RX12 138 "DiskEvidenceModel" "inside" "[I", Cond.fieldLink RX12 197 "DiskEvidenceModel" "sourceOf" "[I", Cond.fieldLink RX12 200 "DiskEvidenceModel" "sourceFrom" "[I", Cond.fieldLink RX12 156 "DiskEvidenceModel" "endOf" "[I", Cond.fieldLink RX12 803 "DiskEvidenceModel" "tree" "I", Cond.fieldLink RX12 172 "DiskEvidenceModel" "gradeOf" "[I", Cond.fieldLink RX12 178 "DiskEvidenceModel" "depthOf" "[I", Cond.fieldLink RX12 257 "DiskEvidenceModel" "pointParent" "[I", Cond.fieldLink RX12 166 "DiskEvidenceModel" "alteredOf" "[J", Cond.fieldLink RX12 806 "DiskEvidenceModel" "file" "I", Cond.fieldLink RX12 254 "DiskEvidenceModel" "pointValue" "[I", Cond.constantLong RX12 440 (4294967295), Cond.fieldLink RX12 159 "DiskEvidenceModel" "sizeOf" "[J", Cond.methodLink RX12 996 yX12_isPoint, Cond.instanceMethod yX12_isPoint, Cond.selects RX12 yX12_isPoint yX12_isPoint, Cond.initialized RX12, Cond.code yX12_isPoint cX12_isPoint 3 (some .boolean), Cond.fieldLink RX12 242 "DiskEvidenceModel" "points" "[I"]
def wsX12_inside_r2 : List Cond := [Cond.methodLink RX12 993 yX12_isOpen, Cond.instanceMethod yX12_isOpen, Cond.selects RX12 yX12_isOpen yX12_isOpen, Cond.code yX12_isOpen cX12_isOpen 2 (some .boolean), Cond.fieldLink RX12 983 "DiskEvidenceModel" "opens" "I", Cond.methodLink RX12 372 yX12_in, Cond.static yX12_in, Cond.code yX12_in cX12_in 6 (some .boolean), Cond.methodLink RX12 800 yX12_filesOf, Cond.instanceMethod yX12_filesOf, Cond.selects RX12 yX12_filesOf yX12_filesOf, Cond.code yX12_filesOf cX12_filesOf 2 (some .int), Cond.fieldLink RX12 129 "DiskEvidenceModel" "living" "[I", Cond.fieldLink RX12 132 "DiskEvidenceModel" "lost" "[I", Cond.fieldLink RX12 135 "DiskEvidenceModel" "cut" "[I", Cond.methodLink RX12 856 yX12_newFile, Cond.instanceMethod yX12_newFile, Cond.selects RX12 yX12_newFile yX12_newFile, Cond.code yX12_newFile cX12_newFile 6 (some .int), Cond.fieldLink RX12 153 "DiskEvidenceModel" "kindOf" "[I", Cond.fieldLink RX12 163 "DiskEvidenceModel" "madeOf" "[J", Cond.constantLong RX12 563 (-1), Cond.fieldLink RX12 169 "DiskEvidenceModel" "erasedOf" "[J", Cond.fieldLink RX12 175 "DiskEvidenceModel" "parentOf" "[I"]
def wsX12_inside_r3 : List Cond := [Cond.fieldLink RX12 181 "DiskEvidenceModel" "faultsOf" "[I", Cond.fieldLink RX12 184 "DiskEvidenceModel" "blocksMany" "[I", Cond.fieldLink RX12 191 "DiskEvidenceModel" "nameMany" "[I", Cond.methodLink RX12 986 yX12_content, Cond.instanceMethod yX12_content, Cond.selects RX12 yX12_content yX12_content, Cond.code yX12_content cX12_content 6 (some .int), Cond.methodLink RX12 980 yX12_isFile, Cond.instanceMethod yX12_isFile, Cond.selects RX12 yX12_isFile yX12_isFile, Cond.code yX12_isFile cX12_isFile 3 (some .boolean), Cond.methodLink RX12 797 yX12_isTree, Cond.instanceMethod yX12_isTree, Cond.selects RX12 yX12_isTree yX12_isTree, Cond.code yX12_isTree cX12_isTree 2 (some .boolean), Cond.fieldLink RX12 794 "DiskEvidenceModel" "trees" "I", Cond.methodLink RX12 1008 yX12_inBlocks, Cond.instanceMethod yX12_inBlocks, Cond.selects RX12 yX12_inBlocks yX12_inBlocks, Cond.code yX12_inBlocks cX12_inBlocks 5 (some .int), Cond.fieldLink RX12 188 "DiskEvidenceModel" "fileBlocks" "[I", Cond.fieldLink RX12 123 "DiskEvidenceModel" "treeBytes" "[I", Cond.methodLink RX12 809 yX12_addName, Cond.instanceMethod yX12_addName]
def wsX12_inside_r4 : List Cond := [Cond.selects RX12 yX12_addName yX12_addName, Cond.code yX12_addName cX12_addName 2 none, Cond.fieldLink RX12 194 "DiskEvidenceModel" "nameBytes" "[I"]
def wsX12_inside : List Cond := .code yX12_inside cX12_inside 11 (some .int) :: ((wsX12_inside_r1 ++ (wsX12_inside_r2 ++ (wsX12_inside_r3 ++ wsX12_inside_r4))) ++ wsX120)
def wsX12_tree : List Cond := .code yX12_tree cX12_tree 3 (some .int) :: ([.fieldLink RX12 107 "DiskEvidenceModel" "treeForm" "[I", .fieldLink RX12 129 "DiskEvidenceModel" "living" "[I", .fieldLink RX12 132 "DiskEvidenceModel" "lost" "[I", .fieldLink RX12 135 "DiskEvidenceModel" "cut" "[I", .fieldLink RX12 141 "DiskEvidenceModel" "faults" "[I", .fieldLink RX12 113 "DiskEvidenceModel" "treeSpan" "[I", .fieldLink RX12 110 "DiskEvidenceModel" "treeVolume" "[I", .fieldLink RX12 138 "DiskEvidenceModel" "inside" "[I", .methodLink RX12 797 yX12_isTree, .instanceMethod yX12_isTree, .selects RX12 yX12_isTree yX12_isTree, .initialized RX12, .code yX12_isTree cX12_isTree 2 (some .boolean), .fieldLink RX12 794 "DiskEvidenceModel" "trees" "I", .methodLink RX12 372 yX12_in, .static yX12_in, .code yX12_in cX12_in 6 (some .boolean), .methodLink RX12 1002 yX12_run, .instanceMethod yX12_run, .selects RX12 yX12_run yX12_run, .code yX12_run cX12_run 7 (some .int), .fieldLink RX12 116 "DiskEvidenceModel" "treeBlocks" "[I", .fieldLink RX12 126 "DiskEvidenceModel" "ownerOf" "[I"] ++ wsX120)
def wsX12_free : List Cond := .code yX12_free cX12_free 4 (some .int) :: ([.methodLink RX12 797 yX12_isTree, .instanceMethod yX12_isTree, .selects RX12 yX12_isTree yX12_isTree, .initialized RX12, .code yX12_isTree cX12_isTree 2 (some .boolean), .fieldLink RX12 794 "DiskEvidenceModel" "trees" "I", .methodLink RX12 372 yX12_in, .static yX12_in, .code yX12_in cX12_in 6 (some .boolean), .methodLink RX12 1002 yX12_run, .instanceMethod yX12_run, .selects RX12 yX12_run yX12_run, .code yX12_run cX12_run 7 (some .int), .fieldLink RX12 116 "DiskEvidenceModel" "treeBlocks" "[I", .fieldLink RX12 126 "DiskEvidenceModel" "ownerOf" "[I"] ++ wsX120)
def wsX12_fault : List Cond := .code yX12_fault cX12_fault 5 (some .int) :: ([.fieldLink RX12 141 "DiskEvidenceModel" "faults" "[I", .fieldLink RX12 144 "DiskEvidenceModel" "faultNumber" "[I", .fieldLink RX12 147 "DiskEvidenceModel" "faultFile" "[I", .fieldLink RX12 150 "DiskEvidenceModel" "faultBlock" "[I", .methodLink RX12 797 yX12_isTree, .instanceMethod yX12_isTree, .selects RX12 yX12_isTree yX12_isTree, .initialized RX12, .code yX12_isTree cX12_isTree 2 (some .boolean), .fieldLink RX12 794 "DiskEvidenceModel" "trees" "I", .methodLink RX12 372 yX12_in, .static yX12_in, .code yX12_in cX12_in 6 (some .boolean)] ++ wsX120)
def wsX12_owner_ : List Cond := .code yX12_owner_ cX12_owner_ 3 (some .int) :: ([.fieldLink RX12 116 "DiskEvidenceModel" "treeBlocks" "[I", .fieldLink RX12 126 "DiskEvidenceModel" "ownerOf" "[I", .methodLink RX12 797 yX12_isTree, .instanceMethod yX12_isTree, .selects RX12 yX12_isTree yX12_isTree, .initialized RX12, .code yX12_isTree cX12_isTree 2 (some .boolean), .fieldLink RX12 794 "DiskEvidenceModel" "trees" "I", .methodLink RX12 372 yX12_in, .static yX12_in, .code yX12_in cX12_in 6 (some .boolean)] ++ wsX120)
def wsX12_find : List Cond := .code yX12_find cX12_find 10 (some .int) :: ([.fieldLink RX12 376 "DiskEvidenceModel" "many" "I", .fieldLink RX12 7 "DiskEvidenceModel" "bytes" "[I", .fieldLink RX12 107 "DiskEvidenceModel" "treeForm" "[I", .fieldLink RX12 129 "DiskEvidenceModel" "living" "[I", .fieldLink RX12 175 "DiskEvidenceModel" "parentOf" "[I", .methodLink RX12 797 yX12_isTree, .instanceMethod yX12_isTree, .selects RX12 yX12_isTree yX12_isTree, .initialized RX12, .code yX12_isTree cX12_isTree 2 (some .boolean), .fieldLink RX12 794 "DiskEvidenceModel" "trees" "I", .methodLink RX12 372 yX12_in, .static yX12_in, .code yX12_in cX12_in 6 (some .boolean), .methodLink RX12 1005 yX12_isCalled, .instanceMethod yX12_isCalled, .selects RX12 yX12_isCalled yX12_isCalled, .code yX12_isCalled cX12_isCalled 6 (some .boolean), .fieldLink RX12 191 "DiskEvidenceModel" "nameMany" "[I", .fieldLink RX12 194 "DiskEvidenceModel" "nameBytes" "[I"] ++ wsX120)
def wsX12_name : List Cond := .code yX12_name cX12_name 5 (some .int) :: ([.fieldLink RX12 191 "DiskEvidenceModel" "nameMany" "[I", .fieldLink RX12 194 "DiskEvidenceModel" "nameBytes" "[I", .methodLink RX12 980 yX12_isFile, .instanceMethod yX12_isFile, .selects RX12 yX12_isFile yX12_isFile, .initialized RX12, .code yX12_isFile cX12_isFile 3 (some .boolean), .methodLink RX12 797 yX12_isTree, .instanceMethod yX12_isTree, .selects RX12 yX12_isTree yX12_isTree, .code yX12_isTree cX12_isTree 2 (some .boolean), .fieldLink RX12 794 "DiskEvidenceModel" "trees" "I", .methodLink RX12 372 yX12_in, .static yX12_in, .code yX12_in cX12_in 6 (some .boolean), .methodLink RX12 800 yX12_filesOf, .instanceMethod yX12_filesOf, .selects RX12 yX12_filesOf yX12_filesOf, .code yX12_filesOf cX12_filesOf 2 (some .int), .fieldLink RX12 129 "DiskEvidenceModel" "living" "[I", .fieldLink RX12 132 "DiskEvidenceModel" "lost" "[I", .fieldLink RX12 135 "DiskEvidenceModel" "cut" "[I", .fieldLink RX12 138 "DiskEvidenceModel" "inside" "[I"] ++ wsX120)
def wsX12_field_r1 : List Cond := [Cond.constantLong RX12 438 (-2), Cond.fieldLink RX12 153 "DiskEvidenceModel" "kindOf" "[I", Cond.fieldLink RX12 156 "DiskEvidenceModel" "endOf" "[I", Cond.fieldLink RX12 163 "DiskEvidenceModel" "madeOf" "[J", Cond.fieldLink RX12 166 "DiskEvidenceModel" "alteredOf" "[J", Cond.fieldLink RX12 169 "DiskEvidenceModel" "erasedOf" "[J", Cond.fieldLink RX12 172 "DiskEvidenceModel" "gradeOf" "[I", Cond.fieldLink RX12 175 "DiskEvidenceModel" "parentOf" "[I", Cond.fieldLink RX12 184 "DiskEvidenceModel" "blocksMany" "[I", Cond.fieldLink RX12 178 "DiskEvidenceModel" "depthOf" "[I", Cond.fieldLink RX12 181 "DiskEvidenceModel" "faultsOf" "[I", Cond.fieldLink RX12 159 "DiskEvidenceModel" "sizeOf" "[J", Cond.methodLink RX12 980 yX12_isFile, Cond.instanceMethod yX12_isFile, Cond.selects RX12 yX12_isFile yX12_isFile, Cond.initialized RX12, Cond.code yX12_isFile cX12_isFile 3 (some .boolean), Cond.methodLink RX12 797 yX12_isTree, Cond.instanceMethod yX12_isTree, Cond.selects RX12 yX12_isTree yX12_isTree, Cond.code yX12_isTree cX12_isTree 2 (some .boolean), Cond.fieldLink RX12 794 "DiskEvidenceModel" "trees" "I", Cond.methodLink RX12 372 yX12_in, Cond.static yX12_in]
def wsX12_field_r2 : List Cond := [Cond.code yX12_in cX12_in 6 (some .boolean), Cond.methodLink RX12 800 yX12_filesOf, Cond.instanceMethod yX12_filesOf, Cond.selects RX12 yX12_filesOf yX12_filesOf, Cond.code yX12_filesOf cX12_filesOf 2 (some .int), Cond.fieldLink RX12 129 "DiskEvidenceModel" "living" "[I", Cond.fieldLink RX12 132 "DiskEvidenceModel" "lost" "[I", Cond.fieldLink RX12 135 "DiskEvidenceModel" "cut" "[I", Cond.fieldLink RX12 138 "DiskEvidenceModel" "inside" "[I"]
def wsX12_field : List Cond := .code yX12_field cX12_field 5 (some .long) :: ((wsX12_field_r1 ++ wsX12_field_r2) ++ wsX120)
def wsX12_block : List Cond := .code yX12_block cX12_block 5 (some .int) :: ([.fieldLink RX12 184 "DiskEvidenceModel" "blocksMany" "[I", .fieldLink RX12 188 "DiskEvidenceModel" "fileBlocks" "[I", .methodLink RX12 980 yX12_isFile, .instanceMethod yX12_isFile, .selects RX12 yX12_isFile yX12_isFile, .initialized RX12, .code yX12_isFile cX12_isFile 3 (some .boolean), .methodLink RX12 797 yX12_isTree, .instanceMethod yX12_isTree, .selects RX12 yX12_isTree yX12_isTree, .code yX12_isTree cX12_isTree 2 (some .boolean), .fieldLink RX12 794 "DiskEvidenceModel" "trees" "I", .methodLink RX12 372 yX12_in, .static yX12_in, .code yX12_in cX12_in 6 (some .boolean), .methodLink RX12 800 yX12_filesOf, .instanceMethod yX12_filesOf, .selects RX12 yX12_filesOf yX12_filesOf, .code yX12_filesOf cX12_filesOf 2 (some .int), .fieldLink RX12 129 "DiskEvidenceModel" "living" "[I", .fieldLink RX12 132 "DiskEvidenceModel" "lost" "[I", .fieldLink RX12 135 "DiskEvidenceModel" "cut" "[I", .fieldLink RX12 138 "DiskEvidenceModel" "inside" "[I"] ++ wsX120)
def wsX12_slack_r1 : List Cond := [Cond.fieldLink RX12 156 "DiskEvidenceModel" "endOf" "[I", Cond.fieldLink RX12 197 "DiskEvidenceModel" "sourceOf" "[I", Cond.fieldLink RX12 184 "DiskEvidenceModel" "blocksMany" "[I", Cond.methodLink RX12 980 yX12_isFile, Cond.instanceMethod yX12_isFile, Cond.selects RX12 yX12_isFile yX12_isFile, Cond.initialized RX12, Cond.code yX12_isFile cX12_isFile 3 (some .boolean), Cond.methodLink RX12 797 yX12_isTree, Cond.instanceMethod yX12_isTree, Cond.selects RX12 yX12_isTree yX12_isTree, Cond.code yX12_isTree cX12_isTree 2 (some .boolean), Cond.fieldLink RX12 794 "DiskEvidenceModel" "trees" "I", Cond.methodLink RX12 372 yX12_in, Cond.static yX12_in, Cond.code yX12_in cX12_in 6 (some .boolean), Cond.methodLink RX12 800 yX12_filesOf, Cond.instanceMethod yX12_filesOf, Cond.selects RX12 yX12_filesOf yX12_filesOf, Cond.code yX12_filesOf cX12_filesOf 2 (some .int), Cond.fieldLink RX12 129 "DiskEvidenceModel" "living" "[I", Cond.fieldLink RX12 132 "DiskEvidenceModel" "lost" "[I", Cond.fieldLink RX12 135 "DiskEvidenceModel" "cut" "[I", Cond.fieldLink RX12 138 "DiskEvidenceModel" "inside" "[I"]
def wsX12_slack_r2 : List Cond := [Cond.methodLink RX12 1008 yX12_inBlocks, Cond.instanceMethod yX12_inBlocks, Cond.selects RX12 yX12_inBlocks yX12_inBlocks, Cond.code yX12_inBlocks cX12_inBlocks 5 (some .int), Cond.fieldLink RX12 188 "DiskEvidenceModel" "fileBlocks" "[I", Cond.fieldLink RX12 123 "DiskEvidenceModel" "treeBytes" "[I"]
def wsX12_slack : List Cond := .code yX12_slack cX12_slack 7 (some .int) :: ((wsX12_slack_r1 ++ wsX12_slack_r2) ++ wsX120)
def wsX12_word_r1 : List Cond := [Cond.fieldLink RX12 376 "DiskEvidenceModel" "many" "I", Cond.constantLong RX12 595 (32), Cond.fieldLink RX12 1011 "DiskEvidenceModel" "newHits" "I", Cond.fieldLink RX12 907 "DiskEvidenceModel" "rowMany" "I", Cond.fieldLink RX12 230 "DiskEvidenceModel" "row" "[I", Cond.fieldLink RX12 7 "DiskEvidenceModel" "bytes" "[I", Cond.fieldLink RX12 1023 "DiskEvidenceModel" "hits" "I", Cond.methodLink RX12 797 yX12_isTree, Cond.instanceMethod yX12_isTree, Cond.selects RX12 yX12_isTree yX12_isTree, Cond.initialized RX12, Cond.code yX12_isTree cX12_isTree 2 (some .boolean), Cond.fieldLink RX12 794 "DiskEvidenceModel" "trees" "I", Cond.methodLink RX12 372 yX12_in, Cond.static yX12_in, Cond.code yX12_in cX12_in 6 (some .boolean), Cond.methodLink RX12 800 yX12_filesOf, Cond.instanceMethod yX12_filesOf, Cond.selects RX12 yX12_filesOf yX12_filesOf, Cond.code yX12_filesOf cX12_filesOf 2 (some .int), Cond.fieldLink RX12 129 "DiskEvidenceModel" "living" "[I", Cond.fieldLink RX12 132 "DiskEvidenceModel" "lost" "[I", Cond.fieldLink RX12 135 "DiskEvidenceModel" "cut" "[I", Cond.fieldLink RX12 138 "DiskEvidenceModel" "inside" "[I"]
def wsX12_word_r2 : List Cond := [Cond.methodLink RX12 1014 yX12_isSearched, Cond.instanceMethod yX12_isSearched, Cond.selects RX12 yX12_isSearched yX12_isSearched, Cond.code yX12_isSearched cX12_isSearched 3 (some .boolean), Cond.fieldLink RX12 153 "DiskEvidenceModel" "kindOf" "[I", Cond.fieldLink RX12 197 "DiskEvidenceModel" "sourceOf" "[I", Cond.methodLink RX12 1017 yX12_lay, Cond.instanceMethod yX12_lay, Cond.selects RX12 yX12_lay yX12_lay, Cond.code yX12_lay cX12_lay 4 none, Cond.fieldLink RX12 116 "DiskEvidenceModel" "treeBlocks" "[I", Cond.fieldLink RX12 156 "DiskEvidenceModel" "endOf" "[I", Cond.fieldLink RX12 123 "DiskEvidenceModel" "treeBytes" "[I", Cond.methodLink RX12 986 yX12_content, Cond.instanceMethod yX12_content, Cond.selects RX12 yX12_content yX12_content, Cond.code yX12_content cX12_content 6 (some .int), Cond.fieldLink RX12 200 "DiskEvidenceModel" "sourceFrom" "[I", Cond.methodLink RX12 980 yX12_isFile, Cond.instanceMethod yX12_isFile, Cond.selects RX12 yX12_isFile yX12_isFile, Cond.code yX12_isFile cX12_isFile 3 (some .boolean), Cond.methodLink RX12 1008 yX12_inBlocks, Cond.instanceMethod yX12_inBlocks]
def wsX12_word_r3 : List Cond := [Cond.selects RX12 yX12_inBlocks yX12_inBlocks, Cond.code yX12_inBlocks cX12_inBlocks 5 (some .int), Cond.fieldLink RX12 188 "DiskEvidenceModel" "fileBlocks" "[I", Cond.methodLink RX12 1020 yX12_addHit, Cond.instanceMethod yX12_addHit, Cond.selects RX12 yX12_addHit yX12_addHit, Cond.code yX12_addHit cX12_addHit 4 none, Cond.fieldLink RX12 266 "DiskEvidenceModel" "hitFile" "[I", Cond.fieldLink RX12 269 "DiskEvidenceModel" "hitAt" "[I", Cond.fieldLink RX12 272 "DiskEvidenceModel" "hitMany" "[I"]
def wsX12_word : List Cond := .code yX12_word cX12_word 8 (some .int) :: ((wsX12_word_r1 ++ (wsX12_word_r2 ++ wsX12_word_r3)) ++ wsX120)
def wsX12_pattern_r1 : List Cond := [Cond.fieldLink RX12 376 "DiskEvidenceModel" "many" "I", Cond.fieldLink RX12 1011 "DiskEvidenceModel" "newHits" "I", Cond.fieldLink RX12 907 "DiskEvidenceModel" "rowMany" "I", Cond.fieldLink RX12 1023 "DiskEvidenceModel" "hits" "I", Cond.methodLink RX12 797 yX12_isTree, Cond.instanceMethod yX12_isTree, Cond.selects RX12 yX12_isTree yX12_isTree, Cond.initialized RX12, Cond.code yX12_isTree cX12_isTree 2 (some .boolean), Cond.fieldLink RX12 794 "DiskEvidenceModel" "trees" "I", Cond.methodLink RX12 372 yX12_in, Cond.static yX12_in, Cond.code yX12_in cX12_in 6 (some .boolean), Cond.methodLink RX12 1038 yX12_readAtoms, Cond.instanceMethod yX12_readAtoms, Cond.selects RX12 yX12_readAtoms yX12_readAtoms, Cond.code yX12_readAtoms cX12_readAtoms 4 (some .int), Cond.fieldLink RX12 1026 "DiskEvidenceModel" "atoms" "I", Cond.fieldLink RX12 7 "DiskEvidenceModel" "bytes" "[I", Cond.fieldLink RX12 275 "DiskEvidenceModel" "takes" "[Z", Cond.fieldLink RX12 278 "DiskEvidenceModel" "often" "[I", Cond.methodLink RX12 1029 yX12_readSet, Cond.instanceMethod yX12_readSet, Cond.selects RX12 yX12_readSet yX12_readSet]
def wsX12_pattern_r2 : List Cond := [Cond.code yX12_readSet cX12_readSet 5 (some .int), Cond.methodLink RX12 1032 yX12_allow, Cond.instanceMethod yX12_allow, Cond.selects RX12 yX12_allow yX12_allow, Cond.code yX12_allow cX12_allow 4 none, Cond.methodLink RX12 800 yX12_filesOf, Cond.instanceMethod yX12_filesOf, Cond.selects RX12 yX12_filesOf yX12_filesOf, Cond.code yX12_filesOf cX12_filesOf 2 (some .int), Cond.fieldLink RX12 129 "DiskEvidenceModel" "living" "[I", Cond.fieldLink RX12 132 "DiskEvidenceModel" "lost" "[I", Cond.fieldLink RX12 135 "DiskEvidenceModel" "cut" "[I", Cond.fieldLink RX12 138 "DiskEvidenceModel" "inside" "[I", Cond.methodLink RX12 1014 yX12_isSearched, Cond.instanceMethod yX12_isSearched, Cond.selects RX12 yX12_isSearched yX12_isSearched, Cond.code yX12_isSearched cX12_isSearched 3 (some .boolean), Cond.fieldLink RX12 153 "DiskEvidenceModel" "kindOf" "[I", Cond.fieldLink RX12 197 "DiskEvidenceModel" "sourceOf" "[I", Cond.methodLink RX12 1017 yX12_lay, Cond.instanceMethod yX12_lay, Cond.selects RX12 yX12_lay yX12_lay, Cond.code yX12_lay cX12_lay 4 none, Cond.fieldLink RX12 116 "DiskEvidenceModel" "treeBlocks" "[I"]
def wsX12_pattern_r3 : List Cond := [Cond.fieldLink RX12 156 "DiskEvidenceModel" "endOf" "[I", Cond.fieldLink RX12 230 "DiskEvidenceModel" "row" "[I", Cond.fieldLink RX12 123 "DiskEvidenceModel" "treeBytes" "[I", Cond.methodLink RX12 986 yX12_content, Cond.instanceMethod yX12_content, Cond.selects RX12 yX12_content yX12_content, Cond.code yX12_content cX12_content 6 (some .int), Cond.fieldLink RX12 200 "DiskEvidenceModel" "sourceFrom" "[I", Cond.methodLink RX12 980 yX12_isFile, Cond.instanceMethod yX12_isFile, Cond.selects RX12 yX12_isFile yX12_isFile, Cond.code yX12_isFile cX12_isFile 3 (some .boolean), Cond.methodLink RX12 1008 yX12_inBlocks, Cond.instanceMethod yX12_inBlocks, Cond.selects RX12 yX12_inBlocks yX12_inBlocks, Cond.code yX12_inBlocks cX12_inBlocks 5 (some .int), Cond.fieldLink RX12 188 "DiskEvidenceModel" "fileBlocks" "[I", Cond.methodLink RX12 1041 yX12_longest, Cond.instanceMethod yX12_longest, Cond.selects RX12 yX12_longest yX12_longest, Cond.code yX12_longest cX12_longest 7 (some .int), Cond.methodLink RX12 1035 yX12_passed, Cond.instanceMethod yX12_passed, Cond.selects RX12 yX12_passed yX12_passed]
def wsX12_pattern_r4 : List Cond := [Cond.code yX12_passed cX12_passed 4 (some .int), Cond.methodLink RX12 1020 yX12_addHit, Cond.instanceMethod yX12_addHit, Cond.selects RX12 yX12_addHit yX12_addHit, Cond.code yX12_addHit cX12_addHit 4 none, Cond.fieldLink RX12 266 "DiskEvidenceModel" "hitFile" "[I", Cond.fieldLink RX12 269 "DiskEvidenceModel" "hitAt" "[I", Cond.fieldLink RX12 272 "DiskEvidenceModel" "hitMany" "[I"]
def wsX12_pattern : List Cond := .code yX12_pattern cX12_pattern 7 (some .int) :: ((wsX12_pattern_r1 ++ (wsX12_pattern_r2 ++ (wsX12_pattern_r3 ++ wsX12_pattern_r4))) ++ wsX120)
def wsX12_hit : List Cond := .code yX12_hit cX12_hit 3 (some .int) :: ([.fieldLink RX12 1023 "DiskEvidenceModel" "hits" "I", .fieldLink RX12 266 "DiskEvidenceModel" "hitFile" "[I", .fieldLink RX12 269 "DiskEvidenceModel" "hitAt" "[I", .fieldLink RX12 272 "DiskEvidenceModel" "hitMany" "[I", .methodLink RX12 372 yX12_in, .static yX12_in, .initialized RX12, .code yX12_in cX12_in 6 (some .boolean)] ++ wsX120)
def wsX12_question_r1 : List Cond := [Cond.fieldLink RX12 1053 "DiskEvidenceModel" "isStuck" "Z", Cond.fieldLink RX12 376 "DiskEvidenceModel" "many" "I", Cond.fieldLink RX12 1047 "DiskEvidenceModel" "place" "I", Cond.fieldLink RX12 312 "DiskEvidenceModel" "result" "[I", Cond.fieldLink RX12 1133 "DiskEvidenceModel" "results" "I", Cond.methodLink RX12 797 yX12_isTree, Cond.instanceMethod yX12_isTree, Cond.selects RX12 yX12_isTree yX12_isTree, Cond.initialized RX12, Cond.code yX12_isTree cX12_isTree 2 (some .boolean), Cond.fieldLink RX12 794 "DiskEvidenceModel" "trees" "I", Cond.methodLink RX12 372 yX12_in, Cond.static yX12_in, Cond.code yX12_in cX12_in 6 (some .boolean), Cond.methodLink RX12 1124 yX12_readQuestion, Cond.instanceMethod yX12_readQuestion, Cond.selects RX12 yX12_readQuestion yX12_readQuestion, Cond.code yX12_readQuestion cX12_readQuestion 3 none, Cond.fieldLink RX12 1068 "DiskEvidenceModel" "opsMany" "I", Cond.fieldLink RX12 1065 "DiskEvidenceModel" "pileMany" "I", Cond.fieldLink RX12 1062 "DiskEvidenceModel" "asked" "I", Cond.fieldLink RX12 1087 "DiskEvidenceModel" "sortBy" "I", Cond.fieldLink RX12 1090 "DiskEvidenceModel" "falls" "Z", Cond.fieldLink RX12 294 "DiskEvidenceModel" "pile" "[I"]
def wsX12_question_r2 : List Cond := [Cond.methodLink RX12 1093 yX12_readOne, Cond.instanceMethod yX12_readOne, Cond.selects RX12 yX12_readOne yX12_readOne, Cond.code yX12_readOne cX12_readOne 2 none, Cond.fieldLink RX12 297 "DiskEvidenceModel" "askField" "[I", Cond.fieldLink RX12 291 "DiskEvidenceModel" "ops" "[I", Cond.methodLink RX12 1059 yX12_peek, Cond.instanceMethod yX12_peek, Cond.selects RX12 yX12_peek yX12_peek, Cond.code yX12_peek cX12_peek 1 (some .int), Cond.fieldLink RX12 7 "DiskEvidenceModel" "bytes" "[I", Cond.methodLink RX12 1050 yX12_blanks, Cond.instanceMethod yX12_blanks, Cond.selects RX12 yX12_blanks yX12_blanks, Cond.code yX12_blanks cX12_blanks 1 none, Cond.methodLink RX12 1071 yX12_openMarks, Cond.instanceMethod yX12_openMarks, Cond.selects RX12 yX12_openMarks yX12_openMarks, Cond.code yX12_openMarks cX12_openMarks 3 (some .int), Cond.methodLink RX12 1074 yX12_readField, Cond.instanceMethod yX12_readField, Cond.selects RX12 yX12_readField yX12_readField, Cond.code yX12_readField cX12_readField 5 (some .int), Cond.fieldLink RX12 281 "DiskEvidenceModel" "fieldWords" "[C"]
def wsX12_question_r3 : List Cond := [Cond.fieldLink RX12 285 "DiskEvidenceModel" "wordFrom" "[I", Cond.methodLink RX12 1056 yX12_begins, Cond.instanceMethod yX12_begins, Cond.selects RX12 yX12_begins yX12_begins, Cond.code yX12_begins cX12_begins 4 (some .boolean), Cond.methodLink RX12 1077 yX12_readName, Cond.instanceMethod yX12_readName, Cond.selects RX12 yX12_readName yX12_readName, Cond.code yX12_readName cX12_readName 2 none, Cond.fieldLink RX12 303 "DiskEvidenceModel" "askFrom" "[I", Cond.fieldLink RX12 306 "DiskEvidenceModel" "askTo" "[I", Cond.methodLink RX12 1080 yX12_readNumber, Cond.instanceMethod yX12_readNumber, Cond.selects RX12 yX12_readNumber yX12_readNumber, Cond.code yX12_readNumber cX12_readNumber 4 none, Cond.fieldLink RX12 300 "DiskEvidenceModel" "askHow" "[I", Cond.constantLong RX12 541 (48), Cond.constantLong RX12 627 (57), Cond.methodLink RX12 1083 yX12_reduce, Cond.instanceMethod yX12_reduce, Cond.selects RX12 yX12_reduce yX12_reduce, Cond.code yX12_reduce cX12_reduce 5 none, Cond.methodLink RX12 1096 yX12_isOpenMark, Cond.instanceMethod yX12_isOpenMark]
def wsX12_question_r4 : List Cond := [Cond.selects RX12 yX12_isOpenMark yX12_isOpenMark, Cond.code yX12_isOpenMark cX12_isOpenMark 2 (some .boolean), Cond.methodLink RX12 1099 yX12_readSort, Cond.instanceMethod yX12_readSort, Cond.selects RX12 yX12_readSort yX12_readSort, Cond.code yX12_readSort cX12_readSort 2 none, Cond.fieldLink RX12 288 "DiskEvidenceModel" "sortWord" "[C", Cond.methodLink RX12 800 yX12_filesOf, Cond.instanceMethod yX12_filesOf, Cond.selects RX12 yX12_filesOf yX12_filesOf, Cond.code yX12_filesOf cX12_filesOf 2 (some .int), Cond.fieldLink RX12 129 "DiskEvidenceModel" "living" "[I", Cond.fieldLink RX12 132 "DiskEvidenceModel" "lost" "[I", Cond.fieldLink RX12 135 "DiskEvidenceModel" "cut" "[I", Cond.fieldLink RX12 138 "DiskEvidenceModel" "inside" "[I", Cond.methodLink RX12 1127 yX12_isTrue, Cond.instanceMethod yX12_isTrue, Cond.selects RX12 yX12_isTrue yX12_isTrue, Cond.code yX12_isTrue cX12_isTrue 5 (some .boolean), Cond.fieldLink RX12 309 "DiskEvidenceModel" "truths" "[Z", Cond.methodLink RX12 1121 yX12_isAsked, Cond.instanceMethod yX12_isAsked, Cond.selects RX12 yX12_isAsked yX12_isAsked, Cond.code yX12_isAsked cX12_isAsked 7 (some .boolean)]
def wsX12_question_r5 : List Cond := [Cond.methodLink RX12 1112 yX12_hasLetters, Cond.instanceMethod yX12_hasLetters, Cond.selects RX12 yX12_hasLetters yX12_hasLetters, Cond.code yX12_hasLetters cX12_hasLetters 7 (some .boolean), Cond.fieldLink RX12 191 "DiskEvidenceModel" "nameMany" "[I", Cond.fieldLink RX12 194 "DiskEvidenceModel" "nameBytes" "[I", Cond.methodLink RX12 1115 yX12_hasField, Cond.instanceMethod yX12_hasField, Cond.selects RX12 yX12_hasField yX12_hasField, Cond.code yX12_hasField cX12_hasField 4 (some .boolean), Cond.methodLink RX12 1102 yX12_hasMoment, Cond.instanceMethod yX12_hasMoment, Cond.selects RX12 yX12_hasMoment yX12_hasMoment, Cond.code yX12_hasMoment cX12_hasMoment 7 (some .boolean), Cond.fieldLink RX12 163 "DiskEvidenceModel" "madeOf" "[J", Cond.fieldLink RX12 166 "DiskEvidenceModel" "alteredOf" "[J", Cond.fieldLink RX12 169 "DiskEvidenceModel" "erasedOf" "[J", Cond.methodLink RX12 1105 yX12_block, Cond.instanceMethod yX12_block, Cond.selects RX12 yX12_block yX12_block, Cond.code yX12_block cX12_block 5 (some .int), Cond.fieldLink RX12 184 "DiskEvidenceModel" "blocksMany" "[I", Cond.fieldLink RX12 188 "DiskEvidenceModel" "fileBlocks" "[I", Cond.methodLink RX12 980 yX12_isFile]
def wsX12_question_r6 : List Cond := [Cond.instanceMethod yX12_isFile, Cond.selects RX12 yX12_isFile yX12_isFile, Cond.code yX12_isFile cX12_isFile 3 (some .boolean), Cond.methodLink RX12 1118 yX12_fieldOf, Cond.instanceMethod yX12_fieldOf, Cond.selects RX12 yX12_fieldOf yX12_fieldOf, Cond.code yX12_fieldOf cX12_fieldOf 5 (some .long), Cond.fieldLink RX12 153 "DiskEvidenceModel" "kindOf" "[I", Cond.fieldLink RX12 156 "DiskEvidenceModel" "endOf" "[I", Cond.fieldLink RX12 172 "DiskEvidenceModel" "gradeOf" "[I", Cond.fieldLink RX12 181 "DiskEvidenceModel" "faultsOf" "[I", Cond.fieldLink RX12 178 "DiskEvidenceModel" "depthOf" "[I", Cond.methodLink RX12 1108 yX12_moment, Cond.instanceMethod yX12_moment, Cond.selects RX12 yX12_moment yX12_moment, Cond.code yX12_moment cX12_moment 7 (some .long), Cond.constantLong RX12 537 (2), Cond.constantLong RX12 711 (900), Cond.fieldLink RX12 119 "DiskEvidenceModel" "treeZone" "[I", Cond.methodLink RX12 1044 yX12_grainOf, Cond.instanceMethod yX12_grainOf, Cond.selects RX12 yX12_grainOf yX12_grainOf, Cond.code yX12_grainOf cX12_grainOf 3 (some .int), Cond.fieldLink RX12 107 "DiskEvidenceModel" "treeForm" "[I"]
def wsX12_question_r7 : List Cond := [Cond.fieldLink RX12 197 "DiskEvidenceModel" "sourceOf" "[I", Cond.methodLink RX12 1130 yX12_comesFirst, Cond.instanceMethod yX12_comesFirst, Cond.selects RX12 yX12_comesFirst yX12_comesFirst, Cond.code yX12_comesFirst cX12_comesFirst 10 (some .boolean)]
def wsX12_question : List Cond := .code yX12_question cX12_question 6 (some .int) :: ((wsX12_question_r1 ++ (wsX12_question_r2 ++ (wsX12_question_r3 ++ (wsX12_question_r4 ++ (wsX12_question_r5 ++ (wsX12_question_r6 ++ wsX12_question_r7)))))) ++ wsX120)
def wsX12_row : List Cond := .code yX12_row cX12_row 2 (some .int) :: ([.fieldLink RX12 1133 "DiskEvidenceModel" "results" "I", .fieldLink RX12 312 "DiskEvidenceModel" "result" "[I", .methodLink RX12 372 yX12_in, .static yX12_in, .initialized RX12, .code yX12_in cX12_in 6 (some .boolean)] ++ wsX120)
def wsX12_line_r1 : List Cond := [Cond.fieldLink RX12 1136 "DiskEvidenceModel" "moments" "I", Cond.fieldLink RX12 794 "DiskEvidenceModel" "trees" "I", Cond.fieldLink RX12 983 "DiskEvidenceModel" "opens" "I", Cond.fieldLink RX12 242 "DiskEvidenceModel" "points" "[I", Cond.fieldLink RX12 245 "DiskEvidenceModel" "pointKind" "[I", Cond.fieldLink RX12 254 "DiskEvidenceModel" "pointValue" "[I", Cond.constantLong RX12 440 (4294967295), Cond.fieldLink RX12 233 "DiskEvidenceModel" "openTree" "[I", Cond.fieldLink RX12 236 "DiskEvidenceModel" "openFile" "[I", Cond.methodLink RX12 800 yX12_filesOf, Cond.instanceMethod yX12_filesOf, Cond.selects RX12 yX12_filesOf yX12_filesOf, Cond.initialized RX12, Cond.code yX12_filesOf cX12_filesOf 2 (some .int), Cond.fieldLink RX12 129 "DiskEvidenceModel" "living" "[I", Cond.fieldLink RX12 132 "DiskEvidenceModel" "lost" "[I", Cond.fieldLink RX12 135 "DiskEvidenceModel" "cut" "[I", Cond.fieldLink RX12 138 "DiskEvidenceModel" "inside" "[I", Cond.methodLink RX12 1102 yX12_hasMoment, Cond.instanceMethod yX12_hasMoment, Cond.selects RX12 yX12_hasMoment yX12_hasMoment, Cond.code yX12_hasMoment cX12_hasMoment 7 (some .boolean), Cond.fieldLink RX12 163 "DiskEvidenceModel" "madeOf" "[J", Cond.fieldLink RX12 166 "DiskEvidenceModel" "alteredOf" "[J"]
def wsX12_line_r2 : List Cond := [Cond.fieldLink RX12 169 "DiskEvidenceModel" "erasedOf" "[J", Cond.methodLink RX12 1108 yX12_moment, Cond.instanceMethod yX12_moment, Cond.selects RX12 yX12_moment yX12_moment, Cond.code yX12_moment cX12_moment 7 (some .long), Cond.constantLong RX12 537 (2), Cond.constantLong RX12 711 (900), Cond.fieldLink RX12 119 "DiskEvidenceModel" "treeZone" "[I", Cond.methodLink RX12 1044 yX12_grainOf, Cond.instanceMethod yX12_grainOf, Cond.selects RX12 yX12_grainOf yX12_grainOf, Cond.code yX12_grainOf cX12_grainOf 3 (some .int), Cond.fieldLink RX12 107 "DiskEvidenceModel" "treeForm" "[I", Cond.fieldLink RX12 197 "DiskEvidenceModel" "sourceOf" "[I", Cond.methodLink RX12 1143 yX12_addMoment, Cond.instanceMethod yX12_addMoment, Cond.selects RX12 yX12_addMoment yX12_addMoment, Cond.code yX12_addMoment cX12_addMoment 8 none, Cond.fieldLink RX12 315 "DiskEvidenceModel" "momentAt" "[J", Cond.fieldLink RX12 318 "DiskEvidenceModel" "momentGrain" "[I", Cond.fieldLink RX12 321 "DiskEvidenceModel" "momentTree" "[I", Cond.fieldLink RX12 324 "DiskEvidenceModel" "momentFile" "[I", Cond.fieldLink RX12 327 "DiskEvidenceModel" "momentWhich" "[I", Cond.methodLink RX12 1139 yX12_isBehind]
def wsX12_line_r3 : List Cond := [Cond.instanceMethod yX12_isBehind, Cond.selects RX12 yX12_isBehind yX12_isBehind, Cond.code yX12_isBehind cX12_isBehind 7 (some .boolean)]
def wsX12_line : List Cond := .code yX12_line cX12_line 5 (some .int) :: ((wsX12_line_r1 ++ (wsX12_line_r2 ++ wsX12_line_r3)) ++ wsX120)
def wsX12_time : List Cond := .code yX12_time cX12_time 3 (some .long) :: ([.fieldLink RX12 1136 "DiskEvidenceModel" "moments" "I", .constantLong RX12 438 (-2), .fieldLink RX12 315 "DiskEvidenceModel" "momentAt" "[J", .fieldLink RX12 318 "DiskEvidenceModel" "momentGrain" "[I", .fieldLink RX12 321 "DiskEvidenceModel" "momentTree" "[I", .fieldLink RX12 324 "DiskEvidenceModel" "momentFile" "[I", .fieldLink RX12 327 "DiskEvidenceModel" "momentWhich" "[I", .methodLink RX12 372 yX12_in, .static yX12_in, .initialized RX12, .code yX12_in cX12_in 6 (some .boolean)] ++ wsX120)
def wsX12_doubts_r1 : List Cond := [Cond.fieldLink RX12 1147 "DiskEvidenceModel" "doubts" "I", Cond.fieldLink RX12 794 "DiskEvidenceModel" "trees" "I", Cond.fieldLink RX12 383 "DiskEvidenceModel" "now" "I", Cond.methodLink RX12 800 yX12_filesOf, Cond.instanceMethod yX12_filesOf, Cond.selects RX12 yX12_filesOf yX12_filesOf, Cond.initialized RX12, Cond.code yX12_filesOf cX12_filesOf 2 (some .int), Cond.fieldLink RX12 129 "DiskEvidenceModel" "living" "[I", Cond.fieldLink RX12 132 "DiskEvidenceModel" "lost" "[I", Cond.fieldLink RX12 135 "DiskEvidenceModel" "cut" "[I", Cond.fieldLink RX12 138 "DiskEvidenceModel" "inside" "[I", Cond.methodLink RX12 1102 yX12_hasMoment, Cond.instanceMethod yX12_hasMoment, Cond.selects RX12 yX12_hasMoment yX12_hasMoment, Cond.code yX12_hasMoment cX12_hasMoment 7 (some .boolean), Cond.fieldLink RX12 163 "DiskEvidenceModel" "madeOf" "[J", Cond.fieldLink RX12 166 "DiskEvidenceModel" "alteredOf" "[J", Cond.fieldLink RX12 169 "DiskEvidenceModel" "erasedOf" "[J", Cond.methodLink RX12 1108 yX12_moment, Cond.instanceMethod yX12_moment, Cond.selects RX12 yX12_moment yX12_moment, Cond.code yX12_moment cX12_moment 7 (some .long), Cond.constantLong RX12 537 (2)]
def wsX12_doubts_r2 : List Cond := [Cond.constantLong RX12 711 (900), Cond.fieldLink RX12 119 "DiskEvidenceModel" "treeZone" "[I", Cond.methodLink RX12 1044 yX12_grainOf, Cond.instanceMethod yX12_grainOf, Cond.selects RX12 yX12_grainOf yX12_grainOf, Cond.code yX12_grainOf cX12_grainOf 3 (some .int), Cond.fieldLink RX12 107 "DiskEvidenceModel" "treeForm" "[I", Cond.fieldLink RX12 197 "DiskEvidenceModel" "sourceOf" "[I", Cond.methodLink RX12 1150 yX12_addDoubt, Cond.instanceMethod yX12_addDoubt, Cond.selects RX12 yX12_addDoubt yX12_addDoubt, Cond.code yX12_addDoubt cX12_addDoubt 4 none, Cond.fieldLink RX12 330 "DiskEvidenceModel" "doubtTree" "[I", Cond.fieldLink RX12 333 "DiskEvidenceModel" "doubtFile" "[I", Cond.fieldLink RX12 336 "DiskEvidenceModel" "doubtWhich" "[I"]
def wsX12_doubts : List Cond := .code yX12_doubts cX12_doubts 7 (some .int) :: ((wsX12_doubts_r1 ++ wsX12_doubts_r2) ++ wsX120)
def wsX12_doubt : List Cond := .code yX12_doubt cX12_doubt 3 (some .int) :: ([.fieldLink RX12 1147 "DiskEvidenceModel" "doubts" "I", .fieldLink RX12 330 "DiskEvidenceModel" "doubtTree" "[I", .fieldLink RX12 333 "DiskEvidenceModel" "doubtFile" "[I", .fieldLink RX12 336 "DiskEvidenceModel" "doubtWhich" "[I", .methodLink RX12 372 yX12_in, .static yX12_in, .initialized RX12, .code yX12_in cX12_in 6 (some .boolean)] ++ wsX120)
def wsX12_isOwnFile : List Cond := .code yX12_isOwnFile cX12_isOwnFile 3 (some .boolean) :: ([.fieldLink RX12 197 "DiskEvidenceModel" "sourceOf" "[I", .methodLink RX12 980 yX12_isFile, .instanceMethod yX12_isFile, .selects RX12 yX12_isFile yX12_isFile, .initialized RX12, .code yX12_isFile cX12_isFile 3 (some .boolean), .methodLink RX12 797 yX12_isTree, .instanceMethod yX12_isTree, .selects RX12 yX12_isTree yX12_isTree, .code yX12_isTree cX12_isTree 2 (some .boolean), .fieldLink RX12 794 "DiskEvidenceModel" "trees" "I", .methodLink RX12 372 yX12_in, .static yX12_in, .code yX12_in cX12_in 6 (some .boolean), .methodLink RX12 800 yX12_filesOf, .instanceMethod yX12_filesOf, .selects RX12 yX12_filesOf yX12_filesOf, .code yX12_filesOf cX12_filesOf 2 (some .int), .fieldLink RX12 129 "DiskEvidenceModel" "living" "[I", .fieldLink RX12 132 "DiskEvidenceModel" "lost" "[I", .fieldLink RX12 135 "DiskEvidenceModel" "cut" "[I", .fieldLink RX12 138 "DiskEvidenceModel" "inside" "[I"] ++ wsX120)
def wsX12_claim_r1 : List Cond := [Cond.constantLong RX12 591 (3), Cond.fieldLink RX12 1156 "DiskEvidenceModel" "claims" "I", Cond.fieldLink RX12 339 "DiskEvidenceModel" "claimTree" "[I", Cond.fieldLink RX12 342 "DiskEvidenceModel" "claimFile" "[I", Cond.fieldLink RX12 345 "DiskEvidenceModel" "claimKind" "[I", Cond.fieldLink RX12 348 "DiskEvidenceModel" "claimA" "[I", Cond.fieldLink RX12 351 "DiskEvidenceModel" "claimGrade" "[I", Cond.methodLink RX12 1153 yX12_isOwnFile, Cond.instanceMethod yX12_isOwnFile, Cond.selects RX12 yX12_isOwnFile yX12_isOwnFile, Cond.initialized RX12, Cond.code yX12_isOwnFile cX12_isOwnFile 3 (some .boolean), Cond.fieldLink RX12 197 "DiskEvidenceModel" "sourceOf" "[I", Cond.methodLink RX12 980 yX12_isFile, Cond.instanceMethod yX12_isFile, Cond.selects RX12 yX12_isFile yX12_isFile, Cond.code yX12_isFile cX12_isFile 3 (some .boolean), Cond.methodLink RX12 797 yX12_isTree, Cond.instanceMethod yX12_isTree, Cond.selects RX12 yX12_isTree yX12_isTree, Cond.code yX12_isTree cX12_isTree 2 (some .boolean), Cond.fieldLink RX12 794 "DiskEvidenceModel" "trees" "I", Cond.methodLink RX12 372 yX12_in, Cond.static yX12_in]
def wsX12_claim_r2 : List Cond := [Cond.code yX12_in cX12_in 6 (some .boolean), Cond.methodLink RX12 800 yX12_filesOf, Cond.instanceMethod yX12_filesOf, Cond.selects RX12 yX12_filesOf yX12_filesOf, Cond.code yX12_filesOf cX12_filesOf 2 (some .int), Cond.fieldLink RX12 129 "DiskEvidenceModel" "living" "[I", Cond.fieldLink RX12 132 "DiskEvidenceModel" "lost" "[I", Cond.fieldLink RX12 135 "DiskEvidenceModel" "cut" "[I", Cond.fieldLink RX12 138 "DiskEvidenceModel" "inside" "[I", Cond.methodLink RX12 1159 yX12_gradeNow, Cond.instanceMethod yX12_gradeNow, Cond.selects RX12 yX12_gradeNow yX12_gradeNow, Cond.code yX12_gradeNow cX12_gradeNow 7 (some .int), Cond.fieldLink RX12 184 "DiskEvidenceModel" "blocksMany" "[I", Cond.fieldLink RX12 188 "DiskEvidenceModel" "fileBlocks" "[I", Cond.fieldLink RX12 43 "DiskEvidenceModel" "comesSpoilt" "[Z", Cond.fieldLink RX12 110 "DiskEvidenceModel" "treeVolume" "[I", Cond.fieldLink RX12 172 "DiskEvidenceModel" "gradeOf" "[I", Cond.methodLink RX12 498 yX12_refresh, Cond.instanceMethod yX12_refresh, Cond.selects RX12 yX12_refresh yX12_refresh, Cond.code yX12_refresh cX12_refresh 4 none, Cond.fieldLink RX12 46 "DiskEvidenceModel" "isOld" "Z", Cond.fieldLink RX12 466 "DiskEvidenceModel" "volumes" "I"]
def wsX12_claim_r3 : List Cond := [Cond.fieldLink RX12 33 "DiskEvidenceModel" "blocksOf" "[I", Cond.fieldLink RX12 486 "DiskEvidenceModel" "laid" "I", Cond.fieldLink RX12 53 "DiskEvidenceModel" "blockChanged" "[Z", Cond.fieldLink RX12 50 "DiskEvidenceModel" "sectorChanged" "[Z", Cond.methodLink RX12 489 yX12_hasChanged, Cond.instanceMethod yX12_hasChanged, Cond.selects RX12 yX12_hasChanged yX12_hasChanged, Cond.code yX12_hasChanged cX12_hasChanged 6 (some .boolean), Cond.fieldLink RX12 24 "DiskEvidenceModel" "sort" "[I", Cond.fieldLink RX12 27 "DiskEvidenceModel" "pictureOf" "[I", Cond.fieldLink RX12 30 "DiskEvidenceModel" "beginOf" "[I", Cond.fieldLink RX12 477 "DiskEvidenceModel" "member" "I", Cond.fieldLink RX12 480 "DiskEvidenceModel" "memberBlock" "I", Cond.fieldLink RX12 36 "DiskEvidenceModel" "members" "[I", Cond.methodLink RX12 495 yX12_locate, Cond.instanceMethod yX12_locate, Cond.selects RX12 yX12_locate yX12_locate, Cond.code yX12_locate cX12_locate 5 none, Cond.methodLink RX12 483 yX12_other, Cond.static yX12_other, Cond.code yX12_other cX12_other 2 (some .int), Cond.methodLink RX12 492 yX12_readBlock, Cond.instanceMethod yX12_readBlock, Cond.selects RX12 yX12_readBlock yX12_readBlock]
def wsX12_claim_r4 : List Cond := [Cond.code yX12_readBlock cX12_readBlock 7 none, Cond.fieldLink RX12 40 "DiskEvidenceModel" "all" "[I", Cond.fieldLink RX12 20 "DiskEvidenceModel" "isSpoilt" "[Z", Cond.methodLink RX12 435 yX12_read, Cond.instanceMethod yX12_read, Cond.selects RX12 yX12_read yX12_read, Cond.code yX12_read cX12_read 3 (some .int), Cond.fieldLink RX12 17 "DiskEvidenceModel" "data" "[I"]
def wsX12_claim : List Cond := .code yX12_claim cX12_claim 7 (some .int) :: ((wsX12_claim_r1 ++ (wsX12_claim_r2 ++ (wsX12_claim_r3 ++ wsX12_claim_r4))) ++ wsX120)
def wsX12_claimed : List Cond := .code yX12_claimed cX12_claimed 3 (some .int) :: ([.fieldLink RX12 1156 "DiskEvidenceModel" "claims" "I", .fieldLink RX12 351 "DiskEvidenceModel" "claimGrade" "[I", .fieldLink RX12 345 "DiskEvidenceModel" "claimKind" "[I", .fieldLink RX12 342 "DiskEvidenceModel" "claimFile" "[I", .fieldLink RX12 348 "DiskEvidenceModel" "claimA" "[I", .fieldLink RX12 110 "DiskEvidenceModel" "treeVolume" "[I", .fieldLink RX12 339 "DiskEvidenceModel" "claimTree" "[I", .methodLink RX12 372 yX12_in, .static yX12_in, .initialized RX12, .code yX12_in cX12_in 6 (some .boolean)] ++ wsX120)
def wsX12_check_r1 : List Cond := [Cond.fieldLink RX12 1156 "DiskEvidenceModel" "claims" "I", Cond.fieldLink RX12 339 "DiskEvidenceModel" "claimTree" "[I", Cond.fieldLink RX12 342 "DiskEvidenceModel" "claimFile" "[I", Cond.fieldLink RX12 348 "DiskEvidenceModel" "claimA" "[I", Cond.fieldLink RX12 156 "DiskEvidenceModel" "endOf" "[I", Cond.fieldLink RX12 345 "DiskEvidenceModel" "claimKind" "[I", Cond.methodLink RX12 372 yX12_in, Cond.static yX12_in, Cond.initialized RX12, Cond.code yX12_in cX12_in 6 (some .boolean), Cond.methodLink RX12 498 yX12_refresh, Cond.instanceMethod yX12_refresh, Cond.selects RX12 yX12_refresh yX12_refresh, Cond.code yX12_refresh cX12_refresh 4 none, Cond.fieldLink RX12 46 "DiskEvidenceModel" "isOld" "Z", Cond.fieldLink RX12 466 "DiskEvidenceModel" "volumes" "I", Cond.fieldLink RX12 33 "DiskEvidenceModel" "blocksOf" "[I", Cond.fieldLink RX12 486 "DiskEvidenceModel" "laid" "I", Cond.fieldLink RX12 53 "DiskEvidenceModel" "blockChanged" "[Z", Cond.fieldLink RX12 50 "DiskEvidenceModel" "sectorChanged" "[Z", Cond.methodLink RX12 489 yX12_hasChanged, Cond.instanceMethod yX12_hasChanged, Cond.selects RX12 yX12_hasChanged yX12_hasChanged, Cond.code yX12_hasChanged cX12_hasChanged 6 (some .boolean)]
def wsX12_check_r2 : List Cond := [Cond.fieldLink RX12 24 "DiskEvidenceModel" "sort" "[I", Cond.fieldLink RX12 27 "DiskEvidenceModel" "pictureOf" "[I", Cond.fieldLink RX12 30 "DiskEvidenceModel" "beginOf" "[I", Cond.fieldLink RX12 477 "DiskEvidenceModel" "member" "I", Cond.fieldLink RX12 480 "DiskEvidenceModel" "memberBlock" "I", Cond.fieldLink RX12 36 "DiskEvidenceModel" "members" "[I", Cond.methodLink RX12 495 yX12_locate, Cond.instanceMethod yX12_locate, Cond.selects RX12 yX12_locate yX12_locate, Cond.code yX12_locate cX12_locate 5 none, Cond.methodLink RX12 483 yX12_other, Cond.static yX12_other, Cond.code yX12_other cX12_other 2 (some .int), Cond.methodLink RX12 492 yX12_readBlock, Cond.instanceMethod yX12_readBlock, Cond.selects RX12 yX12_readBlock yX12_readBlock, Cond.code yX12_readBlock cX12_readBlock 7 none, Cond.fieldLink RX12 40 "DiskEvidenceModel" "all" "[I", Cond.fieldLink RX12 43 "DiskEvidenceModel" "comesSpoilt" "[Z", Cond.fieldLink RX12 20 "DiskEvidenceModel" "isSpoilt" "[Z", Cond.methodLink RX12 435 yX12_read, Cond.instanceMethod yX12_read, Cond.selects RX12 yX12_read yX12_read, Cond.code yX12_read cX12_read 3 (some .int)]
def wsX12_check_r3 : List Cond := [Cond.fieldLink RX12 17 "DiskEvidenceModel" "data" "[I", Cond.methodLink RX12 1162 yX12_byteNow, Cond.instanceMethod yX12_byteNow, Cond.selects RX12 yX12_byteNow yX12_byteNow, Cond.code yX12_byteNow cX12_byteNow 5 (some .int), Cond.fieldLink RX12 188 "DiskEvidenceModel" "fileBlocks" "[I", Cond.fieldLink RX12 110 "DiskEvidenceModel" "treeVolume" "[I", Cond.methodLink RX12 389 yX12_mixed, Cond.static yX12_mixed, Cond.code yX12_mixed cX12_mixed 4 (some .int), Cond.constant RX12 388 (-306674912)]
def wsX12_check : List Cond := .code yX12_check cX12_check 8 (some .int) :: ((wsX12_check_r1 ++ (wsX12_check_r2 ++ wsX12_check_r3)) ++ wsX120)
def wsX12_linkOf : List Cond := .code yX12_linkOf cX12_linkOf 4 (some .long) :: ([.fieldLink RX12 363 "DiskEvidenceModel" "actLink" "[J", .constantLong RX12 1165 (-7046029254386353131), .fieldLink RX12 354 "DiskEvidenceModel" "actWho" "[I", .constantLong RX12 1167 (-4658895280553007687), .fieldLink RX12 357 "DiskEvidenceModel" "actWhat" "[I", .constantLong RX12 1169 (-7723592293110705685), .fieldLink RX12 360 "DiskEvidenceModel" "actAt" "[I"] ++ wsX120)
def wsX12_act : List Cond := .code yX12_act cX12_act 3 (some .int) :: ([.fieldLink RX12 366 "DiskEvidenceModel" "acts" "I", .fieldLink RX12 354 "DiskEvidenceModel" "actWho" "[I", .fieldLink RX12 357 "DiskEvidenceModel" "actWhat" "[I", .fieldLink RX12 360 "DiskEvidenceModel" "actAt" "[I", .fieldLink RX12 383 "DiskEvidenceModel" "now" "I", .fieldLink RX12 363 "DiskEvidenceModel" "actLink" "[J", .methodLink RX12 1171 yX12_linkOf, .instanceMethod yX12_linkOf, .selects RX12 yX12_linkOf yX12_linkOf, .initialized RX12, .code yX12_linkOf cX12_linkOf 4 (some .long), .constantLong RX12 1165 (-7046029254386353131), .constantLong RX12 1167 (-4658895280553007687), .constantLong RX12 1169 (-7723592293110705685)] ++ wsX120)
def wsX12_link : List Cond := .code yX12_link cX12_link 2 (some .long) :: ([.fieldLink RX12 366 "DiskEvidenceModel" "acts" "I", .fieldLink RX12 363 "DiskEvidenceModel" "actLink" "[J", .methodLink RX12 372 yX12_in, .static yX12_in, .initialized RX12, .code yX12_in cX12_in 6 (some .boolean)] ++ wsX120)
def wsX12_alter : List Cond := .code yX12_alter cX12_alter 5 (some .int) :: ([.fieldLink RX12 366 "DiskEvidenceModel" "acts" "I", .constantLong RX12 537 (2), .fieldLink RX12 354 "DiskEvidenceModel" "actWho" "[I", .fieldLink RX12 357 "DiskEvidenceModel" "actWhat" "[I", .fieldLink RX12 360 "DiskEvidenceModel" "actAt" "[I", .methodLink RX12 372 yX12_in, .static yX12_in, .initialized RX12, .code yX12_in cX12_in 6 (some .boolean)] ++ wsX120)
def wsX12_chain : List Cond := .code yX12_chain cX12_chain 2 (some .int) :: ([.fieldLink RX12 366 "DiskEvidenceModel" "acts" "I", .fieldLink RX12 363 "DiskEvidenceModel" "actLink" "[J", .methodLink RX12 1171 yX12_linkOf, .instanceMethod yX12_linkOf, .selects RX12 yX12_linkOf yX12_linkOf, .initialized RX12, .code yX12_linkOf cX12_linkOf 4 (some .long), .constantLong RX12 1165 (-7046029254386353131), .fieldLink RX12 354 "DiskEvidenceModel" "actWho" "[I", .constantLong RX12 1167 (-4658895280553007687), .fieldLink RX12 357 "DiskEvidenceModel" "actWhat" "[I", .constantLong RX12 1169 (-7723592293110705685), .fieldLink RX12 360 "DiskEvidenceModel" "actAt" "[I"] ++ wsX120)
def wsX12_count : List Cond := .code yX12_count cX12_count 2 (some .int) :: ([.fieldLink RX12 376 "DiskEvidenceModel" "many" "I", .fieldLink RX12 393 "DiskEvidenceModel" "pictures" "I", .fieldLink RX12 466 "DiskEvidenceModel" "volumes" "I", .fieldLink RX12 794 "DiskEvidenceModel" "trees" "I", .fieldLink RX12 983 "DiskEvidenceModel" "opens" "I", .fieldLink RX12 1023 "DiskEvidenceModel" "hits" "I", .fieldLink RX12 1133 "DiskEvidenceModel" "results" "I", .fieldLink RX12 1156 "DiskEvidenceModel" "claims" "I", .fieldLink RX12 366 "DiskEvidenceModel" "acts" "I", .fieldLink RX12 383 "DiskEvidenceModel" "now" "I"] ++ wsX120)
theorem dX5_init_0 : decode cX5_init 0 = .ok (.aload_n 0, 1) := by decide +kernel
theorem dX5_init_1 : decode cX5_init 1 = .ok (.invokespecial 3, 3) := by decide +kernel
theorem dX5_init_4 : decode cX5_init 4 = .ok (.aload_n 0, 1) := by decide +kernel
theorem dX5_init_5 : decode cX5_init 5 = .ok (.bipush 16, 2) := by decide +kernel
theorem dX5_init_7 : decode cX5_init 7 = .ok (.newarray .int, 2) := by decide +kernel
theorem dX5_init_9 : decode cX5_init 9 = .ok (.putfield 11, 3) := by decide +kernel
theorem dX5_init_12 : decode cX5_init 12 = .ok (.aload_n 0, 1) := by decide +kernel
theorem dX5_init_13 : decode cX5_init 13 = .ok (.sipush 256, 3) := by decide +kernel
theorem dX5_init_16 : decode cX5_init 16 = .ok (.newarray .int, 2) := by decide +kernel
theorem dX5_init_18 : decode cX5_init 18 = .ok (.putfield 15, 3) := by decide +kernel
theorem dX5_init_21 : decode cX5_init 21 = .ok (.aload_n 0, 1) := by decide +kernel
theorem dX5_init_22 : decode cX5_init 22 = .ok (.iload_n 1, 1) := by decide +kernel
theorem dX5_init_23 : decode cX5_init 23 = .ok (.putfield 18, 3) := by decide +kernel
theorem dX5_init_26 : decode cX5_init 26 = .ok (.aload_n 0, 1) := by decide +kernel
theorem dX5_init_27 : decode cX5_init 27 = .ok (.iload_n 1, 1) := by decide +kernel
theorem dX5_init_28 : decode cX5_init 28 = .ok (.bipush 64, 2) := by decide +kernel
theorem dX5_init_30 : decode cX5_init 30 = .ok (.imul, 1) := by decide +kernel
theorem dX5_init_31 : decode cX5_init 31 = .ok (.newarray .byte, 2) := by decide +kernel
theorem dX5_init_33 : decode cX5_init 33 = .ok (.putfield 22, 3) := by decide +kernel
theorem dX5_init_36 : decode cX5_init 36 = .ok (.aload_n 0, 1) := by decide +kernel
theorem dX5_init_37 : decode cX5_init 37 = .ok (.iload_n 1, 1) := by decide +kernel
theorem dX5_init_38 : decode cX5_init 38 = .ok (.newarray .boolean, 2) := by decide +kernel
theorem dX5_init_40 : decode cX5_init 40 = .ok (.putfield 26, 3) := by decide +kernel
theorem dX5_init_43 : decode cX5_init 43 = .ok (.return_, 1) := by decide +kernel
theorem dX8_sortMoments_0 : decode cX8_sortMoments 0 = .ok (.iconst 1, 1) := by decide +kernel
theorem dX8_sortMoments_1 : decode cX8_sortMoments 1 = .ok (.istore_n 1, 1) := by decide +kernel
theorem dX8_sortMoments_2 : decode cX8_sortMoments 2 = .ok (.iload_n 1, 1) := by decide +kernel
theorem dX8_sortMoments_3 : decode cX8_sortMoments 3 = .ok (.aload_n 0, 1) := by decide +kernel
theorem dX8_sortMoments_4 : decode cX8_sortMoments 4 = .ok (.getfield 22, 3) := by decide +kernel
theorem dX8_sortMoments_7 : decode cX8_sortMoments 7 = .ok (.if_icmp .ge 101, 3) := by decide +kernel
theorem dX8_sortMoments_108 : decode cX8_sortMoments 108 = .ok (.return_, 1) := by decide +kernel
theorem dX11_collect_0 : decode cX11_collect 0 = .ok (.iload_n 3, 1) := by decide +kernel
theorem dX11_collect_1 : decode cX11_collect 1 = .ok (.iconst 1, 1) := by decide +kernel
theorem dX11_collect_2 : decode cX11_collect 2 = .ok (.if_icmp .lt 9, 3) := by decide +kernel
theorem dX11_collect_5 : decode cX11_collect 5 = .ok (.iload_n 3, 1) := by decide +kernel
theorem dX11_collect_6 : decode cX11_collect 6 = .ok (.bipush 8, 2) := by decide +kernel
theorem dX11_collect_8 : decode cX11_collect 8 = .ok (.if_icmp .le 6, 3) := by decide +kernel
theorem dX11_collect_11 : decode cX11_collect 11 = .ok (.bipush (-2), 2) := by decide +kernel
theorem dX11_collect_13 : decode cX11_collect 13 = .ok (.ireturn, 1) := by decide +kernel
theorem dX11_collect_14 : decode cX11_collect 14 = .ok (.aload_n 0, 1) := by decide +kernel
theorem dX11_collect_15 : decode cX11_collect 15 = .ok (.getfield 76, 3) := by decide +kernel
theorem dX11_collect_18 : decode cX11_collect 18 = .ok (.iload_n 3, 1) := by decide +kernel
theorem dX11_collect_19 : decode cX11_collect 19 = .ok (.iadd, 1) := by decide +kernel
theorem dX11_collect_20 : decode cX11_collect 20 = .ok (.sipush 4000, 3) := by decide +kernel
theorem dX11_collect_23 : decode cX11_collect 23 = .ok (.if_icmp .le 6, 3) := by decide +kernel
theorem dX11_collect_29 : decode cX11_collect 29 = .ok (.iconst 0, 1) := by decide +kernel
theorem dX11_collect_30 : decode cX11_collect 30 = .ok (.istore 4, 2) := by decide +kernel
theorem dX11_collect_32 : decode cX11_collect 32 = .ok (.iload 4, 2) := by decide +kernel
theorem dX11_collect_34 : decode cX11_collect 34 = .ok (.iload_n 3, 1) := by decide +kernel
theorem dX11_collect_35 : decode cX11_collect 35 = .ok (.if_icmp .ge 30, 3) := by decide +kernel
theorem dX11_collect_38 : decode cX11_collect 38 = .ok (.aload_n 0, 1) := by decide +kernel
theorem dX11_collect_39 : decode cX11_collect 39 = .ok (.getfield 9, 3) := by decide +kernel
theorem dX11_collect_42 : decode cX11_collect 42 = .ok (.aload_n 0, 1) := by decide +kernel
theorem dX11_collect_43 : decode cX11_collect 43 = .ok (.getfield 76, 3) := by decide +kernel
theorem dX11_collect_46 : decode cX11_collect 46 = .ok (.iload 4, 2) := by decide +kernel
theorem dX11_collect_48 : decode cX11_collect 48 = .ok (.iadd, 1) := by decide +kernel
theorem dX11_collect_49 : decode cX11_collect 49 = .ok (.lload_n 1, 1) := by decide +kernel
theorem dX11_collect_50 : decode cX11_collect 50 = .ok (.bipush 8, 2) := by decide +kernel
theorem dX11_collect_52 : decode cX11_collect 52 = .ok (.iload 4, 2) := by decide +kernel
theorem dX11_collect_54 : decode cX11_collect 54 = .ok (.imul, 1) := by decide +kernel
theorem dX11_collect_55 : decode cX11_collect 55 = .ok (.lushr, 1) := by decide +kernel
theorem dX11_collect_56 : decode cX11_collect 56 = .ok (.l2i, 1) := by decide +kernel
theorem dX11_collect_57 : decode cX11_collect 57 = .ok (.i2b, 1) := by decide +kernel
theorem dX11_collect_58 : decode cX11_collect 58 = .ok (.bastore, 1) := by decide +kernel
theorem dX11_collect_59 : decode cX11_collect 59 = .ok (.iinc 4 1, 3) := by decide +kernel
theorem dX11_collect_62 : decode cX11_collect 62 = .ok (.goto (-30), 3) := by decide +kernel
theorem dX11_collect_65 : decode cX11_collect 65 = .ok (.aload_n 0, 1) := by decide +kernel
theorem dX11_collect_66 : decode cX11_collect 66 = .ok (.dup, 1) := by decide +kernel
theorem dX11_collect_67 : decode cX11_collect 67 = .ok (.getfield 76, 3) := by decide +kernel
theorem dX11_collect_70 : decode cX11_collect 70 = .ok (.iload_n 3, 1) := by decide +kernel
theorem dX11_collect_71 : decode cX11_collect 71 = .ok (.iadd, 1) := by decide +kernel
theorem dX11_collect_72 : decode cX11_collect 72 = .ok (.putfield 76, 3) := by decide +kernel
theorem dX11_collect_75 : decode cX11_collect 75 = .ok (.aload_n 0, 1) := by decide +kernel
theorem dX11_collect_76 : decode cX11_collect 76 = .ok (.getfield 76, 3) := by decide +kernel
theorem dX11_collect_79 : decode cX11_collect 79 = .ok (.ireturn, 1) := by decide +kernel
theorem dX11_forget_0 : decode cX11_forget 0 = .ok (.aload_n 0, 1) := by decide +kernel
theorem dX11_forget_1 : decode cX11_forget 1 = .ok (.getfield 76, 3) := by decide +kernel
theorem dX11_forget_4 : decode cX11_forget 4 = .ok (.istore_n 1, 1) := by decide +kernel
theorem dX11_forget_5 : decode cX11_forget 5 = .ok (.aload_n 0, 1) := by decide +kernel
theorem dX11_forget_6 : decode cX11_forget 6 = .ok (.iconst 0, 1) := by decide +kernel
theorem dX11_forget_7 : decode cX11_forget 7 = .ok (.putfield 76, 3) := by decide +kernel
theorem dX11_forget_10 : decode cX11_forget 10 = .ok (.iload_n 1, 1) := by decide +kernel
theorem dX11_forget_11 : decode cX11_forget 11 = .ok (.ireturn, 1) := by decide +kernel
theorem dX11_tick_0 : decode cX11_tick 0 = .ok (.iload_n 1, 1) := by decide +kernel
theorem dX11_tick_1 : decode cX11_tick 1 = .ok (.ifCond .lt 20, 3) := by decide +kernel
theorem dX11_tick_4 : decode cX11_tick 4 = .ok (.iload_n 1, 1) := by decide +kernel
theorem dX11_tick_5 : decode cX11_tick 5 = .ok (.ldc 80, 2) := by decide +kernel
theorem dX11_tick_7 : decode cX11_tick 7 = .ok (.if_icmp .gt 14, 3) := by decide +kernel
theorem dX11_tick_10 : decode cX11_tick 10 = .ok (.iload_n 1, 1) := by decide +kernel
theorem dX11_tick_11 : decode cX11_tick 11 = .ok (.ldc 81, 2) := by decide +kernel
theorem dX11_tick_13 : decode cX11_tick 13 = .ok (.aload_n 0, 1) := by decide +kernel
theorem dX11_tick_14 : decode cX11_tick 14 = .ok (.getfield 82, 3) := by decide +kernel
theorem dX11_tick_17 : decode cX11_tick 17 = .ok (.isub, 1) := by decide +kernel
theorem dX11_tick_18 : decode cX11_tick 18 = .ok (.if_icmp .le 6, 3) := by decide +kernel
theorem dX11_tick_21 : decode cX11_tick 21 = .ok (.bipush (-2), 2) := by decide +kernel
theorem dX11_tick_23 : decode cX11_tick 23 = .ok (.ireturn, 1) := by decide +kernel
theorem dX11_tick_24 : decode cX11_tick 24 = .ok (.aload_n 0, 1) := by decide +kernel
theorem dX11_tick_25 : decode cX11_tick 25 = .ok (.dup, 1) := by decide +kernel
theorem dX11_tick_26 : decode cX11_tick 26 = .ok (.getfield 82, 3) := by decide +kernel
theorem dX11_tick_29 : decode cX11_tick 29 = .ok (.iload_n 1, 1) := by decide +kernel
theorem dX11_tick_30 : decode cX11_tick 30 = .ok (.iadd, 1) := by decide +kernel
theorem dX11_tick_31 : decode cX11_tick 31 = .ok (.putfield 82, 3) := by decide +kernel
theorem dX11_tick_34 : decode cX11_tick 34 = .ok (.aload_n 0, 1) := by decide +kernel
theorem dX11_tick_35 : decode cX11_tick 35 = .ok (.getfield 82, 3) := by decide +kernel
theorem dX11_tick_38 : decode cX11_tick 38 = .ok (.ireturn, 1) := by decide +kernel
set_option maxRecDepth 20000 in
theorem ggX11_blank_X5_init : GoodIn wsX11_blank wsX5_init := goodIn_r _ [8, 9, 10, 11, 12, 13, 14, 15, 16, 17, 18, 19, 40, 41, 42, 43, 44, 45, 46] (by decide +kernel) (by decide +kernel)
set_option maxRecDepth 20000 in
theorem gX11_blank_X5_init : GoodIn wsX11_blank (wsX5_init) := ggX11_blank_X5_init
theorem dX11_blank_0 : decode cX11_blank 0 = .ok (.iload_n 1, 1) := by decide +kernel
theorem dX11_blank_1 : decode cX11_blank 1 = .ok (.iconst 1, 1) := by decide +kernel
theorem dX11_blank_2 : decode cX11_blank 2 = .ok (.if_icmp .lt 10, 3) := by decide +kernel
theorem dX11_blank_5 : decode cX11_blank 5 = .ok (.iload_n 1, 1) := by decide +kernel
theorem dX11_blank_6 : decode cX11_blank 6 = .ok (.sipush 128, 3) := by decide +kernel
theorem dX11_blank_9 : decode cX11_blank 9 = .ok (.if_icmp .le 6, 3) := by decide +kernel
theorem dX11_blank_12 : decode cX11_blank 12 = .ok (.bipush (-2), 2) := by decide +kernel
theorem dX11_blank_14 : decode cX11_blank 14 = .ok (.ireturn, 1) := by decide +kernel
theorem dX11_blank_15 : decode cX11_blank 15 = .ok (.aload_n 0, 1) := by decide +kernel
theorem dX11_blank_16 : decode cX11_blank 16 = .ok (.getfield 85, 3) := by decide +kernel
theorem dX11_blank_19 : decode cX11_blank 19 = .ok (.bipush 6, 2) := by decide +kernel
theorem dX11_blank_21 : decode cX11_blank 21 = .ok (.if_icmp .lt 6, 3) := by decide +kernel
theorem dX11_blank_27 : decode cX11_blank 27 = .ok (.aload_n 0, 1) := by decide +kernel
theorem dX11_blank_28 : decode cX11_blank 28 = .ok (.getfield 15, 3) := by decide +kernel
theorem dX11_blank_31 : decode cX11_blank 31 = .ok (.aload_n 0, 1) := by decide +kernel
theorem dX11_blank_32 : decode cX11_blank 32 = .ok (.getfield 85, 3) := by decide +kernel
theorem dX11_blank_35 : decode cX11_blank 35 = .ok (.new 13, 3) := by decide +kernel
theorem dX11_blank_38 : decode cX11_blank 38 = .ok (.dup, 1) := by decide +kernel
theorem dX11_blank_39 : decode cX11_blank 39 = .ok (.iload_n 1, 1) := by decide +kernel
theorem dX11_blank_40 : decode cX11_blank 40 = .ok (.invokespecial 88, 3) := by decide +kernel
theorem dX11_blank_43 : decode cX11_blank 43 = .ok (.aastore, 1) := by decide +kernel
theorem dX11_blank_44 : decode cX11_blank 44 = .ok (.aload_n 0, 1) := by decide +kernel
theorem dX11_blank_45 : decode cX11_blank 45 = .ok (.dup, 1) := by decide +kernel
theorem dX11_blank_46 : decode cX11_blank 46 = .ok (.getfield 85, 3) := by decide +kernel
theorem dX11_blank_49 : decode cX11_blank 49 = .ok (.dup_x1, 1) := by decide +kernel
theorem dX11_blank_50 : decode cX11_blank 50 = .ok (.iconst 1, 1) := by decide +kernel
theorem dX11_blank_51 : decode cX11_blank 51 = .ok (.iadd, 1) := by decide +kernel
theorem dX11_blank_52 : decode cX11_blank 52 = .ok (.putfield 85, 3) := by decide +kernel
theorem dX11_blank_55 : decode cX11_blank 55 = .ok (.ireturn, 1) := by decide +kernel
set_option maxRecDepth 20000 in
theorem ggX11_picture_X11_forget : GoodIn wsX11_picture wsX11_forget := goodIn_r _ [8, 9, 64, 65, 66, 67, 68, 69, 70, 71, 72, 73, 74, 75, 76, 77, 78, 79, 80, 81, 82, 83] (by decide +kernel) (by decide +kernel)
set_option maxRecDepth 20000 in
theorem gX11_picture_X11_forget : GoodIn wsX11_picture (wsV RX11 91 RX11 yX11_forget wsX11_forget) := goodIn_app (goodIn_of _ (by decide +kernel)) ggX11_picture_X11_forget
set_option maxRecDepth 20000 in
theorem ggX11_picture_X11_packedFault : GoodIn wsX11_picture wsX11_packedFault := goodIn_r _ [12, 13, 14, 7, 15, 16, 17, 18, 19, 20, 21, 22, 23, 24, 25, 26, 27, 28, 29, 30, 31] (by decide +kernel) (by decide +kernel)
set_option maxRecDepth 20000 in
theorem gX11_picture_X11_packedFault : GoodIn wsX11_picture (va_wsS RX11 95 yX11_packedFault wsX11_packedFault) := goodIn_app (goodIn_of _ (by decide +kernel)) ggX11_picture_X11_packedFault
theorem dX11_picture_0 : decode cX11_picture 0 = .ok (.aload_n 0, 1) := by decide +kernel
theorem dX11_picture_1 : decode cX11_picture 1 = .ok (.getfield 85, 3) := by decide +kernel
theorem dX11_picture_4 : decode cX11_picture 4 = .ok (.bipush 6, 2) := by decide +kernel
theorem dX11_picture_6 : decode cX11_picture 6 = .ok (.if_icmp .lt 6, 3) := by decide +kernel
theorem dX11_picture_12 : decode cX11_picture 12 = .ok (.aload_n 0, 1) := by decide +kernel
theorem dX11_picture_13 : decode cX11_picture 13 = .ok (.invokevirtual 91, 3) := by decide +kernel
theorem dX11_picture_16 : decode cX11_picture 16 = .ok (.istore_n 1, 1) := by decide +kernel
theorem dX11_picture_17 : decode cX11_picture 17 = .ok (.aload_n 0, 1) := by decide +kernel
theorem dX11_picture_18 : decode cX11_picture 18 = .ok (.getfield 9, 3) := by decide +kernel
theorem dX11_picture_21 : decode cX11_picture 21 = .ok (.iload_n 1, 1) := by decide +kernel
theorem dX11_picture_22 : decode cX11_picture 22 = .ok (.invokestatic 95, 3) := by decide +kernel
theorem dX11_picture_25 : decode cX11_picture 25 = .ok (.istore_n 2, 1) := by decide +kernel
theorem dX11_picture_26 : decode cX11_picture 26 = .ok (.iload_n 2, 1) := by decide +kernel
theorem dX11_picture_27 : decode cX11_picture 27 = .ok (.ifCond .lt 8, 3) := by decide +kernel
theorem dX11_picture_30 : decode cX11_picture 30 = .ok (.bipush (-100), 2) := by decide +kernel
theorem dX11_picture_32 : decode cX11_picture 32 = .ok (.iload_n 2, 1) := by decide +kernel
theorem dX11_picture_33 : decode cX11_picture 33 = .ok (.isub, 1) := by decide +kernel
theorem dX11_picture_34 : decode cX11_picture 34 = .ok (.ireturn, 1) := by decide +kernel
set_option maxRecDepth 20000 in
theorem ggX11_sectors_X11_pictureAt : GoodIn wsX11_sectors wsX11_pictureAt := goodIn_r _ [6, 7, 8, 16, 17, 18, 19, 20, 21, 22, 23, 24, 25, 26, 27, 28, 29, 30, 31, 32, 33, 34, 35] (by decide +kernel) (by decide +kernel)
set_option maxRecDepth 20000 in
theorem gX11_sectors_X11_pictureAt : GoodIn wsX11_sectors (wsV RX11 103 RX11 yX11_pictureAt wsX11_pictureAt) := goodIn_app (goodIn_of _ (by decide +kernel)) ggX11_sectors_X11_pictureAt
theorem dX11_sectors_0 : decode cX11_sectors 0 = .ok (.aload_n 0, 1) := by decide +kernel
theorem dX11_sectors_1 : decode cX11_sectors 1 = .ok (.iload_n 1, 1) := by decide +kernel
theorem dX11_sectors_2 : decode cX11_sectors 2 = .ok (.invokevirtual 103, 3) := by decide +kernel
theorem dX11_sectors_5 : decode cX11_sectors 5 = .ok (.astore_n 2, 1) := by decide +kernel
theorem dX11_sectors_6 : decode cX11_sectors 6 = .ok (.aload_n 2, 1) := by decide +kernel
theorem dX11_sectors_7 : decode cX11_sectors 7 = .ok (.ifnonnull 8, 3) := by decide +kernel
theorem dX11_sectors_10 : decode cX11_sectors 10 = .ok (.bipush (-2), 2) := by decide +kernel
theorem dX11_sectors_12 : decode cX11_sectors 12 = .ok (.goto 7, 3) := by decide +kernel
theorem dX11_sectors_19 : decode cX11_sectors 19 = .ok (.ireturn, 1) := by decide +kernel
set_option maxRecDepth 20000 in
theorem ggX11_spoil_X11_pictureAt : GoodIn wsX11_spoil wsX11_pictureAt := goodIn_r _ [7, 8, 9, 17, 18, 19, 20, 21, 22, 23, 24, 25, 26, 27, 28, 29, 30, 31, 32, 33, 34, 35, 36] (by decide +kernel) (by decide +kernel)
set_option maxRecDepth 20000 in
theorem gX11_spoil_X11_pictureAt : GoodIn wsX11_spoil (wsV RX11 103 RX11 yX11_pictureAt wsX11_pictureAt) := goodIn_app (goodIn_of _ (by decide +kernel)) ggX11_spoil_X11_pictureAt
theorem dX11_spoil_0 : decode cX11_spoil 0 = .ok (.aload_n 0, 1) := by decide +kernel
theorem dX11_spoil_1 : decode cX11_spoil 1 = .ok (.iload_n 1, 1) := by decide +kernel
theorem dX11_spoil_2 : decode cX11_spoil 2 = .ok (.invokevirtual 103, 3) := by decide +kernel
theorem dX11_spoil_5 : decode cX11_spoil 5 = .ok (.astore 4, 2) := by decide +kernel
theorem dX11_spoil_7 : decode cX11_spoil 7 = .ok (.aload 4, 2) := by decide +kernel
theorem dX11_spoil_9 : decode cX11_spoil 9 = .ok (.ifnull 16, 3) := by decide +kernel
theorem dX11_spoil_25 : decode cX11_spoil 25 = .ok (.bipush (-2), 2) := by decide +kernel
theorem dX11_spoil_27 : decode cX11_spoil 27 = .ok (.ireturn, 1) := by decide +kernel
set_option maxRecDepth 20000 in
theorem ggX11_byteAt_X11_pictureAt : GoodIn wsX11_byteAt wsX11_pictureAt := goodIn_r _ [5, 6, 7, 26, 27, 28, 29, 30, 31, 32, 33, 34, 35, 36, 37, 38, 39, 40, 41, 42, 43, 44, 45] (by decide +kernel) (by decide +kernel)
set_option maxRecDepth 20000 in
theorem gX11_byteAt_X11_pictureAt : GoodIn wsX11_byteAt (wsV RX11 103 RX11 yX11_pictureAt wsX11_pictureAt) := goodIn_app (goodIn_of _ (by decide +kernel)) ggX11_byteAt_X11_pictureAt
theorem dX11_byteAt_0 : decode cX11_byteAt 0 = .ok (.aload_n 0, 1) := by decide +kernel
theorem dX11_byteAt_1 : decode cX11_byteAt 1 = .ok (.iload_n 1, 1) := by decide +kernel
theorem dX11_byteAt_2 : decode cX11_byteAt 2 = .ok (.invokevirtual 103, 3) := by decide +kernel
theorem dX11_byteAt_5 : decode cX11_byteAt 5 = .ok (.astore_n 3, 1) := by decide +kernel
theorem dX11_byteAt_6 : decode cX11_byteAt 6 = .ok (.aload_n 3, 1) := by decide +kernel
theorem dX11_byteAt_7 : decode cX11_byteAt 7 = .ok (.ifnull 11, 3) := by decide +kernel
theorem dX11_byteAt_18 : decode cX11_byteAt 18 = .ok (.bipush (-2), 2) := by decide +kernel
theorem dX11_byteAt_20 : decode cX11_byteAt 20 = .ok (.goto 8, 3) := by decide +kernel
theorem dX11_byteAt_28 : decode cX11_byteAt 28 = .ok (.ireturn, 1) := by decide +kernel
set_option maxRecDepth 20000 in
theorem ggX11_poke_X11_pictureAt : GoodIn wsX11_poke wsX11_pictureAt := goodIn_r _ [5, 6, 7, 32, 33, 34, 35, 36, 37, 38, 39, 40, 41, 42, 43, 44, 45, 46, 47, 48, 49, 50, 51] (by decide +kernel) (by decide +kernel)
set_option maxRecDepth 20000 in
theorem gX11_poke_X11_pictureAt : GoodIn wsX11_poke (wsV RX11 103 RX11 yX11_pictureAt wsX11_pictureAt) := goodIn_app (goodIn_of _ (by decide +kernel)) ggX11_poke_X11_pictureAt
theorem dX11_poke_0 : decode cX11_poke 0 = .ok (.aload_n 0, 1) := by decide +kernel
theorem dX11_poke_1 : decode cX11_poke 1 = .ok (.iload_n 1, 1) := by decide +kernel
theorem dX11_poke_2 : decode cX11_poke 2 = .ok (.invokevirtual 103, 3) := by decide +kernel
theorem dX11_poke_5 : decode cX11_poke 5 = .ok (.astore 4, 2) := by decide +kernel
theorem dX11_poke_7 : decode cX11_poke 7 = .ok (.aload 4, 2) := by decide +kernel
theorem dX11_poke_9 : decode cX11_poke 9 = .ok (.ifnull 23, 3) := by decide +kernel
theorem dX11_poke_32 : decode cX11_poke 32 = .ok (.bipush (-2), 2) := by decide +kernel
theorem dX11_poke_34 : decode cX11_poke 34 = .ok (.ireturn, 1) := by decide +kernel
set_option maxRecDepth 20000 in
theorem ggX11_crc_X11_pictureAt : GoodIn wsX11_crc wsX11_pictureAt := goodIn_r _ [8, 9, 10, 36, 37, 38, 39, 40, 41, 42, 43, 44, 45, 46, 47, 48, 49, 50, 51, 52, 53, 54, 55] (by decide +kernel) (by decide +kernel)
set_option maxRecDepth 20000 in
theorem gX11_crc_X11_pictureAt : GoodIn wsX11_crc (wsV RX11 103 RX11 yX11_pictureAt wsX11_pictureAt) := goodIn_app (goodIn_of _ (by decide +kernel)) ggX11_crc_X11_pictureAt
theorem dX11_crc_0 : decode cX11_crc 0 = .ok (.aload_n 0, 1) := by decide +kernel
theorem dX11_crc_1 : decode cX11_crc 1 = .ok (.iload_n 1, 1) := by decide +kernel
theorem dX11_crc_2 : decode cX11_crc 2 = .ok (.invokevirtual 103, 3) := by decide +kernel
theorem dX11_crc_5 : decode cX11_crc 5 = .ok (.astore 4, 2) := by decide +kernel
theorem dX11_crc_7 : decode cX11_crc 7 = .ok (.aload 4, 2) := by decide +kernel
theorem dX11_crc_9 : decode cX11_crc 9 = .ok (.ifnull 33, 3) := by decide +kernel
theorem dX11_crc_42 : decode cX11_crc 42 = .ok (.ldc2_w 129, 3) := by decide +kernel
theorem dX11_crc_45 : decode cX11_crc 45 = .ok (.lreturn, 1) := by decide +kernel
set_option maxRecDepth 20000 in
theorem ggX11_parts_X11_pictureAt : GoodIn wsX11_parts wsX11_pictureAt := goodIn_r _ [5, 6, 7, 41, 42, 43, 44, 45, 46, 47, 48, 49, 50, 51, 52, 53, 54, 55, 56, 57, 58, 59, 60] (by decide +kernel) (by decide +kernel)
set_option maxRecDepth 20000 in
theorem gX11_parts_X11_pictureAt : GoodIn wsX11_parts (wsV RX11 103 RX11 yX11_pictureAt wsX11_pictureAt) := goodIn_app (goodIn_of _ (by decide +kernel)) ggX11_parts_X11_pictureAt
theorem dX11_parts_0 : decode cX11_parts 0 = .ok (.aload_n 0, 1) := by decide +kernel
theorem dX11_parts_1 : decode cX11_parts 1 = .ok (.iload_n 1, 1) := by decide +kernel
theorem dX11_parts_2 : decode cX11_parts 2 = .ok (.invokevirtual 103, 3) := by decide +kernel
theorem dX11_parts_5 : decode cX11_parts 5 = .ok (.astore_n 2, 1) := by decide +kernel
theorem dX11_parts_6 : decode cX11_parts 6 = .ok (.aload_n 2, 1) := by decide +kernel
theorem dX11_parts_7 : decode cX11_parts 7 = .ok (.ifnonnull 8, 3) := by decide +kernel
theorem dX11_parts_10 : decode cX11_parts 10 = .ok (.bipush (-2), 2) := by decide +kernel
theorem dX11_parts_12 : decode cX11_parts 12 = .ok (.goto 7, 3) := by decide +kernel
theorem dX11_parts_19 : decode cX11_parts 19 = .ok (.ireturn, 1) := by decide +kernel
set_option maxRecDepth 20000 in
theorem ggX11_part_X11_pictureAt : GoodIn wsX11_part wsX11_pictureAt := goodIn_r _ [5, 6, 7, 56, 57, 58, 59, 60, 61, 62, 63, 64, 65, 66, 67, 68, 69, 70, 71, 72, 73, 74, 75] (by decide +kernel) (by decide +kernel)
set_option maxRecDepth 20000 in
theorem gX11_part_X11_pictureAt : GoodIn wsX11_part (wsV RX11 103 RX11 yX11_pictureAt wsX11_pictureAt) := goodIn_app (goodIn_of _ (by decide +kernel)) ggX11_part_X11_pictureAt
theorem dX11_part_0 : decode cX11_part 0 = .ok (.aload_n 0, 1) := by decide +kernel
theorem dX11_part_1 : decode cX11_part 1 = .ok (.iload_n 1, 1) := by decide +kernel
theorem dX11_part_2 : decode cX11_part 2 = .ok (.invokevirtual 103, 3) := by decide +kernel
theorem dX11_part_5 : decode cX11_part 5 = .ok (.astore 4, 2) := by decide +kernel
theorem dX11_part_7 : decode cX11_part 7 = .ok (.aload 4, 2) := by decide +kernel
theorem dX11_part_9 : decode cX11_part 9 = .ok (.ifnull 25, 3) := by decide +kernel
theorem dX11_part_34 : decode cX11_part 34 = .ok (.bipush (-2), 2) := by decide +kernel
theorem dX11_part_36 : decode cX11_part 36 = .ok (.ireturn, 1) := by decide +kernel
set_option maxRecDepth 20000 in
theorem ggX11_volume_X11_pictureAt : GoodIn wsX11_volume wsX11_pictureAt := goodIn_r _ [11, 12, 13, 35, 36, 37, 38, 39, 40, 41, 42, 43, 44, 45, 46, 47, 48, 49, 50, 51, 52, 53, 54] (by decide +kernel) (by decide +kernel)
set_option maxRecDepth 20000 in
theorem gX11_volume_X11_pictureAt : GoodIn wsX11_volume (wsV RX11 103 RX11 yX11_pictureAt wsX11_pictureAt) := goodIn_app (goodIn_of _ (by decide +kernel)) ggX11_volume_X11_pictureAt
theorem dX11_volume_0 : decode cX11_volume 0 = .ok (.aload_n 0, 1) := by decide +kernel
theorem dX11_volume_1 : decode cX11_volume 1 = .ok (.iload_n 1, 1) := by decide +kernel
theorem dX11_volume_2 : decode cX11_volume 2 = .ok (.invokevirtual 103, 3) := by decide +kernel
theorem dX11_volume_5 : decode cX11_volume 5 = .ok (.astore 4, 2) := by decide +kernel
theorem dX11_volume_7 : decode cX11_volume 7 = .ok (.aload 4, 2) := by decide +kernel
theorem dX11_volume_9 : decode cX11_volume 9 = .ok (.ifnull 32, 3) := by decide +kernel
theorem dX11_volume_41 : decode cX11_volume 41 = .ok (.bipush (-2), 2) := by decide +kernel
theorem dX11_volume_43 : decode cX11_volume 43 = .ok (.ireturn, 1) := by decide +kernel
set_option maxRecDepth 20000 in
theorem ggX11_join_X11_maybeVolume : GoodIn wsX11_join wsX11_maybeVolume := goodIn_r _ [11, 4, 42, 43, 44, 45, 46, 47, 48, 49, 50, 51, 52, 53, 54, 55, 56, 57, 58, 59, 60, 61] (by decide +kernel) (by decide +kernel)
set_option maxRecDepth 20000 in
theorem gX11_join_X11_maybeVolume : GoodIn wsX11_join (wsV RX11 149 RX11 yX11_maybeVolume wsX11_maybeVolume) := goodIn_app (goodIn_of _ (by decide +kernel)) ggX11_join_X11_maybeVolume
theorem dX11_join_0 : decode cX11_join 0 = .ok (.aload_n 0, 1) := by decide +kernel
theorem dX11_join_1 : decode cX11_join 1 = .ok (.iload_n 2, 1) := by decide +kernel
theorem dX11_join_2 : decode cX11_join 2 = .ok (.invokevirtual 149, 3) := by decide +kernel
theorem dX11_join_5 : decode cX11_join 5 = .ok (.ifCond .eq 20, 3) := by decide +kernel
theorem dX11_join_8 : decode cX11_join 8 = .ok (.aload_n 0, 1) := by decide +kernel
theorem dX11_join_9 : decode cX11_join 9 = .ok (.iload_n 3, 1) := by decide +kernel
theorem dX11_join_10 : decode cX11_join 10 = .ok (.invokevirtual 149, 3) := by decide +kernel
theorem dX11_join_13 : decode cX11_join 13 = .ok (.ifCond .eq 12, 3) := by decide +kernel
theorem dX11_join_16 : decode cX11_join 16 = .ok (.aload_n 0, 1) := by decide +kernel
theorem dX11_join_17 : decode cX11_join 17 = .ok (.iload 4, 2) := by decide +kernel
theorem dX11_join_19 : decode cX11_join 19 = .ok (.invokevirtual 149, 3) := by decide +kernel
theorem dX11_join_22 : decode cX11_join 22 = .ok (.ifCond .ne 6, 3) := by decide +kernel
theorem dX11_join_25 : decode cX11_join 25 = .ok (.bipush (-2), 2) := by decide +kernel
theorem dX11_join_27 : decode cX11_join 27 = .ok (.ireturn, 1) := by decide +kernel
theorem dX11_join_28 : decode cX11_join 28 = .ok (.iload_n 2, 1) := by decide +kernel
theorem dX11_join_29 : decode cX11_join 29 = .ok (.iload_n 3, 1) := by decide +kernel
theorem dX11_join_30 : decode cX11_join 30 = .ok (.if_icmp .ne 8, 3) := by decide +kernel
theorem dX11_join_33 : decode cX11_join 33 = .ok (.iload_n 2, 1) := by decide +kernel
theorem dX11_join_34 : decode cX11_join 34 = .ok (.iconst (-1), 1) := by decide +kernel
theorem dX11_join_35 : decode cX11_join 35 = .ok (.if_icmp .ne 25, 3) := by decide +kernel
theorem dX11_join_38 : decode cX11_join 38 = .ok (.iload_n 3, 1) := by decide +kernel
theorem dX11_join_39 : decode cX11_join 39 = .ok (.iload 4, 2) := by decide +kernel
theorem dX11_join_41 : decode cX11_join 41 = .ok (.if_icmp .ne 8, 3) := by decide +kernel
theorem dX11_join_44 : decode cX11_join 44 = .ok (.iload_n 3, 1) := by decide +kernel
theorem dX11_join_45 : decode cX11_join 45 = .ok (.iconst (-1), 1) := by decide +kernel
theorem dX11_join_46 : decode cX11_join 46 = .ok (.if_icmp .ne 14, 3) := by decide +kernel
theorem dX11_join_49 : decode cX11_join 49 = .ok (.iload_n 2, 1) := by decide +kernel
theorem dX11_join_50 : decode cX11_join 50 = .ok (.iload 4, 2) := by decide +kernel
theorem dX11_join_52 : decode cX11_join 52 = .ok (.if_icmp .ne 11, 3) := by decide +kernel
theorem dX11_join_55 : decode cX11_join 55 = .ok (.iload_n 2, 1) := by decide +kernel
theorem dX11_join_56 : decode cX11_join 56 = .ok (.iconst (-1), 1) := by decide +kernel
theorem dX11_join_57 : decode cX11_join 57 = .ok (.if_icmp .eq 6, 3) := by decide +kernel
theorem dX11_join_63 : decode cX11_join 63 = .ok (.iload_n 2, 1) := by decide +kernel
theorem dX11_join_64 : decode cX11_join 64 = .ok (.iconst (-1), 1) := by decide +kernel
theorem dX11_join_65 : decode cX11_join 65 = .ok (.if_icmp .ne 7, 3) := by decide +kernel
theorem dX11_join_68 : decode cX11_join 68 = .ok (.iconst 0, 1) := by decide +kernel
theorem dX11_join_69 : decode cX11_join 69 = .ok (.goto 4, 3) := by decide +kernel
theorem dX11_join_73 : decode cX11_join 73 = .ok (.iload_n 3, 1) := by decide +kernel
theorem dX11_join_74 : decode cX11_join 74 = .ok (.iconst (-1), 1) := by decide +kernel
theorem dX11_join_75 : decode cX11_join 75 = .ok (.if_icmp .ne 7, 3) := by decide +kernel
theorem dX11_join_78 : decode cX11_join 78 = .ok (.iconst 0, 1) := by decide +kernel
theorem dX11_join_79 : decode cX11_join 79 = .ok (.goto 4, 3) := by decide +kernel
theorem dX11_join_83 : decode cX11_join 83 = .ok (.iadd, 1) := by decide +kernel
theorem dX11_join_84 : decode cX11_join 84 = .ok (.iload 4, 2) := by decide +kernel
theorem dX11_join_86 : decode cX11_join 86 = .ok (.iconst (-1), 1) := by decide +kernel
theorem dX11_join_87 : decode cX11_join 87 = .ok (.if_icmp .ne 7, 3) := by decide +kernel
theorem dX11_join_90 : decode cX11_join 90 = .ok (.iconst 0, 1) := by decide +kernel
theorem dX11_join_91 : decode cX11_join 91 = .ok (.goto 4, 3) := by decide +kernel
theorem dX11_join_95 : decode cX11_join 95 = .ok (.iadd, 1) := by decide +kernel
theorem dX11_join_96 : decode cX11_join 96 = .ok (.istore 5, 2) := by decide +kernel
theorem dX11_join_98 : decode cX11_join 98 = .ok (.iload_n 1, 1) := by decide +kernel
theorem dX11_join_99 : decode cX11_join 99 = .ok (.iconst 1, 1) := by decide +kernel
theorem dX11_join_100 : decode cX11_join 100 = .ok (.if_icmp .eq 8, 3) := by decide +kernel
theorem dX11_join_103 : decode cX11_join 103 = .ok (.iload_n 1, 1) := by decide +kernel
theorem dX11_join_104 : decode cX11_join 104 = .ok (.iconst 2, 1) := by decide +kernel
theorem dX11_join_105 : decode cX11_join 105 = .ok (.if_icmp .ne 17, 3) := by decide +kernel
theorem dX11_join_108 : decode cX11_join 108 = .ok (.iload_n 2, 1) := by decide +kernel
theorem dX11_join_109 : decode cX11_join 109 = .ok (.iconst (-1), 1) := by decide +kernel
theorem dX11_join_110 : decode cX11_join 110 = .ok (.if_icmp .eq 12, 3) := by decide +kernel
theorem dX11_join_122 : decode cX11_join 122 = .ok (.iconst 0, 1) := by decide +kernel
theorem dX11_join_123 : decode cX11_join 123 = .ok (.istore 6, 2) := by decide +kernel
theorem dX11_join_125 : decode cX11_join 125 = .ok (.iload_n 1, 1) := by decide +kernel
theorem dX11_join_126 : decode cX11_join 126 = .ok (.iconst 3, 1) := by decide +kernel
theorem dX11_join_127 : decode cX11_join 127 = .ok (.if_icmp .ne 19, 3) := by decide +kernel
theorem dX11_join_130 : decode cX11_join 130 = .ok (.iload 4, 2) := by decide +kernel
theorem dX11_join_132 : decode cX11_join 132 = .ok (.iconst (-1), 1) := by decide +kernel
theorem dX11_join_133 : decode cX11_join 133 = .ok (.if_icmp .ne 13, 3) := by decide +kernel
theorem dX11_join_136 : decode cX11_join 136 = .ok (.iload 5, 2) := by decide +kernel
theorem dX11_join_138 : decode cX11_join 138 = .ok (.iconst 1, 1) := by decide +kernel
theorem dX11_join_139 : decode cX11_join 139 = .ok (.if_icmp .lt 7, 3) := by decide +kernel
theorem dX11_join_146 : decode cX11_join 146 = .ok (.iconst 0, 1) := by decide +kernel
theorem dX11_join_147 : decode cX11_join 147 = .ok (.istore 7, 2) := by decide +kernel
theorem dX11_join_149 : decode cX11_join 149 = .ok (.iload_n 1, 1) := by decide +kernel
theorem dX11_join_150 : decode cX11_join 150 = .ok (.iconst 4, 1) := by decide +kernel
theorem dX11_join_151 : decode cX11_join 151 = .ok (.if_icmp .ne 13, 3) := by decide +kernel
theorem dX11_join_154 : decode cX11_join 154 = .ok (.iload 5, 2) := by decide +kernel
theorem dX11_join_156 : decode cX11_join 156 = .ok (.iconst 2, 1) := by decide +kernel
theorem dX11_join_157 : decode cX11_join 157 = .ok (.if_icmp .lt 7, 3) := by decide +kernel
theorem dX11_join_164 : decode cX11_join 164 = .ok (.iconst 0, 1) := by decide +kernel
theorem dX11_join_165 : decode cX11_join 165 = .ok (.istore 8, 2) := by decide +kernel
theorem dX11_join_167 : decode cX11_join 167 = .ok (.iload 6, 2) := by decide +kernel
theorem dX11_join_169 : decode cX11_join 169 = .ok (.ifCond .ne 16, 3) := by decide +kernel
theorem dX11_join_172 : decode cX11_join 172 = .ok (.iload 7, 2) := by decide +kernel
theorem dX11_join_174 : decode cX11_join 174 = .ok (.ifCond .ne 11, 3) := by decide +kernel
theorem dX11_join_177 : decode cX11_join 177 = .ok (.iload 8, 2) := by decide +kernel
theorem dX11_join_179 : decode cX11_join 179 = .ok (.ifCond .ne 6, 3) := by decide +kernel
theorem dX11_join_182 : decode cX11_join 182 = .ok (.bipush (-2), 2) := by decide +kernel
theorem dX11_join_184 : decode cX11_join 184 = .ok (.ireturn, 1) := by decide +kernel
set_option maxRecDepth 20000 in
theorem ggX11_blocks_X11_volumeAt : GoodIn wsX11_blocks wsX11_volumeAt := goodIn_r _ [6, 7, 8, 17, 18, 19, 20, 21, 22, 23, 24, 25, 26, 27, 28, 29, 30, 31, 32, 33, 34, 35, 36] (by decide +kernel) (by decide +kernel)
set_option maxRecDepth 20000 in
theorem gX11_blocks_X11_volumeAt : GoodIn wsX11_blocks (wsV RX11 152 RX11 yX11_volumeAt wsX11_volumeAt) := goodIn_app (goodIn_of _ (by decide +kernel)) ggX11_blocks_X11_volumeAt
theorem dX11_blocks_0 : decode cX11_blocks 0 = .ok (.aload_n 0, 1) := by decide +kernel
theorem dX11_blocks_1 : decode cX11_blocks 1 = .ok (.iload_n 1, 1) := by decide +kernel
theorem dX11_blocks_2 : decode cX11_blocks 2 = .ok (.invokevirtual 152, 3) := by decide +kernel
theorem dX11_blocks_5 : decode cX11_blocks 5 = .ok (.astore_n 2, 1) := by decide +kernel
theorem dX11_blocks_6 : decode cX11_blocks 6 = .ok (.aload_n 2, 1) := by decide +kernel
theorem dX11_blocks_7 : decode cX11_blocks 7 = .ok (.ifnonnull 8, 3) := by decide +kernel
theorem dX11_blocks_10 : decode cX11_blocks 10 = .ok (.bipush (-2), 2) := by decide +kernel
theorem dX11_blocks_12 : decode cX11_blocks 12 = .ok (.goto 7, 3) := by decide +kernel
theorem dX11_blocks_19 : decode cX11_blocks 19 = .ok (.ireturn, 1) := by decide +kernel
set_option maxRecDepth 20000 in
theorem ggX11_volumeByte_X11_volumeAt : GoodIn wsX11_volumeByte wsX11_volumeAt := goodIn_r _ [8, 9, 10, 74, 75, 76, 77, 78, 79, 80, 81, 82, 83, 84, 85, 86, 87, 88, 89, 90, 91, 92, 93] (by decide +kernel) (by decide +kernel)
set_option maxRecDepth 20000 in
theorem gX11_volumeByte_X11_volumeAt : GoodIn wsX11_volumeByte (wsV RX11 152 RX11 yX11_volumeAt wsX11_volumeAt) := goodIn_app (goodIn_of _ (by decide +kernel)) ggX11_volumeByte_X11_volumeAt
theorem dX11_volumeByte_0 : decode cX11_volumeByte 0 = .ok (.aload_n 0, 1) := by decide +kernel
theorem dX11_volumeByte_1 : decode cX11_volumeByte 1 = .ok (.iload_n 1, 1) := by decide +kernel
theorem dX11_volumeByte_2 : decode cX11_volumeByte 2 = .ok (.invokevirtual 152, 3) := by decide +kernel
theorem dX11_volumeByte_5 : decode cX11_volumeByte 5 = .ok (.astore_n 3, 1) := by decide +kernel
theorem dX11_volumeByte_6 : decode cX11_volumeByte 6 = .ok (.aload_n 3, 1) := by decide +kernel
theorem dX11_volumeByte_7 : decode cX11_volumeByte 7 = .ok (.ifnull 18, 3) := by decide +kernel
theorem dX11_volumeByte_25 : decode cX11_volumeByte 25 = .ok (.bipush (-2), 2) := by decide +kernel
theorem dX11_volumeByte_27 : decode cX11_volumeByte 27 = .ok (.ireturn, 1) := by decide +kernel
set_option maxRecDepth 20000 in
theorem ggX11_where_X11_volumeAt : GoodIn wsX11_where wsX11_volumeAt := goodIn_r _ [6, 7, 8, 37, 38, 39, 40, 41, 42, 43, 44, 45, 46, 47, 48, 49, 50, 51, 52, 53, 54, 55, 56] (by decide +kernel) (by decide +kernel)
set_option maxRecDepth 20000 in
theorem gX11_where_X11_volumeAt : GoodIn wsX11_where (wsV RX11 152 RX11 yX11_volumeAt wsX11_volumeAt) := goodIn_app (goodIn_of _ (by decide +kernel)) ggX11_where_X11_volumeAt
theorem dX11_where_0 : decode cX11_where 0 = .ok (.aload_n 0, 1) := by decide +kernel
theorem dX11_where_1 : decode cX11_where 1 = .ok (.iload_n 1, 1) := by decide +kernel
theorem dX11_where_2 : decode cX11_where 2 = .ok (.invokevirtual 152, 3) := by decide +kernel
theorem dX11_where_5 : decode cX11_where 5 = .ok (.astore_n 3, 1) := by decide +kernel
theorem dX11_where_6 : decode cX11_where 6 = .ok (.aload_n 3, 1) := by decide +kernel
theorem dX11_where_7 : decode cX11_where 7 = .ok (.ifnull 15, 3) := by decide +kernel
theorem dX11_where_22 : decode cX11_where 22 = .ok (.bipush (-2), 2) := by decide +kernel
theorem dX11_where_24 : decode cX11_where 24 = .ok (.ireturn, 1) := by decide +kernel
set_option maxRecDepth 20000 in
theorem ggX11_format_X11_volumeAt : GoodIn wsX11_format wsX11_volumeAt := goodIn_r _ [7, 8, 9, 108, 109, 110, 111, 112, 113, 114, 115, 116, 117, 118, 119, 120, 121, 122, 123, 124, 125, 126, 127] (by decide +kernel) (by decide +kernel)
set_option maxRecDepth 20000 in
theorem gX11_format_X11_volumeAt : GoodIn wsX11_format (wsV RX11 152 RX11 yX11_volumeAt wsX11_volumeAt) := goodIn_app (goodIn_of _ (by decide +kernel)) ggX11_format_X11_volumeAt
theorem dX11_format_0 : decode cX11_format 0 = .ok (.aload_n 0, 1) := by decide +kernel
theorem dX11_format_1 : decode cX11_format 1 = .ok (.iload_n 1, 1) := by decide +kernel
theorem dX11_format_2 : decode cX11_format 2 = .ok (.invokevirtual 152, 3) := by decide +kernel
theorem dX11_format_5 : decode cX11_format 5 = .ok (.astore 4, 2) := by decide +kernel
theorem dX11_format_7 : decode cX11_format 7 = .ok (.aload 4, 2) := by decide +kernel
theorem dX11_format_9 : decode cX11_format 9 = .ok (.ifnull 15, 3) := by decide +kernel
theorem dX11_format_24 : decode cX11_format 24 = .ok (.bipush (-2), 2) := by decide +kernel
theorem dX11_format_26 : decode cX11_format 26 = .ok (.ireturn, 1) := by decide +kernel
set_option maxRecDepth 20000 in
theorem ggX11_save_X11_volumeAt : GoodIn wsX11_save wsX11_volumeAt := goodIn_r _ [8, 9, 10, 391, 392, 393, 394, 395, 396, 397, 398, 399, 400, 401, 402, 403, 404, 405, 406, 407, 408, 409, 410] (by decide +kernel) (by decide +kernel)
set_option maxRecDepth 20000 in
theorem gX11_save_X11_volumeAt : GoodIn wsX11_save (wsV RX11 152 RX11 yX11_volumeAt wsX11_volumeAt) := goodIn_app (goodIn_of _ (by decide +kernel)) ggX11_save_X11_volumeAt
theorem dX11_save_0 : decode cX11_save 0 = .ok (.aload_n 0, 1) := by decide +kernel
theorem dX11_save_1 : decode cX11_save 1 = .ok (.iload_n 1, 1) := by decide +kernel
theorem dX11_save_2 : decode cX11_save 2 = .ok (.invokevirtual 152, 3) := by decide +kernel
theorem dX11_save_5 : decode cX11_save 5 = .ok (.astore_n 2, 1) := by decide +kernel
theorem dX11_save_6 : decode cX11_save 6 = .ok (.aload_n 2, 1) := by decide +kernel
theorem dX11_save_7 : decode cX11_save 7 = .ok (.ifnonnull 6, 3) := by decide +kernel
theorem dX11_save_10 : decode cX11_save 10 = .ok (.bipush (-2), 2) := by decide +kernel
theorem dX11_save_12 : decode cX11_save 12 = .ok (.ireturn, 1) := by decide +kernel
set_option maxRecDepth 20000 in
theorem ggX11_folder_X11_volumeAt : GoodIn wsX11_folder wsX11_volumeAt := goodIn_r _ [8, 9, 10, 391, 392, 393, 394, 395, 396, 397, 398, 399, 400, 401, 402, 403, 404, 405, 406, 407, 408, 409, 410] (by decide +kernel) (by decide +kernel)
set_option maxRecDepth 20000 in
theorem gX11_folder_X11_volumeAt : GoodIn wsX11_folder (wsV RX11 152 RX11 yX11_volumeAt wsX11_volumeAt) := goodIn_app (goodIn_of _ (by decide +kernel)) ggX11_folder_X11_volumeAt
theorem dX11_folder_0 : decode cX11_folder 0 = .ok (.aload_n 0, 1) := by decide +kernel
theorem dX11_folder_1 : decode cX11_folder 1 = .ok (.iload_n 1, 1) := by decide +kernel
theorem dX11_folder_2 : decode cX11_folder 2 = .ok (.invokevirtual 152, 3) := by decide +kernel
theorem dX11_folder_5 : decode cX11_folder 5 = .ok (.astore_n 2, 1) := by decide +kernel
theorem dX11_folder_6 : decode cX11_folder 6 = .ok (.aload_n 2, 1) := by decide +kernel
theorem dX11_folder_7 : decode cX11_folder 7 = .ok (.ifnonnull 6, 3) := by decide +kernel
theorem dX11_folder_10 : decode cX11_folder 10 = .ok (.bipush (-2), 2) := by decide +kernel
theorem dX11_folder_12 : decode cX11_folder 12 = .ok (.ireturn, 1) := by decide +kernel
set_option maxRecDepth 20000 in
theorem ggX11_erase_X11_volumeAt : GoodIn wsX11_erase wsX11_volumeAt := goodIn_r _ [8, 9, 10, 391, 392, 393, 394, 395, 396, 397, 398, 399, 400, 401, 402, 403, 404, 405, 406, 407, 408, 409, 410] (by decide +kernel) (by decide +kernel)
set_option maxRecDepth 20000 in
theorem gX11_erase_X11_volumeAt : GoodIn wsX11_erase (wsV RX11 152 RX11 yX11_volumeAt wsX11_volumeAt) := goodIn_app (goodIn_of _ (by decide +kernel)) ggX11_erase_X11_volumeAt
theorem dX11_erase_0 : decode cX11_erase 0 = .ok (.aload_n 0, 1) := by decide +kernel
theorem dX11_erase_1 : decode cX11_erase 1 = .ok (.iload_n 1, 1) := by decide +kernel
theorem dX11_erase_2 : decode cX11_erase 2 = .ok (.invokevirtual 152, 3) := by decide +kernel
theorem dX11_erase_5 : decode cX11_erase 5 = .ok (.astore_n 2, 1) := by decide +kernel
theorem dX11_erase_6 : decode cX11_erase 6 = .ok (.aload_n 2, 1) := by decide +kernel
theorem dX11_erase_7 : decode cX11_erase 7 = .ok (.ifnonnull 6, 3) := by decide +kernel
theorem dX11_erase_10 : decode cX11_erase 10 = .ok (.bipush (-2), 2) := by decide +kernel
theorem dX11_erase_12 : decode cX11_erase 12 = .ok (.ireturn, 1) := by decide +kernel
set_option maxRecDepth 20000 in
theorem ggX11_mount_X11_volumeAt : GoodIn wsX11_mount wsX11_volumeAt := goodIn_r _ [20, 21, 22, 550, 551, 552, 553, 554, 555, 556, 557, 558, 559, 560, 561, 562, 563, 564, 565, 566, 567, 568, 569] (by decide +kernel) (by decide +kernel)
set_option maxRecDepth 20000 in
theorem gX11_mount_X11_volumeAt : GoodIn wsX11_mount (wsV RX11 152 RX11 yX11_volumeAt wsX11_volumeAt) := goodIn_app (goodIn_of _ (by decide +kernel)) ggX11_mount_X11_volumeAt
theorem dX11_mount_0 : decode cX11_mount 0 = .ok (.aload_n 0, 1) := by decide +kernel
theorem dX11_mount_1 : decode cX11_mount 1 = .ok (.iload_n 1, 1) := by decide +kernel
theorem dX11_mount_2 : decode cX11_mount 2 = .ok (.invokevirtual 152, 3) := by decide +kernel
theorem dX11_mount_5 : decode cX11_mount 5 = .ok (.astore_n 2, 1) := by decide +kernel
theorem dX11_mount_6 : decode cX11_mount 6 = .ok (.aload_n 2, 1) := by decide +kernel
theorem dX11_mount_7 : decode cX11_mount 7 = .ok (.ifnonnull 6, 3) := by decide +kernel
theorem dX11_mount_10 : decode cX11_mount 10 = .ok (.bipush (-2), 2) := by decide +kernel
theorem dX11_mount_12 : decode cX11_mount 12 = .ok (.ireturn, 1) := by decide +kernel
set_option maxRecDepth 20000 in
theorem ggX11_tree_X11_treeAt : GoodIn wsX11_tree wsX11_treeAt := goodIn_r _ [5, 6, 7, 27, 28, 29, 30, 31, 32, 33, 34, 35, 36, 37, 38, 39, 40, 41, 42, 43, 44, 45, 46] (by decide +kernel) (by decide +kernel)
set_option maxRecDepth 20000 in
theorem gX11_tree_X11_treeAt : GoodIn wsX11_tree (wsV RX11 239 RX11 yX11_treeAt wsX11_treeAt) := goodIn_app (goodIn_of _ (by decide +kernel)) ggX11_tree_X11_treeAt
theorem dX11_tree_0 : decode cX11_tree 0 = .ok (.aload_n 0, 1) := by decide +kernel
theorem dX11_tree_1 : decode cX11_tree 1 = .ok (.iload_n 1, 1) := by decide +kernel
theorem dX11_tree_2 : decode cX11_tree 2 = .ok (.invokevirtual 239, 3) := by decide +kernel
theorem dX11_tree_5 : decode cX11_tree 5 = .ok (.astore_n 3, 1) := by decide +kernel
theorem dX11_tree_6 : decode cX11_tree 6 = .ok (.aload_n 3, 1) := by decide +kernel
theorem dX11_tree_7 : decode cX11_tree 7 = .ok (.ifnonnull 8, 3) := by decide +kernel
theorem dX11_tree_10 : decode cX11_tree 10 = .ok (.bipush (-2), 2) := by decide +kernel
theorem dX11_tree_12 : decode cX11_tree 12 = .ok (.goto 8, 3) := by decide +kernel
theorem dX11_tree_20 : decode cX11_tree 20 = .ok (.ireturn, 1) := by decide +kernel
set_option maxRecDepth 20000 in
theorem ggX11_fault_X11_treeAt : GoodIn wsX11_fault wsX11_treeAt := goodIn_r _ [7, 8, 9, 22, 23, 24, 25, 26, 27, 28, 29, 30, 31, 32, 33, 34, 35, 36, 37, 38, 39, 40, 41] (by decide +kernel) (by decide +kernel)
set_option maxRecDepth 20000 in
theorem gX11_fault_X11_treeAt : GoodIn wsX11_fault (wsV RX11 239 RX11 yX11_treeAt wsX11_treeAt) := goodIn_app (goodIn_of _ (by decide +kernel)) ggX11_fault_X11_treeAt
theorem dX11_fault_0 : decode cX11_fault 0 = .ok (.aload_n 0, 1) := by decide +kernel
theorem dX11_fault_1 : decode cX11_fault 1 = .ok (.iload_n 1, 1) := by decide +kernel
theorem dX11_fault_2 : decode cX11_fault 2 = .ok (.invokevirtual 239, 3) := by decide +kernel
theorem dX11_fault_5 : decode cX11_fault 5 = .ok (.astore 4, 2) := by decide +kernel
theorem dX11_fault_7 : decode cX11_fault 7 = .ok (.aload 4, 2) := by decide +kernel
theorem dX11_fault_9 : decode cX11_fault 9 = .ok (.ifnull 25, 3) := by decide +kernel
theorem dX11_fault_34 : decode cX11_fault 34 = .ok (.bipush (-2), 2) := by decide +kernel
theorem dX11_fault_36 : decode cX11_fault 36 = .ok (.ireturn, 1) := by decide +kernel
set_option maxRecDepth 20000 in
theorem ggX11_owner_X11_treeAt : GoodIn wsX11_owner wsX11_treeAt := goodIn_r _ [6, 7, 8, 21, 22, 23, 24, 25, 26, 27, 28, 29, 30, 31, 32, 33, 34, 35, 36, 37, 38, 39, 40] (by decide +kernel) (by decide +kernel)
set_option maxRecDepth 20000 in
theorem gX11_owner_X11_treeAt : GoodIn wsX11_owner (wsV RX11 239 RX11 yX11_treeAt wsX11_treeAt) := goodIn_app (goodIn_of _ (by decide +kernel)) ggX11_owner_X11_treeAt
theorem dX11_owner_0 : decode cX11_owner 0 = .ok (.aload_n 0, 1) := by decide +kernel
theorem dX11_owner_1 : decode cX11_owner 1 = .ok (.iload_n 1, 1) := by decide +kernel
theorem dX11_owner_2 : decode cX11_owner 2 = .ok (.invokevirtual 239, 3) := by decide +kernel
theorem dX11_owner_5 : decode cX11_owner 5 = .ok (.astore_n 3, 1) := by decide +kernel
theorem dX11_owner_6 : decode cX11_owner 6 = .ok (.aload_n 3, 1) := by decide +kernel
theorem dX11_owner_7 : decode cX11_owner 7 = .ok (.ifnull 16, 3) := by decide +kernel
theorem dX11_owner_23 : decode cX11_owner 23 = .ok (.bipush (-2), 2) := by decide +kernel
theorem dX11_owner_25 : decode cX11_owner 25 = .ok (.goto 9, 3) := by decide +kernel
theorem dX11_owner_34 : decode cX11_owner 34 = .ok (.ireturn, 1) := by decide +kernel
set_option maxRecDepth 20000 in
theorem ggX11_free_X11_treeAt : GoodIn wsX11_free wsX11_treeAt := goodIn_r _ [5, 6, 7, 26, 27, 28, 29, 30, 31, 32, 33, 34, 35, 36, 37, 38, 39, 40, 41, 42, 43, 44, 45] (by decide +kernel) (by decide +kernel)
set_option maxRecDepth 20000 in
theorem gX11_free_X11_treeAt : GoodIn wsX11_free (wsV RX11 239 RX11 yX11_treeAt wsX11_treeAt) := goodIn_app (goodIn_of _ (by decide +kernel)) ggX11_free_X11_treeAt
theorem dX11_free_0 : decode cX11_free 0 = .ok (.aload_n 0, 1) := by decide +kernel
theorem dX11_free_1 : decode cX11_free 1 = .ok (.iload_n 1, 1) := by decide +kernel
theorem dX11_free_2 : decode cX11_free 2 = .ok (.invokevirtual 239, 3) := by decide +kernel
theorem dX11_free_5 : decode cX11_free 5 = .ok (.astore 4, 2) := by decide +kernel
theorem dX11_free_7 : decode cX11_free 7 = .ok (.aload 4, 2) := by decide +kernel
theorem dX11_free_9 : decode cX11_free 9 = .ok (.ifnull 25, 3) := by decide +kernel
theorem dX11_free_34 : decode cX11_free 34 = .ok (.bipush (-2), 2) := by decide +kernel
theorem dX11_free_36 : decode cX11_free 36 = .ok (.ireturn, 1) := by decide +kernel
set_option maxRecDepth 20000 in
theorem ggX11_find_X11_treeAt : GoodIn wsX11_find wsX11_treeAt := goodIn_r _ [6, 7, 8, 36, 37, 38, 39, 40, 41, 42, 43, 44, 45, 46, 47, 48, 49, 50, 51, 52, 53, 54, 55] (by decide +kernel) (by decide +kernel)
set_option maxRecDepth 20000 in
theorem gX11_find_X11_treeAt : GoodIn wsX11_find (wsV RX11 239 RX11 yX11_treeAt wsX11_treeAt) := goodIn_app (goodIn_of _ (by decide +kernel)) ggX11_find_X11_treeAt
theorem dX11_find_0 : decode cX11_find 0 = .ok (.aload_n 0, 1) := by decide +kernel
theorem dX11_find_1 : decode cX11_find 1 = .ok (.iload_n 1, 1) := by decide +kernel
theorem dX11_find_2 : decode cX11_find 2 = .ok (.invokevirtual 239, 3) := by decide +kernel
theorem dX11_find_5 : decode cX11_find 5 = .ok (.astore_n 2, 1) := by decide +kernel
theorem dX11_find_6 : decode cX11_find 6 = .ok (.aload_n 2, 1) := by decide +kernel
theorem dX11_find_7 : decode cX11_find 7 = .ok (.ifnonnull 6, 3) := by decide +kernel
theorem dX11_find_10 : decode cX11_find 10 = .ok (.bipush (-2), 2) := by decide +kernel
theorem dX11_find_12 : decode cX11_find 12 = .ok (.ireturn, 1) := by decide +kernel
set_option maxRecDepth 20000 in
theorem ggX11_name_X11_treeAt : GoodIn wsX11_name wsX11_treeAt := goodIn_r _ [6, 7, 8, 29, 30, 31, 32, 33, 34, 35, 36, 37, 38, 39, 40, 41, 42, 43, 44, 45, 46, 47, 48] (by decide +kernel) (by decide +kernel)
set_option maxRecDepth 20000 in
theorem gX11_name_X11_treeAt : GoodIn wsX11_name (wsV RX11 239 RX11 yX11_treeAt wsX11_treeAt) := goodIn_app (goodIn_of _ (by decide +kernel)) ggX11_name_X11_treeAt
set_option maxRecDepth 20000 in
theorem ggX11_name_X11_itemIn : GoodIn wsX11_name wsX11_itemIn := goodIn_r _ [11, 12, 13, 49, 50, 51, 52, 53, 54, 55, 56, 57, 58, 59, 60] (by decide +kernel) (by decide +kernel)
set_option maxRecDepth 20000 in
theorem gX11_name_X11_itemIn : GoodIn wsX11_name (va_wsS RX11 267 yX11_itemIn wsX11_itemIn) := goodIn_app (goodIn_of _ (by decide +kernel)) ggX11_name_X11_itemIn
theorem dX11_name_0 : decode cX11_name 0 = .ok (.aload_n 0, 1) := by decide +kernel
theorem dX11_name_1 : decode cX11_name 1 = .ok (.iload_n 1, 1) := by decide +kernel
theorem dX11_name_2 : decode cX11_name 2 = .ok (.invokevirtual 239, 3) := by decide +kernel
theorem dX11_name_5 : decode cX11_name 5 = .ok (.iload_n 2, 1) := by decide +kernel
theorem dX11_name_6 : decode cX11_name 6 = .ok (.invokestatic 267, 3) := by decide +kernel
theorem dX11_name_9 : decode cX11_name 9 = .ok (.astore 4, 2) := by decide +kernel
theorem dX11_name_11 : decode cX11_name 11 = .ok (.aload 4, 2) := by decide +kernel
theorem dX11_name_13 : decode cX11_name 13 = .ok (.ifnonnull 6, 3) := by decide +kernel
theorem dX11_name_16 : decode cX11_name 16 = .ok (.bipush (-2), 2) := by decide +kernel
theorem dX11_name_18 : decode cX11_name 18 = .ok (.ireturn, 1) := by decide +kernel
set_option maxRecDepth 20000 in
theorem ggX11_field_X11_treeAt : GoodIn wsX11_field wsX11_treeAt := goodIn_r _ [6, 7, 8, 31, 32, 33, 34, 35, 36, 37, 38, 39, 40, 41, 42, 43, 44, 45, 46, 47, 48, 49, 50] (by decide +kernel) (by decide +kernel)
set_option maxRecDepth 20000 in
theorem gX11_field_X11_treeAt : GoodIn wsX11_field (wsV RX11 239 RX11 yX11_treeAt wsX11_treeAt) := goodIn_app (goodIn_of _ (by decide +kernel)) ggX11_field_X11_treeAt
set_option maxRecDepth 20000 in
theorem ggX11_field_X11_itemIn : GoodIn wsX11_field wsX11_itemIn := goodIn_r _ [11, 12, 13, 51, 52, 53, 54, 55, 56, 57, 58, 59, 60, 61, 62] (by decide +kernel) (by decide +kernel)
set_option maxRecDepth 20000 in
theorem gX11_field_X11_itemIn : GoodIn wsX11_field (va_wsS RX11 267 yX11_itemIn wsX11_itemIn) := goodIn_app (goodIn_of _ (by decide +kernel)) ggX11_field_X11_itemIn
theorem dX11_field_0 : decode cX11_field 0 = .ok (.aload_n 0, 1) := by decide +kernel
theorem dX11_field_1 : decode cX11_field 1 = .ok (.iload_n 1, 1) := by decide +kernel
theorem dX11_field_2 : decode cX11_field 2 = .ok (.invokevirtual 239, 3) := by decide +kernel
theorem dX11_field_5 : decode cX11_field 5 = .ok (.iload_n 2, 1) := by decide +kernel
theorem dX11_field_6 : decode cX11_field 6 = .ok (.invokestatic 267, 3) := by decide +kernel
theorem dX11_field_9 : decode cX11_field 9 = .ok (.astore 4, 2) := by decide +kernel
theorem dX11_field_11 : decode cX11_field 11 = .ok (.aload 4, 2) := by decide +kernel
theorem dX11_field_13 : decode cX11_field 13 = .ok (.ifnonnull 9, 3) := by decide +kernel
theorem dX11_field_16 : decode cX11_field 16 = .ok (.ldc2_w 129, 3) := by decide +kernel
theorem dX11_field_19 : decode cX11_field 19 = .ok (.goto 9, 3) := by decide +kernel
theorem dX11_field_28 : decode cX11_field 28 = .ok (.lreturn, 1) := by decide +kernel
set_option maxRecDepth 20000 in
theorem ggX11_block_X11_treeAt : GoodIn wsX11_block wsX11_treeAt := goodIn_r _ [5, 6, 7, 19, 20, 21, 22, 23, 24, 25, 26, 27, 28, 29, 30, 31, 32, 33, 34, 35, 36, 37, 38] (by decide +kernel) (by decide +kernel)
set_option maxRecDepth 20000 in
theorem gX11_block_X11_treeAt : GoodIn wsX11_block (wsV RX11 239 RX11 yX11_treeAt wsX11_treeAt) := goodIn_app (goodIn_of _ (by decide +kernel)) ggX11_block_X11_treeAt
set_option maxRecDepth 20000 in
theorem ggX11_block_X11_itemIn : GoodIn wsX11_block wsX11_itemIn := goodIn_r _ [10, 11, 12, 39, 40, 41, 42, 43, 44, 45, 46, 47, 48, 49, 50] (by decide +kernel) (by decide +kernel)
set_option maxRecDepth 20000 in
theorem gX11_block_X11_itemIn : GoodIn wsX11_block (va_wsS RX11 267 yX11_itemIn wsX11_itemIn) := goodIn_app (goodIn_of _ (by decide +kernel)) ggX11_block_X11_itemIn
theorem dX11_block_0 : decode cX11_block 0 = .ok (.aload_n 0, 1) := by decide +kernel
theorem dX11_block_1 : decode cX11_block 1 = .ok (.iload_n 1, 1) := by decide +kernel
theorem dX11_block_2 : decode cX11_block 2 = .ok (.invokevirtual 239, 3) := by decide +kernel
theorem dX11_block_5 : decode cX11_block 5 = .ok (.iload_n 2, 1) := by decide +kernel
theorem dX11_block_6 : decode cX11_block 6 = .ok (.invokestatic 267, 3) := by decide +kernel
theorem dX11_block_9 : decode cX11_block 9 = .ok (.astore 4, 2) := by decide +kernel
theorem dX11_block_11 : decode cX11_block 11 = .ok (.aload 4, 2) := by decide +kernel
theorem dX11_block_13 : decode cX11_block 13 = .ok (.ifnonnull 8, 3) := by decide +kernel
theorem dX11_block_16 : decode cX11_block 16 = .ok (.bipush (-2), 2) := by decide +kernel
theorem dX11_block_18 : decode cX11_block 18 = .ok (.goto 9, 3) := by decide +kernel
theorem dX11_block_27 : decode cX11_block 27 = .ok (.ireturn, 1) := by decide +kernel
set_option maxRecDepth 20000 in
theorem ggX11_content_X11_treeAt : GoodIn wsX11_content wsX11_treeAt := goodIn_r _ [6, 7, 8, 45, 46, 47, 48, 49, 50, 51, 52, 53, 54, 55, 56, 57, 58, 59, 60, 61, 62, 63, 64] (by decide +kernel) (by decide +kernel)
set_option maxRecDepth 20000 in
theorem gX11_content_X11_treeAt : GoodIn wsX11_content (wsV RX11 239 RX11 yX11_treeAt wsX11_treeAt) := goodIn_app (goodIn_of _ (by decide +kernel)) ggX11_content_X11_treeAt
set_option maxRecDepth 20000 in
theorem ggX11_content_X11_itemIn : GoodIn wsX11_content wsX11_itemIn := goodIn_r _ [11, 12, 13, 65, 66, 67, 68, 69, 70, 71, 72, 73, 74, 75, 76] (by decide +kernel) (by decide +kernel)
set_option maxRecDepth 20000 in
theorem gX11_content_X11_itemIn : GoodIn wsX11_content (va_wsS RX11 267 yX11_itemIn wsX11_itemIn) := goodIn_app (goodIn_of _ (by decide +kernel)) ggX11_content_X11_itemIn
theorem dX11_content_0 : decode cX11_content 0 = .ok (.aload_n 0, 1) := by decide +kernel
theorem dX11_content_1 : decode cX11_content 1 = .ok (.iload_n 1, 1) := by decide +kernel
theorem dX11_content_2 : decode cX11_content 2 = .ok (.invokevirtual 239, 3) := by decide +kernel
theorem dX11_content_5 : decode cX11_content 5 = .ok (.astore 4, 2) := by decide +kernel
theorem dX11_content_7 : decode cX11_content 7 = .ok (.aload 4, 2) := by decide +kernel
theorem dX11_content_9 : decode cX11_content 9 = .ok (.iload_n 2, 1) := by decide +kernel
theorem dX11_content_10 : decode cX11_content 10 = .ok (.invokestatic 267, 3) := by decide +kernel
theorem dX11_content_13 : decode cX11_content 13 = .ok (.astore 5, 2) := by decide +kernel
theorem dX11_content_15 : decode cX11_content 15 = .ok (.aload 4, 2) := by decide +kernel
theorem dX11_content_17 : decode cX11_content 17 = .ok (.ifnull 8, 3) := by decide +kernel
theorem dX11_content_25 : decode cX11_content 25 = .ok (.bipush (-2), 2) := by decide +kernel
theorem dX11_content_27 : decode cX11_content 27 = .ok (.ireturn, 1) := by decide +kernel
set_option maxRecDepth 20000 in
theorem ggX11_slack_X11_treeAt : GoodIn wsX11_slack wsX11_treeAt := goodIn_r _ [7, 8, 9, 46, 47, 48, 49, 50, 51, 52, 53, 54, 55, 56, 57, 58, 59, 60, 61, 62, 63, 64, 65] (by decide +kernel) (by decide +kernel)
set_option maxRecDepth 20000 in
theorem gX11_slack_X11_treeAt : GoodIn wsX11_slack (wsV RX11 239 RX11 yX11_treeAt wsX11_treeAt) := goodIn_app (goodIn_of _ (by decide +kernel)) ggX11_slack_X11_treeAt
set_option maxRecDepth 20000 in
theorem ggX11_slack_X11_itemIn : GoodIn wsX11_slack wsX11_itemIn := goodIn_r _ [12, 13, 14, 66, 67, 68, 69, 70, 71, 72, 73, 74, 75, 76, 77] (by decide +kernel) (by decide +kernel)
set_option maxRecDepth 20000 in
theorem gX11_slack_X11_itemIn : GoodIn wsX11_slack (va_wsS RX11 267 yX11_itemIn wsX11_itemIn) := goodIn_app (goodIn_of _ (by decide +kernel)) ggX11_slack_X11_itemIn
theorem dX11_slack_0 : decode cX11_slack 0 = .ok (.aload_n 0, 1) := by decide +kernel
theorem dX11_slack_1 : decode cX11_slack 1 = .ok (.iload_n 1, 1) := by decide +kernel
theorem dX11_slack_2 : decode cX11_slack 2 = .ok (.invokevirtual 239, 3) := by decide +kernel
theorem dX11_slack_5 : decode cX11_slack 5 = .ok (.astore 4, 2) := by decide +kernel
theorem dX11_slack_7 : decode cX11_slack 7 = .ok (.aload 4, 2) := by decide +kernel
theorem dX11_slack_9 : decode cX11_slack 9 = .ok (.iload_n 2, 1) := by decide +kernel
theorem dX11_slack_10 : decode cX11_slack 10 = .ok (.invokestatic 267, 3) := by decide +kernel
theorem dX11_slack_13 : decode cX11_slack 13 = .ok (.astore 5, 2) := by decide +kernel
theorem dX11_slack_15 : decode cX11_slack 15 = .ok (.aload 4, 2) := by decide +kernel
theorem dX11_slack_17 : decode cX11_slack 17 = .ok (.ifnull 8, 3) := by decide +kernel
theorem dX11_slack_25 : decode cX11_slack 25 = .ok (.bipush (-2), 2) := by decide +kernel
theorem dX11_slack_27 : decode cX11_slack 27 = .ok (.ireturn, 1) := by decide +kernel
set_option maxRecDepth 20000 in
theorem ggX11_open_X11_treeAt : GoodIn wsX11_open wsX11_treeAt := goodIn_r _ [12, 13, 14, 178, 179, 180, 181, 182, 183, 184, 185, 186, 187, 188, 189, 190, 191, 192, 193, 194, 195, 196, 197] (by decide +kernel) (by decide +kernel)
set_option maxRecDepth 20000 in
theorem gX11_open_X11_treeAt : GoodIn wsX11_open (wsV RX11 239 RX11 yX11_treeAt wsX11_treeAt) := goodIn_app (goodIn_of _ (by decide +kernel)) ggX11_open_X11_treeAt
set_option maxRecDepth 20000 in
theorem ggX11_open_X11_itemIn : GoodIn wsX11_open wsX11_itemIn := goodIn_r _ [17, 18, 19, 224, 225, 226, 227, 228, 229, 230, 231, 232, 233, 234, 235] (by decide +kernel) (by decide +kernel)
set_option maxRecDepth 20000 in
theorem gX11_open_X11_itemIn : GoodIn wsX11_open (va_wsS RX11 267 yX11_itemIn wsX11_itemIn) := goodIn_app (goodIn_of _ (by decide +kernel)) ggX11_open_X11_itemIn
theorem dX11_open_0 : decode cX11_open 0 = .ok (.aload_n 0, 1) := by decide +kernel
theorem dX11_open_1 : decode cX11_open 1 = .ok (.iload_n 1, 1) := by decide +kernel
theorem dX11_open_2 : decode cX11_open 2 = .ok (.invokevirtual 239, 3) := by decide +kernel
theorem dX11_open_5 : decode cX11_open 5 = .ok (.astore_n 3, 1) := by decide +kernel
theorem dX11_open_6 : decode cX11_open 6 = .ok (.aload_n 3, 1) := by decide +kernel
theorem dX11_open_7 : decode cX11_open 7 = .ok (.iload_n 2, 1) := by decide +kernel
theorem dX11_open_8 : decode cX11_open 8 = .ok (.invokestatic 267, 3) := by decide +kernel
theorem dX11_open_11 : decode cX11_open 11 = .ok (.astore 4, 2) := by decide +kernel
theorem dX11_open_13 : decode cX11_open 13 = .ok (.aload_n 3, 1) := by decide +kernel
theorem dX11_open_14 : decode cX11_open 14 = .ok (.ifnull 8, 3) := by decide +kernel
theorem dX11_open_22 : decode cX11_open 22 = .ok (.bipush (-2), 2) := by decide +kernel
theorem dX11_open_24 : decode cX11_open 24 = .ok (.ireturn, 1) := by decide +kernel
set_option maxRecDepth 20000 in
theorem ggX11_node_X11_openingAt : GoodIn wsX11_node wsX11_openingAt := goodIn_r _ [6, 7, 8, 25, 26, 27, 28, 29, 30, 31, 32, 33, 34, 35, 36, 37, 38, 39, 40, 41, 42, 43, 44] (by decide +kernel) (by decide +kernel)
set_option maxRecDepth 20000 in
theorem gX11_node_X11_openingAt : GoodIn wsX11_node (wsV RX11 308 RX11 yX11_openingAt wsX11_openingAt) := goodIn_app (goodIn_of _ (by decide +kernel)) ggX11_node_X11_openingAt
theorem dX11_node_0 : decode cX11_node 0 = .ok (.aload_n 0, 1) := by decide +kernel
theorem dX11_node_1 : decode cX11_node 1 = .ok (.iload_n 1, 1) := by decide +kernel
theorem dX11_node_2 : decode cX11_node 2 = .ok (.invokevirtual 308, 3) := by decide +kernel
theorem dX11_node_5 : decode cX11_node 5 = .ok (.astore 4, 2) := by decide +kernel
theorem dX11_node_7 : decode cX11_node 7 = .ok (.aload 4, 2) := by decide +kernel
theorem dX11_node_9 : decode cX11_node 9 = .ok (.ifnull 25, 3) := by decide +kernel
theorem dX11_node_34 : decode cX11_node 34 = .ok (.bipush (-2), 2) := by decide +kernel
theorem dX11_node_36 : decode cX11_node 36 = .ok (.ireturn, 1) := by decide +kernel
set_option maxRecDepth 20000 in
theorem ggX11_opened_X11_openingAt : GoodIn wsX11_opened wsX11_openingAt := goodIn_r _ [8, 9, 10, 32, 33, 34, 35, 36, 37, 38, 39, 40, 41, 42, 43, 44, 45, 46, 47, 48, 49, 50, 51] (by decide +kernel) (by decide +kernel)
set_option maxRecDepth 20000 in
theorem gX11_opened_X11_openingAt : GoodIn wsX11_opened (wsV RX11 308 RX11 yX11_openingAt wsX11_openingAt) := goodIn_app (goodIn_of _ (by decide +kernel)) ggX11_opened_X11_openingAt
theorem dX11_opened_0 : decode cX11_opened 0 = .ok (.aload_n 0, 1) := by decide +kernel
theorem dX11_opened_1 : decode cX11_opened 1 = .ok (.iload_n 1, 1) := by decide +kernel
theorem dX11_opened_2 : decode cX11_opened 2 = .ok (.invokevirtual 308, 3) := by decide +kernel
theorem dX11_opened_5 : decode cX11_opened 5 = .ok (.astore_n 3, 1) := by decide +kernel
theorem dX11_opened_6 : decode cX11_opened 6 = .ok (.aload_n 3, 1) := by decide +kernel
theorem dX11_opened_7 : decode cX11_opened 7 = .ok (.ifnonnull 6, 3) := by decide +kernel
theorem dX11_opened_10 : decode cX11_opened 10 = .ok (.bipush (-2), 2) := by decide +kernel
theorem dX11_opened_12 : decode cX11_opened 12 = .ok (.ireturn, 1) := by decide +kernel
set_option maxRecDepth 20000 in
theorem ggX11_inside_X11_openingAt : GoodIn wsX11_inside wsX11_openingAt := goodIn_r _ [7, 8, 9, 95, 96, 97, 98, 99, 100, 101, 102, 103, 104, 105, 106, 107, 108, 109, 110, 111, 112, 113, 114] (by decide +kernel) (by decide +kernel)
set_option maxRecDepth 20000 in
theorem gX11_inside_X11_openingAt : GoodIn wsX11_inside (wsV RX11 308 RX11 yX11_openingAt wsX11_openingAt) := goodIn_app (goodIn_of _ (by decide +kernel)) ggX11_inside_X11_openingAt
theorem dX11_inside_0 : decode cX11_inside 0 = .ok (.aload_n 0, 1) := by decide +kernel
theorem dX11_inside_1 : decode cX11_inside 1 = .ok (.iload_n 1, 1) := by decide +kernel
theorem dX11_inside_2 : decode cX11_inside 2 = .ok (.invokevirtual 308, 3) := by decide +kernel
theorem dX11_inside_5 : decode cX11_inside 5 = .ok (.astore_n 3, 1) := by decide +kernel
theorem dX11_inside_6 : decode cX11_inside 6 = .ok (.aload_n 3, 1) := by decide +kernel
theorem dX11_inside_7 : decode cX11_inside 7 = .ok (.ifnull 26, 3) := by decide +kernel
theorem dX11_inside_33 : decode cX11_inside 33 = .ok (.bipush (-2), 2) := by decide +kernel
theorem dX11_inside_35 : decode cX11_inside 35 = .ok (.ireturn, 1) := by decide +kernel
set_option maxRecDepth 20000 in
theorem ggX11_word_X11_treeAt : GoodIn wsX11_word wsX11_treeAt := goodIn_r _ [9, 10, 11, 108, 109, 110, 111, 112, 113, 114, 115, 116, 117, 118, 119, 120, 121, 122, 123, 124, 125, 126, 127] (by decide +kernel) (by decide +kernel)
set_option maxRecDepth 20000 in
theorem gX11_word_X11_treeAt : GoodIn wsX11_word (wsV RX11 239 RX11 yX11_treeAt wsX11_treeAt) := goodIn_app (goodIn_of _ (by decide +kernel)) ggX11_word_X11_treeAt
theorem dX11_word_0 : decode cX11_word 0 = .ok (.aload_n 0, 1) := by decide +kernel
theorem dX11_word_1 : decode cX11_word 1 = .ok (.iload_n 1, 1) := by decide +kernel
theorem dX11_word_2 : decode cX11_word 2 = .ok (.invokevirtual 239, 3) := by decide +kernel
theorem dX11_word_5 : decode cX11_word 5 = .ok (.astore_n 2, 1) := by decide +kernel
theorem dX11_word_6 : decode cX11_word 6 = .ok (.aload_n 2, 1) := by decide +kernel
theorem dX11_word_7 : decode cX11_word 7 = .ok (.ifnonnull 6, 3) := by decide +kernel
theorem dX11_word_10 : decode cX11_word 10 = .ok (.bipush (-2), 2) := by decide +kernel
theorem dX11_word_12 : decode cX11_word 12 = .ok (.ireturn, 1) := by decide +kernel
set_option maxRecDepth 20000 in
theorem ggX11_pattern_X11_treeAt : GoodIn wsX11_pattern wsX11_treeAt := goodIn_r _ [9, 10, 11, 133, 134, 135, 136, 137, 138, 139, 140, 141, 142, 143, 144, 145, 146, 147, 148, 149, 150, 151, 152] (by decide +kernel) (by decide +kernel)
set_option maxRecDepth 20000 in
theorem gX11_pattern_X11_treeAt : GoodIn wsX11_pattern (wsV RX11 239 RX11 yX11_treeAt wsX11_treeAt) := goodIn_app (goodIn_of _ (by decide +kernel)) ggX11_pattern_X11_treeAt
theorem dX11_pattern_0 : decode cX11_pattern 0 = .ok (.aload_n 0, 1) := by decide +kernel
theorem dX11_pattern_1 : decode cX11_pattern 1 = .ok (.iload_n 1, 1) := by decide +kernel
theorem dX11_pattern_2 : decode cX11_pattern 2 = .ok (.invokevirtual 239, 3) := by decide +kernel
theorem dX11_pattern_5 : decode cX11_pattern 5 = .ok (.astore_n 2, 1) := by decide +kernel
theorem dX11_pattern_6 : decode cX11_pattern 6 = .ok (.aload_n 2, 1) := by decide +kernel
theorem dX11_pattern_7 : decode cX11_pattern 7 = .ok (.ifnonnull 6, 3) := by decide +kernel
theorem dX11_pattern_10 : decode cX11_pattern 10 = .ok (.bipush (-2), 2) := by decide +kernel
theorem dX11_pattern_12 : decode cX11_pattern 12 = .ok (.ireturn, 1) := by decide +kernel
theorem dX11_hit_0 : decode cX11_hit 0 = .ok (.iload_n 1, 1) := by decide +kernel
theorem dX11_hit_1 : decode cX11_hit 1 = .ok (.ifCond .lt 23, 3) := by decide +kernel
theorem dX11_hit_4 : decode cX11_hit 4 = .ok (.iload_n 1, 1) := by decide +kernel
theorem dX11_hit_5 : decode cX11_hit 5 = .ok (.aload_n 0, 1) := by decide +kernel
theorem dX11_hit_6 : decode cX11_hit 6 = .ok (.getfield 51, 3) := by decide +kernel
theorem dX11_hit_9 : decode cX11_hit 9 = .ok (.getfield 338, 3) := by decide +kernel
theorem dX11_hit_12 : decode cX11_hit 12 = .ok (.if_icmp .ge 12, 3) := by decide +kernel
theorem dX11_hit_24 : decode cX11_hit 24 = .ok (.bipush (-2), 2) := by decide +kernel
theorem dX11_hit_26 : decode cX11_hit 26 = .ok (.ireturn, 1) := by decide +kernel
set_option maxRecDepth 20000 in
theorem ggX11_question_X11_treeAt : GoodIn wsX11_question wsX11_treeAt := goodIn_r _ [7, 8, 9, 194, 195, 196, 197, 198, 199, 200, 201, 202, 203, 204, 205, 206, 207, 208, 209, 210, 211, 212, 213] (by decide +kernel) (by decide +kernel)
set_option maxRecDepth 20000 in
theorem gX11_question_X11_treeAt : GoodIn wsX11_question (wsV RX11 239 RX11 yX11_treeAt wsX11_treeAt) := goodIn_app (goodIn_of _ (by decide +kernel)) ggX11_question_X11_treeAt
theorem dX11_question_0 : decode cX11_question 0 = .ok (.aload_n 0, 1) := by decide +kernel
theorem dX11_question_1 : decode cX11_question 1 = .ok (.iload_n 1, 1) := by decide +kernel
theorem dX11_question_2 : decode cX11_question 2 = .ok (.invokevirtual 239, 3) := by decide +kernel
theorem dX11_question_5 : decode cX11_question 5 = .ok (.astore_n 2, 1) := by decide +kernel
theorem dX11_question_6 : decode cX11_question 6 = .ok (.aload_n 2, 1) := by decide +kernel
theorem dX11_question_7 : decode cX11_question 7 = .ok (.ifnonnull 6, 3) := by decide +kernel
theorem dX11_question_10 : decode cX11_question 10 = .ok (.bipush (-2), 2) := by decide +kernel
theorem dX11_question_12 : decode cX11_question 12 = .ok (.ireturn, 1) := by decide +kernel
theorem dX11_row_0 : decode cX11_row 0 = .ok (.iload_n 1, 1) := by decide +kernel
theorem dX11_row_1 : decode cX11_row 1 = .ok (.ifCond .lt 14, 3) := by decide +kernel
theorem dX11_row_4 : decode cX11_row 4 = .ok (.iload_n 1, 1) := by decide +kernel
theorem dX11_row_5 : decode cX11_row 5 = .ok (.aload_n 0, 1) := by decide +kernel
theorem dX11_row_6 : decode cX11_row 6 = .ok (.getfield 58, 3) := by decide +kernel
theorem dX11_row_9 : decode cX11_row 9 = .ok (.getfield 348, 3) := by decide +kernel
theorem dX11_row_12 : decode cX11_row 12 = .ok (.if_icmp .lt 8, 3) := by decide +kernel
theorem dX11_row_15 : decode cX11_row 15 = .ok (.bipush (-2), 2) := by decide +kernel
theorem dX11_row_17 : decode cX11_row 17 = .ok (.goto 12, 3) := by decide +kernel
theorem dX11_row_29 : decode cX11_row 29 = .ok (.ireturn, 1) := by decide +kernel
set_option maxRecDepth 20000 in
theorem ggX11_line_X8_sortMoments : GoodIn wsX11_line wsX8_sortMoments := goodIn_r _ [69, 46, 47, 48, 90, 91, 92, 93, 94] (by decide +kernel) (by decide +kernel)
set_option maxRecDepth 20000 in
theorem gX11_line_X8_sortMoments : GoodIn wsX11_line (wsV RX11 368 RX8 yX8_sortMoments wsX8_sortMoments) := goodIn_app (goodIn_of _ (by decide +kernel)) ggX11_line_X8_sortMoments
theorem dX11_line_0 : decode cX11_line 0 = .ok (.aload_n 0, 1) := by decide +kernel
theorem dX11_line_1 : decode cX11_line 1 = .ok (.getfield 65, 3) := by decide +kernel
theorem dX11_line_4 : decode cX11_line 4 = .ok (.iconst 0, 1) := by decide +kernel
theorem dX11_line_5 : decode cX11_line 5 = .ok (.putfield 354, 3) := by decide +kernel
theorem dX11_line_8 : decode cX11_line 8 = .ok (.iconst 0, 1) := by decide +kernel
theorem dX11_line_9 : decode cX11_line 9 = .ok (.istore_n 1, 1) := by decide +kernel
theorem dX11_line_10 : decode cX11_line 10 = .ok (.iload_n 1, 1) := by decide +kernel
theorem dX11_line_11 : decode cX11_line 11 = .ok (.aload_n 0, 1) := by decide +kernel
theorem dX11_line_12 : decode cX11_line 12 = .ok (.getfield 188, 3) := by decide +kernel
theorem dX11_line_15 : decode cX11_line 15 = .ok (.if_icmp .ge 83, 3) := by decide +kernel
theorem dX11_line_98 : decode cX11_line 98 = .ok (.aload_n 0, 1) := by decide +kernel
theorem dX11_line_99 : decode cX11_line 99 = .ok (.getfield 65, 3) := by decide +kernel
theorem dX11_line_102 : decode cX11_line 102 = .ok (.invokevirtual 368, 3) := by decide +kernel
theorem dX11_line_105 : decode cX11_line 105 = .ok (.aload_n 0, 1) := by decide +kernel
theorem dX11_line_106 : decode cX11_line 106 = .ok (.getfield 65, 3) := by decide +kernel
theorem dX11_line_109 : decode cX11_line 109 = .ok (.getfield 354, 3) := by decide +kernel
theorem dX11_line_112 : decode cX11_line 112 = .ok (.ireturn, 1) := by decide +kernel
theorem dX11_time_0 : decode cX11_time 0 = .ok (.iload_n 1, 1) := by decide +kernel
theorem dX11_time_1 : decode cX11_time 1 = .ok (.ifCond .lt 23, 3) := by decide +kernel
theorem dX11_time_4 : decode cX11_time 4 = .ok (.iload_n 1, 1) := by decide +kernel
theorem dX11_time_5 : decode cX11_time 5 = .ok (.aload_n 0, 1) := by decide +kernel
theorem dX11_time_6 : decode cX11_time 6 = .ok (.getfield 65, 3) := by decide +kernel
theorem dX11_time_9 : decode cX11_time 9 = .ok (.getfield 354, 3) := by decide +kernel
theorem dX11_time_12 : decode cX11_time 12 = .ok (.if_icmp .ge 12, 3) := by decide +kernel
theorem dX11_time_24 : decode cX11_time 24 = .ok (.ldc2_w 129, 3) := by decide +kernel
theorem dX11_time_27 : decode cX11_time 27 = .ok (.lreturn, 1) := by decide +kernel
theorem dX11_doubts_0 : decode cX11_doubts 0 = .ok (.aload_n 0, 1) := by decide +kernel
theorem dX11_doubts_1 : decode cX11_doubts 1 = .ok (.getfield 65, 3) := by decide +kernel
theorem dX11_doubts_4 : decode cX11_doubts 4 = .ok (.iconst 0, 1) := by decide +kernel
theorem dX11_doubts_5 : decode cX11_doubts 5 = .ok (.putfield 375, 3) := by decide +kernel
theorem dX11_doubts_8 : decode cX11_doubts 8 = .ok (.iconst 0, 1) := by decide +kernel
theorem dX11_doubts_9 : decode cX11_doubts 9 = .ok (.istore_n 1, 1) := by decide +kernel
theorem dX11_doubts_10 : decode cX11_doubts 10 = .ok (.iload_n 1, 1) := by decide +kernel
theorem dX11_doubts_11 : decode cX11_doubts 11 = .ok (.aload_n 0, 1) := by decide +kernel
theorem dX11_doubts_12 : decode cX11_doubts 12 = .ok (.getfield 188, 3) := by decide +kernel
theorem dX11_doubts_15 : decode cX11_doubts 15 = .ok (.if_icmp .ge 27, 3) := by decide +kernel
theorem dX11_doubts_42 : decode cX11_doubts 42 = .ok (.aload_n 0, 1) := by decide +kernel
theorem dX11_doubts_43 : decode cX11_doubts 43 = .ok (.getfield 65, 3) := by decide +kernel
theorem dX11_doubts_46 : decode cX11_doubts 46 = .ok (.getfield 375, 3) := by decide +kernel
theorem dX11_doubts_49 : decode cX11_doubts 49 = .ok (.ireturn, 1) := by decide +kernel
theorem dX11_doubt_0 : decode cX11_doubt 0 = .ok (.iload_n 1, 1) := by decide +kernel
theorem dX11_doubt_1 : decode cX11_doubt 1 = .ok (.ifCond .lt 23, 3) := by decide +kernel
theorem dX11_doubt_4 : decode cX11_doubt 4 = .ok (.iload_n 1, 1) := by decide +kernel
theorem dX11_doubt_5 : decode cX11_doubt 5 = .ok (.aload_n 0, 1) := by decide +kernel
theorem dX11_doubt_6 : decode cX11_doubt 6 = .ok (.getfield 65, 3) := by decide +kernel
theorem dX11_doubt_9 : decode cX11_doubt 9 = .ok (.getfield 375, 3) := by decide +kernel
theorem dX11_doubt_12 : decode cX11_doubt 12 = .ok (.if_icmp .ge 12, 3) := by decide +kernel
theorem dX11_doubt_24 : decode cX11_doubt 24 = .ok (.bipush (-2), 2) := by decide +kernel
theorem dX11_doubt_26 : decode cX11_doubt 26 = .ok (.ireturn, 1) := by decide +kernel
set_option maxRecDepth 20000 in
theorem ggX11_claim_X11_treeAt : GoodIn wsX11_claim wsX11_treeAt := goodIn_r _ [13, 14, 15, 80, 81, 82, 83, 84, 85, 86, 87, 88, 89, 90, 91, 92, 93, 94, 95, 96, 97, 98, 99] (by decide +kernel) (by decide +kernel)
set_option maxRecDepth 20000 in
theorem gX11_claim_X11_treeAt : GoodIn wsX11_claim (wsV RX11 239 RX11 yX11_treeAt wsX11_treeAt) := goodIn_app (goodIn_of _ (by decide +kernel)) ggX11_claim_X11_treeAt
set_option maxRecDepth 20000 in
theorem ggX11_claim_X11_itemIn : GoodIn wsX11_claim wsX11_itemIn := goodIn_r _ [18, 19, 20, 100, 101, 102, 103, 104, 105, 106, 107, 108, 109, 110, 111] (by decide +kernel) (by decide +kernel)
set_option maxRecDepth 20000 in
theorem gX11_claim_X11_itemIn : GoodIn wsX11_claim (va_wsS RX11 267 yX11_itemIn wsX11_itemIn) := goodIn_app (goodIn_of _ (by decide +kernel)) ggX11_claim_X11_itemIn
theorem dX11_claim_0 : decode cX11_claim 0 = .ok (.aload_n 0, 1) := by decide +kernel
theorem dX11_claim_1 : decode cX11_claim 1 = .ok (.iload_n 1, 1) := by decide +kernel
theorem dX11_claim_2 : decode cX11_claim 2 = .ok (.invokevirtual 239, 3) := by decide +kernel
theorem dX11_claim_5 : decode cX11_claim 5 = .ok (.astore 5, 2) := by decide +kernel
theorem dX11_claim_7 : decode cX11_claim 7 = .ok (.aload 5, 2) := by decide +kernel
theorem dX11_claim_9 : decode cX11_claim 9 = .ok (.iload_n 2, 1) := by decide +kernel
theorem dX11_claim_10 : decode cX11_claim 10 = .ok (.invokestatic 267, 3) := by decide +kernel
theorem dX11_claim_13 : decode cX11_claim 13 = .ok (.astore 6, 2) := by decide +kernel
theorem dX11_claim_15 : decode cX11_claim 15 = .ok (.aload 5, 2) := by decide +kernel
theorem dX11_claim_17 : decode cX11_claim 17 = .ok (.ifnull 37, 3) := by decide +kernel
theorem dX11_claim_54 : decode cX11_claim 54 = .ok (.bipush (-2), 2) := by decide +kernel
theorem dX11_claim_56 : decode cX11_claim 56 = .ok (.ireturn, 1) := by decide +kernel
theorem dX11_claimed_0 : decode cX11_claimed 0 = .ok (.iload_n 1, 1) := by decide +kernel
theorem dX11_claimed_1 : decode cX11_claimed 1 = .ok (.ifCond .lt 20, 3) := by decide +kernel
theorem dX11_claimed_4 : decode cX11_claimed 4 = .ok (.iload_n 1, 1) := by decide +kernel
theorem dX11_claimed_5 : decode cX11_claimed 5 = .ok (.aload_n 0, 1) := by decide +kernel
theorem dX11_claimed_6 : decode cX11_claimed 6 = .ok (.getfield 387, 3) := by decide +kernel
theorem dX11_claimed_9 : decode cX11_claimed 9 = .ok (.if_icmp .ge 12, 3) := by decide +kernel
theorem dX11_claimed_21 : decode cX11_claimed 21 = .ok (.bipush (-2), 2) := by decide +kernel
theorem dX11_claimed_23 : decode cX11_claimed 23 = .ok (.ireturn, 1) := by decide +kernel
theorem dX11_check_0 : decode cX11_check 0 = .ok (.iload_n 1, 1) := by decide +kernel
theorem dX11_check_1 : decode cX11_check 1 = .ok (.ifCond .lt 11, 3) := by decide +kernel
theorem dX11_check_4 : decode cX11_check 4 = .ok (.iload_n 1, 1) := by decide +kernel
theorem dX11_check_5 : decode cX11_check 5 = .ok (.aload_n 0, 1) := by decide +kernel
theorem dX11_check_6 : decode cX11_check 6 = .ok (.getfield 387, 3) := by decide +kernel
theorem dX11_check_9 : decode cX11_check 9 = .ok (.if_icmp .lt 6, 3) := by decide +kernel
theorem dX11_check_12 : decode cX11_check 12 = .ok (.bipush (-2), 2) := by decide +kernel
theorem dX11_check_14 : decode cX11_check 14 = .ok (.ireturn, 1) := by decide +kernel
set_option maxRecDepth 20000 in
theorem ggX11_act_X11_dueLink : GoodIn wsX11_act wsX11_dueLink := goodIn_r _ [9, 4, 10, 2, 11, 12, 13, 14, 15, 16, 17, 18, 19, 20, 21, 22, 23, 24, 25, 26, 27, 28, 29, 30, 31, 32] (by decide +kernel) (by decide +kernel)
set_option maxRecDepth 20000 in
theorem gX11_act_X11_dueLink : GoodIn wsX11_act (wsV RX11 419 RX11 yX11_dueLink wsX11_dueLink) := goodIn_app (goodIn_of _ (by decide +kernel)) ggX11_act_X11_dueLink
theorem dX11_act_0 : decode cX11_act 0 = .ok (.aload_n 0, 1) := by decide +kernel
theorem dX11_act_1 : decode cX11_act 1 = .ok (.getfield 416, 3) := by decide +kernel
theorem dX11_act_4 : decode cX11_act 4 = .ok (.bipush 100, 2) := by decide +kernel
theorem dX11_act_6 : decode cX11_act 6 = .ok (.if_icmp .lt 6, 3) := by decide +kernel
theorem dX11_act_12 : decode cX11_act 12 = .ok (.aload_n 0, 1) := by decide +kernel
theorem dX11_act_13 : decode cX11_act 13 = .ok (.getfield 416, 3) := by decide +kernel
theorem dX11_act_16 : decode cX11_act 16 = .ok (.iconst 3, 1) := by decide +kernel
theorem dX11_act_17 : decode cX11_act 17 = .ok (.imul, 1) := by decide +kernel
theorem dX11_act_18 : decode cX11_act 18 = .ok (.istore_n 3, 1) := by decide +kernel
theorem dX11_act_19 : decode cX11_act 19 = .ok (.aload_n 0, 1) := by decide +kernel
theorem dX11_act_20 : decode cX11_act 20 = .ok (.getfield 69, 3) := by decide +kernel
theorem dX11_act_23 : decode cX11_act 23 = .ok (.iload_n 3, 1) := by decide +kernel
theorem dX11_act_24 : decode cX11_act 24 = .ok (.iload_n 1, 1) := by decide +kernel
theorem dX11_act_25 : decode cX11_act 25 = .ok (.iastore, 1) := by decide +kernel
theorem dX11_act_26 : decode cX11_act 26 = .ok (.aload_n 0, 1) := by decide +kernel
theorem dX11_act_27 : decode cX11_act 27 = .ok (.getfield 69, 3) := by decide +kernel
theorem dX11_act_30 : decode cX11_act 30 = .ok (.iload_n 3, 1) := by decide +kernel
theorem dX11_act_31 : decode cX11_act 31 = .ok (.iconst 1, 1) := by decide +kernel
theorem dX11_act_32 : decode cX11_act 32 = .ok (.iadd, 1) := by decide +kernel
theorem dX11_act_33 : decode cX11_act 33 = .ok (.iload_n 2, 1) := by decide +kernel
theorem dX11_act_34 : decode cX11_act 34 = .ok (.iastore, 1) := by decide +kernel
theorem dX11_act_35 : decode cX11_act 35 = .ok (.aload_n 0, 1) := by decide +kernel
theorem dX11_act_36 : decode cX11_act 36 = .ok (.getfield 69, 3) := by decide +kernel
theorem dX11_act_39 : decode cX11_act 39 = .ok (.iload_n 3, 1) := by decide +kernel
theorem dX11_act_40 : decode cX11_act 40 = .ok (.iconst 2, 1) := by decide +kernel
theorem dX11_act_41 : decode cX11_act 41 = .ok (.iadd, 1) := by decide +kernel
theorem dX11_act_42 : decode cX11_act 42 = .ok (.aload_n 0, 1) := by decide +kernel
theorem dX11_act_43 : decode cX11_act 43 = .ok (.getfield 82, 3) := by decide +kernel
theorem dX11_act_46 : decode cX11_act 46 = .ok (.iastore, 1) := by decide +kernel
theorem dX11_act_47 : decode cX11_act 47 = .ok (.aload_n 0, 1) := by decide +kernel
theorem dX11_act_48 : decode cX11_act 48 = .ok (.getfield 72, 3) := by decide +kernel
theorem dX11_act_51 : decode cX11_act 51 = .ok (.aload_n 0, 1) := by decide +kernel
theorem dX11_act_52 : decode cX11_act 52 = .ok (.getfield 416, 3) := by decide +kernel
theorem dX11_act_55 : decode cX11_act 55 = .ok (.aload_n 0, 1) := by decide +kernel
theorem dX11_act_56 : decode cX11_act 56 = .ok (.aload_n 0, 1) := by decide +kernel
theorem dX11_act_57 : decode cX11_act 57 = .ok (.getfield 416, 3) := by decide +kernel
theorem dX11_act_60 : decode cX11_act 60 = .ok (.invokevirtual 419, 3) := by decide +kernel
theorem dX11_act_63 : decode cX11_act 63 = .ok (.lastore, 1) := by decide +kernel
theorem dX11_act_64 : decode cX11_act 64 = .ok (.aload_n 0, 1) := by decide +kernel
theorem dX11_act_65 : decode cX11_act 65 = .ok (.dup, 1) := by decide +kernel
theorem dX11_act_66 : decode cX11_act 66 = .ok (.getfield 416, 3) := by decide +kernel
theorem dX11_act_69 : decode cX11_act 69 = .ok (.dup_x1, 1) := by decide +kernel
theorem dX11_act_70 : decode cX11_act 70 = .ok (.iconst 1, 1) := by decide +kernel
theorem dX11_act_71 : decode cX11_act 71 = .ok (.iadd, 1) := by decide +kernel
theorem dX11_act_72 : decode cX11_act 72 = .ok (.putfield 416, 3) := by decide +kernel
theorem dX11_act_75 : decode cX11_act 75 = .ok (.ireturn, 1) := by decide +kernel
theorem dX11_link_0 : decode cX11_link 0 = .ok (.iload_n 1, 1) := by decide +kernel
theorem dX11_link_1 : decode cX11_link 1 = .ok (.ifCond .lt 11, 3) := by decide +kernel
theorem dX11_link_4 : decode cX11_link 4 = .ok (.iload_n 1, 1) := by decide +kernel
theorem dX11_link_5 : decode cX11_link 5 = .ok (.aload_n 0, 1) := by decide +kernel
theorem dX11_link_6 : decode cX11_link 6 = .ok (.getfield 416, 3) := by decide +kernel
theorem dX11_link_9 : decode cX11_link 9 = .ok (.if_icmp .lt 7, 3) := by decide +kernel
theorem dX11_link_12 : decode cX11_link 12 = .ok (.lconst 0, 1) := by decide +kernel
theorem dX11_link_13 : decode cX11_link 13 = .ok (.goto 9, 3) := by decide +kernel
theorem dX11_link_22 : decode cX11_link 22 = .ok (.lreturn, 1) := by decide +kernel
theorem dX11_alter_0 : decode cX11_alter 0 = .ok (.iload_n 1, 1) := by decide +kernel
theorem dX11_alter_1 : decode cX11_alter 1 = .ok (.ifCond .lt 20, 3) := by decide +kernel
theorem dX11_alter_4 : decode cX11_alter 4 = .ok (.iload_n 1, 1) := by decide +kernel
theorem dX11_alter_5 : decode cX11_alter 5 = .ok (.aload_n 0, 1) := by decide +kernel
theorem dX11_alter_6 : decode cX11_alter 6 = .ok (.getfield 416, 3) := by decide +kernel
theorem dX11_alter_9 : decode cX11_alter 9 = .ok (.if_icmp .ge 12, 3) := by decide +kernel
theorem dX11_alter_21 : decode cX11_alter 21 = .ok (.bipush (-2), 2) := by decide +kernel
theorem dX11_alter_23 : decode cX11_alter 23 = .ok (.ireturn, 1) := by decide +kernel
theorem dX11_chain_0 : decode cX11_chain 0 = .ok (.iconst 0, 1) := by decide +kernel
theorem dX11_chain_1 : decode cX11_chain 1 = .ok (.istore_n 1, 1) := by decide +kernel
theorem dX11_chain_2 : decode cX11_chain 2 = .ok (.iload_n 1, 1) := by decide +kernel
theorem dX11_chain_3 : decode cX11_chain 3 = .ok (.aload_n 0, 1) := by decide +kernel
theorem dX11_chain_4 : decode cX11_chain 4 = .ok (.getfield 416, 3) := by decide +kernel
theorem dX11_chain_7 : decode cX11_chain 7 = .ok (.if_icmp .ge 26, 3) := by decide +kernel
theorem dX11_chain_33 : decode cX11_chain 33 = .ok (.iconst (-1), 1) := by decide +kernel
theorem dX11_chain_34 : decode cX11_chain 34 = .ok (.ireturn, 1) := by decide +kernel
theorem dX11_count_0 : decode cX11_count 0 = .ok (.iload_n 1, 1) := by decide +kernel
theorem dX11_count_1 : decode cX11_count 1 = .ok (.tableswitch 111 0 9 #[55, 60, 65, 70, 75, 80, 88, 96, 101, 106], 55) := by decide +kernel
theorem dX11_count_56 : decode cX11_count 56 = .ok (.aload_n 0, 1) := by decide +kernel
theorem dX11_count_57 : decode cX11_count 57 = .ok (.getfield 76, 3) := by decide +kernel
theorem dX11_count_60 : decode cX11_count 60 = .ok (.ireturn, 1) := by decide +kernel
theorem dX11_count_61 : decode cX11_count 61 = .ok (.aload_n 0, 1) := by decide +kernel
theorem dX11_count_62 : decode cX11_count 62 = .ok (.getfield 85, 3) := by decide +kernel
theorem dX11_count_65 : decode cX11_count 65 = .ok (.ireturn, 1) := by decide +kernel
theorem dX11_count_66 : decode cX11_count 66 = .ok (.aload_n 0, 1) := by decide +kernel
theorem dX11_count_67 : decode cX11_count 67 = .ok (.getfield 143, 3) := by decide +kernel
theorem dX11_count_70 : decode cX11_count 70 = .ok (.ireturn, 1) := by decide +kernel
theorem dX11_count_71 : decode cX11_count 71 = .ok (.aload_n 0, 1) := by decide +kernel
theorem dX11_count_72 : decode cX11_count 72 = .ok (.getfield 188, 3) := by decide +kernel
theorem dX11_count_75 : decode cX11_count 75 = .ok (.ireturn, 1) := by decide +kernel
theorem dX11_count_76 : decode cX11_count 76 = .ok (.aload_n 0, 1) := by decide +kernel
theorem dX11_count_77 : decode cX11_count 77 = .ok (.getfield 290, 3) := by decide +kernel
theorem dX11_count_80 : decode cX11_count 80 = .ok (.ireturn, 1) := by decide +kernel
theorem dX11_count_81 : decode cX11_count 81 = .ok (.aload_n 0, 1) := by decide +kernel
theorem dX11_count_82 : decode cX11_count 82 = .ok (.getfield 51, 3) := by decide +kernel
theorem dX11_count_85 : decode cX11_count 85 = .ok (.getfield 338, 3) := by decide +kernel
theorem dX11_count_88 : decode cX11_count 88 = .ok (.ireturn, 1) := by decide +kernel
theorem dX11_count_89 : decode cX11_count 89 = .ok (.aload_n 0, 1) := by decide +kernel
theorem dX11_count_90 : decode cX11_count 90 = .ok (.getfield 58, 3) := by decide +kernel
theorem dX11_count_93 : decode cX11_count 93 = .ok (.getfield 348, 3) := by decide +kernel
theorem dX11_count_96 : decode cX11_count 96 = .ok (.ireturn, 1) := by decide +kernel
theorem dX11_count_97 : decode cX11_count 97 = .ok (.aload_n 0, 1) := by decide +kernel
theorem dX11_count_98 : decode cX11_count 98 = .ok (.getfield 387, 3) := by decide +kernel
theorem dX11_count_101 : decode cX11_count 101 = .ok (.ireturn, 1) := by decide +kernel
theorem dX11_count_102 : decode cX11_count 102 = .ok (.aload_n 0, 1) := by decide +kernel
theorem dX11_count_103 : decode cX11_count 103 = .ok (.getfield 416, 3) := by decide +kernel
theorem dX11_count_106 : decode cX11_count 106 = .ok (.ireturn, 1) := by decide +kernel
theorem dX11_count_107 : decode cX11_count 107 = .ok (.aload_n 0, 1) := by decide +kernel
theorem dX11_count_108 : decode cX11_count 108 = .ok (.getfield 82, 3) := by decide +kernel
theorem dX11_count_111 : decode cX11_count 111 = .ok (.ireturn, 1) := by decide +kernel
theorem dX11_count_112 : decode cX11_count 112 = .ok (.bipush (-2), 2) := by decide +kernel
theorem dX11_count_114 : decode cX11_count 114 = .ok (.ireturn, 1) := by decide +kernel
theorem dX11_pictureAt_0 : decode cX11_pictureAt 0 = .ok (.iload_n 1, 1) := by decide +kernel
theorem dX11_pictureAt_1 : decode cX11_pictureAt 1 = .ok (.ifCond .lt 11, 3) := by decide +kernel
theorem dX11_pictureAt_4 : decode cX11_pictureAt 4 = .ok (.iload_n 1, 1) := by decide +kernel
theorem dX11_pictureAt_5 : decode cX11_pictureAt 5 = .ok (.aload_n 0, 1) := by decide +kernel
theorem dX11_pictureAt_6 : decode cX11_pictureAt 6 = .ok (.getfield 85, 3) := by decide +kernel
theorem dX11_pictureAt_9 : decode cX11_pictureAt 9 = .ok (.if_icmp .lt 7, 3) := by decide +kernel
theorem dX11_pictureAt_12 : decode cX11_pictureAt 12 = .ok (.aconst_null, 1) := by decide +kernel
theorem dX11_pictureAt_13 : decode cX11_pictureAt 13 = .ok (.goto 9, 3) := by decide +kernel
theorem dX11_pictureAt_22 : decode cX11_pictureAt 22 = .ok (.areturn, 1) := by decide +kernel
theorem dX11_volumeAt_0 : decode cX11_volumeAt 0 = .ok (.iload_n 1, 1) := by decide +kernel
theorem dX11_volumeAt_1 : decode cX11_volumeAt 1 = .ok (.ifCond .lt 11, 3) := by decide +kernel
theorem dX11_volumeAt_4 : decode cX11_volumeAt 4 = .ok (.iload_n 1, 1) := by decide +kernel
theorem dX11_volumeAt_5 : decode cX11_volumeAt 5 = .ok (.aload_n 0, 1) := by decide +kernel
theorem dX11_volumeAt_6 : decode cX11_volumeAt 6 = .ok (.getfield 143, 3) := by decide +kernel
theorem dX11_volumeAt_9 : decode cX11_volumeAt 9 = .ok (.if_icmp .lt 7, 3) := by decide +kernel
theorem dX11_volumeAt_12 : decode cX11_volumeAt 12 = .ok (.aconst_null, 1) := by decide +kernel
theorem dX11_volumeAt_13 : decode cX11_volumeAt 13 = .ok (.goto 9, 3) := by decide +kernel
theorem dX11_volumeAt_22 : decode cX11_volumeAt 22 = .ok (.areturn, 1) := by decide +kernel
theorem dX11_maybeVolume_0 : decode cX11_maybeVolume 0 = .ok (.iload_n 1, 1) := by decide +kernel
theorem dX11_maybeVolume_1 : decode cX11_maybeVolume 1 = .ok (.iconst (-1), 1) := by decide +kernel
theorem dX11_maybeVolume_2 : decode cX11_maybeVolume 2 = .ok (.if_icmp .eq 15, 3) := by decide +kernel
theorem dX11_maybeVolume_5 : decode cX11_maybeVolume 5 = .ok (.iload_n 1, 1) := by decide +kernel
theorem dX11_maybeVolume_6 : decode cX11_maybeVolume 6 = .ok (.ifCond .lt 15, 3) := by decide +kernel
theorem dX11_maybeVolume_9 : decode cX11_maybeVolume 9 = .ok (.iload_n 1, 1) := by decide +kernel
theorem dX11_maybeVolume_10 : decode cX11_maybeVolume 10 = .ok (.aload_n 0, 1) := by decide +kernel
theorem dX11_maybeVolume_11 : decode cX11_maybeVolume 11 = .ok (.getfield 143, 3) := by decide +kernel
theorem dX11_maybeVolume_14 : decode cX11_maybeVolume 14 = .ok (.if_icmp .ge 7, 3) := by decide +kernel
theorem dX11_maybeVolume_17 : decode cX11_maybeVolume 17 = .ok (.iconst 1, 1) := by decide +kernel
theorem dX11_maybeVolume_18 : decode cX11_maybeVolume 18 = .ok (.goto 4, 3) := by decide +kernel
theorem dX11_maybeVolume_21 : decode cX11_maybeVolume 21 = .ok (.iconst 0, 1) := by decide +kernel
theorem dX11_maybeVolume_22 : decode cX11_maybeVolume 22 = .ok (.ireturn, 1) := by decide +kernel
theorem dX11_treeAt_0 : decode cX11_treeAt 0 = .ok (.iload_n 1, 1) := by decide +kernel
theorem dX11_treeAt_1 : decode cX11_treeAt 1 = .ok (.ifCond .lt 11, 3) := by decide +kernel
theorem dX11_treeAt_4 : decode cX11_treeAt 4 = .ok (.iload_n 1, 1) := by decide +kernel
theorem dX11_treeAt_5 : decode cX11_treeAt 5 = .ok (.aload_n 0, 1) := by decide +kernel
theorem dX11_treeAt_6 : decode cX11_treeAt 6 = .ok (.getfield 188, 3) := by decide +kernel
theorem dX11_treeAt_9 : decode cX11_treeAt 9 = .ok (.if_icmp .lt 7, 3) := by decide +kernel
theorem dX11_treeAt_12 : decode cX11_treeAt 12 = .ok (.aconst_null, 1) := by decide +kernel
theorem dX11_treeAt_13 : decode cX11_treeAt 13 = .ok (.goto 9, 3) := by decide +kernel
theorem dX11_treeAt_22 : decode cX11_treeAt 22 = .ok (.areturn, 1) := by decide +kernel
theorem dX11_openingAt_0 : decode cX11_openingAt 0 = .ok (.iload_n 1, 1) := by decide +kernel
theorem dX11_openingAt_1 : decode cX11_openingAt 1 = .ok (.ifCond .lt 11, 3) := by decide +kernel
theorem dX11_openingAt_4 : decode cX11_openingAt 4 = .ok (.iload_n 1, 1) := by decide +kernel
theorem dX11_openingAt_5 : decode cX11_openingAt 5 = .ok (.aload_n 0, 1) := by decide +kernel
theorem dX11_openingAt_6 : decode cX11_openingAt 6 = .ok (.getfield 290, 3) := by decide +kernel
theorem dX11_openingAt_9 : decode cX11_openingAt 9 = .ok (.if_icmp .lt 7, 3) := by decide +kernel
theorem dX11_openingAt_12 : decode cX11_openingAt 12 = .ok (.aconst_null, 1) := by decide +kernel
theorem dX11_openingAt_13 : decode cX11_openingAt 13 = .ok (.goto 9, 3) := by decide +kernel
theorem dX11_openingAt_22 : decode cX11_openingAt 22 = .ok (.areturn, 1) := by decide +kernel
theorem dX11_itemIn_0 : decode cX11_itemIn 0 = .ok (.aload_n 0, 1) := by decide +kernel
theorem dX11_itemIn_1 : decode cX11_itemIn 1 = .ok (.ifnull 15, 3) := by decide +kernel
theorem dX11_itemIn_16 : decode cX11_itemIn 16 = .ok (.aconst_null, 1) := by decide +kernel
theorem dX11_itemIn_17 : decode cX11_itemIn 17 = .ok (.goto 9, 3) := by decide +kernel
theorem dX11_itemIn_26 : decode cX11_itemIn 26 = .ok (.areturn, 1) := by decide +kernel
theorem dX11_dueLink_0 : decode cX11_dueLink 0 = .ok (.iload_n 1, 1) := by decide +kernel
theorem dX11_dueLink_1 : decode cX11_dueLink 1 = .ok (.ifCond .lt 9, 3) := by decide +kernel
theorem dX11_dueLink_4 : decode cX11_dueLink 4 = .ok (.iload_n 1, 1) := by decide +kernel
theorem dX11_dueLink_5 : decode cX11_dueLink 5 = .ok (.bipush 100, 2) := by decide +kernel
theorem dX11_dueLink_7 : decode cX11_dueLink 7 = .ok (.if_icmp .lt 5, 3) := by decide +kernel
theorem dX11_dueLink_12 : decode cX11_dueLink 12 = .ok (.iload_n 1, 1) := by decide +kernel
theorem dX11_dueLink_13 : decode cX11_dueLink 13 = .ok (.ifCond .ne 7, 3) := by decide +kernel
theorem dX11_dueLink_16 : decode cX11_dueLink 16 = .ok (.lconst 1, 1) := by decide +kernel
theorem dX11_dueLink_17 : decode cX11_dueLink 17 = .ok (.goto 11, 3) := by decide +kernel
theorem dX11_dueLink_28 : decode cX11_dueLink 28 = .ok (.ldc2_w 426, 3) := by decide +kernel
theorem dX11_dueLink_31 : decode cX11_dueLink 31 = .ok (.lmul, 1) := by decide +kernel
theorem dX11_dueLink_32 : decode cX11_dueLink 32 = .ok (.aload_n 0, 1) := by decide +kernel
theorem dX11_dueLink_33 : decode cX11_dueLink 33 = .ok (.getfield 69, 3) := by decide +kernel
theorem dX11_dueLink_36 : decode cX11_dueLink 36 = .ok (.iload_n 1, 1) := by decide +kernel
theorem dX11_dueLink_37 : decode cX11_dueLink 37 = .ok (.iconst 3, 1) := by decide +kernel
theorem dX11_dueLink_38 : decode cX11_dueLink 38 = .ok (.imul, 1) := by decide +kernel
theorem dX11_dueLink_39 : decode cX11_dueLink 39 = .ok (.iaload, 1) := by decide +kernel
theorem dX11_dueLink_40 : decode cX11_dueLink 40 = .ok (.i2l, 1) := by decide +kernel
theorem dX11_dueLink_41 : decode cX11_dueLink 41 = .ok (.ladd, 1) := by decide +kernel
theorem dX11_dueLink_42 : decode cX11_dueLink 42 = .ok (.lstore_n 2, 1) := by decide +kernel
theorem dX11_dueLink_43 : decode cX11_dueLink 43 = .ok (.lload_n 2, 1) := by decide +kernel
theorem dX11_dueLink_44 : decode cX11_dueLink 44 = .ok (.lload_n 2, 1) := by decide +kernel
theorem dX11_dueLink_45 : decode cX11_dueLink 45 = .ok (.bipush 29, 2) := by decide +kernel
theorem dX11_dueLink_47 : decode cX11_dueLink 47 = .ok (.lushr, 1) := by decide +kernel
theorem dX11_dueLink_48 : decode cX11_dueLink 48 = .ok (.lxor, 1) := by decide +kernel
theorem dX11_dueLink_49 : decode cX11_dueLink 49 = .ok (.ldc2_w 428, 3) := by decide +kernel
theorem dX11_dueLink_52 : decode cX11_dueLink 52 = .ok (.lmul, 1) := by decide +kernel
theorem dX11_dueLink_53 : decode cX11_dueLink 53 = .ok (.aload_n 0, 1) := by decide +kernel
theorem dX11_dueLink_54 : decode cX11_dueLink 54 = .ok (.getfield 69, 3) := by decide +kernel
theorem dX11_dueLink_57 : decode cX11_dueLink 57 = .ok (.iload_n 1, 1) := by decide +kernel
theorem dX11_dueLink_58 : decode cX11_dueLink 58 = .ok (.iconst 3, 1) := by decide +kernel
theorem dX11_dueLink_59 : decode cX11_dueLink 59 = .ok (.imul, 1) := by decide +kernel
theorem dX11_dueLink_60 : decode cX11_dueLink 60 = .ok (.iconst 1, 1) := by decide +kernel
theorem dX11_dueLink_61 : decode cX11_dueLink 61 = .ok (.iadd, 1) := by decide +kernel
theorem dX11_dueLink_62 : decode cX11_dueLink 62 = .ok (.iaload, 1) := by decide +kernel
theorem dX11_dueLink_63 : decode cX11_dueLink 63 = .ok (.i2l, 1) := by decide +kernel
theorem dX11_dueLink_64 : decode cX11_dueLink 64 = .ok (.ladd, 1) := by decide +kernel
theorem dX11_dueLink_65 : decode cX11_dueLink 65 = .ok (.lstore_n 2, 1) := by decide +kernel
theorem dX11_dueLink_66 : decode cX11_dueLink 66 = .ok (.lload_n 2, 1) := by decide +kernel
theorem dX11_dueLink_67 : decode cX11_dueLink 67 = .ok (.lload_n 2, 1) := by decide +kernel
theorem dX11_dueLink_68 : decode cX11_dueLink 68 = .ok (.bipush 32, 2) := by decide +kernel
theorem dX11_dueLink_70 : decode cX11_dueLink 70 = .ok (.lushr, 1) := by decide +kernel
theorem dX11_dueLink_71 : decode cX11_dueLink 71 = .ok (.lxor, 1) := by decide +kernel
theorem dX11_dueLink_72 : decode cX11_dueLink 72 = .ok (.ldc2_w 430, 3) := by decide +kernel
theorem dX11_dueLink_75 : decode cX11_dueLink 75 = .ok (.lmul, 1) := by decide +kernel
theorem dX11_dueLink_76 : decode cX11_dueLink 76 = .ok (.aload_n 0, 1) := by decide +kernel
theorem dX11_dueLink_77 : decode cX11_dueLink 77 = .ok (.getfield 69, 3) := by decide +kernel
theorem dX11_dueLink_80 : decode cX11_dueLink 80 = .ok (.iload_n 1, 1) := by decide +kernel
theorem dX11_dueLink_81 : decode cX11_dueLink 81 = .ok (.iconst 3, 1) := by decide +kernel
theorem dX11_dueLink_82 : decode cX11_dueLink 82 = .ok (.imul, 1) := by decide +kernel
theorem dX11_dueLink_83 : decode cX11_dueLink 83 = .ok (.iconst 2, 1) := by decide +kernel
theorem dX11_dueLink_84 : decode cX11_dueLink 84 = .ok (.iadd, 1) := by decide +kernel
theorem dX11_dueLink_85 : decode cX11_dueLink 85 = .ok (.iaload, 1) := by decide +kernel
theorem dX11_dueLink_86 : decode cX11_dueLink 86 = .ok (.i2l, 1) := by decide +kernel
theorem dX11_dueLink_87 : decode cX11_dueLink 87 = .ok (.ladd, 1) := by decide +kernel
theorem dX11_dueLink_88 : decode cX11_dueLink 88 = .ok (.lstore_n 2, 1) := by decide +kernel
theorem dX11_dueLink_89 : decode cX11_dueLink 89 = .ok (.lload_n 2, 1) := by decide +kernel
theorem dX11_dueLink_90 : decode cX11_dueLink 90 = .ok (.lload_n 2, 1) := by decide +kernel
theorem dX11_dueLink_91 : decode cX11_dueLink 91 = .ok (.bipush 31, 2) := by decide +kernel
theorem dX11_dueLink_93 : decode cX11_dueLink 93 = .ok (.lushr, 1) := by decide +kernel
theorem dX11_dueLink_94 : decode cX11_dueLink 94 = .ok (.lxor, 1) := by decide +kernel
theorem dX11_dueLink_95 : decode cX11_dueLink 95 = .ok (.lreturn, 1) := by decide +kernel
theorem dX11_packedFault_0 : decode cX11_packedFault 0 = .ok (.iload_n 1, 1) := by decide +kernel
theorem dX11_packedFault_1 : decode cX11_packedFault 1 = .ok (.iconst 1, 1) := by decide +kernel
theorem dX11_packedFault_2 : decode cX11_packedFault 2 = .ok (.if_icmp .lt 11, 3) := by decide +kernel
theorem dX11_packedFault_13 : decode cX11_packedFault 13 = .ok (.iconst 0, 1) := by decide +kernel
theorem dX11_packedFault_14 : decode cX11_packedFault 14 = .ok (.ireturn, 1) := by decide +kernel
theorem dX12_in_0 : decode cX12_in 0 = .ok (.lload_n 0, 1) := by decide +kernel
theorem dX12_in_1 : decode cX12_in 1 = .ok (.lload_n 2, 1) := by decide +kernel
theorem dX12_in_2 : decode cX12_in 2 = .ok (.lcmp, 1) := by decide +kernel
theorem dX12_in_3 : decode cX12_in 3 = .ok (.ifCond .lt 14, 3) := by decide +kernel
theorem dX12_in_6 : decode cX12_in 6 = .ok (.lload_n 0, 1) := by decide +kernel
theorem dX12_in_7 : decode cX12_in 7 = .ok (.lload 4, 2) := by decide +kernel
theorem dX12_in_9 : decode cX12_in 9 = .ok (.lcmp, 1) := by decide +kernel
theorem dX12_in_10 : decode cX12_in 10 = .ok (.ifCond .gt 7, 3) := by decide +kernel
theorem dX12_in_13 : decode cX12_in 13 = .ok (.iconst 1, 1) := by decide +kernel
theorem dX12_in_14 : decode cX12_in 14 = .ok (.goto 4, 3) := by decide +kernel
theorem dX12_in_17 : decode cX12_in 17 = .ok (.iconst 0, 1) := by decide +kernel
theorem dX12_in_18 : decode cX12_in 18 = .ok (.ireturn, 1) := by decide +kernel
set_option maxRecDepth 20000 in
theorem ggX12_collect_X12_in : GoodIn wsX12_collect wsX12_in := goodIn_r _ [8] (by decide +kernel) (by decide +kernel)
set_option maxRecDepth 20000 in
theorem gX12_collect_X12_in : GoodIn wsX12_collect (va_wsS RX12 372 yX12_in wsX12_in) := goodIn_app (goodIn_of _ (by decide +kernel)) ggX12_collect_X12_in
theorem dX12_collect_0 : decode cX12_collect 0 = .ok (.iload_n 3, 1) := by decide +kernel
theorem dX12_collect_1 : decode cX12_collect 1 = .ok (.i2l, 1) := by decide +kernel
theorem dX12_collect_2 : decode cX12_collect 2 = .ok (.lconst 1, 1) := by decide +kernel
theorem dX12_collect_3 : decode cX12_collect 3 = .ok (.ldc2_w 370, 3) := by decide +kernel
theorem dX12_collect_6 : decode cX12_collect 6 = .ok (.invokestatic 372, 3) := by decide +kernel
theorem dX12_collect_9 : decode cX12_collect 9 = .ok (.ifCond .ne 6, 3) := by decide +kernel
theorem dX12_collect_12 : decode cX12_collect 12 = .ok (.bipush (-2), 2) := by decide +kernel
theorem dX12_collect_14 : decode cX12_collect 14 = .ok (.ireturn, 1) := by decide +kernel
theorem dX12_collect_15 : decode cX12_collect 15 = .ok (.aload_n 0, 1) := by decide +kernel
theorem dX12_collect_16 : decode cX12_collect 16 = .ok (.getfield 376, 3) := by decide +kernel
theorem dX12_collect_19 : decode cX12_collect 19 = .ok (.iload_n 3, 1) := by decide +kernel
theorem dX12_collect_20 : decode cX12_collect 20 = .ok (.iadd, 1) := by decide +kernel
theorem dX12_collect_21 : decode cX12_collect 21 = .ok (.sipush 4000, 3) := by decide +kernel
theorem dX12_collect_24 : decode cX12_collect 24 = .ok (.if_icmp .le 6, 3) := by decide +kernel
theorem dX12_collect_30 : decode cX12_collect 30 = .ok (.iconst 0, 1) := by decide +kernel
theorem dX12_collect_31 : decode cX12_collect 31 = .ok (.istore 4, 2) := by decide +kernel
theorem dX12_collect_33 : decode cX12_collect 33 = .ok (.iload 4, 2) := by decide +kernel
theorem dX12_collect_35 : decode cX12_collect 35 = .ok (.iload_n 3, 1) := by decide +kernel
theorem dX12_collect_36 : decode cX12_collect 36 = .ok (.if_icmp .ge 40, 3) := by decide +kernel
theorem dX12_collect_39 : decode cX12_collect 39 = .ok (.aload_n 0, 1) := by decide +kernel
theorem dX12_collect_40 : decode cX12_collect 40 = .ok (.getfield 7, 3) := by decide +kernel
theorem dX12_collect_43 : decode cX12_collect 43 = .ok (.aload_n 0, 1) := by decide +kernel
theorem dX12_collect_44 : decode cX12_collect 44 = .ok (.getfield 376, 3) := by decide +kernel
theorem dX12_collect_47 : decode cX12_collect 47 = .ok (.lload_n 1, 1) := by decide +kernel
theorem dX12_collect_48 : decode cX12_collect 48 = .ok (.bipush 8, 2) := by decide +kernel
theorem dX12_collect_50 : decode cX12_collect 50 = .ok (.iload 4, 2) := by decide +kernel
theorem dX12_collect_52 : decode cX12_collect 52 = .ok (.imul, 1) := by decide +kernel
theorem dX12_collect_53 : decode cX12_collect 53 = .ok (.lshr, 1) := by decide +kernel
theorem dX12_collect_54 : decode cX12_collect 54 = .ok (.ldc2_w 379, 3) := by decide +kernel
theorem dX12_collect_57 : decode cX12_collect 57 = .ok (.land, 1) := by decide +kernel
theorem dX12_collect_58 : decode cX12_collect 58 = .ok (.l2i, 1) := by decide +kernel
theorem dX12_collect_59 : decode cX12_collect 59 = .ok (.iastore, 1) := by decide +kernel
theorem dX12_collect_60 : decode cX12_collect 60 = .ok (.aload_n 0, 1) := by decide +kernel
theorem dX12_collect_61 : decode cX12_collect 61 = .ok (.dup, 1) := by decide +kernel
theorem dX12_collect_62 : decode cX12_collect 62 = .ok (.getfield 376, 3) := by decide +kernel
theorem dX12_collect_65 : decode cX12_collect 65 = .ok (.iconst 1, 1) := by decide +kernel
theorem dX12_collect_66 : decode cX12_collect 66 = .ok (.iadd, 1) := by decide +kernel
theorem dX12_collect_67 : decode cX12_collect 67 = .ok (.putfield 376, 3) := by decide +kernel
theorem dX12_collect_70 : decode cX12_collect 70 = .ok (.iinc 4 1, 3) := by decide +kernel
theorem dX12_collect_73 : decode cX12_collect 73 = .ok (.goto (-40), 3) := by decide +kernel
theorem dX12_collect_76 : decode cX12_collect 76 = .ok (.aload_n 0, 1) := by decide +kernel
theorem dX12_collect_77 : decode cX12_collect 77 = .ok (.getfield 376, 3) := by decide +kernel
theorem dX12_collect_80 : decode cX12_collect 80 = .ok (.ireturn, 1) := by decide +kernel
theorem dX12_forget_0 : decode cX12_forget 0 = .ok (.aload_n 0, 1) := by decide +kernel
theorem dX12_forget_1 : decode cX12_forget 1 = .ok (.getfield 376, 3) := by decide +kernel
theorem dX12_forget_4 : decode cX12_forget 4 = .ok (.istore_n 1, 1) := by decide +kernel
theorem dX12_forget_5 : decode cX12_forget 5 = .ok (.aload_n 0, 1) := by decide +kernel
theorem dX12_forget_6 : decode cX12_forget 6 = .ok (.iconst 0, 1) := by decide +kernel
theorem dX12_forget_7 : decode cX12_forget 7 = .ok (.putfield 376, 3) := by decide +kernel
theorem dX12_forget_10 : decode cX12_forget 10 = .ok (.iload_n 1, 1) := by decide +kernel
theorem dX12_forget_11 : decode cX12_forget 11 = .ok (.ireturn, 1) := by decide +kernel
set_option maxRecDepth 20000 in
theorem ggX12_tick_X12_in : GoodIn wsX12_tick wsX12_in := goodIn_r _ [7] (by decide +kernel) (by decide +kernel)
set_option maxRecDepth 20000 in
theorem gX12_tick_X12_in : GoodIn wsX12_tick (va_wsS RX12 372 yX12_in wsX12_in) := goodIn_app (goodIn_of _ (by decide +kernel)) ggX12_tick_X12_in
theorem dX12_tick_0 : decode cX12_tick 0 = .ok (.iload_n 1, 1) := by decide +kernel
theorem dX12_tick_1 : decode cX12_tick 1 = .ok (.i2l, 1) := by decide +kernel
theorem dX12_tick_2 : decode cX12_tick 2 = .ok (.lconst 0, 1) := by decide +kernel
theorem dX12_tick_3 : decode cX12_tick 3 = .ok (.ldc2_w 381, 3) := by decide +kernel
theorem dX12_tick_6 : decode cX12_tick 6 = .ok (.invokestatic 372, 3) := by decide +kernel
theorem dX12_tick_9 : decode cX12_tick 9 = .ok (.ifCond .eq 18, 3) := by decide +kernel
theorem dX12_tick_12 : decode cX12_tick 12 = .ok (.aload_n 0, 1) := by decide +kernel
theorem dX12_tick_13 : decode cX12_tick 13 = .ok (.getfield 383, 3) := by decide +kernel
theorem dX12_tick_16 : decode cX12_tick 16 = .ok (.i2l, 1) := by decide +kernel
theorem dX12_tick_17 : decode cX12_tick 17 = .ok (.iload_n 1, 1) := by decide +kernel
theorem dX12_tick_18 : decode cX12_tick 18 = .ok (.i2l, 1) := by decide +kernel
theorem dX12_tick_19 : decode cX12_tick 19 = .ok (.ladd, 1) := by decide +kernel
theorem dX12_tick_20 : decode cX12_tick 20 = .ok (.ldc2_w 386, 3) := by decide +kernel
theorem dX12_tick_23 : decode cX12_tick 23 = .ok (.lcmp, 1) := by decide +kernel
theorem dX12_tick_24 : decode cX12_tick 24 = .ok (.ifCond .le 6, 3) := by decide +kernel
theorem dX12_tick_27 : decode cX12_tick 27 = .ok (.bipush (-2), 2) := by decide +kernel
theorem dX12_tick_29 : decode cX12_tick 29 = .ok (.ireturn, 1) := by decide +kernel
theorem dX12_tick_30 : decode cX12_tick 30 = .ok (.aload_n 0, 1) := by decide +kernel
theorem dX12_tick_31 : decode cX12_tick 31 = .ok (.dup, 1) := by decide +kernel
theorem dX12_tick_32 : decode cX12_tick 32 = .ok (.getfield 383, 3) := by decide +kernel
theorem dX12_tick_35 : decode cX12_tick 35 = .ok (.iload_n 1, 1) := by decide +kernel
theorem dX12_tick_36 : decode cX12_tick 36 = .ok (.iadd, 1) := by decide +kernel
theorem dX12_tick_37 : decode cX12_tick 37 = .ok (.putfield 383, 3) := by decide +kernel
theorem dX12_tick_40 : decode cX12_tick 40 = .ok (.aload_n 0, 1) := by decide +kernel
theorem dX12_tick_41 : decode cX12_tick 41 = .ok (.getfield 383, 3) := by decide +kernel
theorem dX12_tick_44 : decode cX12_tick 44 = .ok (.ireturn, 1) := by decide +kernel
set_option maxRecDepth 20000 in
theorem ggX12_isPicture_X12_in : GoodIn wsX12_isPicture wsX12_in := goodIn_r _ [5] (by decide +kernel) (by decide +kernel)
set_option maxRecDepth 20000 in
theorem gX12_isPicture_X12_in : GoodIn wsX12_isPicture (va_wsS RX12 372 yX12_in wsX12_in) := goodIn_app (goodIn_of _ (by decide +kernel)) ggX12_isPicture_X12_in
theorem dX12_isPicture_0 : decode cX12_isPicture 0 = .ok (.iload_n 1, 1) := by decide +kernel
theorem dX12_isPicture_1 : decode cX12_isPicture 1 = .ok (.i2l, 1) := by decide +kernel
theorem dX12_isPicture_2 : decode cX12_isPicture 2 = .ok (.lconst 0, 1) := by decide +kernel
theorem dX12_isPicture_3 : decode cX12_isPicture 3 = .ok (.aload_n 0, 1) := by decide +kernel
theorem dX12_isPicture_4 : decode cX12_isPicture 4 = .ok (.getfield 393, 3) := by decide +kernel
theorem dX12_isPicture_7 : decode cX12_isPicture 7 = .ok (.iconst 1, 1) := by decide +kernel
theorem dX12_isPicture_8 : decode cX12_isPicture 8 = .ok (.isub, 1) := by decide +kernel
theorem dX12_isPicture_9 : decode cX12_isPicture 9 = .ok (.i2l, 1) := by decide +kernel
theorem dX12_isPicture_10 : decode cX12_isPicture 10 = .ok (.invokestatic 372, 3) := by decide +kernel
theorem dX12_isPicture_13 : decode cX12_isPicture 13 = .ok (.ireturn, 1) := by decide +kernel
set_option maxRecDepth 20000 in
theorem ggX12_isSector_X12_isPicture : GoodIn wsX12_isSector wsX12_isPicture := goodIn_r _ [6, 7, 8, 9, 5, 10, 11, 12, 13, 14, 15, 16, 17, 18, 19, 20, 21, 22, 23, 24, 25, 26, 27, 28, 29, 30, 31, 32, 33, 34, 35, 36, 37, 38, 39, 40, 41, 42, 43, 44, 45, 46, 47, 48, 49, 50, 51, 52, 53, 54, 55, 56, 57, 58, 59, 60, 61, 62, 63, 64, 65, 66, 67, 68, 69, 70, 71, 72, 73, 74, 75, 76, 77, 78, 79, 80, 81, 82, 83, 84, 85, 86, 87, 88, 89, 90, 91, 92, 93, 94, 95, 96, 97, 98, 99, 100, 101, 102, 103, 104, 105, 106, 107, 108, 109, 110, 111, 112, 113, 114, 115, 116, 117, 118, 119, 120, 121, 122, 123, 124, 125, 126, 127, 128, 129, 130, 131, 132, 133, 134, 135, 136, 137, 138, 139, 140, 141, 142, 143, 144, 145, 146, 147, 148, 149, 150, 151, 152, 153, 154, 155, 156, 157, 158, 159, 160, 161, 162, 163, 164, 165, 166, 167, 168, 169, 170, 171, 172, 173, 174, 175, 176, 177, 178, 179, 180, 181, 182] (by decide +kernel) (by decide +kernel)
set_option maxRecDepth 20000 in
theorem gX12_isSector_X12_isPicture : GoodIn wsX12_isSector (wsV RX12 396 RX12 yX12_isPicture wsX12_isPicture) := goodIn_app (goodIn_of _ (by decide +kernel)) ggX12_isSector_X12_isPicture
theorem dX12_isSector_0 : decode cX12_isSector 0 = .ok (.aload_n 0, 1) := by decide +kernel
theorem dX12_isSector_1 : decode cX12_isSector 1 = .ok (.iload_n 1, 1) := by decide +kernel
theorem dX12_isSector_2 : decode cX12_isSector 2 = .ok (.invokevirtual 396, 3) := by decide +kernel
theorem dX12_isSector_5 : decode cX12_isSector 5 = .ok (.ifCond .eq 25, 3) := by decide +kernel
theorem dX12_isSector_30 : decode cX12_isSector 30 = .ok (.iconst 0, 1) := by decide +kernel
theorem dX12_isSector_31 : decode cX12_isSector 31 = .ok (.ireturn, 1) := by decide +kernel
set_option maxRecDepth 20000 in
theorem ggX12_blank_X12_in : GoodIn wsX12_blank wsX12_in := goodIn_r _ [6] (by decide +kernel) (by decide +kernel)
set_option maxRecDepth 20000 in
theorem gX12_blank_X12_in : GoodIn wsX12_blank (va_wsS RX12 372 yX12_in wsX12_in) := goodIn_app (goodIn_of _ (by decide +kernel)) ggX12_blank_X12_in
set_option maxRecDepth 20000 in
theorem ggX12_blank_X12_begin : GoodIn wsX12_blank wsX12_begin := goodIn_r _ [10, 2, 11, 12, 13, 14, 15, 16, 17, 18, 19, 20, 21, 22, 23, 24, 25, 26, 27, 28, 29, 30, 31, 32, 33, 34, 35, 36, 37, 38, 39, 40, 41, 42, 43, 44, 45, 46, 47, 48, 49, 50, 51, 52, 53, 54, 55, 56, 57, 58, 59, 60, 61, 62, 63, 64, 65, 66, 67, 68, 69, 70, 71, 72, 73, 74, 75, 76, 77, 78, 79, 80, 81, 82, 83, 84, 85, 86, 87, 88, 89, 90, 91, 92, 93, 94, 95, 96, 97, 98, 99, 100, 101, 102, 103, 104, 105, 106, 107, 108, 109, 110, 111, 112, 113, 114, 115, 116, 117, 118, 119, 120, 121, 122, 123, 124, 125, 126, 127, 128, 129, 130, 131, 132, 133, 134, 135, 136, 137, 138, 139, 140, 141, 142, 143, 144, 145, 146, 147, 148, 149, 150, 151, 152, 153, 154, 155, 156, 157, 158, 159, 160, 161, 162, 163, 164, 165, 166, 167, 168, 169, 170, 171, 172, 173, 174, 175, 176, 177, 178, 179, 180, 181, 182, 183, 184, 185] (by decide +kernel) (by decide +kernel)
set_option maxRecDepth 20000 in
theorem gX12_blank_X12_begin : GoodIn wsX12_blank (wsV RX12 402 RX12 yX12_begin wsX12_begin) := goodIn_app (goodIn_of _ (by decide +kernel)) ggX12_blank_X12_begin
theorem dX12_blank_0 : decode cX12_blank 0 = .ok (.iload_n 1, 1) := by decide +kernel
theorem dX12_blank_1 : decode cX12_blank 1 = .ok (.i2l, 1) := by decide +kernel
theorem dX12_blank_2 : decode cX12_blank 2 = .ok (.lconst 1, 1) := by decide +kernel
theorem dX12_blank_3 : decode cX12_blank 3 = .ok (.ldc2_w 400, 3) := by decide +kernel
theorem dX12_blank_6 : decode cX12_blank 6 = .ok (.invokestatic 372, 3) := by decide +kernel
theorem dX12_blank_9 : decode cX12_blank 9 = .ok (.ifCond .ne 6, 3) := by decide +kernel
theorem dX12_blank_12 : decode cX12_blank 12 = .ok (.bipush (-2), 2) := by decide +kernel
theorem dX12_blank_14 : decode cX12_blank 14 = .ok (.ireturn, 1) := by decide +kernel
theorem dX12_blank_15 : decode cX12_blank 15 = .ok (.aload_n 0, 1) := by decide +kernel
theorem dX12_blank_16 : decode cX12_blank 16 = .ok (.getfield 393, 3) := by decide +kernel
theorem dX12_blank_19 : decode cX12_blank 19 = .ok (.bipush 6, 2) := by decide +kernel
theorem dX12_blank_21 : decode cX12_blank 21 = .ok (.if_icmp .ne 6, 3) := by decide +kernel
theorem dX12_blank_27 : decode cX12_blank 27 = .ok (.aload_n 0, 1) := by decide +kernel
theorem dX12_blank_28 : decode cX12_blank 28 = .ok (.iload_n 1, 1) := by decide +kernel
theorem dX12_blank_29 : decode cX12_blank 29 = .ok (.invokevirtual 402, 3) := by decide +kernel
theorem dX12_blank_32 : decode cX12_blank 32 = .ok (.ireturn, 1) := by decide +kernel
theorem dX12_begin_0 : decode cX12_begin 0 = .ok (.aload_n 0, 1) := by decide +kernel
theorem dX12_begin_1 : decode cX12_begin 1 = .ok (.getfield 393, 3) := by decide +kernel
theorem dX12_begin_4 : decode cX12_begin 4 = .ok (.istore_n 2, 1) := by decide +kernel
theorem dX12_begin_5 : decode cX12_begin 5 = .ok (.aload_n 0, 1) := by decide +kernel
theorem dX12_begin_6 : decode cX12_begin 6 = .ok (.getfield 13, 3) := by decide +kernel
theorem dX12_begin_9 : decode cX12_begin 9 = .ok (.iload_n 2, 1) := by decide +kernel
theorem dX12_begin_10 : decode cX12_begin 10 = .ok (.iload_n 1, 1) := by decide +kernel
theorem dX12_begin_11 : decode cX12_begin 11 = .ok (.iastore, 1) := by decide +kernel
theorem dX12_begin_12 : decode cX12_begin 12 = .ok (.iconst 0, 1) := by decide +kernel
theorem dX12_begin_13 : decode cX12_begin 13 = .ok (.istore_n 3, 1) := by decide +kernel
theorem dX12_begin_14 : decode cX12_begin 14 = .ok (.iload_n 3, 1) := by decide +kernel
theorem dX12_begin_15 : decode cX12_begin 15 = .ok (.sipush 8192, 3) := by decide +kernel
theorem dX12_begin_18 : decode cX12_begin 18 = .ok (.if_icmp .ge 22, 3) := by decide +kernel
theorem dX12_begin_21 : decode cX12_begin 21 = .ok (.aload_n 0, 1) := by decide +kernel
theorem dX12_begin_22 : decode cX12_begin 22 = .ok (.getfield 17, 3) := by decide +kernel
theorem dX12_begin_25 : decode cX12_begin 25 = .ok (.sipush 8192, 3) := by decide +kernel
theorem dX12_begin_28 : decode cX12_begin 28 = .ok (.iload_n 2, 1) := by decide +kernel
theorem dX12_begin_29 : decode cX12_begin 29 = .ok (.imul, 1) := by decide +kernel
theorem dX12_begin_30 : decode cX12_begin 30 = .ok (.iload_n 3, 1) := by decide +kernel
theorem dX12_begin_31 : decode cX12_begin 31 = .ok (.iadd, 1) := by decide +kernel
theorem dX12_begin_32 : decode cX12_begin 32 = .ok (.iconst 0, 1) := by decide +kernel
theorem dX12_begin_33 : decode cX12_begin 33 = .ok (.iastore, 1) := by decide +kernel
theorem dX12_begin_34 : decode cX12_begin 34 = .ok (.iinc 3 1, 3) := by decide +kernel
theorem dX12_begin_37 : decode cX12_begin 37 = .ok (.goto (-23), 3) := by decide +kernel
theorem dX12_begin_40 : decode cX12_begin 40 = .ok (.iconst 0, 1) := by decide +kernel
theorem dX12_begin_41 : decode cX12_begin 41 = .ok (.istore_n 3, 1) := by decide +kernel
theorem dX12_begin_42 : decode cX12_begin 42 = .ok (.iload_n 3, 1) := by decide +kernel
theorem dX12_begin_43 : decode cX12_begin 43 = .ok (.sipush 128, 3) := by decide +kernel
theorem dX12_begin_46 : decode cX12_begin 46 = .ok (.if_icmp .ge 22, 3) := by decide +kernel
theorem dX12_begin_49 : decode cX12_begin 49 = .ok (.aload_n 0, 1) := by decide +kernel
theorem dX12_begin_50 : decode cX12_begin 50 = .ok (.getfield 20, 3) := by decide +kernel
theorem dX12_begin_53 : decode cX12_begin 53 = .ok (.sipush 128, 3) := by decide +kernel
theorem dX12_begin_56 : decode cX12_begin 56 = .ok (.iload_n 2, 1) := by decide +kernel
theorem dX12_begin_57 : decode cX12_begin 57 = .ok (.imul, 1) := by decide +kernel
theorem dX12_begin_58 : decode cX12_begin 58 = .ok (.iload_n 3, 1) := by decide +kernel
theorem dX12_begin_59 : decode cX12_begin 59 = .ok (.iadd, 1) := by decide +kernel
theorem dX12_begin_60 : decode cX12_begin 60 = .ok (.iconst 0, 1) := by decide +kernel
theorem dX12_begin_61 : decode cX12_begin 61 = .ok (.bastore, 1) := by decide +kernel
theorem dX12_begin_62 : decode cX12_begin 62 = .ok (.iinc 3 1, 3) := by decide +kernel
theorem dX12_begin_65 : decode cX12_begin 65 = .ok (.goto (-23), 3) := by decide +kernel
theorem dX12_begin_68 : decode cX12_begin 68 = .ok (.aload_n 0, 1) := by decide +kernel
theorem dX12_begin_69 : decode cX12_begin 69 = .ok (.dup, 1) := by decide +kernel
theorem dX12_begin_70 : decode cX12_begin 70 = .ok (.getfield 393, 3) := by decide +kernel
theorem dX12_begin_73 : decode cX12_begin 73 = .ok (.iconst 1, 1) := by decide +kernel
theorem dX12_begin_74 : decode cX12_begin 74 = .ok (.iadd, 1) := by decide +kernel
theorem dX12_begin_75 : decode cX12_begin 75 = .ok (.putfield 393, 3) := by decide +kernel
theorem dX12_begin_78 : decode cX12_begin 78 = .ok (.iload_n 2, 1) := by decide +kernel
theorem dX12_begin_79 : decode cX12_begin 79 = .ok (.ireturn, 1) := by decide +kernel
theorem dX12_is_0 : decode cX12_is 0 = .ok (.iload_n 1, 1) := by decide +kernel
theorem dX12_is_1 : decode cX12_is 1 = .ok (.aload_n 0, 1) := by decide +kernel
theorem dX12_is_2 : decode cX12_is 2 = .ok (.getfield 376, 3) := by decide +kernel
theorem dX12_is_5 : decode cX12_is 5 = .ok (.if_icmp .lt 13, 3) := by decide +kernel
theorem dX12_is_8 : decode cX12_is 8 = .ok (.aload_n 0, 1) := by decide +kernel
theorem dX12_is_9 : decode cX12_is 9 = .ok (.aload_n 0, 1) := by decide +kernel
theorem dX12_is_10 : decode cX12_is 10 = .ok (.getfield 376, 3) := by decide +kernel
theorem dX12_is_13 : decode cX12_is 13 = .ok (.putfield 406, 3) := by decide +kernel
theorem dX12_is_16 : decode cX12_is 16 = .ok (.iconst 0, 1) := by decide +kernel
theorem dX12_is_17 : decode cX12_is 17 = .ok (.ireturn, 1) := by decide +kernel
set_option maxRecDepth 20000 in
theorem ggX12_picture_X12_unpack : GoodIn wsX12_picture wsX12_unpack := goodIn_r _ [7, 8, 9, 10, 2, 11, 12, 13, 14, 15, 6, 16, 17, 18, 19, 20, 21, 22, 23, 24, 25, 26, 27, 28, 29, 30, 31, 32, 33, 34, 1, 35, 36, 37, 38, 39, 40, 41, 42, 43, 44, 45, 46, 47, 48, 49, 50, 51, 52, 53, 54, 55, 56, 57, 58, 59, 60, 61, 62, 63, 64, 65, 66, 67, 68, 69, 70, 71, 72, 73, 74, 75, 76, 77, 78, 79, 80, 81, 82, 83, 84, 85, 86, 87, 88, 89, 90, 91, 92, 93, 94, 95, 96, 97, 98, 99, 100, 101, 102, 103, 104, 105, 106, 107, 108, 109, 110, 111, 112, 113, 114, 115, 116, 117, 118, 119, 120, 121, 122, 123, 124, 125, 126, 127, 128, 129, 130, 131, 132, 133, 134, 135, 136, 137, 138, 139, 140, 141, 142, 143, 144, 145, 146, 147, 148, 149, 150, 151, 152, 153, 154, 155, 156, 157, 158, 159, 160, 161, 162, 163, 164, 165, 166, 167, 168, 169, 170, 171, 172, 173, 174, 175, 176, 177, 178, 179, 180, 181, 182, 183, 184, 185, 186, 187, 188, 189, 190, 191, 192, 193, 194, 195, 196, 197, 198, 199, 200, 201, 202, 203, 204, 205, 206, 207] (by decide +kernel) (by decide +kernel)
set_option maxRecDepth 20000 in
theorem gX12_picture_X12_unpack : GoodIn wsX12_picture (wsV RX12 409 RX12 yX12_unpack wsX12_unpack) := goodIn_app (goodIn_of _ (by decide +kernel)) ggX12_picture_X12_unpack
theorem dX12_picture_0 : decode cX12_picture 0 = .ok (.aload_n 0, 1) := by decide +kernel
theorem dX12_picture_1 : decode cX12_picture 1 = .ok (.getfield 393, 3) := by decide +kernel
theorem dX12_picture_4 : decode cX12_picture 4 = .ok (.bipush 6, 2) := by decide +kernel
theorem dX12_picture_6 : decode cX12_picture 6 = .ok (.if_icmp .ne 6, 3) := by decide +kernel
theorem dX12_picture_12 : decode cX12_picture 12 = .ok (.aload_n 0, 1) := by decide +kernel
theorem dX12_picture_13 : decode cX12_picture 13 = .ok (.invokevirtual 409, 3) := by decide +kernel
theorem dX12_picture_16 : decode cX12_picture 16 = .ok (.istore_n 1, 1) := by decide +kernel
theorem dX12_picture_17 : decode cX12_picture 17 = .ok (.aload_n 0, 1) := by decide +kernel
theorem dX12_picture_18 : decode cX12_picture 18 = .ok (.iconst 0, 1) := by decide +kernel
theorem dX12_picture_19 : decode cX12_picture 19 = .ok (.putfield 376, 3) := by decide +kernel
theorem dX12_picture_22 : decode cX12_picture 22 = .ok (.iload_n 1, 1) := by decide +kernel
theorem dX12_picture_23 : decode cX12_picture 23 = .ok (.ireturn, 1) := by decide +kernel
set_option maxRecDepth 20000 in
theorem ggX12_unpack_X12_is : GoodIn wsX12_unpack wsX12_is := goodIn_r _ [11, 4, 1, 2, 12, 13, 10, 14, 32, 33, 34, 35, 36, 37, 38, 39, 40, 41, 42, 43, 44, 45, 46, 47, 48, 49, 50, 51, 52, 53, 54, 55, 56, 57, 58, 59, 60, 61, 62, 63, 64, 65, 66, 67, 68, 69, 70, 71, 72, 73, 74, 75, 76, 77, 78, 79, 80, 81, 82, 83, 84, 85, 86, 87, 88, 89, 90, 91, 92, 93, 94, 95, 96, 97, 98, 99, 100, 101, 102, 103, 104, 105, 106, 107, 108, 109, 110, 111, 112, 113, 114, 115, 116, 117, 118, 119, 120, 121, 122, 123, 124, 125, 126, 127, 128, 129, 130, 131, 132, 133, 134, 135, 136, 137, 138, 139, 140, 141, 142, 143, 144, 145, 146, 147, 148, 149, 150, 151, 152, 153, 154, 155, 156, 157, 158, 159, 160, 161, 162, 163, 164, 165, 166, 167, 168, 169, 170, 171, 172, 173, 174, 175, 176, 177, 178, 179, 180, 181, 182, 183, 184, 185, 186, 187, 188, 189, 190, 191, 192, 193, 194, 195, 196, 197, 198, 199, 200, 201, 202, 203] (by decide +kernel) (by decide +kernel)
set_option maxRecDepth 20000 in
theorem gX12_unpack_X12_is : GoodIn wsX12_unpack (wsV RX12 413 RX12 yX12_is wsX12_is) := goodIn_app (goodIn_of _ (by decide +kernel)) ggX12_unpack_X12_is
theorem dX12_unpack_0 : decode cX12_unpack 0 = .ok (.aload_n 0, 1) := by decide +kernel
theorem dX12_unpack_1 : decode cX12_unpack 1 = .ok (.iconst 0, 1) := by decide +kernel
theorem dX12_unpack_2 : decode cX12_unpack 2 = .ok (.bipush 80, 2) := by decide +kernel
theorem dX12_unpack_4 : decode cX12_unpack 4 = .ok (.bipush 80, 2) := by decide +kernel
theorem dX12_unpack_6 : decode cX12_unpack 6 = .ok (.invokevirtual 413, 3) := by decide +kernel
theorem dX12_unpack_9 : decode cX12_unpack 9 = .ok (.ifCond .eq 39, 3) := by decide +kernel
theorem dX12_unpack_48 : decode cX12_unpack 48 = .ok (.bipush (-100), 2) := by decide +kernel
theorem dX12_unpack_50 : decode cX12_unpack 50 = .ok (.aload_n 0, 1) := by decide +kernel
theorem dX12_unpack_51 : decode cX12_unpack 51 = .ok (.getfield 406, 3) := by decide +kernel
theorem dX12_unpack_54 : decode cX12_unpack 54 = .ok (.isub, 1) := by decide +kernel
theorem dX12_unpack_55 : decode cX12_unpack 55 = .ok (.ireturn, 1) := by decide +kernel
set_option maxRecDepth 20000 in
theorem ggX12_sectors_X12_isPicture : GoodIn wsX12_sectors wsX12_isPicture := goodIn_r _ [6, 7, 8, 9, 5, 10, 11, 12, 13, 14, 15, 16, 17, 18, 19, 20, 21, 22, 23, 24, 25, 26, 27, 28, 29, 30, 31, 32, 33, 34, 35, 36, 37, 38, 39, 40, 41, 42, 43, 44, 45, 46, 47, 48, 49, 50, 51, 52, 53, 54, 55, 56, 57, 58, 59, 60, 61, 62, 63, 64, 65, 66, 67, 68, 69, 70, 71, 72, 73, 74, 75, 76, 77, 78, 79, 80, 81, 82, 83, 84, 85, 86, 87, 88, 89, 90, 91, 92, 93, 94, 95, 96, 97, 98, 99, 100, 101, 102, 103, 104, 105, 106, 107, 108, 109, 110, 111, 112, 113, 114, 115, 116, 117, 118, 119, 120, 121, 122, 123, 124, 125, 126, 127, 128, 129, 130, 131, 132, 133, 134, 135, 136, 137, 138, 139, 140, 141, 142, 143, 144, 145, 146, 147, 148, 149, 150, 151, 152, 153, 154, 155, 156, 157, 158, 159, 160, 161, 162, 163, 164, 165, 166, 167, 168, 169, 170, 171, 172, 173, 174, 175, 176, 177, 178, 179, 180, 181, 182] (by decide +kernel) (by decide +kernel)
set_option maxRecDepth 20000 in
theorem gX12_sectors_X12_isPicture : GoodIn wsX12_sectors (wsV RX12 396 RX12 yX12_isPicture wsX12_isPicture) := goodIn_app (goodIn_of _ (by decide +kernel)) ggX12_sectors_X12_isPicture
theorem dX12_sectors_0 : decode cX12_sectors 0 = .ok (.aload_n 0, 1) := by decide +kernel
theorem dX12_sectors_1 : decode cX12_sectors 1 = .ok (.iload_n 1, 1) := by decide +kernel
theorem dX12_sectors_2 : decode cX12_sectors 2 = .ok (.invokevirtual 396, 3) := by decide +kernel
theorem dX12_sectors_5 : decode cX12_sectors 5 = .ok (.ifCond .eq 12, 3) := by decide +kernel
theorem dX12_sectors_17 : decode cX12_sectors 17 = .ok (.bipush (-2), 2) := by decide +kernel
theorem dX12_sectors_19 : decode cX12_sectors 19 = .ok (.ireturn, 1) := by decide +kernel
set_option maxRecDepth 20000 in
theorem ggX12_spoil_X12_isSector : GoodIn wsX12_spoil wsX12_isSector := goodIn_r _ [6, 7, 8, 9, 10, 5, 11, 12, 13, 14, 15, 22, 23, 24, 25, 26, 27, 28, 29, 30, 31, 32, 33, 34, 35, 36, 37, 38, 39, 40, 41, 42, 43, 44, 45, 46, 47, 48, 49, 50, 51, 52, 53, 54, 55, 56, 57, 58, 59, 60, 61, 62, 63, 64, 65, 66, 67, 68, 69, 70, 71, 72, 73, 74, 75, 76, 77, 78, 79, 80, 81, 82, 83, 84, 85, 86, 87, 88, 89, 90, 91, 92, 93, 94, 95, 96, 97, 98, 99, 100, 101, 102, 103, 104, 105, 106, 107, 108, 109, 110, 111, 112, 113, 114, 115, 116, 117, 118, 119, 120, 121, 122, 123, 124, 125, 126, 127, 128, 129, 130, 131, 132, 133, 134, 135, 136, 137, 138, 139, 140, 141, 142, 143, 144, 145, 146, 147, 148, 149, 150, 151, 152, 153, 154, 155, 156, 157, 158, 159, 160, 161, 162, 163, 164, 165, 166, 167, 168, 169, 170, 171, 172, 173, 174, 175, 176, 177, 178, 179, 180, 181, 182, 183, 184, 185, 186, 187, 188, 189, 190, 191, 192, 193] (by decide +kernel) (by decide +kernel)
set_option maxRecDepth 20000 in
theorem gX12_spoil_X12_isSector : GoodIn wsX12_spoil (wsV RX12 424 RX12 yX12_isSector wsX12_isSector) := goodIn_app (goodIn_of _ (by decide +kernel)) ggX12_spoil_X12_isSector
theorem dX12_spoil_0 : decode cX12_spoil 0 = .ok (.aload_n 0, 1) := by decide +kernel
theorem dX12_spoil_1 : decode cX12_spoil 1 = .ok (.iload_n 1, 1) := by decide +kernel
theorem dX12_spoil_2 : decode cX12_spoil 2 = .ok (.iload_n 2, 1) := by decide +kernel
theorem dX12_spoil_3 : decode cX12_spoil 3 = .ok (.invokevirtual 424, 3) := by decide +kernel
theorem dX12_spoil_6 : decode cX12_spoil 6 = .ok (.ifCond .ne 6, 3) := by decide +kernel
theorem dX12_spoil_9 : decode cX12_spoil 9 = .ok (.bipush (-2), 2) := by decide +kernel
theorem dX12_spoil_11 : decode cX12_spoil 11 = .ok (.ireturn, 1) := by decide +kernel
set_option maxRecDepth 20000 in
theorem ggX12_isByte_X12_isPicture : GoodIn wsX12_isByte wsX12_isPicture := goodIn_r _ [6, 7, 8, 9, 5, 10, 11, 12, 13, 14, 15, 16, 17, 18, 19, 20, 21, 22, 23, 24, 25, 26, 27, 28, 29, 30, 31, 32, 33, 34, 35, 36, 37, 38, 39, 40, 41, 42, 43, 44, 45, 46, 47, 48, 49, 50, 51, 52, 53, 54, 55, 56, 57, 58, 59, 60, 61, 62, 63, 64, 65, 66, 67, 68, 69, 70, 71, 72, 73, 74, 75, 76, 77, 78, 79, 80, 81, 82, 83, 84, 85, 86, 87, 88, 89, 90, 91, 92, 93, 94, 95, 96, 97, 98, 99, 100, 101, 102, 103, 104, 105, 106, 107, 108, 109, 110, 111, 112, 113, 114, 115, 116, 117, 118, 119, 120, 121, 122, 123, 124, 125, 126, 127, 128, 129, 130, 131, 132, 133, 134, 135, 136, 137, 138, 139, 140, 141, 142, 143, 144, 145, 146, 147, 148, 149, 150, 151, 152, 153, 154, 155, 156, 157, 158, 159, 160, 161, 162, 163, 164, 165, 166, 167, 168, 169, 170, 171, 172, 173, 174, 175, 176, 177, 178, 179, 180, 181, 182] (by decide +kernel) (by decide +kernel)
set_option maxRecDepth 20000 in
theorem gX12_isByte_X12_isPicture : GoodIn wsX12_isByte (wsV RX12 396 RX12 yX12_isPicture wsX12_isPicture) := goodIn_app (goodIn_of _ (by decide +kernel)) ggX12_isByte_X12_isPicture
theorem dX12_isByte_0 : decode cX12_isByte 0 = .ok (.aload_n 0, 1) := by decide +kernel
theorem dX12_isByte_1 : decode cX12_isByte 1 = .ok (.iload_n 1, 1) := by decide +kernel
theorem dX12_isByte_2 : decode cX12_isByte 2 = .ok (.invokevirtual 396, 3) := by decide +kernel
theorem dX12_isByte_5 : decode cX12_isByte 5 = .ok (.ifCond .eq 28, 3) := by decide +kernel
theorem dX12_isByte_33 : decode cX12_isByte 33 = .ok (.iconst 0, 1) := by decide +kernel
theorem dX12_isByte_34 : decode cX12_isByte 34 = .ok (.ireturn, 1) := by decide +kernel
set_option maxRecDepth 20000 in
theorem ggX12_byteAt_X12_isByte : GoodIn wsX12_byteAt wsX12_isByte := goodIn_r _ [5, 6, 7, 8, 9, 4, 10, 11, 12, 13, 14, 21, 22, 23, 24, 25, 26, 27, 28, 29, 30, 31, 32, 33, 34, 35, 36, 37, 38, 39, 40, 41, 42, 43, 44, 45, 46, 47, 48, 49, 50, 51, 52, 53, 54, 55, 56, 57, 58, 59, 60, 61, 62, 63, 64, 65, 66, 67, 68, 69, 70, 71, 72, 73, 74, 75, 76, 77, 78, 79, 80, 81, 82, 83, 84, 85, 86, 87, 88, 89, 90, 91, 92, 93, 94, 95, 96, 97, 98, 99, 100, 101, 102, 103, 104, 105, 106, 107, 108, 109, 110, 111, 112, 113, 114, 115, 116, 117, 118, 119, 120, 121, 122, 123, 124, 125, 126, 127, 128, 129, 130, 131, 132, 133, 134, 135, 136, 137, 138, 139, 140, 141, 142, 143, 144, 145, 146, 147, 148, 149, 150, 151, 152, 153, 154, 155, 156, 157, 158, 159, 160, 161, 162, 163, 164, 165, 166, 167, 168, 169, 170, 171, 172, 173, 174, 175, 176, 177, 178, 179, 180, 181, 182, 183, 184, 185, 186, 187, 188, 189, 190, 191, 192] (by decide +kernel) (by decide +kernel)
set_option maxRecDepth 20000 in
theorem gX12_byteAt_X12_isByte : GoodIn wsX12_byteAt (wsV RX12 432 RX12 yX12_isByte wsX12_isByte) := goodIn_app (goodIn_of _ (by decide +kernel)) ggX12_byteAt_X12_isByte
theorem dX12_byteAt_0 : decode cX12_byteAt 0 = .ok (.aload_n 0, 1) := by decide +kernel
theorem dX12_byteAt_1 : decode cX12_byteAt 1 = .ok (.iload_n 1, 1) := by decide +kernel
theorem dX12_byteAt_2 : decode cX12_byteAt 2 = .ok (.iload_n 2, 1) := by decide +kernel
theorem dX12_byteAt_3 : decode cX12_byteAt 3 = .ok (.invokevirtual 432, 3) := by decide +kernel
theorem dX12_byteAt_6 : decode cX12_byteAt 6 = .ok (.ifCond .eq 12, 3) := by decide +kernel
theorem dX12_byteAt_18 : decode cX12_byteAt 18 = .ok (.bipush (-2), 2) := by decide +kernel
theorem dX12_byteAt_20 : decode cX12_byteAt 20 = .ok (.ireturn, 1) := by decide +kernel
set_option maxRecDepth 20000 in
theorem ggX12_poke_X12_isByte : GoodIn wsX12_poke wsX12_isByte := goodIn_r _ [8, 9, 10, 11, 12, 7, 13, 14, 15, 16, 17, 28, 29, 30, 31, 32, 33, 34, 35, 36, 37, 38, 39, 40, 41, 42, 43, 44, 45, 46, 47, 48, 49, 50, 51, 52, 53, 54, 55, 56, 57, 58, 59, 60, 61, 62, 63, 64, 65, 66, 67, 68, 69, 70, 71, 72, 73, 74, 75, 76, 77, 78, 79, 80, 81, 82, 83, 84, 85, 86, 87, 88, 89, 90, 91, 92, 93, 94, 95, 96, 97, 98, 99, 100, 101, 102, 103, 104, 105, 106, 107, 108, 109, 110, 111, 112, 113, 114, 115, 116, 117, 118, 119, 120, 121, 122, 123, 124, 125, 126, 127, 128, 129, 130, 131, 132, 133, 134, 135, 136, 137, 138, 139, 140, 141, 142, 143, 144, 145, 146, 147, 148, 149, 150, 151, 152, 153, 154, 155, 156, 157, 158, 159, 160, 161, 162, 163, 164, 165, 166, 167, 168, 169, 170, 171, 172, 173, 174, 175, 176, 177, 178, 179, 180, 181, 182, 183, 184, 185, 186, 187, 188, 189, 190, 191, 192, 193, 194, 195, 196, 197, 198, 199] (by decide +kernel) (by decide +kernel)
set_option maxRecDepth 20000 in
theorem gX12_poke_X12_isByte : GoodIn wsX12_poke (wsV RX12 432 RX12 yX12_isByte wsX12_isByte) := goodIn_app (goodIn_of _ (by decide +kernel)) ggX12_poke_X12_isByte
theorem dX12_poke_0 : decode cX12_poke 0 = .ok (.aload_n 0, 1) := by decide +kernel
theorem dX12_poke_1 : decode cX12_poke 1 = .ok (.iload_n 1, 1) := by decide +kernel
theorem dX12_poke_2 : decode cX12_poke 2 = .ok (.iload_n 2, 1) := by decide +kernel
theorem dX12_poke_3 : decode cX12_poke 3 = .ok (.invokevirtual 432, 3) := by decide +kernel
theorem dX12_poke_6 : decode cX12_poke 6 = .ok (.ifCond .eq 15, 3) := by decide +kernel
theorem dX12_poke_21 : decode cX12_poke 21 = .ok (.bipush (-2), 2) := by decide +kernel
theorem dX12_poke_23 : decode cX12_poke 23 = .ok (.ireturn, 1) := by decide +kernel
set_option maxRecDepth 20000 in
theorem ggX12_crc_X12_isPicture : GoodIn wsX12_crc wsX12_isPicture := goodIn_r _ [8, 9, 10, 11, 7, 12, 23, 24, 25, 26, 27, 28, 29, 30, 31, 32, 33, 34, 35, 36, 37, 38, 39, 40, 41, 42, 43, 44, 45, 46, 47, 48, 49, 50, 51, 52, 53, 54, 55, 56, 57, 58, 59, 60, 61, 62, 63, 64, 65, 66, 67, 68, 69, 70, 71, 72, 73, 74, 75, 76, 77, 78, 79, 80, 81, 82, 83, 84, 85, 86, 87, 88, 89, 90, 91, 92, 93, 94, 95, 96, 97, 98, 99, 100, 101, 102, 103, 104, 105, 106, 107, 108, 109, 110, 111, 112, 113, 114, 115, 116, 117, 118, 119, 120, 121, 122, 123, 124, 125, 126, 127, 128, 129, 130, 131, 132, 133, 134, 135, 136, 137, 138, 139, 140, 141, 142, 143, 144, 145, 146, 147, 148, 149, 150, 151, 152, 153, 154, 155, 156, 157, 158, 159, 160, 161, 162, 163, 164, 165, 166, 167, 168, 169, 170, 171, 172, 173, 174, 175, 176, 177, 178, 179, 180, 181, 182, 183, 184, 185, 186, 187, 188, 189, 190, 191, 192, 193, 194] (by decide +kernel) (by decide +kernel)
set_option maxRecDepth 20000 in
theorem gX12_crc_X12_isPicture : GoodIn wsX12_crc (wsV RX12 396 RX12 yX12_isPicture wsX12_isPicture) := goodIn_app (goodIn_of _ (by decide +kernel)) ggX12_crc_X12_isPicture
theorem dX12_crc_0 : decode cX12_crc 0 = .ok (.aload_n 0, 1) := by decide +kernel
theorem dX12_crc_1 : decode cX12_crc 1 = .ok (.iload_n 1, 1) := by decide +kernel
theorem dX12_crc_2 : decode cX12_crc 2 = .ok (.invokevirtual 396, 3) := by decide +kernel
theorem dX12_crc_5 : decode cX12_crc 5 = .ok (.ifCond .eq 30, 3) := by decide +kernel
theorem dX12_crc_35 : decode cX12_crc 35 = .ok (.ldc2_w 438, 3) := by decide +kernel
theorem dX12_crc_38 : decode cX12_crc 38 = .ok (.lreturn, 1) := by decide +kernel
set_option maxRecDepth 20000 in
theorem ggX12_parts_X12_isPicture : GoodIn wsX12_parts wsX12_isPicture := goodIn_r _ [6, 7, 8, 9, 5, 10, 42, 43, 44, 45, 46, 47, 48, 49, 50, 51, 52, 53, 54, 55, 56, 57, 58, 59, 60, 61, 62, 63, 64, 65, 66, 67, 68, 69, 70, 71, 72, 73, 74, 75, 76, 77, 78, 79, 80, 81, 82, 83, 84, 85, 86, 87, 88, 89, 90, 91, 92, 93, 94, 95, 96, 97, 98, 99, 100, 101, 102, 103, 104, 105, 106, 107, 108, 109, 110, 111, 112, 113, 114, 115, 116, 117, 118, 119, 120, 121, 122, 123, 124, 125, 126, 127, 128, 129, 130, 131, 132, 133, 134, 135, 136, 137, 138, 139, 140, 141, 142, 143, 144, 145, 146, 147, 148, 149, 150, 151, 152, 153, 154, 155, 156, 157, 158, 159, 160, 161, 162, 163, 164, 165, 166, 167, 168, 169, 170, 171, 172, 173, 174, 175, 176, 177, 178, 179, 180, 181, 182, 183, 184, 185, 186, 187, 188, 189, 190, 191, 192, 193, 194, 195, 196, 197, 198, 199, 200, 201, 202, 203, 204, 205, 206, 207, 208, 209, 210, 211, 212, 213] (by decide +kernel) (by decide +kernel)
set_option maxRecDepth 20000 in
theorem gX12_parts_X12_isPicture : GoodIn wsX12_parts (wsV RX12 396 RX12 yX12_isPicture wsX12_isPicture) := goodIn_app (goodIn_of _ (by decide +kernel)) ggX12_parts_X12_isPicture
theorem dX12_parts_0 : decode cX12_parts 0 = .ok (.aload_n 0, 1) := by decide +kernel
theorem dX12_parts_1 : decode cX12_parts 1 = .ok (.iload_n 1, 1) := by decide +kernel
theorem dX12_parts_2 : decode cX12_parts 2 = .ok (.invokevirtual 396, 3) := by decide +kernel
theorem dX12_parts_5 : decode cX12_parts 5 = .ok (.ifCond .ne 6, 3) := by decide +kernel
theorem dX12_parts_8 : decode cX12_parts 8 = .ok (.bipush (-2), 2) := by decide +kernel
theorem dX12_parts_10 : decode cX12_parts 10 = .ok (.ireturn, 1) := by decide +kernel
set_option maxRecDepth 20000 in
theorem ggX12_part_X12_isPicture : GoodIn wsX12_part wsX12_isPicture := goodIn_r _ [12, 13, 14, 15, 11, 16, 47, 48, 49, 50, 51, 52, 53, 54, 55, 56, 57, 58, 59, 60, 61, 62, 63, 64, 65, 66, 67, 68, 69, 70, 71, 72, 73, 74, 75, 76, 77, 78, 79, 80, 81, 82, 83, 84, 85, 86, 87, 88, 89, 90, 91, 92, 93, 94, 95, 96, 97, 98, 99, 100, 101, 102, 103, 104, 105, 106, 107, 108, 109, 110, 111, 112, 113, 114, 115, 116, 117, 118, 119, 120, 121, 122, 123, 124, 125, 126, 127, 128, 129, 130, 131, 132, 133, 134, 135, 136, 137, 138, 139, 140, 141, 142, 143, 144, 145, 146, 147, 148, 149, 150, 151, 152, 153, 154, 155, 156, 157, 158, 159, 160, 161, 162, 163, 164, 165, 166, 167, 168, 169, 170, 171, 172, 173, 174, 175, 176, 177, 178, 179, 180, 181, 182, 183, 184, 185, 186, 187, 188, 189, 190, 191, 192, 193, 194, 195, 196, 197, 198, 199, 200, 201, 202, 203, 204, 205, 206, 207, 208, 209, 210, 211, 212, 213, 214, 215, 216, 217, 218] (by decide +kernel) (by decide +kernel)
set_option maxRecDepth 20000 in
theorem gX12_part_X12_isPicture : GoodIn wsX12_part (wsV RX12 396 RX12 yX12_isPicture wsX12_isPicture) := goodIn_app (goodIn_of _ (by decide +kernel)) ggX12_part_X12_isPicture
theorem dX12_part_0 : decode cX12_part 0 = .ok (.aload_n 0, 1) := by decide +kernel
theorem dX12_part_1 : decode cX12_part 1 = .ok (.iload_n 1, 1) := by decide +kernel
theorem dX12_part_2 : decode cX12_part 2 = .ok (.invokevirtual 396, 3) := by decide +kernel
theorem dX12_part_5 : decode cX12_part 5 = .ok (.ifCond .ne 6, 3) := by decide +kernel
theorem dX12_part_8 : decode cX12_part 8 = .ok (.bipush (-2), 2) := by decide +kernel
theorem dX12_part_10 : decode cX12_part 10 = .ok (.ireturn, 1) := by decide +kernel
set_option maxRecDepth 20000 in
theorem ggX12_isVolume_X12_in : GoodIn wsX12_isVolume wsX12_in := goodIn_r _ [5] (by decide +kernel) (by decide +kernel)
set_option maxRecDepth 20000 in
theorem gX12_isVolume_X12_in : GoodIn wsX12_isVolume (va_wsS RX12 372 yX12_in wsX12_in) := goodIn_app (goodIn_of _ (by decide +kernel)) ggX12_isVolume_X12_in
theorem dX12_isVolume_0 : decode cX12_isVolume 0 = .ok (.iload_n 1, 1) := by decide +kernel
theorem dX12_isVolume_1 : decode cX12_isVolume 1 = .ok (.i2l, 1) := by decide +kernel
theorem dX12_isVolume_2 : decode cX12_isVolume 2 = .ok (.lconst 0, 1) := by decide +kernel
theorem dX12_isVolume_3 : decode cX12_isVolume 3 = .ok (.aload_n 0, 1) := by decide +kernel
theorem dX12_isVolume_4 : decode cX12_isVolume 4 = .ok (.getfield 466, 3) := by decide +kernel
theorem dX12_isVolume_7 : decode cX12_isVolume 7 = .ok (.iconst 1, 1) := by decide +kernel
theorem dX12_isVolume_8 : decode cX12_isVolume 8 = .ok (.isub, 1) := by decide +kernel
theorem dX12_isVolume_9 : decode cX12_isVolume 9 = .ok (.i2l, 1) := by decide +kernel
theorem dX12_isVolume_10 : decode cX12_isVolume 10 = .ok (.invokestatic 372, 3) := by decide +kernel
theorem dX12_isVolume_13 : decode cX12_isVolume 13 = .ok (.ireturn, 1) := by decide +kernel
set_option maxRecDepth 20000 in
theorem ggX12_volume_X12_isPicture : GoodIn wsX12_volume wsX12_isPicture := goodIn_r _ [9, 10, 11, 12, 8, 13, 21, 22, 23, 24, 25, 26, 27, 28, 29, 30, 31, 32, 33, 34, 35, 36, 37, 38, 39, 40, 41, 42, 43, 44, 45, 46, 47, 48, 49, 50, 51, 52, 53, 54, 55, 56, 57, 58, 59, 60, 61, 62, 63, 64, 65, 66, 67, 68, 69, 70, 71, 72, 73, 74, 75, 76, 77, 78, 79, 80, 81, 82, 83, 84, 85, 86, 87, 88, 89, 90, 91, 92, 93, 94, 95, 96, 97, 98, 99, 100, 101, 102, 103, 104, 105, 106, 107, 108, 109, 110, 111, 112, 113, 114, 115, 116, 117, 118, 119, 120, 121, 122, 123, 124, 125, 126, 127, 128, 129, 130, 131, 132, 133, 134, 135, 136, 137, 138, 139, 140, 141, 142, 143, 144, 145, 146, 147, 148, 149, 150, 151, 152, 153, 154, 155, 156, 157, 158, 159, 160, 161, 162, 163, 164, 165, 166, 167, 168, 169, 170, 171, 172, 173, 174, 175, 176, 177, 178, 179, 180, 181, 182, 183, 184, 185, 186, 187, 188, 189, 190, 191, 192] (by decide +kernel) (by decide +kernel)
set_option maxRecDepth 20000 in
theorem gX12_volume_X12_isPicture : GoodIn wsX12_volume (wsV RX12 396 RX12 yX12_isPicture wsX12_isPicture) := goodIn_app (goodIn_of _ (by decide +kernel)) ggX12_volume_X12_isPicture
theorem dX12_volume_0 : decode cX12_volume 0 = .ok (.aload_n 0, 1) := by decide +kernel
theorem dX12_volume_1 : decode cX12_volume 1 = .ok (.iload_n 1, 1) := by decide +kernel
theorem dX12_volume_2 : decode cX12_volume 2 = .ok (.invokevirtual 396, 3) := by decide +kernel
theorem dX12_volume_5 : decode cX12_volume 5 = .ok (.ifCond .eq 28, 3) := by decide +kernel
theorem dX12_volume_33 : decode cX12_volume 33 = .ok (.bipush (-2), 2) := by decide +kernel
theorem dX12_volume_35 : decode cX12_volume 35 = .ok (.ireturn, 1) := by decide +kernel
set_option maxRecDepth 20000 in
theorem ggX12_join_X12_in : GoodIn wsX12_join wsX12_in := goodIn_r _ [8] (by decide +kernel) (by decide +kernel)
set_option maxRecDepth 20000 in
theorem gX12_join_X12_in : GoodIn wsX12_join (va_wsS RX12 372 yX12_in wsX12_in) := goodIn_app (goodIn_of _ (by decide +kernel)) ggX12_join_X12_in
set_option maxRecDepth 20000 in
theorem ggX12_join_X12_isVolume : GoodIn wsX12_join wsX12_isVolume := goodIn_r _ [12, 3, 5, 6, 7, 8, 19, 20, 21, 22, 23, 24, 25, 26, 27, 28, 29, 30, 31, 32, 33, 34, 35, 36, 37, 38, 39, 40, 41, 42, 43, 44, 45, 46, 47, 48, 49, 50, 51, 52, 53, 54, 55, 56, 57, 58, 59, 60, 61, 62, 63, 64, 65, 66, 67, 68, 69, 70, 71, 72, 73, 74, 75, 76, 77, 78, 79, 80, 81, 82, 83, 84, 85, 86, 87, 88, 89, 90, 91, 92, 93, 94, 95, 96, 97, 98, 99, 100, 101, 102, 103, 104, 105, 106, 107, 108, 109, 110, 111, 112, 113, 114, 115, 116, 117, 118, 119, 120, 121, 122, 123, 124, 125, 126, 127, 128, 129, 130, 131, 132, 133, 134, 135, 136, 137, 138, 139, 140, 141, 142, 143, 144, 145, 146, 147, 148, 149, 150, 151, 152, 153, 154, 155, 156, 157, 158, 159, 160, 161, 162, 163, 164, 165, 166, 167, 168, 169, 170, 171, 172, 173, 174, 175, 176, 177, 178, 179, 180, 181, 182, 183, 184, 185, 186, 187, 188, 189, 190] (by decide +kernel) (by decide +kernel)
set_option maxRecDepth 20000 in
theorem gX12_join_X12_isVolume : GoodIn wsX12_join (wsV RX12 474 RX12 yX12_isVolume wsX12_isVolume) := goodIn_app (goodIn_of _ (by decide +kernel)) ggX12_join_X12_isVolume
theorem dX12_join_0 : decode cX12_join 0 = .ok (.iload_n 1, 1) := by decide +kernel
theorem dX12_join_1 : decode cX12_join 1 = .ok (.iconst 3, 1) := by decide +kernel
theorem dX12_join_2 : decode cX12_join 2 = .ok (.if_icmp .eq 8, 3) := by decide +kernel
theorem dX12_join_5 : decode cX12_join 5 = .ok (.iload_n 1, 1) := by decide +kernel
theorem dX12_join_6 : decode cX12_join 6 = .ok (.iconst 4, 1) := by decide +kernel
theorem dX12_join_7 : decode cX12_join 7 = .ok (.if_icmp .ne 7, 3) := by decide +kernel
theorem dX12_join_10 : decode cX12_join 10 = .ok (.iconst 1, 1) := by decide +kernel
theorem dX12_join_11 : decode cX12_join 11 = .ok (.goto 4, 3) := by decide +kernel
theorem dX12_join_14 : decode cX12_join 14 = .ok (.iconst 0, 1) := by decide +kernel
theorem dX12_join_15 : decode cX12_join 15 = .ok (.istore 5, 2) := by decide +kernel
theorem dX12_join_17 : decode cX12_join 17 = .ok (.iload_n 2, 1) := by decide +kernel
theorem dX12_join_18 : decode cX12_join 18 = .ok (.iconst (-1), 1) := by decide +kernel
theorem dX12_join_19 : decode cX12_join 19 = .ok (.if_icmp .ne 7, 3) := by decide +kernel
theorem dX12_join_22 : decode cX12_join 22 = .ok (.iconst 1, 1) := by decide +kernel
theorem dX12_join_23 : decode cX12_join 23 = .ok (.goto 4, 3) := by decide +kernel
theorem dX12_join_26 : decode cX12_join 26 = .ok (.iconst 0, 1) := by decide +kernel
theorem dX12_join_27 : decode cX12_join 27 = .ok (.iload_n 3, 1) := by decide +kernel
theorem dX12_join_28 : decode cX12_join 28 = .ok (.iconst (-1), 1) := by decide +kernel
theorem dX12_join_29 : decode cX12_join 29 = .ok (.if_icmp .ne 7, 3) := by decide +kernel
theorem dX12_join_32 : decode cX12_join 32 = .ok (.iconst 1, 1) := by decide +kernel
theorem dX12_join_33 : decode cX12_join 33 = .ok (.goto 4, 3) := by decide +kernel
theorem dX12_join_36 : decode cX12_join 36 = .ok (.iconst 0, 1) := by decide +kernel
theorem dX12_join_37 : decode cX12_join 37 = .ok (.iadd, 1) := by decide +kernel
theorem dX12_join_38 : decode cX12_join 38 = .ok (.iload_n 1, 1) := by decide +kernel
theorem dX12_join_39 : decode cX12_join 39 = .ok (.iconst 4, 1) := by decide +kernel
theorem dX12_join_40 : decode cX12_join 40 = .ok (.if_icmp .ne 13, 3) := by decide +kernel
theorem dX12_join_43 : decode cX12_join 43 = .ok (.iload 4, 2) := by decide +kernel
theorem dX12_join_45 : decode cX12_join 45 = .ok (.iconst (-1), 1) := by decide +kernel
theorem dX12_join_46 : decode cX12_join 46 = .ok (.if_icmp .ne 7, 3) := by decide +kernel
theorem dX12_join_49 : decode cX12_join 49 = .ok (.iconst 1, 1) := by decide +kernel
theorem dX12_join_50 : decode cX12_join 50 = .ok (.goto 4, 3) := by decide +kernel
theorem dX12_join_53 : decode cX12_join 53 = .ok (.iconst 0, 1) := by decide +kernel
theorem dX12_join_54 : decode cX12_join 54 = .ok (.iadd, 1) := by decide +kernel
theorem dX12_join_55 : decode cX12_join 55 = .ok (.istore 6, 2) := by decide +kernel
theorem dX12_join_57 : decode cX12_join 57 = .ok (.iload_n 1, 1) := by decide +kernel
theorem dX12_join_58 : decode cX12_join 58 = .ok (.i2l, 1) := by decide +kernel
theorem dX12_join_59 : decode cX12_join 59 = .ok (.lconst 1, 1) := by decide +kernel
theorem dX12_join_60 : decode cX12_join 60 = .ok (.ldc2_w 472, 3) := by decide +kernel
theorem dX12_join_63 : decode cX12_join 63 = .ok (.invokestatic 372, 3) := by decide +kernel
theorem dX12_join_66 : decode cX12_join 66 = .ok (.ifCond .eq 53, 3) := by decide +kernel
theorem dX12_join_69 : decode cX12_join 69 = .ok (.iload_n 2, 1) := by decide +kernel
theorem dX12_join_70 : decode cX12_join 70 = .ok (.iconst (-1), 1) := by decide +kernel
theorem dX12_join_71 : decode cX12_join 71 = .ok (.if_icmp .eq 11, 3) := by decide +kernel
theorem dX12_join_74 : decode cX12_join 74 = .ok (.aload_n 0, 1) := by decide +kernel
theorem dX12_join_75 : decode cX12_join 75 = .ok (.iload_n 2, 1) := by decide +kernel
theorem dX12_join_76 : decode cX12_join 76 = .ok (.invokevirtual 474, 3) := by decide +kernel
theorem dX12_join_79 : decode cX12_join 79 = .ok (.ifCond .eq 40, 3) := by decide +kernel
theorem dX12_join_82 : decode cX12_join 82 = .ok (.iload_n 3, 1) := by decide +kernel
theorem dX12_join_83 : decode cX12_join 83 = .ok (.iconst (-1), 1) := by decide +kernel
theorem dX12_join_84 : decode cX12_join 84 = .ok (.if_icmp .eq 11, 3) := by decide +kernel
theorem dX12_join_87 : decode cX12_join 87 = .ok (.aload_n 0, 1) := by decide +kernel
theorem dX12_join_88 : decode cX12_join 88 = .ok (.iload_n 3, 1) := by decide +kernel
theorem dX12_join_89 : decode cX12_join 89 = .ok (.invokevirtual 474, 3) := by decide +kernel
theorem dX12_join_92 : decode cX12_join 92 = .ok (.ifCond .eq 27, 3) := by decide +kernel
theorem dX12_join_95 : decode cX12_join 95 = .ok (.iload 4, 2) := by decide +kernel
theorem dX12_join_97 : decode cX12_join 97 = .ok (.iconst (-1), 1) := by decide +kernel
theorem dX12_join_98 : decode cX12_join 98 = .ok (.if_icmp .eq 17, 3) := by decide +kernel
theorem dX12_join_101 : decode cX12_join 101 = .ok (.aload_n 0, 1) := by decide +kernel
theorem dX12_join_102 : decode cX12_join 102 = .ok (.iload 4, 2) := by decide +kernel
theorem dX12_join_104 : decode cX12_join 104 = .ok (.invokevirtual 474, 3) := by decide +kernel
theorem dX12_join_107 : decode cX12_join 107 = .ok (.ifCond .eq 12, 3) := by decide +kernel
theorem dX12_join_115 : decode cX12_join 115 = .ok (.iconst 1, 1) := by decide +kernel
theorem dX12_join_116 : decode cX12_join 116 = .ok (.goto 4, 3) := by decide +kernel
theorem dX12_join_119 : decode cX12_join 119 = .ok (.iconst 0, 1) := by decide +kernel
theorem dX12_join_120 : decode cX12_join 120 = .ok (.istore 7, 2) := by decide +kernel
theorem dX12_join_122 : decode cX12_join 122 = .ok (.iload_n 2, 1) := by decide +kernel
theorem dX12_join_123 : decode cX12_join 123 = .ok (.ifCond .lt 14, 3) := by decide +kernel
theorem dX12_join_126 : decode cX12_join 126 = .ok (.iload_n 2, 1) := by decide +kernel
theorem dX12_join_127 : decode cX12_join 127 = .ok (.iload_n 3, 1) := by decide +kernel
theorem dX12_join_128 : decode cX12_join 128 = .ok (.if_icmp .eq 19, 3) := by decide +kernel
theorem dX12_join_131 : decode cX12_join 131 = .ok (.iload_n 2, 1) := by decide +kernel
theorem dX12_join_132 : decode cX12_join 132 = .ok (.iload 4, 2) := by decide +kernel
theorem dX12_join_134 : decode cX12_join 134 = .ok (.if_icmp .eq 13, 3) := by decide +kernel
theorem dX12_join_137 : decode cX12_join 137 = .ok (.iload_n 3, 1) := by decide +kernel
theorem dX12_join_138 : decode cX12_join 138 = .ok (.ifCond .lt 13, 3) := by decide +kernel
theorem dX12_join_141 : decode cX12_join 141 = .ok (.iload_n 3, 1) := by decide +kernel
theorem dX12_join_142 : decode cX12_join 142 = .ok (.iload 4, 2) := by decide +kernel
theorem dX12_join_144 : decode cX12_join 144 = .ok (.if_icmp .ne 7, 3) := by decide +kernel
theorem dX12_join_147 : decode cX12_join 147 = .ok (.iconst 1, 1) := by decide +kernel
theorem dX12_join_148 : decode cX12_join 148 = .ok (.goto 4, 3) := by decide +kernel
theorem dX12_join_151 : decode cX12_join 151 = .ok (.iconst 0, 1) := by decide +kernel
theorem dX12_join_152 : decode cX12_join 152 = .ok (.istore 8, 2) := by decide +kernel
theorem dX12_join_154 : decode cX12_join 154 = .ok (.iload 7, 2) := by decide +kernel
theorem dX12_join_156 : decode cX12_join 156 = .ok (.ifCond .eq 23, 3) := by decide +kernel
theorem dX12_join_159 : decode cX12_join 159 = .ok (.iload 8, 2) := by decide +kernel
theorem dX12_join_161 : decode cX12_join 161 = .ok (.ifCond .ne 18, 3) := by decide +kernel
theorem dX12_join_164 : decode cX12_join 164 = .ok (.iload 6, 2) := by decide +kernel
theorem dX12_join_166 : decode cX12_join 166 = .ok (.iload 5, 2) := by decide +kernel
theorem dX12_join_168 : decode cX12_join 168 = .ok (.ifCond .eq 7, 3) := by decide +kernel
theorem dX12_join_171 : decode cX12_join 171 = .ok (.iconst 1, 1) := by decide +kernel
theorem dX12_join_172 : decode cX12_join 172 = .ok (.goto 4, 3) := by decide +kernel
theorem dX12_join_175 : decode cX12_join 175 = .ok (.iconst 0, 1) := by decide +kernel
theorem dX12_join_176 : decode cX12_join 176 = .ok (.if_icmp .le 6, 3) := by decide +kernel
theorem dX12_join_179 : decode cX12_join 179 = .ok (.bipush (-2), 2) := by decide +kernel
theorem dX12_join_181 : decode cX12_join 181 = .ok (.ireturn, 1) := by decide +kernel
set_option maxRecDepth 20000 in
theorem ggX12_blocks_X12_isVolume : GoodIn wsX12_blocks wsX12_isVolume := goodIn_r _ [6, 7, 8, 9, 5, 10, 11, 12, 13, 14, 15, 16, 17, 18, 19, 20, 21, 22, 23, 24, 25, 26, 27, 28, 29, 30, 31, 32, 33, 34, 35, 36, 37, 38, 39, 40, 41, 42, 43, 44, 45, 46, 47, 48, 49, 50, 51, 52, 53, 54, 55, 56, 57, 58, 59, 60, 61, 62, 63, 64, 65, 66, 67, 68, 69, 70, 71, 72, 73, 74, 75, 76, 77, 78, 79, 80, 81, 82, 83, 84, 85, 86, 87, 88, 89, 90, 91, 92, 93, 94, 95, 96, 97, 98, 99, 100, 101, 102, 103, 104, 105, 106, 107, 108, 109, 110, 111, 112, 113, 114, 115, 116, 117, 118, 119, 120, 121, 122, 123, 124, 125, 126, 127, 128, 129, 130, 131, 132, 133, 134, 135, 136, 137, 138, 139, 140, 141, 142, 143, 144, 145, 146, 147, 148, 149, 150, 151, 152, 153, 154, 155, 156, 157, 158, 159, 160, 161, 162, 163, 164, 165, 166, 167, 168, 169, 170, 171, 172, 173, 174, 175, 176, 177, 178, 179, 180, 181, 182] (by decide +kernel) (by decide +kernel)
set_option maxRecDepth 20000 in
theorem gX12_blocks_X12_isVolume : GoodIn wsX12_blocks (wsV RX12 474 RX12 yX12_isVolume wsX12_isVolume) := goodIn_app (goodIn_of _ (by decide +kernel)) ggX12_blocks_X12_isVolume
theorem dX12_blocks_0 : decode cX12_blocks 0 = .ok (.aload_n 0, 1) := by decide +kernel
theorem dX12_blocks_1 : decode cX12_blocks 1 = .ok (.iload_n 1, 1) := by decide +kernel
theorem dX12_blocks_2 : decode cX12_blocks 2 = .ok (.invokevirtual 474, 3) := by decide +kernel
theorem dX12_blocks_5 : decode cX12_blocks 5 = .ok (.ifCond .eq 12, 3) := by decide +kernel
theorem dX12_blocks_17 : decode cX12_blocks 17 = .ok (.bipush (-2), 2) := by decide +kernel
theorem dX12_blocks_19 : decode cX12_blocks 19 = .ok (.ireturn, 1) := by decide +kernel
set_option maxRecDepth 20000 in
theorem ggX12_volumeByte_X12_isVolume : GoodIn wsX12_volumeByte wsX12_isVolume := goodIn_r _ [7, 8, 9, 10, 6, 11, 48, 49, 50, 51, 52, 53, 54, 55, 56, 57, 58, 59, 60, 61, 62, 63, 64, 65, 66, 67, 68, 69, 70, 71, 72, 73, 74, 75, 76, 77, 78, 79, 80, 81, 82, 83, 84, 85, 86, 87, 88, 89, 90, 91, 92, 93, 94, 95, 96, 97, 98, 99, 100, 101, 102, 103, 104, 105, 106, 107, 108, 109, 110, 111, 112, 113, 114, 115, 116, 117, 118, 119, 120, 121, 122, 123, 124, 125, 126, 127, 128, 129, 130, 131, 132, 133, 134, 135, 136, 137, 138, 139, 140, 141, 142, 143, 144, 145, 146, 147, 148, 149, 150, 151, 152, 153, 154, 155, 156, 157, 158, 159, 160, 161, 162, 163, 164, 165, 166, 167, 168, 169, 170, 171, 172, 173, 174, 175, 176, 177, 178, 179, 180, 181, 182, 183, 184, 185, 186, 187, 188, 189, 190, 191, 192, 193, 194, 195, 196, 197, 198, 199, 200, 201, 202, 203, 204, 205, 206, 207, 208, 209, 210, 211, 212, 213, 214, 215, 216, 217, 218, 219] (by decide +kernel) (by decide +kernel)
set_option maxRecDepth 20000 in
theorem gX12_volumeByte_X12_isVolume : GoodIn wsX12_volumeByte (wsV RX12 474 RX12 yX12_isVolume wsX12_isVolume) := goodIn_app (goodIn_of _ (by decide +kernel)) ggX12_volumeByte_X12_isVolume
theorem dX12_volumeByte_0 : decode cX12_volumeByte 0 = .ok (.aload_n 0, 1) := by decide +kernel
theorem dX12_volumeByte_1 : decode cX12_volumeByte 1 = .ok (.iload_n 1, 1) := by decide +kernel
theorem dX12_volumeByte_2 : decode cX12_volumeByte 2 = .ok (.invokevirtual 474, 3) := by decide +kernel
theorem dX12_volumeByte_5 : decode cX12_volumeByte 5 = .ok (.ifCond .eq 24, 3) := by decide +kernel
theorem dX12_volumeByte_29 : decode cX12_volumeByte 29 = .ok (.bipush (-2), 2) := by decide +kernel
theorem dX12_volumeByte_31 : decode cX12_volumeByte 31 = .ok (.ireturn, 1) := by decide +kernel
set_option maxRecDepth 20000 in
theorem ggX12_where_X12_isVolume : GoodIn wsX12_where wsX12_isVolume := goodIn_r _ [11, 12, 13, 14, 10, 15, 24, 25, 26, 27, 28, 29, 30, 31, 32, 33, 34, 35, 36, 37, 38, 39, 40, 41, 42, 43, 44, 45, 46, 47, 48, 49, 50, 51, 52, 53, 54, 55, 56, 57, 58, 59, 60, 61, 62, 63, 64, 65, 66, 67, 68, 69, 70, 71, 72, 73, 74, 75, 76, 77, 78, 79, 80, 81, 82, 83, 84, 85, 86, 87, 88, 89, 90, 91, 92, 93, 94, 95, 96, 97, 98, 99, 100, 101, 102, 103, 104, 105, 106, 107, 108, 109, 110, 111, 112, 113, 114, 115, 116, 117, 118, 119, 120, 121, 122, 123, 124, 125, 126, 127, 128, 129, 130, 131, 132, 133, 134, 135, 136, 137, 138, 139, 140, 141, 142, 143, 144, 145, 146, 147, 148, 149, 150, 151, 152, 153, 154, 155, 156, 157, 158, 159, 160, 161, 162, 163, 164, 165, 166, 167, 168, 169, 170, 171, 172, 173, 174, 175, 176, 177, 178, 179, 180, 181, 182, 183, 184, 185, 186, 187, 188, 189, 190, 191, 192, 193, 194, 195] (by decide +kernel) (by decide +kernel)
set_option maxRecDepth 20000 in
theorem gX12_where_X12_isVolume : GoodIn wsX12_where (wsV RX12 474 RX12 yX12_isVolume wsX12_isVolume) := goodIn_app (goodIn_of _ (by decide +kernel)) ggX12_where_X12_isVolume
theorem dX12_where_0 : decode cX12_where 0 = .ok (.aload_n 0, 1) := by decide +kernel
theorem dX12_where_1 : decode cX12_where 1 = .ok (.iload_n 1, 1) := by decide +kernel
theorem dX12_where_2 : decode cX12_where 2 = .ok (.invokevirtual 474, 3) := by decide +kernel
theorem dX12_where_5 : decode cX12_where 5 = .ok (.ifCond .eq 21, 3) := by decide +kernel
theorem dX12_where_26 : decode cX12_where 26 = .ok (.bipush (-2), 2) := by decide +kernel
theorem dX12_where_28 : decode cX12_where 28 = .ok (.ireturn, 1) := by decide +kernel
set_option maxRecDepth 20000 in
theorem ggX12_format_X12_isVolume : GoodIn wsX12_format wsX12_isVolume := goodIn_r _ [18, 19, 20, 21, 17, 22, 125, 126, 127, 128, 129, 130, 131, 132, 133, 134, 135, 136, 137, 138, 139, 140, 141, 142, 143, 144, 145, 146, 147, 148, 149, 150, 151, 152, 153, 154, 155, 156, 157, 158, 159, 160, 161, 162, 163, 164, 165, 166, 167, 168, 169, 170, 171, 172, 173, 174, 175, 176, 177, 178, 179, 180, 181, 182, 183, 184, 185, 186, 187, 188, 189, 190, 191, 192, 193, 194, 195, 196, 197, 198, 199, 200, 201, 202, 203, 204, 205, 206, 207, 208, 209, 210, 211, 212, 213, 214, 215, 216, 217, 218, 219, 220, 221, 222, 223, 224, 225, 226, 227, 228, 229, 230, 231, 232, 233, 234, 235, 236, 237, 238, 239, 240, 241, 242, 243, 244, 245, 246, 247, 248, 249, 250, 251, 252, 253, 254, 255, 256, 257, 258, 259, 260, 261, 262, 263, 264, 265, 266, 267, 268, 269, 270, 271, 272, 273, 274, 275, 276, 277, 278, 279, 280, 281, 282, 283, 284, 285, 286, 287, 288, 289, 290, 291, 292, 293, 294, 295, 296] (by decide +kernel) (by decide +kernel)
set_option maxRecDepth 20000 in
theorem gX12_format_X12_isVolume : GoodIn wsX12_format (wsV RX12 474 RX12 yX12_isVolume wsX12_isVolume) := goodIn_app (goodIn_of _ (by decide +kernel)) ggX12_format_X12_isVolume
theorem dX12_format_0 : decode cX12_format 0 = .ok (.aload_n 0, 1) := by decide +kernel
theorem dX12_format_1 : decode cX12_format 1 = .ok (.iload_n 1, 1) := by decide +kernel
theorem dX12_format_2 : decode cX12_format 2 = .ok (.invokevirtual 474, 3) := by decide +kernel
theorem dX12_format_5 : decode cX12_format 5 = .ok (.ifCond .eq 15, 3) := by decide +kernel
theorem dX12_format_20 : decode cX12_format 20 = .ok (.bipush (-2), 2) := by decide +kernel
theorem dX12_format_22 : decode cX12_format 22 = .ok (.ireturn, 1) := by decide +kernel
set_option maxRecDepth 20000 in
theorem ggX12_save_X12_isVolume : GoodIn wsX12_save wsX12_isVolume := goodIn_r _ [6, 7, 8, 9, 5, 10, 347, 348, 349, 350, 351, 352, 353, 354, 355, 356, 357, 358, 359, 360, 361, 362, 363, 364, 365, 366, 367, 368, 369, 370, 371, 372, 373, 374, 375, 376, 377, 378, 379, 380, 381, 382, 383, 384, 385, 386, 387, 388, 389, 390, 391, 392, 393, 394, 395, 396, 397, 398, 399, 400, 401, 402, 403, 404, 405, 406, 407, 408, 409, 410, 411, 412, 413, 414, 415, 416, 417, 418, 419, 420, 421, 422, 423, 424, 425, 426, 427, 428, 429, 430, 431, 432, 433, 434, 435, 436, 437, 438, 439, 440, 441, 442, 443, 444, 445, 446, 447, 448, 449, 450, 451, 452, 453, 454, 455, 456, 457, 458, 459, 460, 461, 462, 463, 464, 465, 466, 467, 468, 469, 470, 471, 472, 473, 474, 475, 476, 477, 478, 479, 480, 481, 482, 483, 484, 485, 486, 487, 488, 489, 490, 491, 492, 493, 494, 495, 496, 497, 498, 499, 500, 501, 502, 503, 504, 505, 506, 507, 508, 509, 510, 511, 512, 513, 514, 515, 516, 517, 518] (by decide +kernel) (by decide +kernel)
set_option maxRecDepth 20000 in
theorem gX12_save_X12_isVolume : GoodIn wsX12_save (wsV RX12 474 RX12 yX12_isVolume wsX12_isVolume) := goodIn_app (goodIn_of _ (by decide +kernel)) ggX12_save_X12_isVolume
theorem dX12_save_0 : decode cX12_save 0 = .ok (.aload_n 0, 1) := by decide +kernel
theorem dX12_save_1 : decode cX12_save 1 = .ok (.iload_n 1, 1) := by decide +kernel
theorem dX12_save_2 : decode cX12_save 2 = .ok (.invokevirtual 474, 3) := by decide +kernel
theorem dX12_save_5 : decode cX12_save 5 = .ok (.ifCond .ne 6, 3) := by decide +kernel
theorem dX12_save_8 : decode cX12_save 8 = .ok (.bipush (-2), 2) := by decide +kernel
theorem dX12_save_10 : decode cX12_save 10 = .ok (.ireturn, 1) := by decide +kernel
set_option maxRecDepth 20000 in
theorem ggX12_folder_X12_isVolume : GoodIn wsX12_folder wsX12_isVolume := goodIn_r _ [6, 7, 8, 9, 5, 10, 347, 348, 349, 350, 351, 352, 353, 354, 355, 356, 357, 358, 359, 360, 361, 362, 363, 364, 365, 366, 367, 368, 369, 370, 371, 372, 373, 374, 375, 376, 377, 378, 379, 380, 381, 382, 383, 384, 385, 386, 387, 388, 389, 390, 391, 392, 393, 394, 395, 396, 397, 398, 399, 400, 401, 402, 403, 404, 405, 406, 407, 408, 409, 410, 411, 412, 413, 414, 415, 416, 417, 418, 419, 420, 421, 422, 423, 424, 425, 426, 427, 428, 429, 430, 431, 432, 433, 434, 435, 436, 437, 438, 439, 440, 441, 442, 443, 444, 445, 446, 447, 448, 449, 450, 451, 452, 453, 454, 455, 456, 457, 458, 459, 460, 461, 462, 463, 464, 465, 466, 467, 468, 469, 470, 471, 472, 473, 474, 475, 476, 477, 478, 479, 480, 481, 482, 483, 484, 485, 486, 487, 488, 489, 490, 491, 492, 493, 494, 495, 496, 497, 498, 499, 500, 501, 502, 503, 504, 505, 506, 507, 508, 509, 510, 511, 512, 513, 514, 515, 516, 517, 518] (by decide +kernel) (by decide +kernel)
set_option maxRecDepth 20000 in
theorem gX12_folder_X12_isVolume : GoodIn wsX12_folder (wsV RX12 474 RX12 yX12_isVolume wsX12_isVolume) := goodIn_app (goodIn_of _ (by decide +kernel)) ggX12_folder_X12_isVolume
theorem dX12_folder_0 : decode cX12_folder 0 = .ok (.aload_n 0, 1) := by decide +kernel
theorem dX12_folder_1 : decode cX12_folder 1 = .ok (.iload_n 1, 1) := by decide +kernel
theorem dX12_folder_2 : decode cX12_folder 2 = .ok (.invokevirtual 474, 3) := by decide +kernel
theorem dX12_folder_5 : decode cX12_folder 5 = .ok (.ifCond .ne 6, 3) := by decide +kernel
theorem dX12_folder_8 : decode cX12_folder 8 = .ok (.bipush (-2), 2) := by decide +kernel
theorem dX12_folder_10 : decode cX12_folder 10 = .ok (.ireturn, 1) := by decide +kernel
set_option maxRecDepth 20000 in
theorem ggX12_erase_X12_isVolume : GoodIn wsX12_erase wsX12_isVolume := goodIn_r _ [6, 7, 8, 9, 5, 10, 283, 284, 285, 286, 287, 288, 289, 290, 291, 292, 293, 294, 295, 296, 297, 298, 299, 300, 301, 302, 303, 304, 305, 306, 307, 308, 309, 310, 311, 312, 313, 314, 315, 316, 317, 318, 319, 320, 321, 322, 323, 324, 325, 326, 327, 328, 329, 330, 331, 332, 333, 334, 335, 336, 337, 338, 339, 340, 341, 342, 343, 344, 345, 346, 347, 348, 349, 350, 351, 352, 353, 354, 355, 356, 357, 358, 359, 360, 361, 362, 363, 364, 365, 366, 367, 368, 369, 370, 371, 372, 373, 374, 375, 376, 377, 378, 379, 380, 381, 382, 383, 384, 385, 386, 387, 388, 389, 390, 391, 392, 393, 394, 395, 396, 397, 398, 399, 400, 401, 402, 403, 404, 405, 406, 407, 408, 409, 410, 411, 412, 413, 414, 415, 416, 417, 418, 419, 420, 421, 422, 423, 424, 425, 426, 427, 428, 429, 430, 431, 432, 433, 434, 435, 436, 437, 438, 439, 440, 441, 442, 443, 444, 445, 446, 447, 448, 449, 450, 451, 452, 453, 454] (by decide +kernel) (by decide +kernel)
set_option maxRecDepth 20000 in
theorem gX12_erase_X12_isVolume : GoodIn wsX12_erase (wsV RX12 474 RX12 yX12_isVolume wsX12_isVolume) := goodIn_app (goodIn_of _ (by decide +kernel)) ggX12_erase_X12_isVolume
theorem dX12_erase_0 : decode cX12_erase 0 = .ok (.aload_n 0, 1) := by decide +kernel
theorem dX12_erase_1 : decode cX12_erase 1 = .ok (.iload_n 1, 1) := by decide +kernel
theorem dX12_erase_2 : decode cX12_erase 2 = .ok (.invokevirtual 474, 3) := by decide +kernel
theorem dX12_erase_5 : decode cX12_erase 5 = .ok (.ifCond .ne 6, 3) := by decide +kernel
theorem dX12_erase_8 : decode cX12_erase 8 = .ok (.bipush (-2), 2) := by decide +kernel
theorem dX12_erase_10 : decode cX12_erase 10 = .ok (.ireturn, 1) := by decide +kernel
set_option maxRecDepth 20000 in
theorem ggX12_isTree_X12_in : GoodIn wsX12_isTree wsX12_in := goodIn_r _ [5] (by decide +kernel) (by decide +kernel)
set_option maxRecDepth 20000 in
theorem gX12_isTree_X12_in : GoodIn wsX12_isTree (va_wsS RX12 372 yX12_in wsX12_in) := goodIn_app (goodIn_of _ (by decide +kernel)) ggX12_isTree_X12_in
theorem dX12_isTree_0 : decode cX12_isTree 0 = .ok (.iload_n 1, 1) := by decide +kernel
theorem dX12_isTree_1 : decode cX12_isTree 1 = .ok (.i2l, 1) := by decide +kernel
theorem dX12_isTree_2 : decode cX12_isTree 2 = .ok (.lconst 0, 1) := by decide +kernel
theorem dX12_isTree_3 : decode cX12_isTree 3 = .ok (.aload_n 0, 1) := by decide +kernel
theorem dX12_isTree_4 : decode cX12_isTree 4 = .ok (.getfield 794, 3) := by decide +kernel
theorem dX12_isTree_7 : decode cX12_isTree 7 = .ok (.iconst 1, 1) := by decide +kernel
theorem dX12_isTree_8 : decode cX12_isTree 8 = .ok (.isub, 1) := by decide +kernel
theorem dX12_isTree_9 : decode cX12_isTree 9 = .ok (.i2l, 1) := by decide +kernel
theorem dX12_isTree_10 : decode cX12_isTree 10 = .ok (.invokestatic 372, 3) := by decide +kernel
theorem dX12_isTree_13 : decode cX12_isTree 13 = .ok (.ireturn, 1) := by decide +kernel
set_option maxRecDepth 20000 in
theorem ggX12_isFile_X12_isTree : GoodIn wsX12_isFile wsX12_isTree := goodIn_r _ [5, 6, 7, 8, 4, 9, 18, 19, 20, 21, 22, 23, 24, 25, 26, 27, 28, 29, 30, 31, 32, 33, 34, 35, 36, 37, 38, 39, 40, 41, 42, 43, 44, 45, 46, 47, 48, 49, 50, 51, 52, 53, 54, 55, 56, 57, 58, 59, 60, 61, 62, 63, 64, 65, 66, 67, 68, 69, 70, 71, 72, 73, 74, 75, 76, 77, 78, 79, 80, 81, 82, 83, 84, 85, 86, 87, 88, 89, 90, 91, 92, 93, 94, 95, 96, 97, 98, 99, 100, 101, 102, 103, 104, 105, 106, 107, 108, 109, 110, 111, 112, 113, 114, 115, 116, 117, 118, 119, 120, 121, 122, 123, 124, 125, 126, 127, 128, 129, 130, 131, 132, 133, 134, 135, 136, 137, 138, 139, 140, 141, 142, 143, 144, 145, 146, 147, 148, 149, 150, 151, 152, 153, 154, 155, 156, 157, 158, 159, 160, 161, 162, 163, 164, 165, 166, 167, 168, 169, 170, 171, 172, 173, 174, 175, 176, 177, 178, 179, 180, 181, 182, 183, 184, 185, 186, 187, 188, 189] (by decide +kernel) (by decide +kernel)
set_option maxRecDepth 20000 in
theorem gX12_isFile_X12_isTree : GoodIn wsX12_isFile (wsV RX12 797 RX12 yX12_isTree wsX12_isTree) := goodIn_app (goodIn_of _ (by decide +kernel)) ggX12_isFile_X12_isTree
theorem dX12_isFile_0 : decode cX12_isFile 0 = .ok (.aload_n 0, 1) := by decide +kernel
theorem dX12_isFile_1 : decode cX12_isFile 1 = .ok (.iload_n 1, 1) := by decide +kernel
theorem dX12_isFile_2 : decode cX12_isFile 2 = .ok (.invokevirtual 797, 3) := by decide +kernel
theorem dX12_isFile_5 : decode cX12_isFile 5 = .ok (.ifCond .eq 24, 3) := by decide +kernel
theorem dX12_isFile_29 : decode cX12_isFile 29 = .ok (.iconst 0, 1) := by decide +kernel
theorem dX12_isFile_30 : decode cX12_isFile 30 = .ok (.ireturn, 1) := by decide +kernel
set_option maxRecDepth 20000 in
theorem ggX12_mount_X12_isVolume : GoodIn wsX12_mount wsX12_isVolume := goodIn_r _ [24, 25, 26, 27, 23, 28, 403, 404, 405, 406, 407, 408, 409, 410, 411, 412, 413, 414, 415, 416, 417, 418, 419, 420, 421, 422, 423, 424, 425, 426, 427, 428, 429, 430, 431, 432, 433, 434, 435, 436, 437, 438, 439, 440, 441, 442, 443, 444, 445, 446, 447, 448, 449, 450, 451, 452, 453, 454, 455, 456, 457, 458, 459, 460, 461, 462, 463, 464, 465, 466, 467, 468, 469, 470, 471, 472, 473, 474, 475, 476, 477, 478, 479, 480, 481, 482, 483, 484, 485, 486, 487, 488, 489, 490, 491, 492, 493, 494, 495, 496, 497, 498, 499, 500, 501, 502, 503, 504, 505, 506, 507, 508, 509, 510, 511, 512, 513, 514, 515, 516, 517, 518, 519, 520, 521, 522, 523, 524, 525, 526, 527, 528, 529, 530, 531, 532, 533, 534, 535, 536, 537, 538, 539, 540, 541, 542, 543, 544, 545, 546, 547, 548, 549, 550, 551, 552, 553, 554, 555, 556, 557, 558, 559, 560, 561, 562, 563, 564, 565, 566, 567, 568, 569, 570, 571, 572, 573, 574] (by decide +kernel) (by decide +kernel)
set_option maxRecDepth 20000 in
theorem gX12_mount_X12_isVolume : GoodIn wsX12_mount (wsV RX12 474 RX12 yX12_isVolume wsX12_isVolume) := goodIn_app (goodIn_of _ (by decide +kernel)) ggX12_mount_X12_isVolume
theorem dX12_mount_0 : decode cX12_mount 0 = .ok (.aload_n 0, 1) := by decide +kernel
theorem dX12_mount_1 : decode cX12_mount 1 = .ok (.iload_n 1, 1) := by decide +kernel
theorem dX12_mount_2 : decode cX12_mount 2 = .ok (.invokevirtual 474, 3) := by decide +kernel
theorem dX12_mount_5 : decode cX12_mount 5 = .ok (.ifCond .ne 6, 3) := by decide +kernel
theorem dX12_mount_8 : decode cX12_mount 8 = .ok (.bipush (-2), 2) := by decide +kernel
theorem dX12_mount_10 : decode cX12_mount 10 = .ok (.ireturn, 1) := by decide +kernel
set_option maxRecDepth 20000 in
theorem ggX12_open_X12_isFile : GoodIn wsX12_open wsX12_isFile := goodIn_r _ [18, 19, 20, 21, 17, 22, 23, 24, 25, 26, 27, 28, 29, 30, 31, 32, 33, 34, 141, 142, 143, 144, 145, 146, 147, 148, 149, 150, 151, 152, 153, 154, 155, 156, 157, 158, 159, 160, 161, 162, 163, 164, 165, 166, 167, 168, 169, 170, 171, 172, 173, 174, 175, 176, 177, 178, 179, 180, 181, 182, 183, 184, 185, 186, 187, 188, 189, 190, 191, 192, 193, 194, 195, 196, 197, 198, 199, 200, 201, 202, 203, 204, 205, 206, 207, 208, 209, 210, 211, 212, 213, 214, 215, 216, 217, 218, 219, 220, 221, 222, 223, 224, 225, 226, 227, 228, 229, 230, 231, 232, 233, 234, 235, 236, 237, 238, 239, 240, 241, 242, 243, 244, 245, 246, 247, 248, 249, 250, 251, 252, 253, 254, 255, 256, 257, 258, 259, 260, 261, 262, 263, 264, 265, 266, 267, 268, 269, 270, 271, 272, 273, 274, 275, 276, 277, 278, 279, 280, 281, 282, 283, 284, 285, 286, 287, 288, 289, 290, 291, 292, 293, 294, 295, 296, 297, 298, 299, 300, 301, 302, 303, 304, 305, 306, 307, 308, 309, 310, 311, 312] (by decide +kernel) (by decide +kernel)
set_option maxRecDepth 20000 in
theorem gX12_open_X12_isFile : GoodIn wsX12_open (wsV RX12 980 RX12 yX12_isFile wsX12_isFile) := goodIn_app (goodIn_of _ (by decide +kernel)) ggX12_open_X12_isFile
theorem dX12_open_0 : decode cX12_open 0 = .ok (.aload_n 0, 1) := by decide +kernel
theorem dX12_open_1 : decode cX12_open 1 = .ok (.iload_n 1, 1) := by decide +kernel
theorem dX12_open_2 : decode cX12_open 2 = .ok (.iload_n 2, 1) := by decide +kernel
theorem dX12_open_3 : decode cX12_open 3 = .ok (.invokevirtual 980, 3) := by decide +kernel
theorem dX12_open_6 : decode cX12_open 6 = .ok (.ifCond .ne 6, 3) := by decide +kernel
theorem dX12_open_9 : decode cX12_open 9 = .ok (.bipush (-2), 2) := by decide +kernel
theorem dX12_open_11 : decode cX12_open 11 = .ok (.ireturn, 1) := by decide +kernel
set_option maxRecDepth 20000 in
theorem ggX12_isOpen_X12_in : GoodIn wsX12_isOpen wsX12_in := goodIn_r _ [5] (by decide +kernel) (by decide +kernel)
set_option maxRecDepth 20000 in
theorem gX12_isOpen_X12_in : GoodIn wsX12_isOpen (va_wsS RX12 372 yX12_in wsX12_in) := goodIn_app (goodIn_of _ (by decide +kernel)) ggX12_isOpen_X12_in
theorem dX12_isOpen_0 : decode cX12_isOpen 0 = .ok (.iload_n 1, 1) := by decide +kernel
theorem dX12_isOpen_1 : decode cX12_isOpen 1 = .ok (.i2l, 1) := by decide +kernel
theorem dX12_isOpen_2 : decode cX12_isOpen 2 = .ok (.lconst 0, 1) := by decide +kernel
theorem dX12_isOpen_3 : decode cX12_isOpen 3 = .ok (.aload_n 0, 1) := by decide +kernel
theorem dX12_isOpen_4 : decode cX12_isOpen 4 = .ok (.getfield 983, 3) := by decide +kernel
theorem dX12_isOpen_7 : decode cX12_isOpen 7 = .ok (.iconst 1, 1) := by decide +kernel
theorem dX12_isOpen_8 : decode cX12_isOpen 8 = .ok (.isub, 1) := by decide +kernel
theorem dX12_isOpen_9 : decode cX12_isOpen 9 = .ok (.i2l, 1) := by decide +kernel
theorem dX12_isOpen_10 : decode cX12_isOpen 10 = .ok (.invokestatic 372, 3) := by decide +kernel
theorem dX12_isOpen_13 : decode cX12_isOpen 13 = .ok (.ireturn, 1) := by decide +kernel
set_option maxRecDepth 20000 in
theorem ggX12_isPoint_X12_isOpen : GoodIn wsX12_isPoint wsX12_isOpen := goodIn_r _ [6, 7, 8, 9, 5, 10, 11, 12, 13, 14, 15, 16, 17, 18, 19, 20, 21, 22, 23, 24, 25, 26, 27, 28, 29, 30, 31, 32, 33, 34, 35, 36, 37, 38, 39, 40, 41, 42, 43, 44, 45, 46, 47, 48, 49, 50, 51, 52, 53, 54, 55, 56, 57, 58, 59, 60, 61, 62, 63, 64, 65, 66, 67, 68, 69, 70, 71, 72, 73, 74, 75, 76, 77, 78, 79, 80, 81, 82, 83, 84, 85, 86, 87, 88, 89, 90, 91, 92, 93, 94, 95, 96, 97, 98, 99, 100, 101, 102, 103, 104, 105, 106, 107, 108, 109, 110, 111, 112, 113, 114, 115, 116, 117, 118, 119, 120, 121, 122, 123, 124, 125, 126, 127, 128, 129, 130, 131, 132, 133, 134, 135, 136, 137, 138, 139, 140, 141, 142, 143, 144, 145, 146, 147, 148, 149, 150, 151, 152, 153, 154, 155, 156, 157, 158, 159, 160, 161, 162, 163, 164, 165, 166, 167, 168, 169, 170, 171, 172, 173, 174, 175, 176, 177, 178, 179, 180, 181, 182] (by decide +kernel) (by decide +kernel)
set_option maxRecDepth 20000 in
theorem gX12_isPoint_X12_isOpen : GoodIn wsX12_isPoint (wsV RX12 993 RX12 yX12_isOpen wsX12_isOpen) := goodIn_app (goodIn_of _ (by decide +kernel)) ggX12_isPoint_X12_isOpen
theorem dX12_isPoint_0 : decode cX12_isPoint 0 = .ok (.aload_n 0, 1) := by decide +kernel
theorem dX12_isPoint_1 : decode cX12_isPoint 1 = .ok (.iload_n 1, 1) := by decide +kernel
theorem dX12_isPoint_2 : decode cX12_isPoint 2 = .ok (.invokevirtual 993, 3) := by decide +kernel
theorem dX12_isPoint_5 : decode cX12_isPoint 5 = .ok (.ifCond .eq 25, 3) := by decide +kernel
theorem dX12_isPoint_30 : decode cX12_isPoint 30 = .ok (.iconst 0, 1) := by decide +kernel
theorem dX12_isPoint_31 : decode cX12_isPoint 31 = .ok (.ireturn, 1) := by decide +kernel
set_option maxRecDepth 20000 in
theorem ggX12_node_X12_isPoint : GoodIn wsX12_node wsX12_isPoint := goodIn_r _ [10, 11, 12, 13, 14, 9, 15, 16, 17, 18, 19, 20, 21, 22, 23, 24, 25, 26, 27, 28, 29, 30, 31, 32, 33, 34, 35, 36, 37, 38, 39, 40, 41, 42, 43, 44, 45, 46, 47, 48, 49, 50, 51, 52, 53, 54, 55, 56, 57, 58, 59, 60, 61, 62, 63, 64, 65, 66, 67, 68, 69, 70, 71, 72, 73, 74, 75, 76, 77, 78, 79, 80, 81, 82, 83, 84, 85, 86, 87, 88, 89, 90, 91, 92, 93, 94, 95, 96, 97, 98, 99, 100, 101, 102, 103, 104, 105, 106, 107, 108, 109, 110, 111, 112, 113, 114, 115, 116, 117, 118, 119, 120, 121, 122, 123, 124, 125, 126, 127, 128, 129, 130, 131, 132, 133, 134, 135, 136, 137, 138, 139, 140, 141, 142, 143, 144, 145, 146, 147, 148, 149, 150, 151, 152, 153, 154, 155, 156, 157, 158, 159, 160, 161, 162, 163, 164, 165, 166, 167, 168, 169, 170, 171, 172, 173, 174, 175, 176, 177, 178, 179, 180, 181, 182, 183, 184, 185, 186, 187, 188, 189, 190, 191] (by decide +kernel) (by decide +kernel)
set_option maxRecDepth 20000 in
theorem gX12_node_X12_isPoint : GoodIn wsX12_node (wsV RX12 996 RX12 yX12_isPoint wsX12_isPoint) := goodIn_app (goodIn_of _ (by decide +kernel)) ggX12_node_X12_isPoint
theorem dX12_node_0 : decode cX12_node 0 = .ok (.aload_n 0, 1) := by decide +kernel
theorem dX12_node_1 : decode cX12_node 1 = .ok (.iload_n 1, 1) := by decide +kernel
theorem dX12_node_2 : decode cX12_node 2 = .ok (.iload_n 2, 1) := by decide +kernel
theorem dX12_node_3 : decode cX12_node 3 = .ok (.invokevirtual 996, 3) := by decide +kernel
theorem dX12_node_6 : decode cX12_node 6 = .ok (.ifCond .ne 6, 3) := by decide +kernel
theorem dX12_node_9 : decode cX12_node 9 = .ok (.bipush (-2), 2) := by decide +kernel
theorem dX12_node_11 : decode cX12_node 11 = .ok (.ireturn, 1) := by decide +kernel
set_option maxRecDepth 20000 in
theorem ggX12_opened_X12_isOpen : GoodIn wsX12_opened wsX12_isOpen := goodIn_r _ [8, 9, 10, 11, 7, 12, 20, 21, 22, 23, 24, 25, 26, 27, 28, 29, 30, 31, 32, 33, 34, 35, 36, 37, 38, 39, 40, 41, 42, 43, 44, 45, 46, 47, 48, 49, 50, 51, 52, 53, 54, 55, 56, 57, 58, 59, 60, 61, 62, 63, 64, 65, 66, 67, 68, 69, 70, 71, 72, 73, 74, 75, 76, 77, 78, 79, 80, 81, 82, 83, 84, 85, 86, 87, 88, 89, 90, 91, 92, 93, 94, 95, 96, 97, 98, 99, 100, 101, 102, 103, 104, 105, 106, 107, 108, 109, 110, 111, 112, 113, 114, 115, 116, 117, 118, 119, 120, 121, 122, 123, 124, 125, 126, 127, 128, 129, 130, 131, 132, 133, 134, 135, 136, 137, 138, 139, 140, 141, 142, 143, 144, 145, 146, 147, 148, 149, 150, 151, 152, 153, 154, 155, 156, 157, 158, 159, 160, 161, 162, 163, 164, 165, 166, 167, 168, 169, 170, 171, 172, 173, 174, 175, 176, 177, 178, 179, 180, 181, 182, 183, 184, 185, 186, 187, 188, 189, 190, 191] (by decide +kernel) (by decide +kernel)
set_option maxRecDepth 20000 in
theorem gX12_opened_X12_isOpen : GoodIn wsX12_opened (wsV RX12 993 RX12 yX12_isOpen wsX12_isOpen) := goodIn_app (goodIn_of _ (by decide +kernel)) ggX12_opened_X12_isOpen
theorem dX12_opened_0 : decode cX12_opened 0 = .ok (.aload_n 0, 1) := by decide +kernel
theorem dX12_opened_1 : decode cX12_opened 1 = .ok (.iload_n 1, 1) := by decide +kernel
theorem dX12_opened_2 : decode cX12_opened 2 = .ok (.invokevirtual 993, 3) := by decide +kernel
theorem dX12_opened_5 : decode cX12_opened 5 = .ok (.ifCond .ne 6, 3) := by decide +kernel
theorem dX12_opened_8 : decode cX12_opened 8 = .ok (.bipush (-2), 2) := by decide +kernel
theorem dX12_opened_10 : decode cX12_opened 10 = .ok (.ireturn, 1) := by decide +kernel
set_option maxRecDepth 20000 in
theorem ggX12_inside_X12_isPoint : GoodIn wsX12_inside wsX12_isPoint := goodIn_r _ [23, 24, 25, 26, 27, 22, 28, 29, 30, 31, 32, 76, 77, 78, 79, 80, 81, 82, 83, 84, 85, 86, 87, 88, 89, 90, 91, 92, 93, 94, 95, 96, 97, 98, 99, 100, 101, 102, 103, 104, 105, 106, 107, 108, 109, 110, 111, 112, 113, 114, 115, 116, 117, 118, 119, 120, 121, 122, 123, 124, 125, 126, 127, 128, 129, 130, 131, 132, 133, 134, 135, 136, 137, 138, 139, 140, 141, 142, 143, 144, 145, 146, 147, 148, 149, 150, 151, 152, 153, 154, 155, 156, 157, 158, 159, 160, 161, 162, 163, 164, 165, 166, 167, 168, 169, 170, 171, 172, 173, 174, 175, 176, 177, 178, 179, 180, 181, 182, 183, 184, 185, 186, 187, 188, 189, 190, 191, 192, 193, 194, 195, 196, 197, 198, 199, 200, 201, 202, 203, 204, 205, 206, 207, 208, 209, 210, 211, 212, 213, 214, 215, 216, 217, 218, 219, 220, 221, 222, 223, 224, 225, 226, 227, 228, 229, 230, 231, 232, 233, 234, 235, 236, 237, 238, 239, 240, 241, 242, 243, 244, 245, 246, 247] (by decide +kernel) (by decide +kernel)
set_option maxRecDepth 20000 in
theorem gX12_inside_X12_isPoint : GoodIn wsX12_inside (wsV RX12 996 RX12 yX12_isPoint wsX12_isPoint) := goodIn_app (goodIn_of _ (by decide +kernel)) ggX12_inside_X12_isPoint
theorem dX12_inside_0 : decode cX12_inside 0 = .ok (.aload_n 0, 1) := by decide +kernel
theorem dX12_inside_1 : decode cX12_inside 1 = .ok (.iload_n 1, 1) := by decide +kernel
theorem dX12_inside_2 : decode cX12_inside 2 = .ok (.iload_n 2, 1) := by decide +kernel
theorem dX12_inside_3 : decode cX12_inside 3 = .ok (.invokevirtual 996, 3) := by decide +kernel
theorem dX12_inside_6 : decode cX12_inside 6 = .ok (.ifCond .eq 19, 3) := by decide +kernel
theorem dX12_inside_25 : decode cX12_inside 25 = .ok (.bipush (-2), 2) := by decide +kernel
theorem dX12_inside_27 : decode cX12_inside 27 = .ok (.ireturn, 1) := by decide +kernel
set_option maxRecDepth 20000 in
theorem ggX12_tree_X12_isTree : GoodIn wsX12_tree wsX12_isTree := goodIn_r _ [13, 14, 15, 16, 12, 17, 24, 25, 26, 27, 28, 29, 30, 31, 32, 33, 34, 35, 36, 37, 38, 39, 40, 41, 42, 43, 44, 45, 46, 47, 48, 49, 50, 51, 52, 53, 54, 55, 56, 57, 58, 59, 60, 61, 62, 63, 64, 65, 66, 67, 68, 69, 70, 71, 72, 73, 74, 75, 76, 77, 78, 79, 80, 81, 82, 83, 84, 85, 86, 87, 88, 89, 90, 91, 92, 93, 94, 95, 96, 97, 98, 99, 100, 101, 102, 103, 104, 105, 106, 107, 108, 109, 110, 111, 112, 113, 114, 115, 116, 117, 118, 119, 120, 121, 122, 123, 124, 125, 126, 127, 128, 129, 130, 131, 132, 133, 134, 135, 136, 137, 138, 139, 140, 141, 142, 143, 144, 145, 146, 147, 148, 149, 150, 151, 152, 153, 154, 155, 156, 157, 158, 159, 160, 161, 162, 163, 164, 165, 166, 167, 168, 169, 170, 171, 172, 173, 174, 175, 176, 177, 178, 179, 180, 181, 182, 183, 184, 185, 186, 187, 188, 189, 190, 191, 192, 193, 194, 195] (by decide +kernel) (by decide +kernel)
set_option maxRecDepth 20000 in
theorem gX12_tree_X12_isTree : GoodIn wsX12_tree (wsV RX12 797 RX12 yX12_isTree wsX12_isTree) := goodIn_app (goodIn_of _ (by decide +kernel)) ggX12_tree_X12_isTree
theorem dX12_tree_0 : decode cX12_tree 0 = .ok (.aload_n 0, 1) := by decide +kernel
theorem dX12_tree_1 : decode cX12_tree 1 = .ok (.iload_n 1, 1) := by decide +kernel
theorem dX12_tree_2 : decode cX12_tree 2 = .ok (.invokevirtual 797, 3) := by decide +kernel
theorem dX12_tree_5 : decode cX12_tree 5 = .ok (.ifCond .ne 6, 3) := by decide +kernel
theorem dX12_tree_8 : decode cX12_tree 8 = .ok (.bipush (-2), 2) := by decide +kernel
theorem dX12_tree_10 : decode cX12_tree 10 = .ok (.ireturn, 1) := by decide +kernel
set_option maxRecDepth 20000 in
theorem ggX12_free_X12_isTree : GoodIn wsX12_free wsX12_isTree := goodIn_r _ [5, 6, 7, 8, 4, 9, 16, 17, 18, 19, 20, 21, 22, 23, 24, 25, 26, 27, 28, 29, 30, 31, 32, 33, 34, 35, 36, 37, 38, 39, 40, 41, 42, 43, 44, 45, 46, 47, 48, 49, 50, 51, 52, 53, 54, 55, 56, 57, 58, 59, 60, 61, 62, 63, 64, 65, 66, 67, 68, 69, 70, 71, 72, 73, 74, 75, 76, 77, 78, 79, 80, 81, 82, 83, 84, 85, 86, 87, 88, 89, 90, 91, 92, 93, 94, 95, 96, 97, 98, 99, 100, 101, 102, 103, 104, 105, 106, 107, 108, 109, 110, 111, 112, 113, 114, 115, 116, 117, 118, 119, 120, 121, 122, 123, 124, 125, 126, 127, 128, 129, 130, 131, 132, 133, 134, 135, 136, 137, 138, 139, 140, 141, 142, 143, 144, 145, 146, 147, 148, 149, 150, 151, 152, 153, 154, 155, 156, 157, 158, 159, 160, 161, 162, 163, 164, 165, 166, 167, 168, 169, 170, 171, 172, 173, 174, 175, 176, 177, 178, 179, 180, 181, 182, 183, 184, 185, 186, 187] (by decide +kernel) (by decide +kernel)
set_option maxRecDepth 20000 in
theorem gX12_free_X12_isTree : GoodIn wsX12_free (wsV RX12 797 RX12 yX12_isTree wsX12_isTree) := goodIn_app (goodIn_of _ (by decide +kernel)) ggX12_free_X12_isTree
theorem dX12_free_0 : decode cX12_free 0 = .ok (.aload_n 0, 1) := by decide +kernel
theorem dX12_free_1 : decode cX12_free 1 = .ok (.iload_n 1, 1) := by decide +kernel
theorem dX12_free_2 : decode cX12_free 2 = .ok (.invokevirtual 797, 3) := by decide +kernel
theorem dX12_free_5 : decode cX12_free 5 = .ok (.ifCond .eq 17, 3) := by decide +kernel
theorem dX12_free_22 : decode cX12_free 22 = .ok (.bipush (-2), 2) := by decide +kernel
theorem dX12_free_24 : decode cX12_free 24 = .ok (.goto 10, 3) := by decide +kernel
theorem dX12_free_34 : decode cX12_free 34 = .ok (.ireturn, 1) := by decide +kernel
set_option maxRecDepth 20000 in
theorem ggX12_fault_X12_isTree : GoodIn wsX12_fault wsX12_isTree := goodIn_r _ [9, 10, 11, 12, 8, 13, 14, 15, 16, 17, 18, 19, 20, 21, 22, 23, 24, 25, 26, 27, 28, 29, 30, 31, 32, 33, 34, 35, 36, 37, 38, 39, 40, 41, 42, 43, 44, 45, 46, 47, 48, 49, 50, 51, 52, 53, 54, 55, 56, 57, 58, 59, 60, 61, 62, 63, 64, 65, 66, 67, 68, 69, 70, 71, 72, 73, 74, 75, 76, 77, 78, 79, 80, 81, 82, 83, 84, 85, 86, 87, 88, 89, 90, 91, 92, 93, 94, 95, 96, 97, 98, 99, 100, 101, 102, 103, 104, 105, 106, 107, 108, 109, 110, 111, 112, 113, 114, 115, 116, 117, 118, 119, 120, 121, 122, 123, 124, 125, 126, 127, 128, 129, 130, 131, 132, 133, 134, 135, 136, 137, 138, 139, 140, 141, 142, 143, 144, 145, 146, 147, 148, 149, 150, 151, 152, 153, 154, 155, 156, 157, 158, 159, 160, 161, 162, 163, 164, 165, 166, 167, 168, 169, 170, 171, 172, 173, 174, 175, 176, 177, 178, 179, 180, 181, 182, 183, 184, 185] (by decide +kernel) (by decide +kernel)
set_option maxRecDepth 20000 in
theorem gX12_fault_X12_isTree : GoodIn wsX12_fault (wsV RX12 797 RX12 yX12_isTree wsX12_isTree) := goodIn_app (goodIn_of _ (by decide +kernel)) ggX12_fault_X12_isTree
theorem dX12_fault_0 : decode cX12_fault 0 = .ok (.aload_n 0, 1) := by decide +kernel
theorem dX12_fault_1 : decode cX12_fault 1 = .ok (.iload_n 1, 1) := by decide +kernel
theorem dX12_fault_2 : decode cX12_fault 2 = .ok (.invokevirtual 797, 3) := by decide +kernel
theorem dX12_fault_5 : decode cX12_fault 5 = .ok (.ifCond .eq 21, 3) := by decide +kernel
theorem dX12_fault_26 : decode cX12_fault 26 = .ok (.bipush (-2), 2) := by decide +kernel
theorem dX12_fault_28 : decode cX12_fault 28 = .ok (.ireturn, 1) := by decide +kernel
set_option maxRecDepth 20000 in
theorem ggX12_owner__X12_isTree : GoodIn wsX12_owner_ wsX12_isTree := goodIn_r _ [7, 8, 9, 10, 6, 11, 12, 13, 14, 15, 16, 17, 18, 19, 20, 21, 22, 23, 24, 25, 26, 27, 28, 29, 30, 31, 32, 33, 34, 35, 36, 37, 38, 39, 40, 41, 42, 43, 44, 45, 46, 47, 48, 49, 50, 51, 52, 53, 54, 55, 56, 57, 58, 59, 60, 61, 62, 63, 64, 65, 66, 67, 68, 69, 70, 71, 72, 73, 74, 75, 76, 77, 78, 79, 80, 81, 82, 83, 84, 85, 86, 87, 88, 89, 90, 91, 92, 93, 94, 95, 96, 97, 98, 99, 100, 101, 102, 103, 104, 105, 106, 107, 108, 109, 110, 111, 112, 113, 114, 115, 116, 117, 118, 119, 120, 121, 122, 123, 124, 125, 126, 127, 128, 129, 130, 131, 132, 133, 134, 135, 136, 137, 138, 139, 140, 141, 142, 143, 144, 145, 146, 147, 148, 149, 150, 151, 152, 153, 154, 155, 156, 157, 158, 159, 160, 161, 162, 163, 164, 165, 166, 167, 168, 169, 170, 171, 172, 173, 174, 175, 176, 177, 178, 179, 180, 181, 182, 183] (by decide +kernel) (by decide +kernel)
set_option maxRecDepth 20000 in
theorem gX12_owner__X12_isTree : GoodIn wsX12_owner_ (wsV RX12 797 RX12 yX12_isTree wsX12_isTree) := goodIn_app (goodIn_of _ (by decide +kernel)) ggX12_owner__X12_isTree
theorem dX12_owner__0 : decode cX12_owner_ 0 = .ok (.aload_n 0, 1) := by decide +kernel
theorem dX12_owner__1 : decode cX12_owner_ 1 = .ok (.iload_n 1, 1) := by decide +kernel
theorem dX12_owner__2 : decode cX12_owner_ 2 = .ok (.invokevirtual 797, 3) := by decide +kernel
theorem dX12_owner__5 : decode cX12_owner_ 5 = .ok (.ifCond .eq 36, 3) := by decide +kernel
theorem dX12_owner__41 : decode cX12_owner_ 41 = .ok (.bipush (-2), 2) := by decide +kernel
theorem dX12_owner__43 : decode cX12_owner_ 43 = .ok (.ireturn, 1) := by decide +kernel
set_option maxRecDepth 20000 in
theorem ggX12_find_X12_isTree : GoodIn wsX12_find wsX12_isTree := goodIn_r _ [10, 11, 12, 13, 9, 14, 21, 22, 23, 24, 25, 26, 27, 28, 29, 30, 31, 32, 33, 34, 35, 36, 37, 38, 39, 40, 41, 42, 43, 44, 45, 46, 47, 48, 49, 50, 51, 52, 53, 54, 55, 56, 57, 58, 59, 60, 61, 62, 63, 64, 65, 66, 67, 68, 69, 70, 71, 72, 73, 74, 75, 76, 77, 78, 79, 80, 81, 82, 83, 84, 85, 86, 87, 88, 89, 90, 91, 92, 93, 94, 95, 96, 97, 98, 99, 100, 101, 102, 103, 104, 105, 106, 107, 108, 109, 110, 111, 112, 113, 114, 115, 116, 117, 118, 119, 120, 121, 122, 123, 124, 125, 126, 127, 128, 129, 130, 131, 132, 133, 134, 135, 136, 137, 138, 139, 140, 141, 142, 143, 144, 145, 146, 147, 148, 149, 150, 151, 152, 153, 154, 155, 156, 157, 158, 159, 160, 161, 162, 163, 164, 165, 166, 167, 168, 169, 170, 171, 172, 173, 174, 175, 176, 177, 178, 179, 180, 181, 182, 183, 184, 185, 186, 187, 188, 189, 190, 191, 192] (by decide +kernel) (by decide +kernel)
set_option maxRecDepth 20000 in
theorem gX12_find_X12_isTree : GoodIn wsX12_find (wsV RX12 797 RX12 yX12_isTree wsX12_isTree) := goodIn_app (goodIn_of _ (by decide +kernel)) ggX12_find_X12_isTree
theorem dX12_find_0 : decode cX12_find 0 = .ok (.aload_n 0, 1) := by decide +kernel
theorem dX12_find_1 : decode cX12_find 1 = .ok (.iload_n 1, 1) := by decide +kernel
theorem dX12_find_2 : decode cX12_find 2 = .ok (.invokevirtual 797, 3) := by decide +kernel
theorem dX12_find_5 : decode cX12_find 5 = .ok (.ifCond .ne 6, 3) := by decide +kernel
theorem dX12_find_8 : decode cX12_find 8 = .ok (.bipush (-2), 2) := by decide +kernel
theorem dX12_find_10 : decode cX12_find 10 = .ok (.ireturn, 1) := by decide +kernel
set_option maxRecDepth 20000 in
theorem ggX12_name_X12_isFile : GoodIn wsX12_name wsX12_isFile := goodIn_r _ [7, 8, 9, 10, 6, 11, 12, 13, 14, 15, 16, 17, 18, 19, 20, 21, 22, 23, 24, 25, 26, 27, 28, 29, 30, 31, 32, 33, 34, 35, 36, 37, 38, 39, 40, 41, 42, 43, 44, 45, 46, 47, 48, 49, 50, 51, 52, 53, 54, 55, 56, 57, 58, 59, 60, 61, 62, 63, 64, 65, 66, 67, 68, 69, 70, 71, 72, 73, 74, 75, 76, 77, 78, 79, 80, 81, 82, 83, 84, 85, 86, 87, 88, 89, 90, 91, 92, 93, 94, 95, 96, 97, 98, 99, 100, 101, 102, 103, 104, 105, 106, 107, 108, 109, 110, 111, 112, 113, 114, 115, 116, 117, 118, 119, 120, 121, 122, 123, 124, 125, 126, 127, 128, 129, 130, 131, 132, 133, 134, 135, 136, 137, 138, 139, 140, 141, 142, 143, 144, 145, 146, 147, 148, 149, 150, 151, 152, 153, 154, 155, 156, 157, 158, 159, 160, 161, 162, 163, 164, 165, 166, 167, 168, 169, 170, 171, 172, 173, 174, 175, 176, 177, 178, 179, 180, 181, 182, 183, 184, 185, 186, 187, 188, 189, 190, 191, 192, 193, 194, 195] (by decide +kernel) (by decide +kernel)
set_option maxRecDepth 20000 in
theorem gX12_name_X12_isFile : GoodIn wsX12_name (wsV RX12 980 RX12 yX12_isFile wsX12_isFile) := goodIn_app (goodIn_of _ (by decide +kernel)) ggX12_name_X12_isFile
theorem dX12_name_0 : decode cX12_name 0 = .ok (.aload_n 0, 1) := by decide +kernel
theorem dX12_name_1 : decode cX12_name 1 = .ok (.iload_n 1, 1) := by decide +kernel
theorem dX12_name_2 : decode cX12_name 2 = .ok (.iload_n 2, 1) := by decide +kernel
theorem dX12_name_3 : decode cX12_name 3 = .ok (.invokevirtual 980, 3) := by decide +kernel
theorem dX12_name_6 : decode cX12_name 6 = .ok (.ifCond .ne 6, 3) := by decide +kernel
theorem dX12_name_9 : decode cX12_name 9 = .ok (.bipush (-2), 2) := by decide +kernel
theorem dX12_name_11 : decode cX12_name 11 = .ok (.ireturn, 1) := by decide +kernel
set_option maxRecDepth 20000 in
theorem ggX12_field_X12_isFile : GoodIn wsX12_field wsX12_isFile := goodIn_r _ [17, 18, 19, 20, 16, 21, 22, 23, 24, 25, 26, 27, 28, 29, 30, 31, 32, 33, 34, 35, 36, 37, 38, 39, 40, 41, 42, 43, 44, 45, 46, 47, 48, 49, 50, 51, 52, 53, 54, 55, 56, 57, 58, 59, 60, 61, 62, 63, 64, 65, 66, 67, 68, 69, 70, 71, 72, 73, 74, 75, 76, 77, 78, 79, 80, 81, 82, 83, 84, 85, 86, 87, 88, 89, 90, 91, 92, 93, 94, 95, 96, 97, 98, 99, 100, 101, 102, 103, 104, 105, 106, 107, 108, 109, 110, 111, 112, 113, 114, 115, 116, 117, 118, 119, 120, 121, 122, 123, 124, 125, 126, 127, 128, 129, 130, 131, 132, 133, 134, 135, 136, 137, 138, 139, 140, 141, 142, 143, 144, 145, 146, 147, 148, 149, 150, 151, 152, 153, 154, 155, 156, 157, 158, 159, 160, 161, 162, 163, 164, 165, 166, 167, 168, 169, 170, 171, 172, 173, 174, 175, 176, 177, 178, 179, 180, 181, 182, 183, 184, 185, 186, 187, 188, 189, 190, 191, 192, 193, 194, 195, 196, 197, 198, 199, 200, 201, 202, 203, 204, 205] (by decide +kernel) (by decide +kernel)
set_option maxRecDepth 20000 in
theorem gX12_field_X12_isFile : GoodIn wsX12_field (wsV RX12 980 RX12 yX12_isFile wsX12_isFile) := goodIn_app (goodIn_of _ (by decide +kernel)) ggX12_field_X12_isFile
theorem dX12_field_0 : decode cX12_field 0 = .ok (.aload_n 0, 1) := by decide +kernel
theorem dX12_field_1 : decode cX12_field 1 = .ok (.iload_n 1, 1) := by decide +kernel
theorem dX12_field_2 : decode cX12_field 2 = .ok (.iload_n 2, 1) := by decide +kernel
theorem dX12_field_3 : decode cX12_field 3 = .ok (.invokevirtual 980, 3) := by decide +kernel
theorem dX12_field_6 : decode cX12_field 6 = .ok (.ifCond .ne 7, 3) := by decide +kernel
theorem dX12_field_9 : decode cX12_field 9 = .ok (.ldc2_w 438, 3) := by decide +kernel
theorem dX12_field_12 : decode cX12_field 12 = .ok (.lreturn, 1) := by decide +kernel
set_option maxRecDepth 20000 in
theorem ggX12_block_X12_isFile : GoodIn wsX12_block wsX12_isFile := goodIn_r _ [7, 8, 9, 10, 6, 11, 12, 13, 14, 15, 16, 17, 18, 19, 20, 21, 22, 23, 24, 25, 26, 27, 28, 29, 30, 31, 32, 33, 34, 35, 36, 37, 38, 39, 40, 41, 42, 43, 44, 45, 46, 47, 48, 49, 50, 51, 52, 53, 54, 55, 56, 57, 58, 59, 60, 61, 62, 63, 64, 65, 66, 67, 68, 69, 70, 71, 72, 73, 74, 75, 76, 77, 78, 79, 80, 81, 82, 83, 84, 85, 86, 87, 88, 89, 90, 91, 92, 93, 94, 95, 96, 97, 98, 99, 100, 101, 102, 103, 104, 105, 106, 107, 108, 109, 110, 111, 112, 113, 114, 115, 116, 117, 118, 119, 120, 121, 122, 123, 124, 125, 126, 127, 128, 129, 130, 131, 132, 133, 134, 135, 136, 137, 138, 139, 140, 141, 142, 143, 144, 145, 146, 147, 148, 149, 150, 151, 152, 153, 154, 155, 156, 157, 158, 159, 160, 161, 162, 163, 164, 165, 166, 167, 168, 169, 170, 171, 172, 173, 174, 175, 176, 177, 178, 179, 180, 181, 182, 183, 184, 185, 186, 187, 188, 189, 190, 191, 192, 193, 194, 195] (by decide +kernel) (by decide +kernel)
set_option maxRecDepth 20000 in
theorem gX12_block_X12_isFile : GoodIn wsX12_block (wsV RX12 980 RX12 yX12_isFile wsX12_isFile) := goodIn_app (goodIn_of _ (by decide +kernel)) ggX12_block_X12_isFile
theorem dX12_block_0 : decode cX12_block 0 = .ok (.aload_n 0, 1) := by decide +kernel
theorem dX12_block_1 : decode cX12_block 1 = .ok (.iload_n 1, 1) := by decide +kernel
theorem dX12_block_2 : decode cX12_block 2 = .ok (.iload_n 2, 1) := by decide +kernel
theorem dX12_block_3 : decode cX12_block 3 = .ok (.invokevirtual 980, 3) := by decide +kernel
theorem dX12_block_6 : decode cX12_block 6 = .ok (.ifCond .ne 6, 3) := by decide +kernel
theorem dX12_block_9 : decode cX12_block 9 = .ok (.bipush (-2), 2) := by decide +kernel
theorem dX12_block_11 : decode cX12_block 11 = .ok (.ireturn, 1) := by decide +kernel
set_option maxRecDepth 20000 in
theorem ggX12_content_X12_isFile : GoodIn wsX12_content wsX12_isFile := goodIn_r _ [8, 9, 10, 11, 7, 12, 13, 14, 15, 16, 17, 18, 19, 20, 21, 22, 23, 24, 31, 32, 33, 34, 35, 36, 37, 38, 39, 40, 41, 42, 43, 44, 45, 46, 47, 48, 49, 50, 51, 52, 53, 54, 55, 56, 57, 58, 59, 60, 61, 62, 63, 64, 65, 66, 67, 68, 69, 70, 71, 72, 73, 74, 75, 76, 77, 78, 79, 80, 81, 82, 83, 84, 85, 86, 87, 88, 89, 90, 91, 92, 93, 94, 95, 96, 97, 98, 99, 100, 101, 102, 103, 104, 105, 106, 107, 108, 109, 110, 111, 112, 113, 114, 115, 116, 117, 118, 119, 120, 121, 122, 123, 124, 125, 126, 127, 128, 129, 130, 131, 132, 133, 134, 135, 136, 137, 138, 139, 140, 141, 142, 143, 144, 145, 146, 147, 148, 149, 150, 151, 152, 153, 154, 155, 156, 157, 158, 159, 160, 161, 162, 163, 164, 165, 166, 167, 168, 169, 170, 171, 172, 173, 174, 175, 176, 177, 178, 179, 180, 181, 182, 183, 184, 185, 186, 187, 188, 189, 190, 191, 192, 193, 194, 195, 196, 197, 198, 199, 200, 201, 202] (by decide +kernel) (by decide +kernel)
set_option maxRecDepth 20000 in
theorem gX12_content_X12_isFile : GoodIn wsX12_content (wsV RX12 980 RX12 yX12_isFile wsX12_isFile) := goodIn_app (goodIn_of _ (by decide +kernel)) ggX12_content_X12_isFile
theorem dX12_content_0 : decode cX12_content 0 = .ok (.aload_n 0, 1) := by decide +kernel
theorem dX12_content_1 : decode cX12_content 1 = .ok (.iload_n 1, 1) := by decide +kernel
theorem dX12_content_2 : decode cX12_content 2 = .ok (.iload_n 2, 1) := by decide +kernel
theorem dX12_content_3 : decode cX12_content 3 = .ok (.invokevirtual 980, 3) := by decide +kernel
theorem dX12_content_6 : decode cX12_content 6 = .ok (.ifCond .ne 6, 3) := by decide +kernel
theorem dX12_content_9 : decode cX12_content 9 = .ok (.bipush (-2), 2) := by decide +kernel
theorem dX12_content_11 : decode cX12_content 11 = .ok (.ireturn, 1) := by decide +kernel
set_option maxRecDepth 20000 in
theorem ggX12_slack_X12_isFile : GoodIn wsX12_slack wsX12_isFile := goodIn_r _ [8, 9, 10, 11, 7, 12, 13, 14, 15, 16, 17, 18, 19, 20, 21, 22, 23, 24, 31, 32, 33, 34, 35, 36, 37, 38, 39, 40, 41, 42, 43, 44, 45, 46, 47, 48, 49, 50, 51, 52, 53, 54, 55, 56, 57, 58, 59, 60, 61, 62, 63, 64, 65, 66, 67, 68, 69, 70, 71, 72, 73, 74, 75, 76, 77, 78, 79, 80, 81, 82, 83, 84, 85, 86, 87, 88, 89, 90, 91, 92, 93, 94, 95, 96, 97, 98, 99, 100, 101, 102, 103, 104, 105, 106, 107, 108, 109, 110, 111, 112, 113, 114, 115, 116, 117, 118, 119, 120, 121, 122, 123, 124, 125, 126, 127, 128, 129, 130, 131, 132, 133, 134, 135, 136, 137, 138, 139, 140, 141, 142, 143, 144, 145, 146, 147, 148, 149, 150, 151, 152, 153, 154, 155, 156, 157, 158, 159, 160, 161, 162, 163, 164, 165, 166, 167, 168, 169, 170, 171, 172, 173, 174, 175, 176, 177, 178, 179, 180, 181, 182, 183, 184, 185, 186, 187, 188, 189, 190, 191, 192, 193, 194, 195, 196, 197, 198, 199, 200, 201, 202] (by decide +kernel) (by decide +kernel)
set_option maxRecDepth 20000 in
theorem gX12_slack_X12_isFile : GoodIn wsX12_slack (wsV RX12 980 RX12 yX12_isFile wsX12_isFile) := goodIn_app (goodIn_of _ (by decide +kernel)) ggX12_slack_X12_isFile
theorem dX12_slack_0 : decode cX12_slack 0 = .ok (.aload_n 0, 1) := by decide +kernel
theorem dX12_slack_1 : decode cX12_slack 1 = .ok (.iload_n 1, 1) := by decide +kernel
theorem dX12_slack_2 : decode cX12_slack 2 = .ok (.iload_n 2, 1) := by decide +kernel
theorem dX12_slack_3 : decode cX12_slack 3 = .ok (.invokevirtual 980, 3) := by decide +kernel
theorem dX12_slack_6 : decode cX12_slack 6 = .ok (.ifCond .ne 6, 3) := by decide +kernel
theorem dX12_slack_9 : decode cX12_slack 9 = .ok (.bipush (-2), 2) := by decide +kernel
theorem dX12_slack_11 : decode cX12_slack 11 = .ok (.ireturn, 1) := by decide +kernel
set_option maxRecDepth 20000 in
theorem ggX12_word_X12_isTree : GoodIn wsX12_word wsX12_isTree := goodIn_r _ [12, 13, 14, 15, 11, 16, 59, 60, 61, 62, 63, 64, 65, 66, 67, 68, 69, 70, 71, 72, 73, 74, 75, 76, 77, 78, 79, 80, 81, 82, 83, 84, 85, 86, 87, 88, 89, 90, 91, 92, 93, 94, 95, 96, 97, 98, 99, 100, 101, 102, 103, 104, 105, 106, 107, 108, 109, 110, 111, 112, 113, 114, 115, 116, 117, 118, 119, 120, 121, 122, 123, 124, 125, 126, 127, 128, 129, 130, 131, 132, 133, 134, 135, 136, 137, 138, 139, 140, 141, 142, 143, 144, 145, 146, 147, 148, 149, 150, 151, 152, 153, 154, 155, 156, 157, 158, 159, 160, 161, 162, 163, 164, 165, 166, 167, 168, 169, 170, 171, 172, 173, 174, 175, 176, 177, 178, 179, 180, 181, 182, 183, 184, 185, 186, 187, 188, 189, 190, 191, 192, 193, 194, 195, 196, 197, 198, 199, 200, 201, 202, 203, 204, 205, 206, 207, 208, 209, 210, 211, 212, 213, 214, 215, 216, 217, 218, 219, 220, 221, 222, 223, 224, 225, 226, 227, 228, 229, 230] (by decide +kernel) (by decide +kernel)
set_option maxRecDepth 20000 in
theorem gX12_word_X12_isTree : GoodIn wsX12_word (wsV RX12 797 RX12 yX12_isTree wsX12_isTree) := goodIn_app (goodIn_of _ (by decide +kernel)) ggX12_word_X12_isTree
theorem dX12_word_0 : decode cX12_word 0 = .ok (.aload_n 0, 1) := by decide +kernel
theorem dX12_word_1 : decode cX12_word 1 = .ok (.iload_n 1, 1) := by decide +kernel
theorem dX12_word_2 : decode cX12_word 2 = .ok (.invokevirtual 797, 3) := by decide +kernel
theorem dX12_word_5 : decode cX12_word 5 = .ok (.ifCond .ne 6, 3) := by decide +kernel
theorem dX12_word_8 : decode cX12_word 8 = .ok (.bipush (-2), 2) := by decide +kernel
theorem dX12_word_10 : decode cX12_word 10 = .ok (.ireturn, 1) := by decide +kernel
set_option maxRecDepth 20000 in
theorem ggX12_pattern_X12_isTree : GoodIn wsX12_pattern wsX12_isTree := goodIn_r _ [9, 10, 11, 12, 8, 13, 81, 82, 83, 84, 85, 86, 87, 88, 89, 90, 91, 92, 93, 94, 95, 96, 97, 98, 99, 100, 101, 102, 103, 104, 105, 106, 107, 108, 109, 110, 111, 112, 113, 114, 115, 116, 117, 118, 119, 120, 121, 122, 123, 124, 125, 126, 127, 128, 129, 130, 131, 132, 133, 134, 135, 136, 137, 138, 139, 140, 141, 142, 143, 144, 145, 146, 147, 148, 149, 150, 151, 152, 153, 154, 155, 156, 157, 158, 159, 160, 161, 162, 163, 164, 165, 166, 167, 168, 169, 170, 171, 172, 173, 174, 175, 176, 177, 178, 179, 180, 181, 182, 183, 184, 185, 186, 187, 188, 189, 190, 191, 192, 193, 194, 195, 196, 197, 198, 199, 200, 201, 202, 203, 204, 205, 206, 207, 208, 209, 210, 211, 212, 213, 214, 215, 216, 217, 218, 219, 220, 221, 222, 223, 224, 225, 226, 227, 228, 229, 230, 231, 232, 233, 234, 235, 236, 237, 238, 239, 240, 241, 242, 243, 244, 245, 246, 247, 248, 249, 250, 251, 252] (by decide +kernel) (by decide +kernel)
set_option maxRecDepth 20000 in
theorem gX12_pattern_X12_isTree : GoodIn wsX12_pattern (wsV RX12 797 RX12 yX12_isTree wsX12_isTree) := goodIn_app (goodIn_of _ (by decide +kernel)) ggX12_pattern_X12_isTree
theorem dX12_pattern_0 : decode cX12_pattern 0 = .ok (.aload_n 0, 1) := by decide +kernel
theorem dX12_pattern_1 : decode cX12_pattern 1 = .ok (.iload_n 1, 1) := by decide +kernel
theorem dX12_pattern_2 : decode cX12_pattern 2 = .ok (.invokevirtual 797, 3) := by decide +kernel
theorem dX12_pattern_5 : decode cX12_pattern 5 = .ok (.ifCond .ne 6, 3) := by decide +kernel
theorem dX12_pattern_8 : decode cX12_pattern 8 = .ok (.bipush (-2), 2) := by decide +kernel
theorem dX12_pattern_10 : decode cX12_pattern 10 = .ok (.ireturn, 1) := by decide +kernel
set_option maxRecDepth 20000 in
theorem ggX12_hit_X12_in : GoodIn wsX12_hit wsX12_in := goodIn_r _ [8] (by decide +kernel) (by decide +kernel)
set_option maxRecDepth 20000 in
theorem gX12_hit_X12_in : GoodIn wsX12_hit (va_wsS RX12 372 yX12_in wsX12_in) := goodIn_app (goodIn_of _ (by decide +kernel)) ggX12_hit_X12_in
theorem dX12_hit_0 : decode cX12_hit 0 = .ok (.iload_n 1, 1) := by decide +kernel
theorem dX12_hit_1 : decode cX12_hit 1 = .ok (.i2l, 1) := by decide +kernel
theorem dX12_hit_2 : decode cX12_hit 2 = .ok (.lconst 0, 1) := by decide +kernel
theorem dX12_hit_3 : decode cX12_hit 3 = .ok (.aload_n 0, 1) := by decide +kernel
theorem dX12_hit_4 : decode cX12_hit 4 = .ok (.getfield 1023, 3) := by decide +kernel
theorem dX12_hit_7 : decode cX12_hit 7 = .ok (.iconst 1, 1) := by decide +kernel
theorem dX12_hit_8 : decode cX12_hit 8 = .ok (.isub, 1) := by decide +kernel
theorem dX12_hit_9 : decode cX12_hit 9 = .ok (.i2l, 1) := by decide +kernel
theorem dX12_hit_10 : decode cX12_hit 10 = .ok (.invokestatic 372, 3) := by decide +kernel
theorem dX12_hit_13 : decode cX12_hit 13 = .ok (.ifCond .ne 6, 3) := by decide +kernel
theorem dX12_hit_16 : decode cX12_hit 16 = .ok (.bipush (-2), 2) := by decide +kernel
theorem dX12_hit_18 : decode cX12_hit 18 = .ok (.ireturn, 1) := by decide +kernel
set_option maxRecDepth 20000 in
theorem ggX12_question_X12_isTree : GoodIn wsX12_question wsX12_isTree := goodIn_r _ [10, 11, 12, 13, 9, 14, 150, 151, 152, 153, 154, 155, 156, 157, 158, 159, 160, 161, 162, 163, 164, 165, 166, 167, 168, 169, 170, 171, 172, 173, 174, 175, 176, 177, 178, 179, 180, 181, 182, 183, 184, 185, 186, 187, 188, 189, 190, 191, 192, 193, 194, 195, 196, 197, 198, 199, 200, 201, 202, 203, 204, 205, 206, 207, 208, 209, 210, 211, 212, 213, 214, 215, 216, 217, 218, 219, 220, 221, 222, 223, 224, 225, 226, 227, 228, 229, 230, 231, 232, 233, 234, 235, 236, 237, 238, 239, 240, 241, 242, 243, 244, 245, 246, 247, 248, 249, 250, 251, 252, 253, 254, 255, 256, 257, 258, 259, 260, 261, 262, 263, 264, 265, 266, 267, 268, 269, 270, 271, 272, 273, 274, 275, 276, 277, 278, 279, 280, 281, 282, 283, 284, 285, 286, 287, 288, 289, 290, 291, 292, 293, 294, 295, 296, 297, 298, 299, 300, 301, 302, 303, 304, 305, 306, 307, 308, 309, 310, 311, 312, 313, 314, 315, 316, 317, 318, 319, 320, 321] (by decide +kernel) (by decide +kernel)
set_option maxRecDepth 20000 in
theorem gX12_question_X12_isTree : GoodIn wsX12_question (wsV RX12 797 RX12 yX12_isTree wsX12_isTree) := goodIn_app (goodIn_of _ (by decide +kernel)) ggX12_question_X12_isTree
theorem dX12_question_0 : decode cX12_question 0 = .ok (.aload_n 0, 1) := by decide +kernel
theorem dX12_question_1 : decode cX12_question 1 = .ok (.iload_n 1, 1) := by decide +kernel
theorem dX12_question_2 : decode cX12_question 2 = .ok (.invokevirtual 797, 3) := by decide +kernel
theorem dX12_question_5 : decode cX12_question 5 = .ok (.ifCond .ne 6, 3) := by decide +kernel
theorem dX12_question_8 : decode cX12_question 8 = .ok (.bipush (-2), 2) := by decide +kernel
theorem dX12_question_10 : decode cX12_question 10 = .ok (.ireturn, 1) := by decide +kernel
set_option maxRecDepth 20000 in
theorem ggX12_row_X12_in : GoodIn wsX12_row wsX12_in := goodIn_r _ [6] (by decide +kernel) (by decide +kernel)
set_option maxRecDepth 20000 in
theorem gX12_row_X12_in : GoodIn wsX12_row (va_wsS RX12 372 yX12_in wsX12_in) := goodIn_app (goodIn_of _ (by decide +kernel)) ggX12_row_X12_in
theorem dX12_row_0 : decode cX12_row 0 = .ok (.iload_n 1, 1) := by decide +kernel
theorem dX12_row_1 : decode cX12_row 1 = .ok (.i2l, 1) := by decide +kernel
theorem dX12_row_2 : decode cX12_row 2 = .ok (.lconst 0, 1) := by decide +kernel
theorem dX12_row_3 : decode cX12_row 3 = .ok (.aload_n 0, 1) := by decide +kernel
theorem dX12_row_4 : decode cX12_row 4 = .ok (.getfield 1133, 3) := by decide +kernel
theorem dX12_row_7 : decode cX12_row 7 = .ok (.iconst 1, 1) := by decide +kernel
theorem dX12_row_8 : decode cX12_row 8 = .ok (.isub, 1) := by decide +kernel
theorem dX12_row_9 : decode cX12_row 9 = .ok (.i2l, 1) := by decide +kernel
theorem dX12_row_10 : decode cX12_row 10 = .ok (.invokestatic 372, 3) := by decide +kernel
theorem dX12_row_13 : decode cX12_row 13 = .ok (.ifCond .eq 12, 3) := by decide +kernel
theorem dX12_row_25 : decode cX12_row 25 = .ok (.bipush (-2), 2) := by decide +kernel
theorem dX12_row_27 : decode cX12_row 27 = .ok (.ireturn, 1) := by decide +kernel
theorem dX12_line_0 : decode cX12_line 0 = .ok (.aload_n 0, 1) := by decide +kernel
theorem dX12_line_1 : decode cX12_line 1 = .ok (.iconst 0, 1) := by decide +kernel
theorem dX12_line_2 : decode cX12_line 2 = .ok (.putfield 1136, 3) := by decide +kernel
theorem dX12_line_5 : decode cX12_line 5 = .ok (.iconst 0, 1) := by decide +kernel
theorem dX12_line_6 : decode cX12_line 6 = .ok (.istore_n 1, 1) := by decide +kernel
theorem dX12_line_7 : decode cX12_line 7 = .ok (.iload_n 1, 1) := by decide +kernel
theorem dX12_line_8 : decode cX12_line 8 = .ok (.aload_n 0, 1) := by decide +kernel
theorem dX12_line_9 : decode cX12_line 9 = .ok (.getfield 794, 3) := by decide +kernel
theorem dX12_line_12 : decode cX12_line 12 = .ok (.if_icmp .ge 76, 3) := by decide +kernel
theorem dX12_line_88 : decode cX12_line 88 = .ok (.iconst 0, 1) := by decide +kernel
theorem dX12_line_89 : decode cX12_line 89 = .ok (.istore_n 1, 1) := by decide +kernel
theorem dX12_line_90 : decode cX12_line 90 = .ok (.iload_n 1, 1) := by decide +kernel
theorem dX12_line_91 : decode cX12_line 91 = .ok (.aload_n 0, 1) := by decide +kernel
theorem dX12_line_92 : decode cX12_line 92 = .ok (.getfield 983, 3) := by decide +kernel
theorem dX12_line_95 : decode cX12_line 95 = .ok (.if_icmp .ge 77, 3) := by decide +kernel
theorem dX12_line_172 : decode cX12_line 172 = .ok (.aload_n 0, 1) := by decide +kernel
theorem dX12_line_173 : decode cX12_line 173 = .ok (.getfield 1136, 3) := by decide +kernel
theorem dX12_line_176 : decode cX12_line 176 = .ok (.ireturn, 1) := by decide +kernel
set_option maxRecDepth 20000 in
theorem ggX12_time_X12_in : GoodIn wsX12_time wsX12_in := goodIn_r _ [11] (by decide +kernel) (by decide +kernel)
set_option maxRecDepth 20000 in
theorem gX12_time_X12_in : GoodIn wsX12_time (va_wsS RX12 372 yX12_in wsX12_in) := goodIn_app (goodIn_of _ (by decide +kernel)) ggX12_time_X12_in
theorem dX12_time_0 : decode cX12_time 0 = .ok (.iload_n 1, 1) := by decide +kernel
theorem dX12_time_1 : decode cX12_time 1 = .ok (.i2l, 1) := by decide +kernel
theorem dX12_time_2 : decode cX12_time 2 = .ok (.lconst 0, 1) := by decide +kernel
theorem dX12_time_3 : decode cX12_time 3 = .ok (.aload_n 0, 1) := by decide +kernel
theorem dX12_time_4 : decode cX12_time 4 = .ok (.getfield 1136, 3) := by decide +kernel
theorem dX12_time_7 : decode cX12_time 7 = .ok (.iconst 1, 1) := by decide +kernel
theorem dX12_time_8 : decode cX12_time 8 = .ok (.isub, 1) := by decide +kernel
theorem dX12_time_9 : decode cX12_time 9 = .ok (.i2l, 1) := by decide +kernel
theorem dX12_time_10 : decode cX12_time 10 = .ok (.invokestatic 372, 3) := by decide +kernel
theorem dX12_time_13 : decode cX12_time 13 = .ok (.ifCond .ne 7, 3) := by decide +kernel
theorem dX12_time_16 : decode cX12_time 16 = .ok (.ldc2_w 438, 3) := by decide +kernel
theorem dX12_time_19 : decode cX12_time 19 = .ok (.lreturn, 1) := by decide +kernel
theorem dX12_doubts_0 : decode cX12_doubts 0 = .ok (.aload_n 0, 1) := by decide +kernel
theorem dX12_doubts_1 : decode cX12_doubts 1 = .ok (.iconst 0, 1) := by decide +kernel
theorem dX12_doubts_2 : decode cX12_doubts 2 = .ok (.putfield 1147, 3) := by decide +kernel
theorem dX12_doubts_5 : decode cX12_doubts 5 = .ok (.iconst 0, 1) := by decide +kernel
theorem dX12_doubts_6 : decode cX12_doubts 6 = .ok (.istore_n 1, 1) := by decide +kernel
theorem dX12_doubts_7 : decode cX12_doubts 7 = .ok (.iload_n 1, 1) := by decide +kernel
theorem dX12_doubts_8 : decode cX12_doubts 8 = .ok (.aload_n 0, 1) := by decide +kernel
theorem dX12_doubts_9 : decode cX12_doubts 9 = .ok (.getfield 794, 3) := by decide +kernel
theorem dX12_doubts_12 : decode cX12_doubts 12 = .ok (.if_icmp .ge 169, 3) := by decide +kernel
theorem dX12_doubts_181 : decode cX12_doubts 181 = .ok (.aload_n 0, 1) := by decide +kernel
theorem dX12_doubts_182 : decode cX12_doubts 182 = .ok (.getfield 1147, 3) := by decide +kernel
theorem dX12_doubts_185 : decode cX12_doubts 185 = .ok (.ireturn, 1) := by decide +kernel
set_option maxRecDepth 20000 in
theorem ggX12_doubt_X12_in : GoodIn wsX12_doubt wsX12_in := goodIn_r _ [8] (by decide +kernel) (by decide +kernel)
set_option maxRecDepth 20000 in
theorem gX12_doubt_X12_in : GoodIn wsX12_doubt (va_wsS RX12 372 yX12_in wsX12_in) := goodIn_app (goodIn_of _ (by decide +kernel)) ggX12_doubt_X12_in
theorem dX12_doubt_0 : decode cX12_doubt 0 = .ok (.iload_n 1, 1) := by decide +kernel
theorem dX12_doubt_1 : decode cX12_doubt 1 = .ok (.i2l, 1) := by decide +kernel
theorem dX12_doubt_2 : decode cX12_doubt 2 = .ok (.lconst 0, 1) := by decide +kernel
theorem dX12_doubt_3 : decode cX12_doubt 3 = .ok (.aload_n 0, 1) := by decide +kernel
theorem dX12_doubt_4 : decode cX12_doubt 4 = .ok (.getfield 1147, 3) := by decide +kernel
theorem dX12_doubt_7 : decode cX12_doubt 7 = .ok (.iconst 1, 1) := by decide +kernel
theorem dX12_doubt_8 : decode cX12_doubt 8 = .ok (.isub, 1) := by decide +kernel
theorem dX12_doubt_9 : decode cX12_doubt 9 = .ok (.i2l, 1) := by decide +kernel
theorem dX12_doubt_10 : decode cX12_doubt 10 = .ok (.invokestatic 372, 3) := by decide +kernel
theorem dX12_doubt_13 : decode cX12_doubt 13 = .ok (.ifCond .ne 6, 3) := by decide +kernel
theorem dX12_doubt_16 : decode cX12_doubt 16 = .ok (.bipush (-2), 2) := by decide +kernel
theorem dX12_doubt_18 : decode cX12_doubt 18 = .ok (.ireturn, 1) := by decide +kernel
set_option maxRecDepth 20000 in
theorem ggX12_isOwnFile_X12_isFile : GoodIn wsX12_isOwnFile wsX12_isFile := goodIn_r _ [6, 7, 8, 9, 5, 10, 11, 12, 13, 14, 15, 16, 17, 18, 19, 20, 21, 22, 23, 24, 25, 26, 27, 28, 29, 30, 31, 32, 33, 34, 35, 36, 37, 38, 39, 40, 41, 42, 43, 44, 45, 46, 47, 48, 49, 50, 51, 52, 53, 54, 55, 56, 57, 58, 59, 60, 61, 62, 63, 64, 65, 66, 67, 68, 69, 70, 71, 72, 73, 74, 75, 76, 77, 78, 79, 80, 81, 82, 83, 84, 85, 86, 87, 88, 89, 90, 91, 92, 93, 94, 95, 96, 97, 98, 99, 100, 101, 102, 103, 104, 105, 106, 107, 108, 109, 110, 111, 112, 113, 114, 115, 116, 117, 118, 119, 120, 121, 122, 123, 124, 125, 126, 127, 128, 129, 130, 131, 132, 133, 134, 135, 136, 137, 138, 139, 140, 141, 142, 143, 144, 145, 146, 147, 148, 149, 150, 151, 152, 153, 154, 155, 156, 157, 158, 159, 160, 161, 162, 163, 164, 165, 166, 167, 168, 169, 170, 171, 172, 173, 174, 175, 176, 177, 178, 179, 180, 181, 182, 183, 184, 185, 186, 187, 188, 189, 190, 191, 192, 193, 194] (by decide +kernel) (by decide +kernel)
set_option maxRecDepth 20000 in
theorem gX12_isOwnFile_X12_isFile : GoodIn wsX12_isOwnFile (wsV RX12 980 RX12 yX12_isFile wsX12_isFile) := goodIn_app (goodIn_of _ (by decide +kernel)) ggX12_isOwnFile_X12_isFile
theorem dX12_isOwnFile_0 : decode cX12_isOwnFile 0 = .ok (.aload_n 0, 1) := by decide +kernel
theorem dX12_isOwnFile_1 : decode cX12_isOwnFile 1 = .ok (.iload_n 1, 1) := by decide +kernel
theorem dX12_isOwnFile_2 : decode cX12_isOwnFile 2 = .ok (.iload_n 2, 1) := by decide +kernel
theorem dX12_isOwnFile_3 : decode cX12_isOwnFile 3 = .ok (.invokevirtual 980, 3) := by decide +kernel
theorem dX12_isOwnFile_6 : decode cX12_isOwnFile 6 = .ok (.ifCond .eq 23, 3) := by decide +kernel
theorem dX12_isOwnFile_29 : decode cX12_isOwnFile 29 = .ok (.iconst 0, 1) := by decide +kernel
theorem dX12_isOwnFile_30 : decode cX12_isOwnFile 30 = .ok (.ireturn, 1) := by decide +kernel
set_option maxRecDepth 20000 in
theorem ggX12_claim_X12_isOwnFile : GoodIn wsX12_claim wsX12_isOwnFile := goodIn_r _ [12, 13, 14, 15, 16, 11, 17, 18, 19, 20, 21, 22, 23, 24, 25, 26, 27, 28, 29, 30, 31, 32, 33, 81, 82, 83, 84, 85, 86, 87, 88, 89, 90, 91, 92, 93, 94, 95, 96, 97, 98, 99, 100, 101, 102, 103, 104, 105, 106, 107, 108, 109, 110, 111, 112, 113, 114, 115, 116, 117, 118, 119, 120, 121, 122, 123, 124, 125, 126, 127, 128, 129, 130, 131, 132, 133, 134, 135, 136, 137, 138, 139, 140, 141, 142, 143, 144, 145, 146, 147, 148, 149, 150, 151, 152, 153, 154, 155, 156, 157, 158, 159, 160, 161, 162, 163, 164, 165, 166, 167, 168, 169, 170, 171, 172, 173, 174, 175, 176, 177, 178, 179, 180, 181, 182, 183, 184, 185, 186, 187, 188, 189, 190, 191, 192, 193, 194, 195, 196, 197, 198, 199, 200, 201, 202, 203, 204, 205, 206, 207, 208, 209, 210, 211, 212, 213, 214, 215, 216, 217, 218, 219, 220, 221, 222, 223, 224, 225, 226, 227, 228, 229, 230, 231, 232, 233, 234, 235, 236, 237, 238, 239, 240, 241, 242, 243, 244, 245, 246, 247, 248, 249, 250, 251, 252] (by decide +kernel) (by decide +kernel)
set_option maxRecDepth 20000 in
theorem gX12_claim_X12_isOwnFile : GoodIn wsX12_claim (wsV RX12 1153 RX12 yX12_isOwnFile wsX12_isOwnFile) := goodIn_app (goodIn_of _ (by decide +kernel)) ggX12_claim_X12_isOwnFile
theorem dX12_claim_0 : decode cX12_claim 0 = .ok (.aload_n 0, 1) := by decide +kernel
theorem dX12_claim_1 : decode cX12_claim 1 = .ok (.iload_n 1, 1) := by decide +kernel
theorem dX12_claim_2 : decode cX12_claim 2 = .ok (.iload_n 2, 1) := by decide +kernel
theorem dX12_claim_3 : decode cX12_claim 3 = .ok (.invokevirtual 1153, 3) := by decide +kernel
theorem dX12_claim_6 : decode cX12_claim 6 = .ok (.ifCond .eq 40, 3) := by decide +kernel
theorem dX12_claim_46 : decode cX12_claim 46 = .ok (.bipush (-2), 2) := by decide +kernel
theorem dX12_claim_48 : decode cX12_claim 48 = .ok (.ireturn, 1) := by decide +kernel
set_option maxRecDepth 20000 in
theorem ggX12_claimed_X12_in : GoodIn wsX12_claimed wsX12_in := goodIn_r _ [11] (by decide +kernel) (by decide +kernel)
set_option maxRecDepth 20000 in
theorem gX12_claimed_X12_in : GoodIn wsX12_claimed (va_wsS RX12 372 yX12_in wsX12_in) := goodIn_app (goodIn_of _ (by decide +kernel)) ggX12_claimed_X12_in
theorem dX12_claimed_0 : decode cX12_claimed 0 = .ok (.iload_n 1, 1) := by decide +kernel
theorem dX12_claimed_1 : decode cX12_claimed 1 = .ok (.i2l, 1) := by decide +kernel
theorem dX12_claimed_2 : decode cX12_claimed 2 = .ok (.lconst 0, 1) := by decide +kernel
theorem dX12_claimed_3 : decode cX12_claimed 3 = .ok (.aload_n 0, 1) := by decide +kernel
theorem dX12_claimed_4 : decode cX12_claimed 4 = .ok (.getfield 1156, 3) := by decide +kernel
theorem dX12_claimed_7 : decode cX12_claimed 7 = .ok (.iconst 1, 1) := by decide +kernel
theorem dX12_claimed_8 : decode cX12_claimed 8 = .ok (.isub, 1) := by decide +kernel
theorem dX12_claimed_9 : decode cX12_claimed 9 = .ok (.i2l, 1) := by decide +kernel
theorem dX12_claimed_10 : decode cX12_claimed 10 = .ok (.invokestatic 372, 3) := by decide +kernel
theorem dX12_claimed_13 : decode cX12_claimed 13 = .ok (.ifCond .ne 6, 3) := by decide +kernel
theorem dX12_claimed_16 : decode cX12_claimed 16 = .ok (.bipush (-2), 2) := by decide +kernel
theorem dX12_claimed_18 : decode cX12_claimed 18 = .ok (.ireturn, 1) := by decide +kernel
set_option maxRecDepth 20000 in
theorem ggX12_check_X12_in : GoodIn wsX12_check wsX12_in := goodIn_r _ [10] (by decide +kernel) (by decide +kernel)
set_option maxRecDepth 20000 in
theorem gX12_check_X12_in : GoodIn wsX12_check (va_wsS RX12 372 yX12_in wsX12_in) := goodIn_app (goodIn_of _ (by decide +kernel)) ggX12_check_X12_in
theorem dX12_check_0 : decode cX12_check 0 = .ok (.iload_n 1, 1) := by decide +kernel
theorem dX12_check_1 : decode cX12_check 1 = .ok (.i2l, 1) := by decide +kernel
theorem dX12_check_2 : decode cX12_check 2 = .ok (.lconst 0, 1) := by decide +kernel
theorem dX12_check_3 : decode cX12_check 3 = .ok (.aload_n 0, 1) := by decide +kernel
theorem dX12_check_4 : decode cX12_check 4 = .ok (.getfield 1156, 3) := by decide +kernel
theorem dX12_check_7 : decode cX12_check 7 = .ok (.iconst 1, 1) := by decide +kernel
theorem dX12_check_8 : decode cX12_check 8 = .ok (.isub, 1) := by decide +kernel
theorem dX12_check_9 : decode cX12_check 9 = .ok (.i2l, 1) := by decide +kernel
theorem dX12_check_10 : decode cX12_check 10 = .ok (.invokestatic 372, 3) := by decide +kernel
theorem dX12_check_13 : decode cX12_check 13 = .ok (.ifCond .ne 6, 3) := by decide +kernel
theorem dX12_check_16 : decode cX12_check 16 = .ok (.bipush (-2), 2) := by decide +kernel
theorem dX12_check_18 : decode cX12_check 18 = .ok (.ireturn, 1) := by decide +kernel
theorem dX12_linkOf_0 : decode cX12_linkOf 0 = .ok (.iload_n 1, 1) := by decide +kernel
theorem dX12_linkOf_1 : decode cX12_linkOf 1 = .ok (.ifCond .ne 7, 3) := by decide +kernel
theorem dX12_linkOf_4 : decode cX12_linkOf 4 = .ok (.lconst 1, 1) := by decide +kernel
theorem dX12_linkOf_5 : decode cX12_linkOf 5 = .ok (.goto 11, 3) := by decide +kernel
theorem dX12_linkOf_16 : decode cX12_linkOf 16 = .ok (.ldc2_w 1165, 3) := by decide +kernel
theorem dX12_linkOf_19 : decode cX12_linkOf 19 = .ok (.lmul, 1) := by decide +kernel
theorem dX12_linkOf_20 : decode cX12_linkOf 20 = .ok (.aload_n 0, 1) := by decide +kernel
theorem dX12_linkOf_21 : decode cX12_linkOf 21 = .ok (.getfield 354, 3) := by decide +kernel
theorem dX12_linkOf_24 : decode cX12_linkOf 24 = .ok (.iload_n 1, 1) := by decide +kernel
theorem dX12_linkOf_25 : decode cX12_linkOf 25 = .ok (.iaload, 1) := by decide +kernel
theorem dX12_linkOf_26 : decode cX12_linkOf 26 = .ok (.i2l, 1) := by decide +kernel
theorem dX12_linkOf_27 : decode cX12_linkOf 27 = .ok (.ladd, 1) := by decide +kernel
theorem dX12_linkOf_28 : decode cX12_linkOf 28 = .ok (.lstore_n 2, 1) := by decide +kernel
theorem dX12_linkOf_29 : decode cX12_linkOf 29 = .ok (.lload_n 2, 1) := by decide +kernel
theorem dX12_linkOf_30 : decode cX12_linkOf 30 = .ok (.lload_n 2, 1) := by decide +kernel
theorem dX12_linkOf_31 : decode cX12_linkOf 31 = .ok (.bipush 29, 2) := by decide +kernel
theorem dX12_linkOf_33 : decode cX12_linkOf 33 = .ok (.lushr, 1) := by decide +kernel
theorem dX12_linkOf_34 : decode cX12_linkOf 34 = .ok (.lxor, 1) := by decide +kernel
theorem dX12_linkOf_35 : decode cX12_linkOf 35 = .ok (.ldc2_w 1167, 3) := by decide +kernel
theorem dX12_linkOf_38 : decode cX12_linkOf 38 = .ok (.lmul, 1) := by decide +kernel
theorem dX12_linkOf_39 : decode cX12_linkOf 39 = .ok (.aload_n 0, 1) := by decide +kernel
theorem dX12_linkOf_40 : decode cX12_linkOf 40 = .ok (.getfield 357, 3) := by decide +kernel
theorem dX12_linkOf_43 : decode cX12_linkOf 43 = .ok (.iload_n 1, 1) := by decide +kernel
theorem dX12_linkOf_44 : decode cX12_linkOf 44 = .ok (.iaload, 1) := by decide +kernel
theorem dX12_linkOf_45 : decode cX12_linkOf 45 = .ok (.i2l, 1) := by decide +kernel
theorem dX12_linkOf_46 : decode cX12_linkOf 46 = .ok (.ladd, 1) := by decide +kernel
theorem dX12_linkOf_47 : decode cX12_linkOf 47 = .ok (.lstore_n 2, 1) := by decide +kernel
theorem dX12_linkOf_48 : decode cX12_linkOf 48 = .ok (.lload_n 2, 1) := by decide +kernel
theorem dX12_linkOf_49 : decode cX12_linkOf 49 = .ok (.lload_n 2, 1) := by decide +kernel
theorem dX12_linkOf_50 : decode cX12_linkOf 50 = .ok (.bipush 32, 2) := by decide +kernel
theorem dX12_linkOf_52 : decode cX12_linkOf 52 = .ok (.lushr, 1) := by decide +kernel
theorem dX12_linkOf_53 : decode cX12_linkOf 53 = .ok (.lxor, 1) := by decide +kernel
theorem dX12_linkOf_54 : decode cX12_linkOf 54 = .ok (.ldc2_w 1169, 3) := by decide +kernel
theorem dX12_linkOf_57 : decode cX12_linkOf 57 = .ok (.lmul, 1) := by decide +kernel
theorem dX12_linkOf_58 : decode cX12_linkOf 58 = .ok (.aload_n 0, 1) := by decide +kernel
theorem dX12_linkOf_59 : decode cX12_linkOf 59 = .ok (.getfield 360, 3) := by decide +kernel
theorem dX12_linkOf_62 : decode cX12_linkOf 62 = .ok (.iload_n 1, 1) := by decide +kernel
theorem dX12_linkOf_63 : decode cX12_linkOf 63 = .ok (.iaload, 1) := by decide +kernel
theorem dX12_linkOf_64 : decode cX12_linkOf 64 = .ok (.i2l, 1) := by decide +kernel
theorem dX12_linkOf_65 : decode cX12_linkOf 65 = .ok (.ladd, 1) := by decide +kernel
theorem dX12_linkOf_66 : decode cX12_linkOf 66 = .ok (.lstore_n 2, 1) := by decide +kernel
theorem dX12_linkOf_67 : decode cX12_linkOf 67 = .ok (.lload_n 2, 1) := by decide +kernel
theorem dX12_linkOf_68 : decode cX12_linkOf 68 = .ok (.lload_n 2, 1) := by decide +kernel
theorem dX12_linkOf_69 : decode cX12_linkOf 69 = .ok (.bipush 31, 2) := by decide +kernel
theorem dX12_linkOf_71 : decode cX12_linkOf 71 = .ok (.lushr, 1) := by decide +kernel
theorem dX12_linkOf_72 : decode cX12_linkOf 72 = .ok (.lxor, 1) := by decide +kernel
theorem dX12_linkOf_73 : decode cX12_linkOf 73 = .ok (.lreturn, 1) := by decide +kernel
set_option maxRecDepth 20000 in
theorem ggX12_act_X12_linkOf : GoodIn wsX12_act wsX12_linkOf := goodIn_r _ [11, 6, 12, 2, 13, 3, 14, 4, 15, 16, 17, 18, 19, 20, 21, 22, 23, 24, 25, 26, 27, 28, 29, 30, 31, 32, 33, 34, 35, 36, 37, 38, 39, 40, 41, 42, 43, 44, 45, 46, 47, 48, 49, 50, 51, 52, 53, 54, 55, 56, 57, 58, 59, 60, 61, 62, 63, 64, 65, 66, 67, 68, 69, 70, 71, 72, 73, 74, 75, 76, 77, 78, 79, 80, 81, 82, 83, 84, 85, 86, 87, 88, 89, 90, 91, 92, 93, 94, 95, 96, 97, 98, 99, 100, 101, 102, 103, 104, 105, 106, 107, 108, 109, 110, 111, 112, 113, 114, 115, 116, 117, 118, 119, 120, 121, 122, 123, 124, 125, 126, 127, 128, 129, 130, 131, 132, 133, 134, 135, 136, 137, 138, 139, 140, 141, 142, 143, 144, 145, 146, 147, 148, 149, 150, 151, 152, 153, 154, 155, 156, 157, 158, 159, 160, 161, 162, 163, 164, 165, 166, 167, 168, 169, 170, 171, 172, 173, 174, 175, 176, 177, 178, 179, 180, 181, 182, 183, 184, 185, 186] (by decide +kernel) (by decide +kernel)
set_option maxRecDepth 20000 in
theorem gX12_act_X12_linkOf : GoodIn wsX12_act (wsV RX12 1171 RX12 yX12_linkOf wsX12_linkOf) := goodIn_app (goodIn_of _ (by decide +kernel)) ggX12_act_X12_linkOf
theorem dX12_act_0 : decode cX12_act 0 = .ok (.aload_n 0, 1) := by decide +kernel
theorem dX12_act_1 : decode cX12_act 1 = .ok (.getfield 366, 3) := by decide +kernel
theorem dX12_act_4 : decode cX12_act 4 = .ok (.bipush 100, 2) := by decide +kernel
theorem dX12_act_6 : decode cX12_act 6 = .ok (.if_icmp .ne 6, 3) := by decide +kernel
theorem dX12_act_12 : decode cX12_act 12 = .ok (.aload_n 0, 1) := by decide +kernel
theorem dX12_act_13 : decode cX12_act 13 = .ok (.getfield 354, 3) := by decide +kernel
theorem dX12_act_16 : decode cX12_act 16 = .ok (.aload_n 0, 1) := by decide +kernel
theorem dX12_act_17 : decode cX12_act 17 = .ok (.getfield 366, 3) := by decide +kernel
theorem dX12_act_20 : decode cX12_act 20 = .ok (.iload_n 1, 1) := by decide +kernel
theorem dX12_act_21 : decode cX12_act 21 = .ok (.iastore, 1) := by decide +kernel
theorem dX12_act_22 : decode cX12_act 22 = .ok (.aload_n 0, 1) := by decide +kernel
theorem dX12_act_23 : decode cX12_act 23 = .ok (.getfield 357, 3) := by decide +kernel
theorem dX12_act_26 : decode cX12_act 26 = .ok (.aload_n 0, 1) := by decide +kernel
theorem dX12_act_27 : decode cX12_act 27 = .ok (.getfield 366, 3) := by decide +kernel
theorem dX12_act_30 : decode cX12_act 30 = .ok (.iload_n 2, 1) := by decide +kernel
theorem dX12_act_31 : decode cX12_act 31 = .ok (.iastore, 1) := by decide +kernel
theorem dX12_act_32 : decode cX12_act 32 = .ok (.aload_n 0, 1) := by decide +kernel
theorem dX12_act_33 : decode cX12_act 33 = .ok (.getfield 360, 3) := by decide +kernel
theorem dX12_act_36 : decode cX12_act 36 = .ok (.aload_n 0, 1) := by decide +kernel
theorem dX12_act_37 : decode cX12_act 37 = .ok (.getfield 366, 3) := by decide +kernel
theorem dX12_act_40 : decode cX12_act 40 = .ok (.aload_n 0, 1) := by decide +kernel
theorem dX12_act_41 : decode cX12_act 41 = .ok (.getfield 383, 3) := by decide +kernel
theorem dX12_act_44 : decode cX12_act 44 = .ok (.iastore, 1) := by decide +kernel
theorem dX12_act_45 : decode cX12_act 45 = .ok (.aload_n 0, 1) := by decide +kernel
theorem dX12_act_46 : decode cX12_act 46 = .ok (.getfield 363, 3) := by decide +kernel
theorem dX12_act_49 : decode cX12_act 49 = .ok (.aload_n 0, 1) := by decide +kernel
theorem dX12_act_50 : decode cX12_act 50 = .ok (.getfield 366, 3) := by decide +kernel
theorem dX12_act_53 : decode cX12_act 53 = .ok (.aload_n 0, 1) := by decide +kernel
theorem dX12_act_54 : decode cX12_act 54 = .ok (.aload_n 0, 1) := by decide +kernel
theorem dX12_act_55 : decode cX12_act 55 = .ok (.getfield 366, 3) := by decide +kernel
theorem dX12_act_58 : decode cX12_act 58 = .ok (.invokevirtual 1171, 3) := by decide +kernel
theorem dX12_act_61 : decode cX12_act 61 = .ok (.lastore, 1) := by decide +kernel
theorem dX12_act_62 : decode cX12_act 62 = .ok (.aload_n 0, 1) := by decide +kernel
theorem dX12_act_63 : decode cX12_act 63 = .ok (.dup, 1) := by decide +kernel
theorem dX12_act_64 : decode cX12_act 64 = .ok (.getfield 366, 3) := by decide +kernel
theorem dX12_act_67 : decode cX12_act 67 = .ok (.iconst 1, 1) := by decide +kernel
theorem dX12_act_68 : decode cX12_act 68 = .ok (.iadd, 1) := by decide +kernel
theorem dX12_act_69 : decode cX12_act 69 = .ok (.putfield 366, 3) := by decide +kernel
theorem dX12_act_72 : decode cX12_act 72 = .ok (.aload_n 0, 1) := by decide +kernel
theorem dX12_act_73 : decode cX12_act 73 = .ok (.getfield 366, 3) := by decide +kernel
theorem dX12_act_76 : decode cX12_act 76 = .ok (.iconst 1, 1) := by decide +kernel
theorem dX12_act_77 : decode cX12_act 77 = .ok (.isub, 1) := by decide +kernel
theorem dX12_act_78 : decode cX12_act 78 = .ok (.ireturn, 1) := by decide +kernel
set_option maxRecDepth 20000 in
theorem ggX12_link_X12_in : GoodIn wsX12_link wsX12_in := goodIn_r _ [6] (by decide +kernel) (by decide +kernel)
set_option maxRecDepth 20000 in
theorem gX12_link_X12_in : GoodIn wsX12_link (va_wsS RX12 372 yX12_in wsX12_in) := goodIn_app (goodIn_of _ (by decide +kernel)) ggX12_link_X12_in
theorem dX12_link_0 : decode cX12_link 0 = .ok (.iload_n 1, 1) := by decide +kernel
theorem dX12_link_1 : decode cX12_link 1 = .ok (.i2l, 1) := by decide +kernel
theorem dX12_link_2 : decode cX12_link 2 = .ok (.lconst 0, 1) := by decide +kernel
theorem dX12_link_3 : decode cX12_link 3 = .ok (.aload_n 0, 1) := by decide +kernel
theorem dX12_link_4 : decode cX12_link 4 = .ok (.getfield 366, 3) := by decide +kernel
theorem dX12_link_7 : decode cX12_link 7 = .ok (.iconst 1, 1) := by decide +kernel
theorem dX12_link_8 : decode cX12_link 8 = .ok (.isub, 1) := by decide +kernel
theorem dX12_link_9 : decode cX12_link 9 = .ok (.i2l, 1) := by decide +kernel
theorem dX12_link_10 : decode cX12_link 10 = .ok (.invokestatic 372, 3) := by decide +kernel
theorem dX12_link_13 : decode cX12_link 13 = .ok (.ifCond .eq 12, 3) := by decide +kernel
theorem dX12_link_25 : decode cX12_link 25 = .ok (.lconst 0, 1) := by decide +kernel
theorem dX12_link_26 : decode cX12_link 26 = .ok (.lreturn, 1) := by decide +kernel
set_option maxRecDepth 20000 in
theorem ggX12_alter_X12_in : GoodIn wsX12_alter wsX12_in := goodIn_r _ [9] (by decide +kernel) (by decide +kernel)
set_option maxRecDepth 20000 in
theorem gX12_alter_X12_in : GoodIn wsX12_alter (va_wsS RX12 372 yX12_in wsX12_in) := goodIn_app (goodIn_of _ (by decide +kernel)) ggX12_alter_X12_in
theorem dX12_alter_0 : decode cX12_alter 0 = .ok (.iload_n 1, 1) := by decide +kernel
theorem dX12_alter_1 : decode cX12_alter 1 = .ok (.i2l, 1) := by decide +kernel
theorem dX12_alter_2 : decode cX12_alter 2 = .ok (.lconst 0, 1) := by decide +kernel
theorem dX12_alter_3 : decode cX12_alter 3 = .ok (.aload_n 0, 1) := by decide +kernel
theorem dX12_alter_4 : decode cX12_alter 4 = .ok (.getfield 366, 3) := by decide +kernel
theorem dX12_alter_7 : decode cX12_alter 7 = .ok (.iconst 1, 1) := by decide +kernel
theorem dX12_alter_8 : decode cX12_alter 8 = .ok (.isub, 1) := by decide +kernel
theorem dX12_alter_9 : decode cX12_alter 9 = .ok (.i2l, 1) := by decide +kernel
theorem dX12_alter_10 : decode cX12_alter 10 = .ok (.invokestatic 372, 3) := by decide +kernel
theorem dX12_alter_13 : decode cX12_alter 13 = .ok (.ifCond .eq 15, 3) := by decide +kernel
theorem dX12_alter_28 : decode cX12_alter 28 = .ok (.bipush (-2), 2) := by decide +kernel
theorem dX12_alter_30 : decode cX12_alter 30 = .ok (.ireturn, 1) := by decide +kernel
theorem dX12_chain_0 : decode cX12_chain 0 = .ok (.iconst 0, 1) := by decide +kernel
theorem dX12_chain_1 : decode cX12_chain 1 = .ok (.istore_n 1, 1) := by decide +kernel
theorem dX12_chain_2 : decode cX12_chain 2 = .ok (.iload_n 1, 1) := by decide +kernel
theorem dX12_chain_3 : decode cX12_chain 3 = .ok (.aload_n 0, 1) := by decide +kernel
theorem dX12_chain_4 : decode cX12_chain 4 = .ok (.getfield 366, 3) := by decide +kernel
theorem dX12_chain_7 : decode cX12_chain 7 = .ok (.if_icmp .ge 26, 3) := by decide +kernel
theorem dX12_chain_33 : decode cX12_chain 33 = .ok (.iconst (-1), 1) := by decide +kernel
theorem dX12_chain_34 : decode cX12_chain 34 = .ok (.ireturn, 1) := by decide +kernel
theorem dX12_count_0 : decode cX12_count 0 = .ok (.iload_n 1, 1) := by decide +kernel
theorem dX12_count_1 : decode cX12_count 1 = .ok (.tableswitch 105 0 9 #[55, 60, 65, 70, 75, 80, 85, 90, 95, 100], 55) := by decide +kernel
theorem dX12_count_56 : decode cX12_count 56 = .ok (.aload_n 0, 1) := by decide +kernel
theorem dX12_count_57 : decode cX12_count 57 = .ok (.getfield 376, 3) := by decide +kernel
theorem dX12_count_60 : decode cX12_count 60 = .ok (.ireturn, 1) := by decide +kernel
theorem dX12_count_61 : decode cX12_count 61 = .ok (.aload_n 0, 1) := by decide +kernel
theorem dX12_count_62 : decode cX12_count 62 = .ok (.getfield 393, 3) := by decide +kernel
theorem dX12_count_65 : decode cX12_count 65 = .ok (.ireturn, 1) := by decide +kernel
theorem dX12_count_66 : decode cX12_count 66 = .ok (.aload_n 0, 1) := by decide +kernel
theorem dX12_count_67 : decode cX12_count 67 = .ok (.getfield 466, 3) := by decide +kernel
theorem dX12_count_70 : decode cX12_count 70 = .ok (.ireturn, 1) := by decide +kernel
theorem dX12_count_71 : decode cX12_count 71 = .ok (.aload_n 0, 1) := by decide +kernel
theorem dX12_count_72 : decode cX12_count 72 = .ok (.getfield 794, 3) := by decide +kernel
theorem dX12_count_75 : decode cX12_count 75 = .ok (.ireturn, 1) := by decide +kernel
theorem dX12_count_76 : decode cX12_count 76 = .ok (.aload_n 0, 1) := by decide +kernel
theorem dX12_count_77 : decode cX12_count 77 = .ok (.getfield 983, 3) := by decide +kernel
theorem dX12_count_80 : decode cX12_count 80 = .ok (.ireturn, 1) := by decide +kernel
theorem dX12_count_81 : decode cX12_count 81 = .ok (.aload_n 0, 1) := by decide +kernel
theorem dX12_count_82 : decode cX12_count 82 = .ok (.getfield 1023, 3) := by decide +kernel
theorem dX12_count_85 : decode cX12_count 85 = .ok (.ireturn, 1) := by decide +kernel
theorem dX12_count_86 : decode cX12_count 86 = .ok (.aload_n 0, 1) := by decide +kernel
theorem dX12_count_87 : decode cX12_count 87 = .ok (.getfield 1133, 3) := by decide +kernel
theorem dX12_count_90 : decode cX12_count 90 = .ok (.ireturn, 1) := by decide +kernel
theorem dX12_count_91 : decode cX12_count 91 = .ok (.aload_n 0, 1) := by decide +kernel
theorem dX12_count_92 : decode cX12_count 92 = .ok (.getfield 1156, 3) := by decide +kernel
theorem dX12_count_95 : decode cX12_count 95 = .ok (.ireturn, 1) := by decide +kernel
theorem dX12_count_96 : decode cX12_count 96 = .ok (.aload_n 0, 1) := by decide +kernel
theorem dX12_count_97 : decode cX12_count 97 = .ok (.getfield 366, 3) := by decide +kernel
theorem dX12_count_100 : decode cX12_count 100 = .ok (.ireturn, 1) := by decide +kernel
theorem dX12_count_101 : decode cX12_count 101 = .ok (.aload_n 0, 1) := by decide +kernel
theorem dX12_count_102 : decode cX12_count 102 = .ok (.getfield 383, 3) := by decide +kernel
theorem dX12_count_105 : decode cX12_count 105 = .ok (.ireturn, 1) := by decide +kernel
theorem dX12_count_106 : decode cX12_count 106 = .ok (.bipush (-2), 2) := by decide +kernel
theorem dX12_count_108 : decode cX12_count 108 = .ok (.ireturn, 1) := by decide +kernel
abbrev vwCl : List vw_C := [(RX0, TX0, 10), (RX1, TX1, 18), (RX2, TX2, 15), (RX3, TX3, 16), (RX4, TX4, 10), (RX5, TX5, 7), (RX6, TX6, 11), (RX7, TX7, 8), (RX8, TX8, 5), (RX9, TX9, 12), (RX10, TX10, 8), (RX11, TX11, 20), (RX12, TX12, 172)]
theorem inX11_act_c11 : ∀ w ∈ wsX110, w ∈ wsX11_act := fun w h => List.mem_cons_of_mem _ (List.mem_append_right _ (h))
theorem inX11_alter_c11 : ∀ w ∈ wsX110, w ∈ wsX11_alter := fun w h => List.mem_cons_of_mem _ (List.mem_append_right _ (h))
theorem inX11_blank_c11 : ∀ w ∈ wsX110, w ∈ wsX11_blank := fun w h => List.mem_cons_of_mem _ (List.mem_append_left _ (List.mem_append_right _ (h)))
theorem inX11_blank_c5 : ∀ w ∈ wsX50, w ∈ wsX11_blank := fun w h => List.mem_cons_of_mem _ (List.mem_append_right _ (h))
theorem inX11_chain_c11 : ∀ w ∈ wsX110, w ∈ wsX11_chain := fun w h => List.mem_cons_of_mem _ (List.mem_append_right _ (h))
theorem inX11_check_c11 : ∀ w ∈ wsX110, w ∈ wsX11_check := fun w h => List.mem_cons_of_mem _ (List.mem_append_left _ (List.mem_append_left _ (List.mem_append_left _ (List.mem_append_left _ (List.mem_append_left _ (List.mem_append_right _ (h)))))))
theorem inX11_claimed_c11 : ∀ w ∈ wsX110, w ∈ wsX11_claimed := fun w h => List.mem_cons_of_mem _ (List.mem_append_right _ (h))
theorem inX11_collect_c11 : ∀ w ∈ wsX110, w ∈ wsX11_collect := fun w h => List.mem_cons_of_mem _ (List.mem_append_right _ (h))
theorem inX11_count_c0 : ∀ w ∈ wsX00, w ∈ wsX11_count := fun w h => List.mem_cons_of_mem _ (List.mem_append_left _ (List.mem_append_right _ (h)))
theorem inX11_count_c11 : ∀ w ∈ wsX110, w ∈ wsX11_count := fun w h => List.mem_cons_of_mem _ (List.mem_append_left _ (List.mem_append_left _ (List.mem_append_right _ (h))))
theorem inX11_count_c6 : ∀ w ∈ wsX60, w ∈ wsX11_count := fun w h => List.mem_cons_of_mem _ (List.mem_append_right _ (h))
theorem inX11_doubt_c11 : ∀ w ∈ wsX110, w ∈ wsX11_doubt := fun w h => List.mem_cons_of_mem _ (List.mem_append_left _ (List.mem_append_right _ (h)))
theorem inX11_doubt_c8 : ∀ w ∈ wsX80, w ∈ wsX11_doubt := fun w h => List.mem_cons_of_mem _ (List.mem_append_right _ (h))
theorem inX11_doubts_c11 : ∀ w ∈ wsX110, w ∈ wsX11_doubts := fun w h => List.mem_cons_of_mem _ (List.mem_append_left _ (List.mem_append_left _ (List.mem_append_left _ (List.mem_append_left _ (List.mem_append_right _ (h))))))
theorem inX11_doubts_c8 : ∀ w ∈ wsX80, w ∈ wsX11_doubts := fun w h => List.mem_cons_of_mem _ (List.mem_append_left _ (List.mem_append_left _ (List.mem_append_left _ (List.mem_append_right _ (h)))))
theorem inX11_dueLink_c11 : ∀ w ∈ wsX110, w ∈ wsX11_dueLink := fun w h => List.mem_cons_of_mem _ (List.mem_append_right _ (h))
theorem inX11_forget_c11 : ∀ w ∈ wsX110, w ∈ wsX11_forget := fun w h => List.mem_cons_of_mem _ (List.mem_append_right _ (h))
theorem inX11_hit_c0 : ∀ w ∈ wsX00, w ∈ wsX11_hit := fun w h => List.mem_cons_of_mem _ (List.mem_append_right _ (h))
theorem inX11_hit_c11 : ∀ w ∈ wsX110, w ∈ wsX11_hit := fun w h => List.mem_cons_of_mem _ (List.mem_append_left _ (List.mem_append_right _ (h)))
theorem inX11_line_c11 : ∀ w ∈ wsX110, w ∈ wsX11_line := fun w h => List.mem_cons_of_mem _ (List.mem_append_left _ (List.mem_append_left _ (List.mem_append_left _ (List.mem_append_left _ (List.mem_append_left _ (List.mem_append_right _ (h)))))))
theorem inX11_line_c8 : ∀ w ∈ wsX80, w ∈ wsX11_line := fun w h => List.mem_cons_of_mem _ (List.mem_append_left _ (List.mem_append_left _ (List.mem_append_left _ (List.mem_append_left _ (List.mem_append_right _ (h))))))
theorem inX11_link_c11 : ∀ w ∈ wsX110, w ∈ wsX11_link := fun w h => List.mem_cons_of_mem _ (List.mem_append_right _ (h))
theorem inX11_maybeVolume_c11 : ∀ w ∈ wsX110, w ∈ wsX11_maybeVolume := fun w h => List.mem_cons_of_mem _ (List.mem_append_right _ (h))
theorem inX11_openingAt_c11 : ∀ w ∈ wsX110, w ∈ wsX11_openingAt := fun w h => List.mem_cons_of_mem _ (List.mem_append_right _ (h))
theorem inX11_pictureAt_c11 : ∀ w ∈ wsX110, w ∈ wsX11_pictureAt := fun w h => List.mem_cons_of_mem _ (List.mem_append_right _ (h))
theorem inX11_picture_c11 : ∀ w ∈ wsX110, w ∈ wsX11_picture := fun w h => List.mem_cons_of_mem _ (List.mem_append_left _ (List.mem_append_right _ (h)))
theorem inX11_row_c11 : ∀ w ∈ wsX110, w ∈ wsX11_row := fun w h => List.mem_cons_of_mem _ (List.mem_append_left _ (List.mem_append_right _ (h)))
theorem inX11_row_c6 : ∀ w ∈ wsX60, w ∈ wsX11_row := fun w h => List.mem_cons_of_mem _ (List.mem_append_right _ (h))
theorem inX11_tick_c11 : ∀ w ∈ wsX110, w ∈ wsX11_tick := fun w h => List.mem_cons_of_mem _ (List.mem_append_right _ (h))
theorem inX11_time_c11 : ∀ w ∈ wsX110, w ∈ wsX11_time := fun w h => List.mem_cons_of_mem _ (List.mem_append_left _ (List.mem_append_right _ (h)))
theorem inX11_time_c8 : ∀ w ∈ wsX80, w ∈ wsX11_time := fun w h => List.mem_cons_of_mem _ (List.mem_append_right _ (h))
theorem inX11_treeAt_c11 : ∀ w ∈ wsX110, w ∈ wsX11_treeAt := fun w h => List.mem_cons_of_mem _ (List.mem_append_right _ (h))
theorem inX11_volumeAt_c11 : ∀ w ∈ wsX110, w ∈ wsX11_volumeAt := fun w h => List.mem_cons_of_mem _ (List.mem_append_right _ (h))
theorem inX12_act_c12 : ∀ w ∈ wsX120, w ∈ wsX12_act := fun w h => List.mem_cons_of_mem _ (List.mem_append_right _ (h))
theorem inX12_alter_c12 : ∀ w ∈ wsX120, w ∈ wsX12_alter := fun w h => List.mem_cons_of_mem _ (List.mem_append_right _ (h))
theorem inX12_begin_c12 : ∀ w ∈ wsX120, w ∈ wsX12_begin := fun w h => List.mem_cons_of_mem _ (List.mem_append_right _ (h))
theorem inX12_blank_c12 : ∀ w ∈ wsX120, w ∈ wsX12_blank := fun w h => List.mem_cons_of_mem _ (List.mem_append_right _ (h))
theorem inX12_chain_c12 : ∀ w ∈ wsX120, w ∈ wsX12_chain := fun w h => List.mem_cons_of_mem _ (List.mem_append_right _ (h))
theorem inX12_check_c12 : ∀ w ∈ wsX120, w ∈ wsX12_check := fun w h => List.mem_cons_of_mem _ (List.mem_append_right _ (h))
theorem inX12_claimed_c12 : ∀ w ∈ wsX120, w ∈ wsX12_claimed := fun w h => List.mem_cons_of_mem _ (List.mem_append_right _ (h))
theorem inX12_collect_c12 : ∀ w ∈ wsX120, w ∈ wsX12_collect := fun w h => List.mem_cons_of_mem _ (List.mem_append_right _ (h))
theorem inX12_count_c12 : ∀ w ∈ wsX120, w ∈ wsX12_count := fun w h => List.mem_cons_of_mem _ (List.mem_append_right _ (h))
theorem inX12_doubt_c12 : ∀ w ∈ wsX120, w ∈ wsX12_doubt := fun w h => List.mem_cons_of_mem _ (List.mem_append_right _ (h))
theorem inX12_doubts_c12 : ∀ w ∈ wsX120, w ∈ wsX12_doubts := fun w h => List.mem_cons_of_mem _ (List.mem_append_right _ (h))
theorem inX12_forget_c12 : ∀ w ∈ wsX120, w ∈ wsX12_forget := fun w h => List.mem_cons_of_mem _ (List.mem_append_right _ (h))
theorem inX12_hit_c12 : ∀ w ∈ wsX120, w ∈ wsX12_hit := fun w h => List.mem_cons_of_mem _ (List.mem_append_right _ (h))
theorem inX12_isOpen_c12 : ∀ w ∈ wsX120, w ∈ wsX12_isOpen := fun w h => List.mem_cons_of_mem _ (List.mem_append_right _ (h))
theorem inX12_isPicture_c12 : ∀ w ∈ wsX120, w ∈ wsX12_isPicture := fun w h => List.mem_cons_of_mem _ (List.mem_append_right _ (h))
theorem inX12_isTree_c12 : ∀ w ∈ wsX120, w ∈ wsX12_isTree := fun w h => List.mem_cons_of_mem _ (List.mem_append_right _ (h))
theorem inX12_isVolume_c12 : ∀ w ∈ wsX120, w ∈ wsX12_isVolume := fun w h => List.mem_cons_of_mem _ (List.mem_append_right _ (h))
theorem inX12_is_c12 : ∀ w ∈ wsX120, w ∈ wsX12_is := fun w h => List.mem_cons_of_mem _ (List.mem_append_right _ (h))
theorem inX12_line_c12 : ∀ w ∈ wsX120, w ∈ wsX12_line := fun w h => List.mem_cons_of_mem _ (List.mem_append_right _ (h))
theorem inX12_linkOf_c12 : ∀ w ∈ wsX120, w ∈ wsX12_linkOf := fun w h => List.mem_cons_of_mem _ (List.mem_append_right _ (h))
theorem inX12_link_c12 : ∀ w ∈ wsX120, w ∈ wsX12_link := fun w h => List.mem_cons_of_mem _ (List.mem_append_right _ (h))
theorem inX12_picture_c12 : ∀ w ∈ wsX120, w ∈ wsX12_picture := fun w h => List.mem_cons_of_mem _ (List.mem_append_right _ (h))
theorem inX12_row_c12 : ∀ w ∈ wsX120, w ∈ wsX12_row := fun w h => List.mem_cons_of_mem _ (List.mem_append_right _ (h))
theorem inX12_tick_c12 : ∀ w ∈ wsX120, w ∈ wsX12_tick := fun w h => List.mem_cons_of_mem _ (List.mem_append_right _ (h))
theorem inX12_time_c12 : ∀ w ∈ wsX120, w ∈ wsX12_time := fun w h => List.mem_cons_of_mem _ (List.mem_append_right _ (h))
theorem inX12_unpack_c12 : ∀ w ∈ wsX120, w ∈ wsX12_unpack := fun w h => List.mem_cons_of_mem _ (List.mem_append_right _ (h))
theorem inX5_init_c5 : ∀ w ∈ wsX50, w ∈ wsX5_init := fun w h => List.mem_cons_of_mem _ (List.mem_append_right _ (h))
theorem inX8_sortMoments_c8 : ∀ w ∈ wsX80, w ∈ wsX8_sortMoments := fun w h => List.mem_cons_of_mem _ (List.mem_append_right _ (h))
