theorem goodIn_r {big : List Cond} (ws : List Cond) (ps : List Nat) (hp : ws = ps.filterMap (fun i => big[i]?)) (h : ws.all goodWord = true) : GoodIn big ws := by
  intro w hw
  have h1 := List.all_eq_true.mp h w hw
  rw [hp] at hw
  obtain ⟨i, -, hi⟩ := List.mem_filterMap.mp hw
  have hm : w ∈ big := by first | exact List.mem_of_getElem? hi | exact List.getElem?_mem hi
  exact ⟨hm, good_of_word h1⟩
theorem goodIn_app {big a b : List Cond} (ha : GoodIn big a) (hb : GoodIn big b) : GoodIn big (a ++ b) := fun w h => (List.mem_append.mp h).elim (ha w) (hb w)
theorem goodIn_sub {big ws : List Cond} (hm : ∀ w ∈ ws, w ∈ big) (h : ws.all goodWord = true) : GoodIn big ws := fun w hw => ⟨hm w hw, good_of_word (List.all_eq_true.mp h w hw)⟩
def RX0 : String := "DiskEvidence$Finder"
def TX0 : u_T := fun k => match k with
  | 0 => ("DiskEvidence$Finder", "hits", "[I", true)
  | 1 => ("DiskEvidence$Finder", "hitCount", "I", false)
  | 2 => ("DiskEvidence$Finder", "text", "[B", false)
  | 3 => ("DiskEvidence$Finder", "textLength", "I", false)
  | 4 => ("DiskEvidence$Finder", "meets", "[I", true)
  | 5 => ("DiskEvidence$Finder", "atoms", "I", false)
  | 6 => ("DiskEvidence$Finder", "starred", "I", false)
  | 7 => ("DiskEvidence$Finder", "optional", "I", false)
  | 8 => ("DiskEvidence$Finder", "wrongAt", "I", false)
  | _ => ("DiskEvidence$Finder", "hopes", "[I", true)
def tyX0 : Nat → FieldType := fun k => match k with
  | 0 => .array .int
  | 1 => .int
  | 2 => .array .byte
  | 3 => .int
  | 4 => .array .int
  | 5 => .int
  | 6 => .int
  | 7 => .int
  | 8 => .int
  | _ => .array .int
abbrev wsX00 : List Cond := u_ws RX0 TX0 10
theorem nmX0 : ∀ a, a < 10 → ∀ b, b < 10 → a ≠ b → (TX0 a).2.1 ≠ (TX0 b).2.1 := by decide +kernel
theorem tyX0_ok : ∀ k, k < 10 → parseFieldDescriptor (TX0 k).2.2.1 = some (tyX0 k) := by decide +kernel
abbrev cX0_init : ByteArray := prog_2_method_1_code
def yX0_init : MethodName := ⟨RX0, "<init>", "()V"⟩
def RX1 : String := "DiskEvidence$Form"
def TX1 : u_T := fun k => match k with
  | 0 => ("DiskEvidence$Form", "kind", "I", false)
  | 1 => ("DiskEvidence$Form", "n", "I", false)
  | 2 => ("DiskEvidence$Form", "tables", "I", false)
  | 3 => ("DiskEvidence$Form", "tableBlocks", "I", false)
  | 4 => ("DiskEvidence$Form", "rootBlocks", "I", false)
  | 5 => ("DiskEvidence$Form", "zone", "I", false)
  | 6 => ("DiskEvidence$Form", "clusters", "I", false)
  | 7 => ("DiskEvidence$Form", "firstCluster", "I", false)
  | 8 => ("DiskEvidence$Form", "nodes", "I", false)
  | 9 => ("DiskEvidence$Form", "data", "I", false)
  | 10 => ("DiskEvidence$Form", "headers", "[I", true)
  | 11 => ("DiskEvidence$Form", "headerCount", "I", false)
  | 12 => ("DiskEvidence$Form", "tapeEnd", "I", false)
  | 13 => ("DiskEvidence$Form", "tapeFault", "I", false)
  | 14 => ("DiskEvidence$Form", "seen", "[I", true)
  | 15 => ("DiskEvidence$Form", "followed", "I", false)
  | 16 => ("DiskEvidence$Form", "stop", "I", false)
  | _ => ("DiskEvidence$Form", "stopAt", "I", false)
def tyX1 : Nat → FieldType := fun k => match k with
  | 0 => .int
  | 1 => .int
  | 2 => .int
  | 3 => .int
  | 4 => .int
  | 5 => .int
  | 6 => .int
  | 7 => .int
  | 8 => .int
  | 9 => .int
  | 10 => .array .int
  | 11 => .int
  | 12 => .int
  | 13 => .int
  | 14 => .array .int
  | 15 => .int
  | 16 => .int
  | _ => .int
abbrev wsX10 : List Cond := u_ws RX1 TX1 18
theorem nmX1 : ∀ a, a < 18 → ∀ b, b < 18 → a ≠ b → (TX1 a).2.1 ≠ (TX1 b).2.1 := by decide +kernel
theorem tyX1_ok : ∀ k, k < 18 → parseFieldDescriptor (TX1 k).2.2.1 = some (tyX1 k) := by decide +kernel
abbrev cX1_init : ByteArray := prog_3_method_1_code
def yX1_init : MethodName := ⟨RX1, "<init>", "()V"⟩
def RX2 : String := "DiskEvidence$Item"
def TX2 : u_T := fun k => match k with
  | 0 => ("DiskEvidence$Item", "sort", "I", true)
  | 1 => ("DiskEvidence$Item", "kind", "I", true)
  | 2 => ("DiskEvidence$Item", "told", "J", true)
  | 3 => ("DiskEvidence$Item", "size", "I", false)
  | 4 => ("DiskEvidence$Item", "grade", "I", false)
  | 5 => ("DiskEvidence$Item", "parent", "I", false)
  | 6 => ("DiskEvidence$Item", "depth", "I", false)
  | 7 => ("DiskEvidence$Item", "faults", "I", false)
  | 8 => ("DiskEvidence$Item", "made", "J", false)
  | 9 => ("DiskEvidence$Item", "altered", "J", false)
  | 10 => ("DiskEvidence$Item", "erased", "J", false)
  | 11 => ("DiskEvidence$Item", "letters", "[B", false)
  | 12 => ("DiskEvidence$Item", "blocks", "[I", false)
  | 13 => ("DiskEvidence$Item", "base", "LDiskEvidence$Item;", false)
  | _ => ("DiskEvidence$Item", "offset", "I", false)
abbrev wsX20 : List Cond := u_ws RX2 TX2 15
def RX3 : String := "DiskEvidence$Maker"
def TX3 : u_T := fun k => match k with
  | 0 => ("DiskEvidence$Maker", "image", "[B", true)
  | 1 => ("DiskEvidence$Maker", "before", "[B", true)
  | 2 => ("DiskEvidence$Maker", "rooms", "[B", true)
  | 3 => ("DiskEvidence$Maker", "form", "LDiskEvidence$Form;", true)
  | 4 => ("DiskEvidence$Maker", "letters", "[B", true)
  | 5 => ("DiskEvidence$Maker", "text", "[B", false)
  | 6 => ("DiskEvidence$Maker", "pathEnd", "I", false)
  | 7 => ("DiskEvidence$Maker", "contentsAt", "I", false)
  | 8 => ("DiskEvidence$Maker", "moment", "I", false)
  | 9 => ("DiskEvidence$Maker", "inFolder", "I", false)
  | 10 => ("DiskEvidence$Maker", "folderBlocks", "[I", true)
  | 11 => ("DiskEvidence$Maker", "folderCount", "I", false)
  | 12 => ("DiskEvidence$Maker", "folderRows", "I", false)
  | 13 => ("DiskEvidence$Maker", "nameFrom", "I", false)
  | 14 => ("DiskEvidence$Maker", "rowAt", "I", false)
  | _ => ("DiskEvidence$Maker", "taken", "[I", true)
def tyX3 : Nat → FieldType := fun k => match k with
  | 0 => .array .byte
  | 1 => .array .byte
  | 2 => .array .byte
  | 3 => .object "DiskEvidence$Form"
  | 4 => .array .byte
  | 5 => .array .byte
  | 6 => .int
  | 7 => .int
  | 8 => .int
  | 9 => .int
  | 10 => .array .int
  | 11 => .int
  | 12 => .int
  | 13 => .int
  | 14 => .int
  | _ => .array .int
abbrev wsX30 : List Cond := u_ws RX3 TX3 16
theorem nmX3 : ∀ a, a < 16 → ∀ b, b < 16 → a ≠ b → (TX3 a).2.1 ≠ (TX3 b).2.1 := by decide +kernel
theorem tyX3_ok : ∀ k, k < 16 → parseFieldDescriptor (TX3 k).2.2.1 = some (tyX3 k) := by decide +kernel
abbrev cX3_init : ByteArray := prog_5_method_1_code
def yX3_init : MethodName := ⟨RX3, "<init>", "()V"⟩
def RX4 : String := "DiskEvidence$Opening"
def TX4 : u_T := fun k => match k with
  | 0 => ("DiskEvidence$Opening", "treeNumber", "I", true)
  | 1 => ("DiskEvidence$Opening", "fileNumber", "I", true)
  | 2 => ("DiskEvidence$Opening", "facts", "[I", true)
  | 3 => ("DiskEvidence$Opening", "nodeCount", "I", false)
  | 4 => ("DiskEvidence$Opening", "source", "[B", false)
  | 5 => ("DiskEvidence$Opening", "begin", "I", false)
  | 6 => ("DiskEvidence$Opening", "length", "I", false)
  | 7 => ("DiskEvidence$Opening", "place", "I", false)
  | 8 => ("DiskEvidence$Opening", "broken", "Z", false)
  | _ => ("DiskEvidence$Opening", "columns", "I", false)
abbrev wsX40 : List Cond := u_ws RX4 TX4 10
def RX5 : String := "DiskEvidence$Picture"
def TX5 : u_T := fun k => match k with
  | 0 => ("DiskEvidence$Picture", "sectorCount", "I", true)
  | 1 => ("DiskEvidence$Picture", "bytes", "[B", true)
  | 2 => ("DiskEvidence$Picture", "spoilt", "[Z", true)
  | 3 => ("DiskEvidence$Picture", "tables", "[I", true)
  | 4 => ("DiskEvidence$Picture", "tableCount", "I", false)
  | 5 => ("DiskEvidence$Picture", "partFacts", "[I", true)
  | _ => ("DiskEvidence$Picture", "partCount", "I", false)
def tyX5 : Nat → FieldType := fun k => match k with
  | 0 => .int
  | 1 => .array .byte
  | 2 => .array .boolean
  | 3 => .array .int
  | 4 => .int
  | 5 => .array .int
  | _ => .int
abbrev wsX50 : List Cond := u_ws RX5 TX5 7
theorem nmX5 : ∀ a, a < 7 → ∀ b, b < 7 → a ≠ b → (TX5 a).2.1 ≠ (TX5 b).2.1 := by decide +kernel
theorem tyX5_ok : ∀ k, k < 7 → parseFieldDescriptor (TX5 k).2.2.1 = some (tyX5 k) := by decide +kernel
abbrev cX5_init : ByteArray := prog_7_method_1_code
def yX5_init : MethodName := ⟨RX5, "<init>", "(I)V"⟩
def RX6 : String := "DiskEvidence$Query"
def TX6 : u_T := fun k => match k with
  | 0 => ("DiskEvidence$Query", "rows", "[I", true)
  | 1 => ("DiskEvidence$Query", "rowCount", "I", false)
  | 2 => ("DiskEvidence$Query", "keys", "[J", true)
  | 3 => ("DiskEvidence$Query", "code", "[I", true)
  | 4 => ("DiskEvidence$Query", "codeCount", "I", false)
  | 5 => ("DiskEvidence$Query", "text", "[B", false)
  | 6 => ("DiskEvidence$Query", "textLength", "I", false)
  | 7 => ("DiskEvidence$Query", "place", "I", false)
  | 8 => ("DiskEvidence$Query", "sortField", "I", false)
  | 9 => ("DiskEvidence$Query", "falling", "Z", false)
  | _ => ("DiskEvidence$Query", "has", "Z", false)
def tyX6 : Nat → FieldType := fun k => match k with
  | 0 => .array .int
  | 1 => .int
  | 2 => .array .long
  | 3 => .array .int
  | 4 => .int
  | 5 => .array .byte
  | 6 => .int
  | 7 => .int
  | 8 => .int
  | 9 => .boolean
  | _ => .boolean
abbrev wsX60 : List Cond := u_ws RX6 TX6 11
theorem nmX6 : ∀ a, a < 11 → ∀ b, b < 11 → a ≠ b → (TX6 a).2.1 ≠ (TX6 b).2.1 := by decide +kernel
theorem tyX6_ok : ∀ k, k < 11 → parseFieldDescriptor (TX6 k).2.2.1 = some (tyX6 k) := by decide +kernel
abbrev cX6_init : ByteArray := prog_8_method_1_code
def yX6_init : MethodName := ⟨RX6, "<init>", "()V"⟩
def RX7 : String := "DiskEvidence$Reader"
def TX7 : u_T := fun k => match k with
  | 0 => ("DiskEvidence$Reader", "tree", "LDiskEvidence$Tree;", true)
  | 1 => ("DiskEvidence$Reader", "form", "LDiskEvidence$Form;", true)
  | 2 => ("DiskEvidence$Reader", "image", "[B", true)
  | 3 => ("DiskEvidence$Reader", "erased", "[LDiskEvidence$Item;", true)
  | 4 => ("DiskEvidence$Reader", "erasedCount", "I", false)
  | 5 => ("DiskEvidence$Reader", "walked", "[Z", true)
  | 6 => ("DiskEvidence$Reader", "room", "[I", true)
  | _ => ("DiskEvidence$Reader", "letters", "[B", true)
abbrev wsX70 : List Cond := u_ws RX7 TX7 8
def RX8 : String := "DiskEvidence$TimeLine"
def TX8 : u_T := fun k => match k with
  | 0 => ("DiskEvidence$TimeLine", "moments", "[J", true)
  | 1 => ("DiskEvidence$TimeLine", "marks", "[I", true)
  | 2 => ("DiskEvidence$TimeLine", "momentCount", "I", false)
  | 3 => ("DiskEvidence$TimeLine", "doubtMarks", "[I", true)
  | _ => ("DiskEvidence$TimeLine", "doubtCount", "I", false)
def tyX8 : Nat → FieldType := fun k => match k with
  | 0 => .array .long
  | 1 => .array .int
  | 2 => .int
  | 3 => .array .int
  | _ => .int
abbrev wsX80 : List Cond := u_ws RX8 TX8 5
theorem nmX8 : ∀ a, a < 5 → ∀ b, b < 5 → a ≠ b → (TX8 a).2.1 ≠ (TX8 b).2.1 := by decide +kernel
theorem tyX8_ok : ∀ k, k < 5 → parseFieldDescriptor (TX8 k).2.2.1 = some (tyX8 k) := by decide +kernel
abbrev cX8_init : ByteArray := prog_10_method_1_code
def yX8_init : MethodName := ⟨RX8, "<init>", "()V"⟩
abbrev cX8_sortMoments : ByteArray := prog_10_method_6_code
def yX8_sortMoments : MethodName := ⟨RX8, "sortMoments", "()V"⟩
def RX9 : String := "DiskEvidence$Tree"
def TX9 : u_T := fun k => match k with
  | 0 => ("DiskEvidence$Tree", "form", "LDiskEvidence$Form;", true)
  | 1 => ("DiskEvidence$Tree", "image", "[B", true)
  | 2 => ("DiskEvidence$Tree", "volumeNumber", "I", true)
  | 3 => ("DiskEvidence$Tree", "owners", "[I", true)
  | 4 => ("DiskEvidence$Tree", "items", "[LDiskEvidence$Item;", true)
  | 5 => ("DiskEvidence$Tree", "total", "I", false)
  | 6 => ("DiskEvidence$Tree", "living", "I", false)
  | 7 => ("DiskEvidence$Tree", "lost", "I", false)
  | 8 => ("DiskEvidence$Tree", "cut", "I", false)
  | 9 => ("DiskEvidence$Tree", "within", "I", false)
  | 10 => ("DiskEvidence$Tree", "faults", "[I", true)
  | _ => ("DiskEvidence$Tree", "faultCount", "I", false)
abbrev wsX90 : List Cond := u_ws RX9 TX9 12
def RX10 : String := "DiskEvidence$Volume"
def TX10 : u_T := fun k => match k with
  | 0 => ("DiskEvidence$Volume", "kind", "I", true)
  | 1 => ("DiskEvidence$Volume", "size", "I", true)
  | 2 => ("DiskEvidence$Volume", "begin", "I", true)
  | 3 => ("DiskEvidence$Volume", "pictureNumber", "I", true)
  | 4 => ("DiskEvidence$Volume", "base", "LDiskEvidence$Picture;", true)
  | 5 => ("DiskEvidence$Volume", "first", "LDiskEvidence$Volume;", true)
  | 6 => ("DiskEvidence$Volume", "second", "LDiskEvidence$Volume;", true)
  | _ => ("DiskEvidence$Volume", "third", "LDiskEvidence$Volume;", true)
abbrev wsX100 : List Cond := u_ws RX10 TX10 8
def RX11 : String := "DiskEvidence"
def TX11 : u_T := fun k => match k with
  | 0 => ("DiskEvidence", "collected", "[B", true)
  | 1 => ("DiskEvidence", "collectedCount", "I", false)
  | 2 => ("DiskEvidence", "now", "I", false)
  | 3 => ("DiskEvidence", "pictures", "[LDiskEvidence$Picture;", true)
  | 4 => ("DiskEvidence", "pictureCount", "I", false)
  | 5 => ("DiskEvidence", "volumes", "[LDiskEvidence$Volume;", true)
  | 6 => ("DiskEvidence", "volumeCount", "I", false)
  | 7 => ("DiskEvidence", "trees", "[LDiskEvidence$Tree;", true)
  | 8 => ("DiskEvidence", "treeCount", "I", false)
  | 9 => ("DiskEvidence", "openings", "[LDiskEvidence$Opening;", true)
  | 10 => ("DiskEvidence", "openingCount", "I", false)
  | 11 => ("DiskEvidence", "claims", "[I", true)
  | 12 => ("DiskEvidence", "claimCount", "I", false)
  | 13 => ("DiskEvidence", "maker", "LDiskEvidence$Maker;", true)
  | 14 => ("DiskEvidence", "finder", "LDiskEvidence$Finder;", true)
  | 15 => ("DiskEvidence", "query", "LDiskEvidence$Query;", true)
  | 16 => ("DiskEvidence", "timeLine", "LDiskEvidence$TimeLine;", true)
  | 17 => ("DiskEvidence", "acts", "[I", true)
  | 18 => ("DiskEvidence", "links", "[J", true)
  | _ => ("DiskEvidence", "actCount", "I", false)
def tyX11 : Nat → FieldType := fun k => match k with
  | 0 => .array .byte
  | 1 => .int
  | 2 => .int
  | 3 => .array (.object "DiskEvidence$Picture")
  | 4 => .int
  | 5 => .array (.object "DiskEvidence$Volume")
  | 6 => .int
  | 7 => .array (.object "DiskEvidence$Tree")
  | 8 => .int
  | 9 => .array (.object "DiskEvidence$Opening")
  | 10 => .int
  | 11 => .array .int
  | 12 => .int
  | 13 => .object "DiskEvidence$Maker"
  | 14 => .object "DiskEvidence$Finder"
  | 15 => .object "DiskEvidence$Query"
  | 16 => .object "DiskEvidence$TimeLine"
  | 17 => .array .int
  | 18 => .array .long
  | _ => .int
abbrev wsX110 : List Cond := u_ws RX11 TX11 20
theorem nmX11 : ∀ a, a < 20 → ∀ b, b < 20 → a ≠ b → (TX11 a).2.1 ≠ (TX11 b).2.1 := by decide +kernel
theorem tyX11_ok : ∀ k, k < 20 → parseFieldDescriptor (TX11 k).2.2.1 = some (tyX11 k) := by decide +kernel
abbrev cX11_init : ByteArray := prog_1_method_1_code
def yX11_init : MethodName := ⟨RX11, "<init>", "()V"⟩
abbrev cX11_collect : ByteArray := prog_1_method_2_code
def yX11_collect : MethodName := ⟨RX11, "collect", "(JI)I"⟩
abbrev cX11_forget : ByteArray := prog_1_method_3_code
def yX11_forget : MethodName := ⟨RX11, "forget", "()I"⟩
abbrev cX11_tick : ByteArray := prog_1_method_4_code
def yX11_tick : MethodName := ⟨RX11, "tick", "(I)I"⟩
abbrev cX11_blank : ByteArray := prog_1_method_5_code
def yX11_blank : MethodName := ⟨RX11, "blank", "(I)I"⟩
abbrev cX11_picture : ByteArray := prog_1_method_6_code
def yX11_picture : MethodName := ⟨RX11, "picture", "()I"⟩
abbrev cX11_sectors : ByteArray := prog_1_method_7_code
def yX11_sectors : MethodName := ⟨RX11, "sectors", "(I)I"⟩
abbrev cX11_spoil : ByteArray := prog_1_method_8_code
def yX11_spoil : MethodName := ⟨RX11, "spoil", "(IIZ)I"⟩
abbrev cX11_byteAt : ByteArray := prog_1_method_9_code
def yX11_byteAt : MethodName := ⟨RX11, "byteAt", "(II)I"⟩
abbrev cX11_poke : ByteArray := prog_1_method_10_code
def yX11_poke : MethodName := ⟨RX11, "poke", "(III)I"⟩
abbrev cX11_crc : ByteArray := prog_1_method_11_code
def yX11_crc : MethodName := ⟨RX11, "crc", "(III)J"⟩
abbrev cX11_parts : ByteArray := prog_1_method_12_code
def yX11_parts : MethodName := ⟨RX11, "parts", "(I)I"⟩
abbrev cX11_part : ByteArray := prog_1_method_13_code
def yX11_part : MethodName := ⟨RX11, "part", "(III)I"⟩
abbrev cX11_volume : ByteArray := prog_1_method_14_code
def yX11_volume : MethodName := ⟨RX11, "volume", "(III)I"⟩
abbrev cX11_join : ByteArray := prog_1_method_15_code
def yX11_join : MethodName := ⟨RX11, "join", "(IIII)I"⟩
abbrev cX11_blocks : ByteArray := prog_1_method_16_code
def yX11_blocks : MethodName := ⟨RX11, "blocks", "(I)I"⟩
abbrev cX11_volumeByte : ByteArray := prog_1_method_17_code
def yX11_volumeByte : MethodName := ⟨RX11, "volumeByte", "(II)I"⟩
abbrev cX11_where : ByteArray := prog_1_method_18_code
def yX11_where : MethodName := ⟨RX11, "where", "(II)I"⟩
abbrev cX11_format : ByteArray := prog_1_method_19_code
def yX11_format : MethodName := ⟨RX11, "format", "(III)I"⟩
abbrev cX11_save : ByteArray := prog_1_method_20_code
def yX11_save : MethodName := ⟨RX11, "save", "(I)I"⟩
abbrev cX11_folder : ByteArray := prog_1_method_21_code
def yX11_folder : MethodName := ⟨RX11, "folder", "(I)I"⟩
abbrev cX11_erase : ByteArray := prog_1_method_22_code
def yX11_erase : MethodName := ⟨RX11, "erase", "(I)I"⟩
abbrev cX11_mount : ByteArray := prog_1_method_23_code
def yX11_mount : MethodName := ⟨RX11, "mount", "(I)I"⟩
abbrev cX11_tree : ByteArray := prog_1_method_24_code
def yX11_tree : MethodName := ⟨RX11, "tree", "(II)I"⟩
abbrev cX11_fault : ByteArray := prog_1_method_25_code
def yX11_fault : MethodName := ⟨RX11, "fault", "(III)I"⟩
abbrev cX11_owner : ByteArray := prog_1_method_26_code
def yX11_owner : MethodName := ⟨RX11, "owner", "(II)I"⟩
abbrev cX11_free : ByteArray := prog_1_method_27_code
def yX11_free : MethodName := ⟨RX11, "free", "(III)I"⟩
abbrev cX11_find : ByteArray := prog_1_method_28_code
def yX11_find : MethodName := ⟨RX11, "find", "(I)I"⟩
abbrev cX11_name : ByteArray := prog_1_method_29_code
def yX11_name : MethodName := ⟨RX11, "name", "(III)I"⟩
abbrev cX11_field : ByteArray := prog_1_method_30_code
def yX11_field : MethodName := ⟨RX11, "field", "(III)J"⟩
abbrev cX11_block : ByteArray := prog_1_method_31_code
def yX11_block : MethodName := ⟨RX11, "block", "(III)I"⟩
abbrev cX11_content : ByteArray := prog_1_method_32_code
def yX11_content : MethodName := ⟨RX11, "content", "(III)I"⟩
abbrev cX11_slack : ByteArray := prog_1_method_33_code
def yX11_slack : MethodName := ⟨RX11, "slack", "(III)I"⟩
abbrev cX11_open : ByteArray := prog_1_method_34_code
def yX11_open : MethodName := ⟨RX11, "open", "(II)I"⟩
abbrev cX11_node : ByteArray := prog_1_method_35_code
def yX11_node : MethodName := ⟨RX11, "node", "(III)I"⟩
abbrev cX11_opened : ByteArray := prog_1_method_36_code
def yX11_opened : MethodName := ⟨RX11, "opened", "(II)I"⟩
abbrev cX11_inside : ByteArray := prog_1_method_37_code
def yX11_inside : MethodName := ⟨RX11, "inside", "(II)I"⟩
abbrev cX11_word : ByteArray := prog_1_method_38_code
def yX11_word : MethodName := ⟨RX11, "word", "(I)I"⟩
abbrev cX11_pattern : ByteArray := prog_1_method_39_code
def yX11_pattern : MethodName := ⟨RX11, "pattern", "(I)I"⟩
abbrev cX11_hit : ByteArray := prog_1_method_40_code
def yX11_hit : MethodName := ⟨RX11, "hit", "(II)I"⟩
abbrev cX11_question : ByteArray := prog_1_method_41_code
def yX11_question : MethodName := ⟨RX11, "question", "(I)I"⟩
abbrev cX11_row : ByteArray := prog_1_method_42_code
def yX11_row : MethodName := ⟨RX11, "row", "(I)I"⟩
abbrev cX11_line : ByteArray := prog_1_method_43_code
def yX11_line : MethodName := ⟨RX11, "line", "()I"⟩
abbrev cX11_time : ByteArray := prog_1_method_44_code
def yX11_time : MethodName := ⟨RX11, "time", "(II)J"⟩
abbrev cX11_doubts : ByteArray := prog_1_method_45_code
def yX11_doubts : MethodName := ⟨RX11, "doubts", "()I"⟩
abbrev cX11_doubt : ByteArray := prog_1_method_46_code
def yX11_doubt : MethodName := ⟨RX11, "doubt", "(II)I"⟩
abbrev cX11_claim : ByteArray := prog_1_method_47_code
def yX11_claim : MethodName := ⟨RX11, "claim", "(IIII)I"⟩
abbrev cX11_claimed : ByteArray := prog_1_method_48_code
def yX11_claimed : MethodName := ⟨RX11, "claimed", "(II)I"⟩
abbrev cX11_check : ByteArray := prog_1_method_49_code
def yX11_check : MethodName := ⟨RX11, "check", "(I)I"⟩
abbrev cX11_act : ByteArray := prog_1_method_50_code
def yX11_act : MethodName := ⟨RX11, "act", "(II)I"⟩
abbrev cX11_link : ByteArray := prog_1_method_51_code
def yX11_link : MethodName := ⟨RX11, "link", "(I)J"⟩
abbrev cX11_alter : ByteArray := prog_1_method_52_code
def yX11_alter : MethodName := ⟨RX11, "alter", "(III)I"⟩
abbrev cX11_chain : ByteArray := prog_1_method_53_code
def yX11_chain : MethodName := ⟨RX11, "chain", "()I"⟩
abbrev cX11_count : ByteArray := prog_1_method_54_code
def yX11_count : MethodName := ⟨RX11, "count", "(I)I"⟩
abbrev cX11_pictureAt : ByteArray := prog_1_method_55_code
def yX11_pictureAt : MethodName := ⟨RX11, "pictureAt", "(I)LDiskEvidence$Picture;"⟩
abbrev cX11_volumeAt : ByteArray := prog_1_method_56_code
def yX11_volumeAt : MethodName := ⟨RX11, "volumeAt", "(I)LDiskEvidence$Volume;"⟩
abbrev cX11_maybeVolume : ByteArray := prog_1_method_57_code
def yX11_maybeVolume : MethodName := ⟨RX11, "maybeVolume", "(I)Z"⟩
abbrev cX11_treeAt : ByteArray := prog_1_method_58_code
def yX11_treeAt : MethodName := ⟨RX11, "treeAt", "(I)LDiskEvidence$Tree;"⟩
abbrev cX11_openingAt : ByteArray := prog_1_method_59_code
def yX11_openingAt : MethodName := ⟨RX11, "openingAt", "(I)LDiskEvidence$Opening;"⟩
abbrev cX11_itemIn : ByteArray := prog_1_method_60_code
def yX11_itemIn : MethodName := ⟨RX11, "itemIn", "(LDiskEvidence$Tree;I)LDiskEvidence$Item;"⟩
abbrev cX11_dueLink : ByteArray := prog_1_method_61_code
def yX11_dueLink : MethodName := ⟨RX11, "dueLink", "(I)J"⟩
abbrev cX11_packedFault : ByteArray := prog_1_method_78_code
def yX11_packedFault : MethodName := ⟨RX11, "packedFault", "([BI)I"⟩
def RX12 : String := "DiskEvidenceModel"
def TX12 : u_T := fun k => match k with
  | 0 => ("DiskEvidenceModel", "many", "I", false)
  | 1 => ("DiskEvidenceModel", "bytes", "[I", true)
  | 2 => ("DiskEvidenceModel", "now", "I", false)
  | 3 => ("DiskEvidenceModel", "pictures", "I", false)
  | 4 => ("DiskEvidenceModel", "sectorsOf", "[I", true)
  | 5 => ("DiskEvidenceModel", "data", "[I", true)
  | 6 => ("DiskEvidenceModel", "isSpoilt", "[Z", true)
  | 7 => ("DiskEvidenceModel", "volumes", "I", false)
  | 8 => ("DiskEvidenceModel", "sort", "[I", true)
  | 9 => ("DiskEvidenceModel", "pictureOf", "[I", true)
  | 10 => ("DiskEvidenceModel", "beginOf", "[I", true)
  | 11 => ("DiskEvidenceModel", "blocksOf", "[I", true)
  | 12 => ("DiskEvidenceModel", "members", "[I", true)
  | 13 => ("DiskEvidenceModel", "all", "[I", true)
  | 14 => ("DiskEvidenceModel", "comesSpoilt", "[Z", true)
  | 15 => ("DiskEvidenceModel", "isOld", "Z", false)
  | 16 => ("DiskEvidenceModel", "laid", "I", false)
  | 17 => ("DiskEvidenceModel", "sectorChanged", "[Z", true)
  | 18 => ("DiskEvidenceModel", "blockChanged", "[Z", true)
  | 19 => ("DiskEvidenceModel", "badAt", "I", false)
  | 20 => ("DiskEvidenceModel", "parts", "I", false)
  | 21 => ("DiskEvidenceModel", "partKind", "[I", true)
  | 22 => ("DiskEvidenceModel", "partFirst", "[I", true)
  | 23 => ("DiskEvidenceModel", "partMany", "[I", true)
  | 24 => ("DiskEvidenceModel", "partTable", "[I", true)
  | 25 => ("DiskEvidenceModel", "tables", "[I", true)
  | 26 => ("DiskEvidenceModel", "tablesMany", "I", false)
  | 27 => ("DiskEvidenceModel", "openTable", "[I", true)
  | 28 => ("DiskEvidenceModel", "openRow", "[I", true)
  | 29 => ("DiskEvidenceModel", "member", "I", false)
  | 30 => ("DiskEvidenceModel", "memberBlock", "I", false)
  | 31 => ("DiskEvidenceModel", "waitVolume", "[I", true)
  | 32 => ("DiskEvidenceModel", "waitBlock", "[I", true)
  | 33 => ("DiskEvidenceModel", "waitBytes", "[I", true)
  | 34 => ("DiskEvidenceModel", "waiting", "I", false)
  | 35 => ("DiskEvidenceModel", "one", "[I", true)
  | 36 => ("DiskEvidenceModel", "kept", "[I", true)
  | 37 => ("DiskEvidenceModel", "image", "[I", true)
  | 38 => ("DiskEvidenceModel", "old", "[I", true)
  | 39 => ("DiskEvidenceModel", "imageBlocks", "I", false)
  | 40 => ("DiskEvidenceModel", "form", "I", false)
  | 41 => ("DiskEvidenceModel", "tablesOf", "I", false)
  | 42 => ("DiskEvidenceModel", "tableBlocks", "I", false)
  | 43 => ("DiskEvidenceModel", "rootBlocks", "I", false)
  | 44 => ("DiskEvidenceModel", "zone", "I", false)
  | 45 => ("DiskEvidenceModel", "nodesOf", "I", false)
  | 46 => ("DiskEvidenceModel", "span", "I", false)
  | 47 => ("DiskEvidenceModel", "first", "I", false)
  | 48 => ("DiskEvidenceModel", "clusters", "I", false)
  | 49 => ("DiskEvidenceModel", "names", "I", false)
  | 50 => ("DiskEvidenceModel", "nameFrom", "[I", true)
  | 51 => ("DiskEvidenceModel", "nameTo", "[I", true)
  | 52 => ("DiskEvidenceModel", "pathEnd", "I", false)
  | 53 => ("DiskEvidenceModel", "links", "I", false)
  | 54 => ("DiskEvidenceModel", "link", "[I", true)
  | 55 => ("DiskEvidenceModel", "folderRow", "I", false)
  | 56 => ("DiskEvidenceModel", "folderNode", "I", false)
  | 57 => ("DiskEvidenceModel", "foundRow", "I", false)
  | 58 => ("DiskEvidenceModel", "tapeEnd", "I", false)
  | 59 => ("DiskEvidenceModel", "trees", "I", false)
  | 60 => ("DiskEvidenceModel", "treeForm", "[I", true)
  | 61 => ("DiskEvidenceModel", "treeVolume", "[I", true)
  | 62 => ("DiskEvidenceModel", "treeSpan", "[I", true)
  | 63 => ("DiskEvidenceModel", "treeBlocks", "[I", true)
  | 64 => ("DiskEvidenceModel", "treeZone", "[I", true)
  | 65 => ("DiskEvidenceModel", "treeBytes", "[I", true)
  | 66 => ("DiskEvidenceModel", "ownerOf", "[I", true)
  | 67 => ("DiskEvidenceModel", "living", "[I", true)
  | 68 => ("DiskEvidenceModel", "lost", "[I", true)
  | 69 => ("DiskEvidenceModel", "cut", "[I", true)
  | 70 => ("DiskEvidenceModel", "inside", "[I", true)
  | 71 => ("DiskEvidenceModel", "faults", "[I", true)
  | 72 => ("DiskEvidenceModel", "faultNumber", "[I", true)
  | 73 => ("DiskEvidenceModel", "faultFile", "[I", true)
  | 74 => ("DiskEvidenceModel", "faultBlock", "[I", true)
  | 75 => ("DiskEvidenceModel", "kindOf", "[I", true)
  | 76 => ("DiskEvidenceModel", "endOf", "[I", true)
  | 77 => ("DiskEvidenceModel", "sizeOf", "[J", true)
  | 78 => ("DiskEvidenceModel", "madeOf", "[J", true)
  | 79 => ("DiskEvidenceModel", "alteredOf", "[J", true)
  | 80 => ("DiskEvidenceModel", "erasedOf", "[J", true)
  | 81 => ("DiskEvidenceModel", "gradeOf", "[I", true)
  | 82 => ("DiskEvidenceModel", "parentOf", "[I", true)
  | 83 => ("DiskEvidenceModel", "depthOf", "[I", true)
  | 84 => ("DiskEvidenceModel", "faultsOf", "[I", true)
  | 85 => ("DiskEvidenceModel", "blocksMany", "[I", true)
  | 86 => ("DiskEvidenceModel", "fileBlocks", "[I", true)
  | 87 => ("DiskEvidenceModel", "nameMany", "[I", true)
  | 88 => ("DiskEvidenceModel", "nameBytes", "[I", true)
  | 89 => ("DiskEvidenceModel", "sourceOf", "[I", true)
  | 90 => ("DiskEvidenceModel", "sourceFrom", "[I", true)
  | 91 => ("DiskEvidenceModel", "tree", "I", false)
  | 92 => ("DiskEvidenceModel", "file", "I", false)
  | 93 => ("DiskEvidenceModel", "deep", "I", false)
  | 94 => ("DiskEvidenceModel", "walkFile", "[I", true)
  | 95 => ("DiskEvidenceModel", "walkRow", "[I", true)
  | 96 => ("DiskEvidenceModel", "walkNode", "[I", true)
  | 97 => ("DiskEvidenceModel", "erasedRows", "I", false)
  | 98 => ("DiskEvidenceModel", "erasedRow", "[I", true)
  | 99 => ("DiskEvidenceModel", "erasedParent", "[I", true)
  | 100 => ("DiskEvidenceModel", "erasedDepth", "[I", true)
  | 101 => ("DiskEvidenceModel", "isWalked", "[Z", true)
  | 102 => ("DiskEvidenceModel", "entries", "I", false)
  | 103 => ("DiskEvidenceModel", "entryAt", "[I", true)
  | 104 => ("DiskEvidenceModel", "entryHas", "[I", true)
  | 105 => ("DiskEvidenceModel", "row", "[I", true)
  | 106 => ("DiskEvidenceModel", "rowMany", "I", false)
  | 107 => ("DiskEvidenceModel", "opens", "I", false)
  | 108 => ("DiskEvidenceModel", "open", "I", false)
  | 109 => ("DiskEvidenceModel", "nodeLimit", "I", false)
  | 110 => ("DiskEvidenceModel", "broken", "I", false)
  | 111 => ("DiskEvidenceModel", "openTree", "[I", true)
  | 112 => ("DiskEvidenceModel", "openFile", "[I", true)
  | 113 => ("DiskEvidenceModel", "openSize", "[I", true)
  | 114 => ("DiskEvidenceModel", "points", "[I", true)
  | 115 => ("DiskEvidenceModel", "pointKind", "[I", true)
  | 116 => ("DiskEvidenceModel", "pointFrom", "[I", true)
  | 117 => ("DiskEvidenceModel", "pointTo", "[I", true)
  | 118 => ("DiskEvidenceModel", "pointValue", "[I", true)
  | 119 => ("DiskEvidenceModel", "pointParent", "[I", true)
  | 120 => ("DiskEvidenceModel", "packs", "I", false)
  | 121 => ("DiskEvidenceModel", "packAt", "[I", true)
  | 122 => ("DiskEvidenceModel", "columns", "I", false)
  | 123 => ("DiskEvidenceModel", "isHad", "[Z", true)
  | 124 => ("DiskEvidenceModel", "hits", "I", false)
  | 125 => ("DiskEvidenceModel", "hitFile", "[I", true)
  | 126 => ("DiskEvidenceModel", "hitAt", "[I", true)
  | 127 => ("DiskEvidenceModel", "hitMany", "[I", true)
  | 128 => ("DiskEvidenceModel", "newHits", "I", false)
  | 129 => ("DiskEvidenceModel", "atoms", "I", false)
  | 130 => ("DiskEvidenceModel", "takes", "[Z", true)
  | 131 => ("DiskEvidenceModel", "often", "[I", true)
  | 132 => ("DiskEvidenceModel", "fieldWords", "[C", true)
  | 133 => ("DiskEvidenceModel", "wordFrom", "[I", true)
  | 134 => ("DiskEvidenceModel", "sortWord", "[C", true)
  | 135 => ("DiskEvidenceModel", "place", "I", false)
  | 136 => ("DiskEvidenceModel", "isStuck", "Z", false)
  | 137 => ("DiskEvidenceModel", "opsMany", "I", false)
  | 138 => ("DiskEvidenceModel", "ops", "[I", true)
  | 139 => ("DiskEvidenceModel", "pileMany", "I", false)
  | 140 => ("DiskEvidenceModel", "pile", "[I", true)
  | 141 => ("DiskEvidenceModel", "asked", "I", false)
  | 142 => ("DiskEvidenceModel", "askField", "[I", true)
  | 143 => ("DiskEvidenceModel", "askHow", "[I", true)
  | 144 => ("DiskEvidenceModel", "askFrom", "[I", true)
  | 145 => ("DiskEvidenceModel", "askTo", "[I", true)
  | 146 => ("DiskEvidenceModel", "sortBy", "I", false)
  | 147 => ("DiskEvidenceModel", "falls", "Z", false)
  | 148 => ("DiskEvidenceModel", "truths", "[Z", true)
  | 149 => ("DiskEvidenceModel", "results", "I", false)
  | 150 => ("DiskEvidenceModel", "result", "[I", true)
  | 151 => ("DiskEvidenceModel", "moments", "I", false)
  | 152 => ("DiskEvidenceModel", "momentAt", "[J", true)
  | 153 => ("DiskEvidenceModel", "momentGrain", "[I", true)
  | 154 => ("DiskEvidenceModel", "momentTree", "[I", true)
  | 155 => ("DiskEvidenceModel", "momentFile", "[I", true)
  | 156 => ("DiskEvidenceModel", "momentWhich", "[I", true)
  | 157 => ("DiskEvidenceModel", "doubts", "I", false)
  | 158 => ("DiskEvidenceModel", "doubtTree", "[I", true)
  | 159 => ("DiskEvidenceModel", "doubtFile", "[I", true)
  | 160 => ("DiskEvidenceModel", "doubtWhich", "[I", true)
  | 161 => ("DiskEvidenceModel", "claims", "I", false)
  | 162 => ("DiskEvidenceModel", "claimTree", "[I", true)
  | 163 => ("DiskEvidenceModel", "claimFile", "[I", true)
  | 164 => ("DiskEvidenceModel", "claimKind", "[I", true)
  | 165 => ("DiskEvidenceModel", "claimA", "[I", true)
  | 166 => ("DiskEvidenceModel", "claimGrade", "[I", true)
  | 167 => ("DiskEvidenceModel", "acts", "I", false)
  | 168 => ("DiskEvidenceModel", "actWho", "[I", true)
  | 169 => ("DiskEvidenceModel", "actWhat", "[I", true)
  | 170 => ("DiskEvidenceModel", "actAt", "[I", true)
  | _ => ("DiskEvidenceModel", "actLink", "[J", true)
def tyX12 : Nat → FieldType := fun k => match k with
  | 0 => .int
  | 1 => .array .int
  | 2 => .int
  | 3 => .int
  | 4 => .array .int
  | 5 => .array .int
  | 6 => .array .boolean
  | 7 => .int
  | 8 => .array .int
  | 9 => .array .int
  | 10 => .array .int
  | 11 => .array .int
  | 12 => .array .int
  | 13 => .array .int
  | 14 => .array .boolean
  | 15 => .boolean
  | 16 => .int
  | 17 => .array .boolean
  | 18 => .array .boolean
  | 19 => .int
  | 20 => .int
  | 21 => .array .int
  | 22 => .array .int
  | 23 => .array .int
  | 24 => .array .int
  | 25 => .array .int
  | 26 => .int
  | 27 => .array .int
  | 28 => .array .int
  | 29 => .int
  | 30 => .int
  | 31 => .array .int
  | 32 => .array .int
  | 33 => .array .int
  | 34 => .int
  | 35 => .array .int
  | 36 => .array .int
  | 37 => .array .int
  | 38 => .array .int
  | 39 => .int
  | 40 => .int
  | 41 => .int
  | 42 => .int
  | 43 => .int
  | 44 => .int
  | 45 => .int
  | 46 => .int
  | 47 => .int
  | 48 => .int
  | 49 => .int
  | 50 => .array .int
  | 51 => .array .int
  | 52 => .int
  | 53 => .int
  | 54 => .array .int
  | 55 => .int
  | 56 => .int
  | 57 => .int
  | 58 => .int
  | 59 => .int
  | 60 => .array .int
  | 61 => .array .int
  | 62 => .array .int
  | 63 => .array .int
  | 64 => .array .int
  | 65 => .array .int
  | 66 => .array .int
  | 67 => .array .int
  | 68 => .array .int
  | 69 => .array .int
  | 70 => .array .int
  | 71 => .array .int
  | 72 => .array .int
  | 73 => .array .int
  | 74 => .array .int
  | 75 => .array .int
  | 76 => .array .int
  | 77 => .array .long
  | 78 => .array .long
  | 79 => .array .long
  | 80 => .array .long
  | 81 => .array .int
  | 82 => .array .int
  | 83 => .array .int
  | 84 => .array .int
  | 85 => .array .int
  | 86 => .array .int
  | 87 => .array .int
  | 88 => .array .int
  | 89 => .array .int
  | 90 => .array .int
  | 91 => .int
  | 92 => .int
  | 93 => .int
  | 94 => .array .int
  | 95 => .array .int
  | 96 => .array .int
  | 97 => .int
  | 98 => .array .int
  | 99 => .array .int
  | 100 => .array .int
  | 101 => .array .boolean
  | 102 => .int
  | 103 => .array .int
  | 104 => .array .int
  | 105 => .array .int
  | 106 => .int
  | 107 => .int
  | 108 => .int
  | 109 => .int
  | 110 => .int
  | 111 => .array .int
  | 112 => .array .int
  | 113 => .array .int
  | 114 => .array .int
  | 115 => .array .int
  | 116 => .array .int
  | 117 => .array .int
  | 118 => .array .int
  | 119 => .array .int
  | 120 => .int
  | 121 => .array .int
  | 122 => .int
  | 123 => .array .boolean
  | 124 => .int
  | 125 => .array .int
  | 126 => .array .int
  | 127 => .array .int
  | 128 => .int
  | 129 => .int
  | 130 => .array .boolean
  | 131 => .array .int
  | 132 => .array .char
  | 133 => .array .int
  | 134 => .array .char
  | 135 => .int
  | 136 => .boolean
  | 137 => .int
  | 138 => .array .int
  | 139 => .int
  | 140 => .array .int
  | 141 => .int
  | 142 => .array .int
  | 143 => .array .int
  | 144 => .array .int
  | 145 => .array .int
  | 146 => .int
  | 147 => .boolean
  | 148 => .array .boolean
  | 149 => .int
  | 150 => .array .int
  | 151 => .int
  | 152 => .array .long
  | 153 => .array .int
  | 154 => .array .int
  | 155 => .array .int
  | 156 => .array .int
  | 157 => .int
  | 158 => .array .int
  | 159 => .array .int
  | 160 => .array .int
  | 161 => .int
  | 162 => .array .int
  | 163 => .array .int
  | 164 => .array .int
  | 165 => .array .int
  | 166 => .array .int
  | 167 => .int
  | 168 => .array .int
  | 169 => .array .int
  | 170 => .array .int
  | _ => .array .long
abbrev wsX120 : List Cond := u_ws RX12 TX12 172
theorem nmX12 : ∀ a, a < 172 → ∀ b, b < 172 → a ≠ b → (TX12 a).2.1 ≠ (TX12 b).2.1 := by decide +kernel
theorem tyX12_ok : ∀ k, k < 172 → parseFieldDescriptor (TX12 k).2.2.1 = some (tyX12 k) := by decide +kernel
abbrev cX12_init : ByteArray := prog_14_method_1_code
def yX12_init : MethodName := ⟨RX12, "<init>", "()V"⟩
abbrev cX12_in : ByteArray := prog_14_method_2_code
def yX12_in : MethodName := ⟨RX12, "in", "(JJJ)Z"⟩
abbrev cX12_collect : ByteArray := prog_14_method_3_code
def yX12_collect : MethodName := ⟨RX12, "collect", "(JI)I"⟩
abbrev cX12_forget : ByteArray := prog_14_method_4_code
def yX12_forget : MethodName := ⟨RX12, "forget", "()I"⟩
abbrev cX12_tick : ByteArray := prog_14_method_5_code
def yX12_tick : MethodName := ⟨RX12, "tick", "(I)I"⟩
abbrev cX12_isPicture : ByteArray := prog_14_method_8_code
def yX12_isPicture : MethodName := ⟨RX12, "isPicture", "(I)Z"⟩
abbrev cX12_isSector : ByteArray := prog_14_method_9_code
def yX12_isSector : MethodName := ⟨RX12, "isSector", "(II)Z"⟩
abbrev cX12_blank : ByteArray := prog_14_method_10_code
def yX12_blank : MethodName := ⟨RX12, "blank", "(I)I"⟩
abbrev cX12_begin : ByteArray := prog_14_method_11_code
def yX12_begin : MethodName := ⟨RX12, "begin", "(I)I"⟩
abbrev cX12_is : ByteArray := prog_14_method_13_code
def yX12_is : MethodName := ⟨RX12, "is", "(III)Z"⟩
abbrev cX12_picture : ByteArray := prog_14_method_14_code
def yX12_picture : MethodName := ⟨RX12, "picture", "()I"⟩
abbrev cX12_unpack : ByteArray := prog_14_method_15_code
def yX12_unpack : MethodName := ⟨RX12, "unpack", "()I"⟩
abbrev cX12_sectors : ByteArray := prog_14_method_16_code
def yX12_sectors : MethodName := ⟨RX12, "sectors", "(I)I"⟩
abbrev cX12_spoil : ByteArray := prog_14_method_17_code
def yX12_spoil : MethodName := ⟨RX12, "spoil", "(IIZ)I"⟩
abbrev cX12_isByte : ByteArray := prog_14_method_20_code
def yX12_isByte : MethodName := ⟨RX12, "isByte", "(II)Z"⟩
abbrev cX12_byteAt : ByteArray := prog_14_method_21_code
def yX12_byteAt : MethodName := ⟨RX12, "byteAt", "(II)I"⟩
abbrev cX12_poke : ByteArray := prog_14_method_22_code
def yX12_poke : MethodName := ⟨RX12, "poke", "(III)I"⟩
abbrev cX12_crc : ByteArray := prog_14_method_23_code
def yX12_crc : MethodName := ⟨RX12, "crc", "(III)J"⟩
abbrev cX12_parts : ByteArray := prog_14_method_28_code
def yX12_parts : MethodName := ⟨RX12, "parts", "(I)I"⟩
abbrev cX12_part : ByteArray := prog_14_method_30_code
def yX12_part : MethodName := ⟨RX12, "part", "(III)I"⟩
abbrev cX12_isVolume : ByteArray := prog_14_method_31_code
def yX12_isVolume : MethodName := ⟨RX12, "isVolume", "(I)Z"⟩
abbrev cX12_volume : ByteArray := prog_14_method_33_code
def yX12_volume : MethodName := ⟨RX12, "volume", "(III)I"⟩
abbrev cX12_join : ByteArray := prog_14_method_34_code
def yX12_join : MethodName := ⟨RX12, "join", "(IIII)I"⟩
abbrev cX12_blocks : ByteArray := prog_14_method_40_code
def yX12_blocks : MethodName := ⟨RX12, "blocks", "(I)I"⟩
abbrev cX12_volumeByte : ByteArray := prog_14_method_41_code
def yX12_volumeByte : MethodName := ⟨RX12, "volumeByte", "(II)I"⟩
abbrev cX12_where : ByteArray := prog_14_method_42_code
def yX12_where : MethodName := ⟨RX12, "where", "(II)I"⟩
abbrev cX12_format : ByteArray := prog_14_method_60_code
def yX12_format : MethodName := ⟨RX12, "format", "(III)I"⟩
abbrev cX12_save : ByteArray := prog_14_method_106_code
def yX12_save : MethodName := ⟨RX12, "save", "(I)I"⟩
abbrev cX12_folder : ByteArray := prog_14_method_107_code
def yX12_folder : MethodName := ⟨RX12, "folder", "(I)I"⟩
abbrev cX12_erase : ByteArray := prog_14_method_109_code
def yX12_erase : MethodName := ⟨RX12, "erase", "(I)I"⟩
abbrev cX12_isTree : ByteArray := prog_14_method_112_code
def yX12_isTree : MethodName := ⟨RX12, "isTree", "(I)Z"⟩
abbrev cX12_isFile : ByteArray := prog_14_method_113_code
def yX12_isFile : MethodName := ⟨RX12, "isFile", "(II)Z"⟩
abbrev cX12_mount : ByteArray := prog_14_method_122_code
def yX12_mount : MethodName := ⟨RX12, "mount", "(I)I"⟩
abbrev cX12_open : ByteArray := prog_14_method_160_code
def yX12_open : MethodName := ⟨RX12, "open", "(II)I"⟩
abbrev cX12_isOpen : ByteArray := prog_14_method_161_code
def yX12_isOpen : MethodName := ⟨RX12, "isOpen", "(I)Z"⟩
abbrev cX12_isPoint : ByteArray := prog_14_method_162_code
def yX12_isPoint : MethodName := ⟨RX12, "isPoint", "(II)Z"⟩
abbrev cX12_node : ByteArray := prog_14_method_163_code
def yX12_node : MethodName := ⟨RX12, "node", "(III)I"⟩
abbrev cX12_opened : ByteArray := prog_14_method_165_code
def yX12_opened : MethodName := ⟨RX12, "opened", "(II)I"⟩
abbrev cX12_inside : ByteArray := prog_14_method_166_code
def yX12_inside : MethodName := ⟨RX12, "inside", "(II)I"⟩
abbrev cX12_tree : ByteArray := prog_14_method_167_code
def yX12_tree : MethodName := ⟨RX12, "tree", "(II)I"⟩
abbrev cX12_free : ByteArray := prog_14_method_169_code
def yX12_free : MethodName := ⟨RX12, "free", "(III)I"⟩
abbrev cX12_fault : ByteArray := prog_14_method_170_code
def yX12_fault : MethodName := ⟨RX12, "fault", "(III)I"⟩
abbrev cX12_owner_ : ByteArray := prog_14_method_171_code
def yX12_owner_ : MethodName := ⟨RX12, "owner", "(II)I"⟩
abbrev cX12_find : ByteArray := prog_14_method_173_code
def yX12_find : MethodName := ⟨RX12, "find", "(I)I"⟩
abbrev cX12_name : ByteArray := prog_14_method_174_code
def yX12_name : MethodName := ⟨RX12, "name", "(III)I"⟩
abbrev cX12_field : ByteArray := prog_14_method_175_code
def yX12_field : MethodName := ⟨RX12, "field", "(III)J"⟩
abbrev cX12_block : ByteArray := prog_14_method_176_code
def yX12_block : MethodName := ⟨RX12, "block", "(III)I"⟩
abbrev cX12_content : ByteArray := prog_14_method_178_code
def yX12_content : MethodName := ⟨RX12, "content", "(III)I"⟩
abbrev cX12_slack : ByteArray := prog_14_method_179_code
def yX12_slack : MethodName := ⟨RX12, "slack", "(III)I"⟩
abbrev cX12_word : ByteArray := prog_14_method_183_code
def yX12_word : MethodName := ⟨RX12, "word", "(I)I"⟩
abbrev cX12_pattern : ByteArray := prog_14_method_189_code
def yX12_pattern : MethodName := ⟨RX12, "pattern", "(I)I"⟩
abbrev cX12_hit : ByteArray := prog_14_method_190_code
def yX12_hit : MethodName := ⟨RX12, "hit", "(II)I"⟩
abbrev cX12_question : ByteArray := prog_14_method_212_code
def yX12_question : MethodName := ⟨RX12, "question", "(I)I"⟩
abbrev cX12_row : ByteArray := prog_14_method_213_code
def yX12_row : MethodName := ⟨RX12, "row", "(I)I"⟩
abbrev cX12_line : ByteArray := prog_14_method_216_code
def yX12_line : MethodName := ⟨RX12, "line", "()I"⟩
abbrev cX12_time : ByteArray := prog_14_method_217_code
def yX12_time : MethodName := ⟨RX12, "time", "(II)J"⟩
abbrev cX12_doubts : ByteArray := prog_14_method_219_code
def yX12_doubts : MethodName := ⟨RX12, "doubts", "()I"⟩
abbrev cX12_doubt : ByteArray := prog_14_method_220_code
def yX12_doubt : MethodName := ⟨RX12, "doubt", "(II)I"⟩
abbrev cX12_isOwnFile : ByteArray := prog_14_method_221_code
def yX12_isOwnFile : MethodName := ⟨RX12, "isOwnFile", "(II)Z"⟩
abbrev cX12_claim : ByteArray := prog_14_method_223_code
def yX12_claim : MethodName := ⟨RX12, "claim", "(IIII)I"⟩
abbrev cX12_claimed : ByteArray := prog_14_method_224_code
def yX12_claimed : MethodName := ⟨RX12, "claimed", "(II)I"⟩
abbrev cX12_check : ByteArray := prog_14_method_226_code
def yX12_check : MethodName := ⟨RX12, "check", "(I)I"⟩
abbrev cX12_linkOf : ByteArray := prog_14_method_227_code
def yX12_linkOf : MethodName := ⟨RX12, "linkOf", "(I)J"⟩
abbrev cX12_act : ByteArray := prog_14_method_228_code
def yX12_act : MethodName := ⟨RX12, "act", "(II)I"⟩
abbrev cX12_link : ByteArray := prog_14_method_229_code
def yX12_link : MethodName := ⟨RX12, "link", "(I)J"⟩
abbrev cX12_alter : ByteArray := prog_14_method_230_code
def yX12_alter : MethodName := ⟨RX12, "alter", "(III)I"⟩
abbrev cX12_chain : ByteArray := prog_14_method_231_code
def yX12_chain : MethodName := ⟨RX12, "chain", "()I"⟩
abbrev cX12_count : ByteArray := prog_14_method_232_code
def yX12_count : MethodName := ⟨RX12, "count", "(I)I"⟩
def RL : String := "DiskEvidenceLaw"
abbrev cL_law : ByteArray := code
theorem dX0_init_0 : decode cX0_init 0 = .ok (.aload_n 0, 1) := by decide +kernel
theorem dX0_init_1 : decode cX0_init 1 = .ok (.invokespecial 3, 3) := by decide +kernel
theorem dX0_init_4 : decode cX0_init 4 = .ok (.aload_n 0, 1) := by decide +kernel
theorem dX0_init_5 : decode cX0_init 5 = .ok (.sipush 600, 3) := by decide +kernel
theorem dX0_init_8 : decode cX0_init 8 = .ok (.newarray .int, 2) := by decide +kernel
theorem dX0_init_10 : decode cX0_init 10 = .ok (.putfield 11, 3) := by decide +kernel
theorem dX0_init_13 : decode cX0_init 13 = .ok (.aload_n 0, 1) := by decide +kernel
theorem dX0_init_14 : decode cX0_init 14 = .ok (.getstatic 15, 3) := by decide +kernel
theorem dX0_init_17 : decode cX0_init 17 = .ok (.putfield 19, 3) := by decide +kernel
theorem dX0_init_20 : decode cX0_init 20 = .ok (.aload_n 0, 1) := by decide +kernel
theorem dX0_init_21 : decode cX0_init 21 = .ok (.sipush 256, 3) := by decide +kernel
theorem dX0_init_24 : decode cX0_init 24 = .ok (.newarray .int, 2) := by decide +kernel
theorem dX0_init_26 : decode cX0_init 26 = .ok (.putfield 22, 3) := by decide +kernel
theorem dX0_init_29 : decode cX0_init 29 = .ok (.aload_n 0, 1) := by decide +kernel
theorem dX0_init_30 : decode cX0_init 30 = .ok (.sipush 16385, 3) := by decide +kernel
theorem dX0_init_33 : decode cX0_init 33 = .ok (.newarray .int, 2) := by decide +kernel
theorem dX0_init_35 : decode cX0_init 35 = .ok (.putfield 25, 3) := by decide +kernel
theorem dX0_init_38 : decode cX0_init 38 = .ok (.return_, 1) := by decide +kernel
theorem dX1_init_0 : decode cX1_init 0 = .ok (.aload_n 0, 1) := by decide +kernel
theorem dX1_init_1 : decode cX1_init 1 = .ok (.invokespecial 3, 3) := by decide +kernel
theorem dX1_init_4 : decode cX1_init 4 = .ok (.aload_n 0, 1) := by decide +kernel
theorem dX1_init_5 : decode cX1_init 5 = .ok (.sipush 256, 3) := by decide +kernel
theorem dX1_init_8 : decode cX1_init 8 = .ok (.newarray .int, 2) := by decide +kernel
theorem dX1_init_10 : decode cX1_init 10 = .ok (.putfield 9, 3) := by decide +kernel
theorem dX1_init_13 : decode cX1_init 13 = .ok (.aload_n 0, 1) := by decide +kernel
theorem dX1_init_14 : decode cX1_init 14 = .ok (.sipush 258, 3) := by decide +kernel
theorem dX1_init_17 : decode cX1_init 17 = .ok (.newarray .int, 2) := by decide +kernel
theorem dX1_init_19 : decode cX1_init 19 = .ok (.putfield 15, 3) := by decide +kernel
theorem dX1_init_22 : decode cX1_init 22 = .ok (.return_, 1) := by decide +kernel
theorem dX3_init_0 : decode cX3_init 0 = .ok (.aload_n 0, 1) := by decide +kernel
theorem dX3_init_1 : decode cX3_init 1 = .ok (.invokespecial 3, 3) := by decide +kernel
theorem dX3_init_4 : decode cX3_init 4 = .ok (.aload_n 0, 1) := by decide +kernel
theorem dX3_init_5 : decode cX3_init 5 = .ok (.sipush 16384, 3) := by decide +kernel
theorem dX3_init_8 : decode cX3_init 8 = .ok (.newarray .byte, 2) := by decide +kernel
theorem dX3_init_10 : decode cX3_init 10 = .ok (.putfield 9, 3) := by decide +kernel
theorem dX3_init_13 : decode cX3_init 13 = .ok (.aload_n 0, 1) := by decide +kernel
theorem dX3_init_14 : decode cX3_init 14 = .ok (.sipush 16384, 3) := by decide +kernel
theorem dX3_init_17 : decode cX3_init 17 = .ok (.newarray .byte, 2) := by decide +kernel
theorem dX3_init_19 : decode cX3_init 19 = .ok (.putfield 15, 3) := by decide +kernel
theorem dX3_init_22 : decode cX3_init 22 = .ok (.aload_n 0, 1) := by decide +kernel
theorem dX3_init_23 : decode cX3_init 23 = .ok (.sipush 832, 3) := by decide +kernel
theorem dX3_init_26 : decode cX3_init 26 = .ok (.newarray .byte, 2) := by decide +kernel
theorem dX3_init_28 : decode cX3_init 28 = .ok (.putfield 18, 3) := by decide +kernel
theorem dX3_init_31 : decode cX3_init 31 = .ok (.aload_n 0, 1) := by decide +kernel
theorem dX3_init_32 : decode cX3_init 32 = .ok (.new 21, 3) := by decide +kernel
theorem dX3_init_35 : decode cX3_init 35 = .ok (.dup, 1) := by decide +kernel
theorem dX3_init_36 : decode cX3_init 36 = .ok (.invokespecial 23, 3) := by decide +kernel
theorem dX3_init_39 : decode cX3_init 39 = .ok (.putfield 24, 3) := by decide +kernel
theorem dX3_init_42 : decode cX3_init 42 = .ok (.aload_n 0, 1) := by decide +kernel
theorem dX3_init_43 : decode cX3_init 43 = .ok (.bipush 12, 2) := by decide +kernel
theorem dX3_init_45 : decode cX3_init 45 = .ok (.newarray .byte, 2) := by decide +kernel
theorem dX3_init_47 : decode cX3_init 47 = .ok (.putfield 28, 3) := by decide +kernel
theorem dX3_init_50 : decode cX3_init 50 = .ok (.aload_n 0, 1) := by decide +kernel
theorem dX3_init_51 : decode cX3_init 51 = .ok (.getstatic 31, 3) := by decide +kernel
theorem dX3_init_54 : decode cX3_init 54 = .ok (.putfield 34, 3) := by decide +kernel
theorem dX3_init_57 : decode cX3_init 57 = .ok (.aload_n 0, 1) := by decide +kernel
theorem dX3_init_58 : decode cX3_init 58 = .ok (.sipush 256, 3) := by decide +kernel
theorem dX3_init_61 : decode cX3_init 61 = .ok (.newarray .int, 2) := by decide +kernel
theorem dX3_init_63 : decode cX3_init 63 = .ok (.putfield 37, 3) := by decide +kernel
theorem dX3_init_66 : decode cX3_init 66 = .ok (.aload_n 0, 1) := by decide +kernel
theorem dX3_init_67 : decode cX3_init 67 = .ok (.sipush 256, 3) := by decide +kernel
theorem dX3_init_70 : decode cX3_init 70 = .ok (.newarray .int, 2) := by decide +kernel
theorem dX3_init_72 : decode cX3_init 72 = .ok (.putfield 41, 3) := by decide +kernel
theorem dX3_init_75 : decode cX3_init 75 = .ok (.return_, 1) := by decide +kernel
theorem dX5_init_0 : decode cX5_init 0 = .ok (.aload_n 0, 1) := by decide +kernel
theorem dX5_init_1 : decode cX5_init 1 = .ok (.invokespecial 3, 3) := by decide +kernel
theorem dX5_init_4 : decode cX5_init 4 = .ok (.aload_n 0, 1) := by decide +kernel
theorem dX5_init_5 : decode cX5_init 5 = .ok (.bipush 16, 2) := by decide +kernel
theorem dX5_init_7 : decode cX5_init 7 = .ok (.newarray .int, 2) := by decide +kernel
theorem dX5_init_9 : decode cX5_init 9 = .ok (.putfield 11, 3) := by decide +kernel
theorem dX5_init_12 : decode cX5_init 12 = .ok (.aload_n 0, 1) := by decide +kernel
theorem dX5_init_13 : decode cX5_init 13 = .ok (.sipush 256, 3) := by decide +kernel
theorem dX5_init_16 : decode cX5_init 16 = .ok (.newarray .int, 2) := by decide +kernel
theorem dX5_init_18 : decode cX5_init 18 = .ok (.putfield 15, 3) := by decide +kernel
theorem dX5_init_21 : decode cX5_init 21 = .ok (.aload_n 0, 1) := by decide +kernel
theorem dX5_init_22 : decode cX5_init 22 = .ok (.iload_n 1, 1) := by decide +kernel
theorem dX5_init_23 : decode cX5_init 23 = .ok (.putfield 18, 3) := by decide +kernel
theorem dX5_init_26 : decode cX5_init 26 = .ok (.aload_n 0, 1) := by decide +kernel
theorem dX5_init_27 : decode cX5_init 27 = .ok (.iload_n 1, 1) := by decide +kernel
theorem dX5_init_28 : decode cX5_init 28 = .ok (.bipush 64, 2) := by decide +kernel
theorem dX5_init_30 : decode cX5_init 30 = .ok (.imul, 1) := by decide +kernel
theorem dX5_init_31 : decode cX5_init 31 = .ok (.newarray .byte, 2) := by decide +kernel
theorem dX5_init_33 : decode cX5_init 33 = .ok (.putfield 22, 3) := by decide +kernel
theorem dX5_init_36 : decode cX5_init 36 = .ok (.aload_n 0, 1) := by decide +kernel
theorem dX5_init_37 : decode cX5_init 37 = .ok (.iload_n 1, 1) := by decide +kernel
theorem dX5_init_38 : decode cX5_init 38 = .ok (.newarray .boolean, 2) := by decide +kernel
theorem dX5_init_40 : decode cX5_init 40 = .ok (.putfield 26, 3) := by decide +kernel
theorem dX5_init_43 : decode cX5_init 43 = .ok (.return_, 1) := by decide +kernel
theorem dX6_init_0 : decode cX6_init 0 = .ok (.aload_n 0, 1) := by decide +kernel
theorem dX6_init_1 : decode cX6_init 1 = .ok (.invokespecial 3, 3) := by decide +kernel
theorem dX6_init_4 : decode cX6_init 4 = .ok (.aload_n 0, 1) := by decide +kernel
theorem dX6_init_5 : decode cX6_init 5 = .ok (.sipush 150, 3) := by decide +kernel
theorem dX6_init_8 : decode cX6_init 8 = .ok (.newarray .int, 2) := by decide +kernel
theorem dX6_init_10 : decode cX6_init 10 = .ok (.putfield 9, 3) := by decide +kernel
theorem dX6_init_13 : decode cX6_init 13 = .ok (.aload_n 0, 1) := by decide +kernel
theorem dX6_init_14 : decode cX6_init 14 = .ok (.sipush 150, 3) := by decide +kernel
theorem dX6_init_17 : decode cX6_init 17 = .ok (.newarray .long, 2) := by decide +kernel
theorem dX6_init_19 : decode cX6_init 19 = .ok (.putfield 15, 3) := by decide +kernel
theorem dX6_init_22 : decode cX6_init 22 = .ok (.aload_n 0, 1) := by decide +kernel
theorem dX6_init_23 : decode cX6_init 23 = .ok (.sipush 4000, 3) := by decide +kernel
theorem dX6_init_26 : decode cX6_init 26 = .ok (.newarray .int, 2) := by decide +kernel
theorem dX6_init_28 : decode cX6_init 28 = .ok (.putfield 19, 3) := by decide +kernel
theorem dX6_init_31 : decode cX6_init 31 = .ok (.aload_n 0, 1) := by decide +kernel
theorem dX6_init_32 : decode cX6_init 32 = .ok (.getstatic 22, 3) := by decide +kernel
theorem dX6_init_35 : decode cX6_init 35 = .ok (.putfield 26, 3) := by decide +kernel
theorem dX6_init_38 : decode cX6_init 38 = .ok (.return_, 1) := by decide +kernel
theorem dX8_init_0 : decode cX8_init 0 = .ok (.aload_n 0, 1) := by decide +kernel
theorem dX8_init_1 : decode cX8_init 1 = .ok (.invokespecial 3, 3) := by decide +kernel
theorem dX8_init_4 : decode cX8_init 4 = .ok (.aload_n 0, 1) := by decide +kernel
theorem dX8_init_5 : decode cX8_init 5 = .ok (.sipush 3200, 3) := by decide +kernel
theorem dX8_init_8 : decode cX8_init 8 = .ok (.newarray .long, 2) := by decide +kernel
theorem dX8_init_10 : decode cX8_init 10 = .ok (.putfield 11, 3) := by decide +kernel
theorem dX8_init_13 : decode cX8_init 13 = .ok (.aload_n 0, 1) := by decide +kernel
theorem dX8_init_14 : decode cX8_init 14 = .ok (.sipush 3200, 3) := by decide +kernel
theorem dX8_init_17 : decode cX8_init 17 = .ok (.newarray .int, 2) := by decide +kernel
theorem dX8_init_19 : decode cX8_init 19 = .ok (.putfield 15, 3) := by decide +kernel
theorem dX8_init_22 : decode cX8_init 22 = .ok (.aload_n 0, 1) := by decide +kernel
theorem dX8_init_23 : decode cX8_init 23 = .ok (.sipush 2700, 3) := by decide +kernel
theorem dX8_init_26 : decode cX8_init 26 = .ok (.newarray .int, 2) := by decide +kernel
theorem dX8_init_28 : decode cX8_init 28 = .ok (.putfield 19, 3) := by decide +kernel
theorem dX8_init_31 : decode cX8_init 31 = .ok (.return_, 1) := by decide +kernel
theorem dX8_sortMoments_0 : decode cX8_sortMoments 0 = .ok (.iconst 1, 1) := by decide +kernel
theorem dX8_sortMoments_1 : decode cX8_sortMoments 1 = .ok (.istore_n 1, 1) := by decide +kernel
theorem dX8_sortMoments_2 : decode cX8_sortMoments 2 = .ok (.iload_n 1, 1) := by decide +kernel
theorem dX8_sortMoments_3 : decode cX8_sortMoments 3 = .ok (.aload_n 0, 1) := by decide +kernel
theorem dX8_sortMoments_4 : decode cX8_sortMoments 4 = .ok (.getfield 22, 3) := by decide +kernel
theorem dX8_sortMoments_7 : decode cX8_sortMoments 7 = .ok (.if_icmp .ge 101, 3) := by decide +kernel
theorem dX8_sortMoments_108 : decode cX8_sortMoments 108 = .ok (.return_, 1) := by decide +kernel
theorem dX11_init_0 : decode cX11_init 0 = .ok (.aload_n 0, 1) := by decide +kernel
theorem dX11_init_1 : decode cX11_init 1 = .ok (.invokespecial 1, 3) := by decide +kernel
theorem dX11_init_4 : decode cX11_init 4 = .ok (.aload_n 0, 1) := by decide +kernel
theorem dX11_init_5 : decode cX11_init 5 = .ok (.sipush 4000, 3) := by decide +kernel
theorem dX11_init_8 : decode cX11_init 8 = .ok (.newarray .byte, 2) := by decide +kernel
theorem dX11_init_10 : decode cX11_init 10 = .ok (.putfield 9, 3) := by decide +kernel
theorem dX11_init_13 : decode cX11_init 13 = .ok (.aload_n 0, 1) := by decide +kernel
theorem dX11_init_14 : decode cX11_init 14 = .ok (.bipush 6, 2) := by decide +kernel
theorem dX11_init_16 : decode cX11_init 16 = .ok (.anewarray 13, 3) := by decide +kernel
theorem dX11_init_19 : decode cX11_init 19 = .ok (.putfield 15, 3) := by decide +kernel
theorem dX11_init_22 : decode cX11_init 22 = .ok (.aload_n 0, 1) := by decide +kernel
theorem dX11_init_23 : decode cX11_init 23 = .ok (.bipush 12, 2) := by decide +kernel
theorem dX11_init_25 : decode cX11_init 25 = .ok (.anewarray 19, 3) := by decide +kernel
theorem dX11_init_28 : decode cX11_init 28 = .ok (.putfield 21, 3) := by decide +kernel
theorem dX11_init_31 : decode cX11_init 31 = .ok (.aload_n 0, 1) := by decide +kernel
theorem dX11_init_32 : decode cX11_init 32 = .ok (.bipush 6, 2) := by decide +kernel
theorem dX11_init_34 : decode cX11_init 34 = .ok (.anewarray 25, 3) := by decide +kernel
theorem dX11_init_37 : decode cX11_init 37 = .ok (.putfield 27, 3) := by decide +kernel
theorem dX11_init_40 : decode cX11_init 40 = .ok (.aload_n 0, 1) := by decide +kernel
theorem dX11_init_41 : decode cX11_init 41 = .ok (.bipush 8, 2) := by decide +kernel
theorem dX11_init_43 : decode cX11_init 43 = .ok (.anewarray 31, 3) := by decide +kernel
theorem dX11_init_46 : decode cX11_init 46 = .ok (.putfield 33, 3) := by decide +kernel
theorem dX11_init_49 : decode cX11_init 49 = .ok (.aload_n 0, 1) := by decide +kernel
theorem dX11_init_50 : decode cX11_init 50 = .ok (.sipush 240, 3) := by decide +kernel
theorem dX11_init_53 : decode cX11_init 53 = .ok (.newarray .int, 2) := by decide +kernel
theorem dX11_init_55 : decode cX11_init 55 = .ok (.putfield 37, 3) := by decide +kernel
theorem dX11_init_58 : decode cX11_init 58 = .ok (.aload_n 0, 1) := by decide +kernel
theorem dX11_init_59 : decode cX11_init 59 = .ok (.new 41, 3) := by decide +kernel
theorem dX11_init_62 : decode cX11_init 62 = .ok (.dup, 1) := by decide +kernel
theorem dX11_init_63 : decode cX11_init 63 = .ok (.invokespecial 43, 3) := by decide +kernel
theorem dX11_init_66 : decode cX11_init 66 = .ok (.putfield 44, 3) := by decide +kernel
theorem dX11_init_69 : decode cX11_init 69 = .ok (.aload_n 0, 1) := by decide +kernel
theorem dX11_init_70 : decode cX11_init 70 = .ok (.new 48, 3) := by decide +kernel
theorem dX11_init_73 : decode cX11_init 73 = .ok (.dup, 1) := by decide +kernel
theorem dX11_init_74 : decode cX11_init 74 = .ok (.invokespecial 50, 3) := by decide +kernel
theorem dX11_init_77 : decode cX11_init 77 = .ok (.putfield 51, 3) := by decide +kernel
theorem dX11_init_80 : decode cX11_init 80 = .ok (.aload_n 0, 1) := by decide +kernel
theorem dX11_init_81 : decode cX11_init 81 = .ok (.new 55, 3) := by decide +kernel
theorem dX11_init_84 : decode cX11_init 84 = .ok (.dup, 1) := by decide +kernel
theorem dX11_init_85 : decode cX11_init 85 = .ok (.invokespecial 57, 3) := by decide +kernel
theorem dX11_init_88 : decode cX11_init 88 = .ok (.putfield 58, 3) := by decide +kernel
theorem dX11_init_91 : decode cX11_init 91 = .ok (.aload_n 0, 1) := by decide +kernel
theorem dX11_init_92 : decode cX11_init 92 = .ok (.new 62, 3) := by decide +kernel
theorem dX11_init_95 : decode cX11_init 95 = .ok (.dup, 1) := by decide +kernel
theorem dX11_init_96 : decode cX11_init 96 = .ok (.invokespecial 64, 3) := by decide +kernel
theorem dX11_init_99 : decode cX11_init 99 = .ok (.putfield 65, 3) := by decide +kernel
theorem dX11_init_102 : decode cX11_init 102 = .ok (.aload_n 0, 1) := by decide +kernel
theorem dX11_init_103 : decode cX11_init 103 = .ok (.sipush 300, 3) := by decide +kernel
theorem dX11_init_106 : decode cX11_init 106 = .ok (.newarray .int, 2) := by decide +kernel
theorem dX11_init_108 : decode cX11_init 108 = .ok (.putfield 69, 3) := by decide +kernel
theorem dX11_init_111 : decode cX11_init 111 = .ok (.aload_n 0, 1) := by decide +kernel
theorem dX11_init_112 : decode cX11_init 112 = .ok (.bipush 100, 2) := by decide +kernel
theorem dX11_init_114 : decode cX11_init 114 = .ok (.newarray .long, 2) := by decide +kernel
theorem dX11_init_116 : decode cX11_init 116 = .ok (.putfield 72, 3) := by decide +kernel
theorem dX11_init_119 : decode cX11_init 119 = .ok (.return_, 1) := by decide +kernel
theorem dX11_collect_0 : decode cX11_collect 0 = .ok (.iload_n 3, 1) := by decide +kernel
theorem dX11_collect_1 : decode cX11_collect 1 = .ok (.iconst 1, 1) := by decide +kernel
theorem dX11_collect_2 : decode cX11_collect 2 = .ok (.if_icmp .lt 9, 3) := by decide +kernel
theorem dX11_collect_5 : decode cX11_collect 5 = .ok (.iload_n 3, 1) := by decide +kernel
theorem dX11_collect_6 : decode cX11_collect 6 = .ok (.bipush 8, 2) := by decide +kernel
theorem dX11_collect_8 : decode cX11_collect 8 = .ok (.if_icmp .le 6, 3) := by decide +kernel
theorem dX11_collect_11 : decode cX11_collect 11 = .ok (.bipush (-2), 2) := by decide +kernel
theorem dX11_collect_13 : decode cX11_collect 13 = .ok (.ireturn, 1) := by decide +kernel
theorem dX11_collect_14 : decode cX11_collect 14 = .ok (.aload_n 0, 1) := by decide +kernel
theorem dX11_collect_15 : decode cX11_collect 15 = .ok (.getfield 76, 3) := by decide +kernel
theorem dX11_collect_18 : decode cX11_collect 18 = .ok (.iload_n 3, 1) := by decide +kernel
theorem dX11_collect_19 : decode cX11_collect 19 = .ok (.iadd, 1) := by decide +kernel
theorem dX11_collect_20 : decode cX11_collect 20 = .ok (.sipush 4000, 3) := by decide +kernel
theorem dX11_collect_23 : decode cX11_collect 23 = .ok (.if_icmp .le 6, 3) := by decide +kernel
theorem dX11_collect_29 : decode cX11_collect 29 = .ok (.iconst 0, 1) := by decide +kernel
theorem dX11_collect_30 : decode cX11_collect 30 = .ok (.istore 4, 2) := by decide +kernel
theorem dX11_collect_32 : decode cX11_collect 32 = .ok (.iload 4, 2) := by decide +kernel
theorem dX11_collect_34 : decode cX11_collect 34 = .ok (.iload_n 3, 1) := by decide +kernel
theorem dX11_collect_35 : decode cX11_collect 35 = .ok (.if_icmp .ge 30, 3) := by decide +kernel
theorem dX11_collect_38 : decode cX11_collect 38 = .ok (.aload_n 0, 1) := by decide +kernel
theorem dX11_collect_39 : decode cX11_collect 39 = .ok (.getfield 9, 3) := by decide +kernel
theorem dX11_collect_42 : decode cX11_collect 42 = .ok (.aload_n 0, 1) := by decide +kernel
theorem dX11_collect_43 : decode cX11_collect 43 = .ok (.getfield 76, 3) := by decide +kernel
theorem dX11_collect_46 : decode cX11_collect 46 = .ok (.iload 4, 2) := by decide +kernel
theorem dX11_collect_48 : decode cX11_collect 48 = .ok (.iadd, 1) := by decide +kernel
theorem dX11_collect_49 : decode cX11_collect 49 = .ok (.lload_n 1, 1) := by decide +kernel
theorem dX11_collect_50 : decode cX11_collect 50 = .ok (.bipush 8, 2) := by decide +kernel
theorem dX11_collect_52 : decode cX11_collect 52 = .ok (.iload 4, 2) := by decide +kernel
theorem dX11_collect_54 : decode cX11_collect 54 = .ok (.imul, 1) := by decide +kernel
theorem dX11_collect_55 : decode cX11_collect 55 = .ok (.lushr, 1) := by decide +kernel
theorem dX11_collect_56 : decode cX11_collect 56 = .ok (.l2i, 1) := by decide +kernel
theorem dX11_collect_57 : decode cX11_collect 57 = .ok (.i2b, 1) := by decide +kernel
theorem dX11_collect_58 : decode cX11_collect 58 = .ok (.bastore, 1) := by decide +kernel
theorem dX11_collect_59 : decode cX11_collect 59 = .ok (.iinc 4 1, 3) := by decide +kernel
theorem dX11_collect_62 : decode cX11_collect 62 = .ok (.goto (-30), 3) := by decide +kernel
theorem dX11_collect_65 : decode cX11_collect 65 = .ok (.aload_n 0, 1) := by decide +kernel
theorem dX11_collect_66 : decode cX11_collect 66 = .ok (.dup, 1) := by decide +kernel
theorem dX11_collect_67 : decode cX11_collect 67 = .ok (.getfield 76, 3) := by decide +kernel
theorem dX11_collect_70 : decode cX11_collect 70 = .ok (.iload_n 3, 1) := by decide +kernel
theorem dX11_collect_71 : decode cX11_collect 71 = .ok (.iadd, 1) := by decide +kernel
theorem dX11_collect_72 : decode cX11_collect 72 = .ok (.putfield 76, 3) := by decide +kernel
theorem dX11_collect_75 : decode cX11_collect 75 = .ok (.aload_n 0, 1) := by decide +kernel
theorem dX11_collect_76 : decode cX11_collect 76 = .ok (.getfield 76, 3) := by decide +kernel
theorem dX11_collect_79 : decode cX11_collect 79 = .ok (.ireturn, 1) := by decide +kernel
theorem dX11_forget_0 : decode cX11_forget 0 = .ok (.aload_n 0, 1) := by decide +kernel
theorem dX11_forget_1 : decode cX11_forget 1 = .ok (.getfield 76, 3) := by decide +kernel
theorem dX11_forget_4 : decode cX11_forget 4 = .ok (.istore_n 1, 1) := by decide +kernel
theorem dX11_forget_5 : decode cX11_forget 5 = .ok (.aload_n 0, 1) := by decide +kernel
theorem dX11_forget_6 : decode cX11_forget 6 = .ok (.iconst 0, 1) := by decide +kernel
theorem dX11_forget_7 : decode cX11_forget 7 = .ok (.putfield 76, 3) := by decide +kernel
theorem dX11_forget_10 : decode cX11_forget 10 = .ok (.iload_n 1, 1) := by decide +kernel
theorem dX11_forget_11 : decode cX11_forget 11 = .ok (.ireturn, 1) := by decide +kernel
theorem dX11_tick_0 : decode cX11_tick 0 = .ok (.iload_n 1, 1) := by decide +kernel
theorem dX11_tick_1 : decode cX11_tick 1 = .ok (.ifCond .lt 20, 3) := by decide +kernel
theorem dX11_tick_4 : decode cX11_tick 4 = .ok (.iload_n 1, 1) := by decide +kernel
theorem dX11_tick_5 : decode cX11_tick 5 = .ok (.ldc 80, 2) := by decide +kernel
theorem dX11_tick_7 : decode cX11_tick 7 = .ok (.if_icmp .gt 14, 3) := by decide +kernel
theorem dX11_tick_10 : decode cX11_tick 10 = .ok (.iload_n 1, 1) := by decide +kernel
theorem dX11_tick_11 : decode cX11_tick 11 = .ok (.ldc 81, 2) := by decide +kernel
theorem dX11_tick_13 : decode cX11_tick 13 = .ok (.aload_n 0, 1) := by decide +kernel
theorem dX11_tick_14 : decode cX11_tick 14 = .ok (.getfield 82, 3) := by decide +kernel
theorem dX11_tick_17 : decode cX11_tick 17 = .ok (.isub, 1) := by decide +kernel
theorem dX11_tick_18 : decode cX11_tick 18 = .ok (.if_icmp .le 6, 3) := by decide +kernel
theorem dX11_tick_21 : decode cX11_tick 21 = .ok (.bipush (-2), 2) := by decide +kernel
theorem dX11_tick_23 : decode cX11_tick 23 = .ok (.ireturn, 1) := by decide +kernel
theorem dX11_tick_24 : decode cX11_tick 24 = .ok (.aload_n 0, 1) := by decide +kernel
theorem dX11_tick_25 : decode cX11_tick 25 = .ok (.dup, 1) := by decide +kernel
theorem dX11_tick_26 : decode cX11_tick 26 = .ok (.getfield 82, 3) := by decide +kernel
theorem dX11_tick_29 : decode cX11_tick 29 = .ok (.iload_n 1, 1) := by decide +kernel
theorem dX11_tick_30 : decode cX11_tick 30 = .ok (.iadd, 1) := by decide +kernel
theorem dX11_tick_31 : decode cX11_tick 31 = .ok (.putfield 82, 3) := by decide +kernel
theorem dX11_tick_34 : decode cX11_tick 34 = .ok (.aload_n 0, 1) := by decide +kernel
theorem dX11_tick_35 : decode cX11_tick 35 = .ok (.getfield 82, 3) := by decide +kernel
theorem dX11_tick_38 : decode cX11_tick 38 = .ok (.ireturn, 1) := by decide +kernel
theorem dX11_blank_0 : decode cX11_blank 0 = .ok (.iload_n 1, 1) := by decide +kernel
theorem dX11_blank_1 : decode cX11_blank 1 = .ok (.iconst 1, 1) := by decide +kernel
theorem dX11_blank_2 : decode cX11_blank 2 = .ok (.if_icmp .lt 10, 3) := by decide +kernel
theorem dX11_blank_5 : decode cX11_blank 5 = .ok (.iload_n 1, 1) := by decide +kernel
theorem dX11_blank_6 : decode cX11_blank 6 = .ok (.sipush 128, 3) := by decide +kernel
theorem dX11_blank_9 : decode cX11_blank 9 = .ok (.if_icmp .le 6, 3) := by decide +kernel
theorem dX11_blank_12 : decode cX11_blank 12 = .ok (.bipush (-2), 2) := by decide +kernel
theorem dX11_blank_14 : decode cX11_blank 14 = .ok (.ireturn, 1) := by decide +kernel
theorem dX11_blank_15 : decode cX11_blank 15 = .ok (.aload_n 0, 1) := by decide +kernel
theorem dX11_blank_16 : decode cX11_blank 16 = .ok (.getfield 85, 3) := by decide +kernel
theorem dX11_blank_19 : decode cX11_blank 19 = .ok (.bipush 6, 2) := by decide +kernel
theorem dX11_blank_21 : decode cX11_blank 21 = .ok (.if_icmp .lt 6, 3) := by decide +kernel
theorem dX11_blank_27 : decode cX11_blank 27 = .ok (.aload_n 0, 1) := by decide +kernel
theorem dX11_blank_28 : decode cX11_blank 28 = .ok (.getfield 15, 3) := by decide +kernel
theorem dX11_blank_31 : decode cX11_blank 31 = .ok (.aload_n 0, 1) := by decide +kernel
theorem dX11_blank_32 : decode cX11_blank 32 = .ok (.getfield 85, 3) := by decide +kernel
theorem dX11_blank_35 : decode cX11_blank 35 = .ok (.new 13, 3) := by decide +kernel
theorem dX11_blank_38 : decode cX11_blank 38 = .ok (.dup, 1) := by decide +kernel
theorem dX11_blank_39 : decode cX11_blank 39 = .ok (.iload_n 1, 1) := by decide +kernel
theorem dX11_blank_40 : decode cX11_blank 40 = .ok (.invokespecial 88, 3) := by decide +kernel
theorem dX11_blank_43 : decode cX11_blank 43 = .ok (.aastore, 1) := by decide +kernel
theorem dX11_blank_44 : decode cX11_blank 44 = .ok (.aload_n 0, 1) := by decide +kernel
theorem dX11_blank_45 : decode cX11_blank 45 = .ok (.dup, 1) := by decide +kernel
theorem dX11_blank_46 : decode cX11_blank 46 = .ok (.getfield 85, 3) := by decide +kernel
theorem dX11_blank_49 : decode cX11_blank 49 = .ok (.dup_x1, 1) := by decide +kernel
theorem dX11_blank_50 : decode cX11_blank 50 = .ok (.iconst 1, 1) := by decide +kernel
theorem dX11_blank_51 : decode cX11_blank 51 = .ok (.iadd, 1) := by decide +kernel
theorem dX11_blank_52 : decode cX11_blank 52 = .ok (.putfield 85, 3) := by decide +kernel
theorem dX11_blank_55 : decode cX11_blank 55 = .ok (.ireturn, 1) := by decide +kernel
theorem dX11_picture_0 : decode cX11_picture 0 = .ok (.aload_n 0, 1) := by decide +kernel
theorem dX11_picture_1 : decode cX11_picture 1 = .ok (.getfield 85, 3) := by decide +kernel
theorem dX11_picture_4 : decode cX11_picture 4 = .ok (.bipush 6, 2) := by decide +kernel
theorem dX11_picture_6 : decode cX11_picture 6 = .ok (.if_icmp .lt 6, 3) := by decide +kernel
theorem dX11_picture_12 : decode cX11_picture 12 = .ok (.aload_n 0, 1) := by decide +kernel
theorem dX11_picture_13 : decode cX11_picture 13 = .ok (.invokevirtual 91, 3) := by decide +kernel
theorem dX11_picture_16 : decode cX11_picture 16 = .ok (.istore_n 1, 1) := by decide +kernel
theorem dX11_picture_17 : decode cX11_picture 17 = .ok (.aload_n 0, 1) := by decide +kernel
theorem dX11_picture_18 : decode cX11_picture 18 = .ok (.getfield 9, 3) := by decide +kernel
theorem dX11_picture_21 : decode cX11_picture 21 = .ok (.iload_n 1, 1) := by decide +kernel
theorem dX11_picture_22 : decode cX11_picture 22 = .ok (.invokestatic 95, 3) := by decide +kernel
theorem dX11_picture_25 : decode cX11_picture 25 = .ok (.istore_n 2, 1) := by decide +kernel
theorem dX11_picture_26 : decode cX11_picture 26 = .ok (.iload_n 2, 1) := by decide +kernel
theorem dX11_picture_27 : decode cX11_picture 27 = .ok (.ifCond .lt 8, 3) := by decide +kernel
theorem dX11_picture_30 : decode cX11_picture 30 = .ok (.bipush (-100), 2) := by decide +kernel
theorem dX11_picture_32 : decode cX11_picture 32 = .ok (.iload_n 2, 1) := by decide +kernel
theorem dX11_picture_33 : decode cX11_picture 33 = .ok (.isub, 1) := by decide +kernel
theorem dX11_picture_34 : decode cX11_picture 34 = .ok (.ireturn, 1) := by decide +kernel
theorem dX11_sectors_0 : decode cX11_sectors 0 = .ok (.aload_n 0, 1) := by decide +kernel
theorem dX11_sectors_1 : decode cX11_sectors 1 = .ok (.iload_n 1, 1) := by decide +kernel
theorem dX11_sectors_2 : decode cX11_sectors 2 = .ok (.invokevirtual 103, 3) := by decide +kernel
theorem dX11_sectors_5 : decode cX11_sectors 5 = .ok (.astore_n 2, 1) := by decide +kernel
theorem dX11_sectors_6 : decode cX11_sectors 6 = .ok (.aload_n 2, 1) := by decide +kernel
theorem dX11_sectors_7 : decode cX11_sectors 7 = .ok (.ifnonnull 8, 3) := by decide +kernel
theorem dX11_sectors_10 : decode cX11_sectors 10 = .ok (.bipush (-2), 2) := by decide +kernel
theorem dX11_sectors_12 : decode cX11_sectors 12 = .ok (.goto 7, 3) := by decide +kernel
theorem dX11_sectors_19 : decode cX11_sectors 19 = .ok (.ireturn, 1) := by decide +kernel
theorem dX11_spoil_0 : decode cX11_spoil 0 = .ok (.aload_n 0, 1) := by decide +kernel
theorem dX11_spoil_1 : decode cX11_spoil 1 = .ok (.iload_n 1, 1) := by decide +kernel
theorem dX11_spoil_2 : decode cX11_spoil 2 = .ok (.invokevirtual 103, 3) := by decide +kernel
theorem dX11_spoil_5 : decode cX11_spoil 5 = .ok (.astore 4, 2) := by decide +kernel
theorem dX11_spoil_7 : decode cX11_spoil 7 = .ok (.aload 4, 2) := by decide +kernel
theorem dX11_spoil_9 : decode cX11_spoil 9 = .ok (.ifnull 16, 3) := by decide +kernel
theorem dX11_spoil_25 : decode cX11_spoil 25 = .ok (.bipush (-2), 2) := by decide +kernel
theorem dX11_spoil_27 : decode cX11_spoil 27 = .ok (.ireturn, 1) := by decide +kernel
theorem dX11_byteAt_0 : decode cX11_byteAt 0 = .ok (.aload_n 0, 1) := by decide +kernel
theorem dX11_byteAt_1 : decode cX11_byteAt 1 = .ok (.iload_n 1, 1) := by decide +kernel
theorem dX11_byteAt_2 : decode cX11_byteAt 2 = .ok (.invokevirtual 103, 3) := by decide +kernel
theorem dX11_byteAt_5 : decode cX11_byteAt 5 = .ok (.astore_n 3, 1) := by decide +kernel
theorem dX11_byteAt_6 : decode cX11_byteAt 6 = .ok (.aload_n 3, 1) := by decide +kernel
theorem dX11_byteAt_7 : decode cX11_byteAt 7 = .ok (.ifnull 11, 3) := by decide +kernel
theorem dX11_byteAt_18 : decode cX11_byteAt 18 = .ok (.bipush (-2), 2) := by decide +kernel
theorem dX11_byteAt_20 : decode cX11_byteAt 20 = .ok (.goto 8, 3) := by decide +kernel
theorem dX11_byteAt_28 : decode cX11_byteAt 28 = .ok (.ireturn, 1) := by decide +kernel
theorem dX11_poke_0 : decode cX11_poke 0 = .ok (.aload_n 0, 1) := by decide +kernel
theorem dX11_poke_1 : decode cX11_poke 1 = .ok (.iload_n 1, 1) := by decide +kernel
theorem dX11_poke_2 : decode cX11_poke 2 = .ok (.invokevirtual 103, 3) := by decide +kernel
theorem dX11_poke_5 : decode cX11_poke 5 = .ok (.astore 4, 2) := by decide +kernel
theorem dX11_poke_7 : decode cX11_poke 7 = .ok (.aload 4, 2) := by decide +kernel
theorem dX11_poke_9 : decode cX11_poke 9 = .ok (.ifnull 23, 3) := by decide +kernel
theorem dX11_poke_32 : decode cX11_poke 32 = .ok (.bipush (-2), 2) := by decide +kernel
theorem dX11_poke_34 : decode cX11_poke 34 = .ok (.ireturn, 1) := by decide +kernel
theorem dX11_crc_0 : decode cX11_crc 0 = .ok (.aload_n 0, 1) := by decide +kernel
theorem dX11_crc_1 : decode cX11_crc 1 = .ok (.iload_n 1, 1) := by decide +kernel
theorem dX11_crc_2 : decode cX11_crc 2 = .ok (.invokevirtual 103, 3) := by decide +kernel
theorem dX11_crc_5 : decode cX11_crc 5 = .ok (.astore 4, 2) := by decide +kernel
theorem dX11_crc_7 : decode cX11_crc 7 = .ok (.aload 4, 2) := by decide +kernel
theorem dX11_crc_9 : decode cX11_crc 9 = .ok (.ifnull 33, 3) := by decide +kernel
theorem dX11_crc_42 : decode cX11_crc 42 = .ok (.ldc2_w 129, 3) := by decide +kernel
theorem dX11_crc_45 : decode cX11_crc 45 = .ok (.lreturn, 1) := by decide +kernel
theorem dX11_parts_0 : decode cX11_parts 0 = .ok (.aload_n 0, 1) := by decide +kernel
theorem dX11_parts_1 : decode cX11_parts 1 = .ok (.iload_n 1, 1) := by decide +kernel
theorem dX11_parts_2 : decode cX11_parts 2 = .ok (.invokevirtual 103, 3) := by decide +kernel
theorem dX11_parts_5 : decode cX11_parts 5 = .ok (.astore_n 2, 1) := by decide +kernel
theorem dX11_parts_6 : decode cX11_parts 6 = .ok (.aload_n 2, 1) := by decide +kernel
theorem dX11_parts_7 : decode cX11_parts 7 = .ok (.ifnonnull 8, 3) := by decide +kernel
theorem dX11_parts_10 : decode cX11_parts 10 = .ok (.bipush (-2), 2) := by decide +kernel
theorem dX11_parts_12 : decode cX11_parts 12 = .ok (.goto 7, 3) := by decide +kernel
theorem dX11_parts_19 : decode cX11_parts 19 = .ok (.ireturn, 1) := by decide +kernel
theorem dX11_part_0 : decode cX11_part 0 = .ok (.aload_n 0, 1) := by decide +kernel
theorem dX11_part_1 : decode cX11_part 1 = .ok (.iload_n 1, 1) := by decide +kernel
theorem dX11_part_2 : decode cX11_part 2 = .ok (.invokevirtual 103, 3) := by decide +kernel
theorem dX11_part_5 : decode cX11_part 5 = .ok (.astore 4, 2) := by decide +kernel
theorem dX11_part_7 : decode cX11_part 7 = .ok (.aload 4, 2) := by decide +kernel
theorem dX11_part_9 : decode cX11_part 9 = .ok (.ifnull 25, 3) := by decide +kernel
theorem dX11_part_34 : decode cX11_part 34 = .ok (.bipush (-2), 2) := by decide +kernel
theorem dX11_part_36 : decode cX11_part 36 = .ok (.ireturn, 1) := by decide +kernel
theorem dX11_volume_0 : decode cX11_volume 0 = .ok (.aload_n 0, 1) := by decide +kernel
theorem dX11_volume_1 : decode cX11_volume 1 = .ok (.iload_n 1, 1) := by decide +kernel
theorem dX11_volume_2 : decode cX11_volume 2 = .ok (.invokevirtual 103, 3) := by decide +kernel
theorem dX11_volume_5 : decode cX11_volume 5 = .ok (.astore 4, 2) := by decide +kernel
theorem dX11_volume_7 : decode cX11_volume 7 = .ok (.aload 4, 2) := by decide +kernel
theorem dX11_volume_9 : decode cX11_volume 9 = .ok (.ifnull 32, 3) := by decide +kernel
theorem dX11_volume_41 : decode cX11_volume 41 = .ok (.bipush (-2), 2) := by decide +kernel
theorem dX11_volume_43 : decode cX11_volume 43 = .ok (.ireturn, 1) := by decide +kernel
theorem dX11_join_0 : decode cX11_join 0 = .ok (.aload_n 0, 1) := by decide +kernel
theorem dX11_join_1 : decode cX11_join 1 = .ok (.iload_n 2, 1) := by decide +kernel
theorem dX11_join_2 : decode cX11_join 2 = .ok (.invokevirtual 149, 3) := by decide +kernel
theorem dX11_join_5 : decode cX11_join 5 = .ok (.ifCond .eq 20, 3) := by decide +kernel
theorem dX11_join_8 : decode cX11_join 8 = .ok (.aload_n 0, 1) := by decide +kernel
theorem dX11_join_9 : decode cX11_join 9 = .ok (.iload_n 3, 1) := by decide +kernel
theorem dX11_join_10 : decode cX11_join 10 = .ok (.invokevirtual 149, 3) := by decide +kernel
theorem dX11_join_13 : decode cX11_join 13 = .ok (.ifCond .eq 12, 3) := by decide +kernel
theorem dX11_join_16 : decode cX11_join 16 = .ok (.aload_n 0, 1) := by decide +kernel
theorem dX11_join_17 : decode cX11_join 17 = .ok (.iload 4, 2) := by decide +kernel
theorem dX11_join_19 : decode cX11_join 19 = .ok (.invokevirtual 149, 3) := by decide +kernel
theorem dX11_join_22 : decode cX11_join 22 = .ok (.ifCond .ne 6, 3) := by decide +kernel
theorem dX11_join_25 : decode cX11_join 25 = .ok (.bipush (-2), 2) := by decide +kernel
theorem dX11_join_27 : decode cX11_join 27 = .ok (.ireturn, 1) := by decide +kernel
theorem dX11_join_28 : decode cX11_join 28 = .ok (.iload_n 2, 1) := by decide +kernel
theorem dX11_join_29 : decode cX11_join 29 = .ok (.iload_n 3, 1) := by decide +kernel
theorem dX11_join_30 : decode cX11_join 30 = .ok (.if_icmp .ne 8, 3) := by decide +kernel
theorem dX11_join_33 : decode cX11_join 33 = .ok (.iload_n 2, 1) := by decide +kernel
theorem dX11_join_34 : decode cX11_join 34 = .ok (.iconst (-1), 1) := by decide +kernel
theorem dX11_join_35 : decode cX11_join 35 = .ok (.if_icmp .ne 25, 3) := by decide +kernel
theorem dX11_join_38 : decode cX11_join 38 = .ok (.iload_n 3, 1) := by decide +kernel
theorem dX11_join_39 : decode cX11_join 39 = .ok (.iload 4, 2) := by decide +kernel
theorem dX11_join_41 : decode cX11_join 41 = .ok (.if_icmp .ne 8, 3) := by decide +kernel
theorem dX11_join_44 : decode cX11_join 44 = .ok (.iload_n 3, 1) := by decide +kernel
theorem dX11_join_45 : decode cX11_join 45 = .ok (.iconst (-1), 1) := by decide +kernel
theorem dX11_join_46 : decode cX11_join 46 = .ok (.if_icmp .ne 14, 3) := by decide +kernel
theorem dX11_join_49 : decode cX11_join 49 = .ok (.iload_n 2, 1) := by decide +kernel
theorem dX11_join_50 : decode cX11_join 50 = .ok (.iload 4, 2) := by decide +kernel
theorem dX11_join_52 : decode cX11_join 52 = .ok (.if_icmp .ne 11, 3) := by decide +kernel
theorem dX11_join_55 : decode cX11_join 55 = .ok (.iload_n 2, 1) := by decide +kernel
theorem dX11_join_56 : decode cX11_join 56 = .ok (.iconst (-1), 1) := by decide +kernel
theorem dX11_join_57 : decode cX11_join 57 = .ok (.if_icmp .eq 6, 3) := by decide +kernel
theorem dX11_join_63 : decode cX11_join 63 = .ok (.iload_n 2, 1) := by decide +kernel
theorem dX11_join_64 : decode cX11_join 64 = .ok (.iconst (-1), 1) := by decide +kernel
theorem dX11_join_65 : decode cX11_join 65 = .ok (.if_icmp .ne 7, 3) := by decide +kernel
theorem dX11_join_68 : decode cX11_join 68 = .ok (.iconst 0, 1) := by decide +kernel
theorem dX11_join_69 : decode cX11_join 69 = .ok (.goto 4, 3) := by decide +kernel
theorem dX11_join_73 : decode cX11_join 73 = .ok (.iload_n 3, 1) := by decide +kernel
theorem dX11_join_74 : decode cX11_join 74 = .ok (.iconst (-1), 1) := by decide +kernel
theorem dX11_join_75 : decode cX11_join 75 = .ok (.if_icmp .ne 7, 3) := by decide +kernel
theorem dX11_join_78 : decode cX11_join 78 = .ok (.iconst 0, 1) := by decide +kernel
theorem dX11_join_79 : decode cX11_join 79 = .ok (.goto 4, 3) := by decide +kernel
theorem dX11_join_83 : decode cX11_join 83 = .ok (.iadd, 1) := by decide +kernel
theorem dX11_join_84 : decode cX11_join 84 = .ok (.iload 4, 2) := by decide +kernel
theorem dX11_join_86 : decode cX11_join 86 = .ok (.iconst (-1), 1) := by decide +kernel
theorem dX11_join_87 : decode cX11_join 87 = .ok (.if_icmp .ne 7, 3) := by decide +kernel
theorem dX11_join_90 : decode cX11_join 90 = .ok (.iconst 0, 1) := by decide +kernel
theorem dX11_join_91 : decode cX11_join 91 = .ok (.goto 4, 3) := by decide +kernel
theorem dX11_join_95 : decode cX11_join 95 = .ok (.iadd, 1) := by decide +kernel
theorem dX11_join_96 : decode cX11_join 96 = .ok (.istore 5, 2) := by decide +kernel
theorem dX11_join_98 : decode cX11_join 98 = .ok (.iload_n 1, 1) := by decide +kernel
theorem dX11_join_99 : decode cX11_join 99 = .ok (.iconst 1, 1) := by decide +kernel
theorem dX11_join_100 : decode cX11_join 100 = .ok (.if_icmp .eq 8, 3) := by decide +kernel
theorem dX11_join_103 : decode cX11_join 103 = .ok (.iload_n 1, 1) := by decide +kernel
theorem dX11_join_104 : decode cX11_join 104 = .ok (.iconst 2, 1) := by decide +kernel
theorem dX11_join_105 : decode cX11_join 105 = .ok (.if_icmp .ne 17, 3) := by decide +kernel
theorem dX11_join_108 : decode cX11_join 108 = .ok (.iload_n 2, 1) := by decide +kernel
theorem dX11_join_109 : decode cX11_join 109 = .ok (.iconst (-1), 1) := by decide +kernel
theorem dX11_join_110 : decode cX11_join 110 = .ok (.if_icmp .eq 12, 3) := by decide +kernel
theorem dX11_join_122 : decode cX11_join 122 = .ok (.iconst 0, 1) := by decide +kernel
theorem dX11_join_123 : decode cX11_join 123 = .ok (.istore 6, 2) := by decide +kernel
theorem dX11_join_125 : decode cX11_join 125 = .ok (.iload_n 1, 1) := by decide +kernel
theorem dX11_join_126 : decode cX11_join 126 = .ok (.iconst 3, 1) := by decide +kernel
theorem dX11_join_127 : decode cX11_join 127 = .ok (.if_icmp .ne 19, 3) := by decide +kernel
theorem dX11_join_130 : decode cX11_join 130 = .ok (.iload 4, 2) := by decide +kernel
theorem dX11_join_132 : decode cX11_join 132 = .ok (.iconst (-1), 1) := by decide +kernel
theorem dX11_join_133 : decode cX11_join 133 = .ok (.if_icmp .ne 13, 3) := by decide +kernel
theorem dX11_join_136 : decode cX11_join 136 = .ok (.iload 5, 2) := by decide +kernel
theorem dX11_join_138 : decode cX11_join 138 = .ok (.iconst 1, 1) := by decide +kernel
theorem dX11_join_139 : decode cX11_join 139 = .ok (.if_icmp .lt 7, 3) := by decide +kernel
theorem dX11_join_146 : decode cX11_join 146 = .ok (.iconst 0, 1) := by decide +kernel
theorem dX11_join_147 : decode cX11_join 147 = .ok (.istore 7, 2) := by decide +kernel
theorem dX11_join_149 : decode cX11_join 149 = .ok (.iload_n 1, 1) := by decide +kernel
theorem dX11_join_150 : decode cX11_join 150 = .ok (.iconst 4, 1) := by decide +kernel
theorem dX11_join_151 : decode cX11_join 151 = .ok (.if_icmp .ne 13, 3) := by decide +kernel
theorem dX11_join_154 : decode cX11_join 154 = .ok (.iload 5, 2) := by decide +kernel
theorem dX11_join_156 : decode cX11_join 156 = .ok (.iconst 2, 1) := by decide +kernel
theorem dX11_join_157 : decode cX11_join 157 = .ok (.if_icmp .lt 7, 3) := by decide +kernel
theorem dX11_join_164 : decode cX11_join 164 = .ok (.iconst 0, 1) := by decide +kernel
theorem dX11_join_165 : decode cX11_join 165 = .ok (.istore 8, 2) := by decide +kernel
theorem dX11_join_167 : decode cX11_join 167 = .ok (.iload 6, 2) := by decide +kernel
theorem dX11_join_169 : decode cX11_join 169 = .ok (.ifCond .ne 16, 3) := by decide +kernel
theorem dX11_join_172 : decode cX11_join 172 = .ok (.iload 7, 2) := by decide +kernel
theorem dX11_join_174 : decode cX11_join 174 = .ok (.ifCond .ne 11, 3) := by decide +kernel
theorem dX11_join_177 : decode cX11_join 177 = .ok (.iload 8, 2) := by decide +kernel
theorem dX11_join_179 : decode cX11_join 179 = .ok (.ifCond .ne 6, 3) := by decide +kernel
theorem dX11_join_182 : decode cX11_join 182 = .ok (.bipush (-2), 2) := by decide +kernel
theorem dX11_join_184 : decode cX11_join 184 = .ok (.ireturn, 1) := by decide +kernel
theorem dX11_blocks_0 : decode cX11_blocks 0 = .ok (.aload_n 0, 1) := by decide +kernel
theorem dX11_blocks_1 : decode cX11_blocks 1 = .ok (.iload_n 1, 1) := by decide +kernel
theorem dX11_blocks_2 : decode cX11_blocks 2 = .ok (.invokevirtual 152, 3) := by decide +kernel
theorem dX11_blocks_5 : decode cX11_blocks 5 = .ok (.astore_n 2, 1) := by decide +kernel
theorem dX11_blocks_6 : decode cX11_blocks 6 = .ok (.aload_n 2, 1) := by decide +kernel
theorem dX11_blocks_7 : decode cX11_blocks 7 = .ok (.ifnonnull 8, 3) := by decide +kernel
theorem dX11_blocks_10 : decode cX11_blocks 10 = .ok (.bipush (-2), 2) := by decide +kernel
theorem dX11_blocks_12 : decode cX11_blocks 12 = .ok (.goto 7, 3) := by decide +kernel
theorem dX11_blocks_19 : decode cX11_blocks 19 = .ok (.ireturn, 1) := by decide +kernel
theorem dX11_volumeByte_0 : decode cX11_volumeByte 0 = .ok (.aload_n 0, 1) := by decide +kernel
theorem dX11_volumeByte_1 : decode cX11_volumeByte 1 = .ok (.iload_n 1, 1) := by decide +kernel
theorem dX11_volumeByte_2 : decode cX11_volumeByte 2 = .ok (.invokevirtual 152, 3) := by decide +kernel
theorem dX11_volumeByte_5 : decode cX11_volumeByte 5 = .ok (.astore_n 3, 1) := by decide +kernel
theorem dX11_volumeByte_6 : decode cX11_volumeByte 6 = .ok (.aload_n 3, 1) := by decide +kernel
theorem dX11_volumeByte_7 : decode cX11_volumeByte 7 = .ok (.ifnull 18, 3) := by decide +kernel
theorem dX11_volumeByte_25 : decode cX11_volumeByte 25 = .ok (.bipush (-2), 2) := by decide +kernel
theorem dX11_volumeByte_27 : decode cX11_volumeByte 27 = .ok (.ireturn, 1) := by decide +kernel
theorem dX11_where_0 : decode cX11_where 0 = .ok (.aload_n 0, 1) := by decide +kernel
theorem dX11_where_1 : decode cX11_where 1 = .ok (.iload_n 1, 1) := by decide +kernel
theorem dX11_where_2 : decode cX11_where 2 = .ok (.invokevirtual 152, 3) := by decide +kernel
theorem dX11_where_5 : decode cX11_where 5 = .ok (.astore_n 3, 1) := by decide +kernel
theorem dX11_where_6 : decode cX11_where 6 = .ok (.aload_n 3, 1) := by decide +kernel
theorem dX11_where_7 : decode cX11_where 7 = .ok (.ifnull 15, 3) := by decide +kernel
theorem dX11_where_22 : decode cX11_where 22 = .ok (.bipush (-2), 2) := by decide +kernel
theorem dX11_where_24 : decode cX11_where 24 = .ok (.ireturn, 1) := by decide +kernel
theorem dX11_format_0 : decode cX11_format 0 = .ok (.aload_n 0, 1) := by decide +kernel
theorem dX11_format_1 : decode cX11_format 1 = .ok (.iload_n 1, 1) := by decide +kernel
theorem dX11_format_2 : decode cX11_format 2 = .ok (.invokevirtual 152, 3) := by decide +kernel
theorem dX11_format_5 : decode cX11_format 5 = .ok (.astore 4, 2) := by decide +kernel
theorem dX11_format_7 : decode cX11_format 7 = .ok (.aload 4, 2) := by decide +kernel
theorem dX11_format_9 : decode cX11_format 9 = .ok (.ifnull 15, 3) := by decide +kernel
theorem dX11_format_24 : decode cX11_format 24 = .ok (.bipush (-2), 2) := by decide +kernel
theorem dX11_format_26 : decode cX11_format 26 = .ok (.ireturn, 1) := by decide +kernel
theorem dX11_save_0 : decode cX11_save 0 = .ok (.aload_n 0, 1) := by decide +kernel
theorem dX11_save_1 : decode cX11_save 1 = .ok (.iload_n 1, 1) := by decide +kernel
theorem dX11_save_2 : decode cX11_save 2 = .ok (.invokevirtual 152, 3) := by decide +kernel
theorem dX11_save_5 : decode cX11_save 5 = .ok (.astore_n 2, 1) := by decide +kernel
theorem dX11_save_6 : decode cX11_save 6 = .ok (.aload_n 2, 1) := by decide +kernel
theorem dX11_save_7 : decode cX11_save 7 = .ok (.ifnonnull 6, 3) := by decide +kernel
theorem dX11_save_10 : decode cX11_save 10 = .ok (.bipush (-2), 2) := by decide +kernel
theorem dX11_save_12 : decode cX11_save 12 = .ok (.ireturn, 1) := by decide +kernel
theorem dX11_folder_0 : decode cX11_folder 0 = .ok (.aload_n 0, 1) := by decide +kernel
theorem dX11_folder_1 : decode cX11_folder 1 = .ok (.iload_n 1, 1) := by decide +kernel
theorem dX11_folder_2 : decode cX11_folder 2 = .ok (.invokevirtual 152, 3) := by decide +kernel
theorem dX11_folder_5 : decode cX11_folder 5 = .ok (.astore_n 2, 1) := by decide +kernel
theorem dX11_folder_6 : decode cX11_folder 6 = .ok (.aload_n 2, 1) := by decide +kernel
theorem dX11_folder_7 : decode cX11_folder 7 = .ok (.ifnonnull 6, 3) := by decide +kernel
theorem dX11_folder_10 : decode cX11_folder 10 = .ok (.bipush (-2), 2) := by decide +kernel
theorem dX11_folder_12 : decode cX11_folder 12 = .ok (.ireturn, 1) := by decide +kernel
theorem dX11_erase_0 : decode cX11_erase 0 = .ok (.aload_n 0, 1) := by decide +kernel
theorem dX11_erase_1 : decode cX11_erase 1 = .ok (.iload_n 1, 1) := by decide +kernel
theorem dX11_erase_2 : decode cX11_erase 2 = .ok (.invokevirtual 152, 3) := by decide +kernel
theorem dX11_erase_5 : decode cX11_erase 5 = .ok (.astore_n 2, 1) := by decide +kernel
theorem dX11_erase_6 : decode cX11_erase 6 = .ok (.aload_n 2, 1) := by decide +kernel
theorem dX11_erase_7 : decode cX11_erase 7 = .ok (.ifnonnull 6, 3) := by decide +kernel
theorem dX11_erase_10 : decode cX11_erase 10 = .ok (.bipush (-2), 2) := by decide +kernel
theorem dX11_erase_12 : decode cX11_erase 12 = .ok (.ireturn, 1) := by decide +kernel
theorem dX11_mount_0 : decode cX11_mount 0 = .ok (.aload_n 0, 1) := by decide +kernel
theorem dX11_mount_1 : decode cX11_mount 1 = .ok (.iload_n 1, 1) := by decide +kernel
theorem dX11_mount_2 : decode cX11_mount 2 = .ok (.invokevirtual 152, 3) := by decide +kernel
theorem dX11_mount_5 : decode cX11_mount 5 = .ok (.astore_n 2, 1) := by decide +kernel
theorem dX11_mount_6 : decode cX11_mount 6 = .ok (.aload_n 2, 1) := by decide +kernel
theorem dX11_mount_7 : decode cX11_mount 7 = .ok (.ifnonnull 6, 3) := by decide +kernel
theorem dX11_mount_10 : decode cX11_mount 10 = .ok (.bipush (-2), 2) := by decide +kernel
theorem dX11_mount_12 : decode cX11_mount 12 = .ok (.ireturn, 1) := by decide +kernel
theorem dX11_tree_0 : decode cX11_tree 0 = .ok (.aload_n 0, 1) := by decide +kernel
theorem dX11_tree_1 : decode cX11_tree 1 = .ok (.iload_n 1, 1) := by decide +kernel
theorem dX11_tree_2 : decode cX11_tree 2 = .ok (.invokevirtual 239, 3) := by decide +kernel
theorem dX11_tree_5 : decode cX11_tree 5 = .ok (.astore_n 3, 1) := by decide +kernel
theorem dX11_tree_6 : decode cX11_tree 6 = .ok (.aload_n 3, 1) := by decide +kernel
theorem dX11_tree_7 : decode cX11_tree 7 = .ok (.ifnonnull 8, 3) := by decide +kernel
theorem dX11_tree_10 : decode cX11_tree 10 = .ok (.bipush (-2), 2) := by decide +kernel
theorem dX11_tree_12 : decode cX11_tree 12 = .ok (.goto 8, 3) := by decide +kernel
theorem dX11_tree_20 : decode cX11_tree 20 = .ok (.ireturn, 1) := by decide +kernel
theorem dX11_fault_0 : decode cX11_fault 0 = .ok (.aload_n 0, 1) := by decide +kernel
theorem dX11_fault_1 : decode cX11_fault 1 = .ok (.iload_n 1, 1) := by decide +kernel
theorem dX11_fault_2 : decode cX11_fault 2 = .ok (.invokevirtual 239, 3) := by decide +kernel
theorem dX11_fault_5 : decode cX11_fault 5 = .ok (.astore 4, 2) := by decide +kernel
theorem dX11_fault_7 : decode cX11_fault 7 = .ok (.aload 4, 2) := by decide +kernel
theorem dX11_fault_9 : decode cX11_fault 9 = .ok (.ifnull 25, 3) := by decide +kernel
theorem dX11_fault_34 : decode cX11_fault 34 = .ok (.bipush (-2), 2) := by decide +kernel
theorem dX11_fault_36 : decode cX11_fault 36 = .ok (.ireturn, 1) := by decide +kernel
theorem dX11_owner_0 : decode cX11_owner 0 = .ok (.aload_n 0, 1) := by decide +kernel
theorem dX11_owner_1 : decode cX11_owner 1 = .ok (.iload_n 1, 1) := by decide +kernel
theorem dX11_owner_2 : decode cX11_owner 2 = .ok (.invokevirtual 239, 3) := by decide +kernel
theorem dX11_owner_5 : decode cX11_owner 5 = .ok (.astore_n 3, 1) := by decide +kernel
theorem dX11_owner_6 : decode cX11_owner 6 = .ok (.aload_n 3, 1) := by decide +kernel
theorem dX11_owner_7 : decode cX11_owner 7 = .ok (.ifnull 16, 3) := by decide +kernel
theorem dX11_owner_23 : decode cX11_owner 23 = .ok (.bipush (-2), 2) := by decide +kernel
theorem dX11_owner_25 : decode cX11_owner 25 = .ok (.goto 9, 3) := by decide +kernel
theorem dX11_owner_34 : decode cX11_owner 34 = .ok (.ireturn, 1) := by decide +kernel
theorem dX11_free_0 : decode cX11_free 0 = .ok (.aload_n 0, 1) := by decide +kernel
theorem dX11_free_1 : decode cX11_free 1 = .ok (.iload_n 1, 1) := by decide +kernel
theorem dX11_free_2 : decode cX11_free 2 = .ok (.invokevirtual 239, 3) := by decide +kernel
theorem dX11_free_5 : decode cX11_free 5 = .ok (.astore 4, 2) := by decide +kernel
theorem dX11_free_7 : decode cX11_free 7 = .ok (.aload 4, 2) := by decide +kernel
theorem dX11_free_9 : decode cX11_free 9 = .ok (.ifnull 25, 3) := by decide +kernel
theorem dX11_free_34 : decode cX11_free 34 = .ok (.bipush (-2), 2) := by decide +kernel
theorem dX11_free_36 : decode cX11_free 36 = .ok (.ireturn, 1) := by decide +kernel
theorem dX11_find_0 : decode cX11_find 0 = .ok (.aload_n 0, 1) := by decide +kernel
theorem dX11_find_1 : decode cX11_find 1 = .ok (.iload_n 1, 1) := by decide +kernel
theorem dX11_find_2 : decode cX11_find 2 = .ok (.invokevirtual 239, 3) := by decide +kernel
theorem dX11_find_5 : decode cX11_find 5 = .ok (.astore_n 2, 1) := by decide +kernel
theorem dX11_find_6 : decode cX11_find 6 = .ok (.aload_n 2, 1) := by decide +kernel
theorem dX11_find_7 : decode cX11_find 7 = .ok (.ifnonnull 6, 3) := by decide +kernel
theorem dX11_find_10 : decode cX11_find 10 = .ok (.bipush (-2), 2) := by decide +kernel
theorem dX11_find_12 : decode cX11_find 12 = .ok (.ireturn, 1) := by decide +kernel
theorem dX11_name_0 : decode cX11_name 0 = .ok (.aload_n 0, 1) := by decide +kernel
theorem dX11_name_1 : decode cX11_name 1 = .ok (.iload_n 1, 1) := by decide +kernel
theorem dX11_name_2 : decode cX11_name 2 = .ok (.invokevirtual 239, 3) := by decide +kernel
theorem dX11_name_5 : decode cX11_name 5 = .ok (.iload_n 2, 1) := by decide +kernel
theorem dX11_name_6 : decode cX11_name 6 = .ok (.invokestatic 267, 3) := by decide +kernel
theorem dX11_name_9 : decode cX11_name 9 = .ok (.astore 4, 2) := by decide +kernel
theorem dX11_name_11 : decode cX11_name 11 = .ok (.aload 4, 2) := by decide +kernel
theorem dX11_name_13 : decode cX11_name 13 = .ok (.ifnonnull 6, 3) := by decide +kernel
theorem dX11_name_16 : decode cX11_name 16 = .ok (.bipush (-2), 2) := by decide +kernel
theorem dX11_name_18 : decode cX11_name 18 = .ok (.ireturn, 1) := by decide +kernel
theorem dX11_field_0 : decode cX11_field 0 = .ok (.aload_n 0, 1) := by decide +kernel
theorem dX11_field_1 : decode cX11_field 1 = .ok (.iload_n 1, 1) := by decide +kernel
theorem dX11_field_2 : decode cX11_field 2 = .ok (.invokevirtual 239, 3) := by decide +kernel
theorem dX11_field_5 : decode cX11_field 5 = .ok (.iload_n 2, 1) := by decide +kernel
theorem dX11_field_6 : decode cX11_field 6 = .ok (.invokestatic 267, 3) := by decide +kernel
theorem dX11_field_9 : decode cX11_field 9 = .ok (.astore 4, 2) := by decide +kernel
theorem dX11_field_11 : decode cX11_field 11 = .ok (.aload 4, 2) := by decide +kernel
theorem dX11_field_13 : decode cX11_field 13 = .ok (.ifnonnull 9, 3) := by decide +kernel
theorem dX11_field_16 : decode cX11_field 16 = .ok (.ldc2_w 129, 3) := by decide +kernel
theorem dX11_field_19 : decode cX11_field 19 = .ok (.goto 9, 3) := by decide +kernel
theorem dX11_field_28 : decode cX11_field 28 = .ok (.lreturn, 1) := by decide +kernel
theorem dX11_block_0 : decode cX11_block 0 = .ok (.aload_n 0, 1) := by decide +kernel
theorem dX11_block_1 : decode cX11_block 1 = .ok (.iload_n 1, 1) := by decide +kernel
theorem dX11_block_2 : decode cX11_block 2 = .ok (.invokevirtual 239, 3) := by decide +kernel
theorem dX11_block_5 : decode cX11_block 5 = .ok (.iload_n 2, 1) := by decide +kernel
theorem dX11_block_6 : decode cX11_block 6 = .ok (.invokestatic 267, 3) := by decide +kernel
theorem dX11_block_9 : decode cX11_block 9 = .ok (.astore 4, 2) := by decide +kernel
theorem dX11_block_11 : decode cX11_block 11 = .ok (.aload 4, 2) := by decide +kernel
theorem dX11_block_13 : decode cX11_block 13 = .ok (.ifnonnull 8, 3) := by decide +kernel
theorem dX11_block_16 : decode cX11_block 16 = .ok (.bipush (-2), 2) := by decide +kernel
theorem dX11_block_18 : decode cX11_block 18 = .ok (.goto 9, 3) := by decide +kernel
theorem dX11_block_27 : decode cX11_block 27 = .ok (.ireturn, 1) := by decide +kernel
theorem dX11_content_0 : decode cX11_content 0 = .ok (.aload_n 0, 1) := by decide +kernel
theorem dX11_content_1 : decode cX11_content 1 = .ok (.iload_n 1, 1) := by decide +kernel
theorem dX11_content_2 : decode cX11_content 2 = .ok (.invokevirtual 239, 3) := by decide +kernel
theorem dX11_content_5 : decode cX11_content 5 = .ok (.astore 4, 2) := by decide +kernel
theorem dX11_content_7 : decode cX11_content 7 = .ok (.aload 4, 2) := by decide +kernel
theorem dX11_content_9 : decode cX11_content 9 = .ok (.iload_n 2, 1) := by decide +kernel
theorem dX11_content_10 : decode cX11_content 10 = .ok (.invokestatic 267, 3) := by decide +kernel
theorem dX11_content_13 : decode cX11_content 13 = .ok (.astore 5, 2) := by decide +kernel
theorem dX11_content_15 : decode cX11_content 15 = .ok (.aload 4, 2) := by decide +kernel
theorem dX11_content_17 : decode cX11_content 17 = .ok (.ifnull 8, 3) := by decide +kernel
theorem dX11_content_25 : decode cX11_content 25 = .ok (.bipush (-2), 2) := by decide +kernel
theorem dX11_content_27 : decode cX11_content 27 = .ok (.ireturn, 1) := by decide +kernel
theorem dX11_slack_0 : decode cX11_slack 0 = .ok (.aload_n 0, 1) := by decide +kernel
theorem dX11_slack_1 : decode cX11_slack 1 = .ok (.iload_n 1, 1) := by decide +kernel
theorem dX11_slack_2 : decode cX11_slack 2 = .ok (.invokevirtual 239, 3) := by decide +kernel
theorem dX11_slack_5 : decode cX11_slack 5 = .ok (.astore 4, 2) := by decide +kernel
theorem dX11_slack_7 : decode cX11_slack 7 = .ok (.aload 4, 2) := by decide +kernel
theorem dX11_slack_9 : decode cX11_slack 9 = .ok (.iload_n 2, 1) := by decide +kernel
theorem dX11_slack_10 : decode cX11_slack 10 = .ok (.invokestatic 267, 3) := by decide +kernel
theorem dX11_slack_13 : decode cX11_slack 13 = .ok (.astore 5, 2) := by decide +kernel
theorem dX11_slack_15 : decode cX11_slack 15 = .ok (.aload 4, 2) := by decide +kernel
theorem dX11_slack_17 : decode cX11_slack 17 = .ok (.ifnull 8, 3) := by decide +kernel
theorem dX11_slack_25 : decode cX11_slack 25 = .ok (.bipush (-2), 2) := by decide +kernel
theorem dX11_slack_27 : decode cX11_slack 27 = .ok (.ireturn, 1) := by decide +kernel
theorem dX11_open_0 : decode cX11_open 0 = .ok (.aload_n 0, 1) := by decide +kernel
theorem dX11_open_1 : decode cX11_open 1 = .ok (.iload_n 1, 1) := by decide +kernel
theorem dX11_open_2 : decode cX11_open 2 = .ok (.invokevirtual 239, 3) := by decide +kernel
theorem dX11_open_5 : decode cX11_open 5 = .ok (.astore_n 3, 1) := by decide +kernel
theorem dX11_open_6 : decode cX11_open 6 = .ok (.aload_n 3, 1) := by decide +kernel
theorem dX11_open_7 : decode cX11_open 7 = .ok (.iload_n 2, 1) := by decide +kernel
theorem dX11_open_8 : decode cX11_open 8 = .ok (.invokestatic 267, 3) := by decide +kernel
theorem dX11_open_11 : decode cX11_open 11 = .ok (.astore 4, 2) := by decide +kernel
theorem dX11_open_13 : decode cX11_open 13 = .ok (.aload_n 3, 1) := by decide +kernel
theorem dX11_open_14 : decode cX11_open 14 = .ok (.ifnull 8, 3) := by decide +kernel
theorem dX11_open_22 : decode cX11_open 22 = .ok (.bipush (-2), 2) := by decide +kernel
theorem dX11_open_24 : decode cX11_open 24 = .ok (.ireturn, 1) := by decide +kernel
theorem dX11_node_0 : decode cX11_node 0 = .ok (.aload_n 0, 1) := by decide +kernel
theorem dX11_node_1 : decode cX11_node 1 = .ok (.iload_n 1, 1) := by decide +kernel
theorem dX11_node_2 : decode cX11_node 2 = .ok (.invokevirtual 308, 3) := by decide +kernel
theorem dX11_node_5 : decode cX11_node 5 = .ok (.astore 4, 2) := by decide +kernel
theorem dX11_node_7 : decode cX11_node 7 = .ok (.aload 4, 2) := by decide +kernel
theorem dX11_node_9 : decode cX11_node 9 = .ok (.ifnull 25, 3) := by decide +kernel
theorem dX11_node_34 : decode cX11_node 34 = .ok (.bipush (-2), 2) := by decide +kernel
theorem dX11_node_36 : decode cX11_node 36 = .ok (.ireturn, 1) := by decide +kernel
theorem dX11_opened_0 : decode cX11_opened 0 = .ok (.aload_n 0, 1) := by decide +kernel
theorem dX11_opened_1 : decode cX11_opened 1 = .ok (.iload_n 1, 1) := by decide +kernel
theorem dX11_opened_2 : decode cX11_opened 2 = .ok (.invokevirtual 308, 3) := by decide +kernel
theorem dX11_opened_5 : decode cX11_opened 5 = .ok (.astore_n 3, 1) := by decide +kernel
theorem dX11_opened_6 : decode cX11_opened 6 = .ok (.aload_n 3, 1) := by decide +kernel
theorem dX11_opened_7 : decode cX11_opened 7 = .ok (.ifnonnull 6, 3) := by decide +kernel
theorem dX11_opened_10 : decode cX11_opened 10 = .ok (.bipush (-2), 2) := by decide +kernel
theorem dX11_opened_12 : decode cX11_opened 12 = .ok (.ireturn, 1) := by decide +kernel
theorem dX11_inside_0 : decode cX11_inside 0 = .ok (.aload_n 0, 1) := by decide +kernel
theorem dX11_inside_1 : decode cX11_inside 1 = .ok (.iload_n 1, 1) := by decide +kernel
theorem dX11_inside_2 : decode cX11_inside 2 = .ok (.invokevirtual 308, 3) := by decide +kernel
theorem dX11_inside_5 : decode cX11_inside 5 = .ok (.astore_n 3, 1) := by decide +kernel
theorem dX11_inside_6 : decode cX11_inside 6 = .ok (.aload_n 3, 1) := by decide +kernel
theorem dX11_inside_7 : decode cX11_inside 7 = .ok (.ifnull 26, 3) := by decide +kernel
theorem dX11_inside_33 : decode cX11_inside 33 = .ok (.bipush (-2), 2) := by decide +kernel
theorem dX11_inside_35 : decode cX11_inside 35 = .ok (.ireturn, 1) := by decide +kernel
theorem dX11_word_0 : decode cX11_word 0 = .ok (.aload_n 0, 1) := by decide +kernel
theorem dX11_word_1 : decode cX11_word 1 = .ok (.iload_n 1, 1) := by decide +kernel
theorem dX11_word_2 : decode cX11_word 2 = .ok (.invokevirtual 239, 3) := by decide +kernel
theorem dX11_word_5 : decode cX11_word 5 = .ok (.astore_n 2, 1) := by decide +kernel
theorem dX11_word_6 : decode cX11_word 6 = .ok (.aload_n 2, 1) := by decide +kernel
theorem dX11_word_7 : decode cX11_word 7 = .ok (.ifnonnull 6, 3) := by decide +kernel
theorem dX11_word_10 : decode cX11_word 10 = .ok (.bipush (-2), 2) := by decide +kernel
theorem dX11_word_12 : decode cX11_word 12 = .ok (.ireturn, 1) := by decide +kernel
theorem dX11_pattern_0 : decode cX11_pattern 0 = .ok (.aload_n 0, 1) := by decide +kernel
theorem dX11_pattern_1 : decode cX11_pattern 1 = .ok (.iload_n 1, 1) := by decide +kernel
theorem dX11_pattern_2 : decode cX11_pattern 2 = .ok (.invokevirtual 239, 3) := by decide +kernel
theorem dX11_pattern_5 : decode cX11_pattern 5 = .ok (.astore_n 2, 1) := by decide +kernel
theorem dX11_pattern_6 : decode cX11_pattern 6 = .ok (.aload_n 2, 1) := by decide +kernel
theorem dX11_pattern_7 : decode cX11_pattern 7 = .ok (.ifnonnull 6, 3) := by decide +kernel
theorem dX11_pattern_10 : decode cX11_pattern 10 = .ok (.bipush (-2), 2) := by decide +kernel
theorem dX11_pattern_12 : decode cX11_pattern 12 = .ok (.ireturn, 1) := by decide +kernel
theorem dX11_hit_0 : decode cX11_hit 0 = .ok (.iload_n 1, 1) := by decide +kernel
theorem dX11_hit_1 : decode cX11_hit 1 = .ok (.ifCond .lt 23, 3) := by decide +kernel
theorem dX11_hit_4 : decode cX11_hit 4 = .ok (.iload_n 1, 1) := by decide +kernel
theorem dX11_hit_5 : decode cX11_hit 5 = .ok (.aload_n 0, 1) := by decide +kernel
theorem dX11_hit_6 : decode cX11_hit 6 = .ok (.getfield 51, 3) := by decide +kernel
theorem dX11_hit_9 : decode cX11_hit 9 = .ok (.getfield 338, 3) := by decide +kernel
theorem dX11_hit_12 : decode cX11_hit 12 = .ok (.if_icmp .ge 12, 3) := by decide +kernel
theorem dX11_hit_24 : decode cX11_hit 24 = .ok (.bipush (-2), 2) := by decide +kernel
theorem dX11_hit_26 : decode cX11_hit 26 = .ok (.ireturn, 1) := by decide +kernel
theorem dX11_question_0 : decode cX11_question 0 = .ok (.aload_n 0, 1) := by decide +kernel
theorem dX11_question_1 : decode cX11_question 1 = .ok (.iload_n 1, 1) := by decide +kernel
theorem dX11_question_2 : decode cX11_question 2 = .ok (.invokevirtual 239, 3) := by decide +kernel
theorem dX11_question_5 : decode cX11_question 5 = .ok (.astore_n 2, 1) := by decide +kernel
theorem dX11_question_6 : decode cX11_question 6 = .ok (.aload_n 2, 1) := by decide +kernel
theorem dX11_question_7 : decode cX11_question 7 = .ok (.ifnonnull 6, 3) := by decide +kernel
theorem dX11_question_10 : decode cX11_question 10 = .ok (.bipush (-2), 2) := by decide +kernel
theorem dX11_question_12 : decode cX11_question 12 = .ok (.ireturn, 1) := by decide +kernel
theorem dX11_row_0 : decode cX11_row 0 = .ok (.iload_n 1, 1) := by decide +kernel
theorem dX11_row_1 : decode cX11_row 1 = .ok (.ifCond .lt 14, 3) := by decide +kernel
theorem dX11_row_4 : decode cX11_row 4 = .ok (.iload_n 1, 1) := by decide +kernel
theorem dX11_row_5 : decode cX11_row 5 = .ok (.aload_n 0, 1) := by decide +kernel
theorem dX11_row_6 : decode cX11_row 6 = .ok (.getfield 58, 3) := by decide +kernel
theorem dX11_row_9 : decode cX11_row 9 = .ok (.getfield 348, 3) := by decide +kernel
theorem dX11_row_12 : decode cX11_row 12 = .ok (.if_icmp .lt 8, 3) := by decide +kernel
theorem dX11_row_15 : decode cX11_row 15 = .ok (.bipush (-2), 2) := by decide +kernel
theorem dX11_row_17 : decode cX11_row 17 = .ok (.goto 12, 3) := by decide +kernel
theorem dX11_row_29 : decode cX11_row 29 = .ok (.ireturn, 1) := by decide +kernel
theorem dX11_line_0 : decode cX11_line 0 = .ok (.aload_n 0, 1) := by decide +kernel
theorem dX11_line_1 : decode cX11_line 1 = .ok (.getfield 65, 3) := by decide +kernel
theorem dX11_line_4 : decode cX11_line 4 = .ok (.iconst 0, 1) := by decide +kernel
theorem dX11_line_5 : decode cX11_line 5 = .ok (.putfield 354, 3) := by decide +kernel
theorem dX11_line_8 : decode cX11_line 8 = .ok (.iconst 0, 1) := by decide +kernel
theorem dX11_line_9 : decode cX11_line 9 = .ok (.istore_n 1, 1) := by decide +kernel
theorem dX11_line_10 : decode cX11_line 10 = .ok (.iload_n 1, 1) := by decide +kernel
theorem dX11_line_11 : decode cX11_line 11 = .ok (.aload_n 0, 1) := by decide +kernel
theorem dX11_line_12 : decode cX11_line 12 = .ok (.getfield 188, 3) := by decide +kernel
theorem dX11_line_15 : decode cX11_line 15 = .ok (.if_icmp .ge 83, 3) := by decide +kernel
theorem dX11_line_98 : decode cX11_line 98 = .ok (.aload_n 0, 1) := by decide +kernel
theorem dX11_line_99 : decode cX11_line 99 = .ok (.getfield 65, 3) := by decide +kernel
theorem dX11_line_102 : decode cX11_line 102 = .ok (.invokevirtual 368, 3) := by decide +kernel
theorem dX11_line_105 : decode cX11_line 105 = .ok (.aload_n 0, 1) := by decide +kernel
theorem dX11_line_106 : decode cX11_line 106 = .ok (.getfield 65, 3) := by decide +kernel
theorem dX11_line_109 : decode cX11_line 109 = .ok (.getfield 354, 3) := by decide +kernel
theorem dX11_line_112 : decode cX11_line 112 = .ok (.ireturn, 1) := by decide +kernel
theorem dX11_time_0 : decode cX11_time 0 = .ok (.iload_n 1, 1) := by decide +kernel
theorem dX11_time_1 : decode cX11_time 1 = .ok (.ifCond .lt 23, 3) := by decide +kernel
theorem dX11_time_4 : decode cX11_time 4 = .ok (.iload_n 1, 1) := by decide +kernel
theorem dX11_time_5 : decode cX11_time 5 = .ok (.aload_n 0, 1) := by decide +kernel
theorem dX11_time_6 : decode cX11_time 6 = .ok (.getfield 65, 3) := by decide +kernel
theorem dX11_time_9 : decode cX11_time 9 = .ok (.getfield 354, 3) := by decide +kernel
theorem dX11_time_12 : decode cX11_time 12 = .ok (.if_icmp .ge 12, 3) := by decide +kernel
theorem dX11_time_24 : decode cX11_time 24 = .ok (.ldc2_w 129, 3) := by decide +kernel
theorem dX11_time_27 : decode cX11_time 27 = .ok (.lreturn, 1) := by decide +kernel
theorem dX11_doubts_0 : decode cX11_doubts 0 = .ok (.aload_n 0, 1) := by decide +kernel
theorem dX11_doubts_1 : decode cX11_doubts 1 = .ok (.getfield 65, 3) := by decide +kernel
theorem dX11_doubts_4 : decode cX11_doubts 4 = .ok (.iconst 0, 1) := by decide +kernel
theorem dX11_doubts_5 : decode cX11_doubts 5 = .ok (.putfield 375, 3) := by decide +kernel
theorem dX11_doubts_8 : decode cX11_doubts 8 = .ok (.iconst 0, 1) := by decide +kernel
theorem dX11_doubts_9 : decode cX11_doubts 9 = .ok (.istore_n 1, 1) := by decide +kernel
theorem dX11_doubts_10 : decode cX11_doubts 10 = .ok (.iload_n 1, 1) := by decide +kernel
theorem dX11_doubts_11 : decode cX11_doubts 11 = .ok (.aload_n 0, 1) := by decide +kernel
theorem dX11_doubts_12 : decode cX11_doubts 12 = .ok (.getfield 188, 3) := by decide +kernel
theorem dX11_doubts_15 : decode cX11_doubts 15 = .ok (.if_icmp .ge 27, 3) := by decide +kernel
theorem dX11_doubts_42 : decode cX11_doubts 42 = .ok (.aload_n 0, 1) := by decide +kernel
theorem dX11_doubts_43 : decode cX11_doubts 43 = .ok (.getfield 65, 3) := by decide +kernel
theorem dX11_doubts_46 : decode cX11_doubts 46 = .ok (.getfield 375, 3) := by decide +kernel
theorem dX11_doubts_49 : decode cX11_doubts 49 = .ok (.ireturn, 1) := by decide +kernel
theorem dX11_doubt_0 : decode cX11_doubt 0 = .ok (.iload_n 1, 1) := by decide +kernel
theorem dX11_doubt_1 : decode cX11_doubt 1 = .ok (.ifCond .lt 23, 3) := by decide +kernel
theorem dX11_doubt_4 : decode cX11_doubt 4 = .ok (.iload_n 1, 1) := by decide +kernel
theorem dX11_doubt_5 : decode cX11_doubt 5 = .ok (.aload_n 0, 1) := by decide +kernel
theorem dX11_doubt_6 : decode cX11_doubt 6 = .ok (.getfield 65, 3) := by decide +kernel
theorem dX11_doubt_9 : decode cX11_doubt 9 = .ok (.getfield 375, 3) := by decide +kernel
theorem dX11_doubt_12 : decode cX11_doubt 12 = .ok (.if_icmp .ge 12, 3) := by decide +kernel
theorem dX11_doubt_24 : decode cX11_doubt 24 = .ok (.bipush (-2), 2) := by decide +kernel
theorem dX11_doubt_26 : decode cX11_doubt 26 = .ok (.ireturn, 1) := by decide +kernel
theorem dX11_claim_0 : decode cX11_claim 0 = .ok (.aload_n 0, 1) := by decide +kernel
theorem dX11_claim_1 : decode cX11_claim 1 = .ok (.iload_n 1, 1) := by decide +kernel
theorem dX11_claim_2 : decode cX11_claim 2 = .ok (.invokevirtual 239, 3) := by decide +kernel
theorem dX11_claim_5 : decode cX11_claim 5 = .ok (.astore 5, 2) := by decide +kernel
theorem dX11_claim_7 : decode cX11_claim 7 = .ok (.aload 5, 2) := by decide +kernel
theorem dX11_claim_9 : decode cX11_claim 9 = .ok (.iload_n 2, 1) := by decide +kernel
theorem dX11_claim_10 : decode cX11_claim 10 = .ok (.invokestatic 267, 3) := by decide +kernel
theorem dX11_claim_13 : decode cX11_claim 13 = .ok (.astore 6, 2) := by decide +kernel
theorem dX11_claim_15 : decode cX11_claim 15 = .ok (.aload 5, 2) := by decide +kernel
theorem dX11_claim_17 : decode cX11_claim 17 = .ok (.ifnull 37, 3) := by decide +kernel
theorem dX11_claim_54 : decode cX11_claim 54 = .ok (.bipush (-2), 2) := by decide +kernel
theorem dX11_claim_56 : decode cX11_claim 56 = .ok (.ireturn, 1) := by decide +kernel
theorem dX11_claimed_0 : decode cX11_claimed 0 = .ok (.iload_n 1, 1) := by decide +kernel
theorem dX11_claimed_1 : decode cX11_claimed 1 = .ok (.ifCond .lt 20, 3) := by decide +kernel
theorem dX11_claimed_4 : decode cX11_claimed 4 = .ok (.iload_n 1, 1) := by decide +kernel
theorem dX11_claimed_5 : decode cX11_claimed 5 = .ok (.aload_n 0, 1) := by decide +kernel
theorem dX11_claimed_6 : decode cX11_claimed 6 = .ok (.getfield 387, 3) := by decide +kernel
theorem dX11_claimed_9 : decode cX11_claimed 9 = .ok (.if_icmp .ge 12, 3) := by decide +kernel
theorem dX11_claimed_21 : decode cX11_claimed 21 = .ok (.bipush (-2), 2) := by decide +kernel
theorem dX11_claimed_23 : decode cX11_claimed 23 = .ok (.ireturn, 1) := by decide +kernel
theorem dX11_check_0 : decode cX11_check 0 = .ok (.iload_n 1, 1) := by decide +kernel
theorem dX11_check_1 : decode cX11_check 1 = .ok (.ifCond .lt 11, 3) := by decide +kernel
theorem dX11_check_4 : decode cX11_check 4 = .ok (.iload_n 1, 1) := by decide +kernel
theorem dX11_check_5 : decode cX11_check 5 = .ok (.aload_n 0, 1) := by decide +kernel
theorem dX11_check_6 : decode cX11_check 6 = .ok (.getfield 387, 3) := by decide +kernel
theorem dX11_check_9 : decode cX11_check 9 = .ok (.if_icmp .lt 6, 3) := by decide +kernel
theorem dX11_check_12 : decode cX11_check 12 = .ok (.bipush (-2), 2) := by decide +kernel
theorem dX11_check_14 : decode cX11_check 14 = .ok (.ireturn, 1) := by decide +kernel
theorem dX11_act_0 : decode cX11_act 0 = .ok (.aload_n 0, 1) := by decide +kernel
theorem dX11_act_1 : decode cX11_act 1 = .ok (.getfield 416, 3) := by decide +kernel
theorem dX11_act_4 : decode cX11_act 4 = .ok (.bipush 100, 2) := by decide +kernel
theorem dX11_act_6 : decode cX11_act 6 = .ok (.if_icmp .lt 6, 3) := by decide +kernel
theorem dX11_act_12 : decode cX11_act 12 = .ok (.aload_n 0, 1) := by decide +kernel
theorem dX11_act_13 : decode cX11_act 13 = .ok (.getfield 416, 3) := by decide +kernel
theorem dX11_act_16 : decode cX11_act 16 = .ok (.iconst 3, 1) := by decide +kernel
theorem dX11_act_17 : decode cX11_act 17 = .ok (.imul, 1) := by decide +kernel
theorem dX11_act_18 : decode cX11_act 18 = .ok (.istore_n 3, 1) := by decide +kernel
theorem dX11_act_19 : decode cX11_act 19 = .ok (.aload_n 0, 1) := by decide +kernel
theorem dX11_act_20 : decode cX11_act 20 = .ok (.getfield 69, 3) := by decide +kernel
theorem dX11_act_23 : decode cX11_act 23 = .ok (.iload_n 3, 1) := by decide +kernel
theorem dX11_act_24 : decode cX11_act 24 = .ok (.iload_n 1, 1) := by decide +kernel
theorem dX11_act_25 : decode cX11_act 25 = .ok (.iastore, 1) := by decide +kernel
theorem dX11_act_26 : decode cX11_act 26 = .ok (.aload_n 0, 1) := by decide +kernel
theorem dX11_act_27 : decode cX11_act 27 = .ok (.getfield 69, 3) := by decide +kernel
theorem dX11_act_30 : decode cX11_act 30 = .ok (.iload_n 3, 1) := by decide +kernel
theorem dX11_act_31 : decode cX11_act 31 = .ok (.iconst 1, 1) := by decide +kernel
theorem dX11_act_32 : decode cX11_act 32 = .ok (.iadd, 1) := by decide +kernel
theorem dX11_act_33 : decode cX11_act 33 = .ok (.iload_n 2, 1) := by decide +kernel
theorem dX11_act_34 : decode cX11_act 34 = .ok (.iastore, 1) := by decide +kernel
theorem dX11_act_35 : decode cX11_act 35 = .ok (.aload_n 0, 1) := by decide +kernel
theorem dX11_act_36 : decode cX11_act 36 = .ok (.getfield 69, 3) := by decide +kernel
theorem dX11_act_39 : decode cX11_act 39 = .ok (.iload_n 3, 1) := by decide +kernel
theorem dX11_act_40 : decode cX11_act 40 = .ok (.iconst 2, 1) := by decide +kernel
theorem dX11_act_41 : decode cX11_act 41 = .ok (.iadd, 1) := by decide +kernel
theorem dX11_act_42 : decode cX11_act 42 = .ok (.aload_n 0, 1) := by decide +kernel
theorem dX11_act_43 : decode cX11_act 43 = .ok (.getfield 82, 3) := by decide +kernel
theorem dX11_act_46 : decode cX11_act 46 = .ok (.iastore, 1) := by decide +kernel
theorem dX11_act_47 : decode cX11_act 47 = .ok (.aload_n 0, 1) := by decide +kernel
theorem dX11_act_48 : decode cX11_act 48 = .ok (.getfield 72, 3) := by decide +kernel
theorem dX11_act_51 : decode cX11_act 51 = .ok (.aload_n 0, 1) := by decide +kernel
theorem dX11_act_52 : decode cX11_act 52 = .ok (.getfield 416, 3) := by decide +kernel
theorem dX11_act_55 : decode cX11_act 55 = .ok (.aload_n 0, 1) := by decide +kernel
theorem dX11_act_56 : decode cX11_act 56 = .ok (.aload_n 0, 1) := by decide +kernel
theorem dX11_act_57 : decode cX11_act 57 = .ok (.getfield 416, 3) := by decide +kernel
theorem dX11_act_60 : decode cX11_act 60 = .ok (.invokevirtual 419, 3) := by decide +kernel
theorem dX11_act_63 : decode cX11_act 63 = .ok (.lastore, 1) := by decide +kernel
theorem dX11_act_64 : decode cX11_act 64 = .ok (.aload_n 0, 1) := by decide +kernel
theorem dX11_act_65 : decode cX11_act 65 = .ok (.dup, 1) := by decide +kernel
theorem dX11_act_66 : decode cX11_act 66 = .ok (.getfield 416, 3) := by decide +kernel
theorem dX11_act_69 : decode cX11_act 69 = .ok (.dup_x1, 1) := by decide +kernel
theorem dX11_act_70 : decode cX11_act 70 = .ok (.iconst 1, 1) := by decide +kernel
theorem dX11_act_71 : decode cX11_act 71 = .ok (.iadd, 1) := by decide +kernel
theorem dX11_act_72 : decode cX11_act 72 = .ok (.putfield 416, 3) := by decide +kernel
theorem dX11_act_75 : decode cX11_act 75 = .ok (.ireturn, 1) := by decide +kernel
theorem dX11_link_0 : decode cX11_link 0 = .ok (.iload_n 1, 1) := by decide +kernel
theorem dX11_link_1 : decode cX11_link 1 = .ok (.ifCond .lt 11, 3) := by decide +kernel
theorem dX11_link_4 : decode cX11_link 4 = .ok (.iload_n 1, 1) := by decide +kernel
theorem dX11_link_5 : decode cX11_link 5 = .ok (.aload_n 0, 1) := by decide +kernel
theorem dX11_link_6 : decode cX11_link 6 = .ok (.getfield 416, 3) := by decide +kernel
theorem dX11_link_9 : decode cX11_link 9 = .ok (.if_icmp .lt 7, 3) := by decide +kernel
theorem dX11_link_12 : decode cX11_link 12 = .ok (.lconst 0, 1) := by decide +kernel
theorem dX11_link_13 : decode cX11_link 13 = .ok (.goto 9, 3) := by decide +kernel
theorem dX11_link_22 : decode cX11_link 22 = .ok (.lreturn, 1) := by decide +kernel
theorem dX11_alter_0 : decode cX11_alter 0 = .ok (.iload_n 1, 1) := by decide +kernel
theorem dX11_alter_1 : decode cX11_alter 1 = .ok (.ifCond .lt 20, 3) := by decide +kernel
theorem dX11_alter_4 : decode cX11_alter 4 = .ok (.iload_n 1, 1) := by decide +kernel
theorem dX11_alter_5 : decode cX11_alter 5 = .ok (.aload_n 0, 1) := by decide +kernel
theorem dX11_alter_6 : decode cX11_alter 6 = .ok (.getfield 416, 3) := by decide +kernel
theorem dX11_alter_9 : decode cX11_alter 9 = .ok (.if_icmp .ge 12, 3) := by decide +kernel
theorem dX11_alter_21 : decode cX11_alter 21 = .ok (.bipush (-2), 2) := by decide +kernel
theorem dX11_alter_23 : decode cX11_alter 23 = .ok (.ireturn, 1) := by decide +kernel
theorem dX11_chain_0 : decode cX11_chain 0 = .ok (.iconst 0, 1) := by decide +kernel
theorem dX11_chain_1 : decode cX11_chain 1 = .ok (.istore_n 1, 1) := by decide +kernel
theorem dX11_chain_2 : decode cX11_chain 2 = .ok (.iload_n 1, 1) := by decide +kernel
theorem dX11_chain_3 : decode cX11_chain 3 = .ok (.aload_n 0, 1) := by decide +kernel
theorem dX11_chain_4 : decode cX11_chain 4 = .ok (.getfield 416, 3) := by decide +kernel
theorem dX11_chain_7 : decode cX11_chain 7 = .ok (.if_icmp .ge 26, 3) := by decide +kernel
theorem dX11_chain_33 : decode cX11_chain 33 = .ok (.iconst (-1), 1) := by decide +kernel
theorem dX11_chain_34 : decode cX11_chain 34 = .ok (.ireturn, 1) := by decide +kernel
theorem dX11_count_0 : decode cX11_count 0 = .ok (.iload_n 1, 1) := by decide +kernel
theorem dX11_count_1 : decode cX11_count 1 = .ok (.tableswitch 111 0 9 #[55, 60, 65, 70, 75, 80, 88, 96, 101, 106], 55) := by decide +kernel
theorem dX11_count_56 : decode cX11_count 56 = .ok (.aload_n 0, 1) := by decide +kernel
theorem dX11_count_57 : decode cX11_count 57 = .ok (.getfield 76, 3) := by decide +kernel
theorem dX11_count_60 : decode cX11_count 60 = .ok (.ireturn, 1) := by decide +kernel
theorem dX11_count_61 : decode cX11_count 61 = .ok (.aload_n 0, 1) := by decide +kernel
theorem dX11_count_62 : decode cX11_count 62 = .ok (.getfield 85, 3) := by decide +kernel
theorem dX11_count_65 : decode cX11_count 65 = .ok (.ireturn, 1) := by decide +kernel
theorem dX11_count_66 : decode cX11_count 66 = .ok (.aload_n 0, 1) := by decide +kernel
theorem dX11_count_67 : decode cX11_count 67 = .ok (.getfield 143, 3) := by decide +kernel
theorem dX11_count_70 : decode cX11_count 70 = .ok (.ireturn, 1) := by decide +kernel
theorem dX11_count_71 : decode cX11_count 71 = .ok (.aload_n 0, 1) := by decide +kernel
theorem dX11_count_72 : decode cX11_count 72 = .ok (.getfield 188, 3) := by decide +kernel
theorem dX11_count_75 : decode cX11_count 75 = .ok (.ireturn, 1) := by decide +kernel
theorem dX11_count_76 : decode cX11_count 76 = .ok (.aload_n 0, 1) := by decide +kernel
theorem dX11_count_77 : decode cX11_count 77 = .ok (.getfield 290, 3) := by decide +kernel
theorem dX11_count_80 : decode cX11_count 80 = .ok (.ireturn, 1) := by decide +kernel
theorem dX11_count_81 : decode cX11_count 81 = .ok (.aload_n 0, 1) := by decide +kernel
theorem dX11_count_82 : decode cX11_count 82 = .ok (.getfield 51, 3) := by decide +kernel
theorem dX11_count_85 : decode cX11_count 85 = .ok (.getfield 338, 3) := by decide +kernel
theorem dX11_count_88 : decode cX11_count 88 = .ok (.ireturn, 1) := by decide +kernel
theorem dX11_count_89 : decode cX11_count 89 = .ok (.aload_n 0, 1) := by decide +kernel
theorem dX11_count_90 : decode cX11_count 90 = .ok (.getfield 58, 3) := by decide +kernel
theorem dX11_count_93 : decode cX11_count 93 = .ok (.getfield 348, 3) := by decide +kernel
theorem dX11_count_96 : decode cX11_count 96 = .ok (.ireturn, 1) := by decide +kernel
theorem dX11_count_97 : decode cX11_count 97 = .ok (.aload_n 0, 1) := by decide +kernel
theorem dX11_count_98 : decode cX11_count 98 = .ok (.getfield 387, 3) := by decide +kernel
theorem dX11_count_101 : decode cX11_count 101 = .ok (.ireturn, 1) := by decide +kernel
theorem dX11_count_102 : decode cX11_count 102 = .ok (.aload_n 0, 1) := by decide +kernel
theorem dX11_count_103 : decode cX11_count 103 = .ok (.getfield 416, 3) := by decide +kernel
theorem dX11_count_106 : decode cX11_count 106 = .ok (.ireturn, 1) := by decide +kernel
theorem dX11_count_107 : decode cX11_count 107 = .ok (.aload_n 0, 1) := by decide +kernel
theorem dX11_count_108 : decode cX11_count 108 = .ok (.getfield 82, 3) := by decide +kernel
theorem dX11_count_111 : decode cX11_count 111 = .ok (.ireturn, 1) := by decide +kernel
theorem dX11_count_112 : decode cX11_count 112 = .ok (.bipush (-2), 2) := by decide +kernel
theorem dX11_count_114 : decode cX11_count 114 = .ok (.ireturn, 1) := by decide +kernel
theorem dX11_pictureAt_0 : decode cX11_pictureAt 0 = .ok (.iload_n 1, 1) := by decide +kernel
theorem dX11_pictureAt_1 : decode cX11_pictureAt 1 = .ok (.ifCond .lt 11, 3) := by decide +kernel
theorem dX11_pictureAt_4 : decode cX11_pictureAt 4 = .ok (.iload_n 1, 1) := by decide +kernel
theorem dX11_pictureAt_5 : decode cX11_pictureAt 5 = .ok (.aload_n 0, 1) := by decide +kernel
theorem dX11_pictureAt_6 : decode cX11_pictureAt 6 = .ok (.getfield 85, 3) := by decide +kernel
theorem dX11_pictureAt_9 : decode cX11_pictureAt 9 = .ok (.if_icmp .lt 7, 3) := by decide +kernel
theorem dX11_pictureAt_12 : decode cX11_pictureAt 12 = .ok (.aconst_null, 1) := by decide +kernel
theorem dX11_pictureAt_13 : decode cX11_pictureAt 13 = .ok (.goto 9, 3) := by decide +kernel
theorem dX11_pictureAt_22 : decode cX11_pictureAt 22 = .ok (.areturn, 1) := by decide +kernel
theorem dX11_volumeAt_0 : decode cX11_volumeAt 0 = .ok (.iload_n 1, 1) := by decide +kernel
theorem dX11_volumeAt_1 : decode cX11_volumeAt 1 = .ok (.ifCond .lt 11, 3) := by decide +kernel
theorem dX11_volumeAt_4 : decode cX11_volumeAt 4 = .ok (.iload_n 1, 1) := by decide +kernel
theorem dX11_volumeAt_5 : decode cX11_volumeAt 5 = .ok (.aload_n 0, 1) := by decide +kernel
theorem dX11_volumeAt_6 : decode cX11_volumeAt 6 = .ok (.getfield 143, 3) := by decide +kernel
theorem dX11_volumeAt_9 : decode cX11_volumeAt 9 = .ok (.if_icmp .lt 7, 3) := by decide +kernel
theorem dX11_volumeAt_12 : decode cX11_volumeAt 12 = .ok (.aconst_null, 1) := by decide +kernel
theorem dX11_volumeAt_13 : decode cX11_volumeAt 13 = .ok (.goto 9, 3) := by decide +kernel
theorem dX11_volumeAt_22 : decode cX11_volumeAt 22 = .ok (.areturn, 1) := by decide +kernel
theorem dX11_maybeVolume_0 : decode cX11_maybeVolume 0 = .ok (.iload_n 1, 1) := by decide +kernel
theorem dX11_maybeVolume_1 : decode cX11_maybeVolume 1 = .ok (.iconst (-1), 1) := by decide +kernel
theorem dX11_maybeVolume_2 : decode cX11_maybeVolume 2 = .ok (.if_icmp .eq 15, 3) := by decide +kernel
theorem dX11_maybeVolume_5 : decode cX11_maybeVolume 5 = .ok (.iload_n 1, 1) := by decide +kernel
theorem dX11_maybeVolume_6 : decode cX11_maybeVolume 6 = .ok (.ifCond .lt 15, 3) := by decide +kernel
theorem dX11_maybeVolume_9 : decode cX11_maybeVolume 9 = .ok (.iload_n 1, 1) := by decide +kernel
theorem dX11_maybeVolume_10 : decode cX11_maybeVolume 10 = .ok (.aload_n 0, 1) := by decide +kernel
theorem dX11_maybeVolume_11 : decode cX11_maybeVolume 11 = .ok (.getfield 143, 3) := by decide +kernel
theorem dX11_maybeVolume_14 : decode cX11_maybeVolume 14 = .ok (.if_icmp .ge 7, 3) := by decide +kernel
theorem dX11_maybeVolume_17 : decode cX11_maybeVolume 17 = .ok (.iconst 1, 1) := by decide +kernel
theorem dX11_maybeVolume_18 : decode cX11_maybeVolume 18 = .ok (.goto 4, 3) := by decide +kernel
theorem dX11_maybeVolume_21 : decode cX11_maybeVolume 21 = .ok (.iconst 0, 1) := by decide +kernel
theorem dX11_maybeVolume_22 : decode cX11_maybeVolume 22 = .ok (.ireturn, 1) := by decide +kernel
theorem dX11_treeAt_0 : decode cX11_treeAt 0 = .ok (.iload_n 1, 1) := by decide +kernel
theorem dX11_treeAt_1 : decode cX11_treeAt 1 = .ok (.ifCond .lt 11, 3) := by decide +kernel
theorem dX11_treeAt_4 : decode cX11_treeAt 4 = .ok (.iload_n 1, 1) := by decide +kernel
theorem dX11_treeAt_5 : decode cX11_treeAt 5 = .ok (.aload_n 0, 1) := by decide +kernel
theorem dX11_treeAt_6 : decode cX11_treeAt 6 = .ok (.getfield 188, 3) := by decide +kernel
theorem dX11_treeAt_9 : decode cX11_treeAt 9 = .ok (.if_icmp .lt 7, 3) := by decide +kernel
theorem dX11_treeAt_12 : decode cX11_treeAt 12 = .ok (.aconst_null, 1) := by decide +kernel
theorem dX11_treeAt_13 : decode cX11_treeAt 13 = .ok (.goto 9, 3) := by decide +kernel
theorem dX11_treeAt_22 : decode cX11_treeAt 22 = .ok (.areturn, 1) := by decide +kernel
theorem dX11_openingAt_0 : decode cX11_openingAt 0 = .ok (.iload_n 1, 1) := by decide +kernel
theorem dX11_openingAt_1 : decode cX11_openingAt 1 = .ok (.ifCond .lt 11, 3) := by decide +kernel
theorem dX11_openingAt_4 : decode cX11_openingAt 4 = .ok (.iload_n 1, 1) := by decide +kernel
theorem dX11_openingAt_5 : decode cX11_openingAt 5 = .ok (.aload_n 0, 1) := by decide +kernel
theorem dX11_openingAt_6 : decode cX11_openingAt 6 = .ok (.getfield 290, 3) := by decide +kernel
theorem dX11_openingAt_9 : decode cX11_openingAt 9 = .ok (.if_icmp .lt 7, 3) := by decide +kernel
theorem dX11_openingAt_12 : decode cX11_openingAt 12 = .ok (.aconst_null, 1) := by decide +kernel
theorem dX11_openingAt_13 : decode cX11_openingAt 13 = .ok (.goto 9, 3) := by decide +kernel
theorem dX11_openingAt_22 : decode cX11_openingAt 22 = .ok (.areturn, 1) := by decide +kernel
theorem dX11_itemIn_0 : decode cX11_itemIn 0 = .ok (.aload_n 0, 1) := by decide +kernel
theorem dX11_itemIn_1 : decode cX11_itemIn 1 = .ok (.ifnull 15, 3) := by decide +kernel
theorem dX11_itemIn_16 : decode cX11_itemIn 16 = .ok (.aconst_null, 1) := by decide +kernel
theorem dX11_itemIn_17 : decode cX11_itemIn 17 = .ok (.goto 9, 3) := by decide +kernel
theorem dX11_itemIn_26 : decode cX11_itemIn 26 = .ok (.areturn, 1) := by decide +kernel
theorem dX11_dueLink_0 : decode cX11_dueLink 0 = .ok (.iload_n 1, 1) := by decide +kernel
theorem dX11_dueLink_1 : decode cX11_dueLink 1 = .ok (.ifCond .lt 9, 3) := by decide +kernel
theorem dX11_dueLink_4 : decode cX11_dueLink 4 = .ok (.iload_n 1, 1) := by decide +kernel
theorem dX11_dueLink_5 : decode cX11_dueLink 5 = .ok (.bipush 100, 2) := by decide +kernel
theorem dX11_dueLink_7 : decode cX11_dueLink 7 = .ok (.if_icmp .lt 5, 3) := by decide +kernel
theorem dX11_dueLink_12 : decode cX11_dueLink 12 = .ok (.iload_n 1, 1) := by decide +kernel
theorem dX11_dueLink_13 : decode cX11_dueLink 13 = .ok (.ifCond .ne 7, 3) := by decide +kernel
theorem dX11_dueLink_16 : decode cX11_dueLink 16 = .ok (.lconst 1, 1) := by decide +kernel
theorem dX11_dueLink_17 : decode cX11_dueLink 17 = .ok (.goto 11, 3) := by decide +kernel
theorem dX11_dueLink_28 : decode cX11_dueLink 28 = .ok (.ldc2_w 426, 3) := by decide +kernel
theorem dX11_dueLink_31 : decode cX11_dueLink 31 = .ok (.lmul, 1) := by decide +kernel
theorem dX11_dueLink_32 : decode cX11_dueLink 32 = .ok (.aload_n 0, 1) := by decide +kernel
theorem dX11_dueLink_33 : decode cX11_dueLink 33 = .ok (.getfield 69, 3) := by decide +kernel
theorem dX11_dueLink_36 : decode cX11_dueLink 36 = .ok (.iload_n 1, 1) := by decide +kernel
theorem dX11_dueLink_37 : decode cX11_dueLink 37 = .ok (.iconst 3, 1) := by decide +kernel
theorem dX11_dueLink_38 : decode cX11_dueLink 38 = .ok (.imul, 1) := by decide +kernel
theorem dX11_dueLink_39 : decode cX11_dueLink 39 = .ok (.iaload, 1) := by decide +kernel
theorem dX11_dueLink_40 : decode cX11_dueLink 40 = .ok (.i2l, 1) := by decide +kernel
theorem dX11_dueLink_41 : decode cX11_dueLink 41 = .ok (.ladd, 1) := by decide +kernel
theorem dX11_dueLink_42 : decode cX11_dueLink 42 = .ok (.lstore_n 2, 1) := by decide +kernel
theorem dX11_dueLink_43 : decode cX11_dueLink 43 = .ok (.lload_n 2, 1) := by decide +kernel
theorem dX11_dueLink_44 : decode cX11_dueLink 44 = .ok (.lload_n 2, 1) := by decide +kernel
theorem dX11_dueLink_45 : decode cX11_dueLink 45 = .ok (.bipush 29, 2) := by decide +kernel
theorem dX11_dueLink_47 : decode cX11_dueLink 47 = .ok (.lushr, 1) := by decide +kernel
theorem dX11_dueLink_48 : decode cX11_dueLink 48 = .ok (.lxor, 1) := by decide +kernel
theorem dX11_dueLink_49 : decode cX11_dueLink 49 = .ok (.ldc2_w 428, 3) := by decide +kernel
theorem dX11_dueLink_52 : decode cX11_dueLink 52 = .ok (.lmul, 1) := by decide +kernel
theorem dX11_dueLink_53 : decode cX11_dueLink 53 = .ok (.aload_n 0, 1) := by decide +kernel
theorem dX11_dueLink_54 : decode cX11_dueLink 54 = .ok (.getfield 69, 3) := by decide +kernel
theorem dX11_dueLink_57 : decode cX11_dueLink 57 = .ok (.iload_n 1, 1) := by decide +kernel
theorem dX11_dueLink_58 : decode cX11_dueLink 58 = .ok (.iconst 3, 1) := by decide +kernel
theorem dX11_dueLink_59 : decode cX11_dueLink 59 = .ok (.imul, 1) := by decide +kernel
theorem dX11_dueLink_60 : decode cX11_dueLink 60 = .ok (.iconst 1, 1) := by decide +kernel
theorem dX11_dueLink_61 : decode cX11_dueLink 61 = .ok (.iadd, 1) := by decide +kernel
theorem dX11_dueLink_62 : decode cX11_dueLink 62 = .ok (.iaload, 1) := by decide +kernel
theorem dX11_dueLink_63 : decode cX11_dueLink 63 = .ok (.i2l, 1) := by decide +kernel
theorem dX11_dueLink_64 : decode cX11_dueLink 64 = .ok (.ladd, 1) := by decide +kernel
theorem dX11_dueLink_65 : decode cX11_dueLink 65 = .ok (.lstore_n 2, 1) := by decide +kernel
theorem dX11_dueLink_66 : decode cX11_dueLink 66 = .ok (.lload_n 2, 1) := by decide +kernel
theorem dX11_dueLink_67 : decode cX11_dueLink 67 = .ok (.lload_n 2, 1) := by decide +kernel
theorem dX11_dueLink_68 : decode cX11_dueLink 68 = .ok (.bipush 32, 2) := by decide +kernel
theorem dX11_dueLink_70 : decode cX11_dueLink 70 = .ok (.lushr, 1) := by decide +kernel
theorem dX11_dueLink_71 : decode cX11_dueLink 71 = .ok (.lxor, 1) := by decide +kernel
theorem dX11_dueLink_72 : decode cX11_dueLink 72 = .ok (.ldc2_w 430, 3) := by decide +kernel
theorem dX11_dueLink_75 : decode cX11_dueLink 75 = .ok (.lmul, 1) := by decide +kernel
theorem dX11_dueLink_76 : decode cX11_dueLink 76 = .ok (.aload_n 0, 1) := by decide +kernel
theorem dX11_dueLink_77 : decode cX11_dueLink 77 = .ok (.getfield 69, 3) := by decide +kernel
theorem dX11_dueLink_80 : decode cX11_dueLink 80 = .ok (.iload_n 1, 1) := by decide +kernel
theorem dX11_dueLink_81 : decode cX11_dueLink 81 = .ok (.iconst 3, 1) := by decide +kernel
theorem dX11_dueLink_82 : decode cX11_dueLink 82 = .ok (.imul, 1) := by decide +kernel
theorem dX11_dueLink_83 : decode cX11_dueLink 83 = .ok (.iconst 2, 1) := by decide +kernel
theorem dX11_dueLink_84 : decode cX11_dueLink 84 = .ok (.iadd, 1) := by decide +kernel
theorem dX11_dueLink_85 : decode cX11_dueLink 85 = .ok (.iaload, 1) := by decide +kernel
theorem dX11_dueLink_86 : decode cX11_dueLink 86 = .ok (.i2l, 1) := by decide +kernel
theorem dX11_dueLink_87 : decode cX11_dueLink 87 = .ok (.ladd, 1) := by decide +kernel
theorem dX11_dueLink_88 : decode cX11_dueLink 88 = .ok (.lstore_n 2, 1) := by decide +kernel
theorem dX11_dueLink_89 : decode cX11_dueLink 89 = .ok (.lload_n 2, 1) := by decide +kernel
theorem dX11_dueLink_90 : decode cX11_dueLink 90 = .ok (.lload_n 2, 1) := by decide +kernel
theorem dX11_dueLink_91 : decode cX11_dueLink 91 = .ok (.bipush 31, 2) := by decide +kernel
theorem dX11_dueLink_93 : decode cX11_dueLink 93 = .ok (.lushr, 1) := by decide +kernel
theorem dX11_dueLink_94 : decode cX11_dueLink 94 = .ok (.lxor, 1) := by decide +kernel
theorem dX11_dueLink_95 : decode cX11_dueLink 95 = .ok (.lreturn, 1) := by decide +kernel
theorem dX11_packedFault_0 : decode cX11_packedFault 0 = .ok (.iload_n 1, 1) := by decide +kernel
theorem dX11_packedFault_1 : decode cX11_packedFault 1 = .ok (.iconst 1, 1) := by decide +kernel
theorem dX11_packedFault_2 : decode cX11_packedFault 2 = .ok (.if_icmp .lt 11, 3) := by decide +kernel
theorem dX11_packedFault_13 : decode cX11_packedFault 13 = .ok (.iconst 0, 1) := by decide +kernel
theorem dX11_packedFault_14 : decode cX11_packedFault 14 = .ok (.ireturn, 1) := by decide +kernel
theorem dX12_init_0 : decode cX12_init 0 = .ok (.aload_n 0, 1) := by decide +kernel
theorem dX12_init_1 : decode cX12_init 1 = .ok (.invokespecial 1, 3) := by decide +kernel
theorem dX12_init_4 : decode cX12_init 4 = .ok (.aload_n 0, 1) := by decide +kernel
theorem dX12_init_5 : decode cX12_init 5 = .ok (.sipush 4000, 3) := by decide +kernel
theorem dX12_init_8 : decode cX12_init 8 = .ok (.newarray .int, 2) := by decide +kernel
theorem dX12_init_10 : decode cX12_init 10 = .ok (.putfield 7, 3) := by decide +kernel
theorem dX12_init_13 : decode cX12_init 13 = .ok (.aload_n 0, 1) := by decide +kernel
theorem dX12_init_14 : decode cX12_init 14 = .ok (.bipush 6, 2) := by decide +kernel
theorem dX12_init_16 : decode cX12_init 16 = .ok (.newarray .int, 2) := by decide +kernel
theorem dX12_init_18 : decode cX12_init 18 = .ok (.putfield 13, 3) := by decide +kernel
theorem dX12_init_21 : decode cX12_init 21 = .ok (.aload_n 0, 1) := by decide +kernel
theorem dX12_init_22 : decode cX12_init 22 = .ok (.ldc 16, 2) := by decide +kernel
theorem dX12_init_24 : decode cX12_init 24 = .ok (.newarray .int, 2) := by decide +kernel
theorem dX12_init_26 : decode cX12_init 26 = .ok (.putfield 17, 3) := by decide +kernel
theorem dX12_init_29 : decode cX12_init 29 = .ok (.aload_n 0, 1) := by decide +kernel
theorem dX12_init_30 : decode cX12_init 30 = .ok (.sipush 768, 3) := by decide +kernel
theorem dX12_init_33 : decode cX12_init 33 = .ok (.newarray .boolean, 2) := by decide +kernel
theorem dX12_init_35 : decode cX12_init 35 = .ok (.putfield 20, 3) := by decide +kernel
theorem dX12_init_38 : decode cX12_init 38 = .ok (.aload_n 0, 1) := by decide +kernel
theorem dX12_init_39 : decode cX12_init 39 = .ok (.bipush 12, 2) := by decide +kernel
theorem dX12_init_41 : decode cX12_init 41 = .ok (.newarray .int, 2) := by decide +kernel
theorem dX12_init_43 : decode cX12_init 43 = .ok (.putfield 24, 3) := by decide +kernel
theorem dX12_init_46 : decode cX12_init 46 = .ok (.aload_n 0, 1) := by decide +kernel
theorem dX12_init_47 : decode cX12_init 47 = .ok (.bipush 12, 2) := by decide +kernel
theorem dX12_init_49 : decode cX12_init 49 = .ok (.newarray .int, 2) := by decide +kernel
theorem dX12_init_51 : decode cX12_init 51 = .ok (.putfield 27, 3) := by decide +kernel
theorem dX12_init_54 : decode cX12_init 54 = .ok (.aload_n 0, 1) := by decide +kernel
theorem dX12_init_55 : decode cX12_init 55 = .ok (.bipush 12, 2) := by decide +kernel
theorem dX12_init_57 : decode cX12_init 57 = .ok (.newarray .int, 2) := by decide +kernel
theorem dX12_init_59 : decode cX12_init 59 = .ok (.putfield 30, 3) := by decide +kernel
theorem dX12_init_62 : decode cX12_init 62 = .ok (.aload_n 0, 1) := by decide +kernel
theorem dX12_init_63 : decode cX12_init 63 = .ok (.bipush 12, 2) := by decide +kernel
theorem dX12_init_65 : decode cX12_init 65 = .ok (.newarray .int, 2) := by decide +kernel
theorem dX12_init_67 : decode cX12_init 67 = .ok (.putfield 33, 3) := by decide +kernel
theorem dX12_init_70 : decode cX12_init 70 = .ok (.aload_n 0, 1) := by decide +kernel
theorem dX12_init_71 : decode cX12_init 71 = .ok (.bipush 36, 2) := by decide +kernel
theorem dX12_init_73 : decode cX12_init 73 = .ok (.newarray .int, 2) := by decide +kernel
theorem dX12_init_75 : decode cX12_init 75 = .ok (.putfield 36, 3) := by decide +kernel
theorem dX12_init_78 : decode cX12_init 78 = .ok (.aload_n 0, 1) := by decide +kernel
theorem dX12_init_79 : decode cX12_init 79 = .ok (.ldc 39, 2) := by decide +kernel
theorem dX12_init_81 : decode cX12_init 81 = .ok (.newarray .int, 2) := by decide +kernel
theorem dX12_init_83 : decode cX12_init 83 = .ok (.putfield 40, 3) := by decide +kernel
theorem dX12_init_86 : decode cX12_init 86 = .ok (.aload_n 0, 1) := by decide +kernel
theorem dX12_init_87 : decode cX12_init 87 = .ok (.sipush 3072, 3) := by decide +kernel
theorem dX12_init_90 : decode cX12_init 90 = .ok (.newarray .boolean, 2) := by decide +kernel
theorem dX12_init_92 : decode cX12_init 92 = .ok (.putfield 43, 3) := by decide +kernel
theorem dX12_init_95 : decode cX12_init 95 = .ok (.aload_n 0, 1) := by decide +kernel
theorem dX12_init_96 : decode cX12_init 96 = .ok (.iconst 1, 1) := by decide +kernel
theorem dX12_init_97 : decode cX12_init 97 = .ok (.putfield 46, 3) := by decide +kernel
theorem dX12_init_100 : decode cX12_init 100 = .ok (.aload_n 0, 1) := by decide +kernel
theorem dX12_init_101 : decode cX12_init 101 = .ok (.sipush 768, 3) := by decide +kernel
theorem dX12_init_104 : decode cX12_init 104 = .ok (.newarray .boolean, 2) := by decide +kernel
theorem dX12_init_106 : decode cX12_init 106 = .ok (.putfield 50, 3) := by decide +kernel
theorem dX12_init_109 : decode cX12_init 109 = .ok (.aload_n 0, 1) := by decide +kernel
theorem dX12_init_110 : decode cX12_init 110 = .ok (.sipush 3072, 3) := by decide +kernel
theorem dX12_init_113 : decode cX12_init 113 = .ok (.newarray .boolean, 2) := by decide +kernel
theorem dX12_init_115 : decode cX12_init 115 = .ok (.putfield 53, 3) := by decide +kernel
theorem dX12_init_118 : decode cX12_init 118 = .ok (.aload_n 0, 1) := by decide +kernel
theorem dX12_init_119 : decode cX12_init 119 = .ok (.bipush 64, 2) := by decide +kernel
theorem dX12_init_121 : decode cX12_init 121 = .ok (.newarray .int, 2) := by decide +kernel
theorem dX12_init_123 : decode cX12_init 123 = .ok (.putfield 56, 3) := by decide +kernel
theorem dX12_init_126 : decode cX12_init 126 = .ok (.aload_n 0, 1) := by decide +kernel
theorem dX12_init_127 : decode cX12_init 127 = .ok (.bipush 64, 2) := by decide +kernel
theorem dX12_init_129 : decode cX12_init 129 = .ok (.newarray .int, 2) := by decide +kernel
theorem dX12_init_131 : decode cX12_init 131 = .ok (.putfield 59, 3) := by decide +kernel
theorem dX12_init_134 : decode cX12_init 134 = .ok (.aload_n 0, 1) := by decide +kernel
theorem dX12_init_135 : decode cX12_init 135 = .ok (.bipush 64, 2) := by decide +kernel
theorem dX12_init_137 : decode cX12_init 137 = .ok (.newarray .int, 2) := by decide +kernel
theorem dX12_init_139 : decode cX12_init 139 = .ok (.putfield 62, 3) := by decide +kernel
theorem dX12_init_142 : decode cX12_init 142 = .ok (.aload_n 0, 1) := by decide +kernel
theorem dX12_init_143 : decode cX12_init 143 = .ok (.bipush 64, 2) := by decide +kernel
theorem dX12_init_145 : decode cX12_init 145 = .ok (.newarray .int, 2) := by decide +kernel
theorem dX12_init_147 : decode cX12_init 147 = .ok (.putfield 65, 3) := by decide +kernel
theorem dX12_init_150 : decode cX12_init 150 = .ok (.aload_n 0, 1) := by decide +kernel
theorem dX12_init_151 : decode cX12_init 151 = .ok (.bipush 16, 2) := by decide +kernel
theorem dX12_init_153 : decode cX12_init 153 = .ok (.newarray .int, 2) := by decide +kernel
theorem dX12_init_155 : decode cX12_init 155 = .ok (.putfield 68, 3) := by decide +kernel
theorem dX12_init_158 : decode cX12_init 158 = .ok (.aload_n 0, 1) := by decide +kernel
theorem dX12_init_159 : decode cX12_init 159 = .ok (.bipush 17, 2) := by decide +kernel
theorem dX12_init_161 : decode cX12_init 161 = .ok (.newarray .int, 2) := by decide +kernel
theorem dX12_init_163 : decode cX12_init 163 = .ok (.putfield 71, 3) := by decide +kernel
theorem dX12_init_166 : decode cX12_init 166 = .ok (.aload_n 0, 1) := by decide +kernel
theorem dX12_init_167 : decode cX12_init 167 = .ok (.bipush 17, 2) := by decide +kernel
theorem dX12_init_169 : decode cX12_init 169 = .ok (.newarray .int, 2) := by decide +kernel
theorem dX12_init_171 : decode cX12_init 171 = .ok (.putfield 74, 3) := by decide +kernel
theorem dX12_init_174 : decode cX12_init 174 = .ok (.aload_n 0, 1) := by decide +kernel
theorem dX12_init_175 : decode cX12_init 175 = .ok (.bipush 64, 2) := by decide +kernel
theorem dX12_init_177 : decode cX12_init 177 = .ok (.newarray .int, 2) := by decide +kernel
theorem dX12_init_179 : decode cX12_init 179 = .ok (.putfield 77, 3) := by decide +kernel
theorem dX12_init_182 : decode cX12_init 182 = .ok (.aload_n 0, 1) := by decide +kernel
theorem dX12_init_183 : decode cX12_init 183 = .ok (.bipush 64, 2) := by decide +kernel
theorem dX12_init_185 : decode cX12_init 185 = .ok (.newarray .int, 2) := by decide +kernel
theorem dX12_init_187 : decode cX12_init 187 = .ok (.putfield 80, 3) := by decide +kernel
theorem dX12_init_190 : decode cX12_init 190 = .ok (.aload_n 0, 1) := by decide +kernel
theorem dX12_init_191 : decode cX12_init 191 = .ok (.sipush 4096, 3) := by decide +kernel
theorem dX12_init_194 : decode cX12_init 194 = .ok (.newarray .int, 2) := by decide +kernel
theorem dX12_init_196 : decode cX12_init 196 = .ok (.putfield 83, 3) := by decide +kernel
theorem dX12_init_199 : decode cX12_init 199 = .ok (.aload_n 0, 1) := by decide +kernel
theorem dX12_init_200 : decode cX12_init 200 = .ok (.bipush 64, 2) := by decide +kernel
theorem dX12_init_202 : decode cX12_init 202 = .ok (.newarray .int, 2) := by decide +kernel
theorem dX12_init_204 : decode cX12_init 204 = .ok (.putfield 86, 3) := by decide +kernel
theorem dX12_init_207 : decode cX12_init 207 = .ok (.aload_n 0, 1) := by decide +kernel
theorem dX12_init_208 : decode cX12_init 208 = .ok (.bipush 64, 2) := by decide +kernel
theorem dX12_init_210 : decode cX12_init 210 = .ok (.newarray .int, 2) := by decide +kernel
theorem dX12_init_212 : decode cX12_init 212 = .ok (.putfield 89, 3) := by decide +kernel
theorem dX12_init_215 : decode cX12_init 215 = .ok (.aload_n 0, 1) := by decide +kernel
theorem dX12_init_216 : decode cX12_init 216 = .ok (.sipush 16384, 3) := by decide +kernel
theorem dX12_init_219 : decode cX12_init 219 = .ok (.newarray .int, 2) := by decide +kernel
theorem dX12_init_221 : decode cX12_init 221 = .ok (.putfield 92, 3) := by decide +kernel
theorem dX12_init_224 : decode cX12_init 224 = .ok (.aload_n 0, 1) := by decide +kernel
theorem dX12_init_225 : decode cX12_init 225 = .ok (.sipush 16384, 3) := by decide +kernel
theorem dX12_init_228 : decode cX12_init 228 = .ok (.newarray .int, 2) := by decide +kernel
theorem dX12_init_230 : decode cX12_init 230 = .ok (.putfield 95, 3) := by decide +kernel
theorem dX12_init_233 : decode cX12_init 233 = .ok (.aload_n 0, 1) := by decide +kernel
theorem dX12_init_234 : decode cX12_init 234 = .ok (.bipush 6, 2) := by decide +kernel
theorem dX12_init_236 : decode cX12_init 236 = .ok (.newarray .int, 2) := by decide +kernel
theorem dX12_init_238 : decode cX12_init 238 = .ok (.putfield 98, 3) := by decide +kernel
theorem dX12_init_241 : decode cX12_init 241 = .ok (.aload_n 0, 1) := by decide +kernel
theorem dX12_init_242 : decode cX12_init 242 = .ok (.bipush 6, 2) := by decide +kernel
theorem dX12_init_244 : decode cX12_init 244 = .ok (.newarray .int, 2) := by decide +kernel
theorem dX12_init_246 : decode cX12_init 246 = .ok (.putfield 101, 3) := by decide +kernel
theorem dX12_init_249 : decode cX12_init 249 = .ok (.aload_n 0, 1) := by decide +kernel
theorem dX12_init_250 : decode cX12_init 250 = .ok (.sipush 320, 3) := by decide +kernel
theorem dX12_init_253 : decode cX12_init 253 = .ok (.newarray .int, 2) := by decide +kernel
theorem dX12_init_255 : decode cX12_init 255 = .ok (.putfield 104, 3) := by decide +kernel
theorem dX12_init_258 : decode cX12_init 258 = .ok (.aload_n 0, 1) := by decide +kernel
theorem dX12_init_259 : decode cX12_init 259 = .ok (.bipush 6, 2) := by decide +kernel
theorem dX12_init_261 : decode cX12_init 261 = .ok (.newarray .int, 2) := by decide +kernel
theorem dX12_init_263 : decode cX12_init 263 = .ok (.putfield 107, 3) := by decide +kernel
theorem dX12_init_266 : decode cX12_init 266 = .ok (.aload_n 0, 1) := by decide +kernel
theorem dX12_init_267 : decode cX12_init 267 = .ok (.bipush 6, 2) := by decide +kernel
theorem dX12_init_269 : decode cX12_init 269 = .ok (.newarray .int, 2) := by decide +kernel
theorem dX12_init_271 : decode cX12_init 271 = .ok (.putfield 110, 3) := by decide +kernel
theorem dX12_init_274 : decode cX12_init 274 = .ok (.aload_n 0, 1) := by decide +kernel
theorem dX12_init_275 : decode cX12_init 275 = .ok (.bipush 6, 2) := by decide +kernel
theorem dX12_init_277 : decode cX12_init 277 = .ok (.newarray .int, 2) := by decide +kernel
theorem dX12_init_279 : decode cX12_init 279 = .ok (.putfield 113, 3) := by decide +kernel
theorem dX12_init_282 : decode cX12_init 282 = .ok (.aload_n 0, 1) := by decide +kernel
theorem dX12_init_283 : decode cX12_init 283 = .ok (.bipush 6, 2) := by decide +kernel
theorem dX12_init_285 : decode cX12_init 285 = .ok (.newarray .int, 2) := by decide +kernel
theorem dX12_init_287 : decode cX12_init 287 = .ok (.putfield 116, 3) := by decide +kernel
theorem dX12_init_290 : decode cX12_init 290 = .ok (.aload_n 0, 1) := by decide +kernel
theorem dX12_init_291 : decode cX12_init 291 = .ok (.bipush 6, 2) := by decide +kernel
theorem dX12_init_293 : decode cX12_init 293 = .ok (.newarray .int, 2) := by decide +kernel
theorem dX12_init_295 : decode cX12_init 295 = .ok (.putfield 119, 3) := by decide +kernel
theorem dX12_init_298 : decode cX12_init 298 = .ok (.aload_n 0, 1) := by decide +kernel
theorem dX12_init_299 : decode cX12_init 299 = .ok (.ldc 122, 2) := by decide +kernel
theorem dX12_init_301 : decode cX12_init 301 = .ok (.newarray .int, 2) := by decide +kernel
theorem dX12_init_303 : decode cX12_init 303 = .ok (.putfield 123, 3) := by decide +kernel
theorem dX12_init_306 : decode cX12_init 306 = .ok (.aload_n 0, 1) := by decide +kernel
theorem dX12_init_307 : decode cX12_init 307 = .ok (.sipush 1536, 3) := by decide +kernel
theorem dX12_init_310 : decode cX12_init 310 = .ok (.newarray .int, 2) := by decide +kernel
theorem dX12_init_312 : decode cX12_init 312 = .ok (.putfield 126, 3) := by decide +kernel
theorem dX12_init_315 : decode cX12_init 315 = .ok (.aload_n 0, 1) := by decide +kernel
theorem dX12_init_316 : decode cX12_init 316 = .ok (.bipush 6, 2) := by decide +kernel
theorem dX12_init_318 : decode cX12_init 318 = .ok (.newarray .int, 2) := by decide +kernel
theorem dX12_init_320 : decode cX12_init 320 = .ok (.putfield 129, 3) := by decide +kernel
theorem dX12_init_323 : decode cX12_init 323 = .ok (.aload_n 0, 1) := by decide +kernel
theorem dX12_init_324 : decode cX12_init 324 = .ok (.bipush 6, 2) := by decide +kernel
theorem dX12_init_326 : decode cX12_init 326 = .ok (.newarray .int, 2) := by decide +kernel
theorem dX12_init_328 : decode cX12_init 328 = .ok (.putfield 132, 3) := by decide +kernel
theorem dX12_init_331 : decode cX12_init 331 = .ok (.aload_n 0, 1) := by decide +kernel
theorem dX12_init_332 : decode cX12_init 332 = .ok (.bipush 6, 2) := by decide +kernel
theorem dX12_init_334 : decode cX12_init 334 = .ok (.newarray .int, 2) := by decide +kernel
theorem dX12_init_336 : decode cX12_init 336 = .ok (.putfield 135, 3) := by decide +kernel
theorem dX12_init_339 : decode cX12_init 339 = .ok (.aload_n 0, 1) := by decide +kernel
theorem dX12_init_340 : decode cX12_init 340 = .ok (.bipush 6, 2) := by decide +kernel
theorem dX12_init_342 : decode cX12_init 342 = .ok (.newarray .int, 2) := by decide +kernel
theorem dX12_init_344 : decode cX12_init 344 = .ok (.putfield 138, 3) := by decide +kernel
theorem dX12_init_347 : decode cX12_init 347 = .ok (.aload_n 0, 1) := by decide +kernel
theorem dX12_init_348 : decode cX12_init 348 = .ok (.bipush 6, 2) := by decide +kernel
theorem dX12_init_350 : decode cX12_init 350 = .ok (.newarray .int, 2) := by decide +kernel
theorem dX12_init_352 : decode cX12_init 352 = .ok (.putfield 141, 3) := by decide +kernel
theorem dX12_init_355 : decode cX12_init 355 = .ok (.aload_n 0, 1) := by decide +kernel
theorem dX12_init_356 : decode cX12_init 356 = .ok (.sipush 600, 3) := by decide +kernel
theorem dX12_init_359 : decode cX12_init 359 = .ok (.newarray .int, 2) := by decide +kernel
theorem dX12_init_361 : decode cX12_init 361 = .ok (.putfield 144, 3) := by decide +kernel
theorem dX12_init_364 : decode cX12_init 364 = .ok (.aload_n 0, 1) := by decide +kernel
theorem dX12_init_365 : decode cX12_init 365 = .ok (.sipush 600, 3) := by decide +kernel
theorem dX12_init_368 : decode cX12_init 368 = .ok (.newarray .int, 2) := by decide +kernel
theorem dX12_init_370 : decode cX12_init 370 = .ok (.putfield 147, 3) := by decide +kernel
theorem dX12_init_373 : decode cX12_init 373 = .ok (.aload_n 0, 1) := by decide +kernel
theorem dX12_init_374 : decode cX12_init 374 = .ok (.sipush 600, 3) := by decide +kernel
theorem dX12_init_377 : decode cX12_init 377 = .ok (.newarray .int, 2) := by decide +kernel
theorem dX12_init_379 : decode cX12_init 379 = .ok (.putfield 150, 3) := by decide +kernel
theorem dX12_init_382 : decode cX12_init 382 = .ok (.aload_n 0, 1) := by decide +kernel
theorem dX12_init_383 : decode cX12_init 383 = .ok (.sipush 900, 3) := by decide +kernel
theorem dX12_init_386 : decode cX12_init 386 = .ok (.newarray .int, 2) := by decide +kernel
theorem dX12_init_388 : decode cX12_init 388 = .ok (.putfield 153, 3) := by decide +kernel
theorem dX12_init_391 : decode cX12_init 391 = .ok (.aload_n 0, 1) := by decide +kernel
theorem dX12_init_392 : decode cX12_init 392 = .ok (.sipush 900, 3) := by decide +kernel
theorem dX12_init_395 : decode cX12_init 395 = .ok (.newarray .int, 2) := by decide +kernel
theorem dX12_init_397 : decode cX12_init 397 = .ok (.putfield 156, 3) := by decide +kernel
theorem dX12_init_400 : decode cX12_init 400 = .ok (.aload_n 0, 1) := by decide +kernel
theorem dX12_init_401 : decode cX12_init 401 = .ok (.sipush 900, 3) := by decide +kernel
theorem dX12_init_404 : decode cX12_init 404 = .ok (.newarray .long, 2) := by decide +kernel
theorem dX12_init_406 : decode cX12_init 406 = .ok (.putfield 159, 3) := by decide +kernel
theorem dX12_init_409 : decode cX12_init 409 = .ok (.aload_n 0, 1) := by decide +kernel
theorem dX12_init_410 : decode cX12_init 410 = .ok (.sipush 900, 3) := by decide +kernel
theorem dX12_init_413 : decode cX12_init 413 = .ok (.newarray .long, 2) := by decide +kernel
theorem dX12_init_415 : decode cX12_init 415 = .ok (.putfield 163, 3) := by decide +kernel
theorem dX12_init_418 : decode cX12_init 418 = .ok (.aload_n 0, 1) := by decide +kernel
theorem dX12_init_419 : decode cX12_init 419 = .ok (.sipush 900, 3) := by decide +kernel
theorem dX12_init_422 : decode cX12_init 422 = .ok (.newarray .long, 2) := by decide +kernel
theorem dX12_init_424 : decode cX12_init 424 = .ok (.putfield 166, 3) := by decide +kernel
theorem dX12_init_427 : decode cX12_init 427 = .ok (.aload_n 0, 1) := by decide +kernel
theorem dX12_init_428 : decode cX12_init 428 = .ok (.sipush 900, 3) := by decide +kernel
theorem dX12_init_431 : decode cX12_init 431 = .ok (.newarray .long, 2) := by decide +kernel
theorem dX12_init_433 : decode cX12_init 433 = .ok (.putfield 169, 3) := by decide +kernel
theorem dX12_init_436 : decode cX12_init 436 = .ok (.aload_n 0, 1) := by decide +kernel
theorem dX12_init_437 : decode cX12_init 437 = .ok (.sipush 900, 3) := by decide +kernel
theorem dX12_init_440 : decode cX12_init 440 = .ok (.newarray .int, 2) := by decide +kernel
theorem dX12_init_442 : decode cX12_init 442 = .ok (.putfield 172, 3) := by decide +kernel
theorem dX12_init_445 : decode cX12_init 445 = .ok (.aload_n 0, 1) := by decide +kernel
theorem dX12_init_446 : decode cX12_init 446 = .ok (.sipush 900, 3) := by decide +kernel
theorem dX12_init_449 : decode cX12_init 449 = .ok (.newarray .int, 2) := by decide +kernel
theorem dX12_init_451 : decode cX12_init 451 = .ok (.putfield 175, 3) := by decide +kernel
theorem dX12_init_454 : decode cX12_init 454 = .ok (.aload_n 0, 1) := by decide +kernel
theorem dX12_init_455 : decode cX12_init 455 = .ok (.sipush 900, 3) := by decide +kernel
theorem dX12_init_458 : decode cX12_init 458 = .ok (.newarray .int, 2) := by decide +kernel
theorem dX12_init_460 : decode cX12_init 460 = .ok (.putfield 178, 3) := by decide +kernel
theorem dX12_init_463 : decode cX12_init 463 = .ok (.aload_n 0, 1) := by decide +kernel
theorem dX12_init_464 : decode cX12_init 464 = .ok (.sipush 900, 3) := by decide +kernel
theorem dX12_init_467 : decode cX12_init 467 = .ok (.newarray .int, 2) := by decide +kernel
theorem dX12_init_469 : decode cX12_init 469 = .ok (.putfield 181, 3) := by decide +kernel
theorem dX12_init_472 : decode cX12_init 472 = .ok (.aload_n 0, 1) := by decide +kernel
theorem dX12_init_473 : decode cX12_init 473 = .ok (.sipush 900, 3) := by decide +kernel
theorem dX12_init_476 : decode cX12_init 476 = .ok (.newarray .int, 2) := by decide +kernel
theorem dX12_init_478 : decode cX12_init 478 = .ok (.putfield 184, 3) := by decide +kernel
theorem dX12_init_481 : decode cX12_init 481 = .ok (.aload_n 0, 1) := by decide +kernel
theorem dX12_init_482 : decode cX12_init 482 = .ok (.ldc 187, 2) := by decide +kernel
theorem dX12_init_484 : decode cX12_init 484 = .ok (.newarray .int, 2) := by decide +kernel
theorem dX12_init_486 : decode cX12_init 486 = .ok (.putfield 188, 3) := by decide +kernel
theorem dX12_init_489 : decode cX12_init 489 = .ok (.aload_n 0, 1) := by decide +kernel
theorem dX12_init_490 : decode cX12_init 490 = .ok (.sipush 900, 3) := by decide +kernel
theorem dX12_init_493 : decode cX12_init 493 = .ok (.newarray .int, 2) := by decide +kernel
theorem dX12_init_495 : decode cX12_init 495 = .ok (.putfield 191, 3) := by decide +kernel
theorem dX12_init_498 : decode cX12_init 498 = .ok (.aload_n 0, 1) := by decide +kernel
theorem dX12_init_499 : decode cX12_init 499 = .ok (.sipush 28800, 3) := by decide +kernel
theorem dX12_init_502 : decode cX12_init 502 = .ok (.newarray .int, 2) := by decide +kernel
theorem dX12_init_504 : decode cX12_init 504 = .ok (.putfield 194, 3) := by decide +kernel
theorem dX12_init_507 : decode cX12_init 507 = .ok (.aload_n 0, 1) := by decide +kernel
theorem dX12_init_508 : decode cX12_init 508 = .ok (.sipush 900, 3) := by decide +kernel
theorem dX12_init_511 : decode cX12_init 511 = .ok (.newarray .int, 2) := by decide +kernel
theorem dX12_init_513 : decode cX12_init 513 = .ok (.putfield 197, 3) := by decide +kernel
theorem dX12_init_516 : decode cX12_init 516 = .ok (.aload_n 0, 1) := by decide +kernel
theorem dX12_init_517 : decode cX12_init 517 = .ok (.sipush 900, 3) := by decide +kernel
theorem dX12_init_520 : decode cX12_init 520 = .ok (.newarray .int, 2) := by decide +kernel
theorem dX12_init_522 : decode cX12_init 522 = .ok (.putfield 200, 3) := by decide +kernel
theorem dX12_init_525 : decode cX12_init 525 = .ok (.aload_n 0, 1) := by decide +kernel
theorem dX12_init_526 : decode cX12_init 526 = .ok (.bipush 8, 2) := by decide +kernel
theorem dX12_init_528 : decode cX12_init 528 = .ok (.newarray .int, 2) := by decide +kernel
theorem dX12_init_530 : decode cX12_init 530 = .ok (.putfield 203, 3) := by decide +kernel
theorem dX12_init_533 : decode cX12_init 533 = .ok (.aload_n 0, 1) := by decide +kernel
theorem dX12_init_534 : decode cX12_init 534 = .ok (.bipush 8, 2) := by decide +kernel
theorem dX12_init_536 : decode cX12_init 536 = .ok (.newarray .int, 2) := by decide +kernel
theorem dX12_init_538 : decode cX12_init 538 = .ok (.putfield 206, 3) := by decide +kernel
theorem dX12_init_541 : decode cX12_init 541 = .ok (.aload_n 0, 1) := by decide +kernel
theorem dX12_init_542 : decode cX12_init 542 = .ok (.bipush 8, 2) := by decide +kernel
theorem dX12_init_544 : decode cX12_init 544 = .ok (.newarray .int, 2) := by decide +kernel
theorem dX12_init_546 : decode cX12_init 546 = .ok (.putfield 209, 3) := by decide +kernel
theorem dX12_init_549 : decode cX12_init 549 = .ok (.aload_n 0, 1) := by decide +kernel
theorem dX12_init_550 : decode cX12_init 550 = .ok (.sipush 600, 3) := by decide +kernel
theorem dX12_init_553 : decode cX12_init 553 = .ok (.newarray .int, 2) := by decide +kernel
theorem dX12_init_555 : decode cX12_init 555 = .ok (.putfield 212, 3) := by decide +kernel
theorem dX12_init_558 : decode cX12_init 558 = .ok (.aload_n 0, 1) := by decide +kernel
theorem dX12_init_559 : decode cX12_init 559 = .ok (.sipush 600, 3) := by decide +kernel
theorem dX12_init_562 : decode cX12_init 562 = .ok (.newarray .int, 2) := by decide +kernel
theorem dX12_init_564 : decode cX12_init 564 = .ok (.putfield 215, 3) := by decide +kernel
theorem dX12_init_567 : decode cX12_init 567 = .ok (.aload_n 0, 1) := by decide +kernel
theorem dX12_init_568 : decode cX12_init 568 = .ok (.sipush 600, 3) := by decide +kernel
theorem dX12_init_571 : decode cX12_init 571 = .ok (.newarray .int, 2) := by decide +kernel
theorem dX12_init_573 : decode cX12_init 573 = .ok (.putfield 218, 3) := by decide +kernel
theorem dX12_init_576 : decode cX12_init 576 = .ok (.aload_n 0, 1) := by decide +kernel
theorem dX12_init_577 : decode cX12_init 577 = .ok (.bipush 66, 2) := by decide +kernel
theorem dX12_init_579 : decode cX12_init 579 = .ok (.newarray .boolean, 2) := by decide +kernel
theorem dX12_init_581 : decode cX12_init 581 = .ok (.putfield 221, 3) := by decide +kernel
theorem dX12_init_584 : decode cX12_init 584 = .ok (.aload_n 0, 1) := by decide +kernel
theorem dX12_init_585 : decode cX12_init 585 = .ok (.sipush 256, 3) := by decide +kernel
theorem dX12_init_588 : decode cX12_init 588 = .ok (.newarray .int, 2) := by decide +kernel
theorem dX12_init_590 : decode cX12_init 590 = .ok (.putfield 224, 3) := by decide +kernel
theorem dX12_init_593 : decode cX12_init 593 = .ok (.aload_n 0, 1) := by decide +kernel
theorem dX12_init_594 : decode cX12_init 594 = .ok (.sipush 256, 3) := by decide +kernel
theorem dX12_init_597 : decode cX12_init 597 = .ok (.newarray .int, 2) := by decide +kernel
theorem dX12_init_599 : decode cX12_init 599 = .ok (.putfield 227, 3) := by decide +kernel
theorem dX12_init_602 : decode cX12_init 602 = .ok (.aload_n 0, 1) := by decide +kernel
theorem dX12_init_603 : decode cX12_init 603 = .ok (.sipush 16384, 3) := by decide +kernel
theorem dX12_init_606 : decode cX12_init 606 = .ok (.newarray .int, 2) := by decide +kernel
theorem dX12_init_608 : decode cX12_init 608 = .ok (.putfield 230, 3) := by decide +kernel
theorem dX12_init_611 : decode cX12_init 611 = .ok (.aload_n 0, 1) := by decide +kernel
theorem dX12_init_612 : decode cX12_init 612 = .ok (.bipush 8, 2) := by decide +kernel
theorem dX12_init_614 : decode cX12_init 614 = .ok (.newarray .int, 2) := by decide +kernel
theorem dX12_init_616 : decode cX12_init 616 = .ok (.putfield 233, 3) := by decide +kernel
theorem dX12_init_619 : decode cX12_init 619 = .ok (.aload_n 0, 1) := by decide +kernel
theorem dX12_init_620 : decode cX12_init 620 = .ok (.bipush 8, 2) := by decide +kernel
theorem dX12_init_622 : decode cX12_init 622 = .ok (.newarray .int, 2) := by decide +kernel
theorem dX12_init_624 : decode cX12_init 624 = .ok (.putfield 236, 3) := by decide +kernel
theorem dX12_init_627 : decode cX12_init 627 = .ok (.aload_n 0, 1) := by decide +kernel
theorem dX12_init_628 : decode cX12_init 628 = .ok (.bipush 8, 2) := by decide +kernel
theorem dX12_init_630 : decode cX12_init 630 = .ok (.newarray .int, 2) := by decide +kernel
theorem dX12_init_632 : decode cX12_init 632 = .ok (.putfield 239, 3) := by decide +kernel
theorem dX12_init_635 : decode cX12_init 635 = .ok (.aload_n 0, 1) := by decide +kernel
theorem dX12_init_636 : decode cX12_init 636 = .ok (.bipush 8, 2) := by decide +kernel
theorem dX12_init_638 : decode cX12_init 638 = .ok (.newarray .int, 2) := by decide +kernel
theorem dX12_init_640 : decode cX12_init 640 = .ok (.putfield 242, 3) := by decide +kernel
theorem dX12_init_643 : decode cX12_init 643 = .ok (.aload_n 0, 1) := by decide +kernel
theorem dX12_init_644 : decode cX12_init 644 = .ok (.sipush 960, 3) := by decide +kernel
theorem dX12_init_647 : decode cX12_init 647 = .ok (.newarray .int, 2) := by decide +kernel
theorem dX12_init_649 : decode cX12_init 649 = .ok (.putfield 245, 3) := by decide +kernel
theorem dX12_init_652 : decode cX12_init 652 = .ok (.aload_n 0, 1) := by decide +kernel
theorem dX12_init_653 : decode cX12_init 653 = .ok (.sipush 960, 3) := by decide +kernel
theorem dX12_init_656 : decode cX12_init 656 = .ok (.newarray .int, 2) := by decide +kernel
theorem dX12_init_658 : decode cX12_init 658 = .ok (.putfield 248, 3) := by decide +kernel
theorem dX12_init_661 : decode cX12_init 661 = .ok (.aload_n 0, 1) := by decide +kernel
theorem dX12_init_662 : decode cX12_init 662 = .ok (.sipush 960, 3) := by decide +kernel
theorem dX12_init_665 : decode cX12_init 665 = .ok (.newarray .int, 2) := by decide +kernel
theorem dX12_init_667 : decode cX12_init 667 = .ok (.putfield 251, 3) := by decide +kernel
theorem dX12_init_670 : decode cX12_init 670 = .ok (.aload_n 0, 1) := by decide +kernel
theorem dX12_init_671 : decode cX12_init 671 = .ok (.sipush 960, 3) := by decide +kernel
theorem dX12_init_674 : decode cX12_init 674 = .ok (.newarray .int, 2) := by decide +kernel
theorem dX12_init_676 : decode cX12_init 676 = .ok (.putfield 254, 3) := by decide +kernel
theorem dX12_init_679 : decode cX12_init 679 = .ok (.aload_n 0, 1) := by decide +kernel
theorem dX12_init_680 : decode cX12_init 680 = .ok (.sipush 960, 3) := by decide +kernel
theorem dX12_init_683 : decode cX12_init 683 = .ok (.newarray .int, 2) := by decide +kernel
theorem dX12_init_685 : decode cX12_init 685 = .ok (.putfield 257, 3) := by decide +kernel
theorem dX12_init_688 : decode cX12_init 688 = .ok (.aload_n 0, 1) := by decide +kernel
theorem dX12_init_689 : decode cX12_init 689 = .ok (.sipush 1100, 3) := by decide +kernel
theorem dX12_init_692 : decode cX12_init 692 = .ok (.newarray .int, 2) := by decide +kernel
theorem dX12_init_694 : decode cX12_init 694 = .ok (.putfield 260, 3) := by decide +kernel
theorem dX12_init_697 : decode cX12_init 697 = .ok (.aload_n 0, 1) := by decide +kernel
theorem dX12_init_698 : decode cX12_init 698 = .ok (.bipush 60, 2) := by decide +kernel
theorem dX12_init_700 : decode cX12_init 700 = .ok (.newarray .boolean, 2) := by decide +kernel
theorem dX12_init_702 : decode cX12_init 702 = .ok (.putfield 263, 3) := by decide +kernel
theorem dX12_init_705 : decode cX12_init 705 = .ok (.aload_n 0, 1) := by decide +kernel
theorem dX12_init_706 : decode cX12_init 706 = .ok (.sipush 200, 3) := by decide +kernel
theorem dX12_init_709 : decode cX12_init 709 = .ok (.newarray .int, 2) := by decide +kernel
theorem dX12_init_711 : decode cX12_init 711 = .ok (.putfield 266, 3) := by decide +kernel
theorem dX12_init_714 : decode cX12_init 714 = .ok (.aload_n 0, 1) := by decide +kernel
theorem dX12_init_715 : decode cX12_init 715 = .ok (.sipush 200, 3) := by decide +kernel
theorem dX12_init_718 : decode cX12_init 718 = .ok (.newarray .int, 2) := by decide +kernel
theorem dX12_init_720 : decode cX12_init 720 = .ok (.putfield 269, 3) := by decide +kernel
theorem dX12_init_723 : decode cX12_init 723 = .ok (.aload_n 0, 1) := by decide +kernel
theorem dX12_init_724 : decode cX12_init 724 = .ok (.sipush 200, 3) := by decide +kernel
theorem dX12_init_727 : decode cX12_init 727 = .ok (.newarray .int, 2) := by decide +kernel
theorem dX12_init_729 : decode cX12_init 729 = .ok (.putfield 272, 3) := by decide +kernel
theorem dX12_init_732 : decode cX12_init 732 = .ok (.aload_n 0, 1) := by decide +kernel
theorem dX12_init_733 : decode cX12_init 733 = .ok (.sipush 4096, 3) := by decide +kernel
theorem dX12_init_736 : decode cX12_init 736 = .ok (.newarray .boolean, 2) := by decide +kernel
theorem dX12_init_738 : decode cX12_init 738 = .ok (.putfield 275, 3) := by decide +kernel
theorem dX12_init_741 : decode cX12_init 741 = .ok (.aload_n 0, 1) := by decide +kernel
theorem dX12_init_742 : decode cX12_init 742 = .ok (.bipush 16, 2) := by decide +kernel
theorem dX12_init_744 : decode cX12_init 744 = .ok (.newarray .int, 2) := by decide +kernel
theorem dX12_init_746 : decode cX12_init 746 = .ok (.putfield 278, 3) := by decide +kernel
theorem dX12_init_749 : decode cX12_init 749 = .ok (.aload_n 0, 1) := by decide +kernel
theorem dX12_init_750 : decode cX12_init 750 = .ok (.bipush 66, 2) := by decide +kernel
theorem dX12_init_752 : decode cX12_init 752 = .ok (.newarray .char, 2) := by decide +kernel
theorem dX12_init_754 : decode cX12_init 754 = .ok (.dup, 1) := by decide +kernel
theorem dX12_init_755 : decode cX12_init 755 = .ok (.iconst 0, 1) := by decide +kernel
theorem dX12_init_756 : decode cX12_init 756 = .ok (.bipush 107, 2) := by decide +kernel
theorem dX12_init_758 : decode cX12_init 758 = .ok (.castore, 1) := by decide +kernel
theorem dX12_init_759 : decode cX12_init 759 = .ok (.dup, 1) := by decide +kernel
theorem dX12_init_760 : decode cX12_init 760 = .ok (.iconst 1, 1) := by decide +kernel
theorem dX12_init_761 : decode cX12_init 761 = .ok (.bipush 105, 2) := by decide +kernel
theorem dX12_init_763 : decode cX12_init 763 = .ok (.castore, 1) := by decide +kernel
theorem dX12_init_764 : decode cX12_init 764 = .ok (.dup, 1) := by decide +kernel
theorem dX12_init_765 : decode cX12_init 765 = .ok (.iconst 2, 1) := by decide +kernel
theorem dX12_init_766 : decode cX12_init 766 = .ok (.bipush 110, 2) := by decide +kernel
theorem dX12_init_768 : decode cX12_init 768 = .ok (.castore, 1) := by decide +kernel
theorem dX12_init_769 : decode cX12_init 769 = .ok (.dup, 1) := by decide +kernel
theorem dX12_init_770 : decode cX12_init 770 = .ok (.iconst 3, 1) := by decide +kernel
theorem dX12_init_771 : decode cX12_init 771 = .ok (.bipush 100, 2) := by decide +kernel
theorem dX12_init_773 : decode cX12_init 773 = .ok (.castore, 1) := by decide +kernel
theorem dX12_init_774 : decode cX12_init 774 = .ok (.dup, 1) := by decide +kernel
theorem dX12_init_775 : decode cX12_init 775 = .ok (.iconst 4, 1) := by decide +kernel
theorem dX12_init_776 : decode cX12_init 776 = .ok (.bipush 32, 2) := by decide +kernel
theorem dX12_init_778 : decode cX12_init 778 = .ok (.castore, 1) := by decide +kernel
theorem dX12_init_779 : decode cX12_init 779 = .ok (.dup, 1) := by decide +kernel
theorem dX12_init_780 : decode cX12_init 780 = .ok (.iconst 5, 1) := by decide +kernel
theorem dX12_init_781 : decode cX12_init 781 = .ok (.bipush 115, 2) := by decide +kernel
theorem dX12_init_783 : decode cX12_init 783 = .ok (.castore, 1) := by decide +kernel
theorem dX12_init_784 : decode cX12_init 784 = .ok (.dup, 1) := by decide +kernel
theorem dX12_init_785 : decode cX12_init 785 = .ok (.bipush 6, 2) := by decide +kernel
theorem dX12_init_787 : decode cX12_init 787 = .ok (.bipush 105, 2) := by decide +kernel
theorem dX12_init_789 : decode cX12_init 789 = .ok (.castore, 1) := by decide +kernel
theorem dX12_init_790 : decode cX12_init 790 = .ok (.dup, 1) := by decide +kernel
theorem dX12_init_791 : decode cX12_init 791 = .ok (.bipush 7, 2) := by decide +kernel
theorem dX12_init_793 : decode cX12_init 793 = .ok (.bipush 122, 2) := by decide +kernel
theorem dX12_init_795 : decode cX12_init 795 = .ok (.castore, 1) := by decide +kernel
theorem dX12_init_796 : decode cX12_init 796 = .ok (.dup, 1) := by decide +kernel
theorem dX12_init_797 : decode cX12_init 797 = .ok (.bipush 8, 2) := by decide +kernel
theorem dX12_init_799 : decode cX12_init 799 = .ok (.bipush 101, 2) := by decide +kernel
theorem dX12_init_801 : decode cX12_init 801 = .ok (.castore, 1) := by decide +kernel
theorem dX12_init_802 : decode cX12_init 802 = .ok (.dup, 1) := by decide +kernel
theorem dX12_init_803 : decode cX12_init 803 = .ok (.bipush 9, 2) := by decide +kernel
theorem dX12_init_805 : decode cX12_init 805 = .ok (.bipush 32, 2) := by decide +kernel
theorem dX12_init_807 : decode cX12_init 807 = .ok (.castore, 1) := by decide +kernel
theorem dX12_init_808 : decode cX12_init 808 = .ok (.dup, 1) := by decide +kernel
theorem dX12_init_809 : decode cX12_init 809 = .ok (.bipush 10, 2) := by decide +kernel
theorem dX12_init_811 : decode cX12_init 811 = .ok (.bipush 109, 2) := by decide +kernel
theorem dX12_init_813 : decode cX12_init 813 = .ok (.castore, 1) := by decide +kernel
theorem dX12_init_814 : decode cX12_init 814 = .ok (.dup, 1) := by decide +kernel
theorem dX12_init_815 : decode cX12_init 815 = .ok (.bipush 11, 2) := by decide +kernel
theorem dX12_init_817 : decode cX12_init 817 = .ok (.bipush 97, 2) := by decide +kernel
theorem dX12_init_819 : decode cX12_init 819 = .ok (.castore, 1) := by decide +kernel
theorem dX12_init_820 : decode cX12_init 820 = .ok (.dup, 1) := by decide +kernel
theorem dX12_init_821 : decode cX12_init 821 = .ok (.bipush 12, 2) := by decide +kernel
theorem dX12_init_823 : decode cX12_init 823 = .ok (.bipush 100, 2) := by decide +kernel
theorem dX12_init_825 : decode cX12_init 825 = .ok (.castore, 1) := by decide +kernel
theorem dX12_init_826 : decode cX12_init 826 = .ok (.dup, 1) := by decide +kernel
theorem dX12_init_827 : decode cX12_init 827 = .ok (.bipush 13, 2) := by decide +kernel
theorem dX12_init_829 : decode cX12_init 829 = .ok (.bipush 101, 2) := by decide +kernel
theorem dX12_init_831 : decode cX12_init 831 = .ok (.castore, 1) := by decide +kernel
theorem dX12_init_832 : decode cX12_init 832 = .ok (.dup, 1) := by decide +kernel
theorem dX12_init_833 : decode cX12_init 833 = .ok (.bipush 14, 2) := by decide +kernel
theorem dX12_init_835 : decode cX12_init 835 = .ok (.bipush 32, 2) := by decide +kernel
theorem dX12_init_837 : decode cX12_init 837 = .ok (.castore, 1) := by decide +kernel
theorem dX12_init_838 : decode cX12_init 838 = .ok (.dup, 1) := by decide +kernel
theorem dX12_init_839 : decode cX12_init 839 = .ok (.bipush 15, 2) := by decide +kernel
theorem dX12_init_841 : decode cX12_init 841 = .ok (.bipush 97, 2) := by decide +kernel
theorem dX12_init_843 : decode cX12_init 843 = .ok (.castore, 1) := by decide +kernel
theorem dX12_init_844 : decode cX12_init 844 = .ok (.dup, 1) := by decide +kernel
theorem dX12_init_845 : decode cX12_init 845 = .ok (.bipush 16, 2) := by decide +kernel
theorem dX12_init_847 : decode cX12_init 847 = .ok (.bipush 108, 2) := by decide +kernel
theorem dX12_init_849 : decode cX12_init 849 = .ok (.castore, 1) := by decide +kernel
theorem dX12_init_850 : decode cX12_init 850 = .ok (.dup, 1) := by decide +kernel
theorem dX12_init_851 : decode cX12_init 851 = .ok (.bipush 17, 2) := by decide +kernel
theorem dX12_init_853 : decode cX12_init 853 = .ok (.bipush 116, 2) := by decide +kernel
theorem dX12_init_855 : decode cX12_init 855 = .ok (.castore, 1) := by decide +kernel
theorem dX12_init_856 : decode cX12_init 856 = .ok (.dup, 1) := by decide +kernel
theorem dX12_init_857 : decode cX12_init 857 = .ok (.bipush 18, 2) := by decide +kernel
theorem dX12_init_859 : decode cX12_init 859 = .ok (.bipush 101, 2) := by decide +kernel
theorem dX12_init_861 : decode cX12_init 861 = .ok (.castore, 1) := by decide +kernel
theorem dX12_init_862 : decode cX12_init 862 = .ok (.dup, 1) := by decide +kernel
theorem dX12_init_863 : decode cX12_init 863 = .ok (.bipush 19, 2) := by decide +kernel
theorem dX12_init_865 : decode cX12_init 865 = .ok (.bipush 114, 2) := by decide +kernel
theorem dX12_init_867 : decode cX12_init 867 = .ok (.castore, 1) := by decide +kernel
theorem dX12_init_868 : decode cX12_init 868 = .ok (.dup, 1) := by decide +kernel
theorem dX12_init_869 : decode cX12_init 869 = .ok (.bipush 20, 2) := by decide +kernel
theorem dX12_init_871 : decode cX12_init 871 = .ok (.bipush 101, 2) := by decide +kernel
theorem dX12_init_873 : decode cX12_init 873 = .ok (.castore, 1) := by decide +kernel
theorem dX12_init_874 : decode cX12_init 874 = .ok (.dup, 1) := by decide +kernel
theorem dX12_init_875 : decode cX12_init 875 = .ok (.bipush 21, 2) := by decide +kernel
theorem dX12_init_877 : decode cX12_init 877 = .ok (.bipush 100, 2) := by decide +kernel
theorem dX12_init_879 : decode cX12_init 879 = .ok (.castore, 1) := by decide +kernel
theorem dX12_init_880 : decode cX12_init 880 = .ok (.dup, 1) := by decide +kernel
theorem dX12_init_881 : decode cX12_init 881 = .ok (.bipush 22, 2) := by decide +kernel
theorem dX12_init_883 : decode cX12_init 883 = .ok (.bipush 32, 2) := by decide +kernel
theorem dX12_init_885 : decode cX12_init 885 = .ok (.castore, 1) := by decide +kernel
theorem dX12_init_886 : decode cX12_init 886 = .ok (.dup, 1) := by decide +kernel
theorem dX12_init_887 : decode cX12_init 887 = .ok (.bipush 23, 2) := by decide +kernel
theorem dX12_init_889 : decode cX12_init 889 = .ok (.bipush 101, 2) := by decide +kernel
theorem dX12_init_891 : decode cX12_init 891 = .ok (.castore, 1) := by decide +kernel
theorem dX12_init_892 : decode cX12_init 892 = .ok (.dup, 1) := by decide +kernel
theorem dX12_init_893 : decode cX12_init 893 = .ok (.bipush 24, 2) := by decide +kernel
theorem dX12_init_895 : decode cX12_init 895 = .ok (.bipush 114, 2) := by decide +kernel
theorem dX12_init_897 : decode cX12_init 897 = .ok (.castore, 1) := by decide +kernel
theorem dX12_init_898 : decode cX12_init 898 = .ok (.dup, 1) := by decide +kernel
theorem dX12_init_899 : decode cX12_init 899 = .ok (.bipush 25, 2) := by decide +kernel
theorem dX12_init_901 : decode cX12_init 901 = .ok (.bipush 97, 2) := by decide +kernel
theorem dX12_init_903 : decode cX12_init 903 = .ok (.castore, 1) := by decide +kernel
theorem dX12_init_904 : decode cX12_init 904 = .ok (.dup, 1) := by decide +kernel
theorem dX12_init_905 : decode cX12_init 905 = .ok (.bipush 26, 2) := by decide +kernel
theorem dX12_init_907 : decode cX12_init 907 = .ok (.bipush 115, 2) := by decide +kernel
theorem dX12_init_909 : decode cX12_init 909 = .ok (.castore, 1) := by decide +kernel
theorem dX12_init_910 : decode cX12_init 910 = .ok (.dup, 1) := by decide +kernel
theorem dX12_init_911 : decode cX12_init 911 = .ok (.bipush 27, 2) := by decide +kernel
theorem dX12_init_913 : decode cX12_init 913 = .ok (.bipush 101, 2) := by decide +kernel
theorem dX12_init_915 : decode cX12_init 915 = .ok (.castore, 1) := by decide +kernel
theorem dX12_init_916 : decode cX12_init 916 = .ok (.dup, 1) := by decide +kernel
theorem dX12_init_917 : decode cX12_init 917 = .ok (.bipush 28, 2) := by decide +kernel
theorem dX12_init_919 : decode cX12_init 919 = .ok (.bipush 100, 2) := by decide +kernel
theorem dX12_init_921 : decode cX12_init 921 = .ok (.castore, 1) := by decide +kernel
theorem dX12_init_922 : decode cX12_init 922 = .ok (.dup, 1) := by decide +kernel
theorem dX12_init_923 : decode cX12_init 923 = .ok (.bipush 29, 2) := by decide +kernel
theorem dX12_init_925 : decode cX12_init 925 = .ok (.bipush 32, 2) := by decide +kernel
theorem dX12_init_927 : decode cX12_init 927 = .ok (.castore, 1) := by decide +kernel
theorem dX12_init_928 : decode cX12_init 928 = .ok (.dup, 1) := by decide +kernel
theorem dX12_init_929 : decode cX12_init 929 = .ok (.bipush 30, 2) := by decide +kernel
theorem dX12_init_931 : decode cX12_init 931 = .ok (.bipush 103, 2) := by decide +kernel
theorem dX12_init_933 : decode cX12_init 933 = .ok (.castore, 1) := by decide +kernel
theorem dX12_init_934 : decode cX12_init 934 = .ok (.dup, 1) := by decide +kernel
theorem dX12_init_935 : decode cX12_init 935 = .ok (.bipush 31, 2) := by decide +kernel
theorem dX12_init_937 : decode cX12_init 937 = .ok (.bipush 114, 2) := by decide +kernel
theorem dX12_init_939 : decode cX12_init 939 = .ok (.castore, 1) := by decide +kernel
theorem dX12_init_940 : decode cX12_init 940 = .ok (.dup, 1) := by decide +kernel
theorem dX12_init_941 : decode cX12_init 941 = .ok (.bipush 32, 2) := by decide +kernel
theorem dX12_init_943 : decode cX12_init 943 = .ok (.bipush 97, 2) := by decide +kernel
theorem dX12_init_945 : decode cX12_init 945 = .ok (.castore, 1) := by decide +kernel
theorem dX12_init_946 : decode cX12_init 946 = .ok (.dup, 1) := by decide +kernel
theorem dX12_init_947 : decode cX12_init 947 = .ok (.bipush 33, 2) := by decide +kernel
theorem dX12_init_949 : decode cX12_init 949 = .ok (.bipush 100, 2) := by decide +kernel
theorem dX12_init_951 : decode cX12_init 951 = .ok (.castore, 1) := by decide +kernel
theorem dX12_init_952 : decode cX12_init 952 = .ok (.dup, 1) := by decide +kernel
theorem dX12_init_953 : decode cX12_init 953 = .ok (.bipush 34, 2) := by decide +kernel
theorem dX12_init_955 : decode cX12_init 955 = .ok (.bipush 101, 2) := by decide +kernel
theorem dX12_init_957 : decode cX12_init 957 = .ok (.castore, 1) := by decide +kernel
theorem dX12_init_958 : decode cX12_init 958 = .ok (.dup, 1) := by decide +kernel
theorem dX12_init_959 : decode cX12_init 959 = .ok (.bipush 35, 2) := by decide +kernel
theorem dX12_init_961 : decode cX12_init 961 = .ok (.bipush 32, 2) := by decide +kernel
theorem dX12_init_963 : decode cX12_init 963 = .ok (.castore, 1) := by decide +kernel
theorem dX12_init_964 : decode cX12_init 964 = .ok (.dup, 1) := by decide +kernel
theorem dX12_init_965 : decode cX12_init 965 = .ok (.bipush 36, 2) := by decide +kernel
theorem dX12_init_967 : decode cX12_init 967 = .ok (.bipush 98, 2) := by decide +kernel
theorem dX12_init_969 : decode cX12_init 969 = .ok (.castore, 1) := by decide +kernel
theorem dX12_init_970 : decode cX12_init 970 = .ok (.dup, 1) := by decide +kernel
theorem dX12_init_971 : decode cX12_init 971 = .ok (.bipush 37, 2) := by decide +kernel
theorem dX12_init_973 : decode cX12_init 973 = .ok (.bipush 108, 2) := by decide +kernel
theorem dX12_init_975 : decode cX12_init 975 = .ok (.castore, 1) := by decide +kernel
theorem dX12_init_976 : decode cX12_init 976 = .ok (.dup, 1) := by decide +kernel
theorem dX12_init_977 : decode cX12_init 977 = .ok (.bipush 38, 2) := by decide +kernel
theorem dX12_init_979 : decode cX12_init 979 = .ok (.bipush 111, 2) := by decide +kernel
theorem dX12_init_981 : decode cX12_init 981 = .ok (.castore, 1) := by decide +kernel
theorem dX12_init_982 : decode cX12_init 982 = .ok (.dup, 1) := by decide +kernel
theorem dX12_init_983 : decode cX12_init 983 = .ok (.bipush 39, 2) := by decide +kernel
theorem dX12_init_985 : decode cX12_init 985 = .ok (.bipush 99, 2) := by decide +kernel
theorem dX12_init_987 : decode cX12_init 987 = .ok (.castore, 1) := by decide +kernel
theorem dX12_init_988 : decode cX12_init 988 = .ok (.dup, 1) := by decide +kernel
theorem dX12_init_989 : decode cX12_init 989 = .ok (.bipush 40, 2) := by decide +kernel
theorem dX12_init_991 : decode cX12_init 991 = .ok (.bipush 107, 2) := by decide +kernel
theorem dX12_init_993 : decode cX12_init 993 = .ok (.castore, 1) := by decide +kernel
theorem dX12_init_994 : decode cX12_init 994 = .ok (.dup, 1) := by decide +kernel
theorem dX12_init_995 : decode cX12_init 995 = .ok (.bipush 41, 2) := by decide +kernel
theorem dX12_init_997 : decode cX12_init 997 = .ok (.bipush 32, 2) := by decide +kernel
theorem dX12_init_999 : decode cX12_init 999 = .ok (.castore, 1) := by decide +kernel
theorem dX12_init_1000 : decode cX12_init 1000 = .ok (.dup, 1) := by decide +kernel
theorem dX12_init_1001 : decode cX12_init 1001 = .ok (.bipush 42, 2) := by decide +kernel
theorem dX12_init_1003 : decode cX12_init 1003 = .ok (.bipush 112, 2) := by decide +kernel
theorem dX12_init_1005 : decode cX12_init 1005 = .ok (.castore, 1) := by decide +kernel
theorem dX12_init_1006 : decode cX12_init 1006 = .ok (.dup, 1) := by decide +kernel
theorem dX12_init_1007 : decode cX12_init 1007 = .ok (.bipush 43, 2) := by decide +kernel
theorem dX12_init_1009 : decode cX12_init 1009 = .ok (.bipush 97, 2) := by decide +kernel
theorem dX12_init_1011 : decode cX12_init 1011 = .ok (.castore, 1) := by decide +kernel
theorem dX12_init_1012 : decode cX12_init 1012 = .ok (.dup, 1) := by decide +kernel
theorem dX12_init_1013 : decode cX12_init 1013 = .ok (.bipush 44, 2) := by decide +kernel
theorem dX12_init_1015 : decode cX12_init 1015 = .ok (.bipush 114, 2) := by decide +kernel
theorem dX12_init_1017 : decode cX12_init 1017 = .ok (.castore, 1) := by decide +kernel
theorem dX12_init_1018 : decode cX12_init 1018 = .ok (.dup, 1) := by decide +kernel
theorem dX12_init_1019 : decode cX12_init 1019 = .ok (.bipush 45, 2) := by decide +kernel
theorem dX12_init_1021 : decode cX12_init 1021 = .ok (.bipush 116, 2) := by decide +kernel
theorem dX12_init_1023 : decode cX12_init 1023 = .ok (.castore, 1) := by decide +kernel
theorem dX12_init_1024 : decode cX12_init 1024 = .ok (.dup, 1) := by decide +kernel
theorem dX12_init_1025 : decode cX12_init 1025 = .ok (.bipush 46, 2) := by decide +kernel
theorem dX12_init_1027 : decode cX12_init 1027 = .ok (.bipush 115, 2) := by decide +kernel
theorem dX12_init_1029 : decode cX12_init 1029 = .ok (.castore, 1) := by decide +kernel
theorem dX12_init_1030 : decode cX12_init 1030 = .ok (.dup, 1) := by decide +kernel
theorem dX12_init_1031 : decode cX12_init 1031 = .ok (.bipush 47, 2) := by decide +kernel
theorem dX12_init_1033 : decode cX12_init 1033 = .ok (.bipush 32, 2) := by decide +kernel
theorem dX12_init_1035 : decode cX12_init 1035 = .ok (.castore, 1) := by decide +kernel
theorem dX12_init_1036 : decode cX12_init 1036 = .ok (.dup, 1) := by decide +kernel
theorem dX12_init_1037 : decode cX12_init 1037 = .ok (.bipush 48, 2) := by decide +kernel
theorem dX12_init_1039 : decode cX12_init 1039 = .ok (.bipush 102, 2) := by decide +kernel
theorem dX12_init_1041 : decode cX12_init 1041 = .ok (.castore, 1) := by decide +kernel
theorem dX12_init_1042 : decode cX12_init 1042 = .ok (.dup, 1) := by decide +kernel
theorem dX12_init_1043 : decode cX12_init 1043 = .ok (.bipush 49, 2) := by decide +kernel
theorem dX12_init_1045 : decode cX12_init 1045 = .ok (.bipush 97, 2) := by decide +kernel
theorem dX12_init_1047 : decode cX12_init 1047 = .ok (.castore, 1) := by decide +kernel
theorem dX12_init_1048 : decode cX12_init 1048 = .ok (.dup, 1) := by decide +kernel
theorem dX12_init_1049 : decode cX12_init 1049 = .ok (.bipush 50, 2) := by decide +kernel
theorem dX12_init_1051 : decode cX12_init 1051 = .ok (.bipush 117, 2) := by decide +kernel
theorem dX12_init_1053 : decode cX12_init 1053 = .ok (.castore, 1) := by decide +kernel
theorem dX12_init_1054 : decode cX12_init 1054 = .ok (.dup, 1) := by decide +kernel
theorem dX12_init_1055 : decode cX12_init 1055 = .ok (.bipush 51, 2) := by decide +kernel
theorem dX12_init_1057 : decode cX12_init 1057 = .ok (.bipush 108, 2) := by decide +kernel
theorem dX12_init_1059 : decode cX12_init 1059 = .ok (.castore, 1) := by decide +kernel
theorem dX12_init_1060 : decode cX12_init 1060 = .ok (.dup, 1) := by decide +kernel
theorem dX12_init_1061 : decode cX12_init 1061 = .ok (.bipush 52, 2) := by decide +kernel
theorem dX12_init_1063 : decode cX12_init 1063 = .ok (.bipush 116, 2) := by decide +kernel
theorem dX12_init_1065 : decode cX12_init 1065 = .ok (.castore, 1) := by decide +kernel
theorem dX12_init_1066 : decode cX12_init 1066 = .ok (.dup, 1) := by decide +kernel
theorem dX12_init_1067 : decode cX12_init 1067 = .ok (.bipush 53, 2) := by decide +kernel
theorem dX12_init_1069 : decode cX12_init 1069 = .ok (.bipush 115, 2) := by decide +kernel
theorem dX12_init_1071 : decode cX12_init 1071 = .ok (.castore, 1) := by decide +kernel
theorem dX12_init_1072 : decode cX12_init 1072 = .ok (.dup, 1) := by decide +kernel
theorem dX12_init_1073 : decode cX12_init 1073 = .ok (.bipush 54, 2) := by decide +kernel
theorem dX12_init_1075 : decode cX12_init 1075 = .ok (.bipush 32, 2) := by decide +kernel
theorem dX12_init_1077 : decode cX12_init 1077 = .ok (.castore, 1) := by decide +kernel
theorem dX12_init_1078 : decode cX12_init 1078 = .ok (.dup, 1) := by decide +kernel
theorem dX12_init_1079 : decode cX12_init 1079 = .ok (.bipush 55, 2) := by decide +kernel
theorem dX12_init_1081 : decode cX12_init 1081 = .ok (.bipush 100, 2) := by decide +kernel
theorem dX12_init_1083 : decode cX12_init 1083 = .ok (.castore, 1) := by decide +kernel
theorem dX12_init_1084 : decode cX12_init 1084 = .ok (.dup, 1) := by decide +kernel
theorem dX12_init_1085 : decode cX12_init 1085 = .ok (.bipush 56, 2) := by decide +kernel
theorem dX12_init_1087 : decode cX12_init 1087 = .ok (.bipush 101, 2) := by decide +kernel
theorem dX12_init_1089 : decode cX12_init 1089 = .ok (.castore, 1) := by decide +kernel
theorem dX12_init_1090 : decode cX12_init 1090 = .ok (.dup, 1) := by decide +kernel
theorem dX12_init_1091 : decode cX12_init 1091 = .ok (.bipush 57, 2) := by decide +kernel
theorem dX12_init_1093 : decode cX12_init 1093 = .ok (.bipush 112, 2) := by decide +kernel
theorem dX12_init_1095 : decode cX12_init 1095 = .ok (.castore, 1) := by decide +kernel
theorem dX12_init_1096 : decode cX12_init 1096 = .ok (.dup, 1) := by decide +kernel
theorem dX12_init_1097 : decode cX12_init 1097 = .ok (.bipush 58, 2) := by decide +kernel
theorem dX12_init_1099 : decode cX12_init 1099 = .ok (.bipush 116, 2) := by decide +kernel
theorem dX12_init_1101 : decode cX12_init 1101 = .ok (.castore, 1) := by decide +kernel
theorem dX12_init_1102 : decode cX12_init 1102 = .ok (.dup, 1) := by decide +kernel
theorem dX12_init_1103 : decode cX12_init 1103 = .ok (.bipush 59, 2) := by decide +kernel
theorem dX12_init_1105 : decode cX12_init 1105 = .ok (.bipush 104, 2) := by decide +kernel
theorem dX12_init_1107 : decode cX12_init 1107 = .ok (.castore, 1) := by decide +kernel
theorem dX12_init_1108 : decode cX12_init 1108 = .ok (.dup, 1) := by decide +kernel
theorem dX12_init_1109 : decode cX12_init 1109 = .ok (.bipush 60, 2) := by decide +kernel
theorem dX12_init_1111 : decode cX12_init 1111 = .ok (.bipush 32, 2) := by decide +kernel
theorem dX12_init_1113 : decode cX12_init 1113 = .ok (.castore, 1) := by decide +kernel
theorem dX12_init_1114 : decode cX12_init 1114 = .ok (.dup, 1) := by decide +kernel
theorem dX12_init_1115 : decode cX12_init 1115 = .ok (.bipush 61, 2) := by decide +kernel
theorem dX12_init_1117 : decode cX12_init 1117 = .ok (.bipush 110, 2) := by decide +kernel
theorem dX12_init_1119 : decode cX12_init 1119 = .ok (.castore, 1) := by decide +kernel
theorem dX12_init_1120 : decode cX12_init 1120 = .ok (.dup, 1) := by decide +kernel
theorem dX12_init_1121 : decode cX12_init 1121 = .ok (.bipush 62, 2) := by decide +kernel
theorem dX12_init_1123 : decode cX12_init 1123 = .ok (.bipush 97, 2) := by decide +kernel
theorem dX12_init_1125 : decode cX12_init 1125 = .ok (.castore, 1) := by decide +kernel
theorem dX12_init_1126 : decode cX12_init 1126 = .ok (.dup, 1) := by decide +kernel
theorem dX12_init_1127 : decode cX12_init 1127 = .ok (.bipush 63, 2) := by decide +kernel
theorem dX12_init_1129 : decode cX12_init 1129 = .ok (.bipush 109, 2) := by decide +kernel
theorem dX12_init_1131 : decode cX12_init 1131 = .ok (.castore, 1) := by decide +kernel
theorem dX12_init_1132 : decode cX12_init 1132 = .ok (.dup, 1) := by decide +kernel
theorem dX12_init_1133 : decode cX12_init 1133 = .ok (.bipush 64, 2) := by decide +kernel
theorem dX12_init_1135 : decode cX12_init 1135 = .ok (.bipush 101, 2) := by decide +kernel
theorem dX12_init_1137 : decode cX12_init 1137 = .ok (.castore, 1) := by decide +kernel
theorem dX12_init_1138 : decode cX12_init 1138 = .ok (.dup, 1) := by decide +kernel
theorem dX12_init_1139 : decode cX12_init 1139 = .ok (.bipush 65, 2) := by decide +kernel
theorem dX12_init_1141 : decode cX12_init 1141 = .ok (.bipush 32, 2) := by decide +kernel
theorem dX12_init_1143 : decode cX12_init 1143 = .ok (.castore, 1) := by decide +kernel
theorem dX12_init_1144 : decode cX12_init 1144 = .ok (.putfield 281, 3) := by decide +kernel
theorem dX12_init_1147 : decode cX12_init 1147 = .ok (.aload_n 0, 1) := by decide +kernel
theorem dX12_init_1148 : decode cX12_init 1148 = .ok (.bipush 11, 2) := by decide +kernel
theorem dX12_init_1150 : decode cX12_init 1150 = .ok (.newarray .int, 2) := by decide +kernel
theorem dX12_init_1152 : decode cX12_init 1152 = .ok (.dup, 1) := by decide +kernel
theorem dX12_init_1153 : decode cX12_init 1153 = .ok (.iconst 0, 1) := by decide +kernel
theorem dX12_init_1154 : decode cX12_init 1154 = .ok (.iconst 0, 1) := by decide +kernel
theorem dX12_init_1155 : decode cX12_init 1155 = .ok (.iastore, 1) := by decide +kernel
theorem dX12_init_1156 : decode cX12_init 1156 = .ok (.dup, 1) := by decide +kernel
theorem dX12_init_1157 : decode cX12_init 1157 = .ok (.iconst 1, 1) := by decide +kernel
theorem dX12_init_1158 : decode cX12_init 1158 = .ok (.iconst 5, 1) := by decide +kernel
theorem dX12_init_1159 : decode cX12_init 1159 = .ok (.iastore, 1) := by decide +kernel
theorem dX12_init_1160 : decode cX12_init 1160 = .ok (.dup, 1) := by decide +kernel
theorem dX12_init_1161 : decode cX12_init 1161 = .ok (.iconst 2, 1) := by decide +kernel
theorem dX12_init_1162 : decode cX12_init 1162 = .ok (.bipush 10, 2) := by decide +kernel
theorem dX12_init_1164 : decode cX12_init 1164 = .ok (.iastore, 1) := by decide +kernel
theorem dX12_init_1165 : decode cX12_init 1165 = .ok (.dup, 1) := by decide +kernel
theorem dX12_init_1166 : decode cX12_init 1166 = .ok (.iconst 3, 1) := by decide +kernel
theorem dX12_init_1167 : decode cX12_init 1167 = .ok (.bipush 15, 2) := by decide +kernel
theorem dX12_init_1169 : decode cX12_init 1169 = .ok (.iastore, 1) := by decide +kernel
theorem dX12_init_1170 : decode cX12_init 1170 = .ok (.dup, 1) := by decide +kernel
theorem dX12_init_1171 : decode cX12_init 1171 = .ok (.iconst 4, 1) := by decide +kernel
theorem dX12_init_1172 : decode cX12_init 1172 = .ok (.bipush 23, 2) := by decide +kernel
theorem dX12_init_1174 : decode cX12_init 1174 = .ok (.iastore, 1) := by decide +kernel
theorem dX12_init_1175 : decode cX12_init 1175 = .ok (.dup, 1) := by decide +kernel
theorem dX12_init_1176 : decode cX12_init 1176 = .ok (.iconst 5, 1) := by decide +kernel
theorem dX12_init_1177 : decode cX12_init 1177 = .ok (.bipush 30, 2) := by decide +kernel
theorem dX12_init_1179 : decode cX12_init 1179 = .ok (.iastore, 1) := by decide +kernel
theorem dX12_init_1180 : decode cX12_init 1180 = .ok (.dup, 1) := by decide +kernel
theorem dX12_init_1181 : decode cX12_init 1181 = .ok (.bipush 6, 2) := by decide +kernel
theorem dX12_init_1183 : decode cX12_init 1183 = .ok (.bipush 36, 2) := by decide +kernel
theorem dX12_init_1185 : decode cX12_init 1185 = .ok (.iastore, 1) := by decide +kernel
theorem dX12_init_1186 : decode cX12_init 1186 = .ok (.dup, 1) := by decide +kernel
theorem dX12_init_1187 : decode cX12_init 1187 = .ok (.bipush 7, 2) := by decide +kernel
theorem dX12_init_1189 : decode cX12_init 1189 = .ok (.bipush 42, 2) := by decide +kernel
theorem dX12_init_1191 : decode cX12_init 1191 = .ok (.iastore, 1) := by decide +kernel
theorem dX12_init_1192 : decode cX12_init 1192 = .ok (.dup, 1) := by decide +kernel
theorem dX12_init_1193 : decode cX12_init 1193 = .ok (.bipush 8, 2) := by decide +kernel
theorem dX12_init_1195 : decode cX12_init 1195 = .ok (.bipush 48, 2) := by decide +kernel
theorem dX12_init_1197 : decode cX12_init 1197 = .ok (.iastore, 1) := by decide +kernel
theorem dX12_init_1198 : decode cX12_init 1198 = .ok (.dup, 1) := by decide +kernel
theorem dX12_init_1199 : decode cX12_init 1199 = .ok (.bipush 9, 2) := by decide +kernel
theorem dX12_init_1201 : decode cX12_init 1201 = .ok (.bipush 55, 2) := by decide +kernel
theorem dX12_init_1203 : decode cX12_init 1203 = .ok (.iastore, 1) := by decide +kernel
theorem dX12_init_1204 : decode cX12_init 1204 = .ok (.dup, 1) := by decide +kernel
theorem dX12_init_1205 : decode cX12_init 1205 = .ok (.bipush 10, 2) := by decide +kernel
theorem dX12_init_1207 : decode cX12_init 1207 = .ok (.bipush 61, 2) := by decide +kernel
theorem dX12_init_1209 : decode cX12_init 1209 = .ok (.iastore, 1) := by decide +kernel
theorem dX12_init_1210 : decode cX12_init 1210 = .ok (.putfield 285, 3) := by decide +kernel
theorem dX12_init_1213 : decode cX12_init 1213 = .ok (.aload_n 0, 1) := by decide +kernel
theorem dX12_init_1214 : decode cX12_init 1214 = .ok (.iconst 4, 1) := by decide +kernel
theorem dX12_init_1215 : decode cX12_init 1215 = .ok (.newarray .char, 2) := by decide +kernel
theorem dX12_init_1217 : decode cX12_init 1217 = .ok (.dup, 1) := by decide +kernel
theorem dX12_init_1218 : decode cX12_init 1218 = .ok (.iconst 0, 1) := by decide +kernel
theorem dX12_init_1219 : decode cX12_init 1219 = .ok (.bipush 115, 2) := by decide +kernel
theorem dX12_init_1221 : decode cX12_init 1221 = .ok (.castore, 1) := by decide +kernel
theorem dX12_init_1222 : decode cX12_init 1222 = .ok (.dup, 1) := by decide +kernel
theorem dX12_init_1223 : decode cX12_init 1223 = .ok (.iconst 1, 1) := by decide +kernel
theorem dX12_init_1224 : decode cX12_init 1224 = .ok (.bipush 111, 2) := by decide +kernel
theorem dX12_init_1226 : decode cX12_init 1226 = .ok (.castore, 1) := by decide +kernel
theorem dX12_init_1227 : decode cX12_init 1227 = .ok (.dup, 1) := by decide +kernel
theorem dX12_init_1228 : decode cX12_init 1228 = .ok (.iconst 2, 1) := by decide +kernel
theorem dX12_init_1229 : decode cX12_init 1229 = .ok (.bipush 114, 2) := by decide +kernel
theorem dX12_init_1231 : decode cX12_init 1231 = .ok (.castore, 1) := by decide +kernel
theorem dX12_init_1232 : decode cX12_init 1232 = .ok (.dup, 1) := by decide +kernel
theorem dX12_init_1233 : decode cX12_init 1233 = .ok (.iconst 3, 1) := by decide +kernel
theorem dX12_init_1234 : decode cX12_init 1234 = .ok (.bipush 116, 2) := by decide +kernel
theorem dX12_init_1236 : decode cX12_init 1236 = .ok (.castore, 1) := by decide +kernel
theorem dX12_init_1237 : decode cX12_init 1237 = .ok (.putfield 288, 3) := by decide +kernel
theorem dX12_init_1240 : decode cX12_init 1240 = .ok (.aload_n 0, 1) := by decide +kernel
theorem dX12_init_1241 : decode cX12_init 1241 = .ok (.sipush 4096, 3) := by decide +kernel
theorem dX12_init_1244 : decode cX12_init 1244 = .ok (.newarray .int, 2) := by decide +kernel
theorem dX12_init_1246 : decode cX12_init 1246 = .ok (.putfield 291, 3) := by decide +kernel
theorem dX12_init_1249 : decode cX12_init 1249 = .ok (.aload_n 0, 1) := by decide +kernel
theorem dX12_init_1250 : decode cX12_init 1250 = .ok (.sipush 4096, 3) := by decide +kernel
theorem dX12_init_1253 : decode cX12_init 1253 = .ok (.newarray .int, 2) := by decide +kernel
theorem dX12_init_1255 : decode cX12_init 1255 = .ok (.putfield 294, 3) := by decide +kernel
theorem dX12_init_1258 : decode cX12_init 1258 = .ok (.aload_n 0, 1) := by decide +kernel
theorem dX12_init_1259 : decode cX12_init 1259 = .ok (.sipush 2048, 3) := by decide +kernel
theorem dX12_init_1262 : decode cX12_init 1262 = .ok (.newarray .int, 2) := by decide +kernel
theorem dX12_init_1264 : decode cX12_init 1264 = .ok (.putfield 297, 3) := by decide +kernel
theorem dX12_init_1267 : decode cX12_init 1267 = .ok (.aload_n 0, 1) := by decide +kernel
theorem dX12_init_1268 : decode cX12_init 1268 = .ok (.sipush 2048, 3) := by decide +kernel
theorem dX12_init_1271 : decode cX12_init 1271 = .ok (.newarray .int, 2) := by decide +kernel
theorem dX12_init_1273 : decode cX12_init 1273 = .ok (.putfield 300, 3) := by decide +kernel
theorem dX12_init_1276 : decode cX12_init 1276 = .ok (.aload_n 0, 1) := by decide +kernel
theorem dX12_init_1277 : decode cX12_init 1277 = .ok (.sipush 2048, 3) := by decide +kernel
theorem dX12_init_1280 : decode cX12_init 1280 = .ok (.newarray .int, 2) := by decide +kernel
theorem dX12_init_1282 : decode cX12_init 1282 = .ok (.putfield 303, 3) := by decide +kernel
theorem dX12_init_1285 : decode cX12_init 1285 = .ok (.aload_n 0, 1) := by decide +kernel
theorem dX12_init_1286 : decode cX12_init 1286 = .ok (.sipush 2048, 3) := by decide +kernel
theorem dX12_init_1289 : decode cX12_init 1289 = .ok (.newarray .int, 2) := by decide +kernel
theorem dX12_init_1291 : decode cX12_init 1291 = .ok (.putfield 306, 3) := by decide +kernel
theorem dX12_init_1294 : decode cX12_init 1294 = .ok (.aload_n 0, 1) := by decide +kernel
theorem dX12_init_1295 : decode cX12_init 1295 = .ok (.sipush 2048, 3) := by decide +kernel
theorem dX12_init_1298 : decode cX12_init 1298 = .ok (.newarray .boolean, 2) := by decide +kernel
theorem dX12_init_1300 : decode cX12_init 1300 = .ok (.putfield 309, 3) := by decide +kernel
theorem dX12_init_1303 : decode cX12_init 1303 = .ok (.aload_n 0, 1) := by decide +kernel
theorem dX12_init_1304 : decode cX12_init 1304 = .ok (.sipush 150, 3) := by decide +kernel
theorem dX12_init_1307 : decode cX12_init 1307 = .ok (.newarray .int, 2) := by decide +kernel
theorem dX12_init_1309 : decode cX12_init 1309 = .ok (.putfield 312, 3) := by decide +kernel
theorem dX12_init_1312 : decode cX12_init 1312 = .ok (.aload_n 0, 1) := by decide +kernel
theorem dX12_init_1313 : decode cX12_init 1313 = .ok (.sipush 4000, 3) := by decide +kernel
theorem dX12_init_1316 : decode cX12_init 1316 = .ok (.newarray .long, 2) := by decide +kernel
theorem dX12_init_1318 : decode cX12_init 1318 = .ok (.putfield 315, 3) := by decide +kernel
theorem dX12_init_1321 : decode cX12_init 1321 = .ok (.aload_n 0, 1) := by decide +kernel
theorem dX12_init_1322 : decode cX12_init 1322 = .ok (.sipush 4000, 3) := by decide +kernel
theorem dX12_init_1325 : decode cX12_init 1325 = .ok (.newarray .int, 2) := by decide +kernel
theorem dX12_init_1327 : decode cX12_init 1327 = .ok (.putfield 318, 3) := by decide +kernel
theorem dX12_init_1330 : decode cX12_init 1330 = .ok (.aload_n 0, 1) := by decide +kernel
theorem dX12_init_1331 : decode cX12_init 1331 = .ok (.sipush 4000, 3) := by decide +kernel
theorem dX12_init_1334 : decode cX12_init 1334 = .ok (.newarray .int, 2) := by decide +kernel
theorem dX12_init_1336 : decode cX12_init 1336 = .ok (.putfield 321, 3) := by decide +kernel
theorem dX12_init_1339 : decode cX12_init 1339 = .ok (.aload_n 0, 1) := by decide +kernel
theorem dX12_init_1340 : decode cX12_init 1340 = .ok (.sipush 4000, 3) := by decide +kernel
theorem dX12_init_1343 : decode cX12_init 1343 = .ok (.newarray .int, 2) := by decide +kernel
theorem dX12_init_1345 : decode cX12_init 1345 = .ok (.putfield 324, 3) := by decide +kernel
theorem dX12_init_1348 : decode cX12_init 1348 = .ok (.aload_n 0, 1) := by decide +kernel
theorem dX12_init_1349 : decode cX12_init 1349 = .ok (.sipush 4000, 3) := by decide +kernel
theorem dX12_init_1352 : decode cX12_init 1352 = .ok (.newarray .int, 2) := by decide +kernel
theorem dX12_init_1354 : decode cX12_init 1354 = .ok (.putfield 327, 3) := by decide +kernel
theorem dX12_init_1357 : decode cX12_init 1357 = .ok (.aload_n 0, 1) := by decide +kernel
theorem dX12_init_1358 : decode cX12_init 1358 = .ok (.sipush 2700, 3) := by decide +kernel
theorem dX12_init_1361 : decode cX12_init 1361 = .ok (.newarray .int, 2) := by decide +kernel
theorem dX12_init_1363 : decode cX12_init 1363 = .ok (.putfield 330, 3) := by decide +kernel
theorem dX12_init_1366 : decode cX12_init 1366 = .ok (.aload_n 0, 1) := by decide +kernel
theorem dX12_init_1367 : decode cX12_init 1367 = .ok (.sipush 2700, 3) := by decide +kernel
theorem dX12_init_1370 : decode cX12_init 1370 = .ok (.newarray .int, 2) := by decide +kernel
theorem dX12_init_1372 : decode cX12_init 1372 = .ok (.putfield 333, 3) := by decide +kernel
theorem dX12_init_1375 : decode cX12_init 1375 = .ok (.aload_n 0, 1) := by decide +kernel
theorem dX12_init_1376 : decode cX12_init 1376 = .ok (.sipush 2700, 3) := by decide +kernel
theorem dX12_init_1379 : decode cX12_init 1379 = .ok (.newarray .int, 2) := by decide +kernel
theorem dX12_init_1381 : decode cX12_init 1381 = .ok (.putfield 336, 3) := by decide +kernel
theorem dX12_init_1384 : decode cX12_init 1384 = .ok (.aload_n 0, 1) := by decide +kernel
theorem dX12_init_1385 : decode cX12_init 1385 = .ok (.bipush 40, 2) := by decide +kernel
theorem dX12_init_1387 : decode cX12_init 1387 = .ok (.newarray .int, 2) := by decide +kernel
theorem dX12_init_1389 : decode cX12_init 1389 = .ok (.putfield 339, 3) := by decide +kernel
theorem dX12_init_1392 : decode cX12_init 1392 = .ok (.aload_n 0, 1) := by decide +kernel
theorem dX12_init_1393 : decode cX12_init 1393 = .ok (.bipush 40, 2) := by decide +kernel
theorem dX12_init_1395 : decode cX12_init 1395 = .ok (.newarray .int, 2) := by decide +kernel
theorem dX12_init_1397 : decode cX12_init 1397 = .ok (.putfield 342, 3) := by decide +kernel
theorem dX12_init_1400 : decode cX12_init 1400 = .ok (.aload_n 0, 1) := by decide +kernel
theorem dX12_init_1401 : decode cX12_init 1401 = .ok (.bipush 40, 2) := by decide +kernel
theorem dX12_init_1403 : decode cX12_init 1403 = .ok (.newarray .int, 2) := by decide +kernel
theorem dX12_init_1405 : decode cX12_init 1405 = .ok (.putfield 345, 3) := by decide +kernel
theorem dX12_init_1408 : decode cX12_init 1408 = .ok (.aload_n 0, 1) := by decide +kernel
theorem dX12_init_1409 : decode cX12_init 1409 = .ok (.bipush 40, 2) := by decide +kernel
theorem dX12_init_1411 : decode cX12_init 1411 = .ok (.newarray .int, 2) := by decide +kernel
theorem dX12_init_1413 : decode cX12_init 1413 = .ok (.putfield 348, 3) := by decide +kernel
theorem dX12_init_1416 : decode cX12_init 1416 = .ok (.aload_n 0, 1) := by decide +kernel
theorem dX12_init_1417 : decode cX12_init 1417 = .ok (.bipush 40, 2) := by decide +kernel
theorem dX12_init_1419 : decode cX12_init 1419 = .ok (.newarray .int, 2) := by decide +kernel
theorem dX12_init_1421 : decode cX12_init 1421 = .ok (.putfield 351, 3) := by decide +kernel
theorem dX12_init_1424 : decode cX12_init 1424 = .ok (.aload_n 0, 1) := by decide +kernel
theorem dX12_init_1425 : decode cX12_init 1425 = .ok (.bipush 100, 2) := by decide +kernel
theorem dX12_init_1427 : decode cX12_init 1427 = .ok (.newarray .int, 2) := by decide +kernel
theorem dX12_init_1429 : decode cX12_init 1429 = .ok (.putfield 354, 3) := by decide +kernel
theorem dX12_init_1432 : decode cX12_init 1432 = .ok (.aload_n 0, 1) := by decide +kernel
theorem dX12_init_1433 : decode cX12_init 1433 = .ok (.bipush 100, 2) := by decide +kernel
theorem dX12_init_1435 : decode cX12_init 1435 = .ok (.newarray .int, 2) := by decide +kernel
theorem dX12_init_1437 : decode cX12_init 1437 = .ok (.putfield 357, 3) := by decide +kernel
theorem dX12_init_1440 : decode cX12_init 1440 = .ok (.aload_n 0, 1) := by decide +kernel
theorem dX12_init_1441 : decode cX12_init 1441 = .ok (.bipush 100, 2) := by decide +kernel
theorem dX12_init_1443 : decode cX12_init 1443 = .ok (.newarray .int, 2) := by decide +kernel
theorem dX12_init_1445 : decode cX12_init 1445 = .ok (.putfield 360, 3) := by decide +kernel
theorem dX12_init_1448 : decode cX12_init 1448 = .ok (.aload_n 0, 1) := by decide +kernel
theorem dX12_init_1449 : decode cX12_init 1449 = .ok (.bipush 100, 2) := by decide +kernel
theorem dX12_init_1451 : decode cX12_init 1451 = .ok (.newarray .long, 2) := by decide +kernel
theorem dX12_init_1453 : decode cX12_init 1453 = .ok (.putfield 363, 3) := by decide +kernel
theorem dX12_init_1456 : decode cX12_init 1456 = .ok (.aload_n 0, 1) := by decide +kernel
theorem dX12_init_1457 : decode cX12_init 1457 = .ok (.iconst 0, 1) := by decide +kernel
theorem dX12_init_1458 : decode cX12_init 1458 = .ok (.putfield 366, 3) := by decide +kernel
theorem dX12_init_1461 : decode cX12_init 1461 = .ok (.return_, 1) := by decide +kernel
theorem dX12_in_0 : decode cX12_in 0 = .ok (.lload_n 0, 1) := by decide +kernel
theorem dX12_in_1 : decode cX12_in 1 = .ok (.lload_n 2, 1) := by decide +kernel
theorem dX12_in_2 : decode cX12_in 2 = .ok (.lcmp, 1) := by decide +kernel
theorem dX12_in_3 : decode cX12_in 3 = .ok (.ifCond .lt 14, 3) := by decide +kernel
theorem dX12_in_6 : decode cX12_in 6 = .ok (.lload_n 0, 1) := by decide +kernel
theorem dX12_in_7 : decode cX12_in 7 = .ok (.lload 4, 2) := by decide +kernel
theorem dX12_in_9 : decode cX12_in 9 = .ok (.lcmp, 1) := by decide +kernel
theorem dX12_in_10 : decode cX12_in 10 = .ok (.ifCond .gt 7, 3) := by decide +kernel
theorem dX12_in_13 : decode cX12_in 13 = .ok (.iconst 1, 1) := by decide +kernel
theorem dX12_in_14 : decode cX12_in 14 = .ok (.goto 4, 3) := by decide +kernel
theorem dX12_in_17 : decode cX12_in 17 = .ok (.iconst 0, 1) := by decide +kernel
theorem dX12_in_18 : decode cX12_in 18 = .ok (.ireturn, 1) := by decide +kernel
theorem dX12_collect_0 : decode cX12_collect 0 = .ok (.iload_n 3, 1) := by decide +kernel
theorem dX12_collect_1 : decode cX12_collect 1 = .ok (.i2l, 1) := by decide +kernel
theorem dX12_collect_2 : decode cX12_collect 2 = .ok (.lconst 1, 1) := by decide +kernel
theorem dX12_collect_3 : decode cX12_collect 3 = .ok (.ldc2_w 370, 3) := by decide +kernel
theorem dX12_collect_6 : decode cX12_collect 6 = .ok (.invokestatic 372, 3) := by decide +kernel
theorem dX12_collect_9 : decode cX12_collect 9 = .ok (.ifCond .ne 6, 3) := by decide +kernel
theorem dX12_collect_12 : decode cX12_collect 12 = .ok (.bipush (-2), 2) := by decide +kernel
theorem dX12_collect_14 : decode cX12_collect 14 = .ok (.ireturn, 1) := by decide +kernel
theorem dX12_collect_15 : decode cX12_collect 15 = .ok (.aload_n 0, 1) := by decide +kernel
theorem dX12_collect_16 : decode cX12_collect 16 = .ok (.getfield 376, 3) := by decide +kernel
theorem dX12_collect_19 : decode cX12_collect 19 = .ok (.iload_n 3, 1) := by decide +kernel
theorem dX12_collect_20 : decode cX12_collect 20 = .ok (.iadd, 1) := by decide +kernel
theorem dX12_collect_21 : decode cX12_collect 21 = .ok (.sipush 4000, 3) := by decide +kernel
theorem dX12_collect_24 : decode cX12_collect 24 = .ok (.if_icmp .le 6, 3) := by decide +kernel
theorem dX12_collect_30 : decode cX12_collect 30 = .ok (.iconst 0, 1) := by decide +kernel
theorem dX12_collect_31 : decode cX12_collect 31 = .ok (.istore 4, 2) := by decide +kernel
theorem dX12_collect_33 : decode cX12_collect 33 = .ok (.iload 4, 2) := by decide +kernel
theorem dX12_collect_35 : decode cX12_collect 35 = .ok (.iload_n 3, 1) := by decide +kernel
theorem dX12_collect_36 : decode cX12_collect 36 = .ok (.if_icmp .ge 40, 3) := by decide +kernel
theorem dX12_collect_39 : decode cX12_collect 39 = .ok (.aload_n 0, 1) := by decide +kernel
theorem dX12_collect_40 : decode cX12_collect 40 = .ok (.getfield 7, 3) := by decide +kernel
theorem dX12_collect_43 : decode cX12_collect 43 = .ok (.aload_n 0, 1) := by decide +kernel
theorem dX12_collect_44 : decode cX12_collect 44 = .ok (.getfield 376, 3) := by decide +kernel
theorem dX12_collect_47 : decode cX12_collect 47 = .ok (.lload_n 1, 1) := by decide +kernel
theorem dX12_collect_48 : decode cX12_collect 48 = .ok (.bipush 8, 2) := by decide +kernel
theorem dX12_collect_50 : decode cX12_collect 50 = .ok (.iload 4, 2) := by decide +kernel
theorem dX12_collect_52 : decode cX12_collect 52 = .ok (.imul, 1) := by decide +kernel
theorem dX12_collect_53 : decode cX12_collect 53 = .ok (.lshr, 1) := by decide +kernel
theorem dX12_collect_54 : decode cX12_collect 54 = .ok (.ldc2_w 379, 3) := by decide +kernel
theorem dX12_collect_57 : decode cX12_collect 57 = .ok (.land, 1) := by decide +kernel
theorem dX12_collect_58 : decode cX12_collect 58 = .ok (.l2i, 1) := by decide +kernel
theorem dX12_collect_59 : decode cX12_collect 59 = .ok (.iastore, 1) := by decide +kernel
theorem dX12_collect_60 : decode cX12_collect 60 = .ok (.aload_n 0, 1) := by decide +kernel
theorem dX12_collect_61 : decode cX12_collect 61 = .ok (.dup, 1) := by decide +kernel
theorem dX12_collect_62 : decode cX12_collect 62 = .ok (.getfield 376, 3) := by decide +kernel
theorem dX12_collect_65 : decode cX12_collect 65 = .ok (.iconst 1, 1) := by decide +kernel
theorem dX12_collect_66 : decode cX12_collect 66 = .ok (.iadd, 1) := by decide +kernel
theorem dX12_collect_67 : decode cX12_collect 67 = .ok (.putfield 376, 3) := by decide +kernel
theorem dX12_collect_70 : decode cX12_collect 70 = .ok (.iinc 4 1, 3) := by decide +kernel
theorem dX12_collect_73 : decode cX12_collect 73 = .ok (.goto (-40), 3) := by decide +kernel
theorem dX12_collect_76 : decode cX12_collect 76 = .ok (.aload_n 0, 1) := by decide +kernel
theorem dX12_collect_77 : decode cX12_collect 77 = .ok (.getfield 376, 3) := by decide +kernel
theorem dX12_collect_80 : decode cX12_collect 80 = .ok (.ireturn, 1) := by decide +kernel
theorem dX12_forget_0 : decode cX12_forget 0 = .ok (.aload_n 0, 1) := by decide +kernel
theorem dX12_forget_1 : decode cX12_forget 1 = .ok (.getfield 376, 3) := by decide +kernel
theorem dX12_forget_4 : decode cX12_forget 4 = .ok (.istore_n 1, 1) := by decide +kernel
theorem dX12_forget_5 : decode cX12_forget 5 = .ok (.aload_n 0, 1) := by decide +kernel
theorem dX12_forget_6 : decode cX12_forget 6 = .ok (.iconst 0, 1) := by decide +kernel
theorem dX12_forget_7 : decode cX12_forget 7 = .ok (.putfield 376, 3) := by decide +kernel
theorem dX12_forget_10 : decode cX12_forget 10 = .ok (.iload_n 1, 1) := by decide +kernel
theorem dX12_forget_11 : decode cX12_forget 11 = .ok (.ireturn, 1) := by decide +kernel
theorem dX12_tick_0 : decode cX12_tick 0 = .ok (.iload_n 1, 1) := by decide +kernel
theorem dX12_tick_1 : decode cX12_tick 1 = .ok (.i2l, 1) := by decide +kernel
theorem dX12_tick_2 : decode cX12_tick 2 = .ok (.lconst 0, 1) := by decide +kernel
theorem dX12_tick_3 : decode cX12_tick 3 = .ok (.ldc2_w 381, 3) := by decide +kernel
theorem dX12_tick_6 : decode cX12_tick 6 = .ok (.invokestatic 372, 3) := by decide +kernel
theorem dX12_tick_9 : decode cX12_tick 9 = .ok (.ifCond .eq 18, 3) := by decide +kernel
theorem dX12_tick_12 : decode cX12_tick 12 = .ok (.aload_n 0, 1) := by decide +kernel
theorem dX12_tick_13 : decode cX12_tick 13 = .ok (.getfield 383, 3) := by decide +kernel
theorem dX12_tick_16 : decode cX12_tick 16 = .ok (.i2l, 1) := by decide +kernel
theorem dX12_tick_17 : decode cX12_tick 17 = .ok (.iload_n 1, 1) := by decide +kernel
theorem dX12_tick_18 : decode cX12_tick 18 = .ok (.i2l, 1) := by decide +kernel
theorem dX12_tick_19 : decode cX12_tick 19 = .ok (.ladd, 1) := by decide +kernel
theorem dX12_tick_20 : decode cX12_tick 20 = .ok (.ldc2_w 386, 3) := by decide +kernel
theorem dX12_tick_23 : decode cX12_tick 23 = .ok (.lcmp, 1) := by decide +kernel
theorem dX12_tick_24 : decode cX12_tick 24 = .ok (.ifCond .le 6, 3) := by decide +kernel
theorem dX12_tick_27 : decode cX12_tick 27 = .ok (.bipush (-2), 2) := by decide +kernel
theorem dX12_tick_29 : decode cX12_tick 29 = .ok (.ireturn, 1) := by decide +kernel
theorem dX12_tick_30 : decode cX12_tick 30 = .ok (.aload_n 0, 1) := by decide +kernel
theorem dX12_tick_31 : decode cX12_tick 31 = .ok (.dup, 1) := by decide +kernel
theorem dX12_tick_32 : decode cX12_tick 32 = .ok (.getfield 383, 3) := by decide +kernel
theorem dX12_tick_35 : decode cX12_tick 35 = .ok (.iload_n 1, 1) := by decide +kernel
theorem dX12_tick_36 : decode cX12_tick 36 = .ok (.iadd, 1) := by decide +kernel
theorem dX12_tick_37 : decode cX12_tick 37 = .ok (.putfield 383, 3) := by decide +kernel
theorem dX12_tick_40 : decode cX12_tick 40 = .ok (.aload_n 0, 1) := by decide +kernel
theorem dX12_tick_41 : decode cX12_tick 41 = .ok (.getfield 383, 3) := by decide +kernel
theorem dX12_tick_44 : decode cX12_tick 44 = .ok (.ireturn, 1) := by decide +kernel
theorem dX12_isPicture_0 : decode cX12_isPicture 0 = .ok (.iload_n 1, 1) := by decide +kernel
theorem dX12_isPicture_1 : decode cX12_isPicture 1 = .ok (.i2l, 1) := by decide +kernel
theorem dX12_isPicture_2 : decode cX12_isPicture 2 = .ok (.lconst 0, 1) := by decide +kernel
theorem dX12_isPicture_3 : decode cX12_isPicture 3 = .ok (.aload_n 0, 1) := by decide +kernel
theorem dX12_isPicture_4 : decode cX12_isPicture 4 = .ok (.getfield 393, 3) := by decide +kernel
theorem dX12_isPicture_7 : decode cX12_isPicture 7 = .ok (.iconst 1, 1) := by decide +kernel
theorem dX12_isPicture_8 : decode cX12_isPicture 8 = .ok (.isub, 1) := by decide +kernel
theorem dX12_isPicture_9 : decode cX12_isPicture 9 = .ok (.i2l, 1) := by decide +kernel
theorem dX12_isPicture_10 : decode cX12_isPicture 10 = .ok (.invokestatic 372, 3) := by decide +kernel
theorem dX12_isPicture_13 : decode cX12_isPicture 13 = .ok (.ireturn, 1) := by decide +kernel
theorem dX12_isSector_0 : decode cX12_isSector 0 = .ok (.aload_n 0, 1) := by decide +kernel
theorem dX12_isSector_1 : decode cX12_isSector 1 = .ok (.iload_n 1, 1) := by decide +kernel
theorem dX12_isSector_2 : decode cX12_isSector 2 = .ok (.invokevirtual 396, 3) := by decide +kernel
theorem dX12_isSector_5 : decode cX12_isSector 5 = .ok (.ifCond .eq 25, 3) := by decide +kernel
theorem dX12_isSector_30 : decode cX12_isSector 30 = .ok (.iconst 0, 1) := by decide +kernel
theorem dX12_isSector_31 : decode cX12_isSector 31 = .ok (.ireturn, 1) := by decide +kernel
theorem dX12_blank_0 : decode cX12_blank 0 = .ok (.iload_n 1, 1) := by decide +kernel
theorem dX12_blank_1 : decode cX12_blank 1 = .ok (.i2l, 1) := by decide +kernel
theorem dX12_blank_2 : decode cX12_blank 2 = .ok (.lconst 1, 1) := by decide +kernel
theorem dX12_blank_3 : decode cX12_blank 3 = .ok (.ldc2_w 400, 3) := by decide +kernel
theorem dX12_blank_6 : decode cX12_blank 6 = .ok (.invokestatic 372, 3) := by decide +kernel
theorem dX12_blank_9 : decode cX12_blank 9 = .ok (.ifCond .ne 6, 3) := by decide +kernel
theorem dX12_blank_12 : decode cX12_blank 12 = .ok (.bipush (-2), 2) := by decide +kernel
theorem dX12_blank_14 : decode cX12_blank 14 = .ok (.ireturn, 1) := by decide +kernel
theorem dX12_blank_15 : decode cX12_blank 15 = .ok (.aload_n 0, 1) := by decide +kernel
theorem dX12_blank_16 : decode cX12_blank 16 = .ok (.getfield 393, 3) := by decide +kernel
theorem dX12_blank_19 : decode cX12_blank 19 = .ok (.bipush 6, 2) := by decide +kernel
theorem dX12_blank_21 : decode cX12_blank 21 = .ok (.if_icmp .ne 6, 3) := by decide +kernel
theorem dX12_blank_27 : decode cX12_blank 27 = .ok (.aload_n 0, 1) := by decide +kernel
theorem dX12_blank_28 : decode cX12_blank 28 = .ok (.iload_n 1, 1) := by decide +kernel
theorem dX12_blank_29 : decode cX12_blank 29 = .ok (.invokevirtual 402, 3) := by decide +kernel
theorem dX12_blank_32 : decode cX12_blank 32 = .ok (.ireturn, 1) := by decide +kernel
theorem dX12_begin_0 : decode cX12_begin 0 = .ok (.aload_n 0, 1) := by decide +kernel
theorem dX12_begin_1 : decode cX12_begin 1 = .ok (.getfield 393, 3) := by decide +kernel
theorem dX12_begin_4 : decode cX12_begin 4 = .ok (.istore_n 2, 1) := by decide +kernel
theorem dX12_begin_5 : decode cX12_begin 5 = .ok (.aload_n 0, 1) := by decide +kernel
theorem dX12_begin_6 : decode cX12_begin 6 = .ok (.getfield 13, 3) := by decide +kernel
theorem dX12_begin_9 : decode cX12_begin 9 = .ok (.iload_n 2, 1) := by decide +kernel
theorem dX12_begin_10 : decode cX12_begin 10 = .ok (.iload_n 1, 1) := by decide +kernel
theorem dX12_begin_11 : decode cX12_begin 11 = .ok (.iastore, 1) := by decide +kernel
theorem dX12_begin_12 : decode cX12_begin 12 = .ok (.iconst 0, 1) := by decide +kernel
theorem dX12_begin_13 : decode cX12_begin 13 = .ok (.istore_n 3, 1) := by decide +kernel
theorem dX12_begin_14 : decode cX12_begin 14 = .ok (.iload_n 3, 1) := by decide +kernel
theorem dX12_begin_15 : decode cX12_begin 15 = .ok (.sipush 8192, 3) := by decide +kernel
theorem dX12_begin_18 : decode cX12_begin 18 = .ok (.if_icmp .ge 22, 3) := by decide +kernel
theorem dX12_begin_21 : decode cX12_begin 21 = .ok (.aload_n 0, 1) := by decide +kernel
theorem dX12_begin_22 : decode cX12_begin 22 = .ok (.getfield 17, 3) := by decide +kernel
theorem dX12_begin_25 : decode cX12_begin 25 = .ok (.sipush 8192, 3) := by decide +kernel
theorem dX12_begin_28 : decode cX12_begin 28 = .ok (.iload_n 2, 1) := by decide +kernel
theorem dX12_begin_29 : decode cX12_begin 29 = .ok (.imul, 1) := by decide +kernel
theorem dX12_begin_30 : decode cX12_begin 30 = .ok (.iload_n 3, 1) := by decide +kernel
theorem dX12_begin_31 : decode cX12_begin 31 = .ok (.iadd, 1) := by decide +kernel
theorem dX12_begin_32 : decode cX12_begin 32 = .ok (.iconst 0, 1) := by decide +kernel
theorem dX12_begin_33 : decode cX12_begin 33 = .ok (.iastore, 1) := by decide +kernel
theorem dX12_begin_34 : decode cX12_begin 34 = .ok (.iinc 3 1, 3) := by decide +kernel
theorem dX12_begin_37 : decode cX12_begin 37 = .ok (.goto (-23), 3) := by decide +kernel
theorem dX12_begin_40 : decode cX12_begin 40 = .ok (.iconst 0, 1) := by decide +kernel
theorem dX12_begin_41 : decode cX12_begin 41 = .ok (.istore_n 3, 1) := by decide +kernel
theorem dX12_begin_42 : decode cX12_begin 42 = .ok (.iload_n 3, 1) := by decide +kernel
theorem dX12_begin_43 : decode cX12_begin 43 = .ok (.sipush 128, 3) := by decide +kernel
theorem dX12_begin_46 : decode cX12_begin 46 = .ok (.if_icmp .ge 22, 3) := by decide +kernel
theorem dX12_begin_49 : decode cX12_begin 49 = .ok (.aload_n 0, 1) := by decide +kernel
theorem dX12_begin_50 : decode cX12_begin 50 = .ok (.getfield 20, 3) := by decide +kernel
theorem dX12_begin_53 : decode cX12_begin 53 = .ok (.sipush 128, 3) := by decide +kernel
theorem dX12_begin_56 : decode cX12_begin 56 = .ok (.iload_n 2, 1) := by decide +kernel
theorem dX12_begin_57 : decode cX12_begin 57 = .ok (.imul, 1) := by decide +kernel
theorem dX12_begin_58 : decode cX12_begin 58 = .ok (.iload_n 3, 1) := by decide +kernel
theorem dX12_begin_59 : decode cX12_begin 59 = .ok (.iadd, 1) := by decide +kernel
theorem dX12_begin_60 : decode cX12_begin 60 = .ok (.iconst 0, 1) := by decide +kernel
theorem dX12_begin_61 : decode cX12_begin 61 = .ok (.bastore, 1) := by decide +kernel
theorem dX12_begin_62 : decode cX12_begin 62 = .ok (.iinc 3 1, 3) := by decide +kernel
theorem dX12_begin_65 : decode cX12_begin 65 = .ok (.goto (-23), 3) := by decide +kernel
theorem dX12_begin_68 : decode cX12_begin 68 = .ok (.aload_n 0, 1) := by decide +kernel
theorem dX12_begin_69 : decode cX12_begin 69 = .ok (.dup, 1) := by decide +kernel
theorem dX12_begin_70 : decode cX12_begin 70 = .ok (.getfield 393, 3) := by decide +kernel
theorem dX12_begin_73 : decode cX12_begin 73 = .ok (.iconst 1, 1) := by decide +kernel
theorem dX12_begin_74 : decode cX12_begin 74 = .ok (.iadd, 1) := by decide +kernel
theorem dX12_begin_75 : decode cX12_begin 75 = .ok (.putfield 393, 3) := by decide +kernel
theorem dX12_begin_78 : decode cX12_begin 78 = .ok (.iload_n 2, 1) := by decide +kernel
theorem dX12_begin_79 : decode cX12_begin 79 = .ok (.ireturn, 1) := by decide +kernel
theorem dX12_is_0 : decode cX12_is 0 = .ok (.iload_n 1, 1) := by decide +kernel
theorem dX12_is_1 : decode cX12_is 1 = .ok (.aload_n 0, 1) := by decide +kernel
theorem dX12_is_2 : decode cX12_is 2 = .ok (.getfield 376, 3) := by decide +kernel
theorem dX12_is_5 : decode cX12_is 5 = .ok (.if_icmp .lt 13, 3) := by decide +kernel
theorem dX12_is_8 : decode cX12_is 8 = .ok (.aload_n 0, 1) := by decide +kernel
theorem dX12_is_9 : decode cX12_is 9 = .ok (.aload_n 0, 1) := by decide +kernel
theorem dX12_is_10 : decode cX12_is 10 = .ok (.getfield 376, 3) := by decide +kernel
theorem dX12_is_13 : decode cX12_is 13 = .ok (.putfield 406, 3) := by decide +kernel
theorem dX12_is_16 : decode cX12_is 16 = .ok (.iconst 0, 1) := by decide +kernel
theorem dX12_is_17 : decode cX12_is 17 = .ok (.ireturn, 1) := by decide +kernel
theorem dX12_picture_0 : decode cX12_picture 0 = .ok (.aload_n 0, 1) := by decide +kernel
theorem dX12_picture_1 : decode cX12_picture 1 = .ok (.getfield 393, 3) := by decide +kernel
theorem dX12_picture_4 : decode cX12_picture 4 = .ok (.bipush 6, 2) := by decide +kernel
theorem dX12_picture_6 : decode cX12_picture 6 = .ok (.if_icmp .ne 6, 3) := by decide +kernel
theorem dX12_picture_12 : decode cX12_picture 12 = .ok (.aload_n 0, 1) := by decide +kernel
theorem dX12_picture_13 : decode cX12_picture 13 = .ok (.invokevirtual 409, 3) := by decide +kernel
theorem dX12_picture_16 : decode cX12_picture 16 = .ok (.istore_n 1, 1) := by decide +kernel
theorem dX12_picture_17 : decode cX12_picture 17 = .ok (.aload_n 0, 1) := by decide +kernel
theorem dX12_picture_18 : decode cX12_picture 18 = .ok (.iconst 0, 1) := by decide +kernel
theorem dX12_picture_19 : decode cX12_picture 19 = .ok (.putfield 376, 3) := by decide +kernel
theorem dX12_picture_22 : decode cX12_picture 22 = .ok (.iload_n 1, 1) := by decide +kernel
theorem dX12_picture_23 : decode cX12_picture 23 = .ok (.ireturn, 1) := by decide +kernel
theorem dX12_unpack_0 : decode cX12_unpack 0 = .ok (.aload_n 0, 1) := by decide +kernel
theorem dX12_unpack_1 : decode cX12_unpack 1 = .ok (.iconst 0, 1) := by decide +kernel
theorem dX12_unpack_2 : decode cX12_unpack 2 = .ok (.bipush 80, 2) := by decide +kernel
theorem dX12_unpack_4 : decode cX12_unpack 4 = .ok (.bipush 80, 2) := by decide +kernel
theorem dX12_unpack_6 : decode cX12_unpack 6 = .ok (.invokevirtual 413, 3) := by decide +kernel
theorem dX12_unpack_9 : decode cX12_unpack 9 = .ok (.ifCond .eq 39, 3) := by decide +kernel
theorem dX12_unpack_48 : decode cX12_unpack 48 = .ok (.bipush (-100), 2) := by decide +kernel
theorem dX12_unpack_50 : decode cX12_unpack 50 = .ok (.aload_n 0, 1) := by decide +kernel
theorem dX12_unpack_51 : decode cX12_unpack 51 = .ok (.getfield 406, 3) := by decide +kernel
theorem dX12_unpack_54 : decode cX12_unpack 54 = .ok (.isub, 1) := by decide +kernel
theorem dX12_unpack_55 : decode cX12_unpack 55 = .ok (.ireturn, 1) := by decide +kernel
theorem dX12_sectors_0 : decode cX12_sectors 0 = .ok (.aload_n 0, 1) := by decide +kernel
theorem dX12_sectors_1 : decode cX12_sectors 1 = .ok (.iload_n 1, 1) := by decide +kernel
theorem dX12_sectors_2 : decode cX12_sectors 2 = .ok (.invokevirtual 396, 3) := by decide +kernel
theorem dX12_sectors_5 : decode cX12_sectors 5 = .ok (.ifCond .eq 12, 3) := by decide +kernel
theorem dX12_sectors_17 : decode cX12_sectors 17 = .ok (.bipush (-2), 2) := by decide +kernel
theorem dX12_sectors_19 : decode cX12_sectors 19 = .ok (.ireturn, 1) := by decide +kernel
theorem dX12_spoil_0 : decode cX12_spoil 0 = .ok (.aload_n 0, 1) := by decide +kernel
theorem dX12_spoil_1 : decode cX12_spoil 1 = .ok (.iload_n 1, 1) := by decide +kernel
theorem dX12_spoil_2 : decode cX12_spoil 2 = .ok (.iload_n 2, 1) := by decide +kernel
theorem dX12_spoil_3 : decode cX12_spoil 3 = .ok (.invokevirtual 424, 3) := by decide +kernel
theorem dX12_spoil_6 : decode cX12_spoil 6 = .ok (.ifCond .ne 6, 3) := by decide +kernel
theorem dX12_spoil_9 : decode cX12_spoil 9 = .ok (.bipush (-2), 2) := by decide +kernel
theorem dX12_spoil_11 : decode cX12_spoil 11 = .ok (.ireturn, 1) := by decide +kernel
theorem dX12_isByte_0 : decode cX12_isByte 0 = .ok (.aload_n 0, 1) := by decide +kernel
theorem dX12_isByte_1 : decode cX12_isByte 1 = .ok (.iload_n 1, 1) := by decide +kernel
theorem dX12_isByte_2 : decode cX12_isByte 2 = .ok (.invokevirtual 396, 3) := by decide +kernel
theorem dX12_isByte_5 : decode cX12_isByte 5 = .ok (.ifCond .eq 28, 3) := by decide +kernel
theorem dX12_isByte_33 : decode cX12_isByte 33 = .ok (.iconst 0, 1) := by decide +kernel
theorem dX12_isByte_34 : decode cX12_isByte 34 = .ok (.ireturn, 1) := by decide +kernel
theorem dX12_byteAt_0 : decode cX12_byteAt 0 = .ok (.aload_n 0, 1) := by decide +kernel
theorem dX12_byteAt_1 : decode cX12_byteAt 1 = .ok (.iload_n 1, 1) := by decide +kernel
theorem dX12_byteAt_2 : decode cX12_byteAt 2 = .ok (.iload_n 2, 1) := by decide +kernel
theorem dX12_byteAt_3 : decode cX12_byteAt 3 = .ok (.invokevirtual 432, 3) := by decide +kernel
theorem dX12_byteAt_6 : decode cX12_byteAt 6 = .ok (.ifCond .eq 12, 3) := by decide +kernel
theorem dX12_byteAt_18 : decode cX12_byteAt 18 = .ok (.bipush (-2), 2) := by decide +kernel
theorem dX12_byteAt_20 : decode cX12_byteAt 20 = .ok (.ireturn, 1) := by decide +kernel
theorem dX12_poke_0 : decode cX12_poke 0 = .ok (.aload_n 0, 1) := by decide +kernel
theorem dX12_poke_1 : decode cX12_poke 1 = .ok (.iload_n 1, 1) := by decide +kernel
theorem dX12_poke_2 : decode cX12_poke 2 = .ok (.iload_n 2, 1) := by decide +kernel
theorem dX12_poke_3 : decode cX12_poke 3 = .ok (.invokevirtual 432, 3) := by decide +kernel
theorem dX12_poke_6 : decode cX12_poke 6 = .ok (.ifCond .eq 15, 3) := by decide +kernel
theorem dX12_poke_21 : decode cX12_poke 21 = .ok (.bipush (-2), 2) := by decide +kernel
theorem dX12_poke_23 : decode cX12_poke 23 = .ok (.ireturn, 1) := by decide +kernel
theorem dX12_crc_0 : decode cX12_crc 0 = .ok (.aload_n 0, 1) := by decide +kernel
theorem dX12_crc_1 : decode cX12_crc 1 = .ok (.iload_n 1, 1) := by decide +kernel
theorem dX12_crc_2 : decode cX12_crc 2 = .ok (.invokevirtual 396, 3) := by decide +kernel
theorem dX12_crc_5 : decode cX12_crc 5 = .ok (.ifCond .eq 30, 3) := by decide +kernel
theorem dX12_crc_35 : decode cX12_crc 35 = .ok (.ldc2_w 438, 3) := by decide +kernel
theorem dX12_crc_38 : decode cX12_crc 38 = .ok (.lreturn, 1) := by decide +kernel
theorem dX12_parts_0 : decode cX12_parts 0 = .ok (.aload_n 0, 1) := by decide +kernel
theorem dX12_parts_1 : decode cX12_parts 1 = .ok (.iload_n 1, 1) := by decide +kernel
theorem dX12_parts_2 : decode cX12_parts 2 = .ok (.invokevirtual 396, 3) := by decide +kernel
theorem dX12_parts_5 : decode cX12_parts 5 = .ok (.ifCond .ne 6, 3) := by decide +kernel
theorem dX12_parts_8 : decode cX12_parts 8 = .ok (.bipush (-2), 2) := by decide +kernel
theorem dX12_parts_10 : decode cX12_parts 10 = .ok (.ireturn, 1) := by decide +kernel
theorem dX12_part_0 : decode cX12_part 0 = .ok (.aload_n 0, 1) := by decide +kernel
theorem dX12_part_1 : decode cX12_part 1 = .ok (.iload_n 1, 1) := by decide +kernel
theorem dX12_part_2 : decode cX12_part 2 = .ok (.invokevirtual 396, 3) := by decide +kernel
theorem dX12_part_5 : decode cX12_part 5 = .ok (.ifCond .ne 6, 3) := by decide +kernel
theorem dX12_part_8 : decode cX12_part 8 = .ok (.bipush (-2), 2) := by decide +kernel
theorem dX12_part_10 : decode cX12_part 10 = .ok (.ireturn, 1) := by decide +kernel
theorem dX12_isVolume_0 : decode cX12_isVolume 0 = .ok (.iload_n 1, 1) := by decide +kernel
theorem dX12_isVolume_1 : decode cX12_isVolume 1 = .ok (.i2l, 1) := by decide +kernel
theorem dX12_isVolume_2 : decode cX12_isVolume 2 = .ok (.lconst 0, 1) := by decide +kernel
theorem dX12_isVolume_3 : decode cX12_isVolume 3 = .ok (.aload_n 0, 1) := by decide +kernel
theorem dX12_isVolume_4 : decode cX12_isVolume 4 = .ok (.getfield 466, 3) := by decide +kernel
theorem dX12_isVolume_7 : decode cX12_isVolume 7 = .ok (.iconst 1, 1) := by decide +kernel
theorem dX12_isVolume_8 : decode cX12_isVolume 8 = .ok (.isub, 1) := by decide +kernel
theorem dX12_isVolume_9 : decode cX12_isVolume 9 = .ok (.i2l, 1) := by decide +kernel
theorem dX12_isVolume_10 : decode cX12_isVolume 10 = .ok (.invokestatic 372, 3) := by decide +kernel
theorem dX12_isVolume_13 : decode cX12_isVolume 13 = .ok (.ireturn, 1) := by decide +kernel
theorem dX12_volume_0 : decode cX12_volume 0 = .ok (.aload_n 0, 1) := by decide +kernel
theorem dX12_volume_1 : decode cX12_volume 1 = .ok (.iload_n 1, 1) := by decide +kernel
theorem dX12_volume_2 : decode cX12_volume 2 = .ok (.invokevirtual 396, 3) := by decide +kernel
theorem dX12_volume_5 : decode cX12_volume 5 = .ok (.ifCond .eq 28, 3) := by decide +kernel
theorem dX12_volume_33 : decode cX12_volume 33 = .ok (.bipush (-2), 2) := by decide +kernel
theorem dX12_volume_35 : decode cX12_volume 35 = .ok (.ireturn, 1) := by decide +kernel
theorem dX12_join_0 : decode cX12_join 0 = .ok (.iload_n 1, 1) := by decide +kernel
theorem dX12_join_1 : decode cX12_join 1 = .ok (.iconst 3, 1) := by decide +kernel
theorem dX12_join_2 : decode cX12_join 2 = .ok (.if_icmp .eq 8, 3) := by decide +kernel
theorem dX12_join_5 : decode cX12_join 5 = .ok (.iload_n 1, 1) := by decide +kernel
theorem dX12_join_6 : decode cX12_join 6 = .ok (.iconst 4, 1) := by decide +kernel
theorem dX12_join_7 : decode cX12_join 7 = .ok (.if_icmp .ne 7, 3) := by decide +kernel
theorem dX12_join_10 : decode cX12_join 10 = .ok (.iconst 1, 1) := by decide +kernel
theorem dX12_join_11 : decode cX12_join 11 = .ok (.goto 4, 3) := by decide +kernel
theorem dX12_join_14 : decode cX12_join 14 = .ok (.iconst 0, 1) := by decide +kernel
theorem dX12_join_15 : decode cX12_join 15 = .ok (.istore 5, 2) := by decide +kernel
theorem dX12_join_17 : decode cX12_join 17 = .ok (.iload_n 2, 1) := by decide +kernel
theorem dX12_join_18 : decode cX12_join 18 = .ok (.iconst (-1), 1) := by decide +kernel
theorem dX12_join_19 : decode cX12_join 19 = .ok (.if_icmp .ne 7, 3) := by decide +kernel
theorem dX12_join_22 : decode cX12_join 22 = .ok (.iconst 1, 1) := by decide +kernel
theorem dX12_join_23 : decode cX12_join 23 = .ok (.goto 4, 3) := by decide +kernel
theorem dX12_join_26 : decode cX12_join 26 = .ok (.iconst 0, 1) := by decide +kernel
theorem dX12_join_27 : decode cX12_join 27 = .ok (.iload_n 3, 1) := by decide +kernel
theorem dX12_join_28 : decode cX12_join 28 = .ok (.iconst (-1), 1) := by decide +kernel
theorem dX12_join_29 : decode cX12_join 29 = .ok (.if_icmp .ne 7, 3) := by decide +kernel
theorem dX12_join_32 : decode cX12_join 32 = .ok (.iconst 1, 1) := by decide +kernel
theorem dX12_join_33 : decode cX12_join 33 = .ok (.goto 4, 3) := by decide +kernel
theorem dX12_join_36 : decode cX12_join 36 = .ok (.iconst 0, 1) := by decide +kernel
theorem dX12_join_37 : decode cX12_join 37 = .ok (.iadd, 1) := by decide +kernel
theorem dX12_join_38 : decode cX12_join 38 = .ok (.iload_n 1, 1) := by decide +kernel
theorem dX12_join_39 : decode cX12_join 39 = .ok (.iconst 4, 1) := by decide +kernel
theorem dX12_join_40 : decode cX12_join 40 = .ok (.if_icmp .ne 13, 3) := by decide +kernel
theorem dX12_join_43 : decode cX12_join 43 = .ok (.iload 4, 2) := by decide +kernel
theorem dX12_join_45 : decode cX12_join 45 = .ok (.iconst (-1), 1) := by decide +kernel
theorem dX12_join_46 : decode cX12_join 46 = .ok (.if_icmp .ne 7, 3) := by decide +kernel
theorem dX12_join_49 : decode cX12_join 49 = .ok (.iconst 1, 1) := by decide +kernel
theorem dX12_join_50 : decode cX12_join 50 = .ok (.goto 4, 3) := by decide +kernel
theorem dX12_join_53 : decode cX12_join 53 = .ok (.iconst 0, 1) := by decide +kernel
theorem dX12_join_54 : decode cX12_join 54 = .ok (.iadd, 1) := by decide +kernel
theorem dX12_join_55 : decode cX12_join 55 = .ok (.istore 6, 2) := by decide +kernel
theorem dX12_join_57 : decode cX12_join 57 = .ok (.iload_n 1, 1) := by decide +kernel
theorem dX12_join_58 : decode cX12_join 58 = .ok (.i2l, 1) := by decide +kernel
theorem dX12_join_59 : decode cX12_join 59 = .ok (.lconst 1, 1) := by decide +kernel
theorem dX12_join_60 : decode cX12_join 60 = .ok (.ldc2_w 472, 3) := by decide +kernel
theorem dX12_join_63 : decode cX12_join 63 = .ok (.invokestatic 372, 3) := by decide +kernel
theorem dX12_join_66 : decode cX12_join 66 = .ok (.ifCond .eq 53, 3) := by decide +kernel
theorem dX12_join_69 : decode cX12_join 69 = .ok (.iload_n 2, 1) := by decide +kernel
theorem dX12_join_70 : decode cX12_join 70 = .ok (.iconst (-1), 1) := by decide +kernel
theorem dX12_join_71 : decode cX12_join 71 = .ok (.if_icmp .eq 11, 3) := by decide +kernel
theorem dX12_join_74 : decode cX12_join 74 = .ok (.aload_n 0, 1) := by decide +kernel
theorem dX12_join_75 : decode cX12_join 75 = .ok (.iload_n 2, 1) := by decide +kernel
theorem dX12_join_76 : decode cX12_join 76 = .ok (.invokevirtual 474, 3) := by decide +kernel
theorem dX12_join_79 : decode cX12_join 79 = .ok (.ifCond .eq 40, 3) := by decide +kernel
theorem dX12_join_82 : decode cX12_join 82 = .ok (.iload_n 3, 1) := by decide +kernel
theorem dX12_join_83 : decode cX12_join 83 = .ok (.iconst (-1), 1) := by decide +kernel
theorem dX12_join_84 : decode cX12_join 84 = .ok (.if_icmp .eq 11, 3) := by decide +kernel
theorem dX12_join_87 : decode cX12_join 87 = .ok (.aload_n 0, 1) := by decide +kernel
theorem dX12_join_88 : decode cX12_join 88 = .ok (.iload_n 3, 1) := by decide +kernel
theorem dX12_join_89 : decode cX12_join 89 = .ok (.invokevirtual 474, 3) := by decide +kernel
theorem dX12_join_92 : decode cX12_join 92 = .ok (.ifCond .eq 27, 3) := by decide +kernel
theorem dX12_join_95 : decode cX12_join 95 = .ok (.iload 4, 2) := by decide +kernel
theorem dX12_join_97 : decode cX12_join 97 = .ok (.iconst (-1), 1) := by decide +kernel
theorem dX12_join_98 : decode cX12_join 98 = .ok (.if_icmp .eq 17, 3) := by decide +kernel
theorem dX12_join_101 : decode cX12_join 101 = .ok (.aload_n 0, 1) := by decide +kernel
theorem dX12_join_102 : decode cX12_join 102 = .ok (.iload 4, 2) := by decide +kernel
theorem dX12_join_104 : decode cX12_join 104 = .ok (.invokevirtual 474, 3) := by decide +kernel
theorem dX12_join_107 : decode cX12_join 107 = .ok (.ifCond .eq 12, 3) := by decide +kernel
theorem dX12_join_115 : decode cX12_join 115 = .ok (.iconst 1, 1) := by decide +kernel
theorem dX12_join_116 : decode cX12_join 116 = .ok (.goto 4, 3) := by decide +kernel
theorem dX12_join_119 : decode cX12_join 119 = .ok (.iconst 0, 1) := by decide +kernel
theorem dX12_join_120 : decode cX12_join 120 = .ok (.istore 7, 2) := by decide +kernel
theorem dX12_join_122 : decode cX12_join 122 = .ok (.iload_n 2, 1) := by decide +kernel
theorem dX12_join_123 : decode cX12_join 123 = .ok (.ifCond .lt 14, 3) := by decide +kernel
theorem dX12_join_126 : decode cX12_join 126 = .ok (.iload_n 2, 1) := by decide +kernel
theorem dX12_join_127 : decode cX12_join 127 = .ok (.iload_n 3, 1) := by decide +kernel
theorem dX12_join_128 : decode cX12_join 128 = .ok (.if_icmp .eq 19, 3) := by decide +kernel
theorem dX12_join_131 : decode cX12_join 131 = .ok (.iload_n 2, 1) := by decide +kernel
theorem dX12_join_132 : decode cX12_join 132 = .ok (.iload 4, 2) := by decide +kernel
theorem dX12_join_134 : decode cX12_join 134 = .ok (.if_icmp .eq 13, 3) := by decide +kernel
theorem dX12_join_137 : decode cX12_join 137 = .ok (.iload_n 3, 1) := by decide +kernel
theorem dX12_join_138 : decode cX12_join 138 = .ok (.ifCond .lt 13, 3) := by decide +kernel
theorem dX12_join_141 : decode cX12_join 141 = .ok (.iload_n 3, 1) := by decide +kernel
theorem dX12_join_142 : decode cX12_join 142 = .ok (.iload 4, 2) := by decide +kernel
theorem dX12_join_144 : decode cX12_join 144 = .ok (.if_icmp .ne 7, 3) := by decide +kernel
theorem dX12_join_147 : decode cX12_join 147 = .ok (.iconst 1, 1) := by decide +kernel
theorem dX12_join_148 : decode cX12_join 148 = .ok (.goto 4, 3) := by decide +kernel
theorem dX12_join_151 : decode cX12_join 151 = .ok (.iconst 0, 1) := by decide +kernel
theorem dX12_join_152 : decode cX12_join 152 = .ok (.istore 8, 2) := by decide +kernel
theorem dX12_join_154 : decode cX12_join 154 = .ok (.iload 7, 2) := by decide +kernel
theorem dX12_join_156 : decode cX12_join 156 = .ok (.ifCond .eq 23, 3) := by decide +kernel
theorem dX12_join_159 : decode cX12_join 159 = .ok (.iload 8, 2) := by decide +kernel
theorem dX12_join_161 : decode cX12_join 161 = .ok (.ifCond .ne 18, 3) := by decide +kernel
theorem dX12_join_164 : decode cX12_join 164 = .ok (.iload 6, 2) := by decide +kernel
theorem dX12_join_166 : decode cX12_join 166 = .ok (.iload 5, 2) := by decide +kernel
theorem dX12_join_168 : decode cX12_join 168 = .ok (.ifCond .eq 7, 3) := by decide +kernel
theorem dX12_join_171 : decode cX12_join 171 = .ok (.iconst 1, 1) := by decide +kernel
theorem dX12_join_172 : decode cX12_join 172 = .ok (.goto 4, 3) := by decide +kernel
theorem dX12_join_175 : decode cX12_join 175 = .ok (.iconst 0, 1) := by decide +kernel
theorem dX12_join_176 : decode cX12_join 176 = .ok (.if_icmp .le 6, 3) := by decide +kernel
theorem dX12_join_179 : decode cX12_join 179 = .ok (.bipush (-2), 2) := by decide +kernel
theorem dX12_join_181 : decode cX12_join 181 = .ok (.ireturn, 1) := by decide +kernel
theorem dX12_blocks_0 : decode cX12_blocks 0 = .ok (.aload_n 0, 1) := by decide +kernel
theorem dX12_blocks_1 : decode cX12_blocks 1 = .ok (.iload_n 1, 1) := by decide +kernel
theorem dX12_blocks_2 : decode cX12_blocks 2 = .ok (.invokevirtual 474, 3) := by decide +kernel
theorem dX12_blocks_5 : decode cX12_blocks 5 = .ok (.ifCond .eq 12, 3) := by decide +kernel
theorem dX12_blocks_17 : decode cX12_blocks 17 = .ok (.bipush (-2), 2) := by decide +kernel
theorem dX12_blocks_19 : decode cX12_blocks 19 = .ok (.ireturn, 1) := by decide +kernel
theorem dX12_volumeByte_0 : decode cX12_volumeByte 0 = .ok (.aload_n 0, 1) := by decide +kernel
theorem dX12_volumeByte_1 : decode cX12_volumeByte 1 = .ok (.iload_n 1, 1) := by decide +kernel
theorem dX12_volumeByte_2 : decode cX12_volumeByte 2 = .ok (.invokevirtual 474, 3) := by decide +kernel
theorem dX12_volumeByte_5 : decode cX12_volumeByte 5 = .ok (.ifCond .eq 24, 3) := by decide +kernel
theorem dX12_volumeByte_29 : decode cX12_volumeByte 29 = .ok (.bipush (-2), 2) := by decide +kernel
theorem dX12_volumeByte_31 : decode cX12_volumeByte 31 = .ok (.ireturn, 1) := by decide +kernel
theorem dX12_where_0 : decode cX12_where 0 = .ok (.aload_n 0, 1) := by decide +kernel
theorem dX12_where_1 : decode cX12_where 1 = .ok (.iload_n 1, 1) := by decide +kernel
theorem dX12_where_2 : decode cX12_where 2 = .ok (.invokevirtual 474, 3) := by decide +kernel
theorem dX12_where_5 : decode cX12_where 5 = .ok (.ifCond .eq 21, 3) := by decide +kernel
theorem dX12_where_26 : decode cX12_where 26 = .ok (.bipush (-2), 2) := by decide +kernel
theorem dX12_where_28 : decode cX12_where 28 = .ok (.ireturn, 1) := by decide +kernel
theorem dX12_format_0 : decode cX12_format 0 = .ok (.aload_n 0, 1) := by decide +kernel
theorem dX12_format_1 : decode cX12_format 1 = .ok (.iload_n 1, 1) := by decide +kernel
theorem dX12_format_2 : decode cX12_format 2 = .ok (.invokevirtual 474, 3) := by decide +kernel
theorem dX12_format_5 : decode cX12_format 5 = .ok (.ifCond .eq 15, 3) := by decide +kernel
theorem dX12_format_20 : decode cX12_format 20 = .ok (.bipush (-2), 2) := by decide +kernel
theorem dX12_format_22 : decode cX12_format 22 = .ok (.ireturn, 1) := by decide +kernel
theorem dX12_save_0 : decode cX12_save 0 = .ok (.aload_n 0, 1) := by decide +kernel
theorem dX12_save_1 : decode cX12_save 1 = .ok (.iload_n 1, 1) := by decide +kernel
theorem dX12_save_2 : decode cX12_save 2 = .ok (.invokevirtual 474, 3) := by decide +kernel
theorem dX12_save_5 : decode cX12_save 5 = .ok (.ifCond .ne 6, 3) := by decide +kernel
theorem dX12_save_8 : decode cX12_save 8 = .ok (.bipush (-2), 2) := by decide +kernel
theorem dX12_save_10 : decode cX12_save 10 = .ok (.ireturn, 1) := by decide +kernel
theorem dX12_folder_0 : decode cX12_folder 0 = .ok (.aload_n 0, 1) := by decide +kernel
theorem dX12_folder_1 : decode cX12_folder 1 = .ok (.iload_n 1, 1) := by decide +kernel
theorem dX12_folder_2 : decode cX12_folder 2 = .ok (.invokevirtual 474, 3) := by decide +kernel
theorem dX12_folder_5 : decode cX12_folder 5 = .ok (.ifCond .ne 6, 3) := by decide +kernel
theorem dX12_folder_8 : decode cX12_folder 8 = .ok (.bipush (-2), 2) := by decide +kernel
theorem dX12_folder_10 : decode cX12_folder 10 = .ok (.ireturn, 1) := by decide +kernel
theorem dX12_erase_0 : decode cX12_erase 0 = .ok (.aload_n 0, 1) := by decide +kernel
theorem dX12_erase_1 : decode cX12_erase 1 = .ok (.iload_n 1, 1) := by decide +kernel
theorem dX12_erase_2 : decode cX12_erase 2 = .ok (.invokevirtual 474, 3) := by decide +kernel
theorem dX12_erase_5 : decode cX12_erase 5 = .ok (.ifCond .ne 6, 3) := by decide +kernel
theorem dX12_erase_8 : decode cX12_erase 8 = .ok (.bipush (-2), 2) := by decide +kernel
theorem dX12_erase_10 : decode cX12_erase 10 = .ok (.ireturn, 1) := by decide +kernel
theorem dX12_isTree_0 : decode cX12_isTree 0 = .ok (.iload_n 1, 1) := by decide +kernel
theorem dX12_isTree_1 : decode cX12_isTree 1 = .ok (.i2l, 1) := by decide +kernel
theorem dX12_isTree_2 : decode cX12_isTree 2 = .ok (.lconst 0, 1) := by decide +kernel
theorem dX12_isTree_3 : decode cX12_isTree 3 = .ok (.aload_n 0, 1) := by decide +kernel
theorem dX12_isTree_4 : decode cX12_isTree 4 = .ok (.getfield 794, 3) := by decide +kernel
theorem dX12_isTree_7 : decode cX12_isTree 7 = .ok (.iconst 1, 1) := by decide +kernel
theorem dX12_isTree_8 : decode cX12_isTree 8 = .ok (.isub, 1) := by decide +kernel
theorem dX12_isTree_9 : decode cX12_isTree 9 = .ok (.i2l, 1) := by decide +kernel
theorem dX12_isTree_10 : decode cX12_isTree 10 = .ok (.invokestatic 372, 3) := by decide +kernel
theorem dX12_isTree_13 : decode cX12_isTree 13 = .ok (.ireturn, 1) := by decide +kernel
theorem dX12_isFile_0 : decode cX12_isFile 0 = .ok (.aload_n 0, 1) := by decide +kernel
theorem dX12_isFile_1 : decode cX12_isFile 1 = .ok (.iload_n 1, 1) := by decide +kernel
theorem dX12_isFile_2 : decode cX12_isFile 2 = .ok (.invokevirtual 797, 3) := by decide +kernel
theorem dX12_isFile_5 : decode cX12_isFile 5 = .ok (.ifCond .eq 24, 3) := by decide +kernel
theorem dX12_isFile_29 : decode cX12_isFile 29 = .ok (.iconst 0, 1) := by decide +kernel
theorem dX12_isFile_30 : decode cX12_isFile 30 = .ok (.ireturn, 1) := by decide +kernel
theorem dX12_mount_0 : decode cX12_mount 0 = .ok (.aload_n 0, 1) := by decide +kernel
theorem dX12_mount_1 : decode cX12_mount 1 = .ok (.iload_n 1, 1) := by decide +kernel
theorem dX12_mount_2 : decode cX12_mount 2 = .ok (.invokevirtual 474, 3) := by decide +kernel
theorem dX12_mount_5 : decode cX12_mount 5 = .ok (.ifCond .ne 6, 3) := by decide +kernel
theorem dX12_mount_8 : decode cX12_mount 8 = .ok (.bipush (-2), 2) := by decide +kernel
theorem dX12_mount_10 : decode cX12_mount 10 = .ok (.ireturn, 1) := by decide +kernel
theorem dX12_open_0 : decode cX12_open 0 = .ok (.aload_n 0, 1) := by decide +kernel
theorem dX12_open_1 : decode cX12_open 1 = .ok (.iload_n 1, 1) := by decide +kernel
theorem dX12_open_2 : decode cX12_open 2 = .ok (.iload_n 2, 1) := by decide +kernel
theorem dX12_open_3 : decode cX12_open 3 = .ok (.invokevirtual 980, 3) := by decide +kernel
theorem dX12_open_6 : decode cX12_open 6 = .ok (.ifCond .ne 6, 3) := by decide +kernel
theorem dX12_open_9 : decode cX12_open 9 = .ok (.bipush (-2), 2) := by decide +kernel
theorem dX12_open_11 : decode cX12_open 11 = .ok (.ireturn, 1) := by decide +kernel
theorem dX12_isOpen_0 : decode cX12_isOpen 0 = .ok (.iload_n 1, 1) := by decide +kernel
theorem dX12_isOpen_1 : decode cX12_isOpen 1 = .ok (.i2l, 1) := by decide +kernel
theorem dX12_isOpen_2 : decode cX12_isOpen 2 = .ok (.lconst 0, 1) := by decide +kernel
theorem dX12_isOpen_3 : decode cX12_isOpen 3 = .ok (.aload_n 0, 1) := by decide +kernel
theorem dX12_isOpen_4 : decode cX12_isOpen 4 = .ok (.getfield 983, 3) := by decide +kernel
theorem dX12_isOpen_7 : decode cX12_isOpen 7 = .ok (.iconst 1, 1) := by decide +kernel
theorem dX12_isOpen_8 : decode cX12_isOpen 8 = .ok (.isub, 1) := by decide +kernel
theorem dX12_isOpen_9 : decode cX12_isOpen 9 = .ok (.i2l, 1) := by decide +kernel
theorem dX12_isOpen_10 : decode cX12_isOpen 10 = .ok (.invokestatic 372, 3) := by decide +kernel
theorem dX12_isOpen_13 : decode cX12_isOpen 13 = .ok (.ireturn, 1) := by decide +kernel
theorem dX12_isPoint_0 : decode cX12_isPoint 0 = .ok (.aload_n 0, 1) := by decide +kernel
theorem dX12_isPoint_1 : decode cX12_isPoint 1 = .ok (.iload_n 1, 1) := by decide +kernel
theorem dX12_isPoint_2 : decode cX12_isPoint 2 = .ok (.invokevirtual 993, 3) := by decide +kernel
theorem dX12_isPoint_5 : decode cX12_isPoint 5 = .ok (.ifCond .eq 25, 3) := by decide +kernel
theorem dX12_isPoint_30 : decode cX12_isPoint 30 = .ok (.iconst 0, 1) := by decide +kernel
theorem dX12_isPoint_31 : decode cX12_isPoint 31 = .ok (.ireturn, 1) := by decide +kernel
theorem dX12_node_0 : decode cX12_node 0 = .ok (.aload_n 0, 1) := by decide +kernel
theorem dX12_node_1 : decode cX12_node 1 = .ok (.iload_n 1, 1) := by decide +kernel
theorem dX12_node_2 : decode cX12_node 2 = .ok (.iload_n 2, 1) := by decide +kernel
theorem dX12_node_3 : decode cX12_node 3 = .ok (.invokevirtual 996, 3) := by decide +kernel
theorem dX12_node_6 : decode cX12_node 6 = .ok (.ifCond .ne 6, 3) := by decide +kernel
theorem dX12_node_9 : decode cX12_node 9 = .ok (.bipush (-2), 2) := by decide +kernel
theorem dX12_node_11 : decode cX12_node 11 = .ok (.ireturn, 1) := by decide +kernel
theorem dX12_opened_0 : decode cX12_opened 0 = .ok (.aload_n 0, 1) := by decide +kernel
theorem dX12_opened_1 : decode cX12_opened 1 = .ok (.iload_n 1, 1) := by decide +kernel
theorem dX12_opened_2 : decode cX12_opened 2 = .ok (.invokevirtual 993, 3) := by decide +kernel
theorem dX12_opened_5 : decode cX12_opened 5 = .ok (.ifCond .ne 6, 3) := by decide +kernel
theorem dX12_opened_8 : decode cX12_opened 8 = .ok (.bipush (-2), 2) := by decide +kernel
theorem dX12_opened_10 : decode cX12_opened 10 = .ok (.ireturn, 1) := by decide +kernel
theorem dX12_inside_0 : decode cX12_inside 0 = .ok (.aload_n 0, 1) := by decide +kernel
theorem dX12_inside_1 : decode cX12_inside 1 = .ok (.iload_n 1, 1) := by decide +kernel
theorem dX12_inside_2 : decode cX12_inside 2 = .ok (.iload_n 2, 1) := by decide +kernel
theorem dX12_inside_3 : decode cX12_inside 3 = .ok (.invokevirtual 996, 3) := by decide +kernel
theorem dX12_inside_6 : decode cX12_inside 6 = .ok (.ifCond .eq 19, 3) := by decide +kernel
theorem dX12_inside_25 : decode cX12_inside 25 = .ok (.bipush (-2), 2) := by decide +kernel
theorem dX12_inside_27 : decode cX12_inside 27 = .ok (.ireturn, 1) := by decide +kernel
theorem dX12_tree_0 : decode cX12_tree 0 = .ok (.aload_n 0, 1) := by decide +kernel
theorem dX12_tree_1 : decode cX12_tree 1 = .ok (.iload_n 1, 1) := by decide +kernel
theorem dX12_tree_2 : decode cX12_tree 2 = .ok (.invokevirtual 797, 3) := by decide +kernel
theorem dX12_tree_5 : decode cX12_tree 5 = .ok (.ifCond .ne 6, 3) := by decide +kernel
theorem dX12_tree_8 : decode cX12_tree 8 = .ok (.bipush (-2), 2) := by decide +kernel
theorem dX12_tree_10 : decode cX12_tree 10 = .ok (.ireturn, 1) := by decide +kernel
theorem dX12_free_0 : decode cX12_free 0 = .ok (.aload_n 0, 1) := by decide +kernel
theorem dX12_free_1 : decode cX12_free 1 = .ok (.iload_n 1, 1) := by decide +kernel
theorem dX12_free_2 : decode cX12_free 2 = .ok (.invokevirtual 797, 3) := by decide +kernel
theorem dX12_free_5 : decode cX12_free 5 = .ok (.ifCond .eq 17, 3) := by decide +kernel
theorem dX12_free_22 : decode cX12_free 22 = .ok (.bipush (-2), 2) := by decide +kernel
theorem dX12_free_24 : decode cX12_free 24 = .ok (.goto 10, 3) := by decide +kernel
theorem dX12_free_34 : decode cX12_free 34 = .ok (.ireturn, 1) := by decide +kernel
theorem dX12_fault_0 : decode cX12_fault 0 = .ok (.aload_n 0, 1) := by decide +kernel
theorem dX12_fault_1 : decode cX12_fault 1 = .ok (.iload_n 1, 1) := by decide +kernel
theorem dX12_fault_2 : decode cX12_fault 2 = .ok (.invokevirtual 797, 3) := by decide +kernel
theorem dX12_fault_5 : decode cX12_fault 5 = .ok (.ifCond .eq 21, 3) := by decide +kernel
theorem dX12_fault_26 : decode cX12_fault 26 = .ok (.bipush (-2), 2) := by decide +kernel
theorem dX12_fault_28 : decode cX12_fault 28 = .ok (.ireturn, 1) := by decide +kernel
theorem dX12_owner__0 : decode cX12_owner_ 0 = .ok (.aload_n 0, 1) := by decide +kernel
theorem dX12_owner__1 : decode cX12_owner_ 1 = .ok (.iload_n 1, 1) := by decide +kernel
theorem dX12_owner__2 : decode cX12_owner_ 2 = .ok (.invokevirtual 797, 3) := by decide +kernel
theorem dX12_owner__5 : decode cX12_owner_ 5 = .ok (.ifCond .eq 36, 3) := by decide +kernel
theorem dX12_owner__41 : decode cX12_owner_ 41 = .ok (.bipush (-2), 2) := by decide +kernel
theorem dX12_owner__43 : decode cX12_owner_ 43 = .ok (.ireturn, 1) := by decide +kernel
theorem dX12_find_0 : decode cX12_find 0 = .ok (.aload_n 0, 1) := by decide +kernel
theorem dX12_find_1 : decode cX12_find 1 = .ok (.iload_n 1, 1) := by decide +kernel
theorem dX12_find_2 : decode cX12_find 2 = .ok (.invokevirtual 797, 3) := by decide +kernel
theorem dX12_find_5 : decode cX12_find 5 = .ok (.ifCond .ne 6, 3) := by decide +kernel
theorem dX12_find_8 : decode cX12_find 8 = .ok (.bipush (-2), 2) := by decide +kernel
theorem dX12_find_10 : decode cX12_find 10 = .ok (.ireturn, 1) := by decide +kernel
theorem dX12_name_0 : decode cX12_name 0 = .ok (.aload_n 0, 1) := by decide +kernel
theorem dX12_name_1 : decode cX12_name 1 = .ok (.iload_n 1, 1) := by decide +kernel
theorem dX12_name_2 : decode cX12_name 2 = .ok (.iload_n 2, 1) := by decide +kernel
theorem dX12_name_3 : decode cX12_name 3 = .ok (.invokevirtual 980, 3) := by decide +kernel
theorem dX12_name_6 : decode cX12_name 6 = .ok (.ifCond .ne 6, 3) := by decide +kernel
theorem dX12_name_9 : decode cX12_name 9 = .ok (.bipush (-2), 2) := by decide +kernel
theorem dX12_name_11 : decode cX12_name 11 = .ok (.ireturn, 1) := by decide +kernel
theorem dX12_field_0 : decode cX12_field 0 = .ok (.aload_n 0, 1) := by decide +kernel
theorem dX12_field_1 : decode cX12_field 1 = .ok (.iload_n 1, 1) := by decide +kernel
theorem dX12_field_2 : decode cX12_field 2 = .ok (.iload_n 2, 1) := by decide +kernel
theorem dX12_field_3 : decode cX12_field 3 = .ok (.invokevirtual 980, 3) := by decide +kernel
theorem dX12_field_6 : decode cX12_field 6 = .ok (.ifCond .ne 7, 3) := by decide +kernel
theorem dX12_field_9 : decode cX12_field 9 = .ok (.ldc2_w 438, 3) := by decide +kernel
theorem dX12_field_12 : decode cX12_field 12 = .ok (.lreturn, 1) := by decide +kernel
theorem dX12_block_0 : decode cX12_block 0 = .ok (.aload_n 0, 1) := by decide +kernel
theorem dX12_block_1 : decode cX12_block 1 = .ok (.iload_n 1, 1) := by decide +kernel
theorem dX12_block_2 : decode cX12_block 2 = .ok (.iload_n 2, 1) := by decide +kernel
theorem dX12_block_3 : decode cX12_block 3 = .ok (.invokevirtual 980, 3) := by decide +kernel
theorem dX12_block_6 : decode cX12_block 6 = .ok (.ifCond .ne 6, 3) := by decide +kernel
theorem dX12_block_9 : decode cX12_block 9 = .ok (.bipush (-2), 2) := by decide +kernel
theorem dX12_block_11 : decode cX12_block 11 = .ok (.ireturn, 1) := by decide +kernel
theorem dX12_content_0 : decode cX12_content 0 = .ok (.aload_n 0, 1) := by decide +kernel
theorem dX12_content_1 : decode cX12_content 1 = .ok (.iload_n 1, 1) := by decide +kernel
theorem dX12_content_2 : decode cX12_content 2 = .ok (.iload_n 2, 1) := by decide +kernel
theorem dX12_content_3 : decode cX12_content 3 = .ok (.invokevirtual 980, 3) := by decide +kernel
theorem dX12_content_6 : decode cX12_content 6 = .ok (.ifCond .ne 6, 3) := by decide +kernel
theorem dX12_content_9 : decode cX12_content 9 = .ok (.bipush (-2), 2) := by decide +kernel
theorem dX12_content_11 : decode cX12_content 11 = .ok (.ireturn, 1) := by decide +kernel
theorem dX12_slack_0 : decode cX12_slack 0 = .ok (.aload_n 0, 1) := by decide +kernel
theorem dX12_slack_1 : decode cX12_slack 1 = .ok (.iload_n 1, 1) := by decide +kernel
theorem dX12_slack_2 : decode cX12_slack 2 = .ok (.iload_n 2, 1) := by decide +kernel
theorem dX12_slack_3 : decode cX12_slack 3 = .ok (.invokevirtual 980, 3) := by decide +kernel
theorem dX12_slack_6 : decode cX12_slack 6 = .ok (.ifCond .ne 6, 3) := by decide +kernel
theorem dX12_slack_9 : decode cX12_slack 9 = .ok (.bipush (-2), 2) := by decide +kernel
theorem dX12_slack_11 : decode cX12_slack 11 = .ok (.ireturn, 1) := by decide +kernel
theorem dX12_word_0 : decode cX12_word 0 = .ok (.aload_n 0, 1) := by decide +kernel
theorem dX12_word_1 : decode cX12_word 1 = .ok (.iload_n 1, 1) := by decide +kernel
theorem dX12_word_2 : decode cX12_word 2 = .ok (.invokevirtual 797, 3) := by decide +kernel
theorem dX12_word_5 : decode cX12_word 5 = .ok (.ifCond .ne 6, 3) := by decide +kernel
theorem dX12_word_8 : decode cX12_word 8 = .ok (.bipush (-2), 2) := by decide +kernel
theorem dX12_word_10 : decode cX12_word 10 = .ok (.ireturn, 1) := by decide +kernel
theorem dX12_pattern_0 : decode cX12_pattern 0 = .ok (.aload_n 0, 1) := by decide +kernel
theorem dX12_pattern_1 : decode cX12_pattern 1 = .ok (.iload_n 1, 1) := by decide +kernel
theorem dX12_pattern_2 : decode cX12_pattern 2 = .ok (.invokevirtual 797, 3) := by decide +kernel
theorem dX12_pattern_5 : decode cX12_pattern 5 = .ok (.ifCond .ne 6, 3) := by decide +kernel
theorem dX12_pattern_8 : decode cX12_pattern 8 = .ok (.bipush (-2), 2) := by decide +kernel
theorem dX12_pattern_10 : decode cX12_pattern 10 = .ok (.ireturn, 1) := by decide +kernel
theorem dX12_hit_0 : decode cX12_hit 0 = .ok (.iload_n 1, 1) := by decide +kernel
theorem dX12_hit_1 : decode cX12_hit 1 = .ok (.i2l, 1) := by decide +kernel
theorem dX12_hit_2 : decode cX12_hit 2 = .ok (.lconst 0, 1) := by decide +kernel
theorem dX12_hit_3 : decode cX12_hit 3 = .ok (.aload_n 0, 1) := by decide +kernel
theorem dX12_hit_4 : decode cX12_hit 4 = .ok (.getfield 1023, 3) := by decide +kernel
theorem dX12_hit_7 : decode cX12_hit 7 = .ok (.iconst 1, 1) := by decide +kernel
theorem dX12_hit_8 : decode cX12_hit 8 = .ok (.isub, 1) := by decide +kernel
theorem dX12_hit_9 : decode cX12_hit 9 = .ok (.i2l, 1) := by decide +kernel
theorem dX12_hit_10 : decode cX12_hit 10 = .ok (.invokestatic 372, 3) := by decide +kernel
theorem dX12_hit_13 : decode cX12_hit 13 = .ok (.ifCond .ne 6, 3) := by decide +kernel
theorem dX12_hit_16 : decode cX12_hit 16 = .ok (.bipush (-2), 2) := by decide +kernel
theorem dX12_hit_18 : decode cX12_hit 18 = .ok (.ireturn, 1) := by decide +kernel
theorem dX12_question_0 : decode cX12_question 0 = .ok (.aload_n 0, 1) := by decide +kernel
theorem dX12_question_1 : decode cX12_question 1 = .ok (.iload_n 1, 1) := by decide +kernel
theorem dX12_question_2 : decode cX12_question 2 = .ok (.invokevirtual 797, 3) := by decide +kernel
theorem dX12_question_5 : decode cX12_question 5 = .ok (.ifCond .ne 6, 3) := by decide +kernel
theorem dX12_question_8 : decode cX12_question 8 = .ok (.bipush (-2), 2) := by decide +kernel
theorem dX12_question_10 : decode cX12_question 10 = .ok (.ireturn, 1) := by decide +kernel
theorem dX12_row_0 : decode cX12_row 0 = .ok (.iload_n 1, 1) := by decide +kernel
theorem dX12_row_1 : decode cX12_row 1 = .ok (.i2l, 1) := by decide +kernel
theorem dX12_row_2 : decode cX12_row 2 = .ok (.lconst 0, 1) := by decide +kernel
theorem dX12_row_3 : decode cX12_row 3 = .ok (.aload_n 0, 1) := by decide +kernel
theorem dX12_row_4 : decode cX12_row 4 = .ok (.getfield 1133, 3) := by decide +kernel
theorem dX12_row_7 : decode cX12_row 7 = .ok (.iconst 1, 1) := by decide +kernel
theorem dX12_row_8 : decode cX12_row 8 = .ok (.isub, 1) := by decide +kernel
theorem dX12_row_9 : decode cX12_row 9 = .ok (.i2l, 1) := by decide +kernel
theorem dX12_row_10 : decode cX12_row 10 = .ok (.invokestatic 372, 3) := by decide +kernel
theorem dX12_row_13 : decode cX12_row 13 = .ok (.ifCond .eq 12, 3) := by decide +kernel
theorem dX12_row_25 : decode cX12_row 25 = .ok (.bipush (-2), 2) := by decide +kernel
theorem dX12_row_27 : decode cX12_row 27 = .ok (.ireturn, 1) := by decide +kernel
theorem dX12_line_0 : decode cX12_line 0 = .ok (.aload_n 0, 1) := by decide +kernel
theorem dX12_line_1 : decode cX12_line 1 = .ok (.iconst 0, 1) := by decide +kernel
theorem dX12_line_2 : decode cX12_line 2 = .ok (.putfield 1136, 3) := by decide +kernel
theorem dX12_line_5 : decode cX12_line 5 = .ok (.iconst 0, 1) := by decide +kernel
theorem dX12_line_6 : decode cX12_line 6 = .ok (.istore_n 1, 1) := by decide +kernel
theorem dX12_line_7 : decode cX12_line 7 = .ok (.iload_n 1, 1) := by decide +kernel
theorem dX12_line_8 : decode cX12_line 8 = .ok (.aload_n 0, 1) := by decide +kernel
theorem dX12_line_9 : decode cX12_line 9 = .ok (.getfield 794, 3) := by decide +kernel
theorem dX12_line_12 : decode cX12_line 12 = .ok (.if_icmp .ge 76, 3) := by decide +kernel
theorem dX12_line_88 : decode cX12_line 88 = .ok (.iconst 0, 1) := by decide +kernel
theorem dX12_line_89 : decode cX12_line 89 = .ok (.istore_n 1, 1) := by decide +kernel
theorem dX12_line_90 : decode cX12_line 90 = .ok (.iload_n 1, 1) := by decide +kernel
theorem dX12_line_91 : decode cX12_line 91 = .ok (.aload_n 0, 1) := by decide +kernel
theorem dX12_line_92 : decode cX12_line 92 = .ok (.getfield 983, 3) := by decide +kernel
theorem dX12_line_95 : decode cX12_line 95 = .ok (.if_icmp .ge 77, 3) := by decide +kernel
theorem dX12_line_172 : decode cX12_line 172 = .ok (.aload_n 0, 1) := by decide +kernel
theorem dX12_line_173 : decode cX12_line 173 = .ok (.getfield 1136, 3) := by decide +kernel
theorem dX12_line_176 : decode cX12_line 176 = .ok (.ireturn, 1) := by decide +kernel
theorem dX12_time_0 : decode cX12_time 0 = .ok (.iload_n 1, 1) := by decide +kernel
theorem dX12_time_1 : decode cX12_time 1 = .ok (.i2l, 1) := by decide +kernel
theorem dX12_time_2 : decode cX12_time 2 = .ok (.lconst 0, 1) := by decide +kernel
theorem dX12_time_3 : decode cX12_time 3 = .ok (.aload_n 0, 1) := by decide +kernel
theorem dX12_time_4 : decode cX12_time 4 = .ok (.getfield 1136, 3) := by decide +kernel
theorem dX12_time_7 : decode cX12_time 7 = .ok (.iconst 1, 1) := by decide +kernel
theorem dX12_time_8 : decode cX12_time 8 = .ok (.isub, 1) := by decide +kernel
theorem dX12_time_9 : decode cX12_time 9 = .ok (.i2l, 1) := by decide +kernel
theorem dX12_time_10 : decode cX12_time 10 = .ok (.invokestatic 372, 3) := by decide +kernel
theorem dX12_time_13 : decode cX12_time 13 = .ok (.ifCond .ne 7, 3) := by decide +kernel
theorem dX12_time_16 : decode cX12_time 16 = .ok (.ldc2_w 438, 3) := by decide +kernel
theorem dX12_time_19 : decode cX12_time 19 = .ok (.lreturn, 1) := by decide +kernel
theorem dX12_doubts_0 : decode cX12_doubts 0 = .ok (.aload_n 0, 1) := by decide +kernel
theorem dX12_doubts_1 : decode cX12_doubts 1 = .ok (.iconst 0, 1) := by decide +kernel
theorem dX12_doubts_2 : decode cX12_doubts 2 = .ok (.putfield 1147, 3) := by decide +kernel
theorem dX12_doubts_5 : decode cX12_doubts 5 = .ok (.iconst 0, 1) := by decide +kernel
theorem dX12_doubts_6 : decode cX12_doubts 6 = .ok (.istore_n 1, 1) := by decide +kernel
theorem dX12_doubts_7 : decode cX12_doubts 7 = .ok (.iload_n 1, 1) := by decide +kernel
theorem dX12_doubts_8 : decode cX12_doubts 8 = .ok (.aload_n 0, 1) := by decide +kernel
theorem dX12_doubts_9 : decode cX12_doubts 9 = .ok (.getfield 794, 3) := by decide +kernel
theorem dX12_doubts_12 : decode cX12_doubts 12 = .ok (.if_icmp .ge 169, 3) := by decide +kernel
theorem dX12_doubts_181 : decode cX12_doubts 181 = .ok (.aload_n 0, 1) := by decide +kernel
theorem dX12_doubts_182 : decode cX12_doubts 182 = .ok (.getfield 1147, 3) := by decide +kernel
theorem dX12_doubts_185 : decode cX12_doubts 185 = .ok (.ireturn, 1) := by decide +kernel
theorem dX12_doubt_0 : decode cX12_doubt 0 = .ok (.iload_n 1, 1) := by decide +kernel
theorem dX12_doubt_1 : decode cX12_doubt 1 = .ok (.i2l, 1) := by decide +kernel
theorem dX12_doubt_2 : decode cX12_doubt 2 = .ok (.lconst 0, 1) := by decide +kernel
theorem dX12_doubt_3 : decode cX12_doubt 3 = .ok (.aload_n 0, 1) := by decide +kernel
theorem dX12_doubt_4 : decode cX12_doubt 4 = .ok (.getfield 1147, 3) := by decide +kernel
theorem dX12_doubt_7 : decode cX12_doubt 7 = .ok (.iconst 1, 1) := by decide +kernel
theorem dX12_doubt_8 : decode cX12_doubt 8 = .ok (.isub, 1) := by decide +kernel
theorem dX12_doubt_9 : decode cX12_doubt 9 = .ok (.i2l, 1) := by decide +kernel
theorem dX12_doubt_10 : decode cX12_doubt 10 = .ok (.invokestatic 372, 3) := by decide +kernel
theorem dX12_doubt_13 : decode cX12_doubt 13 = .ok (.ifCond .ne 6, 3) := by decide +kernel
theorem dX12_doubt_16 : decode cX12_doubt 16 = .ok (.bipush (-2), 2) := by decide +kernel
theorem dX12_doubt_18 : decode cX12_doubt 18 = .ok (.ireturn, 1) := by decide +kernel
theorem dX12_isOwnFile_0 : decode cX12_isOwnFile 0 = .ok (.aload_n 0, 1) := by decide +kernel
theorem dX12_isOwnFile_1 : decode cX12_isOwnFile 1 = .ok (.iload_n 1, 1) := by decide +kernel
theorem dX12_isOwnFile_2 : decode cX12_isOwnFile 2 = .ok (.iload_n 2, 1) := by decide +kernel
theorem dX12_isOwnFile_3 : decode cX12_isOwnFile 3 = .ok (.invokevirtual 980, 3) := by decide +kernel
theorem dX12_isOwnFile_6 : decode cX12_isOwnFile 6 = .ok (.ifCond .eq 23, 3) := by decide +kernel
theorem dX12_isOwnFile_29 : decode cX12_isOwnFile 29 = .ok (.iconst 0, 1) := by decide +kernel
theorem dX12_isOwnFile_30 : decode cX12_isOwnFile 30 = .ok (.ireturn, 1) := by decide +kernel
theorem dX12_claim_0 : decode cX12_claim 0 = .ok (.aload_n 0, 1) := by decide +kernel
theorem dX12_claim_1 : decode cX12_claim 1 = .ok (.iload_n 1, 1) := by decide +kernel
theorem dX12_claim_2 : decode cX12_claim 2 = .ok (.iload_n 2, 1) := by decide +kernel
theorem dX12_claim_3 : decode cX12_claim 3 = .ok (.invokevirtual 1153, 3) := by decide +kernel
theorem dX12_claim_6 : decode cX12_claim 6 = .ok (.ifCond .eq 40, 3) := by decide +kernel
theorem dX12_claim_46 : decode cX12_claim 46 = .ok (.bipush (-2), 2) := by decide +kernel
theorem dX12_claim_48 : decode cX12_claim 48 = .ok (.ireturn, 1) := by decide +kernel
theorem dX12_claimed_0 : decode cX12_claimed 0 = .ok (.iload_n 1, 1) := by decide +kernel
theorem dX12_claimed_1 : decode cX12_claimed 1 = .ok (.i2l, 1) := by decide +kernel
theorem dX12_claimed_2 : decode cX12_claimed 2 = .ok (.lconst 0, 1) := by decide +kernel
theorem dX12_claimed_3 : decode cX12_claimed 3 = .ok (.aload_n 0, 1) := by decide +kernel
theorem dX12_claimed_4 : decode cX12_claimed 4 = .ok (.getfield 1156, 3) := by decide +kernel
theorem dX12_claimed_7 : decode cX12_claimed 7 = .ok (.iconst 1, 1) := by decide +kernel
theorem dX12_claimed_8 : decode cX12_claimed 8 = .ok (.isub, 1) := by decide +kernel
theorem dX12_claimed_9 : decode cX12_claimed 9 = .ok (.i2l, 1) := by decide +kernel
theorem dX12_claimed_10 : decode cX12_claimed 10 = .ok (.invokestatic 372, 3) := by decide +kernel
theorem dX12_claimed_13 : decode cX12_claimed 13 = .ok (.ifCond .ne 6, 3) := by decide +kernel
theorem dX12_claimed_16 : decode cX12_claimed 16 = .ok (.bipush (-2), 2) := by decide +kernel
theorem dX12_claimed_18 : decode cX12_claimed 18 = .ok (.ireturn, 1) := by decide +kernel
theorem dX12_check_0 : decode cX12_check 0 = .ok (.iload_n 1, 1) := by decide +kernel
theorem dX12_check_1 : decode cX12_check 1 = .ok (.i2l, 1) := by decide +kernel
theorem dX12_check_2 : decode cX12_check 2 = .ok (.lconst 0, 1) := by decide +kernel
theorem dX12_check_3 : decode cX12_check 3 = .ok (.aload_n 0, 1) := by decide +kernel
theorem dX12_check_4 : decode cX12_check 4 = .ok (.getfield 1156, 3) := by decide +kernel
theorem dX12_check_7 : decode cX12_check 7 = .ok (.iconst 1, 1) := by decide +kernel
theorem dX12_check_8 : decode cX12_check 8 = .ok (.isub, 1) := by decide +kernel
theorem dX12_check_9 : decode cX12_check 9 = .ok (.i2l, 1) := by decide +kernel
theorem dX12_check_10 : decode cX12_check 10 = .ok (.invokestatic 372, 3) := by decide +kernel
theorem dX12_check_13 : decode cX12_check 13 = .ok (.ifCond .ne 6, 3) := by decide +kernel
theorem dX12_check_16 : decode cX12_check 16 = .ok (.bipush (-2), 2) := by decide +kernel
theorem dX12_check_18 : decode cX12_check 18 = .ok (.ireturn, 1) := by decide +kernel
theorem dX12_linkOf_0 : decode cX12_linkOf 0 = .ok (.iload_n 1, 1) := by decide +kernel
theorem dX12_linkOf_1 : decode cX12_linkOf 1 = .ok (.ifCond .ne 7, 3) := by decide +kernel
theorem dX12_linkOf_4 : decode cX12_linkOf 4 = .ok (.lconst 1, 1) := by decide +kernel
theorem dX12_linkOf_5 : decode cX12_linkOf 5 = .ok (.goto 11, 3) := by decide +kernel
theorem dX12_linkOf_16 : decode cX12_linkOf 16 = .ok (.ldc2_w 1165, 3) := by decide +kernel
theorem dX12_linkOf_19 : decode cX12_linkOf 19 = .ok (.lmul, 1) := by decide +kernel
theorem dX12_linkOf_20 : decode cX12_linkOf 20 = .ok (.aload_n 0, 1) := by decide +kernel
theorem dX12_linkOf_21 : decode cX12_linkOf 21 = .ok (.getfield 354, 3) := by decide +kernel
theorem dX12_linkOf_24 : decode cX12_linkOf 24 = .ok (.iload_n 1, 1) := by decide +kernel
theorem dX12_linkOf_25 : decode cX12_linkOf 25 = .ok (.iaload, 1) := by decide +kernel
theorem dX12_linkOf_26 : decode cX12_linkOf 26 = .ok (.i2l, 1) := by decide +kernel
theorem dX12_linkOf_27 : decode cX12_linkOf 27 = .ok (.ladd, 1) := by decide +kernel
theorem dX12_linkOf_28 : decode cX12_linkOf 28 = .ok (.lstore_n 2, 1) := by decide +kernel
theorem dX12_linkOf_29 : decode cX12_linkOf 29 = .ok (.lload_n 2, 1) := by decide +kernel
theorem dX12_linkOf_30 : decode cX12_linkOf 30 = .ok (.lload_n 2, 1) := by decide +kernel
theorem dX12_linkOf_31 : decode cX12_linkOf 31 = .ok (.bipush 29, 2) := by decide +kernel
theorem dX12_linkOf_33 : decode cX12_linkOf 33 = .ok (.lushr, 1) := by decide +kernel
theorem dX12_linkOf_34 : decode cX12_linkOf 34 = .ok (.lxor, 1) := by decide +kernel
theorem dX12_linkOf_35 : decode cX12_linkOf 35 = .ok (.ldc2_w 1167, 3) := by decide +kernel
theorem dX12_linkOf_38 : decode cX12_linkOf 38 = .ok (.lmul, 1) := by decide +kernel
theorem dX12_linkOf_39 : decode cX12_linkOf 39 = .ok (.aload_n 0, 1) := by decide +kernel
theorem dX12_linkOf_40 : decode cX12_linkOf 40 = .ok (.getfield 357, 3) := by decide +kernel
theorem dX12_linkOf_43 : decode cX12_linkOf 43 = .ok (.iload_n 1, 1) := by decide +kernel
theorem dX12_linkOf_44 : decode cX12_linkOf 44 = .ok (.iaload, 1) := by decide +kernel
theorem dX12_linkOf_45 : decode cX12_linkOf 45 = .ok (.i2l, 1) := by decide +kernel
theorem dX12_linkOf_46 : decode cX12_linkOf 46 = .ok (.ladd, 1) := by decide +kernel
theorem dX12_linkOf_47 : decode cX12_linkOf 47 = .ok (.lstore_n 2, 1) := by decide +kernel
theorem dX12_linkOf_48 : decode cX12_linkOf 48 = .ok (.lload_n 2, 1) := by decide +kernel
theorem dX12_linkOf_49 : decode cX12_linkOf 49 = .ok (.lload_n 2, 1) := by decide +kernel
theorem dX12_linkOf_50 : decode cX12_linkOf 50 = .ok (.bipush 32, 2) := by decide +kernel
theorem dX12_linkOf_52 : decode cX12_linkOf 52 = .ok (.lushr, 1) := by decide +kernel
theorem dX12_linkOf_53 : decode cX12_linkOf 53 = .ok (.lxor, 1) := by decide +kernel
theorem dX12_linkOf_54 : decode cX12_linkOf 54 = .ok (.ldc2_w 1169, 3) := by decide +kernel
theorem dX12_linkOf_57 : decode cX12_linkOf 57 = .ok (.lmul, 1) := by decide +kernel
theorem dX12_linkOf_58 : decode cX12_linkOf 58 = .ok (.aload_n 0, 1) := by decide +kernel
theorem dX12_linkOf_59 : decode cX12_linkOf 59 = .ok (.getfield 360, 3) := by decide +kernel
theorem dX12_linkOf_62 : decode cX12_linkOf 62 = .ok (.iload_n 1, 1) := by decide +kernel
theorem dX12_linkOf_63 : decode cX12_linkOf 63 = .ok (.iaload, 1) := by decide +kernel
theorem dX12_linkOf_64 : decode cX12_linkOf 64 = .ok (.i2l, 1) := by decide +kernel
theorem dX12_linkOf_65 : decode cX12_linkOf 65 = .ok (.ladd, 1) := by decide +kernel
theorem dX12_linkOf_66 : decode cX12_linkOf 66 = .ok (.lstore_n 2, 1) := by decide +kernel
theorem dX12_linkOf_67 : decode cX12_linkOf 67 = .ok (.lload_n 2, 1) := by decide +kernel
theorem dX12_linkOf_68 : decode cX12_linkOf 68 = .ok (.lload_n 2, 1) := by decide +kernel
theorem dX12_linkOf_69 : decode cX12_linkOf 69 = .ok (.bipush 31, 2) := by decide +kernel
theorem dX12_linkOf_71 : decode cX12_linkOf 71 = .ok (.lushr, 1) := by decide +kernel
theorem dX12_linkOf_72 : decode cX12_linkOf 72 = .ok (.lxor, 1) := by decide +kernel
theorem dX12_linkOf_73 : decode cX12_linkOf 73 = .ok (.lreturn, 1) := by decide +kernel
theorem dX12_act_0 : decode cX12_act 0 = .ok (.aload_n 0, 1) := by decide +kernel
theorem dX12_act_1 : decode cX12_act 1 = .ok (.getfield 366, 3) := by decide +kernel
theorem dX12_act_4 : decode cX12_act 4 = .ok (.bipush 100, 2) := by decide +kernel
theorem dX12_act_6 : decode cX12_act 6 = .ok (.if_icmp .ne 6, 3) := by decide +kernel
theorem dX12_act_12 : decode cX12_act 12 = .ok (.aload_n 0, 1) := by decide +kernel
theorem dX12_act_13 : decode cX12_act 13 = .ok (.getfield 354, 3) := by decide +kernel
theorem dX12_act_16 : decode cX12_act 16 = .ok (.aload_n 0, 1) := by decide +kernel
theorem dX12_act_17 : decode cX12_act 17 = .ok (.getfield 366, 3) := by decide +kernel
theorem dX12_act_20 : decode cX12_act 20 = .ok (.iload_n 1, 1) := by decide +kernel
theorem dX12_act_21 : decode cX12_act 21 = .ok (.iastore, 1) := by decide +kernel
theorem dX12_act_22 : decode cX12_act 22 = .ok (.aload_n 0, 1) := by decide +kernel
theorem dX12_act_23 : decode cX12_act 23 = .ok (.getfield 357, 3) := by decide +kernel
theorem dX12_act_26 : decode cX12_act 26 = .ok (.aload_n 0, 1) := by decide +kernel
theorem dX12_act_27 : decode cX12_act 27 = .ok (.getfield 366, 3) := by decide +kernel
theorem dX12_act_30 : decode cX12_act 30 = .ok (.iload_n 2, 1) := by decide +kernel
theorem dX12_act_31 : decode cX12_act 31 = .ok (.iastore, 1) := by decide +kernel
theorem dX12_act_32 : decode cX12_act 32 = .ok (.aload_n 0, 1) := by decide +kernel
theorem dX12_act_33 : decode cX12_act 33 = .ok (.getfield 360, 3) := by decide +kernel
theorem dX12_act_36 : decode cX12_act 36 = .ok (.aload_n 0, 1) := by decide +kernel
theorem dX12_act_37 : decode cX12_act 37 = .ok (.getfield 366, 3) := by decide +kernel
theorem dX12_act_40 : decode cX12_act 40 = .ok (.aload_n 0, 1) := by decide +kernel
theorem dX12_act_41 : decode cX12_act 41 = .ok (.getfield 383, 3) := by decide +kernel
theorem dX12_act_44 : decode cX12_act 44 = .ok (.iastore, 1) := by decide +kernel
theorem dX12_act_45 : decode cX12_act 45 = .ok (.aload_n 0, 1) := by decide +kernel
theorem dX12_act_46 : decode cX12_act 46 = .ok (.getfield 363, 3) := by decide +kernel
theorem dX12_act_49 : decode cX12_act 49 = .ok (.aload_n 0, 1) := by decide +kernel
theorem dX12_act_50 : decode cX12_act 50 = .ok (.getfield 366, 3) := by decide +kernel
theorem dX12_act_53 : decode cX12_act 53 = .ok (.aload_n 0, 1) := by decide +kernel
theorem dX12_act_54 : decode cX12_act 54 = .ok (.aload_n 0, 1) := by decide +kernel
theorem dX12_act_55 : decode cX12_act 55 = .ok (.getfield 366, 3) := by decide +kernel
theorem dX12_act_58 : decode cX12_act 58 = .ok (.invokevirtual 1171, 3) := by decide +kernel
theorem dX12_act_61 : decode cX12_act 61 = .ok (.lastore, 1) := by decide +kernel
theorem dX12_act_62 : decode cX12_act 62 = .ok (.aload_n 0, 1) := by decide +kernel
theorem dX12_act_63 : decode cX12_act 63 = .ok (.dup, 1) := by decide +kernel
theorem dX12_act_64 : decode cX12_act 64 = .ok (.getfield 366, 3) := by decide +kernel
theorem dX12_act_67 : decode cX12_act 67 = .ok (.iconst 1, 1) := by decide +kernel
theorem dX12_act_68 : decode cX12_act 68 = .ok (.iadd, 1) := by decide +kernel
theorem dX12_act_69 : decode cX12_act 69 = .ok (.putfield 366, 3) := by decide +kernel
theorem dX12_act_72 : decode cX12_act 72 = .ok (.aload_n 0, 1) := by decide +kernel
theorem dX12_act_73 : decode cX12_act 73 = .ok (.getfield 366, 3) := by decide +kernel
theorem dX12_act_76 : decode cX12_act 76 = .ok (.iconst 1, 1) := by decide +kernel
theorem dX12_act_77 : decode cX12_act 77 = .ok (.isub, 1) := by decide +kernel
theorem dX12_act_78 : decode cX12_act 78 = .ok (.ireturn, 1) := by decide +kernel
theorem dX12_link_0 : decode cX12_link 0 = .ok (.iload_n 1, 1) := by decide +kernel
theorem dX12_link_1 : decode cX12_link 1 = .ok (.i2l, 1) := by decide +kernel
theorem dX12_link_2 : decode cX12_link 2 = .ok (.lconst 0, 1) := by decide +kernel
theorem dX12_link_3 : decode cX12_link 3 = .ok (.aload_n 0, 1) := by decide +kernel
theorem dX12_link_4 : decode cX12_link 4 = .ok (.getfield 366, 3) := by decide +kernel
theorem dX12_link_7 : decode cX12_link 7 = .ok (.iconst 1, 1) := by decide +kernel
theorem dX12_link_8 : decode cX12_link 8 = .ok (.isub, 1) := by decide +kernel
theorem dX12_link_9 : decode cX12_link 9 = .ok (.i2l, 1) := by decide +kernel
theorem dX12_link_10 : decode cX12_link 10 = .ok (.invokestatic 372, 3) := by decide +kernel
theorem dX12_link_13 : decode cX12_link 13 = .ok (.ifCond .eq 12, 3) := by decide +kernel
theorem dX12_link_25 : decode cX12_link 25 = .ok (.lconst 0, 1) := by decide +kernel
theorem dX12_link_26 : decode cX12_link 26 = .ok (.lreturn, 1) := by decide +kernel
theorem dX12_alter_0 : decode cX12_alter 0 = .ok (.iload_n 1, 1) := by decide +kernel
theorem dX12_alter_1 : decode cX12_alter 1 = .ok (.i2l, 1) := by decide +kernel
theorem dX12_alter_2 : decode cX12_alter 2 = .ok (.lconst 0, 1) := by decide +kernel
theorem dX12_alter_3 : decode cX12_alter 3 = .ok (.aload_n 0, 1) := by decide +kernel
theorem dX12_alter_4 : decode cX12_alter 4 = .ok (.getfield 366, 3) := by decide +kernel
theorem dX12_alter_7 : decode cX12_alter 7 = .ok (.iconst 1, 1) := by decide +kernel
theorem dX12_alter_8 : decode cX12_alter 8 = .ok (.isub, 1) := by decide +kernel
theorem dX12_alter_9 : decode cX12_alter 9 = .ok (.i2l, 1) := by decide +kernel
theorem dX12_alter_10 : decode cX12_alter 10 = .ok (.invokestatic 372, 3) := by decide +kernel
theorem dX12_alter_13 : decode cX12_alter 13 = .ok (.ifCond .eq 15, 3) := by decide +kernel
theorem dX12_alter_28 : decode cX12_alter 28 = .ok (.bipush (-2), 2) := by decide +kernel
theorem dX12_alter_30 : decode cX12_alter 30 = .ok (.ireturn, 1) := by decide +kernel
theorem dX12_chain_0 : decode cX12_chain 0 = .ok (.iconst 0, 1) := by decide +kernel
theorem dX12_chain_1 : decode cX12_chain 1 = .ok (.istore_n 1, 1) := by decide +kernel
theorem dX12_chain_2 : decode cX12_chain 2 = .ok (.iload_n 1, 1) := by decide +kernel
theorem dX12_chain_3 : decode cX12_chain 3 = .ok (.aload_n 0, 1) := by decide +kernel
theorem dX12_chain_4 : decode cX12_chain 4 = .ok (.getfield 366, 3) := by decide +kernel
theorem dX12_chain_7 : decode cX12_chain 7 = .ok (.if_icmp .ge 26, 3) := by decide +kernel
theorem dX12_chain_33 : decode cX12_chain 33 = .ok (.iconst (-1), 1) := by decide +kernel
theorem dX12_chain_34 : decode cX12_chain 34 = .ok (.ireturn, 1) := by decide +kernel
theorem dX12_count_0 : decode cX12_count 0 = .ok (.iload_n 1, 1) := by decide +kernel
theorem dX12_count_1 : decode cX12_count 1 = .ok (.tableswitch 105 0 9 #[55, 60, 65, 70, 75, 80, 85, 90, 95, 100], 55) := by decide +kernel
theorem dX12_count_56 : decode cX12_count 56 = .ok (.aload_n 0, 1) := by decide +kernel
theorem dX12_count_57 : decode cX12_count 57 = .ok (.getfield 376, 3) := by decide +kernel
theorem dX12_count_60 : decode cX12_count 60 = .ok (.ireturn, 1) := by decide +kernel
theorem dX12_count_61 : decode cX12_count 61 = .ok (.aload_n 0, 1) := by decide +kernel
theorem dX12_count_62 : decode cX12_count 62 = .ok (.getfield 393, 3) := by decide +kernel
theorem dX12_count_65 : decode cX12_count 65 = .ok (.ireturn, 1) := by decide +kernel
theorem dX12_count_66 : decode cX12_count 66 = .ok (.aload_n 0, 1) := by decide +kernel
theorem dX12_count_67 : decode cX12_count 67 = .ok (.getfield 466, 3) := by decide +kernel
theorem dX12_count_70 : decode cX12_count 70 = .ok (.ireturn, 1) := by decide +kernel
theorem dX12_count_71 : decode cX12_count 71 = .ok (.aload_n 0, 1) := by decide +kernel
theorem dX12_count_72 : decode cX12_count 72 = .ok (.getfield 794, 3) := by decide +kernel
theorem dX12_count_75 : decode cX12_count 75 = .ok (.ireturn, 1) := by decide +kernel
theorem dX12_count_76 : decode cX12_count 76 = .ok (.aload_n 0, 1) := by decide +kernel
theorem dX12_count_77 : decode cX12_count 77 = .ok (.getfield 983, 3) := by decide +kernel
theorem dX12_count_80 : decode cX12_count 80 = .ok (.ireturn, 1) := by decide +kernel
theorem dX12_count_81 : decode cX12_count 81 = .ok (.aload_n 0, 1) := by decide +kernel
theorem dX12_count_82 : decode cX12_count 82 = .ok (.getfield 1023, 3) := by decide +kernel
theorem dX12_count_85 : decode cX12_count 85 = .ok (.ireturn, 1) := by decide +kernel
theorem dX12_count_86 : decode cX12_count 86 = .ok (.aload_n 0, 1) := by decide +kernel
theorem dX12_count_87 : decode cX12_count 87 = .ok (.getfield 1133, 3) := by decide +kernel
theorem dX12_count_90 : decode cX12_count 90 = .ok (.ireturn, 1) := by decide +kernel
theorem dX12_count_91 : decode cX12_count 91 = .ok (.aload_n 0, 1) := by decide +kernel
theorem dX12_count_92 : decode cX12_count 92 = .ok (.getfield 1156, 3) := by decide +kernel
theorem dX12_count_95 : decode cX12_count 95 = .ok (.ireturn, 1) := by decide +kernel
theorem dX12_count_96 : decode cX12_count 96 = .ok (.aload_n 0, 1) := by decide +kernel
theorem dX12_count_97 : decode cX12_count 97 = .ok (.getfield 366, 3) := by decide +kernel
theorem dX12_count_100 : decode cX12_count 100 = .ok (.ireturn, 1) := by decide +kernel
theorem dX12_count_101 : decode cX12_count 101 = .ok (.aload_n 0, 1) := by decide +kernel
theorem dX12_count_102 : decode cX12_count 102 = .ok (.getfield 383, 3) := by decide +kernel
theorem dX12_count_105 : decode cX12_count 105 = .ok (.ireturn, 1) := by decide +kernel
theorem dX12_count_106 : decode cX12_count 106 = .ok (.bipush (-2), 2) := by decide +kernel
theorem dX12_count_108 : decode cX12_count 108 = .ok (.ireturn, 1) := by decide +kernel
theorem dL_law_0 : decode cL_law 0 = .ok (.new 7, 3) := by decide +kernel
theorem dL_law_3 : decode cL_law 3 = .ok (.dup, 1) := by decide +kernel
theorem dL_law_4 : decode cL_law 4 = .ok (.invokespecial 9, 3) := by decide +kernel
theorem dL_law_7 : decode cL_law 7 = .ok (.astore_n 1, 1) := by decide +kernel
theorem dL_law_8 : decode cL_law 8 = .ok (.new 10, 3) := by decide +kernel
theorem dL_law_11 : decode cL_law 11 = .ok (.dup, 1) := by decide +kernel
theorem dL_law_12 : decode cL_law 12 = .ok (.invokespecial 12, 3) := by decide +kernel
theorem dL_law_15 : decode cL_law 15 = .ok (.astore_n 2, 1) := by decide +kernel
theorem dL_law_16 : decode cL_law 16 = .ok (.iconst 0, 1) := by decide +kernel
theorem dL_law_17 : decode cL_law 17 = .ok (.istore_n 3, 1) := by decide +kernel
theorem dL_law_18 : decode cL_law 18 = .ok (.iload_n 3, 1) := by decide +kernel
theorem dL_law_19 : decode cL_law 19 = .ok (.aload_n 0, 1) := by decide +kernel
theorem dL_law_20 : decode cL_law 20 = .ok (.arraylength, 1) := by decide +kernel
theorem dL_law_21 : decode cL_law 21 = .ok (.iconst 5, 1) := by decide +kernel
theorem dL_law_22 : decode cL_law 22 = .ok (.isub, 1) := by decide +kernel
theorem dL_law_23 : decode cL_law 23 = .ok (.if_icmp .gt 1962, 3) := by decide +kernel
theorem dL_law_26 : decode cL_law 26 = .ok (.aload_n 0, 1) := by decide +kernel
theorem dL_law_27 : decode cL_law 27 = .ok (.iload_n 3, 1) := by decide +kernel
theorem dL_law_28 : decode cL_law 28 = .ok (.iaload, 1) := by decide +kernel
theorem dL_law_29 : decode cL_law 29 = .ok (.bipush 63, 2) := by decide +kernel
theorem dL_law_31 : decode cL_law 31 = .ok (.iand, 1) := by decide +kernel
theorem dL_law_32 : decode cL_law 32 = .ok (.tableswitch 1947 0 52 #[228, 291, 304, 327, 350, 363, 386, 445, 478, 521, 565, 588, 631, 674, 727, 750, 783, 816, 859, 882, 905, 928, 951, 984, 1027, 1060, 1103, 1126, 1169, 1213, 1256, 1299, 1342, 1375, 1418, 1451, 1484, 1507, 1530, 1563, 1586, 1609, 1622, 1656, 1669, 1702, 1755, 1788, 1811, 1844, 1868, 1911, 1924], 228) := by decide +kernel
theorem dL_law_260 : decode cL_law 260 = .ok (.aload_n 1, 1) := by decide +kernel
theorem dL_law_261 : decode cL_law 261 = .ok (.aload_n 0, 1) := by decide +kernel
theorem dL_law_262 : decode cL_law 262 = .ok (.iload_n 3, 1) := by decide +kernel
theorem dL_law_263 : decode cL_law 263 = .ok (.iconst 1, 1) := by decide +kernel
theorem dL_law_264 : decode cL_law 264 = .ok (.iadd, 1) := by decide +kernel
theorem dL_law_265 : decode cL_law 265 = .ok (.iaload, 1) := by decide +kernel
theorem dL_law_266 : decode cL_law 266 = .ok (.i2l, 1) := by decide +kernel
theorem dL_law_267 : decode cL_law 267 = .ok (.bipush 32, 2) := by decide +kernel
theorem dL_law_269 : decode cL_law 269 = .ok (.lshl, 1) := by decide +kernel
theorem dL_law_270 : decode cL_law 270 = .ok (.aload_n 0, 1) := by decide +kernel
theorem dL_law_271 : decode cL_law 271 = .ok (.iload_n 3, 1) := by decide +kernel
theorem dL_law_272 : decode cL_law 272 = .ok (.iconst 2, 1) := by decide +kernel
theorem dL_law_273 : decode cL_law 273 = .ok (.iadd, 1) := by decide +kernel
theorem dL_law_274 : decode cL_law 274 = .ok (.iaload, 1) := by decide +kernel
theorem dL_law_275 : decode cL_law 275 = .ok (.i2l, 1) := by decide +kernel
theorem dL_law_276 : decode cL_law 276 = .ok (.ldc2_w 13, 3) := by decide +kernel
theorem dL_law_279 : decode cL_law 279 = .ok (.land, 1) := by decide +kernel
theorem dL_law_280 : decode cL_law 280 = .ok (.lor, 1) := by decide +kernel
theorem dL_law_281 : decode cL_law 281 = .ok (.aload_n 0, 1) := by decide +kernel
theorem dL_law_282 : decode cL_law 282 = .ok (.iload_n 3, 1) := by decide +kernel
theorem dL_law_283 : decode cL_law 283 = .ok (.iconst 3, 1) := by decide +kernel
theorem dL_law_284 : decode cL_law 284 = .ok (.iadd, 1) := by decide +kernel
theorem dL_law_285 : decode cL_law 285 = .ok (.iaload, 1) := by decide +kernel
theorem dL_law_286 : decode cL_law 286 = .ok (.invokevirtual 15, 3) := by decide +kernel
theorem dL_law_289 : decode cL_law 289 = .ok (.aload_n 2, 1) := by decide +kernel
theorem dL_law_290 : decode cL_law 290 = .ok (.aload_n 0, 1) := by decide +kernel
theorem dL_law_291 : decode cL_law 291 = .ok (.iload_n 3, 1) := by decide +kernel
theorem dL_law_292 : decode cL_law 292 = .ok (.iconst 1, 1) := by decide +kernel
theorem dL_law_293 : decode cL_law 293 = .ok (.iadd, 1) := by decide +kernel
theorem dL_law_294 : decode cL_law 294 = .ok (.iaload, 1) := by decide +kernel
theorem dL_law_295 : decode cL_law 295 = .ok (.i2l, 1) := by decide +kernel
theorem dL_law_296 : decode cL_law 296 = .ok (.bipush 32, 2) := by decide +kernel
theorem dL_law_298 : decode cL_law 298 = .ok (.lshl, 1) := by decide +kernel
theorem dL_law_299 : decode cL_law 299 = .ok (.aload_n 0, 1) := by decide +kernel
theorem dL_law_300 : decode cL_law 300 = .ok (.iload_n 3, 1) := by decide +kernel
theorem dL_law_301 : decode cL_law 301 = .ok (.iconst 2, 1) := by decide +kernel
theorem dL_law_302 : decode cL_law 302 = .ok (.iadd, 1) := by decide +kernel
theorem dL_law_303 : decode cL_law 303 = .ok (.iaload, 1) := by decide +kernel
theorem dL_law_304 : decode cL_law 304 = .ok (.i2l, 1) := by decide +kernel
theorem dL_law_305 : decode cL_law 305 = .ok (.ldc2_w 13, 3) := by decide +kernel
theorem dL_law_308 : decode cL_law 308 = .ok (.land, 1) := by decide +kernel
theorem dL_law_309 : decode cL_law 309 = .ok (.lor, 1) := by decide +kernel
theorem dL_law_310 : decode cL_law 310 = .ok (.aload_n 0, 1) := by decide +kernel
theorem dL_law_311 : decode cL_law 311 = .ok (.iload_n 3, 1) := by decide +kernel
theorem dL_law_312 : decode cL_law 312 = .ok (.iconst 3, 1) := by decide +kernel
theorem dL_law_313 : decode cL_law 313 = .ok (.iadd, 1) := by decide +kernel
theorem dL_law_314 : decode cL_law 314 = .ok (.iaload, 1) := by decide +kernel
theorem dL_law_315 : decode cL_law 315 = .ok (.invokevirtual 19, 3) := by decide +kernel
theorem dL_law_318 : decode cL_law 318 = .ok (.if_icmp .eq 1661, 3) := by decide +kernel
theorem dL_law_323 : decode cL_law 323 = .ok (.aload_n 1, 1) := by decide +kernel
theorem dL_law_324 : decode cL_law 324 = .ok (.invokevirtual 20, 3) := by decide +kernel
theorem dL_law_327 : decode cL_law 327 = .ok (.aload_n 2, 1) := by decide +kernel
theorem dL_law_328 : decode cL_law 328 = .ok (.invokevirtual 24, 3) := by decide +kernel
theorem dL_law_331 : decode cL_law 331 = .ok (.if_icmp .eq 1648, 3) := by decide +kernel
theorem dL_law_336 : decode cL_law 336 = .ok (.aload_n 1, 1) := by decide +kernel
theorem dL_law_337 : decode cL_law 337 = .ok (.aload_n 0, 1) := by decide +kernel
theorem dL_law_338 : decode cL_law 338 = .ok (.iload_n 3, 1) := by decide +kernel
theorem dL_law_339 : decode cL_law 339 = .ok (.iconst 1, 1) := by decide +kernel
theorem dL_law_340 : decode cL_law 340 = .ok (.iadd, 1) := by decide +kernel
theorem dL_law_341 : decode cL_law 341 = .ok (.iaload, 1) := by decide +kernel
theorem dL_law_342 : decode cL_law 342 = .ok (.invokevirtual 25, 3) := by decide +kernel
theorem dL_law_345 : decode cL_law 345 = .ok (.aload_n 2, 1) := by decide +kernel
theorem dL_law_346 : decode cL_law 346 = .ok (.aload_n 0, 1) := by decide +kernel
theorem dL_law_347 : decode cL_law 347 = .ok (.iload_n 3, 1) := by decide +kernel
theorem dL_law_348 : decode cL_law 348 = .ok (.iconst 1, 1) := by decide +kernel
theorem dL_law_349 : decode cL_law 349 = .ok (.iadd, 1) := by decide +kernel
theorem dL_law_350 : decode cL_law 350 = .ok (.iaload, 1) := by decide +kernel
theorem dL_law_351 : decode cL_law 351 = .ok (.invokevirtual 29, 3) := by decide +kernel
theorem dL_law_354 : decode cL_law 354 = .ok (.if_icmp .eq 1625, 3) := by decide +kernel
theorem dL_law_359 : decode cL_law 359 = .ok (.aload_n 1, 1) := by decide +kernel
theorem dL_law_360 : decode cL_law 360 = .ok (.aload_n 0, 1) := by decide +kernel
theorem dL_law_361 : decode cL_law 361 = .ok (.iload_n 3, 1) := by decide +kernel
theorem dL_law_362 : decode cL_law 362 = .ok (.iconst 1, 1) := by decide +kernel
theorem dL_law_363 : decode cL_law 363 = .ok (.iadd, 1) := by decide +kernel
theorem dL_law_364 : decode cL_law 364 = .ok (.iaload, 1) := by decide +kernel
theorem dL_law_365 : decode cL_law 365 = .ok (.invokevirtual 30, 3) := by decide +kernel
theorem dL_law_368 : decode cL_law 368 = .ok (.aload_n 2, 1) := by decide +kernel
theorem dL_law_369 : decode cL_law 369 = .ok (.aload_n 0, 1) := by decide +kernel
theorem dL_law_370 : decode cL_law 370 = .ok (.iload_n 3, 1) := by decide +kernel
theorem dL_law_371 : decode cL_law 371 = .ok (.iconst 1, 1) := by decide +kernel
theorem dL_law_372 : decode cL_law 372 = .ok (.iadd, 1) := by decide +kernel
theorem dL_law_373 : decode cL_law 373 = .ok (.iaload, 1) := by decide +kernel
theorem dL_law_374 : decode cL_law 374 = .ok (.invokevirtual 33, 3) := by decide +kernel
theorem dL_law_377 : decode cL_law 377 = .ok (.if_icmp .eq 1602, 3) := by decide +kernel
theorem dL_law_382 : decode cL_law 382 = .ok (.aload_n 1, 1) := by decide +kernel
theorem dL_law_383 : decode cL_law 383 = .ok (.invokevirtual 34, 3) := by decide +kernel
theorem dL_law_386 : decode cL_law 386 = .ok (.aload_n 2, 1) := by decide +kernel
theorem dL_law_387 : decode cL_law 387 = .ok (.invokevirtual 37, 3) := by decide +kernel
theorem dL_law_390 : decode cL_law 390 = .ok (.if_icmp .eq 1589, 3) := by decide +kernel
theorem dL_law_395 : decode cL_law 395 = .ok (.aload_n 1, 1) := by decide +kernel
theorem dL_law_396 : decode cL_law 396 = .ok (.aload_n 0, 1) := by decide +kernel
theorem dL_law_397 : decode cL_law 397 = .ok (.iload_n 3, 1) := by decide +kernel
theorem dL_law_398 : decode cL_law 398 = .ok (.iconst 1, 1) := by decide +kernel
theorem dL_law_399 : decode cL_law 399 = .ok (.iadd, 1) := by decide +kernel
theorem dL_law_400 : decode cL_law 400 = .ok (.iaload, 1) := by decide +kernel
theorem dL_law_401 : decode cL_law 401 = .ok (.invokevirtual 38, 3) := by decide +kernel
theorem dL_law_404 : decode cL_law 404 = .ok (.aload_n 2, 1) := by decide +kernel
theorem dL_law_405 : decode cL_law 405 = .ok (.aload_n 0, 1) := by decide +kernel
theorem dL_law_406 : decode cL_law 406 = .ok (.iload_n 3, 1) := by decide +kernel
theorem dL_law_407 : decode cL_law 407 = .ok (.iconst 1, 1) := by decide +kernel
theorem dL_law_408 : decode cL_law 408 = .ok (.iadd, 1) := by decide +kernel
theorem dL_law_409 : decode cL_law 409 = .ok (.iaload, 1) := by decide +kernel
theorem dL_law_410 : decode cL_law 410 = .ok (.invokevirtual 41, 3) := by decide +kernel
theorem dL_law_413 : decode cL_law 413 = .ok (.if_icmp .eq 1566, 3) := by decide +kernel
theorem dL_law_418 : decode cL_law 418 = .ok (.aload_n 1, 1) := by decide +kernel
theorem dL_law_419 : decode cL_law 419 = .ok (.aload_n 0, 1) := by decide +kernel
theorem dL_law_420 : decode cL_law 420 = .ok (.iload_n 3, 1) := by decide +kernel
theorem dL_law_421 : decode cL_law 421 = .ok (.iconst 1, 1) := by decide +kernel
theorem dL_law_422 : decode cL_law 422 = .ok (.iadd, 1) := by decide +kernel
theorem dL_law_423 : decode cL_law 423 = .ok (.iaload, 1) := by decide +kernel
theorem dL_law_424 : decode cL_law 424 = .ok (.aload_n 0, 1) := by decide +kernel
theorem dL_law_425 : decode cL_law 425 = .ok (.iload_n 3, 1) := by decide +kernel
theorem dL_law_426 : decode cL_law 426 = .ok (.iconst 2, 1) := by decide +kernel
theorem dL_law_427 : decode cL_law 427 = .ok (.iadd, 1) := by decide +kernel
theorem dL_law_428 : decode cL_law 428 = .ok (.iaload, 1) := by decide +kernel
theorem dL_law_429 : decode cL_law 429 = .ok (.aload_n 0, 1) := by decide +kernel
theorem dL_law_430 : decode cL_law 430 = .ok (.iload_n 3, 1) := by decide +kernel
theorem dL_law_431 : decode cL_law 431 = .ok (.iconst 3, 1) := by decide +kernel
theorem dL_law_432 : decode cL_law 432 = .ok (.iadd, 1) := by decide +kernel
theorem dL_law_433 : decode cL_law 433 = .ok (.iaload, 1) := by decide +kernel
theorem dL_law_434 : decode cL_law 434 = .ok (.ifCond .eq 7, 3) := by decide +kernel
theorem dL_law_437 : decode cL_law 437 = .ok (.iconst 1, 1) := by decide +kernel
theorem dL_law_438 : decode cL_law 438 = .ok (.goto 4, 3) := by decide +kernel
theorem dL_law_441 : decode cL_law 441 = .ok (.iconst 0, 1) := by decide +kernel
theorem dL_law_442 : decode cL_law 442 = .ok (.invokevirtual 42, 3) := by decide +kernel
theorem dL_law_445 : decode cL_law 445 = .ok (.aload_n 2, 1) := by decide +kernel
theorem dL_law_446 : decode cL_law 446 = .ok (.aload_n 0, 1) := by decide +kernel
theorem dL_law_447 : decode cL_law 447 = .ok (.iload_n 3, 1) := by decide +kernel
theorem dL_law_448 : decode cL_law 448 = .ok (.iconst 1, 1) := by decide +kernel
theorem dL_law_449 : decode cL_law 449 = .ok (.iadd, 1) := by decide +kernel
theorem dL_law_450 : decode cL_law 450 = .ok (.iaload, 1) := by decide +kernel
theorem dL_law_451 : decode cL_law 451 = .ok (.aload_n 0, 1) := by decide +kernel
theorem dL_law_452 : decode cL_law 452 = .ok (.iload_n 3, 1) := by decide +kernel
theorem dL_law_453 : decode cL_law 453 = .ok (.iconst 2, 1) := by decide +kernel
theorem dL_law_454 : decode cL_law 454 = .ok (.iadd, 1) := by decide +kernel
theorem dL_law_455 : decode cL_law 455 = .ok (.iaload, 1) := by decide +kernel
theorem dL_law_456 : decode cL_law 456 = .ok (.aload_n 0, 1) := by decide +kernel
theorem dL_law_457 : decode cL_law 457 = .ok (.iload_n 3, 1) := by decide +kernel
theorem dL_law_458 : decode cL_law 458 = .ok (.iconst 3, 1) := by decide +kernel
theorem dL_law_459 : decode cL_law 459 = .ok (.iadd, 1) := by decide +kernel
theorem dL_law_460 : decode cL_law 460 = .ok (.iaload, 1) := by decide +kernel
theorem dL_law_461 : decode cL_law 461 = .ok (.ifCond .eq 7, 3) := by decide +kernel
theorem dL_law_464 : decode cL_law 464 = .ok (.iconst 1, 1) := by decide +kernel
theorem dL_law_465 : decode cL_law 465 = .ok (.goto 4, 3) := by decide +kernel
theorem dL_law_468 : decode cL_law 468 = .ok (.iconst 0, 1) := by decide +kernel
theorem dL_law_469 : decode cL_law 469 = .ok (.invokevirtual 46, 3) := by decide +kernel
theorem dL_law_472 : decode cL_law 472 = .ok (.if_icmp .eq 1507, 3) := by decide +kernel
theorem dL_law_477 : decode cL_law 477 = .ok (.aload_n 1, 1) := by decide +kernel
theorem dL_law_478 : decode cL_law 478 = .ok (.aload_n 0, 1) := by decide +kernel
theorem dL_law_479 : decode cL_law 479 = .ok (.iload_n 3, 1) := by decide +kernel
theorem dL_law_480 : decode cL_law 480 = .ok (.iconst 1, 1) := by decide +kernel
theorem dL_law_481 : decode cL_law 481 = .ok (.iadd, 1) := by decide +kernel
theorem dL_law_482 : decode cL_law 482 = .ok (.iaload, 1) := by decide +kernel
theorem dL_law_483 : decode cL_law 483 = .ok (.aload_n 0, 1) := by decide +kernel
theorem dL_law_484 : decode cL_law 484 = .ok (.iload_n 3, 1) := by decide +kernel
theorem dL_law_485 : decode cL_law 485 = .ok (.iconst 2, 1) := by decide +kernel
theorem dL_law_486 : decode cL_law 486 = .ok (.iadd, 1) := by decide +kernel
theorem dL_law_487 : decode cL_law 487 = .ok (.iaload, 1) := by decide +kernel
theorem dL_law_488 : decode cL_law 488 = .ok (.invokevirtual 47, 3) := by decide +kernel
theorem dL_law_491 : decode cL_law 491 = .ok (.aload_n 2, 1) := by decide +kernel
theorem dL_law_492 : decode cL_law 492 = .ok (.aload_n 0, 1) := by decide +kernel
theorem dL_law_493 : decode cL_law 493 = .ok (.iload_n 3, 1) := by decide +kernel
theorem dL_law_494 : decode cL_law 494 = .ok (.iconst 1, 1) := by decide +kernel
theorem dL_law_495 : decode cL_law 495 = .ok (.iadd, 1) := by decide +kernel
theorem dL_law_496 : decode cL_law 496 = .ok (.iaload, 1) := by decide +kernel
theorem dL_law_497 : decode cL_law 497 = .ok (.aload_n 0, 1) := by decide +kernel
theorem dL_law_498 : decode cL_law 498 = .ok (.iload_n 3, 1) := by decide +kernel
theorem dL_law_499 : decode cL_law 499 = .ok (.iconst 2, 1) := by decide +kernel
theorem dL_law_500 : decode cL_law 500 = .ok (.iadd, 1) := by decide +kernel
theorem dL_law_501 : decode cL_law 501 = .ok (.iaload, 1) := by decide +kernel
theorem dL_law_502 : decode cL_law 502 = .ok (.invokevirtual 51, 3) := by decide +kernel
theorem dL_law_505 : decode cL_law 505 = .ok (.if_icmp .eq 1474, 3) := by decide +kernel
theorem dL_law_510 : decode cL_law 510 = .ok (.aload_n 1, 1) := by decide +kernel
theorem dL_law_511 : decode cL_law 511 = .ok (.aload_n 0, 1) := by decide +kernel
theorem dL_law_512 : decode cL_law 512 = .ok (.iload_n 3, 1) := by decide +kernel
theorem dL_law_513 : decode cL_law 513 = .ok (.iconst 1, 1) := by decide +kernel
theorem dL_law_514 : decode cL_law 514 = .ok (.iadd, 1) := by decide +kernel
theorem dL_law_515 : decode cL_law 515 = .ok (.iaload, 1) := by decide +kernel
theorem dL_law_516 : decode cL_law 516 = .ok (.aload_n 0, 1) := by decide +kernel
theorem dL_law_517 : decode cL_law 517 = .ok (.iload_n 3, 1) := by decide +kernel
theorem dL_law_518 : decode cL_law 518 = .ok (.iconst 2, 1) := by decide +kernel
theorem dL_law_519 : decode cL_law 519 = .ok (.iadd, 1) := by decide +kernel
theorem dL_law_520 : decode cL_law 520 = .ok (.iaload, 1) := by decide +kernel
theorem dL_law_521 : decode cL_law 521 = .ok (.aload_n 0, 1) := by decide +kernel
theorem dL_law_522 : decode cL_law 522 = .ok (.iload_n 3, 1) := by decide +kernel
theorem dL_law_523 : decode cL_law 523 = .ok (.iconst 3, 1) := by decide +kernel
theorem dL_law_524 : decode cL_law 524 = .ok (.iadd, 1) := by decide +kernel
theorem dL_law_525 : decode cL_law 525 = .ok (.iaload, 1) := by decide +kernel
theorem dL_law_526 : decode cL_law 526 = .ok (.invokevirtual 52, 3) := by decide +kernel
theorem dL_law_529 : decode cL_law 529 = .ok (.aload_n 2, 1) := by decide +kernel
theorem dL_law_530 : decode cL_law 530 = .ok (.aload_n 0, 1) := by decide +kernel
theorem dL_law_531 : decode cL_law 531 = .ok (.iload_n 3, 1) := by decide +kernel
theorem dL_law_532 : decode cL_law 532 = .ok (.iconst 1, 1) := by decide +kernel
theorem dL_law_533 : decode cL_law 533 = .ok (.iadd, 1) := by decide +kernel
theorem dL_law_534 : decode cL_law 534 = .ok (.iaload, 1) := by decide +kernel
theorem dL_law_535 : decode cL_law 535 = .ok (.aload_n 0, 1) := by decide +kernel
theorem dL_law_536 : decode cL_law 536 = .ok (.iload_n 3, 1) := by decide +kernel
theorem dL_law_537 : decode cL_law 537 = .ok (.iconst 2, 1) := by decide +kernel
theorem dL_law_538 : decode cL_law 538 = .ok (.iadd, 1) := by decide +kernel
theorem dL_law_539 : decode cL_law 539 = .ok (.iaload, 1) := by decide +kernel
theorem dL_law_540 : decode cL_law 540 = .ok (.aload_n 0, 1) := by decide +kernel
theorem dL_law_541 : decode cL_law 541 = .ok (.iload_n 3, 1) := by decide +kernel
theorem dL_law_542 : decode cL_law 542 = .ok (.iconst 3, 1) := by decide +kernel
theorem dL_law_543 : decode cL_law 543 = .ok (.iadd, 1) := by decide +kernel
theorem dL_law_544 : decode cL_law 544 = .ok (.iaload, 1) := by decide +kernel
theorem dL_law_545 : decode cL_law 545 = .ok (.invokevirtual 56, 3) := by decide +kernel
theorem dL_law_548 : decode cL_law 548 = .ok (.if_icmp .eq 1431, 3) := by decide +kernel
theorem dL_law_553 : decode cL_law 553 = .ok (.aload_n 1, 1) := by decide +kernel
theorem dL_law_554 : decode cL_law 554 = .ok (.aload_n 0, 1) := by decide +kernel
theorem dL_law_555 : decode cL_law 555 = .ok (.iload_n 3, 1) := by decide +kernel
theorem dL_law_556 : decode cL_law 556 = .ok (.iconst 1, 1) := by decide +kernel
theorem dL_law_557 : decode cL_law 557 = .ok (.iadd, 1) := by decide +kernel
theorem dL_law_558 : decode cL_law 558 = .ok (.iaload, 1) := by decide +kernel
theorem dL_law_559 : decode cL_law 559 = .ok (.aload_n 0, 1) := by decide +kernel
theorem dL_law_560 : decode cL_law 560 = .ok (.iload_n 3, 1) := by decide +kernel
theorem dL_law_561 : decode cL_law 561 = .ok (.iconst 2, 1) := by decide +kernel
theorem dL_law_562 : decode cL_law 562 = .ok (.iadd, 1) := by decide +kernel
theorem dL_law_563 : decode cL_law 563 = .ok (.iaload, 1) := by decide +kernel
theorem dL_law_564 : decode cL_law 564 = .ok (.aload_n 0, 1) := by decide +kernel
theorem dL_law_565 : decode cL_law 565 = .ok (.iload_n 3, 1) := by decide +kernel
theorem dL_law_566 : decode cL_law 566 = .ok (.iconst 3, 1) := by decide +kernel
theorem dL_law_567 : decode cL_law 567 = .ok (.iadd, 1) := by decide +kernel
theorem dL_law_568 : decode cL_law 568 = .ok (.iaload, 1) := by decide +kernel
theorem dL_law_569 : decode cL_law 569 = .ok (.invokevirtual 57, 3) := by decide +kernel
theorem dL_law_572 : decode cL_law 572 = .ok (.aload_n 2, 1) := by decide +kernel
theorem dL_law_573 : decode cL_law 573 = .ok (.aload_n 0, 1) := by decide +kernel
theorem dL_law_574 : decode cL_law 574 = .ok (.iload_n 3, 1) := by decide +kernel
theorem dL_law_575 : decode cL_law 575 = .ok (.iconst 1, 1) := by decide +kernel
theorem dL_law_576 : decode cL_law 576 = .ok (.iadd, 1) := by decide +kernel
theorem dL_law_577 : decode cL_law 577 = .ok (.iaload, 1) := by decide +kernel
theorem dL_law_578 : decode cL_law 578 = .ok (.aload_n 0, 1) := by decide +kernel
theorem dL_law_579 : decode cL_law 579 = .ok (.iload_n 3, 1) := by decide +kernel
theorem dL_law_580 : decode cL_law 580 = .ok (.iconst 2, 1) := by decide +kernel
theorem dL_law_581 : decode cL_law 581 = .ok (.iadd, 1) := by decide +kernel
theorem dL_law_582 : decode cL_law 582 = .ok (.iaload, 1) := by decide +kernel
theorem dL_law_583 : decode cL_law 583 = .ok (.aload_n 0, 1) := by decide +kernel
theorem dL_law_584 : decode cL_law 584 = .ok (.iload_n 3, 1) := by decide +kernel
theorem dL_law_585 : decode cL_law 585 = .ok (.iconst 3, 1) := by decide +kernel
theorem dL_law_586 : decode cL_law 586 = .ok (.iadd, 1) := by decide +kernel
theorem dL_law_587 : decode cL_law 587 = .ok (.iaload, 1) := by decide +kernel
theorem dL_law_588 : decode cL_law 588 = .ok (.invokevirtual 61, 3) := by decide +kernel
theorem dL_law_591 : decode cL_law 591 = .ok (.lcmp, 1) := by decide +kernel
theorem dL_law_592 : decode cL_law 592 = .ok (.ifCond .eq 1387, 3) := by decide +kernel
theorem dL_law_597 : decode cL_law 597 = .ok (.aload_n 1, 1) := by decide +kernel
theorem dL_law_598 : decode cL_law 598 = .ok (.aload_n 0, 1) := by decide +kernel
theorem dL_law_599 : decode cL_law 599 = .ok (.iload_n 3, 1) := by decide +kernel
theorem dL_law_600 : decode cL_law 600 = .ok (.iconst 1, 1) := by decide +kernel
theorem dL_law_601 : decode cL_law 601 = .ok (.iadd, 1) := by decide +kernel
theorem dL_law_602 : decode cL_law 602 = .ok (.iaload, 1) := by decide +kernel
theorem dL_law_603 : decode cL_law 603 = .ok (.invokevirtual 62, 3) := by decide +kernel
theorem dL_law_606 : decode cL_law 606 = .ok (.aload_n 2, 1) := by decide +kernel
theorem dL_law_607 : decode cL_law 607 = .ok (.aload_n 0, 1) := by decide +kernel
theorem dL_law_608 : decode cL_law 608 = .ok (.iload_n 3, 1) := by decide +kernel
theorem dL_law_609 : decode cL_law 609 = .ok (.iconst 1, 1) := by decide +kernel
theorem dL_law_610 : decode cL_law 610 = .ok (.iadd, 1) := by decide +kernel
theorem dL_law_611 : decode cL_law 611 = .ok (.iaload, 1) := by decide +kernel
theorem dL_law_612 : decode cL_law 612 = .ok (.invokevirtual 65, 3) := by decide +kernel
theorem dL_law_615 : decode cL_law 615 = .ok (.if_icmp .eq 1364, 3) := by decide +kernel
theorem dL_law_620 : decode cL_law 620 = .ok (.aload_n 1, 1) := by decide +kernel
theorem dL_law_621 : decode cL_law 621 = .ok (.aload_n 0, 1) := by decide +kernel
theorem dL_law_622 : decode cL_law 622 = .ok (.iload_n 3, 1) := by decide +kernel
theorem dL_law_623 : decode cL_law 623 = .ok (.iconst 1, 1) := by decide +kernel
theorem dL_law_624 : decode cL_law 624 = .ok (.iadd, 1) := by decide +kernel
theorem dL_law_625 : decode cL_law 625 = .ok (.iaload, 1) := by decide +kernel
theorem dL_law_626 : decode cL_law 626 = .ok (.aload_n 0, 1) := by decide +kernel
theorem dL_law_627 : decode cL_law 627 = .ok (.iload_n 3, 1) := by decide +kernel
theorem dL_law_628 : decode cL_law 628 = .ok (.iconst 2, 1) := by decide +kernel
theorem dL_law_629 : decode cL_law 629 = .ok (.iadd, 1) := by decide +kernel
theorem dL_law_630 : decode cL_law 630 = .ok (.iaload, 1) := by decide +kernel
theorem dL_law_631 : decode cL_law 631 = .ok (.aload_n 0, 1) := by decide +kernel
theorem dL_law_632 : decode cL_law 632 = .ok (.iload_n 3, 1) := by decide +kernel
theorem dL_law_633 : decode cL_law 633 = .ok (.iconst 3, 1) := by decide +kernel
theorem dL_law_634 : decode cL_law 634 = .ok (.iadd, 1) := by decide +kernel
theorem dL_law_635 : decode cL_law 635 = .ok (.iaload, 1) := by decide +kernel
theorem dL_law_636 : decode cL_law 636 = .ok (.invokevirtual 66, 3) := by decide +kernel
theorem dL_law_639 : decode cL_law 639 = .ok (.aload_n 2, 1) := by decide +kernel
theorem dL_law_640 : decode cL_law 640 = .ok (.aload_n 0, 1) := by decide +kernel
theorem dL_law_641 : decode cL_law 641 = .ok (.iload_n 3, 1) := by decide +kernel
theorem dL_law_642 : decode cL_law 642 = .ok (.iconst 1, 1) := by decide +kernel
theorem dL_law_643 : decode cL_law 643 = .ok (.iadd, 1) := by decide +kernel
theorem dL_law_644 : decode cL_law 644 = .ok (.iaload, 1) := by decide +kernel
theorem dL_law_645 : decode cL_law 645 = .ok (.aload_n 0, 1) := by decide +kernel
theorem dL_law_646 : decode cL_law 646 = .ok (.iload_n 3, 1) := by decide +kernel
theorem dL_law_647 : decode cL_law 647 = .ok (.iconst 2, 1) := by decide +kernel
theorem dL_law_648 : decode cL_law 648 = .ok (.iadd, 1) := by decide +kernel
theorem dL_law_649 : decode cL_law 649 = .ok (.iaload, 1) := by decide +kernel
theorem dL_law_650 : decode cL_law 650 = .ok (.aload_n 0, 1) := by decide +kernel
theorem dL_law_651 : decode cL_law 651 = .ok (.iload_n 3, 1) := by decide +kernel
theorem dL_law_652 : decode cL_law 652 = .ok (.iconst 3, 1) := by decide +kernel
theorem dL_law_653 : decode cL_law 653 = .ok (.iadd, 1) := by decide +kernel
theorem dL_law_654 : decode cL_law 654 = .ok (.iaload, 1) := by decide +kernel
theorem dL_law_655 : decode cL_law 655 = .ok (.invokevirtual 69, 3) := by decide +kernel
theorem dL_law_658 : decode cL_law 658 = .ok (.if_icmp .eq 1321, 3) := by decide +kernel
theorem dL_law_663 : decode cL_law 663 = .ok (.aload_n 1, 1) := by decide +kernel
theorem dL_law_664 : decode cL_law 664 = .ok (.aload_n 0, 1) := by decide +kernel
theorem dL_law_665 : decode cL_law 665 = .ok (.iload_n 3, 1) := by decide +kernel
theorem dL_law_666 : decode cL_law 666 = .ok (.iconst 1, 1) := by decide +kernel
theorem dL_law_667 : decode cL_law 667 = .ok (.iadd, 1) := by decide +kernel
theorem dL_law_668 : decode cL_law 668 = .ok (.iaload, 1) := by decide +kernel
theorem dL_law_669 : decode cL_law 669 = .ok (.aload_n 0, 1) := by decide +kernel
theorem dL_law_670 : decode cL_law 670 = .ok (.iload_n 3, 1) := by decide +kernel
theorem dL_law_671 : decode cL_law 671 = .ok (.iconst 2, 1) := by decide +kernel
theorem dL_law_672 : decode cL_law 672 = .ok (.iadd, 1) := by decide +kernel
theorem dL_law_673 : decode cL_law 673 = .ok (.iaload, 1) := by decide +kernel
theorem dL_law_674 : decode cL_law 674 = .ok (.aload_n 0, 1) := by decide +kernel
theorem dL_law_675 : decode cL_law 675 = .ok (.iload_n 3, 1) := by decide +kernel
theorem dL_law_676 : decode cL_law 676 = .ok (.iconst 3, 1) := by decide +kernel
theorem dL_law_677 : decode cL_law 677 = .ok (.iadd, 1) := by decide +kernel
theorem dL_law_678 : decode cL_law 678 = .ok (.iaload, 1) := by decide +kernel
theorem dL_law_679 : decode cL_law 679 = .ok (.invokevirtual 70, 3) := by decide +kernel
theorem dL_law_682 : decode cL_law 682 = .ok (.aload_n 2, 1) := by decide +kernel
theorem dL_law_683 : decode cL_law 683 = .ok (.aload_n 0, 1) := by decide +kernel
theorem dL_law_684 : decode cL_law 684 = .ok (.iload_n 3, 1) := by decide +kernel
theorem dL_law_685 : decode cL_law 685 = .ok (.iconst 1, 1) := by decide +kernel
theorem dL_law_686 : decode cL_law 686 = .ok (.iadd, 1) := by decide +kernel
theorem dL_law_687 : decode cL_law 687 = .ok (.iaload, 1) := by decide +kernel
theorem dL_law_688 : decode cL_law 688 = .ok (.aload_n 0, 1) := by decide +kernel
theorem dL_law_689 : decode cL_law 689 = .ok (.iload_n 3, 1) := by decide +kernel
theorem dL_law_690 : decode cL_law 690 = .ok (.iconst 2, 1) := by decide +kernel
theorem dL_law_691 : decode cL_law 691 = .ok (.iadd, 1) := by decide +kernel
theorem dL_law_692 : decode cL_law 692 = .ok (.iaload, 1) := by decide +kernel
theorem dL_law_693 : decode cL_law 693 = .ok (.aload_n 0, 1) := by decide +kernel
theorem dL_law_694 : decode cL_law 694 = .ok (.iload_n 3, 1) := by decide +kernel
theorem dL_law_695 : decode cL_law 695 = .ok (.iconst 3, 1) := by decide +kernel
theorem dL_law_696 : decode cL_law 696 = .ok (.iadd, 1) := by decide +kernel
theorem dL_law_697 : decode cL_law 697 = .ok (.iaload, 1) := by decide +kernel
theorem dL_law_698 : decode cL_law 698 = .ok (.invokevirtual 73, 3) := by decide +kernel
theorem dL_law_701 : decode cL_law 701 = .ok (.if_icmp .eq 1278, 3) := by decide +kernel
theorem dL_law_706 : decode cL_law 706 = .ok (.aload_n 1, 1) := by decide +kernel
theorem dL_law_707 : decode cL_law 707 = .ok (.aload_n 0, 1) := by decide +kernel
theorem dL_law_708 : decode cL_law 708 = .ok (.iload_n 3, 1) := by decide +kernel
theorem dL_law_709 : decode cL_law 709 = .ok (.iconst 1, 1) := by decide +kernel
theorem dL_law_710 : decode cL_law 710 = .ok (.iadd, 1) := by decide +kernel
theorem dL_law_711 : decode cL_law 711 = .ok (.iaload, 1) := by decide +kernel
theorem dL_law_712 : decode cL_law 712 = .ok (.aload_n 0, 1) := by decide +kernel
theorem dL_law_713 : decode cL_law 713 = .ok (.iload_n 3, 1) := by decide +kernel
theorem dL_law_714 : decode cL_law 714 = .ok (.iconst 2, 1) := by decide +kernel
theorem dL_law_715 : decode cL_law 715 = .ok (.iadd, 1) := by decide +kernel
theorem dL_law_716 : decode cL_law 716 = .ok (.iaload, 1) := by decide +kernel
theorem dL_law_717 : decode cL_law 717 = .ok (.aload_n 0, 1) := by decide +kernel
theorem dL_law_718 : decode cL_law 718 = .ok (.iload_n 3, 1) := by decide +kernel
theorem dL_law_719 : decode cL_law 719 = .ok (.iconst 3, 1) := by decide +kernel
theorem dL_law_720 : decode cL_law 720 = .ok (.iadd, 1) := by decide +kernel
theorem dL_law_721 : decode cL_law 721 = .ok (.iaload, 1) := by decide +kernel
theorem dL_law_722 : decode cL_law 722 = .ok (.aload_n 0, 1) := by decide +kernel
theorem dL_law_723 : decode cL_law 723 = .ok (.iload_n 3, 1) := by decide +kernel
theorem dL_law_724 : decode cL_law 724 = .ok (.iconst 4, 1) := by decide +kernel
theorem dL_law_725 : decode cL_law 725 = .ok (.iadd, 1) := by decide +kernel
theorem dL_law_726 : decode cL_law 726 = .ok (.iaload, 1) := by decide +kernel
theorem dL_law_727 : decode cL_law 727 = .ok (.invokevirtual 74, 3) := by decide +kernel
theorem dL_law_730 : decode cL_law 730 = .ok (.aload_n 2, 1) := by decide +kernel
theorem dL_law_731 : decode cL_law 731 = .ok (.aload_n 0, 1) := by decide +kernel
theorem dL_law_732 : decode cL_law 732 = .ok (.iload_n 3, 1) := by decide +kernel
theorem dL_law_733 : decode cL_law 733 = .ok (.iconst 1, 1) := by decide +kernel
theorem dL_law_734 : decode cL_law 734 = .ok (.iadd, 1) := by decide +kernel
theorem dL_law_735 : decode cL_law 735 = .ok (.iaload, 1) := by decide +kernel
theorem dL_law_736 : decode cL_law 736 = .ok (.aload_n 0, 1) := by decide +kernel
theorem dL_law_737 : decode cL_law 737 = .ok (.iload_n 3, 1) := by decide +kernel
theorem dL_law_738 : decode cL_law 738 = .ok (.iconst 2, 1) := by decide +kernel
theorem dL_law_739 : decode cL_law 739 = .ok (.iadd, 1) := by decide +kernel
theorem dL_law_740 : decode cL_law 740 = .ok (.iaload, 1) := by decide +kernel
theorem dL_law_741 : decode cL_law 741 = .ok (.aload_n 0, 1) := by decide +kernel
theorem dL_law_742 : decode cL_law 742 = .ok (.iload_n 3, 1) := by decide +kernel
theorem dL_law_743 : decode cL_law 743 = .ok (.iconst 3, 1) := by decide +kernel
theorem dL_law_744 : decode cL_law 744 = .ok (.iadd, 1) := by decide +kernel
theorem dL_law_745 : decode cL_law 745 = .ok (.iaload, 1) := by decide +kernel
theorem dL_law_746 : decode cL_law 746 = .ok (.aload_n 0, 1) := by decide +kernel
theorem dL_law_747 : decode cL_law 747 = .ok (.iload_n 3, 1) := by decide +kernel
theorem dL_law_748 : decode cL_law 748 = .ok (.iconst 4, 1) := by decide +kernel
theorem dL_law_749 : decode cL_law 749 = .ok (.iadd, 1) := by decide +kernel
theorem dL_law_750 : decode cL_law 750 = .ok (.iaload, 1) := by decide +kernel
theorem dL_law_751 : decode cL_law 751 = .ok (.invokevirtual 78, 3) := by decide +kernel
theorem dL_law_754 : decode cL_law 754 = .ok (.if_icmp .eq 1225, 3) := by decide +kernel
theorem dL_law_759 : decode cL_law 759 = .ok (.aload_n 1, 1) := by decide +kernel
theorem dL_law_760 : decode cL_law 760 = .ok (.aload_n 0, 1) := by decide +kernel
theorem dL_law_761 : decode cL_law 761 = .ok (.iload_n 3, 1) := by decide +kernel
theorem dL_law_762 : decode cL_law 762 = .ok (.iconst 1, 1) := by decide +kernel
theorem dL_law_763 : decode cL_law 763 = .ok (.iadd, 1) := by decide +kernel
theorem dL_law_764 : decode cL_law 764 = .ok (.iaload, 1) := by decide +kernel
theorem dL_law_765 : decode cL_law 765 = .ok (.invokevirtual 79, 3) := by decide +kernel
theorem dL_law_768 : decode cL_law 768 = .ok (.aload_n 2, 1) := by decide +kernel
theorem dL_law_769 : decode cL_law 769 = .ok (.aload_n 0, 1) := by decide +kernel
theorem dL_law_770 : decode cL_law 770 = .ok (.iload_n 3, 1) := by decide +kernel
theorem dL_law_771 : decode cL_law 771 = .ok (.iconst 1, 1) := by decide +kernel
theorem dL_law_772 : decode cL_law 772 = .ok (.iadd, 1) := by decide +kernel
theorem dL_law_773 : decode cL_law 773 = .ok (.iaload, 1) := by decide +kernel
theorem dL_law_774 : decode cL_law 774 = .ok (.invokevirtual 82, 3) := by decide +kernel
theorem dL_law_777 : decode cL_law 777 = .ok (.if_icmp .eq 1202, 3) := by decide +kernel
theorem dL_law_782 : decode cL_law 782 = .ok (.aload_n 1, 1) := by decide +kernel
theorem dL_law_783 : decode cL_law 783 = .ok (.aload_n 0, 1) := by decide +kernel
theorem dL_law_784 : decode cL_law 784 = .ok (.iload_n 3, 1) := by decide +kernel
theorem dL_law_785 : decode cL_law 785 = .ok (.iconst 1, 1) := by decide +kernel
theorem dL_law_786 : decode cL_law 786 = .ok (.iadd, 1) := by decide +kernel
theorem dL_law_787 : decode cL_law 787 = .ok (.iaload, 1) := by decide +kernel
theorem dL_law_788 : decode cL_law 788 = .ok (.aload_n 0, 1) := by decide +kernel
theorem dL_law_789 : decode cL_law 789 = .ok (.iload_n 3, 1) := by decide +kernel
theorem dL_law_790 : decode cL_law 790 = .ok (.iconst 2, 1) := by decide +kernel
theorem dL_law_791 : decode cL_law 791 = .ok (.iadd, 1) := by decide +kernel
theorem dL_law_792 : decode cL_law 792 = .ok (.iaload, 1) := by decide +kernel
theorem dL_law_793 : decode cL_law 793 = .ok (.invokevirtual 83, 3) := by decide +kernel
theorem dL_law_796 : decode cL_law 796 = .ok (.aload_n 2, 1) := by decide +kernel
theorem dL_law_797 : decode cL_law 797 = .ok (.aload_n 0, 1) := by decide +kernel
theorem dL_law_798 : decode cL_law 798 = .ok (.iload_n 3, 1) := by decide +kernel
theorem dL_law_799 : decode cL_law 799 = .ok (.iconst 1, 1) := by decide +kernel
theorem dL_law_800 : decode cL_law 800 = .ok (.iadd, 1) := by decide +kernel
theorem dL_law_801 : decode cL_law 801 = .ok (.iaload, 1) := by decide +kernel
theorem dL_law_802 : decode cL_law 802 = .ok (.aload_n 0, 1) := by decide +kernel
theorem dL_law_803 : decode cL_law 803 = .ok (.iload_n 3, 1) := by decide +kernel
theorem dL_law_804 : decode cL_law 804 = .ok (.iconst 2, 1) := by decide +kernel
theorem dL_law_805 : decode cL_law 805 = .ok (.iadd, 1) := by decide +kernel
theorem dL_law_806 : decode cL_law 806 = .ok (.iaload, 1) := by decide +kernel
theorem dL_law_807 : decode cL_law 807 = .ok (.invokevirtual 86, 3) := by decide +kernel
theorem dL_law_810 : decode cL_law 810 = .ok (.if_icmp .eq 1169, 3) := by decide +kernel
theorem dL_law_815 : decode cL_law 815 = .ok (.aload_n 1, 1) := by decide +kernel
theorem dL_law_816 : decode cL_law 816 = .ok (.aload_n 0, 1) := by decide +kernel
theorem dL_law_817 : decode cL_law 817 = .ok (.iload_n 3, 1) := by decide +kernel
theorem dL_law_818 : decode cL_law 818 = .ok (.iconst 1, 1) := by decide +kernel
theorem dL_law_819 : decode cL_law 819 = .ok (.iadd, 1) := by decide +kernel
theorem dL_law_820 : decode cL_law 820 = .ok (.iaload, 1) := by decide +kernel
theorem dL_law_821 : decode cL_law 821 = .ok (.aload_n 0, 1) := by decide +kernel
theorem dL_law_822 : decode cL_law 822 = .ok (.iload_n 3, 1) := by decide +kernel
theorem dL_law_823 : decode cL_law 823 = .ok (.iconst 2, 1) := by decide +kernel
theorem dL_law_824 : decode cL_law 824 = .ok (.iadd, 1) := by decide +kernel
theorem dL_law_825 : decode cL_law 825 = .ok (.iaload, 1) := by decide +kernel
theorem dL_law_826 : decode cL_law 826 = .ok (.invokevirtual 87, 3) := by decide +kernel
theorem dL_law_829 : decode cL_law 829 = .ok (.aload_n 2, 1) := by decide +kernel
theorem dL_law_830 : decode cL_law 830 = .ok (.aload_n 0, 1) := by decide +kernel
theorem dL_law_831 : decode cL_law 831 = .ok (.iload_n 3, 1) := by decide +kernel
theorem dL_law_832 : decode cL_law 832 = .ok (.iconst 1, 1) := by decide +kernel
theorem dL_law_833 : decode cL_law 833 = .ok (.iadd, 1) := by decide +kernel
theorem dL_law_834 : decode cL_law 834 = .ok (.iaload, 1) := by decide +kernel
theorem dL_law_835 : decode cL_law 835 = .ok (.aload_n 0, 1) := by decide +kernel
theorem dL_law_836 : decode cL_law 836 = .ok (.iload_n 3, 1) := by decide +kernel
theorem dL_law_837 : decode cL_law 837 = .ok (.iconst 2, 1) := by decide +kernel
theorem dL_law_838 : decode cL_law 838 = .ok (.iadd, 1) := by decide +kernel
theorem dL_law_839 : decode cL_law 839 = .ok (.iaload, 1) := by decide +kernel
theorem dL_law_840 : decode cL_law 840 = .ok (.invokevirtual 90, 3) := by decide +kernel
theorem dL_law_843 : decode cL_law 843 = .ok (.if_icmp .eq 1136, 3) := by decide +kernel
theorem dL_law_848 : decode cL_law 848 = .ok (.aload_n 1, 1) := by decide +kernel
theorem dL_law_849 : decode cL_law 849 = .ok (.aload_n 0, 1) := by decide +kernel
theorem dL_law_850 : decode cL_law 850 = .ok (.iload_n 3, 1) := by decide +kernel
theorem dL_law_851 : decode cL_law 851 = .ok (.iconst 1, 1) := by decide +kernel
theorem dL_law_852 : decode cL_law 852 = .ok (.iadd, 1) := by decide +kernel
theorem dL_law_853 : decode cL_law 853 = .ok (.iaload, 1) := by decide +kernel
theorem dL_law_854 : decode cL_law 854 = .ok (.aload_n 0, 1) := by decide +kernel
theorem dL_law_855 : decode cL_law 855 = .ok (.iload_n 3, 1) := by decide +kernel
theorem dL_law_856 : decode cL_law 856 = .ok (.iconst 2, 1) := by decide +kernel
theorem dL_law_857 : decode cL_law 857 = .ok (.iadd, 1) := by decide +kernel
theorem dL_law_858 : decode cL_law 858 = .ok (.iaload, 1) := by decide +kernel
theorem dL_law_859 : decode cL_law 859 = .ok (.aload_n 0, 1) := by decide +kernel
theorem dL_law_860 : decode cL_law 860 = .ok (.iload_n 3, 1) := by decide +kernel
theorem dL_law_861 : decode cL_law 861 = .ok (.iconst 3, 1) := by decide +kernel
theorem dL_law_862 : decode cL_law 862 = .ok (.iadd, 1) := by decide +kernel
theorem dL_law_863 : decode cL_law 863 = .ok (.iaload, 1) := by decide +kernel
theorem dL_law_864 : decode cL_law 864 = .ok (.invokevirtual 91, 3) := by decide +kernel
theorem dL_law_867 : decode cL_law 867 = .ok (.aload_n 2, 1) := by decide +kernel
theorem dL_law_868 : decode cL_law 868 = .ok (.aload_n 0, 1) := by decide +kernel
theorem dL_law_869 : decode cL_law 869 = .ok (.iload_n 3, 1) := by decide +kernel
theorem dL_law_870 : decode cL_law 870 = .ok (.iconst 1, 1) := by decide +kernel
theorem dL_law_871 : decode cL_law 871 = .ok (.iadd, 1) := by decide +kernel
theorem dL_law_872 : decode cL_law 872 = .ok (.iaload, 1) := by decide +kernel
theorem dL_law_873 : decode cL_law 873 = .ok (.aload_n 0, 1) := by decide +kernel
theorem dL_law_874 : decode cL_law 874 = .ok (.iload_n 3, 1) := by decide +kernel
theorem dL_law_875 : decode cL_law 875 = .ok (.iconst 2, 1) := by decide +kernel
theorem dL_law_876 : decode cL_law 876 = .ok (.iadd, 1) := by decide +kernel
theorem dL_law_877 : decode cL_law 877 = .ok (.iaload, 1) := by decide +kernel
theorem dL_law_878 : decode cL_law 878 = .ok (.aload_n 0, 1) := by decide +kernel
theorem dL_law_879 : decode cL_law 879 = .ok (.iload_n 3, 1) := by decide +kernel
theorem dL_law_880 : decode cL_law 880 = .ok (.iconst 3, 1) := by decide +kernel
theorem dL_law_881 : decode cL_law 881 = .ok (.iadd, 1) := by decide +kernel
theorem dL_law_882 : decode cL_law 882 = .ok (.iaload, 1) := by decide +kernel
theorem dL_law_883 : decode cL_law 883 = .ok (.invokevirtual 94, 3) := by decide +kernel
theorem dL_law_886 : decode cL_law 886 = .ok (.if_icmp .eq 1093, 3) := by decide +kernel
theorem dL_law_891 : decode cL_law 891 = .ok (.aload_n 1, 1) := by decide +kernel
theorem dL_law_892 : decode cL_law 892 = .ok (.aload_n 0, 1) := by decide +kernel
theorem dL_law_893 : decode cL_law 893 = .ok (.iload_n 3, 1) := by decide +kernel
theorem dL_law_894 : decode cL_law 894 = .ok (.iconst 1, 1) := by decide +kernel
theorem dL_law_895 : decode cL_law 895 = .ok (.iadd, 1) := by decide +kernel
theorem dL_law_896 : decode cL_law 896 = .ok (.iaload, 1) := by decide +kernel
theorem dL_law_897 : decode cL_law 897 = .ok (.invokevirtual 95, 3) := by decide +kernel
theorem dL_law_900 : decode cL_law 900 = .ok (.aload_n 2, 1) := by decide +kernel
theorem dL_law_901 : decode cL_law 901 = .ok (.aload_n 0, 1) := by decide +kernel
theorem dL_law_902 : decode cL_law 902 = .ok (.iload_n 3, 1) := by decide +kernel
theorem dL_law_903 : decode cL_law 903 = .ok (.iconst 1, 1) := by decide +kernel
theorem dL_law_904 : decode cL_law 904 = .ok (.iadd, 1) := by decide +kernel
theorem dL_law_905 : decode cL_law 905 = .ok (.iaload, 1) := by decide +kernel
theorem dL_law_906 : decode cL_law 906 = .ok (.invokevirtual 98, 3) := by decide +kernel
theorem dL_law_909 : decode cL_law 909 = .ok (.if_icmp .eq 1070, 3) := by decide +kernel
theorem dL_law_914 : decode cL_law 914 = .ok (.aload_n 1, 1) := by decide +kernel
theorem dL_law_915 : decode cL_law 915 = .ok (.aload_n 0, 1) := by decide +kernel
theorem dL_law_916 : decode cL_law 916 = .ok (.iload_n 3, 1) := by decide +kernel
theorem dL_law_917 : decode cL_law 917 = .ok (.iconst 1, 1) := by decide +kernel
theorem dL_law_918 : decode cL_law 918 = .ok (.iadd, 1) := by decide +kernel
theorem dL_law_919 : decode cL_law 919 = .ok (.iaload, 1) := by decide +kernel
theorem dL_law_920 : decode cL_law 920 = .ok (.invokevirtual 99, 3) := by decide +kernel
theorem dL_law_923 : decode cL_law 923 = .ok (.aload_n 2, 1) := by decide +kernel
theorem dL_law_924 : decode cL_law 924 = .ok (.aload_n 0, 1) := by decide +kernel
theorem dL_law_925 : decode cL_law 925 = .ok (.iload_n 3, 1) := by decide +kernel
theorem dL_law_926 : decode cL_law 926 = .ok (.iconst 1, 1) := by decide +kernel
theorem dL_law_927 : decode cL_law 927 = .ok (.iadd, 1) := by decide +kernel
theorem dL_law_928 : decode cL_law 928 = .ok (.iaload, 1) := by decide +kernel
theorem dL_law_929 : decode cL_law 929 = .ok (.invokevirtual 102, 3) := by decide +kernel
theorem dL_law_932 : decode cL_law 932 = .ok (.if_icmp .eq 1047, 3) := by decide +kernel
theorem dL_law_937 : decode cL_law 937 = .ok (.aload_n 1, 1) := by decide +kernel
theorem dL_law_938 : decode cL_law 938 = .ok (.aload_n 0, 1) := by decide +kernel
theorem dL_law_939 : decode cL_law 939 = .ok (.iload_n 3, 1) := by decide +kernel
theorem dL_law_940 : decode cL_law 940 = .ok (.iconst 1, 1) := by decide +kernel
theorem dL_law_941 : decode cL_law 941 = .ok (.iadd, 1) := by decide +kernel
theorem dL_law_942 : decode cL_law 942 = .ok (.iaload, 1) := by decide +kernel
theorem dL_law_943 : decode cL_law 943 = .ok (.invokevirtual 103, 3) := by decide +kernel
theorem dL_law_946 : decode cL_law 946 = .ok (.aload_n 2, 1) := by decide +kernel
theorem dL_law_947 : decode cL_law 947 = .ok (.aload_n 0, 1) := by decide +kernel
theorem dL_law_948 : decode cL_law 948 = .ok (.iload_n 3, 1) := by decide +kernel
theorem dL_law_949 : decode cL_law 949 = .ok (.iconst 1, 1) := by decide +kernel
theorem dL_law_950 : decode cL_law 950 = .ok (.iadd, 1) := by decide +kernel
theorem dL_law_951 : decode cL_law 951 = .ok (.iaload, 1) := by decide +kernel
theorem dL_law_952 : decode cL_law 952 = .ok (.invokevirtual 106, 3) := by decide +kernel
theorem dL_law_955 : decode cL_law 955 = .ok (.if_icmp .eq 1024, 3) := by decide +kernel
theorem dL_law_960 : decode cL_law 960 = .ok (.aload_n 1, 1) := by decide +kernel
theorem dL_law_961 : decode cL_law 961 = .ok (.aload_n 0, 1) := by decide +kernel
theorem dL_law_962 : decode cL_law 962 = .ok (.iload_n 3, 1) := by decide +kernel
theorem dL_law_963 : decode cL_law 963 = .ok (.iconst 1, 1) := by decide +kernel
theorem dL_law_964 : decode cL_law 964 = .ok (.iadd, 1) := by decide +kernel
theorem dL_law_965 : decode cL_law 965 = .ok (.iaload, 1) := by decide +kernel
theorem dL_law_966 : decode cL_law 966 = .ok (.invokevirtual 107, 3) := by decide +kernel
theorem dL_law_969 : decode cL_law 969 = .ok (.aload_n 2, 1) := by decide +kernel
theorem dL_law_970 : decode cL_law 970 = .ok (.aload_n 0, 1) := by decide +kernel
theorem dL_law_971 : decode cL_law 971 = .ok (.iload_n 3, 1) := by decide +kernel
theorem dL_law_972 : decode cL_law 972 = .ok (.iconst 1, 1) := by decide +kernel
theorem dL_law_973 : decode cL_law 973 = .ok (.iadd, 1) := by decide +kernel
theorem dL_law_974 : decode cL_law 974 = .ok (.iaload, 1) := by decide +kernel
theorem dL_law_975 : decode cL_law 975 = .ok (.invokevirtual 110, 3) := by decide +kernel
theorem dL_law_978 : decode cL_law 978 = .ok (.if_icmp .eq 1001, 3) := by decide +kernel
theorem dL_law_983 : decode cL_law 983 = .ok (.aload_n 1, 1) := by decide +kernel
theorem dL_law_984 : decode cL_law 984 = .ok (.aload_n 0, 1) := by decide +kernel
theorem dL_law_985 : decode cL_law 985 = .ok (.iload_n 3, 1) := by decide +kernel
theorem dL_law_986 : decode cL_law 986 = .ok (.iconst 1, 1) := by decide +kernel
theorem dL_law_987 : decode cL_law 987 = .ok (.iadd, 1) := by decide +kernel
theorem dL_law_988 : decode cL_law 988 = .ok (.iaload, 1) := by decide +kernel
theorem dL_law_989 : decode cL_law 989 = .ok (.aload_n 0, 1) := by decide +kernel
theorem dL_law_990 : decode cL_law 990 = .ok (.iload_n 3, 1) := by decide +kernel
theorem dL_law_991 : decode cL_law 991 = .ok (.iconst 2, 1) := by decide +kernel
theorem dL_law_992 : decode cL_law 992 = .ok (.iadd, 1) := by decide +kernel
theorem dL_law_993 : decode cL_law 993 = .ok (.iaload, 1) := by decide +kernel
theorem dL_law_994 : decode cL_law 994 = .ok (.invokevirtual 111, 3) := by decide +kernel
theorem dL_law_997 : decode cL_law 997 = .ok (.aload_n 2, 1) := by decide +kernel
theorem dL_law_998 : decode cL_law 998 = .ok (.aload_n 0, 1) := by decide +kernel
theorem dL_law_999 : decode cL_law 999 = .ok (.iload_n 3, 1) := by decide +kernel
theorem dL_law_1000 : decode cL_law 1000 = .ok (.iconst 1, 1) := by decide +kernel
theorem dL_law_1001 : decode cL_law 1001 = .ok (.iadd, 1) := by decide +kernel
theorem dL_law_1002 : decode cL_law 1002 = .ok (.iaload, 1) := by decide +kernel
theorem dL_law_1003 : decode cL_law 1003 = .ok (.aload_n 0, 1) := by decide +kernel
theorem dL_law_1004 : decode cL_law 1004 = .ok (.iload_n 3, 1) := by decide +kernel
theorem dL_law_1005 : decode cL_law 1005 = .ok (.iconst 2, 1) := by decide +kernel
theorem dL_law_1006 : decode cL_law 1006 = .ok (.iadd, 1) := by decide +kernel
theorem dL_law_1007 : decode cL_law 1007 = .ok (.iaload, 1) := by decide +kernel
theorem dL_law_1008 : decode cL_law 1008 = .ok (.invokevirtual 114, 3) := by decide +kernel
theorem dL_law_1011 : decode cL_law 1011 = .ok (.if_icmp .eq 968, 3) := by decide +kernel
theorem dL_law_1016 : decode cL_law 1016 = .ok (.aload_n 1, 1) := by decide +kernel
theorem dL_law_1017 : decode cL_law 1017 = .ok (.aload_n 0, 1) := by decide +kernel
theorem dL_law_1018 : decode cL_law 1018 = .ok (.iload_n 3, 1) := by decide +kernel
theorem dL_law_1019 : decode cL_law 1019 = .ok (.iconst 1, 1) := by decide +kernel
theorem dL_law_1020 : decode cL_law 1020 = .ok (.iadd, 1) := by decide +kernel
theorem dL_law_1021 : decode cL_law 1021 = .ok (.iaload, 1) := by decide +kernel
theorem dL_law_1022 : decode cL_law 1022 = .ok (.aload_n 0, 1) := by decide +kernel
theorem dL_law_1023 : decode cL_law 1023 = .ok (.iload_n 3, 1) := by decide +kernel
theorem dL_law_1024 : decode cL_law 1024 = .ok (.iconst 2, 1) := by decide +kernel
theorem dL_law_1025 : decode cL_law 1025 = .ok (.iadd, 1) := by decide +kernel
theorem dL_law_1026 : decode cL_law 1026 = .ok (.iaload, 1) := by decide +kernel
theorem dL_law_1027 : decode cL_law 1027 = .ok (.aload_n 0, 1) := by decide +kernel
theorem dL_law_1028 : decode cL_law 1028 = .ok (.iload_n 3, 1) := by decide +kernel
theorem dL_law_1029 : decode cL_law 1029 = .ok (.iconst 3, 1) := by decide +kernel
theorem dL_law_1030 : decode cL_law 1030 = .ok (.iadd, 1) := by decide +kernel
theorem dL_law_1031 : decode cL_law 1031 = .ok (.iaload, 1) := by decide +kernel
theorem dL_law_1032 : decode cL_law 1032 = .ok (.invokevirtual 115, 3) := by decide +kernel
theorem dL_law_1035 : decode cL_law 1035 = .ok (.aload_n 2, 1) := by decide +kernel
theorem dL_law_1036 : decode cL_law 1036 = .ok (.aload_n 0, 1) := by decide +kernel
theorem dL_law_1037 : decode cL_law 1037 = .ok (.iload_n 3, 1) := by decide +kernel
theorem dL_law_1038 : decode cL_law 1038 = .ok (.iconst 1, 1) := by decide +kernel
theorem dL_law_1039 : decode cL_law 1039 = .ok (.iadd, 1) := by decide +kernel
theorem dL_law_1040 : decode cL_law 1040 = .ok (.iaload, 1) := by decide +kernel
theorem dL_law_1041 : decode cL_law 1041 = .ok (.aload_n 0, 1) := by decide +kernel
theorem dL_law_1042 : decode cL_law 1042 = .ok (.iload_n 3, 1) := by decide +kernel
theorem dL_law_1043 : decode cL_law 1043 = .ok (.iconst 2, 1) := by decide +kernel
theorem dL_law_1044 : decode cL_law 1044 = .ok (.iadd, 1) := by decide +kernel
theorem dL_law_1045 : decode cL_law 1045 = .ok (.iaload, 1) := by decide +kernel
theorem dL_law_1046 : decode cL_law 1046 = .ok (.aload_n 0, 1) := by decide +kernel
theorem dL_law_1047 : decode cL_law 1047 = .ok (.iload_n 3, 1) := by decide +kernel
theorem dL_law_1048 : decode cL_law 1048 = .ok (.iconst 3, 1) := by decide +kernel
theorem dL_law_1049 : decode cL_law 1049 = .ok (.iadd, 1) := by decide +kernel
theorem dL_law_1050 : decode cL_law 1050 = .ok (.iaload, 1) := by decide +kernel
theorem dL_law_1051 : decode cL_law 1051 = .ok (.invokevirtual 118, 3) := by decide +kernel
theorem dL_law_1054 : decode cL_law 1054 = .ok (.if_icmp .eq 925, 3) := by decide +kernel
theorem dL_law_1059 : decode cL_law 1059 = .ok (.aload_n 1, 1) := by decide +kernel
theorem dL_law_1060 : decode cL_law 1060 = .ok (.aload_n 0, 1) := by decide +kernel
theorem dL_law_1061 : decode cL_law 1061 = .ok (.iload_n 3, 1) := by decide +kernel
theorem dL_law_1062 : decode cL_law 1062 = .ok (.iconst 1, 1) := by decide +kernel
theorem dL_law_1063 : decode cL_law 1063 = .ok (.iadd, 1) := by decide +kernel
theorem dL_law_1064 : decode cL_law 1064 = .ok (.iaload, 1) := by decide +kernel
theorem dL_law_1065 : decode cL_law 1065 = .ok (.aload_n 0, 1) := by decide +kernel
theorem dL_law_1066 : decode cL_law 1066 = .ok (.iload_n 3, 1) := by decide +kernel
theorem dL_law_1067 : decode cL_law 1067 = .ok (.iconst 2, 1) := by decide +kernel
theorem dL_law_1068 : decode cL_law 1068 = .ok (.iadd, 1) := by decide +kernel
theorem dL_law_1069 : decode cL_law 1069 = .ok (.iaload, 1) := by decide +kernel
theorem dL_law_1070 : decode cL_law 1070 = .ok (.invokevirtual 119, 3) := by decide +kernel
theorem dL_law_1073 : decode cL_law 1073 = .ok (.aload_n 2, 1) := by decide +kernel
theorem dL_law_1074 : decode cL_law 1074 = .ok (.aload_n 0, 1) := by decide +kernel
theorem dL_law_1075 : decode cL_law 1075 = .ok (.iload_n 3, 1) := by decide +kernel
theorem dL_law_1076 : decode cL_law 1076 = .ok (.iconst 1, 1) := by decide +kernel
theorem dL_law_1077 : decode cL_law 1077 = .ok (.iadd, 1) := by decide +kernel
theorem dL_law_1078 : decode cL_law 1078 = .ok (.iaload, 1) := by decide +kernel
theorem dL_law_1079 : decode cL_law 1079 = .ok (.aload_n 0, 1) := by decide +kernel
theorem dL_law_1080 : decode cL_law 1080 = .ok (.iload_n 3, 1) := by decide +kernel
theorem dL_law_1081 : decode cL_law 1081 = .ok (.iconst 2, 1) := by decide +kernel
theorem dL_law_1082 : decode cL_law 1082 = .ok (.iadd, 1) := by decide +kernel
theorem dL_law_1083 : decode cL_law 1083 = .ok (.iaload, 1) := by decide +kernel
theorem dL_law_1084 : decode cL_law 1084 = .ok (.invokevirtual 122, 3) := by decide +kernel
theorem dL_law_1087 : decode cL_law 1087 = .ok (.if_icmp .eq 892, 3) := by decide +kernel
theorem dL_law_1092 : decode cL_law 1092 = .ok (.aload_n 1, 1) := by decide +kernel
theorem dL_law_1093 : decode cL_law 1093 = .ok (.aload_n 0, 1) := by decide +kernel
theorem dL_law_1094 : decode cL_law 1094 = .ok (.iload_n 3, 1) := by decide +kernel
theorem dL_law_1095 : decode cL_law 1095 = .ok (.iconst 1, 1) := by decide +kernel
theorem dL_law_1096 : decode cL_law 1096 = .ok (.iadd, 1) := by decide +kernel
theorem dL_law_1097 : decode cL_law 1097 = .ok (.iaload, 1) := by decide +kernel
theorem dL_law_1098 : decode cL_law 1098 = .ok (.aload_n 0, 1) := by decide +kernel
theorem dL_law_1099 : decode cL_law 1099 = .ok (.iload_n 3, 1) := by decide +kernel
theorem dL_law_1100 : decode cL_law 1100 = .ok (.iconst 2, 1) := by decide +kernel
theorem dL_law_1101 : decode cL_law 1101 = .ok (.iadd, 1) := by decide +kernel
theorem dL_law_1102 : decode cL_law 1102 = .ok (.iaload, 1) := by decide +kernel
theorem dL_law_1103 : decode cL_law 1103 = .ok (.aload_n 0, 1) := by decide +kernel
theorem dL_law_1104 : decode cL_law 1104 = .ok (.iload_n 3, 1) := by decide +kernel
theorem dL_law_1105 : decode cL_law 1105 = .ok (.iconst 3, 1) := by decide +kernel
theorem dL_law_1106 : decode cL_law 1106 = .ok (.iadd, 1) := by decide +kernel
theorem dL_law_1107 : decode cL_law 1107 = .ok (.iaload, 1) := by decide +kernel
theorem dL_law_1108 : decode cL_law 1108 = .ok (.invokevirtual 123, 3) := by decide +kernel
theorem dL_law_1111 : decode cL_law 1111 = .ok (.aload_n 2, 1) := by decide +kernel
theorem dL_law_1112 : decode cL_law 1112 = .ok (.aload_n 0, 1) := by decide +kernel
theorem dL_law_1113 : decode cL_law 1113 = .ok (.iload_n 3, 1) := by decide +kernel
theorem dL_law_1114 : decode cL_law 1114 = .ok (.iconst 1, 1) := by decide +kernel
theorem dL_law_1115 : decode cL_law 1115 = .ok (.iadd, 1) := by decide +kernel
theorem dL_law_1116 : decode cL_law 1116 = .ok (.iaload, 1) := by decide +kernel
theorem dL_law_1117 : decode cL_law 1117 = .ok (.aload_n 0, 1) := by decide +kernel
theorem dL_law_1118 : decode cL_law 1118 = .ok (.iload_n 3, 1) := by decide +kernel
theorem dL_law_1119 : decode cL_law 1119 = .ok (.iconst 2, 1) := by decide +kernel
theorem dL_law_1120 : decode cL_law 1120 = .ok (.iadd, 1) := by decide +kernel
theorem dL_law_1121 : decode cL_law 1121 = .ok (.iaload, 1) := by decide +kernel
theorem dL_law_1122 : decode cL_law 1122 = .ok (.aload_n 0, 1) := by decide +kernel
theorem dL_law_1123 : decode cL_law 1123 = .ok (.iload_n 3, 1) := by decide +kernel
theorem dL_law_1124 : decode cL_law 1124 = .ok (.iconst 3, 1) := by decide +kernel
theorem dL_law_1125 : decode cL_law 1125 = .ok (.iadd, 1) := by decide +kernel
theorem dL_law_1126 : decode cL_law 1126 = .ok (.iaload, 1) := by decide +kernel
theorem dL_law_1127 : decode cL_law 1127 = .ok (.invokevirtual 126, 3) := by decide +kernel
theorem dL_law_1130 : decode cL_law 1130 = .ok (.if_icmp .eq 849, 3) := by decide +kernel
theorem dL_law_1135 : decode cL_law 1135 = .ok (.aload_n 1, 1) := by decide +kernel
theorem dL_law_1136 : decode cL_law 1136 = .ok (.aload_n 0, 1) := by decide +kernel
theorem dL_law_1137 : decode cL_law 1137 = .ok (.iload_n 3, 1) := by decide +kernel
theorem dL_law_1138 : decode cL_law 1138 = .ok (.iconst 1, 1) := by decide +kernel
theorem dL_law_1139 : decode cL_law 1139 = .ok (.iadd, 1) := by decide +kernel
theorem dL_law_1140 : decode cL_law 1140 = .ok (.iaload, 1) := by decide +kernel
theorem dL_law_1141 : decode cL_law 1141 = .ok (.invokevirtual 127, 3) := by decide +kernel
theorem dL_law_1144 : decode cL_law 1144 = .ok (.aload_n 2, 1) := by decide +kernel
theorem dL_law_1145 : decode cL_law 1145 = .ok (.aload_n 0, 1) := by decide +kernel
theorem dL_law_1146 : decode cL_law 1146 = .ok (.iload_n 3, 1) := by decide +kernel
theorem dL_law_1147 : decode cL_law 1147 = .ok (.iconst 1, 1) := by decide +kernel
theorem dL_law_1148 : decode cL_law 1148 = .ok (.iadd, 1) := by decide +kernel
theorem dL_law_1149 : decode cL_law 1149 = .ok (.iaload, 1) := by decide +kernel
theorem dL_law_1150 : decode cL_law 1150 = .ok (.invokevirtual 130, 3) := by decide +kernel
theorem dL_law_1153 : decode cL_law 1153 = .ok (.if_icmp .eq 826, 3) := by decide +kernel
theorem dL_law_1158 : decode cL_law 1158 = .ok (.aload_n 1, 1) := by decide +kernel
theorem dL_law_1159 : decode cL_law 1159 = .ok (.aload_n 0, 1) := by decide +kernel
theorem dL_law_1160 : decode cL_law 1160 = .ok (.iload_n 3, 1) := by decide +kernel
theorem dL_law_1161 : decode cL_law 1161 = .ok (.iconst 1, 1) := by decide +kernel
theorem dL_law_1162 : decode cL_law 1162 = .ok (.iadd, 1) := by decide +kernel
theorem dL_law_1163 : decode cL_law 1163 = .ok (.iaload, 1) := by decide +kernel
theorem dL_law_1164 : decode cL_law 1164 = .ok (.aload_n 0, 1) := by decide +kernel
theorem dL_law_1165 : decode cL_law 1165 = .ok (.iload_n 3, 1) := by decide +kernel
theorem dL_law_1166 : decode cL_law 1166 = .ok (.iconst 2, 1) := by decide +kernel
theorem dL_law_1167 : decode cL_law 1167 = .ok (.iadd, 1) := by decide +kernel
theorem dL_law_1168 : decode cL_law 1168 = .ok (.iaload, 1) := by decide +kernel
theorem dL_law_1169 : decode cL_law 1169 = .ok (.aload_n 0, 1) := by decide +kernel
theorem dL_law_1170 : decode cL_law 1170 = .ok (.iload_n 3, 1) := by decide +kernel
theorem dL_law_1171 : decode cL_law 1171 = .ok (.iconst 3, 1) := by decide +kernel
theorem dL_law_1172 : decode cL_law 1172 = .ok (.iadd, 1) := by decide +kernel
theorem dL_law_1173 : decode cL_law 1173 = .ok (.iaload, 1) := by decide +kernel
theorem dL_law_1174 : decode cL_law 1174 = .ok (.invokevirtual 131, 3) := by decide +kernel
theorem dL_law_1177 : decode cL_law 1177 = .ok (.aload_n 2, 1) := by decide +kernel
theorem dL_law_1178 : decode cL_law 1178 = .ok (.aload_n 0, 1) := by decide +kernel
theorem dL_law_1179 : decode cL_law 1179 = .ok (.iload_n 3, 1) := by decide +kernel
theorem dL_law_1180 : decode cL_law 1180 = .ok (.iconst 1, 1) := by decide +kernel
theorem dL_law_1181 : decode cL_law 1181 = .ok (.iadd, 1) := by decide +kernel
theorem dL_law_1182 : decode cL_law 1182 = .ok (.iaload, 1) := by decide +kernel
theorem dL_law_1183 : decode cL_law 1183 = .ok (.aload_n 0, 1) := by decide +kernel
theorem dL_law_1184 : decode cL_law 1184 = .ok (.iload_n 3, 1) := by decide +kernel
theorem dL_law_1185 : decode cL_law 1185 = .ok (.iconst 2, 1) := by decide +kernel
theorem dL_law_1186 : decode cL_law 1186 = .ok (.iadd, 1) := by decide +kernel
theorem dL_law_1187 : decode cL_law 1187 = .ok (.iaload, 1) := by decide +kernel
theorem dL_law_1188 : decode cL_law 1188 = .ok (.aload_n 0, 1) := by decide +kernel
theorem dL_law_1189 : decode cL_law 1189 = .ok (.iload_n 3, 1) := by decide +kernel
theorem dL_law_1190 : decode cL_law 1190 = .ok (.iconst 3, 1) := by decide +kernel
theorem dL_law_1191 : decode cL_law 1191 = .ok (.iadd, 1) := by decide +kernel
theorem dL_law_1192 : decode cL_law 1192 = .ok (.iaload, 1) := by decide +kernel
theorem dL_law_1193 : decode cL_law 1193 = .ok (.invokevirtual 134, 3) := by decide +kernel
theorem dL_law_1196 : decode cL_law 1196 = .ok (.if_icmp .eq 783, 3) := by decide +kernel
theorem dL_law_1201 : decode cL_law 1201 = .ok (.aload_n 1, 1) := by decide +kernel
theorem dL_law_1202 : decode cL_law 1202 = .ok (.aload_n 0, 1) := by decide +kernel
theorem dL_law_1203 : decode cL_law 1203 = .ok (.iload_n 3, 1) := by decide +kernel
theorem dL_law_1204 : decode cL_law 1204 = .ok (.iconst 1, 1) := by decide +kernel
theorem dL_law_1205 : decode cL_law 1205 = .ok (.iadd, 1) := by decide +kernel
theorem dL_law_1206 : decode cL_law 1206 = .ok (.iaload, 1) := by decide +kernel
theorem dL_law_1207 : decode cL_law 1207 = .ok (.aload_n 0, 1) := by decide +kernel
theorem dL_law_1208 : decode cL_law 1208 = .ok (.iload_n 3, 1) := by decide +kernel
theorem dL_law_1209 : decode cL_law 1209 = .ok (.iconst 2, 1) := by decide +kernel
theorem dL_law_1210 : decode cL_law 1210 = .ok (.iadd, 1) := by decide +kernel
theorem dL_law_1211 : decode cL_law 1211 = .ok (.iaload, 1) := by decide +kernel
theorem dL_law_1212 : decode cL_law 1212 = .ok (.aload_n 0, 1) := by decide +kernel
theorem dL_law_1213 : decode cL_law 1213 = .ok (.iload_n 3, 1) := by decide +kernel
theorem dL_law_1214 : decode cL_law 1214 = .ok (.iconst 3, 1) := by decide +kernel
theorem dL_law_1215 : decode cL_law 1215 = .ok (.iadd, 1) := by decide +kernel
theorem dL_law_1216 : decode cL_law 1216 = .ok (.iaload, 1) := by decide +kernel
theorem dL_law_1217 : decode cL_law 1217 = .ok (.invokevirtual 135, 3) := by decide +kernel
theorem dL_law_1220 : decode cL_law 1220 = .ok (.aload_n 2, 1) := by decide +kernel
theorem dL_law_1221 : decode cL_law 1221 = .ok (.aload_n 0, 1) := by decide +kernel
theorem dL_law_1222 : decode cL_law 1222 = .ok (.iload_n 3, 1) := by decide +kernel
theorem dL_law_1223 : decode cL_law 1223 = .ok (.iconst 1, 1) := by decide +kernel
theorem dL_law_1224 : decode cL_law 1224 = .ok (.iadd, 1) := by decide +kernel
theorem dL_law_1225 : decode cL_law 1225 = .ok (.iaload, 1) := by decide +kernel
theorem dL_law_1226 : decode cL_law 1226 = .ok (.aload_n 0, 1) := by decide +kernel
theorem dL_law_1227 : decode cL_law 1227 = .ok (.iload_n 3, 1) := by decide +kernel
theorem dL_law_1228 : decode cL_law 1228 = .ok (.iconst 2, 1) := by decide +kernel
theorem dL_law_1229 : decode cL_law 1229 = .ok (.iadd, 1) := by decide +kernel
theorem dL_law_1230 : decode cL_law 1230 = .ok (.iaload, 1) := by decide +kernel
theorem dL_law_1231 : decode cL_law 1231 = .ok (.aload_n 0, 1) := by decide +kernel
theorem dL_law_1232 : decode cL_law 1232 = .ok (.iload_n 3, 1) := by decide +kernel
theorem dL_law_1233 : decode cL_law 1233 = .ok (.iconst 3, 1) := by decide +kernel
theorem dL_law_1234 : decode cL_law 1234 = .ok (.iadd, 1) := by decide +kernel
theorem dL_law_1235 : decode cL_law 1235 = .ok (.iaload, 1) := by decide +kernel
theorem dL_law_1236 : decode cL_law 1236 = .ok (.invokevirtual 138, 3) := by decide +kernel
theorem dL_law_1239 : decode cL_law 1239 = .ok (.lcmp, 1) := by decide +kernel
theorem dL_law_1240 : decode cL_law 1240 = .ok (.ifCond .eq 739, 3) := by decide +kernel
theorem dL_law_1245 : decode cL_law 1245 = .ok (.aload_n 1, 1) := by decide +kernel
theorem dL_law_1246 : decode cL_law 1246 = .ok (.aload_n 0, 1) := by decide +kernel
theorem dL_law_1247 : decode cL_law 1247 = .ok (.iload_n 3, 1) := by decide +kernel
theorem dL_law_1248 : decode cL_law 1248 = .ok (.iconst 1, 1) := by decide +kernel
theorem dL_law_1249 : decode cL_law 1249 = .ok (.iadd, 1) := by decide +kernel
theorem dL_law_1250 : decode cL_law 1250 = .ok (.iaload, 1) := by decide +kernel
theorem dL_law_1251 : decode cL_law 1251 = .ok (.aload_n 0, 1) := by decide +kernel
theorem dL_law_1252 : decode cL_law 1252 = .ok (.iload_n 3, 1) := by decide +kernel
theorem dL_law_1253 : decode cL_law 1253 = .ok (.iconst 2, 1) := by decide +kernel
theorem dL_law_1254 : decode cL_law 1254 = .ok (.iadd, 1) := by decide +kernel
theorem dL_law_1255 : decode cL_law 1255 = .ok (.iaload, 1) := by decide +kernel
theorem dL_law_1256 : decode cL_law 1256 = .ok (.aload_n 0, 1) := by decide +kernel
theorem dL_law_1257 : decode cL_law 1257 = .ok (.iload_n 3, 1) := by decide +kernel
theorem dL_law_1258 : decode cL_law 1258 = .ok (.iconst 3, 1) := by decide +kernel
theorem dL_law_1259 : decode cL_law 1259 = .ok (.iadd, 1) := by decide +kernel
theorem dL_law_1260 : decode cL_law 1260 = .ok (.iaload, 1) := by decide +kernel
theorem dL_law_1261 : decode cL_law 1261 = .ok (.invokevirtual 139, 3) := by decide +kernel
theorem dL_law_1264 : decode cL_law 1264 = .ok (.aload_n 2, 1) := by decide +kernel
theorem dL_law_1265 : decode cL_law 1265 = .ok (.aload_n 0, 1) := by decide +kernel
theorem dL_law_1266 : decode cL_law 1266 = .ok (.iload_n 3, 1) := by decide +kernel
theorem dL_law_1267 : decode cL_law 1267 = .ok (.iconst 1, 1) := by decide +kernel
theorem dL_law_1268 : decode cL_law 1268 = .ok (.iadd, 1) := by decide +kernel
theorem dL_law_1269 : decode cL_law 1269 = .ok (.iaload, 1) := by decide +kernel
theorem dL_law_1270 : decode cL_law 1270 = .ok (.aload_n 0, 1) := by decide +kernel
theorem dL_law_1271 : decode cL_law 1271 = .ok (.iload_n 3, 1) := by decide +kernel
theorem dL_law_1272 : decode cL_law 1272 = .ok (.iconst 2, 1) := by decide +kernel
theorem dL_law_1273 : decode cL_law 1273 = .ok (.iadd, 1) := by decide +kernel
theorem dL_law_1274 : decode cL_law 1274 = .ok (.iaload, 1) := by decide +kernel
theorem dL_law_1275 : decode cL_law 1275 = .ok (.aload_n 0, 1) := by decide +kernel
theorem dL_law_1276 : decode cL_law 1276 = .ok (.iload_n 3, 1) := by decide +kernel
theorem dL_law_1277 : decode cL_law 1277 = .ok (.iconst 3, 1) := by decide +kernel
theorem dL_law_1278 : decode cL_law 1278 = .ok (.iadd, 1) := by decide +kernel
theorem dL_law_1279 : decode cL_law 1279 = .ok (.iaload, 1) := by decide +kernel
theorem dL_law_1280 : decode cL_law 1280 = .ok (.invokevirtual 142, 3) := by decide +kernel
theorem dL_law_1283 : decode cL_law 1283 = .ok (.if_icmp .eq 696, 3) := by decide +kernel
theorem dL_law_1288 : decode cL_law 1288 = .ok (.aload_n 1, 1) := by decide +kernel
theorem dL_law_1289 : decode cL_law 1289 = .ok (.aload_n 0, 1) := by decide +kernel
theorem dL_law_1290 : decode cL_law 1290 = .ok (.iload_n 3, 1) := by decide +kernel
theorem dL_law_1291 : decode cL_law 1291 = .ok (.iconst 1, 1) := by decide +kernel
theorem dL_law_1292 : decode cL_law 1292 = .ok (.iadd, 1) := by decide +kernel
theorem dL_law_1293 : decode cL_law 1293 = .ok (.iaload, 1) := by decide +kernel
theorem dL_law_1294 : decode cL_law 1294 = .ok (.aload_n 0, 1) := by decide +kernel
theorem dL_law_1295 : decode cL_law 1295 = .ok (.iload_n 3, 1) := by decide +kernel
theorem dL_law_1296 : decode cL_law 1296 = .ok (.iconst 2, 1) := by decide +kernel
theorem dL_law_1297 : decode cL_law 1297 = .ok (.iadd, 1) := by decide +kernel
theorem dL_law_1298 : decode cL_law 1298 = .ok (.iaload, 1) := by decide +kernel
theorem dL_law_1299 : decode cL_law 1299 = .ok (.aload_n 0, 1) := by decide +kernel
theorem dL_law_1300 : decode cL_law 1300 = .ok (.iload_n 3, 1) := by decide +kernel
theorem dL_law_1301 : decode cL_law 1301 = .ok (.iconst 3, 1) := by decide +kernel
theorem dL_law_1302 : decode cL_law 1302 = .ok (.iadd, 1) := by decide +kernel
theorem dL_law_1303 : decode cL_law 1303 = .ok (.iaload, 1) := by decide +kernel
theorem dL_law_1304 : decode cL_law 1304 = .ok (.invokevirtual 143, 3) := by decide +kernel
theorem dL_law_1307 : decode cL_law 1307 = .ok (.aload_n 2, 1) := by decide +kernel
theorem dL_law_1308 : decode cL_law 1308 = .ok (.aload_n 0, 1) := by decide +kernel
theorem dL_law_1309 : decode cL_law 1309 = .ok (.iload_n 3, 1) := by decide +kernel
theorem dL_law_1310 : decode cL_law 1310 = .ok (.iconst 1, 1) := by decide +kernel
theorem dL_law_1311 : decode cL_law 1311 = .ok (.iadd, 1) := by decide +kernel
theorem dL_law_1312 : decode cL_law 1312 = .ok (.iaload, 1) := by decide +kernel
theorem dL_law_1313 : decode cL_law 1313 = .ok (.aload_n 0, 1) := by decide +kernel
theorem dL_law_1314 : decode cL_law 1314 = .ok (.iload_n 3, 1) := by decide +kernel
theorem dL_law_1315 : decode cL_law 1315 = .ok (.iconst 2, 1) := by decide +kernel
theorem dL_law_1316 : decode cL_law 1316 = .ok (.iadd, 1) := by decide +kernel
theorem dL_law_1317 : decode cL_law 1317 = .ok (.iaload, 1) := by decide +kernel
theorem dL_law_1318 : decode cL_law 1318 = .ok (.aload_n 0, 1) := by decide +kernel
theorem dL_law_1319 : decode cL_law 1319 = .ok (.iload_n 3, 1) := by decide +kernel
theorem dL_law_1320 : decode cL_law 1320 = .ok (.iconst 3, 1) := by decide +kernel
theorem dL_law_1321 : decode cL_law 1321 = .ok (.iadd, 1) := by decide +kernel
theorem dL_law_1322 : decode cL_law 1322 = .ok (.iaload, 1) := by decide +kernel
theorem dL_law_1323 : decode cL_law 1323 = .ok (.invokevirtual 146, 3) := by decide +kernel
theorem dL_law_1326 : decode cL_law 1326 = .ok (.if_icmp .eq 653, 3) := by decide +kernel
theorem dL_law_1331 : decode cL_law 1331 = .ok (.aload_n 1, 1) := by decide +kernel
theorem dL_law_1332 : decode cL_law 1332 = .ok (.aload_n 0, 1) := by decide +kernel
theorem dL_law_1333 : decode cL_law 1333 = .ok (.iload_n 3, 1) := by decide +kernel
theorem dL_law_1334 : decode cL_law 1334 = .ok (.iconst 1, 1) := by decide +kernel
theorem dL_law_1335 : decode cL_law 1335 = .ok (.iadd, 1) := by decide +kernel
theorem dL_law_1336 : decode cL_law 1336 = .ok (.iaload, 1) := by decide +kernel
theorem dL_law_1337 : decode cL_law 1337 = .ok (.aload_n 0, 1) := by decide +kernel
theorem dL_law_1338 : decode cL_law 1338 = .ok (.iload_n 3, 1) := by decide +kernel
theorem dL_law_1339 : decode cL_law 1339 = .ok (.iconst 2, 1) := by decide +kernel
theorem dL_law_1340 : decode cL_law 1340 = .ok (.iadd, 1) := by decide +kernel
theorem dL_law_1341 : decode cL_law 1341 = .ok (.iaload, 1) := by decide +kernel
theorem dL_law_1342 : decode cL_law 1342 = .ok (.aload_n 0, 1) := by decide +kernel
theorem dL_law_1343 : decode cL_law 1343 = .ok (.iload_n 3, 1) := by decide +kernel
theorem dL_law_1344 : decode cL_law 1344 = .ok (.iconst 3, 1) := by decide +kernel
theorem dL_law_1345 : decode cL_law 1345 = .ok (.iadd, 1) := by decide +kernel
theorem dL_law_1346 : decode cL_law 1346 = .ok (.iaload, 1) := by decide +kernel
theorem dL_law_1347 : decode cL_law 1347 = .ok (.invokevirtual 147, 3) := by decide +kernel
theorem dL_law_1350 : decode cL_law 1350 = .ok (.aload_n 2, 1) := by decide +kernel
theorem dL_law_1351 : decode cL_law 1351 = .ok (.aload_n 0, 1) := by decide +kernel
theorem dL_law_1352 : decode cL_law 1352 = .ok (.iload_n 3, 1) := by decide +kernel
theorem dL_law_1353 : decode cL_law 1353 = .ok (.iconst 1, 1) := by decide +kernel
theorem dL_law_1354 : decode cL_law 1354 = .ok (.iadd, 1) := by decide +kernel
theorem dL_law_1355 : decode cL_law 1355 = .ok (.iaload, 1) := by decide +kernel
theorem dL_law_1356 : decode cL_law 1356 = .ok (.aload_n 0, 1) := by decide +kernel
theorem dL_law_1357 : decode cL_law 1357 = .ok (.iload_n 3, 1) := by decide +kernel
theorem dL_law_1358 : decode cL_law 1358 = .ok (.iconst 2, 1) := by decide +kernel
theorem dL_law_1359 : decode cL_law 1359 = .ok (.iadd, 1) := by decide +kernel
theorem dL_law_1360 : decode cL_law 1360 = .ok (.iaload, 1) := by decide +kernel
theorem dL_law_1361 : decode cL_law 1361 = .ok (.aload_n 0, 1) := by decide +kernel
theorem dL_law_1362 : decode cL_law 1362 = .ok (.iload_n 3, 1) := by decide +kernel
theorem dL_law_1363 : decode cL_law 1363 = .ok (.iconst 3, 1) := by decide +kernel
theorem dL_law_1364 : decode cL_law 1364 = .ok (.iadd, 1) := by decide +kernel
theorem dL_law_1365 : decode cL_law 1365 = .ok (.iaload, 1) := by decide +kernel
theorem dL_law_1366 : decode cL_law 1366 = .ok (.invokevirtual 150, 3) := by decide +kernel
theorem dL_law_1369 : decode cL_law 1369 = .ok (.if_icmp .eq 610, 3) := by decide +kernel
theorem dL_law_1374 : decode cL_law 1374 = .ok (.aload_n 1, 1) := by decide +kernel
theorem dL_law_1375 : decode cL_law 1375 = .ok (.aload_n 0, 1) := by decide +kernel
theorem dL_law_1376 : decode cL_law 1376 = .ok (.iload_n 3, 1) := by decide +kernel
theorem dL_law_1377 : decode cL_law 1377 = .ok (.iconst 1, 1) := by decide +kernel
theorem dL_law_1378 : decode cL_law 1378 = .ok (.iadd, 1) := by decide +kernel
theorem dL_law_1379 : decode cL_law 1379 = .ok (.iaload, 1) := by decide +kernel
theorem dL_law_1380 : decode cL_law 1380 = .ok (.aload_n 0, 1) := by decide +kernel
theorem dL_law_1381 : decode cL_law 1381 = .ok (.iload_n 3, 1) := by decide +kernel
theorem dL_law_1382 : decode cL_law 1382 = .ok (.iconst 2, 1) := by decide +kernel
theorem dL_law_1383 : decode cL_law 1383 = .ok (.iadd, 1) := by decide +kernel
theorem dL_law_1384 : decode cL_law 1384 = .ok (.iaload, 1) := by decide +kernel
theorem dL_law_1385 : decode cL_law 1385 = .ok (.invokevirtual 151, 3) := by decide +kernel
theorem dL_law_1388 : decode cL_law 1388 = .ok (.aload_n 2, 1) := by decide +kernel
theorem dL_law_1389 : decode cL_law 1389 = .ok (.aload_n 0, 1) := by decide +kernel
theorem dL_law_1390 : decode cL_law 1390 = .ok (.iload_n 3, 1) := by decide +kernel
theorem dL_law_1391 : decode cL_law 1391 = .ok (.iconst 1, 1) := by decide +kernel
theorem dL_law_1392 : decode cL_law 1392 = .ok (.iadd, 1) := by decide +kernel
theorem dL_law_1393 : decode cL_law 1393 = .ok (.iaload, 1) := by decide +kernel
theorem dL_law_1394 : decode cL_law 1394 = .ok (.aload_n 0, 1) := by decide +kernel
theorem dL_law_1395 : decode cL_law 1395 = .ok (.iload_n 3, 1) := by decide +kernel
theorem dL_law_1396 : decode cL_law 1396 = .ok (.iconst 2, 1) := by decide +kernel
theorem dL_law_1397 : decode cL_law 1397 = .ok (.iadd, 1) := by decide +kernel
theorem dL_law_1398 : decode cL_law 1398 = .ok (.iaload, 1) := by decide +kernel
theorem dL_law_1399 : decode cL_law 1399 = .ok (.invokevirtual 154, 3) := by decide +kernel
theorem dL_law_1402 : decode cL_law 1402 = .ok (.if_icmp .eq 577, 3) := by decide +kernel
theorem dL_law_1407 : decode cL_law 1407 = .ok (.aload_n 1, 1) := by decide +kernel
theorem dL_law_1408 : decode cL_law 1408 = .ok (.aload_n 0, 1) := by decide +kernel
theorem dL_law_1409 : decode cL_law 1409 = .ok (.iload_n 3, 1) := by decide +kernel
theorem dL_law_1410 : decode cL_law 1410 = .ok (.iconst 1, 1) := by decide +kernel
theorem dL_law_1411 : decode cL_law 1411 = .ok (.iadd, 1) := by decide +kernel
theorem dL_law_1412 : decode cL_law 1412 = .ok (.iaload, 1) := by decide +kernel
theorem dL_law_1413 : decode cL_law 1413 = .ok (.aload_n 0, 1) := by decide +kernel
theorem dL_law_1414 : decode cL_law 1414 = .ok (.iload_n 3, 1) := by decide +kernel
theorem dL_law_1415 : decode cL_law 1415 = .ok (.iconst 2, 1) := by decide +kernel
theorem dL_law_1416 : decode cL_law 1416 = .ok (.iadd, 1) := by decide +kernel
theorem dL_law_1417 : decode cL_law 1417 = .ok (.iaload, 1) := by decide +kernel
theorem dL_law_1418 : decode cL_law 1418 = .ok (.aload_n 0, 1) := by decide +kernel
theorem dL_law_1419 : decode cL_law 1419 = .ok (.iload_n 3, 1) := by decide +kernel
theorem dL_law_1420 : decode cL_law 1420 = .ok (.iconst 3, 1) := by decide +kernel
theorem dL_law_1421 : decode cL_law 1421 = .ok (.iadd, 1) := by decide +kernel
theorem dL_law_1422 : decode cL_law 1422 = .ok (.iaload, 1) := by decide +kernel
theorem dL_law_1423 : decode cL_law 1423 = .ok (.invokevirtual 155, 3) := by decide +kernel
theorem dL_law_1426 : decode cL_law 1426 = .ok (.aload_n 2, 1) := by decide +kernel
theorem dL_law_1427 : decode cL_law 1427 = .ok (.aload_n 0, 1) := by decide +kernel
theorem dL_law_1428 : decode cL_law 1428 = .ok (.iload_n 3, 1) := by decide +kernel
theorem dL_law_1429 : decode cL_law 1429 = .ok (.iconst 1, 1) := by decide +kernel
theorem dL_law_1430 : decode cL_law 1430 = .ok (.iadd, 1) := by decide +kernel
theorem dL_law_1431 : decode cL_law 1431 = .ok (.iaload, 1) := by decide +kernel
theorem dL_law_1432 : decode cL_law 1432 = .ok (.aload_n 0, 1) := by decide +kernel
theorem dL_law_1433 : decode cL_law 1433 = .ok (.iload_n 3, 1) := by decide +kernel
theorem dL_law_1434 : decode cL_law 1434 = .ok (.iconst 2, 1) := by decide +kernel
theorem dL_law_1435 : decode cL_law 1435 = .ok (.iadd, 1) := by decide +kernel
theorem dL_law_1436 : decode cL_law 1436 = .ok (.iaload, 1) := by decide +kernel
theorem dL_law_1437 : decode cL_law 1437 = .ok (.aload_n 0, 1) := by decide +kernel
theorem dL_law_1438 : decode cL_law 1438 = .ok (.iload_n 3, 1) := by decide +kernel
theorem dL_law_1439 : decode cL_law 1439 = .ok (.iconst 3, 1) := by decide +kernel
theorem dL_law_1440 : decode cL_law 1440 = .ok (.iadd, 1) := by decide +kernel
theorem dL_law_1441 : decode cL_law 1441 = .ok (.iaload, 1) := by decide +kernel
theorem dL_law_1442 : decode cL_law 1442 = .ok (.invokevirtual 158, 3) := by decide +kernel
theorem dL_law_1445 : decode cL_law 1445 = .ok (.if_icmp .eq 534, 3) := by decide +kernel
theorem dL_law_1450 : decode cL_law 1450 = .ok (.aload_n 1, 1) := by decide +kernel
theorem dL_law_1451 : decode cL_law 1451 = .ok (.aload_n 0, 1) := by decide +kernel
theorem dL_law_1452 : decode cL_law 1452 = .ok (.iload_n 3, 1) := by decide +kernel
theorem dL_law_1453 : decode cL_law 1453 = .ok (.iconst 1, 1) := by decide +kernel
theorem dL_law_1454 : decode cL_law 1454 = .ok (.iadd, 1) := by decide +kernel
theorem dL_law_1455 : decode cL_law 1455 = .ok (.iaload, 1) := by decide +kernel
theorem dL_law_1456 : decode cL_law 1456 = .ok (.aload_n 0, 1) := by decide +kernel
theorem dL_law_1457 : decode cL_law 1457 = .ok (.iload_n 3, 1) := by decide +kernel
theorem dL_law_1458 : decode cL_law 1458 = .ok (.iconst 2, 1) := by decide +kernel
theorem dL_law_1459 : decode cL_law 1459 = .ok (.iadd, 1) := by decide +kernel
theorem dL_law_1460 : decode cL_law 1460 = .ok (.iaload, 1) := by decide +kernel
theorem dL_law_1461 : decode cL_law 1461 = .ok (.invokevirtual 159, 3) := by decide +kernel
theorem dL_law_1464 : decode cL_law 1464 = .ok (.aload_n 2, 1) := by decide +kernel
theorem dL_law_1465 : decode cL_law 1465 = .ok (.aload_n 0, 1) := by decide +kernel
theorem dL_law_1466 : decode cL_law 1466 = .ok (.iload_n 3, 1) := by decide +kernel
theorem dL_law_1467 : decode cL_law 1467 = .ok (.iconst 1, 1) := by decide +kernel
theorem dL_law_1468 : decode cL_law 1468 = .ok (.iadd, 1) := by decide +kernel
theorem dL_law_1469 : decode cL_law 1469 = .ok (.iaload, 1) := by decide +kernel
theorem dL_law_1470 : decode cL_law 1470 = .ok (.aload_n 0, 1) := by decide +kernel
theorem dL_law_1471 : decode cL_law 1471 = .ok (.iload_n 3, 1) := by decide +kernel
theorem dL_law_1472 : decode cL_law 1472 = .ok (.iconst 2, 1) := by decide +kernel
theorem dL_law_1473 : decode cL_law 1473 = .ok (.iadd, 1) := by decide +kernel
theorem dL_law_1474 : decode cL_law 1474 = .ok (.iaload, 1) := by decide +kernel
theorem dL_law_1475 : decode cL_law 1475 = .ok (.invokevirtual 162, 3) := by decide +kernel
theorem dL_law_1478 : decode cL_law 1478 = .ok (.if_icmp .eq 501, 3) := by decide +kernel
theorem dL_law_1483 : decode cL_law 1483 = .ok (.aload_n 1, 1) := by decide +kernel
theorem dL_law_1484 : decode cL_law 1484 = .ok (.aload_n 0, 1) := by decide +kernel
theorem dL_law_1485 : decode cL_law 1485 = .ok (.iload_n 3, 1) := by decide +kernel
theorem dL_law_1486 : decode cL_law 1486 = .ok (.iconst 1, 1) := by decide +kernel
theorem dL_law_1487 : decode cL_law 1487 = .ok (.iadd, 1) := by decide +kernel
theorem dL_law_1488 : decode cL_law 1488 = .ok (.iaload, 1) := by decide +kernel
theorem dL_law_1489 : decode cL_law 1489 = .ok (.aload_n 0, 1) := by decide +kernel
theorem dL_law_1490 : decode cL_law 1490 = .ok (.iload_n 3, 1) := by decide +kernel
theorem dL_law_1491 : decode cL_law 1491 = .ok (.iconst 2, 1) := by decide +kernel
theorem dL_law_1492 : decode cL_law 1492 = .ok (.iadd, 1) := by decide +kernel
theorem dL_law_1493 : decode cL_law 1493 = .ok (.iaload, 1) := by decide +kernel
theorem dL_law_1494 : decode cL_law 1494 = .ok (.invokevirtual 163, 3) := by decide +kernel
theorem dL_law_1497 : decode cL_law 1497 = .ok (.aload_n 2, 1) := by decide +kernel
theorem dL_law_1498 : decode cL_law 1498 = .ok (.aload_n 0, 1) := by decide +kernel
theorem dL_law_1499 : decode cL_law 1499 = .ok (.iload_n 3, 1) := by decide +kernel
theorem dL_law_1500 : decode cL_law 1500 = .ok (.iconst 1, 1) := by decide +kernel
theorem dL_law_1501 : decode cL_law 1501 = .ok (.iadd, 1) := by decide +kernel
theorem dL_law_1502 : decode cL_law 1502 = .ok (.iaload, 1) := by decide +kernel
theorem dL_law_1503 : decode cL_law 1503 = .ok (.aload_n 0, 1) := by decide +kernel
theorem dL_law_1504 : decode cL_law 1504 = .ok (.iload_n 3, 1) := by decide +kernel
theorem dL_law_1505 : decode cL_law 1505 = .ok (.iconst 2, 1) := by decide +kernel
theorem dL_law_1506 : decode cL_law 1506 = .ok (.iadd, 1) := by decide +kernel
theorem dL_law_1507 : decode cL_law 1507 = .ok (.iaload, 1) := by decide +kernel
theorem dL_law_1508 : decode cL_law 1508 = .ok (.invokevirtual 166, 3) := by decide +kernel
theorem dL_law_1511 : decode cL_law 1511 = .ok (.if_icmp .eq 468, 3) := by decide +kernel
theorem dL_law_1516 : decode cL_law 1516 = .ok (.aload_n 1, 1) := by decide +kernel
theorem dL_law_1517 : decode cL_law 1517 = .ok (.aload_n 0, 1) := by decide +kernel
theorem dL_law_1518 : decode cL_law 1518 = .ok (.iload_n 3, 1) := by decide +kernel
theorem dL_law_1519 : decode cL_law 1519 = .ok (.iconst 1, 1) := by decide +kernel
theorem dL_law_1520 : decode cL_law 1520 = .ok (.iadd, 1) := by decide +kernel
theorem dL_law_1521 : decode cL_law 1521 = .ok (.iaload, 1) := by decide +kernel
theorem dL_law_1522 : decode cL_law 1522 = .ok (.invokevirtual 167, 3) := by decide +kernel
theorem dL_law_1525 : decode cL_law 1525 = .ok (.aload_n 2, 1) := by decide +kernel
theorem dL_law_1526 : decode cL_law 1526 = .ok (.aload_n 0, 1) := by decide +kernel
theorem dL_law_1527 : decode cL_law 1527 = .ok (.iload_n 3, 1) := by decide +kernel
theorem dL_law_1528 : decode cL_law 1528 = .ok (.iconst 1, 1) := by decide +kernel
theorem dL_law_1529 : decode cL_law 1529 = .ok (.iadd, 1) := by decide +kernel
theorem dL_law_1530 : decode cL_law 1530 = .ok (.iaload, 1) := by decide +kernel
theorem dL_law_1531 : decode cL_law 1531 = .ok (.invokevirtual 170, 3) := by decide +kernel
theorem dL_law_1534 : decode cL_law 1534 = .ok (.if_icmp .eq 445, 3) := by decide +kernel
theorem dL_law_1539 : decode cL_law 1539 = .ok (.aload_n 1, 1) := by decide +kernel
theorem dL_law_1540 : decode cL_law 1540 = .ok (.aload_n 0, 1) := by decide +kernel
theorem dL_law_1541 : decode cL_law 1541 = .ok (.iload_n 3, 1) := by decide +kernel
theorem dL_law_1542 : decode cL_law 1542 = .ok (.iconst 1, 1) := by decide +kernel
theorem dL_law_1543 : decode cL_law 1543 = .ok (.iadd, 1) := by decide +kernel
theorem dL_law_1544 : decode cL_law 1544 = .ok (.iaload, 1) := by decide +kernel
theorem dL_law_1545 : decode cL_law 1545 = .ok (.invokevirtual 171, 3) := by decide +kernel
theorem dL_law_1548 : decode cL_law 1548 = .ok (.aload_n 2, 1) := by decide +kernel
theorem dL_law_1549 : decode cL_law 1549 = .ok (.aload_n 0, 1) := by decide +kernel
theorem dL_law_1550 : decode cL_law 1550 = .ok (.iload_n 3, 1) := by decide +kernel
theorem dL_law_1551 : decode cL_law 1551 = .ok (.iconst 1, 1) := by decide +kernel
theorem dL_law_1552 : decode cL_law 1552 = .ok (.iadd, 1) := by decide +kernel
theorem dL_law_1553 : decode cL_law 1553 = .ok (.iaload, 1) := by decide +kernel
theorem dL_law_1554 : decode cL_law 1554 = .ok (.invokevirtual 174, 3) := by decide +kernel
theorem dL_law_1557 : decode cL_law 1557 = .ok (.if_icmp .eq 422, 3) := by decide +kernel
theorem dL_law_1562 : decode cL_law 1562 = .ok (.aload_n 1, 1) := by decide +kernel
theorem dL_law_1563 : decode cL_law 1563 = .ok (.aload_n 0, 1) := by decide +kernel
theorem dL_law_1564 : decode cL_law 1564 = .ok (.iload_n 3, 1) := by decide +kernel
theorem dL_law_1565 : decode cL_law 1565 = .ok (.iconst 1, 1) := by decide +kernel
theorem dL_law_1566 : decode cL_law 1566 = .ok (.iadd, 1) := by decide +kernel
theorem dL_law_1567 : decode cL_law 1567 = .ok (.iaload, 1) := by decide +kernel
theorem dL_law_1568 : decode cL_law 1568 = .ok (.aload_n 0, 1) := by decide +kernel
theorem dL_law_1569 : decode cL_law 1569 = .ok (.iload_n 3, 1) := by decide +kernel
theorem dL_law_1570 : decode cL_law 1570 = .ok (.iconst 2, 1) := by decide +kernel
theorem dL_law_1571 : decode cL_law 1571 = .ok (.iadd, 1) := by decide +kernel
theorem dL_law_1572 : decode cL_law 1572 = .ok (.iaload, 1) := by decide +kernel
theorem dL_law_1573 : decode cL_law 1573 = .ok (.invokevirtual 175, 3) := by decide +kernel
theorem dL_law_1576 : decode cL_law 1576 = .ok (.aload_n 2, 1) := by decide +kernel
theorem dL_law_1577 : decode cL_law 1577 = .ok (.aload_n 0, 1) := by decide +kernel
theorem dL_law_1578 : decode cL_law 1578 = .ok (.iload_n 3, 1) := by decide +kernel
theorem dL_law_1579 : decode cL_law 1579 = .ok (.iconst 1, 1) := by decide +kernel
theorem dL_law_1580 : decode cL_law 1580 = .ok (.iadd, 1) := by decide +kernel
theorem dL_law_1581 : decode cL_law 1581 = .ok (.iaload, 1) := by decide +kernel
theorem dL_law_1582 : decode cL_law 1582 = .ok (.aload_n 0, 1) := by decide +kernel
theorem dL_law_1583 : decode cL_law 1583 = .ok (.iload_n 3, 1) := by decide +kernel
theorem dL_law_1584 : decode cL_law 1584 = .ok (.iconst 2, 1) := by decide +kernel
theorem dL_law_1585 : decode cL_law 1585 = .ok (.iadd, 1) := by decide +kernel
theorem dL_law_1586 : decode cL_law 1586 = .ok (.iaload, 1) := by decide +kernel
theorem dL_law_1587 : decode cL_law 1587 = .ok (.invokevirtual 178, 3) := by decide +kernel
theorem dL_law_1590 : decode cL_law 1590 = .ok (.if_icmp .eq 389, 3) := by decide +kernel
theorem dL_law_1595 : decode cL_law 1595 = .ok (.aload_n 1, 1) := by decide +kernel
theorem dL_law_1596 : decode cL_law 1596 = .ok (.aload_n 0, 1) := by decide +kernel
theorem dL_law_1597 : decode cL_law 1597 = .ok (.iload_n 3, 1) := by decide +kernel
theorem dL_law_1598 : decode cL_law 1598 = .ok (.iconst 1, 1) := by decide +kernel
theorem dL_law_1599 : decode cL_law 1599 = .ok (.iadd, 1) := by decide +kernel
theorem dL_law_1600 : decode cL_law 1600 = .ok (.iaload, 1) := by decide +kernel
theorem dL_law_1601 : decode cL_law 1601 = .ok (.invokevirtual 179, 3) := by decide +kernel
theorem dL_law_1604 : decode cL_law 1604 = .ok (.aload_n 2, 1) := by decide +kernel
theorem dL_law_1605 : decode cL_law 1605 = .ok (.aload_n 0, 1) := by decide +kernel
theorem dL_law_1606 : decode cL_law 1606 = .ok (.iload_n 3, 1) := by decide +kernel
theorem dL_law_1607 : decode cL_law 1607 = .ok (.iconst 1, 1) := by decide +kernel
theorem dL_law_1608 : decode cL_law 1608 = .ok (.iadd, 1) := by decide +kernel
theorem dL_law_1609 : decode cL_law 1609 = .ok (.iaload, 1) := by decide +kernel
theorem dL_law_1610 : decode cL_law 1610 = .ok (.invokevirtual 182, 3) := by decide +kernel
theorem dL_law_1613 : decode cL_law 1613 = .ok (.if_icmp .eq 366, 3) := by decide +kernel
theorem dL_law_1618 : decode cL_law 1618 = .ok (.aload_n 1, 1) := by decide +kernel
theorem dL_law_1619 : decode cL_law 1619 = .ok (.aload_n 0, 1) := by decide +kernel
theorem dL_law_1620 : decode cL_law 1620 = .ok (.iload_n 3, 1) := by decide +kernel
theorem dL_law_1621 : decode cL_law 1621 = .ok (.iconst 1, 1) := by decide +kernel
theorem dL_law_1622 : decode cL_law 1622 = .ok (.iadd, 1) := by decide +kernel
theorem dL_law_1623 : decode cL_law 1623 = .ok (.iaload, 1) := by decide +kernel
theorem dL_law_1624 : decode cL_law 1624 = .ok (.invokevirtual 183, 3) := by decide +kernel
theorem dL_law_1627 : decode cL_law 1627 = .ok (.aload_n 2, 1) := by decide +kernel
theorem dL_law_1628 : decode cL_law 1628 = .ok (.aload_n 0, 1) := by decide +kernel
theorem dL_law_1629 : decode cL_law 1629 = .ok (.iload_n 3, 1) := by decide +kernel
theorem dL_law_1630 : decode cL_law 1630 = .ok (.iconst 1, 1) := by decide +kernel
theorem dL_law_1631 : decode cL_law 1631 = .ok (.iadd, 1) := by decide +kernel
theorem dL_law_1632 : decode cL_law 1632 = .ok (.iaload, 1) := by decide +kernel
theorem dL_law_1633 : decode cL_law 1633 = .ok (.invokevirtual 186, 3) := by decide +kernel
theorem dL_law_1636 : decode cL_law 1636 = .ok (.if_icmp .eq 343, 3) := by decide +kernel
theorem dL_law_1641 : decode cL_law 1641 = .ok (.aload_n 1, 1) := by decide +kernel
theorem dL_law_1642 : decode cL_law 1642 = .ok (.invokevirtual 187, 3) := by decide +kernel
theorem dL_law_1645 : decode cL_law 1645 = .ok (.aload_n 2, 1) := by decide +kernel
theorem dL_law_1646 : decode cL_law 1646 = .ok (.invokevirtual 190, 3) := by decide +kernel
theorem dL_law_1649 : decode cL_law 1649 = .ok (.if_icmp .eq 330, 3) := by decide +kernel
theorem dL_law_1654 : decode cL_law 1654 = .ok (.aload_n 1, 1) := by decide +kernel
theorem dL_law_1655 : decode cL_law 1655 = .ok (.aload_n 0, 1) := by decide +kernel
theorem dL_law_1656 : decode cL_law 1656 = .ok (.iload_n 3, 1) := by decide +kernel
theorem dL_law_1657 : decode cL_law 1657 = .ok (.iconst 1, 1) := by decide +kernel
theorem dL_law_1658 : decode cL_law 1658 = .ok (.iadd, 1) := by decide +kernel
theorem dL_law_1659 : decode cL_law 1659 = .ok (.iaload, 1) := by decide +kernel
theorem dL_law_1660 : decode cL_law 1660 = .ok (.aload_n 0, 1) := by decide +kernel
theorem dL_law_1661 : decode cL_law 1661 = .ok (.iload_n 3, 1) := by decide +kernel
theorem dL_law_1662 : decode cL_law 1662 = .ok (.iconst 2, 1) := by decide +kernel
theorem dL_law_1663 : decode cL_law 1663 = .ok (.iadd, 1) := by decide +kernel
theorem dL_law_1664 : decode cL_law 1664 = .ok (.iaload, 1) := by decide +kernel
theorem dL_law_1665 : decode cL_law 1665 = .ok (.invokevirtual 191, 3) := by decide +kernel
theorem dL_law_1668 : decode cL_law 1668 = .ok (.aload_n 2, 1) := by decide +kernel
theorem dL_law_1669 : decode cL_law 1669 = .ok (.aload_n 0, 1) := by decide +kernel
theorem dL_law_1670 : decode cL_law 1670 = .ok (.iload_n 3, 1) := by decide +kernel
theorem dL_law_1671 : decode cL_law 1671 = .ok (.iconst 1, 1) := by decide +kernel
theorem dL_law_1672 : decode cL_law 1672 = .ok (.iadd, 1) := by decide +kernel
theorem dL_law_1673 : decode cL_law 1673 = .ok (.iaload, 1) := by decide +kernel
theorem dL_law_1674 : decode cL_law 1674 = .ok (.aload_n 0, 1) := by decide +kernel
theorem dL_law_1675 : decode cL_law 1675 = .ok (.iload_n 3, 1) := by decide +kernel
theorem dL_law_1676 : decode cL_law 1676 = .ok (.iconst 2, 1) := by decide +kernel
theorem dL_law_1677 : decode cL_law 1677 = .ok (.iadd, 1) := by decide +kernel
theorem dL_law_1678 : decode cL_law 1678 = .ok (.iaload, 1) := by decide +kernel
theorem dL_law_1679 : decode cL_law 1679 = .ok (.invokevirtual 195, 3) := by decide +kernel
theorem dL_law_1682 : decode cL_law 1682 = .ok (.lcmp, 1) := by decide +kernel
theorem dL_law_1683 : decode cL_law 1683 = .ok (.ifCond .eq 296, 3) := by decide +kernel
theorem dL_law_1688 : decode cL_law 1688 = .ok (.aload_n 1, 1) := by decide +kernel
theorem dL_law_1689 : decode cL_law 1689 = .ok (.invokevirtual 196, 3) := by decide +kernel
theorem dL_law_1692 : decode cL_law 1692 = .ok (.aload_n 2, 1) := by decide +kernel
theorem dL_law_1693 : decode cL_law 1693 = .ok (.invokevirtual 199, 3) := by decide +kernel
theorem dL_law_1696 : decode cL_law 1696 = .ok (.if_icmp .eq 283, 3) := by decide +kernel
theorem dL_law_1701 : decode cL_law 1701 = .ok (.aload_n 1, 1) := by decide +kernel
theorem dL_law_1702 : decode cL_law 1702 = .ok (.aload_n 0, 1) := by decide +kernel
theorem dL_law_1703 : decode cL_law 1703 = .ok (.iload_n 3, 1) := by decide +kernel
theorem dL_law_1704 : decode cL_law 1704 = .ok (.iconst 1, 1) := by decide +kernel
theorem dL_law_1705 : decode cL_law 1705 = .ok (.iadd, 1) := by decide +kernel
theorem dL_law_1706 : decode cL_law 1706 = .ok (.iaload, 1) := by decide +kernel
theorem dL_law_1707 : decode cL_law 1707 = .ok (.aload_n 0, 1) := by decide +kernel
theorem dL_law_1708 : decode cL_law 1708 = .ok (.iload_n 3, 1) := by decide +kernel
theorem dL_law_1709 : decode cL_law 1709 = .ok (.iconst 2, 1) := by decide +kernel
theorem dL_law_1710 : decode cL_law 1710 = .ok (.iadd, 1) := by decide +kernel
theorem dL_law_1711 : decode cL_law 1711 = .ok (.iaload, 1) := by decide +kernel
theorem dL_law_1712 : decode cL_law 1712 = .ok (.invokevirtual 200, 3) := by decide +kernel
theorem dL_law_1715 : decode cL_law 1715 = .ok (.aload_n 2, 1) := by decide +kernel
theorem dL_law_1716 : decode cL_law 1716 = .ok (.aload_n 0, 1) := by decide +kernel
theorem dL_law_1717 : decode cL_law 1717 = .ok (.iload_n 3, 1) := by decide +kernel
theorem dL_law_1718 : decode cL_law 1718 = .ok (.iconst 1, 1) := by decide +kernel
theorem dL_law_1719 : decode cL_law 1719 = .ok (.iadd, 1) := by decide +kernel
theorem dL_law_1720 : decode cL_law 1720 = .ok (.iaload, 1) := by decide +kernel
theorem dL_law_1721 : decode cL_law 1721 = .ok (.aload_n 0, 1) := by decide +kernel
theorem dL_law_1722 : decode cL_law 1722 = .ok (.iload_n 3, 1) := by decide +kernel
theorem dL_law_1723 : decode cL_law 1723 = .ok (.iconst 2, 1) := by decide +kernel
theorem dL_law_1724 : decode cL_law 1724 = .ok (.iadd, 1) := by decide +kernel
theorem dL_law_1725 : decode cL_law 1725 = .ok (.iaload, 1) := by decide +kernel
theorem dL_law_1726 : decode cL_law 1726 = .ok (.invokevirtual 203, 3) := by decide +kernel
theorem dL_law_1729 : decode cL_law 1729 = .ok (.if_icmp .eq 250, 3) := by decide +kernel
theorem dL_law_1734 : decode cL_law 1734 = .ok (.aload_n 1, 1) := by decide +kernel
theorem dL_law_1735 : decode cL_law 1735 = .ok (.aload_n 0, 1) := by decide +kernel
theorem dL_law_1736 : decode cL_law 1736 = .ok (.iload_n 3, 1) := by decide +kernel
theorem dL_law_1737 : decode cL_law 1737 = .ok (.iconst 1, 1) := by decide +kernel
theorem dL_law_1738 : decode cL_law 1738 = .ok (.iadd, 1) := by decide +kernel
theorem dL_law_1739 : decode cL_law 1739 = .ok (.iaload, 1) := by decide +kernel
theorem dL_law_1740 : decode cL_law 1740 = .ok (.aload_n 0, 1) := by decide +kernel
theorem dL_law_1741 : decode cL_law 1741 = .ok (.iload_n 3, 1) := by decide +kernel
theorem dL_law_1742 : decode cL_law 1742 = .ok (.iconst 2, 1) := by decide +kernel
theorem dL_law_1743 : decode cL_law 1743 = .ok (.iadd, 1) := by decide +kernel
theorem dL_law_1744 : decode cL_law 1744 = .ok (.iaload, 1) := by decide +kernel
theorem dL_law_1745 : decode cL_law 1745 = .ok (.aload_n 0, 1) := by decide +kernel
theorem dL_law_1746 : decode cL_law 1746 = .ok (.iload_n 3, 1) := by decide +kernel
theorem dL_law_1747 : decode cL_law 1747 = .ok (.iconst 3, 1) := by decide +kernel
theorem dL_law_1748 : decode cL_law 1748 = .ok (.iadd, 1) := by decide +kernel
theorem dL_law_1749 : decode cL_law 1749 = .ok (.iaload, 1) := by decide +kernel
theorem dL_law_1750 : decode cL_law 1750 = .ok (.aload_n 0, 1) := by decide +kernel
theorem dL_law_1751 : decode cL_law 1751 = .ok (.iload_n 3, 1) := by decide +kernel
theorem dL_law_1752 : decode cL_law 1752 = .ok (.iconst 4, 1) := by decide +kernel
theorem dL_law_1753 : decode cL_law 1753 = .ok (.iadd, 1) := by decide +kernel
theorem dL_law_1754 : decode cL_law 1754 = .ok (.iaload, 1) := by decide +kernel
theorem dL_law_1755 : decode cL_law 1755 = .ok (.invokevirtual 204, 3) := by decide +kernel
theorem dL_law_1758 : decode cL_law 1758 = .ok (.aload_n 2, 1) := by decide +kernel
theorem dL_law_1759 : decode cL_law 1759 = .ok (.aload_n 0, 1) := by decide +kernel
theorem dL_law_1760 : decode cL_law 1760 = .ok (.iload_n 3, 1) := by decide +kernel
theorem dL_law_1761 : decode cL_law 1761 = .ok (.iconst 1, 1) := by decide +kernel
theorem dL_law_1762 : decode cL_law 1762 = .ok (.iadd, 1) := by decide +kernel
theorem dL_law_1763 : decode cL_law 1763 = .ok (.iaload, 1) := by decide +kernel
theorem dL_law_1764 : decode cL_law 1764 = .ok (.aload_n 0, 1) := by decide +kernel
theorem dL_law_1765 : decode cL_law 1765 = .ok (.iload_n 3, 1) := by decide +kernel
theorem dL_law_1766 : decode cL_law 1766 = .ok (.iconst 2, 1) := by decide +kernel
theorem dL_law_1767 : decode cL_law 1767 = .ok (.iadd, 1) := by decide +kernel
theorem dL_law_1768 : decode cL_law 1768 = .ok (.iaload, 1) := by decide +kernel
theorem dL_law_1769 : decode cL_law 1769 = .ok (.aload_n 0, 1) := by decide +kernel
theorem dL_law_1770 : decode cL_law 1770 = .ok (.iload_n 3, 1) := by decide +kernel
theorem dL_law_1771 : decode cL_law 1771 = .ok (.iconst 3, 1) := by decide +kernel
theorem dL_law_1772 : decode cL_law 1772 = .ok (.iadd, 1) := by decide +kernel
theorem dL_law_1773 : decode cL_law 1773 = .ok (.iaload, 1) := by decide +kernel
theorem dL_law_1774 : decode cL_law 1774 = .ok (.aload_n 0, 1) := by decide +kernel
theorem dL_law_1775 : decode cL_law 1775 = .ok (.iload_n 3, 1) := by decide +kernel
theorem dL_law_1776 : decode cL_law 1776 = .ok (.iconst 4, 1) := by decide +kernel
theorem dL_law_1777 : decode cL_law 1777 = .ok (.iadd, 1) := by decide +kernel
theorem dL_law_1778 : decode cL_law 1778 = .ok (.iaload, 1) := by decide +kernel
theorem dL_law_1779 : decode cL_law 1779 = .ok (.invokevirtual 207, 3) := by decide +kernel
theorem dL_law_1782 : decode cL_law 1782 = .ok (.if_icmp .eq 197, 3) := by decide +kernel
theorem dL_law_1787 : decode cL_law 1787 = .ok (.aload_n 1, 1) := by decide +kernel
theorem dL_law_1788 : decode cL_law 1788 = .ok (.aload_n 0, 1) := by decide +kernel
theorem dL_law_1789 : decode cL_law 1789 = .ok (.iload_n 3, 1) := by decide +kernel
theorem dL_law_1790 : decode cL_law 1790 = .ok (.iconst 1, 1) := by decide +kernel
theorem dL_law_1791 : decode cL_law 1791 = .ok (.iadd, 1) := by decide +kernel
theorem dL_law_1792 : decode cL_law 1792 = .ok (.iaload, 1) := by decide +kernel
theorem dL_law_1793 : decode cL_law 1793 = .ok (.aload_n 0, 1) := by decide +kernel
theorem dL_law_1794 : decode cL_law 1794 = .ok (.iload_n 3, 1) := by decide +kernel
theorem dL_law_1795 : decode cL_law 1795 = .ok (.iconst 2, 1) := by decide +kernel
theorem dL_law_1796 : decode cL_law 1796 = .ok (.iadd, 1) := by decide +kernel
theorem dL_law_1797 : decode cL_law 1797 = .ok (.iaload, 1) := by decide +kernel
theorem dL_law_1798 : decode cL_law 1798 = .ok (.invokevirtual 208, 3) := by decide +kernel
theorem dL_law_1801 : decode cL_law 1801 = .ok (.aload_n 2, 1) := by decide +kernel
theorem dL_law_1802 : decode cL_law 1802 = .ok (.aload_n 0, 1) := by decide +kernel
theorem dL_law_1803 : decode cL_law 1803 = .ok (.iload_n 3, 1) := by decide +kernel
theorem dL_law_1804 : decode cL_law 1804 = .ok (.iconst 1, 1) := by decide +kernel
theorem dL_law_1805 : decode cL_law 1805 = .ok (.iadd, 1) := by decide +kernel
theorem dL_law_1806 : decode cL_law 1806 = .ok (.iaload, 1) := by decide +kernel
theorem dL_law_1807 : decode cL_law 1807 = .ok (.aload_n 0, 1) := by decide +kernel
theorem dL_law_1808 : decode cL_law 1808 = .ok (.iload_n 3, 1) := by decide +kernel
theorem dL_law_1809 : decode cL_law 1809 = .ok (.iconst 2, 1) := by decide +kernel
theorem dL_law_1810 : decode cL_law 1810 = .ok (.iadd, 1) := by decide +kernel
theorem dL_law_1811 : decode cL_law 1811 = .ok (.iaload, 1) := by decide +kernel
theorem dL_law_1812 : decode cL_law 1812 = .ok (.invokevirtual 211, 3) := by decide +kernel
theorem dL_law_1815 : decode cL_law 1815 = .ok (.if_icmp .eq 164, 3) := by decide +kernel
theorem dL_law_1820 : decode cL_law 1820 = .ok (.aload_n 1, 1) := by decide +kernel
theorem dL_law_1821 : decode cL_law 1821 = .ok (.aload_n 0, 1) := by decide +kernel
theorem dL_law_1822 : decode cL_law 1822 = .ok (.iload_n 3, 1) := by decide +kernel
theorem dL_law_1823 : decode cL_law 1823 = .ok (.iconst 1, 1) := by decide +kernel
theorem dL_law_1824 : decode cL_law 1824 = .ok (.iadd, 1) := by decide +kernel
theorem dL_law_1825 : decode cL_law 1825 = .ok (.iaload, 1) := by decide +kernel
theorem dL_law_1826 : decode cL_law 1826 = .ok (.invokevirtual 212, 3) := by decide +kernel
theorem dL_law_1829 : decode cL_law 1829 = .ok (.aload_n 2, 1) := by decide +kernel
theorem dL_law_1830 : decode cL_law 1830 = .ok (.aload_n 0, 1) := by decide +kernel
theorem dL_law_1831 : decode cL_law 1831 = .ok (.iload_n 3, 1) := by decide +kernel
theorem dL_law_1832 : decode cL_law 1832 = .ok (.iconst 1, 1) := by decide +kernel
theorem dL_law_1833 : decode cL_law 1833 = .ok (.iadd, 1) := by decide +kernel
theorem dL_law_1834 : decode cL_law 1834 = .ok (.iaload, 1) := by decide +kernel
theorem dL_law_1835 : decode cL_law 1835 = .ok (.invokevirtual 215, 3) := by decide +kernel
theorem dL_law_1838 : decode cL_law 1838 = .ok (.if_icmp .eq 141, 3) := by decide +kernel
theorem dL_law_1843 : decode cL_law 1843 = .ok (.aload_n 1, 1) := by decide +kernel
theorem dL_law_1844 : decode cL_law 1844 = .ok (.aload_n 0, 1) := by decide +kernel
theorem dL_law_1845 : decode cL_law 1845 = .ok (.iload_n 3, 1) := by decide +kernel
theorem dL_law_1846 : decode cL_law 1846 = .ok (.iconst 1, 1) := by decide +kernel
theorem dL_law_1847 : decode cL_law 1847 = .ok (.iadd, 1) := by decide +kernel
theorem dL_law_1848 : decode cL_law 1848 = .ok (.iaload, 1) := by decide +kernel
theorem dL_law_1849 : decode cL_law 1849 = .ok (.aload_n 0, 1) := by decide +kernel
theorem dL_law_1850 : decode cL_law 1850 = .ok (.iload_n 3, 1) := by decide +kernel
theorem dL_law_1851 : decode cL_law 1851 = .ok (.iconst 2, 1) := by decide +kernel
theorem dL_law_1852 : decode cL_law 1852 = .ok (.iadd, 1) := by decide +kernel
theorem dL_law_1853 : decode cL_law 1853 = .ok (.iaload, 1) := by decide +kernel
theorem dL_law_1854 : decode cL_law 1854 = .ok (.invokevirtual 216, 3) := by decide +kernel
theorem dL_law_1857 : decode cL_law 1857 = .ok (.aload_n 2, 1) := by decide +kernel
theorem dL_law_1858 : decode cL_law 1858 = .ok (.aload_n 0, 1) := by decide +kernel
theorem dL_law_1859 : decode cL_law 1859 = .ok (.iload_n 3, 1) := by decide +kernel
theorem dL_law_1860 : decode cL_law 1860 = .ok (.iconst 1, 1) := by decide +kernel
theorem dL_law_1861 : decode cL_law 1861 = .ok (.iadd, 1) := by decide +kernel
theorem dL_law_1862 : decode cL_law 1862 = .ok (.iaload, 1) := by decide +kernel
theorem dL_law_1863 : decode cL_law 1863 = .ok (.aload_n 0, 1) := by decide +kernel
theorem dL_law_1864 : decode cL_law 1864 = .ok (.iload_n 3, 1) := by decide +kernel
theorem dL_law_1865 : decode cL_law 1865 = .ok (.iconst 2, 1) := by decide +kernel
theorem dL_law_1866 : decode cL_law 1866 = .ok (.iadd, 1) := by decide +kernel
theorem dL_law_1867 : decode cL_law 1867 = .ok (.iaload, 1) := by decide +kernel
theorem dL_law_1868 : decode cL_law 1868 = .ok (.invokevirtual 219, 3) := by decide +kernel
theorem dL_law_1871 : decode cL_law 1871 = .ok (.if_icmp .eq 108, 3) := by decide +kernel
theorem dL_law_1876 : decode cL_law 1876 = .ok (.aload_n 1, 1) := by decide +kernel
theorem dL_law_1877 : decode cL_law 1877 = .ok (.aload_n 0, 1) := by decide +kernel
theorem dL_law_1878 : decode cL_law 1878 = .ok (.iload_n 3, 1) := by decide +kernel
theorem dL_law_1879 : decode cL_law 1879 = .ok (.iconst 1, 1) := by decide +kernel
theorem dL_law_1880 : decode cL_law 1880 = .ok (.iadd, 1) := by decide +kernel
theorem dL_law_1881 : decode cL_law 1881 = .ok (.iaload, 1) := by decide +kernel
theorem dL_law_1882 : decode cL_law 1882 = .ok (.invokevirtual 220, 3) := by decide +kernel
theorem dL_law_1885 : decode cL_law 1885 = .ok (.aload_n 2, 1) := by decide +kernel
theorem dL_law_1886 : decode cL_law 1886 = .ok (.aload_n 0, 1) := by decide +kernel
theorem dL_law_1887 : decode cL_law 1887 = .ok (.iload_n 3, 1) := by decide +kernel
theorem dL_law_1888 : decode cL_law 1888 = .ok (.iconst 1, 1) := by decide +kernel
theorem dL_law_1889 : decode cL_law 1889 = .ok (.iadd, 1) := by decide +kernel
theorem dL_law_1890 : decode cL_law 1890 = .ok (.iaload, 1) := by decide +kernel
theorem dL_law_1891 : decode cL_law 1891 = .ok (.invokevirtual 224, 3) := by decide +kernel
theorem dL_law_1894 : decode cL_law 1894 = .ok (.lcmp, 1) := by decide +kernel
theorem dL_law_1895 : decode cL_law 1895 = .ok (.ifCond .eq 84, 3) := by decide +kernel
theorem dL_law_1900 : decode cL_law 1900 = .ok (.aload_n 1, 1) := by decide +kernel
theorem dL_law_1901 : decode cL_law 1901 = .ok (.aload_n 0, 1) := by decide +kernel
theorem dL_law_1902 : decode cL_law 1902 = .ok (.iload_n 3, 1) := by decide +kernel
theorem dL_law_1903 : decode cL_law 1903 = .ok (.iconst 1, 1) := by decide +kernel
theorem dL_law_1904 : decode cL_law 1904 = .ok (.iadd, 1) := by decide +kernel
theorem dL_law_1905 : decode cL_law 1905 = .ok (.iaload, 1) := by decide +kernel
theorem dL_law_1906 : decode cL_law 1906 = .ok (.aload_n 0, 1) := by decide +kernel
theorem dL_law_1907 : decode cL_law 1907 = .ok (.iload_n 3, 1) := by decide +kernel
theorem dL_law_1908 : decode cL_law 1908 = .ok (.iconst 2, 1) := by decide +kernel
theorem dL_law_1909 : decode cL_law 1909 = .ok (.iadd, 1) := by decide +kernel
theorem dL_law_1910 : decode cL_law 1910 = .ok (.iaload, 1) := by decide +kernel
theorem dL_law_1911 : decode cL_law 1911 = .ok (.aload_n 0, 1) := by decide +kernel
theorem dL_law_1912 : decode cL_law 1912 = .ok (.iload_n 3, 1) := by decide +kernel
theorem dL_law_1913 : decode cL_law 1913 = .ok (.iconst 3, 1) := by decide +kernel
theorem dL_law_1914 : decode cL_law 1914 = .ok (.iadd, 1) := by decide +kernel
theorem dL_law_1915 : decode cL_law 1915 = .ok (.iaload, 1) := by decide +kernel
theorem dL_law_1916 : decode cL_law 1916 = .ok (.invokevirtual 225, 3) := by decide +kernel
theorem dL_law_1919 : decode cL_law 1919 = .ok (.aload_n 2, 1) := by decide +kernel
theorem dL_law_1920 : decode cL_law 1920 = .ok (.aload_n 0, 1) := by decide +kernel
theorem dL_law_1921 : decode cL_law 1921 = .ok (.iload_n 3, 1) := by decide +kernel
theorem dL_law_1922 : decode cL_law 1922 = .ok (.iconst 1, 1) := by decide +kernel
theorem dL_law_1923 : decode cL_law 1923 = .ok (.iadd, 1) := by decide +kernel
theorem dL_law_1924 : decode cL_law 1924 = .ok (.iaload, 1) := by decide +kernel
theorem dL_law_1925 : decode cL_law 1925 = .ok (.aload_n 0, 1) := by decide +kernel
theorem dL_law_1926 : decode cL_law 1926 = .ok (.iload_n 3, 1) := by decide +kernel
theorem dL_law_1927 : decode cL_law 1927 = .ok (.iconst 2, 1) := by decide +kernel
theorem dL_law_1928 : decode cL_law 1928 = .ok (.iadd, 1) := by decide +kernel
theorem dL_law_1929 : decode cL_law 1929 = .ok (.iaload, 1) := by decide +kernel
theorem dL_law_1930 : decode cL_law 1930 = .ok (.aload_n 0, 1) := by decide +kernel
theorem dL_law_1931 : decode cL_law 1931 = .ok (.iload_n 3, 1) := by decide +kernel
theorem dL_law_1932 : decode cL_law 1932 = .ok (.iconst 3, 1) := by decide +kernel
theorem dL_law_1933 : decode cL_law 1933 = .ok (.iadd, 1) := by decide +kernel
theorem dL_law_1934 : decode cL_law 1934 = .ok (.iaload, 1) := by decide +kernel
theorem dL_law_1935 : decode cL_law 1935 = .ok (.invokevirtual 228, 3) := by decide +kernel
theorem dL_law_1938 : decode cL_law 1938 = .ok (.if_icmp .eq 41, 3) := by decide +kernel
theorem dL_law_1943 : decode cL_law 1943 = .ok (.aload_n 1, 1) := by decide +kernel
theorem dL_law_1944 : decode cL_law 1944 = .ok (.invokevirtual 229, 3) := by decide +kernel
theorem dL_law_1947 : decode cL_law 1947 = .ok (.aload_n 2, 1) := by decide +kernel
theorem dL_law_1948 : decode cL_law 1948 = .ok (.invokevirtual 232, 3) := by decide +kernel
theorem dL_law_1951 : decode cL_law 1951 = .ok (.if_icmp .eq 28, 3) := by decide +kernel
theorem dL_law_1956 : decode cL_law 1956 = .ok (.aload_n 1, 1) := by decide +kernel
theorem dL_law_1957 : decode cL_law 1957 = .ok (.aload_n 0, 1) := by decide +kernel
theorem dL_law_1958 : decode cL_law 1958 = .ok (.iload_n 3, 1) := by decide +kernel
theorem dL_law_1959 : decode cL_law 1959 = .ok (.iconst 1, 1) := by decide +kernel
theorem dL_law_1960 : decode cL_law 1960 = .ok (.iadd, 1) := by decide +kernel
theorem dL_law_1961 : decode cL_law 1961 = .ok (.iaload, 1) := by decide +kernel
theorem dL_law_1962 : decode cL_law 1962 = .ok (.invokevirtual 233, 3) := by decide +kernel
theorem dL_law_1965 : decode cL_law 1965 = .ok (.aload_n 2, 1) := by decide +kernel
theorem dL_law_1966 : decode cL_law 1966 = .ok (.aload_n 0, 1) := by decide +kernel
theorem dL_law_1967 : decode cL_law 1967 = .ok (.iload_n 3, 1) := by decide +kernel
theorem dL_law_1968 : decode cL_law 1968 = .ok (.iconst 1, 1) := by decide +kernel
theorem dL_law_1969 : decode cL_law 1969 = .ok (.iadd, 1) := by decide +kernel
theorem dL_law_1970 : decode cL_law 1970 = .ok (.iaload, 1) := by decide +kernel
theorem dL_law_1971 : decode cL_law 1971 = .ok (.invokevirtual 236, 3) := by decide +kernel
theorem dL_law_1974 : decode cL_law 1974 = .ok (.if_icmp .eq 5, 3) := by decide +kernel
theorem dL_law_1979 : decode cL_law 1979 = .ok (.iinc 3 5, 3) := by decide +kernel
theorem dL_law_1982 : decode cL_law 1982 = .ok (.goto (-1964), 3) := by decide +kernel
theorem dL_law_1985 : decode cL_law 1985 = .ok (.iconst 1, 1) := by decide +kernel
theorem dL_law_1986 : decode cL_law 1986 = .ok (.ireturn, 1) := by decide +kernel
abbrev vwCl : List vw_C := [(RX0, TX0, 10), (RX1, TX1, 18), (RX2, TX2, 15), (RX3, TX3, 16), (RX4, TX4, 10), (RX5, TX5, 7), (RX6, TX6, 11), (RX7, TX7, 8), (RX8, TX8, 5), (RX9, TX9, 12), (RX10, TX10, 8), (RX11, TX11, 20), (RX12, TX12, 172)]
