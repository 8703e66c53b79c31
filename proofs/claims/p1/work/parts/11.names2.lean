def tyX0 : Nat → FieldType := fun k => match k with
  | 0 => .array .int
  | 1 => .int
  | 2 => .array .byte
  | 3 => .int
  | 4 => .array .int
  | 5 => .int
  | 6 => .int
  | 7 => .int
  | 8 => .int
  | _ => .array .int
theorem nmX0 : ∀ a, a < 10 → ∀ b, b < 10 → a ≠ b → (TX0 a).2.1 ≠ (TX0 b).2.1 := by decide +kernel
theorem tyX0_ok : ∀ k, k < 10 → parseFieldDescriptor (TX0 k).2.2.1 = some (tyX0 k) := by decide +kernel
abbrev cX0_init : ByteArray := prog_2_method_1_code
def yX0_init : MethodName := ⟨RX0, "<init>", "()V"⟩
def tyX1 : Nat → FieldType := fun k => match k with
  | 0 => .int
  | 1 => .int
  | 2 => .int
  | 3 => .int
  | 4 => .int
  | 5 => .int
  | 6 => .int
  | 7 => .int
  | 8 => .int
  | 9 => .int
  | 10 => .array .int
  | 11 => .int
  | 12 => .int
  | 13 => .int
  | 14 => .array .int
  | 15 => .int
  | 16 => .int
  | _ => .int
theorem nmX1 : ∀ a, a < 18 → ∀ b, b < 18 → a ≠ b → (TX1 a).2.1 ≠ (TX1 b).2.1 := by decide +kernel
theorem tyX1_ok : ∀ k, k < 18 → parseFieldDescriptor (TX1 k).2.2.1 = some (tyX1 k) := by decide +kernel
def tyX3 : Nat → FieldType := fun k => match k with
  | 0 => .array .byte
  | 1 => .array .byte
  | 2 => .array .byte
  | 3 => .object "DiskEvidence$Form"
  | 4 => .array .byte
  | 5 => .array .byte
  | 6 => .int
  | 7 => .int
  | 8 => .int
  | 9 => .int
  | 10 => .array .int
  | 11 => .int
  | 12 => .int
  | 13 => .int
  | 14 => .int
  | _ => .array .int
theorem nmX3 : ∀ a, a < 16 → ∀ b, b < 16 → a ≠ b → (TX3 a).2.1 ≠ (TX3 b).2.1 := by decide +kernel
theorem tyX3_ok : ∀ k, k < 16 → parseFieldDescriptor (TX3 k).2.2.1 = some (tyX3 k) := by decide +kernel
abbrev cX3_init : ByteArray := prog_5_method_1_code
def yX3_init : MethodName := ⟨RX3, "<init>", "()V"⟩
def tyX6 : Nat → FieldType := fun k => match k with
  | 0 => .array .int
  | 1 => .int
  | 2 => .array .long
  | 3 => .array .int
  | 4 => .int
  | 5 => .array .byte
  | 6 => .int
  | 7 => .int
  | 8 => .int
  | 9 => .boolean
  | _ => .boolean
theorem nmX6 : ∀ a, a < 11 → ∀ b, b < 11 → a ≠ b → (TX6 a).2.1 ≠ (TX6 b).2.1 := by decide +kernel
theorem tyX6_ok : ∀ k, k < 11 → parseFieldDescriptor (TX6 k).2.2.1 = some (tyX6 k) := by decide +kernel
abbrev cX6_init : ByteArray := prog_8_method_1_code
def yX6_init : MethodName := ⟨RX6, "<init>", "()V"⟩
abbrev cX8_init : ByteArray := prog_10_method_1_code
def yX8_init : MethodName := ⟨RX8, "<init>", "()V"⟩
abbrev cX11_init : ByteArray := prog_1_method_1_code
def yX11_init : MethodName := ⟨RX11, "<init>", "()V"⟩
abbrev cX12_init : ByteArray := prog_14_method_1_code
def yX12_init : MethodName := ⟨RX12, "<init>", "()V"⟩
def wsX0_init : List Cond := .code yX0_init cX0_init 1 none :: ([.methodLink RX0 3 objectInit, .instanceMethod objectInit, .code objectInit ⟨#[0xb1]⟩ 1 none, .arrayClass .int, .fieldLink RX0 11 "DiskEvidence$Finder" "hits" "[I", .fieldLink RX0 19 "DiskEvidence$Finder" "text" "[B", .fieldLink RX0 22 "DiskEvidence$Finder" "meets" "[I", .fieldLink RX0 25 "DiskEvidence$Finder" "hopes" "[I"] ++ wsX00)
def wsX1_init : List Cond := .code yX1_init cX1_init 1 none :: ([.methodLink RX1 3 objectInit, .instanceMethod objectInit, .code objectInit ⟨#[0xb1]⟩ 1 none, .arrayClass .int, .fieldLink RX1 9 "DiskEvidence$Form" "headers" "[I", .fieldLink RX1 15 "DiskEvidence$Form" "seen" "[I"] ++ wsX10)
def wsX3_init : List Cond := .code yX3_init cX3_init 1 none :: ([.methodLink RX3 3 objectInit, .instanceMethod objectInit, .code objectInit ⟨#[0xb1]⟩ 1 none, .arrayClass .byte, .fieldLink RX3 9 "DiskEvidence$Maker" "image" "[B", .fieldLink RX3 15 "DiskEvidence$Maker" "before" "[B", .fieldLink RX3 18 "DiskEvidence$Maker" "rooms" "[B", .classLink RX3 21 RX1, .instantiable RX1 18, .initialized RX1, .fieldLink RX3 24 "DiskEvidence$Maker" "form" "LDiskEvidence$Form;", .fieldLink RX3 28 "DiskEvidence$Maker" "letters" "[B", .fieldLink RX3 34 "DiskEvidence$Maker" "text" "[B", .arrayClass .int, .fieldLink RX3 37 "DiskEvidence$Maker" "folderBlocks" "[I", .fieldLink RX3 41 "DiskEvidence$Maker" "taken" "[I", .instanceMethod yX1_init, .code yX1_init cX1_init 1 none, .methodLink RX1 3 objectInit, .fieldLink RX1 9 "DiskEvidence$Form" "headers" "[I", .fieldLink RX1 15 "DiskEvidence$Form" "seen" "[I"] ++ wsX30 ++ wsX10)
def wsX6_init : List Cond := .code yX6_init cX6_init 1 none :: ([.methodLink RX6 3 objectInit, .instanceMethod objectInit, .code objectInit ⟨#[0xb1]⟩ 1 none, .arrayClass .int, .fieldLink RX6 9 "DiskEvidence$Query" "rows" "[I", .arrayClass .long, .fieldLink RX6 15 "DiskEvidence$Query" "keys" "[J", .fieldLink RX6 19 "DiskEvidence$Query" "code" "[I", .fieldLink RX6 26 "DiskEvidence$Query" "text" "[B"] ++ wsX60)
def wsX8_init : List Cond := .code yX8_init cX8_init 1 none :: ([.methodLink RX8 3 objectInit, .instanceMethod objectInit, .code objectInit ⟨#[0xb1]⟩ 1 none, .arrayClass .long, .fieldLink RX8 11 "DiskEvidence$TimeLine" "moments" "[J", .arrayClass .int, .fieldLink RX8 15 "DiskEvidence$TimeLine" "marks" "[I", .fieldLink RX8 19 "DiskEvidence$TimeLine" "doubtMarks" "[I"] ++ wsX80)
def wsX11_init_r1 : List Cond := [Cond.methodLink RX11 1 objectInit, Cond.instanceMethod objectInit, Cond.code objectInit ⟨#[0xb1]⟩ 1 none, Cond.arrayClass .byte, Cond.fieldLink RX11 9 "DiskEvidence" "collected" "[B", Cond.classLink RX11 13 RX5, Cond.fieldLink RX11 15 "DiskEvidence" "pictures" "[LDiskEvidence$Picture;", Cond.classLink RX11 19 RX10, Cond.fieldLink RX11 21 "DiskEvidence" "volumes" "[LDiskEvidence$Volume;", Cond.classLink RX11 25 RX9, Cond.fieldLink RX11 27 "DiskEvidence" "trees" "[LDiskEvidence$Tree;", Cond.classLink RX11 31 RX4, Cond.fieldLink RX11 33 "DiskEvidence" "openings" "[LDiskEvidence$Opening;", Cond.arrayClass .int, Cond.fieldLink RX11 37 "DiskEvidence" "claims" "[I", Cond.classLink RX11 41 RX3, Cond.instantiable RX3 16, Cond.initialized RX3, Cond.fieldLink RX11 44 "DiskEvidence" "maker" "LDiskEvidence$Maker;", Cond.classLink RX11 48 RX0, Cond.instantiable RX0 10, Cond.initialized RX0, Cond.fieldLink RX11 51 "DiskEvidence" "finder" "LDiskEvidence$Finder;", Cond.classLink RX11 55 RX6]
def wsX11_init_r2 : List Cond := [Cond.instantiable RX6 11, Cond.initialized RX6, Cond.fieldLink RX11 58 "DiskEvidence" "query" "LDiskEvidence$Query;", Cond.classLink RX11 62 RX8, Cond.instantiable RX8 5, Cond.initialized RX8, Cond.fieldLink RX11 65 "DiskEvidence" "timeLine" "LDiskEvidence$TimeLine;", Cond.fieldLink RX11 69 "DiskEvidence" "acts" "[I", Cond.arrayClass .long, Cond.fieldLink RX11 72 "DiskEvidence" "links" "[J", Cond.instanceMethod yX3_init, Cond.code yX3_init cX3_init 1 none, Cond.methodLink RX3 3 objectInit, Cond.fieldLink RX3 9 "DiskEvidence$Maker" "image" "[B", Cond.fieldLink RX3 15 "DiskEvidence$Maker" "before" "[B", Cond.fieldLink RX3 18 "DiskEvidence$Maker" "rooms" "[B", Cond.classLink RX3 21 RX1, Cond.instantiable RX1 18, Cond.initialized RX1, Cond.fieldLink RX3 24 "DiskEvidence$Maker" "form" "LDiskEvidence$Form;", Cond.fieldLink RX3 28 "DiskEvidence$Maker" "letters" "[B", Cond.fieldLink RX3 34 "DiskEvidence$Maker" "text" "[B", Cond.fieldLink RX3 37 "DiskEvidence$Maker" "folderBlocks" "[I", Cond.fieldLink RX3 41 "DiskEvidence$Maker" "taken" "[I"]
def wsX11_init_r3 : List Cond := [Cond.instanceMethod yX1_init, Cond.code yX1_init cX1_init 1 none, Cond.methodLink RX1 3 objectInit, Cond.fieldLink RX1 9 "DiskEvidence$Form" "headers" "[I", Cond.fieldLink RX1 15 "DiskEvidence$Form" "seen" "[I", Cond.instanceMethod yX0_init, Cond.code yX0_init cX0_init 1 none, Cond.methodLink RX0 3 objectInit, Cond.fieldLink RX0 11 "DiskEvidence$Finder" "hits" "[I", Cond.fieldLink RX0 19 "DiskEvidence$Finder" "text" "[B", Cond.fieldLink RX0 22 "DiskEvidence$Finder" "meets" "[I", Cond.fieldLink RX0 25 "DiskEvidence$Finder" "hopes" "[I", Cond.instanceMethod yX6_init, Cond.code yX6_init cX6_init 1 none, Cond.methodLink RX6 3 objectInit, Cond.fieldLink RX6 9 "DiskEvidence$Query" "rows" "[I", Cond.fieldLink RX6 15 "DiskEvidence$Query" "keys" "[J", Cond.fieldLink RX6 19 "DiskEvidence$Query" "code" "[I", Cond.fieldLink RX6 26 "DiskEvidence$Query" "text" "[B", Cond.instanceMethod yX8_init, Cond.code yX8_init cX8_init 1 none, Cond.methodLink RX8 3 objectInit, Cond.fieldLink RX8 11 "DiskEvidence$TimeLine" "moments" "[J", Cond.fieldLink RX8 15 "DiskEvidence$TimeLine" "marks" "[I"]
def wsX11_init_r4 : List Cond := [Cond.fieldLink RX8 19 "DiskEvidence$TimeLine" "doubtMarks" "[I"]
def wsX11_init : List Cond := .code yX11_init cX11_init 1 none :: ((wsX11_init_r1 ++ (wsX11_init_r2 ++ (wsX11_init_r3 ++ wsX11_init_r4))) ++ wsX110 ++ wsX30 ++ wsX00 ++ wsX60 ++ wsX80 ++ wsX10)
def wsX12_init_r1 : List Cond := [Cond.methodLink RX12 1 objectInit, Cond.instanceMethod objectInit, Cond.code objectInit ⟨#[0xb1]⟩ 1 none, Cond.arrayClass .int, Cond.fieldLink RX12 7 "DiskEvidenceModel" "bytes" "[I", Cond.fieldLink RX12 13 "DiskEvidenceModel" "sectorsOf" "[I", Cond.constant RX12 16 (49152), Cond.fieldLink RX12 17 "DiskEvidenceModel" "data" "[I", Cond.arrayClass .boolean, Cond.fieldLink RX12 20 "DiskEvidenceModel" "isSpoilt" "[Z", Cond.fieldLink RX12 24 "DiskEvidenceModel" "sort" "[I", Cond.fieldLink RX12 27 "DiskEvidenceModel" "pictureOf" "[I", Cond.fieldLink RX12 30 "DiskEvidenceModel" "beginOf" "[I", Cond.fieldLink RX12 33 "DiskEvidenceModel" "blocksOf" "[I", Cond.fieldLink RX12 36 "DiskEvidenceModel" "members" "[I", Cond.constant RX12 39 (196608), Cond.fieldLink RX12 40 "DiskEvidenceModel" "all" "[I", Cond.fieldLink RX12 43 "DiskEvidenceModel" "comesSpoilt" "[Z", Cond.fieldLink RX12 46 "DiskEvidenceModel" "isOld" "Z", Cond.fieldLink RX12 50 "DiskEvidenceModel" "sectorChanged" "[Z", Cond.fieldLink RX12 53 "DiskEvidenceModel" "blockChanged" "[Z", Cond.fieldLink RX12 56 "DiskEvidenceModel" "partKind" "[I", Cond.fieldLink RX12 59 "DiskEvidenceModel" "partFirst" "[I", Cond.fieldLink RX12 62 "DiskEvidenceModel" "partMany" "[I"]
def wsX12_init_r2 : List Cond := [Cond.fieldLink RX12 65 "DiskEvidenceModel" "partTable" "[I", Cond.fieldLink RX12 68 "DiskEvidenceModel" "tables" "[I", Cond.fieldLink RX12 71 "DiskEvidenceModel" "openTable" "[I", Cond.fieldLink RX12 74 "DiskEvidenceModel" "openRow" "[I", Cond.fieldLink RX12 77 "DiskEvidenceModel" "waitVolume" "[I", Cond.fieldLink RX12 80 "DiskEvidenceModel" "waitBlock" "[I", Cond.fieldLink RX12 83 "DiskEvidenceModel" "waitBytes" "[I", Cond.fieldLink RX12 86 "DiskEvidenceModel" "one" "[I", Cond.fieldLink RX12 89 "DiskEvidenceModel" "kept" "[I", Cond.fieldLink RX12 92 "DiskEvidenceModel" "image" "[I", Cond.fieldLink RX12 95 "DiskEvidenceModel" "old" "[I", Cond.fieldLink RX12 98 "DiskEvidenceModel" "nameFrom" "[I", Cond.fieldLink RX12 101 "DiskEvidenceModel" "nameTo" "[I", Cond.fieldLink RX12 104 "DiskEvidenceModel" "link" "[I", Cond.fieldLink RX12 107 "DiskEvidenceModel" "treeForm" "[I", Cond.fieldLink RX12 110 "DiskEvidenceModel" "treeVolume" "[I", Cond.fieldLink RX12 113 "DiskEvidenceModel" "treeSpan" "[I", Cond.fieldLink RX12 116 "DiskEvidenceModel" "treeBlocks" "[I", Cond.fieldLink RX12 119 "DiskEvidenceModel" "treeZone" "[I", Cond.constant RX12 122 (98304), Cond.fieldLink RX12 123 "DiskEvidenceModel" "treeBytes" "[I", Cond.fieldLink RX12 126 "DiskEvidenceModel" "ownerOf" "[I", Cond.fieldLink RX12 129 "DiskEvidenceModel" "living" "[I", Cond.fieldLink RX12 132 "DiskEvidenceModel" "lost" "[I"]
def wsX12_init_r3 : List Cond := [Cond.fieldLink RX12 135 "DiskEvidenceModel" "cut" "[I", Cond.fieldLink RX12 138 "DiskEvidenceModel" "inside" "[I", Cond.fieldLink RX12 141 "DiskEvidenceModel" "faults" "[I", Cond.fieldLink RX12 144 "DiskEvidenceModel" "faultNumber" "[I", Cond.fieldLink RX12 147 "DiskEvidenceModel" "faultFile" "[I", Cond.fieldLink RX12 150 "DiskEvidenceModel" "faultBlock" "[I", Cond.fieldLink RX12 153 "DiskEvidenceModel" "kindOf" "[I", Cond.fieldLink RX12 156 "DiskEvidenceModel" "endOf" "[I", Cond.arrayClass .long, Cond.fieldLink RX12 159 "DiskEvidenceModel" "sizeOf" "[J", Cond.fieldLink RX12 163 "DiskEvidenceModel" "madeOf" "[J", Cond.fieldLink RX12 166 "DiskEvidenceModel" "alteredOf" "[J", Cond.fieldLink RX12 169 "DiskEvidenceModel" "erasedOf" "[J", Cond.fieldLink RX12 172 "DiskEvidenceModel" "gradeOf" "[I", Cond.fieldLink RX12 175 "DiskEvidenceModel" "parentOf" "[I", Cond.fieldLink RX12 178 "DiskEvidenceModel" "depthOf" "[I", Cond.fieldLink RX12 181 "DiskEvidenceModel" "faultsOf" "[I", Cond.fieldLink RX12 184 "DiskEvidenceModel" "blocksMany" "[I", Cond.constant RX12 187 (230400), Cond.fieldLink RX12 188 "DiskEvidenceModel" "fileBlocks" "[I", Cond.fieldLink RX12 191 "DiskEvidenceModel" "nameMany" "[I", Cond.fieldLink RX12 194 "DiskEvidenceModel" "nameBytes" "[I", Cond.fieldLink RX12 197 "DiskEvidenceModel" "sourceOf" "[I", Cond.fieldLink RX12 200 "DiskEvidenceModel" "sourceFrom" "[I"]
def wsX12_init_r4 : List Cond := [Cond.fieldLink RX12 203 "DiskEvidenceModel" "walkFile" "[I", Cond.fieldLink RX12 206 "DiskEvidenceModel" "walkRow" "[I", Cond.fieldLink RX12 209 "DiskEvidenceModel" "walkNode" "[I", Cond.fieldLink RX12 212 "DiskEvidenceModel" "erasedRow" "[I", Cond.fieldLink RX12 215 "DiskEvidenceModel" "erasedParent" "[I", Cond.fieldLink RX12 218 "DiskEvidenceModel" "erasedDepth" "[I", Cond.fieldLink RX12 221 "DiskEvidenceModel" "isWalked" "[Z", Cond.fieldLink RX12 224 "DiskEvidenceModel" "entryAt" "[I", Cond.fieldLink RX12 227 "DiskEvidenceModel" "entryHas" "[I", Cond.fieldLink RX12 230 "DiskEvidenceModel" "row" "[I", Cond.fieldLink RX12 233 "DiskEvidenceModel" "openTree" "[I", Cond.fieldLink RX12 236 "DiskEvidenceModel" "openFile" "[I", Cond.fieldLink RX12 239 "DiskEvidenceModel" "openSize" "[I", Cond.fieldLink RX12 242 "DiskEvidenceModel" "points" "[I", Cond.fieldLink RX12 245 "DiskEvidenceModel" "pointKind" "[I", Cond.fieldLink RX12 248 "DiskEvidenceModel" "pointFrom" "[I", Cond.fieldLink RX12 251 "DiskEvidenceModel" "pointTo" "[I", Cond.fieldLink RX12 254 "DiskEvidenceModel" "pointValue" "[I", Cond.fieldLink RX12 257 "DiskEvidenceModel" "pointParent" "[I", Cond.fieldLink RX12 260 "DiskEvidenceModel" "packAt" "[I", Cond.fieldLink RX12 263 "DiskEvidenceModel" "isHad" "[Z", Cond.fieldLink RX12 266 "DiskEvidenceModel" "hitFile" "[I", Cond.fieldLink RX12 269 "DiskEvidenceModel" "hitAt" "[I", Cond.fieldLink RX12 272 "DiskEvidenceModel" "hitMany" "[I"]
def wsX12_init_r5 : List Cond := [Cond.fieldLink RX12 275 "DiskEvidenceModel" "takes" "[Z", Cond.fieldLink RX12 278 "DiskEvidenceModel" "often" "[I", Cond.arrayClass .char, Cond.fieldLink RX12 281 "DiskEvidenceModel" "fieldWords" "[C", Cond.fieldLink RX12 285 "DiskEvidenceModel" "wordFrom" "[I", Cond.fieldLink RX12 288 "DiskEvidenceModel" "sortWord" "[C", Cond.fieldLink RX12 291 "DiskEvidenceModel" "ops" "[I", Cond.fieldLink RX12 294 "DiskEvidenceModel" "pile" "[I", Cond.fieldLink RX12 297 "DiskEvidenceModel" "askField" "[I", Cond.fieldLink RX12 300 "DiskEvidenceModel" "askHow" "[I", Cond.fieldLink RX12 303 "DiskEvidenceModel" "askFrom" "[I", Cond.fieldLink RX12 306 "DiskEvidenceModel" "askTo" "[I", Cond.fieldLink RX12 309 "DiskEvidenceModel" "truths" "[Z", Cond.fieldLink RX12 312 "DiskEvidenceModel" "result" "[I", Cond.fieldLink RX12 315 "DiskEvidenceModel" "momentAt" "[J", Cond.fieldLink RX12 318 "DiskEvidenceModel" "momentGrain" "[I", Cond.fieldLink RX12 321 "DiskEvidenceModel" "momentTree" "[I", Cond.fieldLink RX12 324 "DiskEvidenceModel" "momentFile" "[I", Cond.fieldLink RX12 327 "DiskEvidenceModel" "momentWhich" "[I", Cond.fieldLink RX12 330 "DiskEvidenceModel" "doubtTree" "[I", Cond.fieldLink RX12 333 "DiskEvidenceModel" "doubtFile" "[I", Cond.fieldLink RX12 336 "DiskEvidenceModel" "doubtWhich" "[I", Cond.fieldLink RX12 339 "DiskEvidenceModel" "claimTree" "[I", Cond.fieldLink RX12 342 "DiskEvidenceModel" "claimFile" "[I"]
def wsX12_init_r6 : List Cond := [Cond.fieldLink RX12 345 "DiskEvidenceModel" "claimKind" "[I", Cond.fieldLink RX12 348 "DiskEvidenceModel" "claimA" "[I", Cond.fieldLink RX12 351 "DiskEvidenceModel" "claimGrade" "[I", Cond.fieldLink RX12 354 "DiskEvidenceModel" "actWho" "[I", Cond.fieldLink RX12 357 "DiskEvidenceModel" "actWhat" "[I", Cond.fieldLink RX12 360 "DiskEvidenceModel" "actAt" "[I", Cond.fieldLink RX12 363 "DiskEvidenceModel" "actLink" "[J", Cond.fieldLink RX12 366 "DiskEvidenceModel" "acts" "I"]
def wsX12_init : List Cond := .code yX12_init cX12_init 1 none :: ((wsX12_init_r1 ++ (wsX12_init_r2 ++ (wsX12_init_r3 ++ (wsX12_init_r4 ++ (wsX12_init_r5 ++ wsX12_init_r6))))) ++ wsX120)
theorem dX0_init_0 : decode cX0_init 0 = .ok (.aload_n 0, 1) := by decide +kernel
theorem dX0_init_1 : decode cX0_init 1 = .ok (.invokespecial 3, 3) := by decide +kernel
theorem dX0_init_4 : decode cX0_init 4 = .ok (.aload_n 0, 1) := by decide +kernel
theorem dX0_init_5 : decode cX0_init 5 = .ok (.sipush 600, 3) := by decide +kernel
theorem dX0_init_8 : decode cX0_init 8 = .ok (.newarray .int, 2) := by decide +kernel
theorem dX0_init_10 : decode cX0_init 10 = .ok (.putfield 11, 3) := by decide +kernel
theorem dX0_init_13 : decode cX0_init 13 = .ok (.aload_n 0, 1) := by decide +kernel
theorem dX0_init_14 : decode cX0_init 14 = .ok (.getstatic 15, 3) := by decide +kernel
theorem dX0_init_17 : decode cX0_init 17 = .ok (.putfield 19, 3) := by decide +kernel
theorem dX0_init_20 : decode cX0_init 20 = .ok (.aload_n 0, 1) := by decide +kernel
theorem dX0_init_21 : decode cX0_init 21 = .ok (.sipush 256, 3) := by decide +kernel
theorem dX0_init_24 : decode cX0_init 24 = .ok (.newarray .int, 2) := by decide +kernel
theorem dX0_init_26 : decode cX0_init 26 = .ok (.putfield 22, 3) := by decide +kernel
theorem dX0_init_29 : decode cX0_init 29 = .ok (.aload_n 0, 1) := by decide +kernel
theorem dX0_init_30 : decode cX0_init 30 = .ok (.sipush 16385, 3) := by decide +kernel
theorem dX0_init_33 : decode cX0_init 33 = .ok (.newarray .int, 2) := by decide +kernel
theorem dX0_init_35 : decode cX0_init 35 = .ok (.putfield 25, 3) := by decide +kernel
theorem dX0_init_38 : decode cX0_init 38 = .ok (.return_, 1) := by decide +kernel
theorem dX1_init_0 : decode cX1_init 0 = .ok (.aload_n 0, 1) := by decide +kernel
theorem dX1_init_1 : decode cX1_init 1 = .ok (.invokespecial 3, 3) := by decide +kernel
theorem dX1_init_4 : decode cX1_init 4 = .ok (.aload_n 0, 1) := by decide +kernel
theorem dX1_init_5 : decode cX1_init 5 = .ok (.sipush 256, 3) := by decide +kernel
theorem dX1_init_8 : decode cX1_init 8 = .ok (.newarray .int, 2) := by decide +kernel
theorem dX1_init_10 : decode cX1_init 10 = .ok (.putfield 9, 3) := by decide +kernel
theorem dX1_init_13 : decode cX1_init 13 = .ok (.aload_n 0, 1) := by decide +kernel
theorem dX1_init_14 : decode cX1_init 14 = .ok (.sipush 258, 3) := by decide +kernel
theorem dX1_init_17 : decode cX1_init 17 = .ok (.newarray .int, 2) := by decide +kernel
theorem dX1_init_19 : decode cX1_init 19 = .ok (.putfield 15, 3) := by decide +kernel
theorem dX1_init_22 : decode cX1_init 22 = .ok (.return_, 1) := by decide +kernel
set_option maxRecDepth 20000 in
theorem ggX3_init_X1_init : GoodIn wsX3_init wsX1_init := goodIn_r _ [18, 19, 2, 3, 14, 20, 21, 38, 39, 40, 41, 42, 43, 44, 45, 46, 47, 48, 49, 50, 51, 52, 53, 54, 55] (by decide +kernel) (by decide +kernel)
set_option maxRecDepth 20000 in
theorem gX3_init_X1_init_n23 : GoodIn wsX3_init (wsX1_init) := ggX3_init_X1_init
theorem dX3_init_0 : decode cX3_init 0 = .ok (.aload_n 0, 1) := by decide +kernel
theorem dX3_init_1 : decode cX3_init 1 = .ok (.invokespecial 3, 3) := by decide +kernel
theorem dX3_init_4 : decode cX3_init 4 = .ok (.aload_n 0, 1) := by decide +kernel
theorem dX3_init_5 : decode cX3_init 5 = .ok (.sipush 16384, 3) := by decide +kernel
theorem dX3_init_8 : decode cX3_init 8 = .ok (.newarray .byte, 2) := by decide +kernel
theorem dX3_init_10 : decode cX3_init 10 = .ok (.putfield 9, 3) := by decide +kernel
theorem dX3_init_13 : decode cX3_init 13 = .ok (.aload_n 0, 1) := by decide +kernel
theorem dX3_init_14 : decode cX3_init 14 = .ok (.sipush 16384, 3) := by decide +kernel
theorem dX3_init_17 : decode cX3_init 17 = .ok (.newarray .byte, 2) := by decide +kernel
theorem dX3_init_19 : decode cX3_init 19 = .ok (.putfield 15, 3) := by decide +kernel
theorem dX3_init_22 : decode cX3_init 22 = .ok (.aload_n 0, 1) := by decide +kernel
theorem dX3_init_23 : decode cX3_init 23 = .ok (.sipush 832, 3) := by decide +kernel
theorem dX3_init_26 : decode cX3_init 26 = .ok (.newarray .byte, 2) := by decide +kernel
theorem dX3_init_28 : decode cX3_init 28 = .ok (.putfield 18, 3) := by decide +kernel
theorem dX3_init_31 : decode cX3_init 31 = .ok (.aload_n 0, 1) := by decide +kernel
theorem dX3_init_32 : decode cX3_init 32 = .ok (.new 21, 3) := by decide +kernel
theorem dX3_init_35 : decode cX3_init 35 = .ok (.dup, 1) := by decide +kernel
theorem dX3_init_36 : decode cX3_init 36 = .ok (.invokespecial 23, 3) := by decide +kernel
theorem dX3_init_39 : decode cX3_init 39 = .ok (.putfield 24, 3) := by decide +kernel
theorem dX3_init_42 : decode cX3_init 42 = .ok (.aload_n 0, 1) := by decide +kernel
theorem dX3_init_43 : decode cX3_init 43 = .ok (.bipush 12, 2) := by decide +kernel
theorem dX3_init_45 : decode cX3_init 45 = .ok (.newarray .byte, 2) := by decide +kernel
theorem dX3_init_47 : decode cX3_init 47 = .ok (.putfield 28, 3) := by decide +kernel
theorem dX3_init_50 : decode cX3_init 50 = .ok (.aload_n 0, 1) := by decide +kernel
theorem dX3_init_51 : decode cX3_init 51 = .ok (.getstatic 31, 3) := by decide +kernel
theorem dX3_init_54 : decode cX3_init 54 = .ok (.putfield 34, 3) := by decide +kernel
theorem dX3_init_57 : decode cX3_init 57 = .ok (.aload_n 0, 1) := by decide +kernel
theorem dX3_init_58 : decode cX3_init 58 = .ok (.sipush 256, 3) := by decide +kernel
theorem dX3_init_61 : decode cX3_init 61 = .ok (.newarray .int, 2) := by decide +kernel
theorem dX3_init_63 : decode cX3_init 63 = .ok (.putfield 37, 3) := by decide +kernel
theorem dX3_init_66 : decode cX3_init 66 = .ok (.aload_n 0, 1) := by decide +kernel
theorem dX3_init_67 : decode cX3_init 67 = .ok (.sipush 256, 3) := by decide +kernel
theorem dX3_init_70 : decode cX3_init 70 = .ok (.newarray .int, 2) := by decide +kernel
theorem dX3_init_72 : decode cX3_init 72 = .ok (.putfield 41, 3) := by decide +kernel
theorem dX3_init_75 : decode cX3_init 75 = .ok (.return_, 1) := by decide +kernel
theorem dX6_init_0 : decode cX6_init 0 = .ok (.aload_n 0, 1) := by decide +kernel
theorem dX6_init_1 : decode cX6_init 1 = .ok (.invokespecial 3, 3) := by decide +kernel
theorem dX6_init_4 : decode cX6_init 4 = .ok (.aload_n 0, 1) := by decide +kernel
theorem dX6_init_5 : decode cX6_init 5 = .ok (.sipush 150, 3) := by decide +kernel
theorem dX6_init_8 : decode cX6_init 8 = .ok (.newarray .int, 2) := by decide +kernel
theorem dX6_init_10 : decode cX6_init 10 = .ok (.putfield 9, 3) := by decide +kernel
theorem dX6_init_13 : decode cX6_init 13 = .ok (.aload_n 0, 1) := by decide +kernel
theorem dX6_init_14 : decode cX6_init 14 = .ok (.sipush 150, 3) := by decide +kernel
theorem dX6_init_17 : decode cX6_init 17 = .ok (.newarray .long, 2) := by decide +kernel
theorem dX6_init_19 : decode cX6_init 19 = .ok (.putfield 15, 3) := by decide +kernel
theorem dX6_init_22 : decode cX6_init 22 = .ok (.aload_n 0, 1) := by decide +kernel
theorem dX6_init_23 : decode cX6_init 23 = .ok (.sipush 4000, 3) := by decide +kernel
theorem dX6_init_26 : decode cX6_init 26 = .ok (.newarray .int, 2) := by decide +kernel
theorem dX6_init_28 : decode cX6_init 28 = .ok (.putfield 19, 3) := by decide +kernel
theorem dX6_init_31 : decode cX6_init 31 = .ok (.aload_n 0, 1) := by decide +kernel
theorem dX6_init_32 : decode cX6_init 32 = .ok (.getstatic 22, 3) := by decide +kernel
theorem dX6_init_35 : decode cX6_init 35 = .ok (.putfield 26, 3) := by decide +kernel
theorem dX6_init_38 : decode cX6_init 38 = .ok (.return_, 1) := by decide +kernel
theorem dX8_init_0 : decode cX8_init 0 = .ok (.aload_n 0, 1) := by decide +kernel
theorem dX8_init_1 : decode cX8_init 1 = .ok (.invokespecial 3, 3) := by decide +kernel
theorem dX8_init_4 : decode cX8_init 4 = .ok (.aload_n 0, 1) := by decide +kernel
theorem dX8_init_5 : decode cX8_init 5 = .ok (.sipush 3200, 3) := by decide +kernel
theorem dX8_init_8 : decode cX8_init 8 = .ok (.newarray .long, 2) := by decide +kernel
theorem dX8_init_10 : decode cX8_init 10 = .ok (.putfield 11, 3) := by decide +kernel
theorem dX8_init_13 : decode cX8_init 13 = .ok (.aload_n 0, 1) := by decide +kernel
theorem dX8_init_14 : decode cX8_init 14 = .ok (.sipush 3200, 3) := by decide +kernel
theorem dX8_init_17 : decode cX8_init 17 = .ok (.newarray .int, 2) := by decide +kernel
theorem dX8_init_19 : decode cX8_init 19 = .ok (.putfield 15, 3) := by decide +kernel
theorem dX8_init_22 : decode cX8_init 22 = .ok (.aload_n 0, 1) := by decide +kernel
theorem dX8_init_23 : decode cX8_init 23 = .ok (.sipush 2700, 3) := by decide +kernel
theorem dX8_init_26 : decode cX8_init 26 = .ok (.newarray .int, 2) := by decide +kernel
theorem dX8_init_28 : decode cX8_init 28 = .ok (.putfield 19, 3) := by decide +kernel
theorem dX8_init_31 : decode cX8_init 31 = .ok (.return_, 1) := by decide +kernel
set_option maxRecDepth 20000 in
theorem ggX11_init_X3_init : GoodIn wsX11_init wsX3_init := goodIn_r _ [36, 37, 2, 3, 4, 38, 39, 40, 41, 42, 43, 44, 45, 46, 14, 47, 48, 49, 50, 51, 52, 53, 94, 95, 96, 97, 98, 99, 100, 101, 102, 103, 104, 105, 106, 107, 108, 109, 136, 137, 138, 139, 140, 141, 142, 143, 144, 145, 146, 147, 148, 149, 150, 151, 152, 153] (by decide +kernel) (by decide +kernel)
set_option maxRecDepth 20000 in
theorem gX11_init_X3_init_n43 : GoodIn wsX11_init (wsX3_init) := ggX11_init_X3_init
set_option maxRecDepth 20000 in
theorem ggX11_init_X0_init : GoodIn wsX11_init wsX0_init := goodIn_r _ [55, 56, 2, 3, 14, 57, 58, 59, 60, 110, 111, 112, 113, 114, 115, 116, 117, 118, 119] (by decide +kernel) (by decide +kernel)
set_option maxRecDepth 20000 in
theorem gX11_init_X0_init_n50 : GoodIn wsX11_init (wsX0_init) := ggX11_init_X0_init
set_option maxRecDepth 20000 in
theorem ggX11_init_X6_init : GoodIn wsX11_init wsX6_init := goodIn_r _ [62, 63, 2, 3, 14, 64, 33, 65, 66, 67, 120, 121, 122, 123, 124, 125, 126, 127, 128, 129, 130] (by decide +kernel) (by decide +kernel)
set_option maxRecDepth 20000 in
theorem gX11_init_X6_init_n57 : GoodIn wsX11_init (wsX6_init) := ggX11_init_X6_init
set_option maxRecDepth 20000 in
theorem ggX11_init_X8_init : GoodIn wsX11_init wsX8_init := goodIn_r _ [69, 70, 2, 3, 33, 71, 14, 72, 73, 131, 132, 133, 134, 135] (by decide +kernel) (by decide +kernel)
set_option maxRecDepth 20000 in
theorem gX11_init_X8_init_n64 : GoodIn wsX11_init (wsX8_init) := ggX11_init_X8_init
theorem dX11_init_0 : decode cX11_init 0 = .ok (.aload_n 0, 1) := by decide +kernel
theorem dX11_init_1 : decode cX11_init 1 = .ok (.invokespecial 1, 3) := by decide +kernel
theorem dX11_init_4 : decode cX11_init 4 = .ok (.aload_n 0, 1) := by decide +kernel
theorem dX11_init_5 : decode cX11_init 5 = .ok (.sipush 4000, 3) := by decide +kernel
theorem dX11_init_8 : decode cX11_init 8 = .ok (.newarray .byte, 2) := by decide +kernel
theorem dX11_init_10 : decode cX11_init 10 = .ok (.putfield 9, 3) := by decide +kernel
theorem dX11_init_13 : decode cX11_init 13 = .ok (.aload_n 0, 1) := by decide +kernel
theorem dX11_init_14 : decode cX11_init 14 = .ok (.bipush 6, 2) := by decide +kernel
theorem dX11_init_16 : decode cX11_init 16 = .ok (.anewarray 13, 3) := by decide +kernel
theorem dX11_init_19 : decode cX11_init 19 = .ok (.putfield 15, 3) := by decide +kernel
theorem dX11_init_22 : decode cX11_init 22 = .ok (.aload_n 0, 1) := by decide +kernel
theorem dX11_init_23 : decode cX11_init 23 = .ok (.bipush 12, 2) := by decide +kernel
theorem dX11_init_25 : decode cX11_init 25 = .ok (.anewarray 19, 3) := by decide +kernel
theorem dX11_init_28 : decode cX11_init 28 = .ok (.putfield 21, 3) := by decide +kernel
theorem dX11_init_31 : decode cX11_init 31 = .ok (.aload_n 0, 1) := by decide +kernel
theorem dX11_init_32 : decode cX11_init 32 = .ok (.bipush 6, 2) := by decide +kernel
theorem dX11_init_34 : decode cX11_init 34 = .ok (.anewarray 25, 3) := by decide +kernel
theorem dX11_init_37 : decode cX11_init 37 = .ok (.putfield 27, 3) := by decide +kernel
theorem dX11_init_40 : decode cX11_init 40 = .ok (.aload_n 0, 1) := by decide +kernel
theorem dX11_init_41 : decode cX11_init 41 = .ok (.bipush 8, 2) := by decide +kernel
theorem dX11_init_43 : decode cX11_init 43 = .ok (.anewarray 31, 3) := by decide +kernel
theorem dX11_init_46 : decode cX11_init 46 = .ok (.putfield 33, 3) := by decide +kernel
theorem dX11_init_49 : decode cX11_init 49 = .ok (.aload_n 0, 1) := by decide +kernel
theorem dX11_init_50 : decode cX11_init 50 = .ok (.sipush 240, 3) := by decide +kernel
theorem dX11_init_53 : decode cX11_init 53 = .ok (.newarray .int, 2) := by decide +kernel
theorem dX11_init_55 : decode cX11_init 55 = .ok (.putfield 37, 3) := by decide +kernel
theorem dX11_init_58 : decode cX11_init 58 = .ok (.aload_n 0, 1) := by decide +kernel
theorem dX11_init_59 : decode cX11_init 59 = .ok (.new 41, 3) := by decide +kernel
theorem dX11_init_62 : decode cX11_init 62 = .ok (.dup, 1) := by decide +kernel
theorem dX11_init_63 : decode cX11_init 63 = .ok (.invokespecial 43, 3) := by decide +kernel
theorem dX11_init_66 : decode cX11_init 66 = .ok (.putfield 44, 3) := by decide +kernel
theorem dX11_init_69 : decode cX11_init 69 = .ok (.aload_n 0, 1) := by decide +kernel
theorem dX11_init_70 : decode cX11_init 70 = .ok (.new 48, 3) := by decide +kernel
theorem dX11_init_73 : decode cX11_init 73 = .ok (.dup, 1) := by decide +kernel
theorem dX11_init_74 : decode cX11_init 74 = .ok (.invokespecial 50, 3) := by decide +kernel
theorem dX11_init_77 : decode cX11_init 77 = .ok (.putfield 51, 3) := by decide +kernel
theorem dX11_init_80 : decode cX11_init 80 = .ok (.aload_n 0, 1) := by decide +kernel
theorem dX11_init_81 : decode cX11_init 81 = .ok (.new 55, 3) := by decide +kernel
theorem dX11_init_84 : decode cX11_init 84 = .ok (.dup, 1) := by decide +kernel
theorem dX11_init_85 : decode cX11_init 85 = .ok (.invokespecial 57, 3) := by decide +kernel
theorem dX11_init_88 : decode cX11_init 88 = .ok (.putfield 58, 3) := by decide +kernel
theorem dX11_init_91 : decode cX11_init 91 = .ok (.aload_n 0, 1) := by decide +kernel
theorem dX11_init_92 : decode cX11_init 92 = .ok (.new 62, 3) := by decide +kernel
theorem dX11_init_95 : decode cX11_init 95 = .ok (.dup, 1) := by decide +kernel
theorem dX11_init_96 : decode cX11_init 96 = .ok (.invokespecial 64, 3) := by decide +kernel
theorem dX11_init_99 : decode cX11_init 99 = .ok (.putfield 65, 3) := by decide +kernel
theorem dX11_init_102 : decode cX11_init 102 = .ok (.aload_n 0, 1) := by decide +kernel
theorem dX11_init_103 : decode cX11_init 103 = .ok (.sipush 300, 3) := by decide +kernel
theorem dX11_init_106 : decode cX11_init 106 = .ok (.newarray .int, 2) := by decide +kernel
theorem dX11_init_108 : decode cX11_init 108 = .ok (.putfield 69, 3) := by decide +kernel
theorem dX11_init_111 : decode cX11_init 111 = .ok (.aload_n 0, 1) := by decide +kernel
theorem dX11_init_112 : decode cX11_init 112 = .ok (.bipush 100, 2) := by decide +kernel
theorem dX11_init_114 : decode cX11_init 114 = .ok (.newarray .long, 2) := by decide +kernel
theorem dX11_init_116 : decode cX11_init 116 = .ok (.putfield 72, 3) := by decide +kernel
theorem dX11_init_119 : decode cX11_init 119 = .ok (.return_, 1) := by decide +kernel
theorem dX12_init_0 : decode cX12_init 0 = .ok (.aload_n 0, 1) := by decide +kernel
theorem dX12_init_1 : decode cX12_init 1 = .ok (.invokespecial 1, 3) := by decide +kernel
theorem dX12_init_4 : decode cX12_init 4 = .ok (.aload_n 0, 1) := by decide +kernel
theorem dX12_init_5 : decode cX12_init 5 = .ok (.sipush 4000, 3) := by decide +kernel
theorem dX12_init_8 : decode cX12_init 8 = .ok (.newarray .int, 2) := by decide +kernel
theorem dX12_init_10 : decode cX12_init 10 = .ok (.putfield 7, 3) := by decide +kernel
theorem dX12_init_13 : decode cX12_init 13 = .ok (.aload_n 0, 1) := by decide +kernel
theorem dX12_init_14 : decode cX12_init 14 = .ok (.bipush 6, 2) := by decide +kernel
theorem dX12_init_16 : decode cX12_init 16 = .ok (.newarray .int, 2) := by decide +kernel
theorem dX12_init_18 : decode cX12_init 18 = .ok (.putfield 13, 3) := by decide +kernel
theorem dX12_init_21 : decode cX12_init 21 = .ok (.aload_n 0, 1) := by decide +kernel
theorem dX12_init_22 : decode cX12_init 22 = .ok (.ldc 16, 2) := by decide +kernel
theorem dX12_init_24 : decode cX12_init 24 = .ok (.newarray .int, 2) := by decide +kernel
theorem dX12_init_26 : decode cX12_init 26 = .ok (.putfield 17, 3) := by decide +kernel
theorem dX12_init_29 : decode cX12_init 29 = .ok (.aload_n 0, 1) := by decide +kernel
theorem dX12_init_30 : decode cX12_init 30 = .ok (.sipush 768, 3) := by decide +kernel
theorem dX12_init_33 : decode cX12_init 33 = .ok (.newarray .boolean, 2) := by decide +kernel
theorem dX12_init_35 : decode cX12_init 35 = .ok (.putfield 20, 3) := by decide +kernel
theorem dX12_init_38 : decode cX12_init 38 = .ok (.aload_n 0, 1) := by decide +kernel
theorem dX12_init_39 : decode cX12_init 39 = .ok (.bipush 12, 2) := by decide +kernel
theorem dX12_init_41 : decode cX12_init 41 = .ok (.newarray .int, 2) := by decide +kernel
theorem dX12_init_43 : decode cX12_init 43 = .ok (.putfield 24, 3) := by decide +kernel
theorem dX12_init_46 : decode cX12_init 46 = .ok (.aload_n 0, 1) := by decide +kernel
theorem dX12_init_47 : decode cX12_init 47 = .ok (.bipush 12, 2) := by decide +kernel
theorem dX12_init_49 : decode cX12_init 49 = .ok (.newarray .int, 2) := by decide +kernel
theorem dX12_init_51 : decode cX12_init 51 = .ok (.putfield 27, 3) := by decide +kernel
theorem dX12_init_54 : decode cX12_init 54 = .ok (.aload_n 0, 1) := by decide +kernel
theorem dX12_init_55 : decode cX12_init 55 = .ok (.bipush 12, 2) := by decide +kernel
theorem dX12_init_57 : decode cX12_init 57 = .ok (.newarray .int, 2) := by decide +kernel
theorem dX12_init_59 : decode cX12_init 59 = .ok (.putfield 30, 3) := by decide +kernel
theorem dX12_init_62 : decode cX12_init 62 = .ok (.aload_n 0, 1) := by decide +kernel
theorem dX12_init_63 : decode cX12_init 63 = .ok (.bipush 12, 2) := by decide +kernel
theorem dX12_init_65 : decode cX12_init 65 = .ok (.newarray .int, 2) := by decide +kernel
theorem dX12_init_67 : decode cX12_init 67 = .ok (.putfield 33, 3) := by decide +kernel
theorem dX12_init_70 : decode cX12_init 70 = .ok (.aload_n 0, 1) := by decide +kernel
theorem dX12_init_71 : decode cX12_init 71 = .ok (.bipush 36, 2) := by decide +kernel
theorem dX12_init_73 : decode cX12_init 73 = .ok (.newarray .int, 2) := by decide +kernel
theorem dX12_init_75 : decode cX12_init 75 = .ok (.putfield 36, 3) := by decide +kernel
theorem dX12_init_78 : decode cX12_init 78 = .ok (.aload_n 0, 1) := by decide +kernel
theorem dX12_init_79 : decode cX12_init 79 = .ok (.ldc 39, 2) := by decide +kernel
theorem dX12_init_81 : decode cX12_init 81 = .ok (.newarray .int, 2) := by decide +kernel
theorem dX12_init_83 : decode cX12_init 83 = .ok (.putfield 40, 3) := by decide +kernel
theorem dX12_init_86 : decode cX12_init 86 = .ok (.aload_n 0, 1) := by decide +kernel
theorem dX12_init_87 : decode cX12_init 87 = .ok (.sipush 3072, 3) := by decide +kernel
theorem dX12_init_90 : decode cX12_init 90 = .ok (.newarray .boolean, 2) := by decide +kernel
theorem dX12_init_92 : decode cX12_init 92 = .ok (.putfield 43, 3) := by decide +kernel
theorem dX12_init_95 : decode cX12_init 95 = .ok (.aload_n 0, 1) := by decide +kernel
theorem dX12_init_96 : decode cX12_init 96 = .ok (.iconst 1, 1) := by decide +kernel
theorem dX12_init_97 : decode cX12_init 97 = .ok (.putfield 46, 3) := by decide +kernel
theorem dX12_init_100 : decode cX12_init 100 = .ok (.aload_n 0, 1) := by decide +kernel
theorem dX12_init_101 : decode cX12_init 101 = .ok (.sipush 768, 3) := by decide +kernel
theorem dX12_init_104 : decode cX12_init 104 = .ok (.newarray .boolean, 2) := by decide +kernel
theorem dX12_init_106 : decode cX12_init 106 = .ok (.putfield 50, 3) := by decide +kernel
theorem dX12_init_109 : decode cX12_init 109 = .ok (.aload_n 0, 1) := by decide +kernel
theorem dX12_init_110 : decode cX12_init 110 = .ok (.sipush 3072, 3) := by decide +kernel
theorem dX12_init_113 : decode cX12_init 113 = .ok (.newarray .boolean, 2) := by decide +kernel
theorem dX12_init_115 : decode cX12_init 115 = .ok (.putfield 53, 3) := by decide +kernel
theorem dX12_init_118 : decode cX12_init 118 = .ok (.aload_n 0, 1) := by decide +kernel
theorem dX12_init_119 : decode cX12_init 119 = .ok (.bipush 64, 2) := by decide +kernel
theorem dX12_init_121 : decode cX12_init 121 = .ok (.newarray .int, 2) := by decide +kernel
theorem dX12_init_123 : decode cX12_init 123 = .ok (.putfield 56, 3) := by decide +kernel
theorem dX12_init_126 : decode cX12_init 126 = .ok (.aload_n 0, 1) := by decide +kernel
theorem dX12_init_127 : decode cX12_init 127 = .ok (.bipush 64, 2) := by decide +kernel
theorem dX12_init_129 : decode cX12_init 129 = .ok (.newarray .int, 2) := by decide +kernel
theorem dX12_init_131 : decode cX12_init 131 = .ok (.putfield 59, 3) := by decide +kernel
theorem dX12_init_134 : decode cX12_init 134 = .ok (.aload_n 0, 1) := by decide +kernel
theorem dX12_init_135 : decode cX12_init 135 = .ok (.bipush 64, 2) := by decide +kernel
theorem dX12_init_137 : decode cX12_init 137 = .ok (.newarray .int, 2) := by decide +kernel
theorem dX12_init_139 : decode cX12_init 139 = .ok (.putfield 62, 3) := by decide +kernel
theorem dX12_init_142 : decode cX12_init 142 = .ok (.aload_n 0, 1) := by decide +kernel
theorem dX12_init_143 : decode cX12_init 143 = .ok (.bipush 64, 2) := by decide +kernel
theorem dX12_init_145 : decode cX12_init 145 = .ok (.newarray .int, 2) := by decide +kernel
theorem dX12_init_147 : decode cX12_init 147 = .ok (.putfield 65, 3) := by decide +kernel
theorem dX12_init_150 : decode cX12_init 150 = .ok (.aload_n 0, 1) := by decide +kernel
theorem dX12_init_151 : decode cX12_init 151 = .ok (.bipush 16, 2) := by decide +kernel
theorem dX12_init_153 : decode cX12_init 153 = .ok (.newarray .int, 2) := by decide +kernel
theorem dX12_init_155 : decode cX12_init 155 = .ok (.putfield 68, 3) := by decide +kernel
theorem dX12_init_158 : decode cX12_init 158 = .ok (.aload_n 0, 1) := by decide +kernel
theorem dX12_init_159 : decode cX12_init 159 = .ok (.bipush 17, 2) := by decide +kernel
theorem dX12_init_161 : decode cX12_init 161 = .ok (.newarray .int, 2) := by decide +kernel
theorem dX12_init_163 : decode cX12_init 163 = .ok (.putfield 71, 3) := by decide +kernel
theorem dX12_init_166 : decode cX12_init 166 = .ok (.aload_n 0, 1) := by decide +kernel
theorem dX12_init_167 : decode cX12_init 167 = .ok (.bipush 17, 2) := by decide +kernel
theorem dX12_init_169 : decode cX12_init 169 = .ok (.newarray .int, 2) := by decide +kernel
theorem dX12_init_171 : decode cX12_init 171 = .ok (.putfield 74, 3) := by decide +kernel
theorem dX12_init_174 : decode cX12_init 174 = .ok (.aload_n 0, 1) := by decide +kernel
theorem dX12_init_175 : decode cX12_init 175 = .ok (.bipush 64, 2) := by decide +kernel
theorem dX12_init_177 : decode cX12_init 177 = .ok (.newarray .int, 2) := by decide +kernel
theorem dX12_init_179 : decode cX12_init 179 = .ok (.putfield 77, 3) := by decide +kernel
theorem dX12_init_182 : decode cX12_init 182 = .ok (.aload_n 0, 1) := by decide +kernel
theorem dX12_init_183 : decode cX12_init 183 = .ok (.bipush 64, 2) := by decide +kernel
theorem dX12_init_185 : decode cX12_init 185 = .ok (.newarray .int, 2) := by decide +kernel
theorem dX12_init_187 : decode cX12_init 187 = .ok (.putfield 80, 3) := by decide +kernel
theorem dX12_init_190 : decode cX12_init 190 = .ok (.aload_n 0, 1) := by decide +kernel
theorem dX12_init_191 : decode cX12_init 191 = .ok (.sipush 4096, 3) := by decide +kernel
theorem dX12_init_194 : decode cX12_init 194 = .ok (.newarray .int, 2) := by decide +kernel
theorem dX12_init_196 : decode cX12_init 196 = .ok (.putfield 83, 3) := by decide +kernel
theorem dX12_init_199 : decode cX12_init 199 = .ok (.aload_n 0, 1) := by decide +kernel
theorem dX12_init_200 : decode cX12_init 200 = .ok (.bipush 64, 2) := by decide +kernel
theorem dX12_init_202 : decode cX12_init 202 = .ok (.newarray .int, 2) := by decide +kernel
theorem dX12_init_204 : decode cX12_init 204 = .ok (.putfield 86, 3) := by decide +kernel
theorem dX12_init_207 : decode cX12_init 207 = .ok (.aload_n 0, 1) := by decide +kernel
theorem dX12_init_208 : decode cX12_init 208 = .ok (.bipush 64, 2) := by decide +kernel
theorem dX12_init_210 : decode cX12_init 210 = .ok (.newarray .int, 2) := by decide +kernel
theorem dX12_init_212 : decode cX12_init 212 = .ok (.putfield 89, 3) := by decide +kernel
theorem dX12_init_215 : decode cX12_init 215 = .ok (.aload_n 0, 1) := by decide +kernel
theorem dX12_init_216 : decode cX12_init 216 = .ok (.sipush 16384, 3) := by decide +kernel
theorem dX12_init_219 : decode cX12_init 219 = .ok (.newarray .int, 2) := by decide +kernel
theorem dX12_init_221 : decode cX12_init 221 = .ok (.putfield 92, 3) := by decide +kernel
theorem dX12_init_224 : decode cX12_init 224 = .ok (.aload_n 0, 1) := by decide +kernel
theorem dX12_init_225 : decode cX12_init 225 = .ok (.sipush 16384, 3) := by decide +kernel
theorem dX12_init_228 : decode cX12_init 228 = .ok (.newarray .int, 2) := by decide +kernel
theorem dX12_init_230 : decode cX12_init 230 = .ok (.putfield 95, 3) := by decide +kernel
theorem dX12_init_233 : decode cX12_init 233 = .ok (.aload_n 0, 1) := by decide +kernel
theorem dX12_init_234 : decode cX12_init 234 = .ok (.bipush 6, 2) := by decide +kernel
theorem dX12_init_236 : decode cX12_init 236 = .ok (.newarray .int, 2) := by decide +kernel
theorem dX12_init_238 : decode cX12_init 238 = .ok (.putfield 98, 3) := by decide +kernel
theorem dX12_init_241 : decode cX12_init 241 = .ok (.aload_n 0, 1) := by decide +kernel
theorem dX12_init_242 : decode cX12_init 242 = .ok (.bipush 6, 2) := by decide +kernel
theorem dX12_init_244 : decode cX12_init 244 = .ok (.newarray .int, 2) := by decide +kernel
theorem dX12_init_246 : decode cX12_init 246 = .ok (.putfield 101, 3) := by decide +kernel
theorem dX12_init_249 : decode cX12_init 249 = .ok (.aload_n 0, 1) := by decide +kernel
theorem dX12_init_250 : decode cX12_init 250 = .ok (.sipush 320, 3) := by decide +kernel
theorem dX12_init_253 : decode cX12_init 253 = .ok (.newarray .int, 2) := by decide +kernel
theorem dX12_init_255 : decode cX12_init 255 = .ok (.putfield 104, 3) := by decide +kernel
theorem dX12_init_258 : decode cX12_init 258 = .ok (.aload_n 0, 1) := by decide +kernel
theorem dX12_init_259 : decode cX12_init 259 = .ok (.bipush 6, 2) := by decide +kernel
theorem dX12_init_261 : decode cX12_init 261 = .ok (.newarray .int, 2) := by decide +kernel
theorem dX12_init_263 : decode cX12_init 263 = .ok (.putfield 107, 3) := by decide +kernel
theorem dX12_init_266 : decode cX12_init 266 = .ok (.aload_n 0, 1) := by decide +kernel
theorem dX12_init_267 : decode cX12_init 267 = .ok (.bipush 6, 2) := by decide +kernel
theorem dX12_init_269 : decode cX12_init 269 = .ok (.newarray .int, 2) := by decide +kernel
theorem dX12_init_271 : decode cX12_init 271 = .ok (.putfield 110, 3) := by decide +kernel
theorem dX12_init_274 : decode cX12_init 274 = .ok (.aload_n 0, 1) := by decide +kernel
theorem dX12_init_275 : decode cX12_init 275 = .ok (.bipush 6, 2) := by decide +kernel
theorem dX12_init_277 : decode cX12_init 277 = .ok (.newarray .int, 2) := by decide +kernel
theorem dX12_init_279 : decode cX12_init 279 = .ok (.putfield 113, 3) := by decide +kernel
theorem dX12_init_282 : decode cX12_init 282 = .ok (.aload_n 0, 1) := by decide +kernel
theorem dX12_init_283 : decode cX12_init 283 = .ok (.bipush 6, 2) := by decide +kernel
theorem dX12_init_285 : decode cX12_init 285 = .ok (.newarray .int, 2) := by decide +kernel
theorem dX12_init_287 : decode cX12_init 287 = .ok (.putfield 116, 3) := by decide +kernel
theorem dX12_init_290 : decode cX12_init 290 = .ok (.aload_n 0, 1) := by decide +kernel
theorem dX12_init_291 : decode cX12_init 291 = .ok (.bipush 6, 2) := by decide +kernel
theorem dX12_init_293 : decode cX12_init 293 = .ok (.newarray .int, 2) := by decide +kernel
theorem dX12_init_295 : decode cX12_init 295 = .ok (.putfield 119, 3) := by decide +kernel
theorem dX12_init_298 : decode cX12_init 298 = .ok (.aload_n 0, 1) := by decide +kernel
theorem dX12_init_299 : decode cX12_init 299 = .ok (.ldc 122, 2) := by decide +kernel
theorem dX12_init_301 : decode cX12_init 301 = .ok (.newarray .int, 2) := by decide +kernel
theorem dX12_init_303 : decode cX12_init 303 = .ok (.putfield 123, 3) := by decide +kernel
theorem dX12_init_306 : decode cX12_init 306 = .ok (.aload_n 0, 1) := by decide +kernel
theorem dX12_init_307 : decode cX12_init 307 = .ok (.sipush 1536, 3) := by decide +kernel
theorem dX12_init_310 : decode cX12_init 310 = .ok (.newarray .int, 2) := by decide +kernel
theorem dX12_init_312 : decode cX12_init 312 = .ok (.putfield 126, 3) := by decide +kernel
theorem dX12_init_315 : decode cX12_init 315 = .ok (.aload_n 0, 1) := by decide +kernel
theorem dX12_init_316 : decode cX12_init 316 = .ok (.bipush 6, 2) := by decide +kernel
theorem dX12_init_318 : decode cX12_init 318 = .ok (.newarray .int, 2) := by decide +kernel
theorem dX12_init_320 : decode cX12_init 320 = .ok (.putfield 129, 3) := by decide +kernel
theorem dX12_init_323 : decode cX12_init 323 = .ok (.aload_n 0, 1) := by decide +kernel
theorem dX12_init_324 : decode cX12_init 324 = .ok (.bipush 6, 2) := by decide +kernel
theorem dX12_init_326 : decode cX12_init 326 = .ok (.newarray .int, 2) := by decide +kernel
theorem dX12_init_328 : decode cX12_init 328 = .ok (.putfield 132, 3) := by decide +kernel
theorem dX12_init_331 : decode cX12_init 331 = .ok (.aload_n 0, 1) := by decide +kernel
theorem dX12_init_332 : decode cX12_init 332 = .ok (.bipush 6, 2) := by decide +kernel
theorem dX12_init_334 : decode cX12_init 334 = .ok (.newarray .int, 2) := by decide +kernel
theorem dX12_init_336 : decode cX12_init 336 = .ok (.putfield 135, 3) := by decide +kernel
theorem dX12_init_339 : decode cX12_init 339 = .ok (.aload_n 0, 1) := by decide +kernel
theorem dX12_init_340 : decode cX12_init 340 = .ok (.bipush 6, 2) := by decide +kernel
theorem dX12_init_342 : decode cX12_init 342 = .ok (.newarray .int, 2) := by decide +kernel
theorem dX12_init_344 : decode cX12_init 344 = .ok (.putfield 138, 3) := by decide +kernel
theorem dX12_init_347 : decode cX12_init 347 = .ok (.aload_n 0, 1) := by decide +kernel
theorem dX12_init_348 : decode cX12_init 348 = .ok (.bipush 6, 2) := by decide +kernel
theorem dX12_init_350 : decode cX12_init 350 = .ok (.newarray .int, 2) := by decide +kernel
theorem dX12_init_352 : decode cX12_init 352 = .ok (.putfield 141, 3) := by decide +kernel
theorem dX12_init_355 : decode cX12_init 355 = .ok (.aload_n 0, 1) := by decide +kernel
theorem dX12_init_356 : decode cX12_init 356 = .ok (.sipush 600, 3) := by decide +kernel
theorem dX12_init_359 : decode cX12_init 359 = .ok (.newarray .int, 2) := by decide +kernel
theorem dX12_init_361 : decode cX12_init 361 = .ok (.putfield 144, 3) := by decide +kernel
theorem dX12_init_364 : decode cX12_init 364 = .ok (.aload_n 0, 1) := by decide +kernel
theorem dX12_init_365 : decode cX12_init 365 = .ok (.sipush 600, 3) := by decide +kernel
theorem dX12_init_368 : decode cX12_init 368 = .ok (.newarray .int, 2) := by decide +kernel
theorem dX12_init_370 : decode cX12_init 370 = .ok (.putfield 147, 3) := by decide +kernel
theorem dX12_init_373 : decode cX12_init 373 = .ok (.aload_n 0, 1) := by decide +kernel
theorem dX12_init_374 : decode cX12_init 374 = .ok (.sipush 600, 3) := by decide +kernel
theorem dX12_init_377 : decode cX12_init 377 = .ok (.newarray .int, 2) := by decide +kernel
theorem dX12_init_379 : decode cX12_init 379 = .ok (.putfield 150, 3) := by decide +kernel
theorem dX12_init_382 : decode cX12_init 382 = .ok (.aload_n 0, 1) := by decide +kernel
theorem dX12_init_383 : decode cX12_init 383 = .ok (.sipush 900, 3) := by decide +kernel
theorem dX12_init_386 : decode cX12_init 386 = .ok (.newarray .int, 2) := by decide +kernel
theorem dX12_init_388 : decode cX12_init 388 = .ok (.putfield 153, 3) := by decide +kernel
theorem dX12_init_391 : decode cX12_init 391 = .ok (.aload_n 0, 1) := by decide +kernel
theorem dX12_init_392 : decode cX12_init 392 = .ok (.sipush 900, 3) := by decide +kernel
theorem dX12_init_395 : decode cX12_init 395 = .ok (.newarray .int, 2) := by decide +kernel
theorem dX12_init_397 : decode cX12_init 397 = .ok (.putfield 156, 3) := by decide +kernel
theorem dX12_init_400 : decode cX12_init 400 = .ok (.aload_n 0, 1) := by decide +kernel
theorem dX12_init_401 : decode cX12_init 401 = .ok (.sipush 900, 3) := by decide +kernel
theorem dX12_init_404 : decode cX12_init 404 = .ok (.newarray .long, 2) := by decide +kernel
theorem dX12_init_406 : decode cX12_init 406 = .ok (.putfield 159, 3) := by decide +kernel
theorem dX12_init_409 : decode cX12_init 409 = .ok (.aload_n 0, 1) := by decide +kernel
theorem dX12_init_410 : decode cX12_init 410 = .ok (.sipush 900, 3) := by decide +kernel
theorem dX12_init_413 : decode cX12_init 413 = .ok (.newarray .long, 2) := by decide +kernel
theorem dX12_init_415 : decode cX12_init 415 = .ok (.putfield 163, 3) := by decide +kernel
theorem dX12_init_418 : decode cX12_init 418 = .ok (.aload_n 0, 1) := by decide +kernel
theorem dX12_init_419 : decode cX12_init 419 = .ok (.sipush 900, 3) := by decide +kernel
theorem dX12_init_422 : decode cX12_init 422 = .ok (.newarray .long, 2) := by decide +kernel
theorem dX12_init_424 : decode cX12_init 424 = .ok (.putfield 166, 3) := by decide +kernel
theorem dX12_init_427 : decode cX12_init 427 = .ok (.aload_n 0, 1) := by decide +kernel
theorem dX12_init_428 : decode cX12_init 428 = .ok (.sipush 900, 3) := by decide +kernel
theorem dX12_init_431 : decode cX12_init 431 = .ok (.newarray .long, 2) := by decide +kernel
theorem dX12_init_433 : decode cX12_init 433 = .ok (.putfield 169, 3) := by decide +kernel
theorem dX12_init_436 : decode cX12_init 436 = .ok (.aload_n 0, 1) := by decide +kernel
theorem dX12_init_437 : decode cX12_init 437 = .ok (.sipush 900, 3) := by decide +kernel
theorem dX12_init_440 : decode cX12_init 440 = .ok (.newarray .int, 2) := by decide +kernel
theorem dX12_init_442 : decode cX12_init 442 = .ok (.putfield 172, 3) := by decide +kernel
theorem dX12_init_445 : decode cX12_init 445 = .ok (.aload_n 0, 1) := by decide +kernel
theorem dX12_init_446 : decode cX12_init 446 = .ok (.sipush 900, 3) := by decide +kernel
theorem dX12_init_449 : decode cX12_init 449 = .ok (.newarray .int, 2) := by decide +kernel
theorem dX12_init_451 : decode cX12_init 451 = .ok (.putfield 175, 3) := by decide +kernel
theorem dX12_init_454 : decode cX12_init 454 = .ok (.aload_n 0, 1) := by decide +kernel
theorem dX12_init_455 : decode cX12_init 455 = .ok (.sipush 900, 3) := by decide +kernel
theorem dX12_init_458 : decode cX12_init 458 = .ok (.newarray .int, 2) := by decide +kernel
theorem dX12_init_460 : decode cX12_init 460 = .ok (.putfield 178, 3) := by decide +kernel
theorem dX12_init_463 : decode cX12_init 463 = .ok (.aload_n 0, 1) := by decide +kernel
theorem dX12_init_464 : decode cX12_init 464 = .ok (.sipush 900, 3) := by decide +kernel
theorem dX12_init_467 : decode cX12_init 467 = .ok (.newarray .int, 2) := by decide +kernel
theorem dX12_init_469 : decode cX12_init 469 = .ok (.putfield 181, 3) := by decide +kernel
theorem dX12_init_472 : decode cX12_init 472 = .ok (.aload_n 0, 1) := by decide +kernel
theorem dX12_init_473 : decode cX12_init 473 = .ok (.sipush 900, 3) := by decide +kernel
theorem dX12_init_476 : decode cX12_init 476 = .ok (.newarray .int, 2) := by decide +kernel
theorem dX12_init_478 : decode cX12_init 478 = .ok (.putfield 184, 3) := by decide +kernel
theorem dX12_init_481 : decode cX12_init 481 = .ok (.aload_n 0, 1) := by decide +kernel
theorem dX12_init_482 : decode cX12_init 482 = .ok (.ldc 187, 2) := by decide +kernel
theorem dX12_init_484 : decode cX12_init 484 = .ok (.newarray .int, 2) := by decide +kernel
theorem dX12_init_486 : decode cX12_init 486 = .ok (.putfield 188, 3) := by decide +kernel
theorem dX12_init_489 : decode cX12_init 489 = .ok (.aload_n 0, 1) := by decide +kernel
theorem dX12_init_490 : decode cX12_init 490 = .ok (.sipush 900, 3) := by decide +kernel
theorem dX12_init_493 : decode cX12_init 493 = .ok (.newarray .int, 2) := by decide +kernel
theorem dX12_init_495 : decode cX12_init 495 = .ok (.putfield 191, 3) := by decide +kernel
theorem dX12_init_498 : decode cX12_init 498 = .ok (.aload_n 0, 1) := by decide +kernel
theorem dX12_init_499 : decode cX12_init 499 = .ok (.sipush 28800, 3) := by decide +kernel
theorem dX12_init_502 : decode cX12_init 502 = .ok (.newarray .int, 2) := by decide +kernel
theorem dX12_init_504 : decode cX12_init 504 = .ok (.putfield 194, 3) := by decide +kernel
theorem dX12_init_507 : decode cX12_init 507 = .ok (.aload_n 0, 1) := by decide +kernel
theorem dX12_init_508 : decode cX12_init 508 = .ok (.sipush 900, 3) := by decide +kernel
theorem dX12_init_511 : decode cX12_init 511 = .ok (.newarray .int, 2) := by decide +kernel
theorem dX12_init_513 : decode cX12_init 513 = .ok (.putfield 197, 3) := by decide +kernel
theorem dX12_init_516 : decode cX12_init 516 = .ok (.aload_n 0, 1) := by decide +kernel
theorem dX12_init_517 : decode cX12_init 517 = .ok (.sipush 900, 3) := by decide +kernel
theorem dX12_init_520 : decode cX12_init 520 = .ok (.newarray .int, 2) := by decide +kernel
theorem dX12_init_522 : decode cX12_init 522 = .ok (.putfield 200, 3) := by decide +kernel
theorem dX12_init_525 : decode cX12_init 525 = .ok (.aload_n 0, 1) := by decide +kernel
theorem dX12_init_526 : decode cX12_init 526 = .ok (.bipush 8, 2) := by decide +kernel
theorem dX12_init_528 : decode cX12_init 528 = .ok (.newarray .int, 2) := by decide +kernel
theorem dX12_init_530 : decode cX12_init 530 = .ok (.putfield 203, 3) := by decide +kernel
theorem dX12_init_533 : decode cX12_init 533 = .ok (.aload_n 0, 1) := by decide +kernel
theorem dX12_init_534 : decode cX12_init 534 = .ok (.bipush 8, 2) := by decide +kernel
theorem dX12_init_536 : decode cX12_init 536 = .ok (.newarray .int, 2) := by decide +kernel
theorem dX12_init_538 : decode cX12_init 538 = .ok (.putfield 206, 3) := by decide +kernel
theorem dX12_init_541 : decode cX12_init 541 = .ok (.aload_n 0, 1) := by decide +kernel
theorem dX12_init_542 : decode cX12_init 542 = .ok (.bipush 8, 2) := by decide +kernel
theorem dX12_init_544 : decode cX12_init 544 = .ok (.newarray .int, 2) := by decide +kernel
theorem dX12_init_546 : decode cX12_init 546 = .ok (.putfield 209, 3) := by decide +kernel
theorem dX12_init_549 : decode cX12_init 549 = .ok (.aload_n 0, 1) := by decide +kernel
theorem dX12_init_550 : decode cX12_init 550 = .ok (.sipush 600, 3) := by decide +kernel
theorem dX12_init_553 : decode cX12_init 553 = .ok (.newarray .int, 2) := by decide +kernel
theorem dX12_init_555 : decode cX12_init 555 = .ok (.putfield 212, 3) := by decide +kernel
theorem dX12_init_558 : decode cX12_init 558 = .ok (.aload_n 0, 1) := by decide +kernel
theorem dX12_init_559 : decode cX12_init 559 = .ok (.sipush 600, 3) := by decide +kernel
theorem dX12_init_562 : decode cX12_init 562 = .ok (.newarray .int, 2) := by decide +kernel
theorem dX12_init_564 : decode cX12_init 564 = .ok (.putfield 215, 3) := by decide +kernel
theorem dX12_init_567 : decode cX12_init 567 = .ok (.aload_n 0, 1) := by decide +kernel
theorem dX12_init_568 : decode cX12_init 568 = .ok (.sipush 600, 3) := by decide +kernel
theorem dX12_init_571 : decode cX12_init 571 = .ok (.newarray .int, 2) := by decide +kernel
theorem dX12_init_573 : decode cX12_init 573 = .ok (.putfield 218, 3) := by decide +kernel
theorem dX12_init_576 : decode cX12_init 576 = .ok (.aload_n 0, 1) := by decide +kernel
theorem dX12_init_577 : decode cX12_init 577 = .ok (.bipush 66, 2) := by decide +kernel
theorem dX12_init_579 : decode cX12_init 579 = .ok (.newarray .boolean, 2) := by decide +kernel
theorem dX12_init_581 : decode cX12_init 581 = .ok (.putfield 221, 3) := by decide +kernel
theorem dX12_init_584 : decode cX12_init 584 = .ok (.aload_n 0, 1) := by decide +kernel
theorem dX12_init_585 : decode cX12_init 585 = .ok (.sipush 256, 3) := by decide +kernel
theorem dX12_init_588 : decode cX12_init 588 = .ok (.newarray .int, 2) := by decide +kernel
theorem dX12_init_590 : decode cX12_init 590 = .ok (.putfield 224, 3) := by decide +kernel
theorem dX12_init_593 : decode cX12_init 593 = .ok (.aload_n 0, 1) := by decide +kernel
theorem dX12_init_594 : decode cX12_init 594 = .ok (.sipush 256, 3) := by decide +kernel
theorem dX12_init_597 : decode cX12_init 597 = .ok (.newarray .int, 2) := by decide +kernel
theorem dX12_init_599 : decode cX12_init 599 = .ok (.putfield 227, 3) := by decide +kernel
theorem dX12_init_602 : decode cX12_init 602 = .ok (.aload_n 0, 1) := by decide +kernel
theorem dX12_init_603 : decode cX12_init 603 = .ok (.sipush 16384, 3) := by decide +kernel
theorem dX12_init_606 : decode cX12_init 606 = .ok (.newarray .int, 2) := by decide +kernel
theorem dX12_init_608 : decode cX12_init 608 = .ok (.putfield 230, 3) := by decide +kernel
theorem dX12_init_611 : decode cX12_init 611 = .ok (.aload_n 0, 1) := by decide +kernel
theorem dX12_init_612 : decode cX12_init 612 = .ok (.bipush 8, 2) := by decide +kernel
theorem dX12_init_614 : decode cX12_init 614 = .ok (.newarray .int, 2) := by decide +kernel
theorem dX12_init_616 : decode cX12_init 616 = .ok (.putfield 233, 3) := by decide +kernel
theorem dX12_init_619 : decode cX12_init 619 = .ok (.aload_n 0, 1) := by decide +kernel
theorem dX12_init_620 : decode cX12_init 620 = .ok (.bipush 8, 2) := by decide +kernel
theorem dX12_init_622 : decode cX12_init 622 = .ok (.newarray .int, 2) := by decide +kernel
theorem dX12_init_624 : decode cX12_init 624 = .ok (.putfield 236, 3) := by decide +kernel
theorem dX12_init_627 : decode cX12_init 627 = .ok (.aload_n 0, 1) := by decide +kernel
theorem dX12_init_628 : decode cX12_init 628 = .ok (.bipush 8, 2) := by decide +kernel
theorem dX12_init_630 : decode cX12_init 630 = .ok (.newarray .int, 2) := by decide +kernel
theorem dX12_init_632 : decode cX12_init 632 = .ok (.putfield 239, 3) := by decide +kernel
theorem dX12_init_635 : decode cX12_init 635 = .ok (.aload_n 0, 1) := by decide +kernel
theorem dX12_init_636 : decode cX12_init 636 = .ok (.bipush 8, 2) := by decide +kernel
theorem dX12_init_638 : decode cX12_init 638 = .ok (.newarray .int, 2) := by decide +kernel
theorem dX12_init_640 : decode cX12_init 640 = .ok (.putfield 242, 3) := by decide +kernel
theorem dX12_init_643 : decode cX12_init 643 = .ok (.aload_n 0, 1) := by decide +kernel
theorem dX12_init_644 : decode cX12_init 644 = .ok (.sipush 960, 3) := by decide +kernel
theorem dX12_init_647 : decode cX12_init 647 = .ok (.newarray .int, 2) := by decide +kernel
theorem dX12_init_649 : decode cX12_init 649 = .ok (.putfield 245, 3) := by decide +kernel
theorem dX12_init_652 : decode cX12_init 652 = .ok (.aload_n 0, 1) := by decide +kernel
theorem dX12_init_653 : decode cX12_init 653 = .ok (.sipush 960, 3) := by decide +kernel
theorem dX12_init_656 : decode cX12_init 656 = .ok (.newarray .int, 2) := by decide +kernel
theorem dX12_init_658 : decode cX12_init 658 = .ok (.putfield 248, 3) := by decide +kernel
theorem dX12_init_661 : decode cX12_init 661 = .ok (.aload_n 0, 1) := by decide +kernel
theorem dX12_init_662 : decode cX12_init 662 = .ok (.sipush 960, 3) := by decide +kernel
theorem dX12_init_665 : decode cX12_init 665 = .ok (.newarray .int, 2) := by decide +kernel
theorem dX12_init_667 : decode cX12_init 667 = .ok (.putfield 251, 3) := by decide +kernel
theorem dX12_init_670 : decode cX12_init 670 = .ok (.aload_n 0, 1) := by decide +kernel
theorem dX12_init_671 : decode cX12_init 671 = .ok (.sipush 960, 3) := by decide +kernel
theorem dX12_init_674 : decode cX12_init 674 = .ok (.newarray .int, 2) := by decide +kernel
theorem dX12_init_676 : decode cX12_init 676 = .ok (.putfield 254, 3) := by decide +kernel
theorem dX12_init_679 : decode cX12_init 679 = .ok (.aload_n 0, 1) := by decide +kernel
theorem dX12_init_680 : decode cX12_init 680 = .ok (.sipush 960, 3) := by decide +kernel
theorem dX12_init_683 : decode cX12_init 683 = .ok (.newarray .int, 2) := by decide +kernel
theorem dX12_init_685 : decode cX12_init 685 = .ok (.putfield 257, 3) := by decide +kernel
theorem dX12_init_688 : decode cX12_init 688 = .ok (.aload_n 0, 1) := by decide +kernel
theorem dX12_init_689 : decode cX12_init 689 = .ok (.sipush 1100, 3) := by decide +kernel
theorem dX12_init_692 : decode cX12_init 692 = .ok (.newarray .int, 2) := by decide +kernel
theorem dX12_init_694 : decode cX12_init 694 = .ok (.putfield 260, 3) := by decide +kernel
theorem dX12_init_697 : decode cX12_init 697 = .ok (.aload_n 0, 1) := by decide +kernel
theorem dX12_init_698 : decode cX12_init 698 = .ok (.bipush 60, 2) := by decide +kernel
theorem dX12_init_700 : decode cX12_init 700 = .ok (.newarray .boolean, 2) := by decide +kernel
theorem dX12_init_702 : decode cX12_init 702 = .ok (.putfield 263, 3) := by decide +kernel
theorem dX12_init_705 : decode cX12_init 705 = .ok (.aload_n 0, 1) := by decide +kernel
theorem dX12_init_706 : decode cX12_init 706 = .ok (.sipush 200, 3) := by decide +kernel
theorem dX12_init_709 : decode cX12_init 709 = .ok (.newarray .int, 2) := by decide +kernel
theorem dX12_init_711 : decode cX12_init 711 = .ok (.putfield 266, 3) := by decide +kernel
theorem dX12_init_714 : decode cX12_init 714 = .ok (.aload_n 0, 1) := by decide +kernel
theorem dX12_init_715 : decode cX12_init 715 = .ok (.sipush 200, 3) := by decide +kernel
theorem dX12_init_718 : decode cX12_init 718 = .ok (.newarray .int, 2) := by decide +kernel
theorem dX12_init_720 : decode cX12_init 720 = .ok (.putfield 269, 3) := by decide +kernel
theorem dX12_init_723 : decode cX12_init 723 = .ok (.aload_n 0, 1) := by decide +kernel
theorem dX12_init_724 : decode cX12_init 724 = .ok (.sipush 200, 3) := by decide +kernel
theorem dX12_init_727 : decode cX12_init 727 = .ok (.newarray .int, 2) := by decide +kernel
theorem dX12_init_729 : decode cX12_init 729 = .ok (.putfield 272, 3) := by decide +kernel
theorem dX12_init_732 : decode cX12_init 732 = .ok (.aload_n 0, 1) := by decide +kernel
theorem dX12_init_733 : decode cX12_init 733 = .ok (.sipush 4096, 3) := by decide +kernel
theorem dX12_init_736 : decode cX12_init 736 = .ok (.newarray .boolean, 2) := by decide +kernel
theorem dX12_init_738 : decode cX12_init 738 = .ok (.putfield 275, 3) := by decide +kernel
theorem dX12_init_741 : decode cX12_init 741 = .ok (.aload_n 0, 1) := by decide +kernel
theorem dX12_init_742 : decode cX12_init 742 = .ok (.bipush 16, 2) := by decide +kernel
theorem dX12_init_744 : decode cX12_init 744 = .ok (.newarray .int, 2) := by decide +kernel
theorem dX12_init_746 : decode cX12_init 746 = .ok (.putfield 278, 3) := by decide +kernel
theorem dX12_init_749 : decode cX12_init 749 = .ok (.aload_n 0, 1) := by decide +kernel
theorem dX12_init_750 : decode cX12_init 750 = .ok (.bipush 66, 2) := by decide +kernel
theorem dX12_init_752 : decode cX12_init 752 = .ok (.newarray .char, 2) := by decide +kernel
theorem dX12_init_754 : decode cX12_init 754 = .ok (.dup, 1) := by decide +kernel
theorem dX12_init_755 : decode cX12_init 755 = .ok (.iconst 0, 1) := by decide +kernel
theorem dX12_init_756 : decode cX12_init 756 = .ok (.bipush 107, 2) := by decide +kernel
theorem dX12_init_758 : decode cX12_init 758 = .ok (.castore, 1) := by decide +kernel
theorem dX12_init_759 : decode cX12_init 759 = .ok (.dup, 1) := by decide +kernel
theorem dX12_init_760 : decode cX12_init 760 = .ok (.iconst 1, 1) := by decide +kernel
theorem dX12_init_761 : decode cX12_init 761 = .ok (.bipush 105, 2) := by decide +kernel
theorem dX12_init_763 : decode cX12_init 763 = .ok (.castore, 1) := by decide +kernel
theorem dX12_init_764 : decode cX12_init 764 = .ok (.dup, 1) := by decide +kernel
theorem dX12_init_765 : decode cX12_init 765 = .ok (.iconst 2, 1) := by decide +kernel
theorem dX12_init_766 : decode cX12_init 766 = .ok (.bipush 110, 2) := by decide +kernel
theorem dX12_init_768 : decode cX12_init 768 = .ok (.castore, 1) := by decide +kernel
theorem dX12_init_769 : decode cX12_init 769 = .ok (.dup, 1) := by decide +kernel
theorem dX12_init_770 : decode cX12_init 770 = .ok (.iconst 3, 1) := by decide +kernel
theorem dX12_init_771 : decode cX12_init 771 = .ok (.bipush 100, 2) := by decide +kernel
theorem dX12_init_773 : decode cX12_init 773 = .ok (.castore, 1) := by decide +kernel
theorem dX12_init_774 : decode cX12_init 774 = .ok (.dup, 1) := by decide +kernel
theorem dX12_init_775 : decode cX12_init 775 = .ok (.iconst 4, 1) := by decide +kernel
theorem dX12_init_776 : decode cX12_init 776 = .ok (.bipush 32, 2) := by decide +kernel
theorem dX12_init_778 : decode cX12_init 778 = .ok (.castore, 1) := by decide +kernel
theorem dX12_init_779 : decode cX12_init 779 = .ok (.dup, 1) := by decide +kernel
theorem dX12_init_780 : decode cX12_init 780 = .ok (.iconst 5, 1) := by decide +kernel
theorem dX12_init_781 : decode cX12_init 781 = .ok (.bipush 115, 2) := by decide +kernel
theorem dX12_init_783 : decode cX12_init 783 = .ok (.castore, 1) := by decide +kernel
theorem dX12_init_784 : decode cX12_init 784 = .ok (.dup, 1) := by decide +kernel
theorem dX12_init_785 : decode cX12_init 785 = .ok (.bipush 6, 2) := by decide +kernel
theorem dX12_init_787 : decode cX12_init 787 = .ok (.bipush 105, 2) := by decide +kernel
theorem dX12_init_789 : decode cX12_init 789 = .ok (.castore, 1) := by decide +kernel
theorem dX12_init_790 : decode cX12_init 790 = .ok (.dup, 1) := by decide +kernel
theorem dX12_init_791 : decode cX12_init 791 = .ok (.bipush 7, 2) := by decide +kernel
theorem dX12_init_793 : decode cX12_init 793 = .ok (.bipush 122, 2) := by decide +kernel
theorem dX12_init_795 : decode cX12_init 795 = .ok (.castore, 1) := by decide +kernel
theorem dX12_init_796 : decode cX12_init 796 = .ok (.dup, 1) := by decide +kernel
theorem dX12_init_797 : decode cX12_init 797 = .ok (.bipush 8, 2) := by decide +kernel
theorem dX12_init_799 : decode cX12_init 799 = .ok (.bipush 101, 2) := by decide +kernel
theorem dX12_init_801 : decode cX12_init 801 = .ok (.castore, 1) := by decide +kernel
theorem dX12_init_802 : decode cX12_init 802 = .ok (.dup, 1) := by decide +kernel
theorem dX12_init_803 : decode cX12_init 803 = .ok (.bipush 9, 2) := by decide +kernel
theorem dX12_init_805 : decode cX12_init 805 = .ok (.bipush 32, 2) := by decide +kernel
theorem dX12_init_807 : decode cX12_init 807 = .ok (.castore, 1) := by decide +kernel
theorem dX12_init_808 : decode cX12_init 808 = .ok (.dup, 1) := by decide +kernel
theorem dX12_init_809 : decode cX12_init 809 = .ok (.bipush 10, 2) := by decide +kernel
theorem dX12_init_811 : decode cX12_init 811 = .ok (.bipush 109, 2) := by decide +kernel
theorem dX12_init_813 : decode cX12_init 813 = .ok (.castore, 1) := by decide +kernel
theorem dX12_init_814 : decode cX12_init 814 = .ok (.dup, 1) := by decide +kernel
theorem dX12_init_815 : decode cX12_init 815 = .ok (.bipush 11, 2) := by decide +kernel
theorem dX12_init_817 : decode cX12_init 817 = .ok (.bipush 97, 2) := by decide +kernel
theorem dX12_init_819 : decode cX12_init 819 = .ok (.castore, 1) := by decide +kernel
theorem dX12_init_820 : decode cX12_init 820 = .ok (.dup, 1) := by decide +kernel
theorem dX12_init_821 : decode cX12_init 821 = .ok (.bipush 12, 2) := by decide +kernel
theorem dX12_init_823 : decode cX12_init 823 = .ok (.bipush 100, 2) := by decide +kernel
theorem dX12_init_825 : decode cX12_init 825 = .ok (.castore, 1) := by decide +kernel
theorem dX12_init_826 : decode cX12_init 826 = .ok (.dup, 1) := by decide +kernel
theorem dX12_init_827 : decode cX12_init 827 = .ok (.bipush 13, 2) := by decide +kernel
theorem dX12_init_829 : decode cX12_init 829 = .ok (.bipush 101, 2) := by decide +kernel
theorem dX12_init_831 : decode cX12_init 831 = .ok (.castore, 1) := by decide +kernel
theorem dX12_init_832 : decode cX12_init 832 = .ok (.dup, 1) := by decide +kernel
theorem dX12_init_833 : decode cX12_init 833 = .ok (.bipush 14, 2) := by decide +kernel
theorem dX12_init_835 : decode cX12_init 835 = .ok (.bipush 32, 2) := by decide +kernel
theorem dX12_init_837 : decode cX12_init 837 = .ok (.castore, 1) := by decide +kernel
theorem dX12_init_838 : decode cX12_init 838 = .ok (.dup, 1) := by decide +kernel
theorem dX12_init_839 : decode cX12_init 839 = .ok (.bipush 15, 2) := by decide +kernel
theorem dX12_init_841 : decode cX12_init 841 = .ok (.bipush 97, 2) := by decide +kernel
theorem dX12_init_843 : decode cX12_init 843 = .ok (.castore, 1) := by decide +kernel
theorem dX12_init_844 : decode cX12_init 844 = .ok (.dup, 1) := by decide +kernel
theorem dX12_init_845 : decode cX12_init 845 = .ok (.bipush 16, 2) := by decide +kernel
theorem dX12_init_847 : decode cX12_init 847 = .ok (.bipush 108, 2) := by decide +kernel
theorem dX12_init_849 : decode cX12_init 849 = .ok (.castore, 1) := by decide +kernel
theorem dX12_init_850 : decode cX12_init 850 = .ok (.dup, 1) := by decide +kernel
theorem dX12_init_851 : decode cX12_init 851 = .ok (.bipush 17, 2) := by decide +kernel
theorem dX12_init_853 : decode cX12_init 853 = .ok (.bipush 116, 2) := by decide +kernel
theorem dX12_init_855 : decode cX12_init 855 = .ok (.castore, 1) := by decide +kernel
theorem dX12_init_856 : decode cX12_init 856 = .ok (.dup, 1) := by decide +kernel
theorem dX12_init_857 : decode cX12_init 857 = .ok (.bipush 18, 2) := by decide +kernel
theorem dX12_init_859 : decode cX12_init 859 = .ok (.bipush 101, 2) := by decide +kernel
theorem dX12_init_861 : decode cX12_init 861 = .ok (.castore, 1) := by decide +kernel
theorem dX12_init_862 : decode cX12_init 862 = .ok (.dup, 1) := by decide +kernel
theorem dX12_init_863 : decode cX12_init 863 = .ok (.bipush 19, 2) := by decide +kernel
theorem dX12_init_865 : decode cX12_init 865 = .ok (.bipush 114, 2) := by decide +kernel
theorem dX12_init_867 : decode cX12_init 867 = .ok (.castore, 1) := by decide +kernel
theorem dX12_init_868 : decode cX12_init 868 = .ok (.dup, 1) := by decide +kernel
theorem dX12_init_869 : decode cX12_init 869 = .ok (.bipush 20, 2) := by decide +kernel
theorem dX12_init_871 : decode cX12_init 871 = .ok (.bipush 101, 2) := by decide +kernel
theorem dX12_init_873 : decode cX12_init 873 = .ok (.castore, 1) := by decide +kernel
theorem dX12_init_874 : decode cX12_init 874 = .ok (.dup, 1) := by decide +kernel
theorem dX12_init_875 : decode cX12_init 875 = .ok (.bipush 21, 2) := by decide +kernel
theorem dX12_init_877 : decode cX12_init 877 = .ok (.bipush 100, 2) := by decide +kernel
theorem dX12_init_879 : decode cX12_init 879 = .ok (.castore, 1) := by decide +kernel
theorem dX12_init_880 : decode cX12_init 880 = .ok (.dup, 1) := by decide +kernel
theorem dX12_init_881 : decode cX12_init 881 = .ok (.bipush 22, 2) := by decide +kernel
theorem dX12_init_883 : decode cX12_init 883 = .ok (.bipush 32, 2) := by decide +kernel
theorem dX12_init_885 : decode cX12_init 885 = .ok (.castore, 1) := by decide +kernel
theorem dX12_init_886 : decode cX12_init 886 = .ok (.dup, 1) := by decide +kernel
theorem dX12_init_887 : decode cX12_init 887 = .ok (.bipush 23, 2) := by decide +kernel
theorem dX12_init_889 : decode cX12_init 889 = .ok (.bipush 101, 2) := by decide +kernel
theorem dX12_init_891 : decode cX12_init 891 = .ok (.castore, 1) := by decide +kernel
theorem dX12_init_892 : decode cX12_init 892 = .ok (.dup, 1) := by decide +kernel
theorem dX12_init_893 : decode cX12_init 893 = .ok (.bipush 24, 2) := by decide +kernel
theorem dX12_init_895 : decode cX12_init 895 = .ok (.bipush 114, 2) := by decide +kernel
theorem dX12_init_897 : decode cX12_init 897 = .ok (.castore, 1) := by decide +kernel
theorem dX12_init_898 : decode cX12_init 898 = .ok (.dup, 1) := by decide +kernel
theorem dX12_init_899 : decode cX12_init 899 = .ok (.bipush 25, 2) := by decide +kernel
theorem dX12_init_901 : decode cX12_init 901 = .ok (.bipush 97, 2) := by decide +kernel
theorem dX12_init_903 : decode cX12_init 903 = .ok (.castore, 1) := by decide +kernel
theorem dX12_init_904 : decode cX12_init 904 = .ok (.dup, 1) := by decide +kernel
theorem dX12_init_905 : decode cX12_init 905 = .ok (.bipush 26, 2) := by decide +kernel
theorem dX12_init_907 : decode cX12_init 907 = .ok (.bipush 115, 2) := by decide +kernel
theorem dX12_init_909 : decode cX12_init 909 = .ok (.castore, 1) := by decide +kernel
theorem dX12_init_910 : decode cX12_init 910 = .ok (.dup, 1) := by decide +kernel
theorem dX12_init_911 : decode cX12_init 911 = .ok (.bipush 27, 2) := by decide +kernel
theorem dX12_init_913 : decode cX12_init 913 = .ok (.bipush 101, 2) := by decide +kernel
theorem dX12_init_915 : decode cX12_init 915 = .ok (.castore, 1) := by decide +kernel
theorem dX12_init_916 : decode cX12_init 916 = .ok (.dup, 1) := by decide +kernel
theorem dX12_init_917 : decode cX12_init 917 = .ok (.bipush 28, 2) := by decide +kernel
theorem dX12_init_919 : decode cX12_init 919 = .ok (.bipush 100, 2) := by decide +kernel
theorem dX12_init_921 : decode cX12_init 921 = .ok (.castore, 1) := by decide +kernel
theorem dX12_init_922 : decode cX12_init 922 = .ok (.dup, 1) := by decide +kernel
theorem dX12_init_923 : decode cX12_init 923 = .ok (.bipush 29, 2) := by decide +kernel
theorem dX12_init_925 : decode cX12_init 925 = .ok (.bipush 32, 2) := by decide +kernel
theorem dX12_init_927 : decode cX12_init 927 = .ok (.castore, 1) := by decide +kernel
theorem dX12_init_928 : decode cX12_init 928 = .ok (.dup, 1) := by decide +kernel
theorem dX12_init_929 : decode cX12_init 929 = .ok (.bipush 30, 2) := by decide +kernel
theorem dX12_init_931 : decode cX12_init 931 = .ok (.bipush 103, 2) := by decide +kernel
theorem dX12_init_933 : decode cX12_init 933 = .ok (.castore, 1) := by decide +kernel
theorem dX12_init_934 : decode cX12_init 934 = .ok (.dup, 1) := by decide +kernel
theorem dX12_init_935 : decode cX12_init 935 = .ok (.bipush 31, 2) := by decide +kernel
theorem dX12_init_937 : decode cX12_init 937 = .ok (.bipush 114, 2) := by decide +kernel
theorem dX12_init_939 : decode cX12_init 939 = .ok (.castore, 1) := by decide +kernel
theorem dX12_init_940 : decode cX12_init 940 = .ok (.dup, 1) := by decide +kernel
theorem dX12_init_941 : decode cX12_init 941 = .ok (.bipush 32, 2) := by decide +kernel
theorem dX12_init_943 : decode cX12_init 943 = .ok (.bipush 97, 2) := by decide +kernel
theorem dX12_init_945 : decode cX12_init 945 = .ok (.castore, 1) := by decide +kernel
theorem dX12_init_946 : decode cX12_init 946 = .ok (.dup, 1) := by decide +kernel
theorem dX12_init_947 : decode cX12_init 947 = .ok (.bipush 33, 2) := by decide +kernel
theorem dX12_init_949 : decode cX12_init 949 = .ok (.bipush 100, 2) := by decide +kernel
theorem dX12_init_951 : decode cX12_init 951 = .ok (.castore, 1) := by decide +kernel
theorem dX12_init_952 : decode cX12_init 952 = .ok (.dup, 1) := by decide +kernel
theorem dX12_init_953 : decode cX12_init 953 = .ok (.bipush 34, 2) := by decide +kernel
theorem dX12_init_955 : decode cX12_init 955 = .ok (.bipush 101, 2) := by decide +kernel
theorem dX12_init_957 : decode cX12_init 957 = .ok (.castore, 1) := by decide +kernel
theorem dX12_init_958 : decode cX12_init 958 = .ok (.dup, 1) := by decide +kernel
theorem dX12_init_959 : decode cX12_init 959 = .ok (.bipush 35, 2) := by decide +kernel
theorem dX12_init_961 : decode cX12_init 961 = .ok (.bipush 32, 2) := by decide +kernel
theorem dX12_init_963 : decode cX12_init 963 = .ok (.castore, 1) := by decide +kernel
theorem dX12_init_964 : decode cX12_init 964 = .ok (.dup, 1) := by decide +kernel
theorem dX12_init_965 : decode cX12_init 965 = .ok (.bipush 36, 2) := by decide +kernel
theorem dX12_init_967 : decode cX12_init 967 = .ok (.bipush 98, 2) := by decide +kernel
theorem dX12_init_969 : decode cX12_init 969 = .ok (.castore, 1) := by decide +kernel
theorem dX12_init_970 : decode cX12_init 970 = .ok (.dup, 1) := by decide +kernel
theorem dX12_init_971 : decode cX12_init 971 = .ok (.bipush 37, 2) := by decide +kernel
theorem dX12_init_973 : decode cX12_init 973 = .ok (.bipush 108, 2) := by decide +kernel
theorem dX12_init_975 : decode cX12_init 975 = .ok (.castore, 1) := by decide +kernel
theorem dX12_init_976 : decode cX12_init 976 = .ok (.dup, 1) := by decide +kernel
theorem dX12_init_977 : decode cX12_init 977 = .ok (.bipush 38, 2) := by decide +kernel
theorem dX12_init_979 : decode cX12_init 979 = .ok (.bipush 111, 2) := by decide +kernel
theorem dX12_init_981 : decode cX12_init 981 = .ok (.castore, 1) := by decide +kernel
theorem dX12_init_982 : decode cX12_init 982 = .ok (.dup, 1) := by decide +kernel
theorem dX12_init_983 : decode cX12_init 983 = .ok (.bipush 39, 2) := by decide +kernel
theorem dX12_init_985 : decode cX12_init 985 = .ok (.bipush 99, 2) := by decide +kernel
theorem dX12_init_987 : decode cX12_init 987 = .ok (.castore, 1) := by decide +kernel
theorem dX12_init_988 : decode cX12_init 988 = .ok (.dup, 1) := by decide +kernel
theorem dX12_init_989 : decode cX12_init 989 = .ok (.bipush 40, 2) := by decide +kernel
theorem dX12_init_991 : decode cX12_init 991 = .ok (.bipush 107, 2) := by decide +kernel
theorem dX12_init_993 : decode cX12_init 993 = .ok (.castore, 1) := by decide +kernel
theorem dX12_init_994 : decode cX12_init 994 = .ok (.dup, 1) := by decide +kernel
theorem dX12_init_995 : decode cX12_init 995 = .ok (.bipush 41, 2) := by decide +kernel
theorem dX12_init_997 : decode cX12_init 997 = .ok (.bipush 32, 2) := by decide +kernel
theorem dX12_init_999 : decode cX12_init 999 = .ok (.castore, 1) := by decide +kernel
theorem dX12_init_1000 : decode cX12_init 1000 = .ok (.dup, 1) := by decide +kernel
theorem dX12_init_1001 : decode cX12_init 1001 = .ok (.bipush 42, 2) := by decide +kernel
theorem dX12_init_1003 : decode cX12_init 1003 = .ok (.bipush 112, 2) := by decide +kernel
theorem dX12_init_1005 : decode cX12_init 1005 = .ok (.castore, 1) := by decide +kernel
theorem dX12_init_1006 : decode cX12_init 1006 = .ok (.dup, 1) := by decide +kernel
theorem dX12_init_1007 : decode cX12_init 1007 = .ok (.bipush 43, 2) := by decide +kernel
theorem dX12_init_1009 : decode cX12_init 1009 = .ok (.bipush 97, 2) := by decide +kernel
theorem dX12_init_1011 : decode cX12_init 1011 = .ok (.castore, 1) := by decide +kernel
theorem dX12_init_1012 : decode cX12_init 1012 = .ok (.dup, 1) := by decide +kernel
theorem dX12_init_1013 : decode cX12_init 1013 = .ok (.bipush 44, 2) := by decide +kernel
theorem dX12_init_1015 : decode cX12_init 1015 = .ok (.bipush 114, 2) := by decide +kernel
theorem dX12_init_1017 : decode cX12_init 1017 = .ok (.castore, 1) := by decide +kernel
theorem dX12_init_1018 : decode cX12_init 1018 = .ok (.dup, 1) := by decide +kernel
theorem dX12_init_1019 : decode cX12_init 1019 = .ok (.bipush 45, 2) := by decide +kernel
theorem dX12_init_1021 : decode cX12_init 1021 = .ok (.bipush 116, 2) := by decide +kernel
theorem dX12_init_1023 : decode cX12_init 1023 = .ok (.castore, 1) := by decide +kernel
theorem dX12_init_1024 : decode cX12_init 1024 = .ok (.dup, 1) := by decide +kernel
theorem dX12_init_1025 : decode cX12_init 1025 = .ok (.bipush 46, 2) := by decide +kernel
theorem dX12_init_1027 : decode cX12_init 1027 = .ok (.bipush 115, 2) := by decide +kernel
theorem dX12_init_1029 : decode cX12_init 1029 = .ok (.castore, 1) := by decide +kernel
theorem dX12_init_1030 : decode cX12_init 1030 = .ok (.dup, 1) := by decide +kernel
theorem dX12_init_1031 : decode cX12_init 1031 = .ok (.bipush 47, 2) := by decide +kernel
theorem dX12_init_1033 : decode cX12_init 1033 = .ok (.bipush 32, 2) := by decide +kernel
theorem dX12_init_1035 : decode cX12_init 1035 = .ok (.castore, 1) := by decide +kernel
theorem dX12_init_1036 : decode cX12_init 1036 = .ok (.dup, 1) := by decide +kernel
theorem dX12_init_1037 : decode cX12_init 1037 = .ok (.bipush 48, 2) := by decide +kernel
theorem dX12_init_1039 : decode cX12_init 1039 = .ok (.bipush 102, 2) := by decide +kernel
theorem dX12_init_1041 : decode cX12_init 1041 = .ok (.castore, 1) := by decide +kernel
theorem dX12_init_1042 : decode cX12_init 1042 = .ok (.dup, 1) := by decide +kernel
theorem dX12_init_1043 : decode cX12_init 1043 = .ok (.bipush 49, 2) := by decide +kernel
theorem dX12_init_1045 : decode cX12_init 1045 = .ok (.bipush 97, 2) := by decide +kernel
theorem dX12_init_1047 : decode cX12_init 1047 = .ok (.castore, 1) := by decide +kernel
theorem dX12_init_1048 : decode cX12_init 1048 = .ok (.dup, 1) := by decide +kernel
theorem dX12_init_1049 : decode cX12_init 1049 = .ok (.bipush 50, 2) := by decide +kernel
theorem dX12_init_1051 : decode cX12_init 1051 = .ok (.bipush 117, 2) := by decide +kernel
theorem dX12_init_1053 : decode cX12_init 1053 = .ok (.castore, 1) := by decide +kernel
theorem dX12_init_1054 : decode cX12_init 1054 = .ok (.dup, 1) := by decide +kernel
theorem dX12_init_1055 : decode cX12_init 1055 = .ok (.bipush 51, 2) := by decide +kernel
theorem dX12_init_1057 : decode cX12_init 1057 = .ok (.bipush 108, 2) := by decide +kernel
theorem dX12_init_1059 : decode cX12_init 1059 = .ok (.castore, 1) := by decide +kernel
theorem dX12_init_1060 : decode cX12_init 1060 = .ok (.dup, 1) := by decide +kernel
theorem dX12_init_1061 : decode cX12_init 1061 = .ok (.bipush 52, 2) := by decide +kernel
theorem dX12_init_1063 : decode cX12_init 1063 = .ok (.bipush 116, 2) := by decide +kernel
theorem dX12_init_1065 : decode cX12_init 1065 = .ok (.castore, 1) := by decide +kernel
theorem dX12_init_1066 : decode cX12_init 1066 = .ok (.dup, 1) := by decide +kernel
theorem dX12_init_1067 : decode cX12_init 1067 = .ok (.bipush 53, 2) := by decide +kernel
theorem dX12_init_1069 : decode cX12_init 1069 = .ok (.bipush 115, 2) := by decide +kernel
theorem dX12_init_1071 : decode cX12_init 1071 = .ok (.castore, 1) := by decide +kernel
theorem dX12_init_1072 : decode cX12_init 1072 = .ok (.dup, 1) := by decide +kernel
theorem dX12_init_1073 : decode cX12_init 1073 = .ok (.bipush 54, 2) := by decide +kernel
theorem dX12_init_1075 : decode cX12_init 1075 = .ok (.bipush 32, 2) := by decide +kernel
theorem dX12_init_1077 : decode cX12_init 1077 = .ok (.castore, 1) := by decide +kernel
theorem dX12_init_1078 : decode cX12_init 1078 = .ok (.dup, 1) := by decide +kernel
theorem dX12_init_1079 : decode cX12_init 1079 = .ok (.bipush 55, 2) := by decide +kernel
theorem dX12_init_1081 : decode cX12_init 1081 = .ok (.bipush 100, 2) := by decide +kernel
theorem dX12_init_1083 : decode cX12_init 1083 = .ok (.castore, 1) := by decide +kernel
theorem dX12_init_1084 : decode cX12_init 1084 = .ok (.dup, 1) := by decide +kernel
theorem dX12_init_1085 : decode cX12_init 1085 = .ok (.bipush 56, 2) := by decide +kernel
theorem dX12_init_1087 : decode cX12_init 1087 = .ok (.bipush 101, 2) := by decide +kernel
theorem dX12_init_1089 : decode cX12_init 1089 = .ok (.castore, 1) := by decide +kernel
theorem dX12_init_1090 : decode cX12_init 1090 = .ok (.dup, 1) := by decide +kernel
theorem dX12_init_1091 : decode cX12_init 1091 = .ok (.bipush 57, 2) := by decide +kernel
theorem dX12_init_1093 : decode cX12_init 1093 = .ok (.bipush 112, 2) := by decide +kernel
theorem dX12_init_1095 : decode cX12_init 1095 = .ok (.castore, 1) := by decide +kernel
theorem dX12_init_1096 : decode cX12_init 1096 = .ok (.dup, 1) := by decide +kernel
theorem dX12_init_1097 : decode cX12_init 1097 = .ok (.bipush 58, 2) := by decide +kernel
theorem dX12_init_1099 : decode cX12_init 1099 = .ok (.bipush 116, 2) := by decide +kernel
theorem dX12_init_1101 : decode cX12_init 1101 = .ok (.castore, 1) := by decide +kernel
theorem dX12_init_1102 : decode cX12_init 1102 = .ok (.dup, 1) := by decide +kernel
theorem dX12_init_1103 : decode cX12_init 1103 = .ok (.bipush 59, 2) := by decide +kernel
theorem dX12_init_1105 : decode cX12_init 1105 = .ok (.bipush 104, 2) := by decide +kernel
theorem dX12_init_1107 : decode cX12_init 1107 = .ok (.castore, 1) := by decide +kernel
theorem dX12_init_1108 : decode cX12_init 1108 = .ok (.dup, 1) := by decide +kernel
theorem dX12_init_1109 : decode cX12_init 1109 = .ok (.bipush 60, 2) := by decide +kernel
theorem dX12_init_1111 : decode cX12_init 1111 = .ok (.bipush 32, 2) := by decide +kernel
theorem dX12_init_1113 : decode cX12_init 1113 = .ok (.castore, 1) := by decide +kernel
theorem dX12_init_1114 : decode cX12_init 1114 = .ok (.dup, 1) := by decide +kernel
theorem dX12_init_1115 : decode cX12_init 1115 = .ok (.bipush 61, 2) := by decide +kernel
theorem dX12_init_1117 : decode cX12_init 1117 = .ok (.bipush 110, 2) := by decide +kernel
theorem dX12_init_1119 : decode cX12_init 1119 = .ok (.castore, 1) := by decide +kernel
theorem dX12_init_1120 : decode cX12_init 1120 = .ok (.dup, 1) := by decide +kernel
theorem dX12_init_1121 : decode cX12_init 1121 = .ok (.bipush 62, 2) := by decide +kernel
theorem dX12_init_1123 : decode cX12_init 1123 = .ok (.bipush 97, 2) := by decide +kernel
theorem dX12_init_1125 : decode cX12_init 1125 = .ok (.castore, 1) := by decide +kernel
theorem dX12_init_1126 : decode cX12_init 1126 = .ok (.dup, 1) := by decide +kernel
theorem dX12_init_1127 : decode cX12_init 1127 = .ok (.bipush 63, 2) := by decide +kernel
theorem dX12_init_1129 : decode cX12_init 1129 = .ok (.bipush 109, 2) := by decide +kernel
theorem dX12_init_1131 : decode cX12_init 1131 = .ok (.castore, 1) := by decide +kernel
theorem dX12_init_1132 : decode cX12_init 1132 = .ok (.dup, 1) := by decide +kernel
theorem dX12_init_1133 : decode cX12_init 1133 = .ok (.bipush 64, 2) := by decide +kernel
theorem dX12_init_1135 : decode cX12_init 1135 = .ok (.bipush 101, 2) := by decide +kernel
theorem dX12_init_1137 : decode cX12_init 1137 = .ok (.castore, 1) := by decide +kernel
theorem dX12_init_1138 : decode cX12_init 1138 = .ok (.dup, 1) := by decide +kernel
theorem dX12_init_1139 : decode cX12_init 1139 = .ok (.bipush 65, 2) := by decide +kernel
theorem dX12_init_1141 : decode cX12_init 1141 = .ok (.bipush 32, 2) := by decide +kernel
theorem dX12_init_1143 : decode cX12_init 1143 = .ok (.castore, 1) := by decide +kernel
theorem dX12_init_1144 : decode cX12_init 1144 = .ok (.putfield 281, 3) := by decide +kernel
theorem dX12_init_1147 : decode cX12_init 1147 = .ok (.aload_n 0, 1) := by decide +kernel
theorem dX12_init_1148 : decode cX12_init 1148 = .ok (.bipush 11, 2) := by decide +kernel
theorem dX12_init_1150 : decode cX12_init 1150 = .ok (.newarray .int, 2) := by decide +kernel
theorem dX12_init_1152 : decode cX12_init 1152 = .ok (.dup, 1) := by decide +kernel
theorem dX12_init_1153 : decode cX12_init 1153 = .ok (.iconst 0, 1) := by decide +kernel
theorem dX12_init_1154 : decode cX12_init 1154 = .ok (.iconst 0, 1) := by decide +kernel
theorem dX12_init_1155 : decode cX12_init 1155 = .ok (.iastore, 1) := by decide +kernel
theorem dX12_init_1156 : decode cX12_init 1156 = .ok (.dup, 1) := by decide +kernel
theorem dX12_init_1157 : decode cX12_init 1157 = .ok (.iconst 1, 1) := by decide +kernel
theorem dX12_init_1158 : decode cX12_init 1158 = .ok (.iconst 5, 1) := by decide +kernel
theorem dX12_init_1159 : decode cX12_init 1159 = .ok (.iastore, 1) := by decide +kernel
theorem dX12_init_1160 : decode cX12_init 1160 = .ok (.dup, 1) := by decide +kernel
theorem dX12_init_1161 : decode cX12_init 1161 = .ok (.iconst 2, 1) := by decide +kernel
theorem dX12_init_1162 : decode cX12_init 1162 = .ok (.bipush 10, 2) := by decide +kernel
theorem dX12_init_1164 : decode cX12_init 1164 = .ok (.iastore, 1) := by decide +kernel
theorem dX12_init_1165 : decode cX12_init 1165 = .ok (.dup, 1) := by decide +kernel
theorem dX12_init_1166 : decode cX12_init 1166 = .ok (.iconst 3, 1) := by decide +kernel
theorem dX12_init_1167 : decode cX12_init 1167 = .ok (.bipush 15, 2) := by decide +kernel
theorem dX12_init_1169 : decode cX12_init 1169 = .ok (.iastore, 1) := by decide +kernel
theorem dX12_init_1170 : decode cX12_init 1170 = .ok (.dup, 1) := by decide +kernel
theorem dX12_init_1171 : decode cX12_init 1171 = .ok (.iconst 4, 1) := by decide +kernel
theorem dX12_init_1172 : decode cX12_init 1172 = .ok (.bipush 23, 2) := by decide +kernel
theorem dX12_init_1174 : decode cX12_init 1174 = .ok (.iastore, 1) := by decide +kernel
theorem dX12_init_1175 : decode cX12_init 1175 = .ok (.dup, 1) := by decide +kernel
theorem dX12_init_1176 : decode cX12_init 1176 = .ok (.iconst 5, 1) := by decide +kernel
theorem dX12_init_1177 : decode cX12_init 1177 = .ok (.bipush 30, 2) := by decide +kernel
theorem dX12_init_1179 : decode cX12_init 1179 = .ok (.iastore, 1) := by decide +kernel
theorem dX12_init_1180 : decode cX12_init 1180 = .ok (.dup, 1) := by decide +kernel
theorem dX12_init_1181 : decode cX12_init 1181 = .ok (.bipush 6, 2) := by decide +kernel
theorem dX12_init_1183 : decode cX12_init 1183 = .ok (.bipush 36, 2) := by decide +kernel
theorem dX12_init_1185 : decode cX12_init 1185 = .ok (.iastore, 1) := by decide +kernel
theorem dX12_init_1186 : decode cX12_init 1186 = .ok (.dup, 1) := by decide +kernel
theorem dX12_init_1187 : decode cX12_init 1187 = .ok (.bipush 7, 2) := by decide +kernel
theorem dX12_init_1189 : decode cX12_init 1189 = .ok (.bipush 42, 2) := by decide +kernel
theorem dX12_init_1191 : decode cX12_init 1191 = .ok (.iastore, 1) := by decide +kernel
theorem dX12_init_1192 : decode cX12_init 1192 = .ok (.dup, 1) := by decide +kernel
theorem dX12_init_1193 : decode cX12_init 1193 = .ok (.bipush 8, 2) := by decide +kernel
theorem dX12_init_1195 : decode cX12_init 1195 = .ok (.bipush 48, 2) := by decide +kernel
theorem dX12_init_1197 : decode cX12_init 1197 = .ok (.iastore, 1) := by decide +kernel
theorem dX12_init_1198 : decode cX12_init 1198 = .ok (.dup, 1) := by decide +kernel
theorem dX12_init_1199 : decode cX12_init 1199 = .ok (.bipush 9, 2) := by decide +kernel
theorem dX12_init_1201 : decode cX12_init 1201 = .ok (.bipush 55, 2) := by decide +kernel
theorem dX12_init_1203 : decode cX12_init 1203 = .ok (.iastore, 1) := by decide +kernel
theorem dX12_init_1204 : decode cX12_init 1204 = .ok (.dup, 1) := by decide +kernel
theorem dX12_init_1205 : decode cX12_init 1205 = .ok (.bipush 10, 2) := by decide +kernel
theorem dX12_init_1207 : decode cX12_init 1207 = .ok (.bipush 61, 2) := by decide +kernel
theorem dX12_init_1209 : decode cX12_init 1209 = .ok (.iastore, 1) := by decide +kernel
theorem dX12_init_1210 : decode cX12_init 1210 = .ok (.putfield 285, 3) := by decide +kernel
theorem dX12_init_1213 : decode cX12_init 1213 = .ok (.aload_n 0, 1) := by decide +kernel
theorem dX12_init_1214 : decode cX12_init 1214 = .ok (.iconst 4, 1) := by decide +kernel
theorem dX12_init_1215 : decode cX12_init 1215 = .ok (.newarray .char, 2) := by decide +kernel
theorem dX12_init_1217 : decode cX12_init 1217 = .ok (.dup, 1) := by decide +kernel
theorem dX12_init_1218 : decode cX12_init 1218 = .ok (.iconst 0, 1) := by decide +kernel
theorem dX12_init_1219 : decode cX12_init 1219 = .ok (.bipush 115, 2) := by decide +kernel
theorem dX12_init_1221 : decode cX12_init 1221 = .ok (.castore, 1) := by decide +kernel
theorem dX12_init_1222 : decode cX12_init 1222 = .ok (.dup, 1) := by decide +kernel
theorem dX12_init_1223 : decode cX12_init 1223 = .ok (.iconst 1, 1) := by decide +kernel
theorem dX12_init_1224 : decode cX12_init 1224 = .ok (.bipush 111, 2) := by decide +kernel
theorem dX12_init_1226 : decode cX12_init 1226 = .ok (.castore, 1) := by decide +kernel
theorem dX12_init_1227 : decode cX12_init 1227 = .ok (.dup, 1) := by decide +kernel
theorem dX12_init_1228 : decode cX12_init 1228 = .ok (.iconst 2, 1) := by decide +kernel
theorem dX12_init_1229 : decode cX12_init 1229 = .ok (.bipush 114, 2) := by decide +kernel
theorem dX12_init_1231 : decode cX12_init 1231 = .ok (.castore, 1) := by decide +kernel
theorem dX12_init_1232 : decode cX12_init 1232 = .ok (.dup, 1) := by decide +kernel
theorem dX12_init_1233 : decode cX12_init 1233 = .ok (.iconst 3, 1) := by decide +kernel
theorem dX12_init_1234 : decode cX12_init 1234 = .ok (.bipush 116, 2) := by decide +kernel
theorem dX12_init_1236 : decode cX12_init 1236 = .ok (.castore, 1) := by decide +kernel
theorem dX12_init_1237 : decode cX12_init 1237 = .ok (.putfield 288, 3) := by decide +kernel
theorem dX12_init_1240 : decode cX12_init 1240 = .ok (.aload_n 0, 1) := by decide +kernel
theorem dX12_init_1241 : decode cX12_init 1241 = .ok (.sipush 4096, 3) := by decide +kernel
theorem dX12_init_1244 : decode cX12_init 1244 = .ok (.newarray .int, 2) := by decide +kernel
theorem dX12_init_1246 : decode cX12_init 1246 = .ok (.putfield 291, 3) := by decide +kernel
theorem dX12_init_1249 : decode cX12_init 1249 = .ok (.aload_n 0, 1) := by decide +kernel
theorem dX12_init_1250 : decode cX12_init 1250 = .ok (.sipush 4096, 3) := by decide +kernel
theorem dX12_init_1253 : decode cX12_init 1253 = .ok (.newarray .int, 2) := by decide +kernel
theorem dX12_init_1255 : decode cX12_init 1255 = .ok (.putfield 294, 3) := by decide +kernel
theorem dX12_init_1258 : decode cX12_init 1258 = .ok (.aload_n 0, 1) := by decide +kernel
theorem dX12_init_1259 : decode cX12_init 1259 = .ok (.sipush 2048, 3) := by decide +kernel
theorem dX12_init_1262 : decode cX12_init 1262 = .ok (.newarray .int, 2) := by decide +kernel
theorem dX12_init_1264 : decode cX12_init 1264 = .ok (.putfield 297, 3) := by decide +kernel
theorem dX12_init_1267 : decode cX12_init 1267 = .ok (.aload_n 0, 1) := by decide +kernel
theorem dX12_init_1268 : decode cX12_init 1268 = .ok (.sipush 2048, 3) := by decide +kernel
theorem dX12_init_1271 : decode cX12_init 1271 = .ok (.newarray .int, 2) := by decide +kernel
theorem dX12_init_1273 : decode cX12_init 1273 = .ok (.putfield 300, 3) := by decide +kernel
theorem dX12_init_1276 : decode cX12_init 1276 = .ok (.aload_n 0, 1) := by decide +kernel
theorem dX12_init_1277 : decode cX12_init 1277 = .ok (.sipush 2048, 3) := by decide +kernel
theorem dX12_init_1280 : decode cX12_init 1280 = .ok (.newarray .int, 2) := by decide +kernel
theorem dX12_init_1282 : decode cX12_init 1282 = .ok (.putfield 303, 3) := by decide +kernel
theorem dX12_init_1285 : decode cX12_init 1285 = .ok (.aload_n 0, 1) := by decide +kernel
theorem dX12_init_1286 : decode cX12_init 1286 = .ok (.sipush 2048, 3) := by decide +kernel
theorem dX12_init_1289 : decode cX12_init 1289 = .ok (.newarray .int, 2) := by decide +kernel
theorem dX12_init_1291 : decode cX12_init 1291 = .ok (.putfield 306, 3) := by decide +kernel
theorem dX12_init_1294 : decode cX12_init 1294 = .ok (.aload_n 0, 1) := by decide +kernel
theorem dX12_init_1295 : decode cX12_init 1295 = .ok (.sipush 2048, 3) := by decide +kernel
theorem dX12_init_1298 : decode cX12_init 1298 = .ok (.newarray .boolean, 2) := by decide +kernel
theorem dX12_init_1300 : decode cX12_init 1300 = .ok (.putfield 309, 3) := by decide +kernel
theorem dX12_init_1303 : decode cX12_init 1303 = .ok (.aload_n 0, 1) := by decide +kernel
theorem dX12_init_1304 : decode cX12_init 1304 = .ok (.sipush 150, 3) := by decide +kernel
theorem dX12_init_1307 : decode cX12_init 1307 = .ok (.newarray .int, 2) := by decide +kernel
theorem dX12_init_1309 : decode cX12_init 1309 = .ok (.putfield 312, 3) := by decide +kernel
theorem dX12_init_1312 : decode cX12_init 1312 = .ok (.aload_n 0, 1) := by decide +kernel
theorem dX12_init_1313 : decode cX12_init 1313 = .ok (.sipush 4000, 3) := by decide +kernel
theorem dX12_init_1316 : decode cX12_init 1316 = .ok (.newarray .long, 2) := by decide +kernel
theorem dX12_init_1318 : decode cX12_init 1318 = .ok (.putfield 315, 3) := by decide +kernel
theorem dX12_init_1321 : decode cX12_init 1321 = .ok (.aload_n 0, 1) := by decide +kernel
theorem dX12_init_1322 : decode cX12_init 1322 = .ok (.sipush 4000, 3) := by decide +kernel
theorem dX12_init_1325 : decode cX12_init 1325 = .ok (.newarray .int, 2) := by decide +kernel
theorem dX12_init_1327 : decode cX12_init 1327 = .ok (.putfield 318, 3) := by decide +kernel
theorem dX12_init_1330 : decode cX12_init 1330 = .ok (.aload_n 0, 1) := by decide +kernel
theorem dX12_init_1331 : decode cX12_init 1331 = .ok (.sipush 4000, 3) := by decide +kernel
theorem dX12_init_1334 : decode cX12_init 1334 = .ok (.newarray .int, 2) := by decide +kernel
theorem dX12_init_1336 : decode cX12_init 1336 = .ok (.putfield 321, 3) := by decide +kernel
theorem dX12_init_1339 : decode cX12_init 1339 = .ok (.aload_n 0, 1) := by decide +kernel
theorem dX12_init_1340 : decode cX12_init 1340 = .ok (.sipush 4000, 3) := by decide +kernel
theorem dX12_init_1343 : decode cX12_init 1343 = .ok (.newarray .int, 2) := by decide +kernel
theorem dX12_init_1345 : decode cX12_init 1345 = .ok (.putfield 324, 3) := by decide +kernel
theorem dX12_init_1348 : decode cX12_init 1348 = .ok (.aload_n 0, 1) := by decide +kernel
theorem dX12_init_1349 : decode cX12_init 1349 = .ok (.sipush 4000, 3) := by decide +kernel
theorem dX12_init_1352 : decode cX12_init 1352 = .ok (.newarray .int, 2) := by decide +kernel
theorem dX12_init_1354 : decode cX12_init 1354 = .ok (.putfield 327, 3) := by decide +kernel
theorem dX12_init_1357 : decode cX12_init 1357 = .ok (.aload_n 0, 1) := by decide +kernel
theorem dX12_init_1358 : decode cX12_init 1358 = .ok (.sipush 2700, 3) := by decide +kernel
theorem dX12_init_1361 : decode cX12_init 1361 = .ok (.newarray .int, 2) := by decide +kernel
theorem dX12_init_1363 : decode cX12_init 1363 = .ok (.putfield 330, 3) := by decide +kernel
theorem dX12_init_1366 : decode cX12_init 1366 = .ok (.aload_n 0, 1) := by decide +kernel
theorem dX12_init_1367 : decode cX12_init 1367 = .ok (.sipush 2700, 3) := by decide +kernel
theorem dX12_init_1370 : decode cX12_init 1370 = .ok (.newarray .int, 2) := by decide +kernel
theorem dX12_init_1372 : decode cX12_init 1372 = .ok (.putfield 333, 3) := by decide +kernel
theorem dX12_init_1375 : decode cX12_init 1375 = .ok (.aload_n 0, 1) := by decide +kernel
theorem dX12_init_1376 : decode cX12_init 1376 = .ok (.sipush 2700, 3) := by decide +kernel
theorem dX12_init_1379 : decode cX12_init 1379 = .ok (.newarray .int, 2) := by decide +kernel
theorem dX12_init_1381 : decode cX12_init 1381 = .ok (.putfield 336, 3) := by decide +kernel
theorem dX12_init_1384 : decode cX12_init 1384 = .ok (.aload_n 0, 1) := by decide +kernel
theorem dX12_init_1385 : decode cX12_init 1385 = .ok (.bipush 40, 2) := by decide +kernel
theorem dX12_init_1387 : decode cX12_init 1387 = .ok (.newarray .int, 2) := by decide +kernel
theorem dX12_init_1389 : decode cX12_init 1389 = .ok (.putfield 339, 3) := by decide +kernel
theorem dX12_init_1392 : decode cX12_init 1392 = .ok (.aload_n 0, 1) := by decide +kernel
theorem dX12_init_1393 : decode cX12_init 1393 = .ok (.bipush 40, 2) := by decide +kernel
theorem dX12_init_1395 : decode cX12_init 1395 = .ok (.newarray .int, 2) := by decide +kernel
theorem dX12_init_1397 : decode cX12_init 1397 = .ok (.putfield 342, 3) := by decide +kernel
theorem dX12_init_1400 : decode cX12_init 1400 = .ok (.aload_n 0, 1) := by decide +kernel
theorem dX12_init_1401 : decode cX12_init 1401 = .ok (.bipush 40, 2) := by decide +kernel
theorem dX12_init_1403 : decode cX12_init 1403 = .ok (.newarray .int, 2) := by decide +kernel
theorem dX12_init_1405 : decode cX12_init 1405 = .ok (.putfield 345, 3) := by decide +kernel
theorem dX12_init_1408 : decode cX12_init 1408 = .ok (.aload_n 0, 1) := by decide +kernel
theorem dX12_init_1409 : decode cX12_init 1409 = .ok (.bipush 40, 2) := by decide +kernel
theorem dX12_init_1411 : decode cX12_init 1411 = .ok (.newarray .int, 2) := by decide +kernel
theorem dX12_init_1413 : decode cX12_init 1413 = .ok (.putfield 348, 3) := by decide +kernel
theorem dX12_init_1416 : decode cX12_init 1416 = .ok (.aload_n 0, 1) := by decide +kernel
theorem dX12_init_1417 : decode cX12_init 1417 = .ok (.bipush 40, 2) := by decide +kernel
theorem dX12_init_1419 : decode cX12_init 1419 = .ok (.newarray .int, 2) := by decide +kernel
theorem dX12_init_1421 : decode cX12_init 1421 = .ok (.putfield 351, 3) := by decide +kernel
theorem dX12_init_1424 : decode cX12_init 1424 = .ok (.aload_n 0, 1) := by decide +kernel
theorem dX12_init_1425 : decode cX12_init 1425 = .ok (.bipush 100, 2) := by decide +kernel
theorem dX12_init_1427 : decode cX12_init 1427 = .ok (.newarray .int, 2) := by decide +kernel
theorem dX12_init_1429 : decode cX12_init 1429 = .ok (.putfield 354, 3) := by decide +kernel
theorem dX12_init_1432 : decode cX12_init 1432 = .ok (.aload_n 0, 1) := by decide +kernel
theorem dX12_init_1433 : decode cX12_init 1433 = .ok (.bipush 100, 2) := by decide +kernel
theorem dX12_init_1435 : decode cX12_init 1435 = .ok (.newarray .int, 2) := by decide +kernel
theorem dX12_init_1437 : decode cX12_init 1437 = .ok (.putfield 357, 3) := by decide +kernel
theorem dX12_init_1440 : decode cX12_init 1440 = .ok (.aload_n 0, 1) := by decide +kernel
theorem dX12_init_1441 : decode cX12_init 1441 = .ok (.bipush 100, 2) := by decide +kernel
theorem dX12_init_1443 : decode cX12_init 1443 = .ok (.newarray .int, 2) := by decide +kernel
theorem dX12_init_1445 : decode cX12_init 1445 = .ok (.putfield 360, 3) := by decide +kernel
theorem dX12_init_1448 : decode cX12_init 1448 = .ok (.aload_n 0, 1) := by decide +kernel
theorem dX12_init_1449 : decode cX12_init 1449 = .ok (.bipush 100, 2) := by decide +kernel
theorem dX12_init_1451 : decode cX12_init 1451 = .ok (.newarray .long, 2) := by decide +kernel
theorem dX12_init_1453 : decode cX12_init 1453 = .ok (.putfield 363, 3) := by decide +kernel
theorem dX12_init_1456 : decode cX12_init 1456 = .ok (.aload_n 0, 1) := by decide +kernel
theorem dX12_init_1457 : decode cX12_init 1457 = .ok (.iconst 0, 1) := by decide +kernel
theorem dX12_init_1458 : decode cX12_init 1458 = .ok (.putfield 366, 3) := by decide +kernel
theorem dX12_init_1461 : decode cX12_init 1461 = .ok (.return_, 1) := by decide +kernel
theorem inX0_init_c0 : ∀ w ∈ wsX00, w ∈ wsX0_init := fun w h => List.mem_cons_of_mem _ (List.mem_append_right _ (h))
theorem inX11_init_c0 : ∀ w ∈ wsX00, w ∈ wsX11_init := fun w h => List.mem_cons_of_mem _ (List.mem_append_left _ (List.mem_append_left _ (List.mem_append_left _ (List.mem_append_right _ (h)))))
theorem inX11_init_c11 : ∀ w ∈ wsX110, w ∈ wsX11_init := fun w h => List.mem_cons_of_mem _ (List.mem_append_left _ (List.mem_append_left _ (List.mem_append_left _ (List.mem_append_left _ (List.mem_append_left _ (List.mem_append_right _ (h)))))))
theorem inX11_init_c3 : ∀ w ∈ wsX30, w ∈ wsX11_init := fun w h => List.mem_cons_of_mem _ (List.mem_append_left _ (List.mem_append_left _ (List.mem_append_left _ (List.mem_append_left _ (List.mem_append_right _ (h))))))
theorem inX11_init_c6 : ∀ w ∈ wsX60, w ∈ wsX11_init := fun w h => List.mem_cons_of_mem _ (List.mem_append_left _ (List.mem_append_left _ (List.mem_append_right _ (h))))
theorem inX11_init_c8 : ∀ w ∈ wsX80, w ∈ wsX11_init := fun w h => List.mem_cons_of_mem _ (List.mem_append_left _ (List.mem_append_right _ (h)))
theorem inX12_init_c12 : ∀ w ∈ wsX120, w ∈ wsX12_init := fun w h => List.mem_cons_of_mem _ (List.mem_append_right _ (h))
theorem inX1_init_c1 : ∀ w ∈ wsX10, w ∈ wsX1_init := fun w h => List.mem_cons_of_mem _ (List.mem_append_right _ (h))
theorem inX3_init_c1 : ∀ w ∈ wsX10, w ∈ wsX3_init := fun w h => List.mem_cons_of_mem _ (List.mem_append_right _ (h))
theorem inX3_init_c3 : ∀ w ∈ wsX30, w ∈ wsX3_init := fun w h => List.mem_cons_of_mem _ (List.mem_append_left _ (List.mem_append_right _ (h)))
theorem inX6_init_c6 : ∀ w ∈ wsX60, w ∈ wsX6_init := fun w h => List.mem_cons_of_mem _ (List.mem_append_right _ (h))
theorem inX8_init_c8 : ∀ w ∈ wsX80, w ∈ wsX8_init := fun w h => List.mem_cons_of_mem _ (List.mem_append_right _ (h))
